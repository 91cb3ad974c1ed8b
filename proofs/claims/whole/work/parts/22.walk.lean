set_option maxHeartbeats 4000000 in
set_option maxRecDepth 100000 in
theorem c_X7_findWay (l : Launch) (B : Nat) (D : va_G) (K : Nat → ClassId) (a1 : Nat) (v2 : Int) (v3 : Int) (h_a1 : is_X5 a1) (i_v2 : inR v2) (i_v3 : inR v3) (M : Mem) (hM : MR M) (Q : Int → Mem → Prop) (hf : f_X7_findWay a1 v2 v3 M Q) : CtZ l yX7_findWay cX7_findWay 10 0 0 B D K [.ref (B + 68), .ref (B + a1), J v2, J v3] M Q := by
  refine ct_z (by decide) (Nat.le_of_ble_eq_true rfl) ?_
  intro p e s m args below meth c hC
  have hC : Cx p s m args meth c D K cX7_findWay 10 RX7 (some .boolean) := hC
  unfold f_X7_findWay at hf
  refine (show G p l e (rmF 0 0) s m args below meth c B D K 10 0 0 (ZZ below args s B D K Q) M 0 [(0, .ref (B + 68)), (1, .ref (B + a1)), (2, J v2), (3, J v3)] [] from ?_)
  refine g_iload_n hC 2 dX7_findWay_0 rfl rfl ?_
  refine g_istore hC [(4, J v2), (0, .ref (B + 68)), (1, .ref (B + a1)), (2, J v2), (3, J v3)] dX7_findWay_1 (by decide) rfl ?_
  refine g_iconst hC dX7_findWay_3 ?_
  refine g_istore hC [(5, J 0), (4, J v2), (0, .ref (B + 68)), (1, .ref (B + a1)), (2, J v2), (3, J v3)] dX7_findWay_4 (by decide) rfl ?_
  refine jn_elim (fun (k : Int → Mem → Prop) => ∀ (v4_1 : Int) (M_2 : Mem), k v4_1 M_2 → (inR v4_1) → (MR M_2) → G p l e (rmF 0 0) s m args below meth c B D K 10 0 0 (ZZ below args s B D K Q) M_2 160 [(3, J v3), (4, J v4_1)] []) hf ?_ ?_
  · intro v4_1 M_2 hf h_v4_1 h_M_2
    refine g_iload hC 1 dX7_findWay_160 rfl ?_
    refine g_iload_n hC 0 dX7_findWay_162 rfl rfl ?_
    refine g_ishr hC dX7_findWay_163 ?_
    refine g_iconst hC dX7_findWay_164 ?_
    refine g_iand hC dX7_findWay_165 ?_
    refine g_iconst hC dX7_findWay_166 ?_
    refine g_icmp_ne hC 174 (bAnd_in _ _) (by unfold inR; omega) dX7_findWay_167 rfl (fun c_3 => ?_) (fun c_3 => ?_)
    · replace hf := hf.1 c_3
      refine g_iconst hC dX7_findWay_174 ?_
      exact g_retz hC (Or.inl rfl) h_M_2 hf dX7_findWay_175
    · replace hf := hf.2 c_3
      refine g_iconst hC dX7_findWay_170 ?_
      refine g_goto hC 175 dX7_findWay_171 rfl ?_
      exact g_retz hC (Or.inr rfl) h_M_2 hf dX7_findWay_175
  · intro J160 hJ160 hf
    refine g_sub [(0, .ref (B + 68)), (1, .ref (B + a1)), (3, J v3), (4, J v2), (5, J 0)] [2, 3, 5, 1, 0] rfl ?_
    refine wl3_elim (fun (v4_4 : Int) (v5_5 : Int) (M_6 : Mem) => inR v4_4 → inR v5_5 → MR M_6 → G p l e (rmF 0 0) s m args below meth c B D K 10 0 0 (ZZ below args s B D K Q) M_6 6 [(0, .ref (B + 68)), (1, .ref (B + a1)), (3, J v3), (4, J v4_4), (5, J v5_5)] []) ?_ 5000 v2 0 M hf i_v2 (by unfold inR; omega) hM
    intro rec6 ih6 v4_4 v5_5 M_6 hf h_v4_4 h_v5_5 h_M_6
    unfold X7_findWay_b6 at hf
    refine g_iload hC 4 dX7_findWay_6 rfl ?_
    refine g_aload_n hC 1 dX7_findWay_8 rfl rfl ?_
    refine g_geti hC okX5 (sh_X5 h_a1) 0 (by decide) rfl wf_X7_66 dX7_findWay_9 ?_
    refine g_icmp_ge hC 160 h_v5_5 (h_M_6 _ _) dX7_findWay_12 rfl (fun c_33 => ?_) (fun c_33 => ?_)
    · replace hf := hf.1 c_33
      refine g_sub [(3, J v3), (4, J v4_4)] [2, 3] rfl ?_
      exact hJ160 v4_4 M_6 hf h_v4_4 h_M_6
    · replace hf := hf.2 c_33
      refine g_iload hC 3 dX7_findWay_15 rfl ?_
      refine g_istore hC [(6, J v4_4), (0, .ref (B + 68)), (1, .ref (B + a1)), (3, J v3), (4, J v4_4), (5, J v5_5)] dX7_findWay_17 (by decide) rfl ?_
      refine g_iconst hC dX7_findWay_19 ?_
      refine g_istore hC [(7, J 0), (6, J v4_4), (0, .ref (B + 68)), (1, .ref (B + a1)), (3, J v3), (4, J v4_4), (5, J v5_5)] dX7_findWay_20 (by decide) rfl ?_
      refine jn_elim (fun (k : Int → Mem → Prop) => ∀ (v4_7 : Int) (M_8 : Mem), k v4_7 M_8 → (inR v4_7) → (MR M_8) → G p l e (rmF 0 0) s m args below meth c B D K 10 0 0 (ZZ below args s B D K Q) M_8 134 [(0, .ref (B + 68)), (1, .ref (B + a1)), (3, J v3), (4, J v4_7), (5, J v5_5), (6, J v4_4)] []) hf ?_ ?_
      · intro v4_7 M_8 hf h_v4_7 h_M_8
        refine g_iload hC 3 dX7_findWay_134 rfl ?_
        refine g_iload hC 5 dX7_findWay_136 rfl ?_
        refine g_icmp_eq hC 160 h_v4_7 h_v4_4 dX7_findWay_138 rfl (fun c_12 => ?_) (fun c_12 => ?_)
        · replace hf := hf.1 c_12
          refine g_sub [(3, J v3), (4, J v4_7)] [2, 3] rfl ?_
          exact hJ160 v4_7 M_8 hf h_v4_7 h_M_8
        · replace hf := hf.2 c_12
          refine g_iload hC 3 dX7_findWay_141 rfl ?_
          refine g_iload_n hC 2 dX7_findWay_143 rfl rfl ?_
          refine g_ishr hC dX7_findWay_144 ?_
          refine g_iconst hC dX7_findWay_145 ?_
          refine g_iand hC dX7_findWay_146 ?_
          refine g_iconst hC dX7_findWay_147 ?_
          refine g_icmp_ne hC 154 (bAnd_in _ _) (by unfold inR; omega) dX7_findWay_148 rfl (fun c_11 => ?_) (fun c_11 => ?_)
          · replace hf := hf.1 c_11
            obtain ⟨q_10, hf⟩ := hf
            obtain ⟨v5_9, e_v5_9⟩ : ∃ z : Int, z = v5_5 + 1 := ⟨_, rfl⟩
            replace hf := hf v5_9 e_v5_9
            have h_v5_9 : inR v5_9 := by rw [e_v5_9]; exact q_10
            refine g_iincv hC 4 e_v5_9 [(5, J v5_9), (0, .ref (B + 68)), (1, .ref (B + a1)), (3, J v3), (4, J v4_7), (6, J v4_4)] dX7_findWay_154 rfl (by decide) rfl ?_
            refine g_goto hC 6 dX7_findWay_157 rfl ?_
            refine g_sub [(0, .ref (B + 68)), (1, .ref (B + a1)), (3, J v3), (4, J v4_7), (5, J v5_9)] [1, 2, 3, 4, 0] rfl ?_
            exact ih6 v4_7 v5_9 M_8 hf h_v4_7 h_v5_9 h_M_8
          · replace hf := hf.2 c_11
            refine g_goto hC 160 dX7_findWay_151 rfl ?_
            refine g_sub [(3, J v3), (4, J v4_7)] [2, 3] rfl ?_
            exact hJ160 v4_7 M_8 hf h_v4_7 h_M_8
      · intro J134 hJ134 hf
        refine g_sub [(0, .ref (B + 68)), (1, .ref (B + a1)), (3, J v3), (4, J v4_4), (5, J v5_5), (6, J v4_4), (7, J 0)] [2, 3, 4, 5, 6, 1, 0] rfl ?_
        refine wl3_elim (fun (v4_13 : Int) (v7_14 : Int) (M_15 : Mem) => inR v4_13 → inR v7_14 → MR M_15 → G p l e (rmF 0 0) s m args below meth c B D K 10 0 0 (ZZ below args s B D K Q) M_15 22 [(0, .ref (B + 68)), (1, .ref (B + a1)), (3, J v3), (4, J v4_13), (5, J v5_5), (6, J v4_4), (7, J v7_14)] []) ?_ 5000 v4_4 0 M_6 hf h_v4_4 (by unfold inR; omega) h_M_6
        intro rec22 ih22 v4_13 v7_14 M_15 hf h_v4_13 h_v7_14 h_M_15
        unfold X7_findWay_b22 at hf
        refine g_iload hC 6 dX7_findWay_22 rfl ?_
        refine g_aload_n hC 1 dX7_findWay_24 rfl rfl ?_
        refine g_geti hC okX5 (sh_X5 h_a1) 1 (by decide) rfl wf_X7_27 dX7_findWay_25 ?_
        refine g_icmp_ge hC 134 h_v7_14 (h_M_15 _ _) dX7_findWay_28 rfl (fun c_32 => ?_) (fun c_32 => ?_)
        · replace hf := hf.1 c_32
          refine g_sub [(0, .ref (B + 68)), (1, .ref (B + a1)), (3, J v3), (4, J v4_13), (5, J v5_5), (6, J v4_4)] [0, 1, 2, 3, 4, 5] rfl ?_
          exact hJ134 v4_13 M_15 hf h_v4_13 h_M_15
        · replace hf := hf.2 c_32
          refine g_aload_n hC 0 dX7_findWay_31 rfl rfl ?_
          refine g_getr hC okX7 sc68 1 (by decide) rfl wf_X7_15 dX7_findWay_32 ?_
          refine g_iload hC 6 dX7_findWay_35 rfl ?_
          obtain ⟨q_16, hf⟩ := hf
          refine g_ialdk (v7_14.toNat) hC sc70 q_16.1 q_16.2 rfl dX7_findWay_37 ?_
          refine jn_elim (fun (k : Int → Prop) => ∀ (s0_17 : Int), k s0_17 → (inR s0_17) → G p l e (rmF 0 0) s m args below meth c B D K 10 0 0 (ZZ below args s B D K Q) M_15 58 [(0, .ref (B + 68)), (1, .ref (B + a1)), (3, J v3), (4, J v4_13), (5, J v5_5), (6, J v4_4), (7, J v7_14)] [J s0_17]) hf ?_ ?_
          · intro s0_17 hf h_s0_17
            refine g_istore hC [(8, J s0_17), (0, .ref (B + 68)), (1, .ref (B + a1)), (3, J v3), (4, J v4_13), (5, J v5_5), (6, J v4_4), (7, J v7_14)] dX7_findWay_58 (by decide) rfl ?_
            refine g_aload_n hC 1 dX7_findWay_60 rfl rfl ?_
            refine g_getr hC okX7 sc68 1 (by decide) rfl wf_X7_15 dX7_findWay_61 ?_
            refine g_iload hC 7 dX7_findWay_64 rfl ?_
            refine g_ialdk (v7_14.toNat) hC sc70 q_16.1 q_16.2 rfl dX7_findWay_66 ?_
            refine jn_elim (fun (k : Int → Prop) => ∀ (s0_18 : Int), k s0_18 → (inR s0_18) → G p l e (rmF 0 0) s m args below meth c B D K 10 0 0 (ZZ below args s B D K Q) M_15 87 [(0, .ref (B + 68)), (1, .ref (B + a1)), (3, J v3), (4, J v4_13), (5, J v5_5), (6, J v4_4), (7, J v7_14), (8, J s0_17)] [J s0_18]) hf ?_ ?_
            · intro s0_18 hf h_s0_18
              refine g_istore hC [(9, J s0_18), (0, .ref (B + 68)), (1, .ref (B + a1)), (3, J v3), (4, J v4_13), (5, J v5_5), (6, J v4_4), (7, J v7_14), (8, J s0_17)] dX7_findWay_87 (by decide) rfl ?_
              refine g_iload hC 4 dX7_findWay_89 rfl ?_
              refine g_iload hC 8 dX7_findWay_91 rfl ?_
              refine g_ishr hC dX7_findWay_93 ?_
              refine g_iconst hC dX7_findWay_94 ?_
              refine g_iand hC dX7_findWay_95 ?_
              refine g_iconst hC dX7_findWay_96 ?_
              refine g_icmp_ne hC 128 (bAnd_in _ _) (by unfold inR; omega) dX7_findWay_97 rfl (fun c_29 => ?_) (fun c_29 => ?_)
              · replace hf := hf.1 c_29
                obtain ⟨q_20, hf⟩ := hf
                obtain ⟨v7_19, e_v7_19⟩ : ∃ z : Int, z = v7_14 + 1 := ⟨_, rfl⟩
                replace hf := hf v7_19 e_v7_19
                have h_v7_19 : inR v7_19 := by rw [e_v7_19]; exact q_20
                refine g_iincv hC 7 e_v7_19 [(7, J v7_19), (9, J s0_18), (0, .ref (B + 68)), (1, .ref (B + a1)), (3, J v3), (4, J v4_13), (5, J v5_5), (6, J v4_4), (8, J s0_17)] dX7_findWay_128 rfl (by decide) rfl ?_
                refine g_goto hC 22 dX7_findWay_131 rfl ?_
                refine g_sub [(0, .ref (B + 68)), (1, .ref (B + a1)), (3, J v3), (4, J v4_13), (5, J v5_5), (6, J v4_4), (7, J v7_19)] [2, 3, 4, 5, 6, 7, 0] rfl ?_
                exact ih22 v4_13 v7_19 M_15 hf h_v4_13 h_v7_19 h_M_15
              · replace hf := hf.2 c_29
                refine g_iload hC 4 dX7_findWay_100 rfl ?_
                refine g_iload hC 0 dX7_findWay_102 rfl ?_
                refine g_ishr hC dX7_findWay_104 ?_
                refine g_iconst hC dX7_findWay_105 ?_
                refine g_iand hC dX7_findWay_106 ?_
                refine g_if_ne hC 128 (bAnd_in _ _) dX7_findWay_107 rfl (fun c_28 => ?_) (fun c_28 => ?_)
                · replace hf := hf.1 c_28
                  obtain ⟨q_22, hf⟩ := hf
                  obtain ⟨v7_21, e_v7_21⟩ : ∃ z : Int, z = v7_14 + 1 := ⟨_, rfl⟩
                  replace hf := hf v7_21 e_v7_21
                  have h_v7_21 : inR v7_21 := by rw [e_v7_21]; exact q_22
                  refine g_iincv hC 7 e_v7_21 [(7, J v7_21), (9, J s0_18), (0, .ref (B + 68)), (1, .ref (B + a1)), (3, J v3), (4, J v4_13), (5, J v5_5), (6, J v4_4), (8, J s0_17)] dX7_findWay_128 rfl (by decide) rfl ?_
                  refine g_goto hC 22 dX7_findWay_131 rfl ?_
                  refine g_sub [(0, .ref (B + 68)), (1, .ref (B + a1)), (3, J v3), (4, J v4_13), (5, J v5_5), (6, J v4_4), (7, J v7_21)] [2, 3, 4, 5, 6, 7, 0] rfl ?_
                  exact ih22 v4_13 v7_21 M_15 hf h_v4_13 h_v7_21 h_M_15
                · replace hf := hf.2 c_28
                  refine g_iload hC 4 dX7_findWay_110 rfl ?_
                  refine g_iconst hC dX7_findWay_112 ?_
                  refine g_iload hC 0 dX7_findWay_113 rfl ?_
                  refine g_ishl hC dX7_findWay_115 ?_
                  refine g_ior hC dX7_findWay_116 ?_
                  refine g_nm (fun v4_23 e_v4_23 => ?_)
                  replace hf := hf v4_23 e_v4_23
                  have h_v4_23 : inR v4_23 := by rw [e_v4_23]; exact (bOr_in _ _)
                  refine g_istore hC [(4, J v4_23), (9, J s0_18), (0, .ref (B + 68)), (1, .ref (B + a1)), (3, J v3), (5, J v5_5), (6, J v4_4), (7, J v7_14), (8, J s0_17)] dX7_findWay_117 (by decide) rfl ?_
                  refine g_aload_n hC 2 dX7_findWay_119 rfl rfl ?_
                  refine g_getr hC okX7 sc68 0 (by decide) rfl wf_X7_9 dX7_findWay_120 ?_
                  refine g_iload hC 1 dX7_findWay_123 rfl ?_
                  refine g_iload hC 7 dX7_findWay_125 rfl ?_
                  obtain ⟨q_24, hf⟩ := hf
                  refine g_iastk (s0_18.toNat) hC sc69 q_24.1 q_24.2 rfl dX7_findWay_127 ?_
                  refine g_nmM (fun M_25 e_M_25 => ?_)
                  replace hf := hf M_25 e_M_25
                  have h_M_25 : MR M_25 := by rw [e_M_25]; exact MR_st h_M_15 h_v7_14
                  obtain ⟨q_27, hf⟩ := hf
                  obtain ⟨v7_26, e_v7_26⟩ : ∃ z : Int, z = v7_14 + 1 := ⟨_, rfl⟩
                  replace hf := hf v7_26 e_v7_26
                  have h_v7_26 : inR v7_26 := by rw [e_v7_26]; exact q_27
                  refine g_iincv hC 7 e_v7_26 [(7, J v7_26), (4, J v4_23), (9, J s0_18), (0, .ref (B + 68)), (1, .ref (B + a1)), (3, J v3), (5, J v5_5), (6, J v4_4), (8, J s0_17)] dX7_findWay_128 rfl (by decide) rfl ?_
                  refine g_goto hC 22 dX7_findWay_131 rfl ?_
                  refine g_sub [(0, .ref (B + 68)), (1, .ref (B + a1)), (3, J v3), (4, J v4_23), (5, J v5_5), (6, J v4_4), (7, J v7_26)] [3, 4, 5, 1, 6, 7, 0] rfl ?_
                  exact ih22 v4_23 v7_26 M_25 hf h_v4_23 h_v7_26 h_M_25
            · intro J87 hJ87 hf
              refine g_if_ne hC 80 (h_M_15 _ _) dX7_findWay_67 rfl (fun c_30 => ?_) (fun c_30 => ?_)
              · replace hf := hf.1 c_30
                refine g_aload_n hC 2 dX7_findWay_80 rfl rfl ?_
                refine g_getr hC okX5 (sh_X5 h_a1) 2 (by decide) rfl wf_X7_41 dX7_findWay_81 ?_
                refine g_iload hC 7 dX7_findWay_84 rfl ?_
                refine g_ialdk (v7_14.toNat) hC (sh_X5_2 h_a1) q_16.1 q_16.2 rfl dX7_findWay_86 ?_
                refine g_sub [(0, .ref (B + 68)), (1, .ref (B + a1)), (3, J v3), (4, J v4_13), (5, J v5_5), (6, J v4_4), (7, J v7_14), (8, J s0_17)] [1, 2, 3, 4, 5, 6, 7, 0] rfl ?_
                exact hJ87 (M_15 (a1 + 1) (v7_14.toNat)) hf (h_M_15 _ _)
              · replace hf := hf.2 c_30
                refine g_aload_n hC 2 dX7_findWay_70 rfl rfl ?_
                refine g_getr hC okX5 (sh_X5 h_a1) 3 (by decide) rfl wf_X7_38 dX7_findWay_71 ?_
                refine g_iload hC 7 dX7_findWay_74 rfl ?_
                refine g_ialdk (v7_14.toNat) hC (sh_X5_3 h_a1) q_16.1 q_16.2 rfl dX7_findWay_76 ?_
                refine g_goto hC 87 dX7_findWay_77 rfl ?_
                refine g_sub [(0, .ref (B + 68)), (1, .ref (B + a1)), (3, J v3), (4, J v4_13), (5, J v5_5), (6, J v4_4), (7, J v7_14), (8, J s0_17)] [1, 2, 3, 4, 5, 6, 7, 0] rfl ?_
                exact hJ87 (M_15 (a1 + 2) (v7_14.toNat)) hf (h_M_15 _ _)
          · intro J58 hJ58 hf
            refine g_if_ne hC 51 (h_M_15 _ _) dX7_findWay_38 rfl (fun c_31 => ?_) (fun c_31 => ?_)
            · replace hf := hf.1 c_31
              refine g_aload_n hC 1 dX7_findWay_51 rfl rfl ?_
              refine g_getr hC okX5 (sh_X5 h_a1) 3 (by decide) rfl wf_X7_38 dX7_findWay_52 ?_
              refine g_iload hC 6 dX7_findWay_55 rfl ?_
              refine g_ialdk (v7_14.toNat) hC (sh_X5_3 h_a1) q_16.1 q_16.2 rfl dX7_findWay_57 ?_
              refine g_sub [(0, .ref (B + 68)), (1, .ref (B + a1)), (3, J v3), (4, J v4_13), (5, J v5_5), (6, J v4_4), (7, J v7_14)] [0, 1, 2, 3, 4, 5, 6] rfl ?_
              exact hJ58 (M_15 (a1 + 2) (v7_14.toNat)) hf (h_M_15 _ _)
            · replace hf := hf.2 c_31
              refine g_aload_n hC 1 dX7_findWay_41 rfl rfl ?_
              refine g_getr hC okX5 (sh_X5 h_a1) 2 (by decide) rfl wf_X7_41 dX7_findWay_42 ?_
              refine g_iload hC 6 dX7_findWay_45 rfl ?_
              refine g_ialdk (v7_14.toNat) hC (sh_X5_2 h_a1) q_16.1 q_16.2 rfl dX7_findWay_47 ?_
              refine g_goto hC 58 dX7_findWay_48 rfl ?_
              refine g_sub [(0, .ref (B + 68)), (1, .ref (B + a1)), (3, J v3), (4, J v4_13), (5, J v5_5), (6, J v4_4), (7, J v7_14)] [0, 1, 2, 3, 4, 5, 6] rfl ?_
              exact hJ58 (M_15 (a1 + 1) (v7_14.toNat)) hf (h_M_15 _ _)
set_option maxHeartbeats 4000000 in
set_option maxRecDepth 100000 in
theorem c_X7_useWay (l : Launch) (B : Nat) (D : va_G) (K : Nat → ClassId) (a1 : Nat) (v2 : Int) (v3 : Int) (h_a1 : is_X5 a1) (i_v2 : inR v2) (i_v3 : inR v3) (M : Mem) (hM : MR M) (Q : Mem → Prop) (hf : f_X7_useWay a1 v2 v3 M Q) : CtV l yX7_useWay cX7_useWay 7 0 0 B D K [.ref (B + 68), .ref (B + a1), J v2, J v3] M Q := by
  refine ct_v (by decide) (Nat.le_of_ble_eq_true rfl) ?_
  intro p e s m args below meth c hC
  have hC : Cx p s m args meth c D K cX7_useWay 7 RX7 none := hC
  unfold f_X7_useWay at hf
  refine (show G p l e (rmF 0 0) s m args below meth c B D K 7 0 0 (ZV below args s B D K Q) M 0 [(0, .ref (B + 68)), (1, .ref (B + a1)), (2, J v2), (3, J v3)] [] from ?_)
  refine g_iload_n hC 3 dX7_useWay_0 rfl rfl ?_
  refine g_istore hC [(4, J v3), (0, .ref (B + 68)), (1, .ref (B + a1)), (2, J v2), (3, J v3)] dX7_useWay_1 (by decide) rfl ?_
  refine g_iconst hC dX7_useWay_3 ?_
  refine g_istore hC [(5, J 0), (4, J v3), (0, .ref (B + 68)), (1, .ref (B + a1)), (2, J v2), (3, J v3)] dX7_useWay_4 (by decide) rfl ?_
  refine g_sub [(0, .ref (B + 68)), (1, .ref (B + a1)), (2, J v2), (4, J v3), (5, J 0)] [2, 3, 4, 1, 0] rfl ?_
  refine wl3_elim (fun (v4_1 : Int) (v5_2 : Int) (M_3 : Mem) => inR v4_1 → inR v5_2 → MR M_3 → G p l e (rmF 0 0) s m args below meth c B D K 7 0 0 (ZV below args s B D K Q) M_3 6 [(0, .ref (B + 68)), (1, .ref (B + a1)), (2, J v2), (4, J v4_1), (5, J v5_2)] []) ?_ 5000 v3 0 M hf i_v3 (by unfold inR; omega) hM
  intro rec6 ih6 v4_1 v5_2 M_3 hf h_v4_1 h_v5_2 h_M_3
  unfold X7_useWay_b6 at hf
  refine g_iload hC 4 dX7_useWay_6 rfl ?_
  refine g_aload_n hC 1 dX7_useWay_8 rfl rfl ?_
  refine g_geti hC okX5 (sh_X5 h_a1) 0 (by decide) rfl wf_X7_66 dX7_useWay_9 ?_
  refine g_icmp_ge hC 84 h_v5_2 (h_M_3 _ _) dX7_useWay_12 rfl (fun c_14 => ?_) (fun c_14 => ?_)
  · replace hf := hf.1 c_14
    exact g_retv hC h_M_3 hf dX7_useWay_84
  · replace hf := hf.2 c_14
    refine g_iload_n hC 2 dX7_useWay_15 rfl rfl ?_
    refine g_iload hC 3 dX7_useWay_16 rfl ?_
    refine g_ishr hC dX7_useWay_18 ?_
    refine g_iconst hC dX7_useWay_19 ?_
    refine g_iand hC dX7_useWay_20 ?_
    refine g_if_ne hC 84 (bAnd_in _ _) dX7_useWay_21 rfl (fun c_13 => ?_) (fun c_13 => ?_)
    · replace hf := hf.1 c_13
      exact g_retv hC h_M_3 hf dX7_useWay_84
    · replace hf := hf.2 c_13
      refine g_aload_n hC 0 dX7_useWay_24 rfl rfl ?_
      refine g_getr hC okX7 sc68 0 (by decide) rfl wf_X7_9 dX7_useWay_25 ?_
      refine g_iload hC 3 dX7_useWay_28 rfl ?_
      obtain ⟨q_4, hf⟩ := hf
      refine g_ialdk (v4_1.toNat) hC sc69 q_4.1 q_4.2 rfl dX7_useWay_30 ?_
      refine g_nm (fun v6_5 e_v6_5 => ?_)
      replace hf := hf v6_5 e_v6_5
      have h_v6_5 : inR v6_5 := by rw [e_v6_5]; exact (h_M_3 _ _)
      refine g_istore hC [(6, J v6_5), (0, .ref (B + 68)), (1, .ref (B + a1)), (2, J v2), (4, J v4_1), (5, J v5_2)] dX7_useWay_31 (by decide) rfl ?_
      refine g_aload_n hC 1 dX7_useWay_33 rfl rfl ?_
      refine g_getr hC okX7 sc68 1 (by decide) rfl wf_X7_15 dX7_useWay_34 ?_
      refine g_iload hC 0 dX7_useWay_37 rfl ?_
      obtain ⟨q_6, hf⟩ := hf
      refine g_ialdk (v6_5.toNat) hC sc70 q_6.1 q_6.2 rfl dX7_useWay_39 ?_
      refine jn_elim (fun (k : Int → Prop) => ∀ (s0_7 : Int), k s0_7 → (inR s0_7) → G p l e (rmF 0 0) s m args below meth c B D K 7 0 0 (ZV below args s B D K Q) M_3 60 [(0, .ref (B + 68)), (1, .ref (B + a1)), (2, J v2), (5, J v5_2), (6, J v6_5)] [J s0_7]) hf ?_ ?_
      · intro s0_7 hf h_s0_7
        refine g_istore hC [(4, J s0_7), (0, .ref (B + 68)), (1, .ref (B + a1)), (2, J v2), (5, J v5_2), (6, J v6_5)] dX7_useWay_60 (by decide) rfl ?_
        refine g_aload_n hC 1 dX7_useWay_62 rfl rfl ?_
        refine g_getr hC okX7 sc68 1 (by decide) rfl wf_X7_15 dX7_useWay_63 ?_
        refine g_iload hC 5 dX7_useWay_66 rfl ?_
        refine g_iconst hC dX7_useWay_68 ?_
        refine g_aload_n hC 1 dX7_useWay_69 rfl rfl ?_
        refine g_getr hC okX7 sc68 1 (by decide) rfl wf_X7_15 dX7_useWay_70 ?_
        refine g_iload hC 5 dX7_useWay_73 rfl ?_
        refine g_ialdk (v6_5.toNat) hC sc70 q_6.1 q_6.2 rfl dX7_useWay_75 ?_
        refine g_isub hC dX7_useWay_76 ?_
        obtain ⟨q_8, hf⟩ := hf
        refine g_iastk (v6_5.toNat) hC sc70 q_6.1 q_6.2 rfl dX7_useWay_77 ?_
        refine g_nmM (fun M_9 e_M_9 => ?_)
        replace hf := hf M_9 e_M_9
        have h_M_9 : MR M_9 := by rw [e_M_9]; exact MR_st h_M_3 q_8
        obtain ⟨q_11, hf⟩ := hf
        obtain ⟨v5_10, e_v5_10⟩ : ∃ z : Int, z = v5_2 + 1 := ⟨_, rfl⟩
        replace hf := hf v5_10 e_v5_10
        have h_v5_10 : inR v5_10 := by rw [e_v5_10]; exact q_11
        refine g_iincv hC 4 e_v5_10 [(5, J v5_10), (4, J s0_7), (0, .ref (B + 68)), (1, .ref (B + a1)), (2, J v2), (6, J v6_5)] dX7_useWay_78 rfl (by decide) rfl ?_
        refine g_goto hC 6 dX7_useWay_81 rfl ?_
        refine g_sub [(0, .ref (B + 68)), (1, .ref (B + a1)), (2, J v2), (4, J s0_7), (5, J v5_10)] [2, 3, 4, 1, 0] rfl ?_
        exact ih6 s0_7 v5_10 M_9 hf h_s0_7 h_v5_10 h_M_9
      · intro J60 hJ60 hf
        refine g_if_ne hC 53 (h_M_3 _ _) dX7_useWay_40 rfl (fun c_12 => ?_) (fun c_12 => ?_)
        · replace hf := hf.1 c_12
          refine g_aload_n hC 2 dX7_useWay_53 rfl rfl ?_
          refine g_getr hC okX5 (sh_X5 h_a1) 3 (by decide) rfl wf_X7_38 dX7_useWay_54 ?_
          refine g_iload hC 0 dX7_useWay_57 rfl ?_
          refine g_ialdk (v6_5.toNat) hC (sh_X5_3 h_a1) q_6.1 q_6.2 rfl dX7_useWay_59 ?_
          refine g_sub [(0, .ref (B + 68)), (1, .ref (B + a1)), (2, J v2), (5, J v5_2), (6, J v6_5)] [1, 2, 3, 5, 0] rfl ?_
          exact hJ60 (M_3 (a1 + 2) (v6_5.toNat)) hf (h_M_3 _ _)
        · replace hf := hf.2 c_12
          refine g_aload_n hC 2 dX7_useWay_43 rfl rfl ?_
          refine g_getr hC okX5 (sh_X5 h_a1) 2 (by decide) rfl wf_X7_41 dX7_useWay_44 ?_
          refine g_iload hC 0 dX7_useWay_47 rfl ?_
          refine g_ialdk (v6_5.toNat) hC (sh_X5_2 h_a1) q_6.1 q_6.2 rfl dX7_useWay_49 ?_
          refine g_goto hC 60 dX7_useWay_50 rfl ?_
          refine g_sub [(0, .ref (B + 68)), (1, .ref (B + a1)), (2, J v2), (5, J v5_2), (6, J v6_5)] [1, 2, 3, 5, 0] rfl ?_
          exact hJ60 (M_3 (a1 + 1) (v6_5.toNat)) hf (h_M_3 _ _)
set_option maxHeartbeats 4000000 in
set_option maxRecDepth 100000 in
theorem c_X7_howManyApart (l : Launch) (B : Nat) (D : va_G) (K : Nat → ClassId) (a1 : Nat) (v2 : Int) (v3 : Int) (h_a1 : is_X5 a1) (i_v2 : inR v2) (i_v3 : inR v3) (M : Mem) (hM : MR M) (Q : Int → Mem → Prop) (hf : f_X7_howManyApart a1 v2 v3 M Q) : CtI l yX7_howManyApart cX7_howManyApart 6 1 29 B D K [.ref (B + 68), .ref (B + a1), J v2, J v3] M Q := by
  refine ct_i (by decide) (Nat.le_of_ble_eq_true rfl) ?_
  intro p e s m args below meth c hC
  have hC : Cx p s m args meth c D K cX7_howManyApart 6 RX7 (some .int) := hC
  unfold f_X7_howManyApart at hf
  refine (show G p l e (rmF 1 29) s m args below meth c B D K 6 0 0 (ZI below args s B D K Q) M 0 [(0, .ref (B + 68)), (1, .ref (B + a1)), (2, J v2), (3, J v3)] [] from ?_)
  refine g_aload_n hC 0 dX7_howManyApart_0 rfl rfl ?_
  refine g_getr hC okX7 sc68 1 (by decide) rfl wf_X7_15 dX7_howManyApart_1 ?_
  refine g_iconst hC dX7_howManyApart_4 ?_
  refine g_callSV hC (sk := []) [.ref (B + 70), J 0] (c_fill l B D K 70 _ sc70 0 (by unfold inR; omega) M hM) yv_J7_fill_53178 wm_X7_21 rfl ⟨Nat.le_of_ble_eq_true rfl, Nat.le_of_ble_eq_true rfl, Nat.le_of_ble_eq_true rfl, Nat.le_of_ble_eq_true rfl⟩ rfl (Nat.le_of_ble_eq_true rfl) dX7_howManyApart_5 ?_
  intro M_1 h_M_1 e_M_1
  replace hf := hf M_1 e_M_1
  refine g_iconst hC dX7_howManyApart_8 ?_
  refine g_istore hC [(4, J 0), (0, .ref (B + 68)), (1, .ref (B + a1)), (2, J v2), (3, J v3)] dX7_howManyApart_9 (by decide) rfl ?_
  refine g_iconst hC dX7_howManyApart_11 ?_
  refine g_istore hC [(5, J 0), (4, J 0), (0, .ref (B + 68)), (1, .ref (B + a1)), (2, J v2), (3, J v3)] dX7_howManyApart_12 (by decide) rfl ?_
  refine g_sub [(0, .ref (B + 68)), (1, .ref (B + a1)), (2, J v2), (3, J v3), (4, J 0), (5, J 0)] [2, 3, 4, 5, 1, 0] rfl ?_
  refine wl3_elim (fun (v4_2 : Int) (v5_3 : Int) (M_4 : Mem) => inR v4_2 → inR v5_3 → MR M_4 → G p l e (rmF 1 29) s m args below meth c B D K 6 0 0 (ZI below args s B D K Q) M_4 14 [(0, .ref (B + 68)), (1, .ref (B + a1)), (2, J v2), (3, J v3), (4, J v4_2), (5, J v5_3)] []) ?_ 5000 0 0 M_1 hf (by unfold inR; omega) (by unfold inR; omega) h_M_1
  intro rec14 ih14 v4_2 v5_3 M_4 hf h_v4_2 h_v5_3 h_M_4
  unfold X7_howManyApart_b14 at hf
  refine g_iload hC 5 dX7_howManyApart_14 rfl ?_
  refine g_aload_n hC 1 dX7_howManyApart_16 rfl rfl ?_
  refine g_geti hC okX5 (sh_X5 h_a1) 1 (by decide) rfl wf_X7_27 dX7_howManyApart_17 ?_
  refine g_icmp_ge hC 52 h_v5_3 (h_M_4 _ _) dX7_howManyApart_20 rfl (fun c_13 => ?_) (fun c_13 => ?_)
  · replace hf := hf.1 c_13
    refine g_iload hC 4 dX7_howManyApart_52 rfl ?_
    exact g_reti hC h_v4_2 h_M_4 hf dX7_howManyApart_54
  · replace hf := hf.2 c_13
    refine g_aload_n hC 0 dX7_howManyApart_23 rfl rfl ?_
    refine g_aload_n hC 1 dX7_howManyApart_24 rfl rfl ?_
    refine g_iload_n hC 2 dX7_howManyApart_25 rfl rfl ?_
    refine g_iload_n hC 3 dX7_howManyApart_26 rfl rfl ?_
    refine g_callVZ hC (sk := []) [.ref (B + a1), J v2, J v3] (c_X7_findWay l B D K a1 v2 v3 h_a1 i_v2 i_v3 M_4 h_M_4 _ hf) yv_X7_findWay wm_X7_58 okX7.1 sc68 rfl ⟨Nat.le_of_ble_eq_true rfl, Nat.le_of_ble_eq_true rfl, Nat.le_of_ble_eq_true rfl, Nat.le_of_ble_eq_true rfl⟩ rfl (Nat.le_of_ble_eq_true rfl) dX7_howManyApart_27 ?_
    intro r_5 M_6 h_r_5 h_M_6 hf
    refine g_if_ne hC 36 (zi_ h_r_5) dX7_howManyApart_30 rfl (fun c_12 => ?_) (fun c_12 => ?_)
    · replace hf := hf.1 c_12
      refine g_aload_n hC 0 dX7_howManyApart_36 rfl rfl ?_
      refine g_aload_n hC 1 dX7_howManyApart_37 rfl rfl ?_
      refine g_iload_n hC 2 dX7_howManyApart_38 rfl rfl ?_
      refine g_iload_n hC 3 dX7_howManyApart_39 rfl rfl ?_
      refine g_callVV hC (sk := []) [.ref (B + a1), J v2, J v3] (c_X7_useWay l B D K a1 v2 v3 h_a1 i_v2 i_v3 M_6 h_M_6 _ hf) yv_X7_useWay wm_X7_62 okX7.1 sc68 rfl ⟨Nat.le_of_ble_eq_true rfl, Nat.le_of_ble_eq_true rfl, Nat.le_of_ble_eq_true rfl, Nat.le_of_ble_eq_true rfl⟩ rfl (Nat.le_of_ble_eq_true rfl) dX7_howManyApart_40 ?_
      intro M_7 h_M_7 hf
      obtain ⟨q_9, hf⟩ := hf
      obtain ⟨v4_8, e_v4_8⟩ : ∃ z : Int, z = v4_2 + 1 := ⟨_, rfl⟩
      replace hf := hf v4_8 e_v4_8
      have h_v4_8 : inR v4_8 := by rw [e_v4_8]; exact q_9
      refine g_iincv hC 4 e_v4_8 [(4, J v4_8), (0, .ref (B + 68)), (1, .ref (B + a1)), (2, J v2), (3, J v3), (5, J v5_3)] dX7_howManyApart_43 rfl (by decide) rfl ?_
      obtain ⟨q_11, hf⟩ := hf
      obtain ⟨v5_10, e_v5_10⟩ : ∃ z : Int, z = v5_3 + 1 := ⟨_, rfl⟩
      replace hf := hf v5_10 e_v5_10
      have h_v5_10 : inR v5_10 := by rw [e_v5_10]; exact q_11
      refine g_iincv hC 5 e_v5_10 [(5, J v5_10), (4, J v4_8), (0, .ref (B + 68)), (1, .ref (B + a1)), (2, J v2), (3, J v3)] dX7_howManyApart_46 rfl (by decide) rfl ?_
      refine g_goto hC 14 dX7_howManyApart_49 rfl ?_
      refine g_sub [(0, .ref (B + 68)), (1, .ref (B + a1)), (2, J v2), (3, J v3), (4, J v4_8), (5, J v5_10)] [2, 3, 4, 5, 1, 0] rfl ?_
      exact ih14 v4_8 v5_10 M_7 hf h_v4_8 h_v5_10 h_M_7
    · replace hf := hf.2 c_12
      refine g_goto hC 52 dX7_howManyApart_33 rfl ?_
      refine g_iload hC 4 dX7_howManyApart_52 rfl ?_
      exact g_reti hC h_v4_2 h_M_6 hf dX7_howManyApart_54
set_option maxHeartbeats 4000000 in
set_option maxRecDepth 100000 in
theorem c_X7_hourAt (l : Launch) (B : Nat) (D : va_G) (K : Nat → ClassId) (a0 : Nat) (a1 : Nat) (v2 : Int) (v3 : Int) (h_a0 : is_X5 a0) (h_a1 : isIA a1) (i_v2 : inR v2) (i_v3 : inR v3) (M : Mem) (hM : MR M) (Q : Int → Prop) (hf : f_X7_hourAt a0 a1 v2 v3 M Q) : CtI l yX7_hourAt cX7_hourAt 8 0 0 B D K [.ref (B + a0), .ref (B + a1), J v2, J v3] M (fun r M1 => M = M1 ∧ Q r) := by
  refine ct_i (by decide) (Nat.le_of_ble_eq_true rfl) ?_
  intro p e s m args below meth c hC
  have hC : Cx p s m args meth c D K cX7_hourAt 8 RX7 (some .int) := hC
  unfold f_X7_hourAt at hf
  refine (show G p l e (rmF 0 0) s m args below meth c B D K 8 0 0 (ZI below args s B D K (fun r M1 => M = M1 ∧ Q r)) M 0 [(0, .ref (B + a0)), (1, .ref (B + a1)), (2, J v2), (3, J v3)] [] from ?_)
  refine g_iload_n hC 2 dX7_hourAt_0 rfl rfl ?_
  refine g_istore hC [(4, J v2), (0, .ref (B + a0)), (1, .ref (B + a1)), (2, J v2), (3, J v3)] dX7_hourAt_1 (by decide) rfl ?_
  refine g_iconst hC dX7_hourAt_3 ?_
  refine g_istore hC [(5, J 0), (4, J v2), (0, .ref (B + a0)), (1, .ref (B + a1)), (2, J v2), (3, J v3)] dX7_hourAt_4 (by decide) rfl ?_
  refine g_iconst hC dX7_hourAt_6 ?_
  refine g_istore hC [(6, J 0), (5, J 0), (4, J v2), (0, .ref (B + a0)), (1, .ref (B + a1)), (2, J v2), (3, J v3)] dX7_hourAt_7 (by decide) rfl ?_
  refine jn_elim (fun (k : Int → Int → Prop) => ∀ (v4_1 : Int) (v5_2 : Int), k v4_1 v5_2 → (inR v4_1) → (inR v5_2) → G p l e (rmF 0 0) s m args below meth c B D K 8 0 0 (ZI below args s B D K (fun r M1 => M = M1 ∧ Q r)) M 65 [(3, J v3), (4, J v4_1), (5, J v5_2)] []) hf ?_ ?_
  · intro v4_1 v5_2 hf h_v4_1 h_v5_2
    refine g_iload hC 1 dX7_hourAt_65 rfl ?_
    refine g_iload_n hC 0 dX7_hourAt_67 rfl rfl ?_
    refine g_icmp_ne hC 76 h_v4_1 i_v3 dX7_hourAt_68 rfl (fun c_3 => ?_) (fun c_3 => ?_)
    · replace hf := hf.1 c_3
      refine g_iconst hC dX7_hourAt_76 ?_
      exact g_reti hC (by unfold inR; omega) hM ⟨rfl, hf⟩ dX7_hourAt_77
    · replace hf := hf.2 c_3
      refine g_iload hC 2 dX7_hourAt_71 rfl ?_
      refine g_goto hC 77 dX7_hourAt_73 rfl ?_
      exact g_reti hC h_v5_2 hM ⟨rfl, hf⟩ dX7_hourAt_77
  · intro J65 hJ65 hf
    refine g_sub [(0, .ref (B + a0)), (1, .ref (B + a1)), (3, J v3), (4, J v2), (5, J 0), (6, J 0)] [3, 4, 6, 2, 1, 0] rfl ?_
    refine wl3_elim (fun (v4_4 : Int) (v5_5 : Int) (v6_6 : Int) => inR v4_4 → inR v5_5 → inR v6_6 → G p l e (rmF 0 0) s m args below meth c B D K 8 0 0 (ZI below args s B D K (fun r M1 => M = M1 ∧ Q r)) M 9 [(0, .ref (B + a0)), (1, .ref (B + a1)), (3, J v3), (4, J v4_4), (5, J v5_5), (6, J v6_6)] []) ?_ 5000 v2 0 0 hf i_v2 (by unfold inR; omega) (by unfold inR; omega)
    intro rec9 ih9 v4_4 v5_5 v6_6 hf h_v4_4 h_v5_5 h_v6_6
    unfold X7_hourAt_b9 at hf
    refine g_iload hC 5 dX7_hourAt_9 rfl ?_
    refine g_aload_n hC 0 dX7_hourAt_11 rfl rfl ?_
    refine g_geti hC okX5 (sh_X5 h_a0) 0 (by decide) rfl wf_X7_66 dX7_hourAt_12 ?_
    refine g_icmp_ge hC 65 h_v6_6 (hM _ _) dX7_hourAt_15 rfl (fun c_17 => ?_) (fun c_17 => ?_)
    · replace hf := hf.1 c_17
      refine g_sub [(3, J v3), (4, J v4_4), (5, J v5_5)] [2, 3, 4] rfl ?_
      exact hJ65 v4_4 v5_5 hf h_v4_4 h_v5_5
    · replace hf := hf.2 c_17
      refine g_iload hC 3 dX7_hourAt_18 rfl ?_
      refine g_iload_n hC 2 dX7_hourAt_20 rfl rfl ?_
      refine g_icmp_eq hC 65 h_v4_4 i_v3 dX7_hourAt_21 rfl (fun c_16 => ?_) (fun c_16 => ?_)
      · replace hf := hf.1 c_16
        refine g_sub [(3, J v3), (4, J v4_4), (5, J v5_5)] [2, 3, 4] rfl ?_
        exact hJ65 v4_4 v5_5 hf h_v4_4 h_v5_5
      · replace hf := hf.2 c_16
        refine g_aload_n hC 1 dX7_hourAt_24 rfl rfl ?_
        refine g_iload hC 3 dX7_hourAt_25 rfl ?_
        obtain ⟨q_7, hf⟩ := hf
        refine g_ialdk (v4_4.toNat) hC h_a1 q_7.1 q_7.2 rfl dX7_hourAt_27 ?_
        refine g_nm (fun v7_8 e_v7_8 => ?_)
        replace hf := hf v7_8 e_v7_8
        have h_v7_8 : inR v7_8 := by rw [e_v7_8]; exact (hM _ _)
        refine g_istore hC [(7, J v7_8), (0, .ref (B + a0)), (1, .ref (B + a1)), (3, J v3), (4, J v4_4), (5, J v5_5), (6, J v6_6)] dX7_hourAt_28 (by decide) rfl ?_
        refine g_iload hC 0 dX7_hourAt_30 rfl ?_
        refine g_iconst hC dX7_hourAt_32 ?_
        refine g_icmp_ne hC 38 h_v7_8 (by unfold inR; omega) dX7_hourAt_33 rfl (fun c_15 => ?_) (fun c_15 => ?_)
        · replace hf := hf.1 c_15
          refine g_iload hC 5 dX7_hourAt_38 rfl ?_
          refine g_aload_n hC 1 dX7_hourAt_40 rfl rfl ?_
          refine g_getr hC okX5 (sh_X5 h_a0) 4 (by decide) rfl wf_X7_51 dX7_hourAt_41 ?_
          refine g_iload hC 0 dX7_hourAt_44 rfl ?_
          obtain ⟨q_9, hf⟩ := hf
          refine g_ialdk (v7_8.toNat) hC (sh_X5_4 h_a0) q_9.1 q_9.2 rfl dX7_hourAt_46 ?_
          refine g_iadd hC dX7_hourAt_47 ?_
          obtain ⟨q_10, hf⟩ := hf
          refine g_nm (fun v5_11 e_v5_11 => ?_)
          replace hf := hf v5_11 e_v5_11
          have h_v5_11 : inR v5_11 := by rw [e_v5_11]; exact q_10
          refine g_istore hC [(5, J v5_11), (7, J v7_8), (0, .ref (B + a0)), (1, .ref (B + a1)), (3, J v3), (4, J v4_4), (6, J v6_6)] dX7_hourAt_48 (by decide) rfl ?_
          refine g_aload_n hC 2 dX7_hourAt_50 rfl rfl ?_
          refine g_getr hC okX5 (sh_X5 h_a0) 3 (by decide) rfl wf_X7_38 dX7_hourAt_51 ?_
          refine g_iload hC 1 dX7_hourAt_54 rfl ?_
          refine g_ialdk (v7_8.toNat) hC (sh_X5_3 h_a0) q_9.1 q_9.2 rfl dX7_hourAt_56 ?_
          refine g_nm (fun v4_12 e_v4_12 => ?_)
          replace hf := hf v4_12 e_v4_12
          have h_v4_12 : inR v4_12 := by rw [e_v4_12]; exact (hM _ _)
          refine g_istore hC [(4, J v4_12), (5, J v5_11), (7, J v7_8), (0, .ref (B + a0)), (1, .ref (B + a1)), (3, J v3), (6, J v6_6)] dX7_hourAt_57 (by decide) rfl ?_
          obtain ⟨q_14, hf⟩ := hf
          obtain ⟨v6_13, e_v6_13⟩ : ∃ z : Int, z = v6_6 + 1 := ⟨_, rfl⟩
          replace hf := hf v6_13 e_v6_13
          have h_v6_13 : inR v6_13 := by rw [e_v6_13]; exact q_14
          refine g_iincv hC 6 e_v6_13 [(6, J v6_13), (4, J v4_12), (5, J v5_11), (7, J v7_8), (0, .ref (B + a0)), (1, .ref (B + a1)), (3, J v3)] dX7_hourAt_59 rfl (by decide) rfl ?_
          refine g_goto hC 9 dX7_hourAt_62 rfl ?_
          refine g_sub [(0, .ref (B + a0)), (1, .ref (B + a1)), (3, J v3), (4, J v4_12), (5, J v5_11), (6, J v6_13)] [4, 5, 6, 1, 2, 0] rfl ?_
          exact ih9 v4_12 v5_11 v6_13 hf h_v4_12 h_v5_11 h_v6_13
        · replace hf := hf.2 c_15
          refine g_iconst hC dX7_hourAt_36 ?_
          exact g_reti hC (by unfold inR; omega) hM ⟨rfl, hf⟩ dX7_hourAt_37
set_option maxHeartbeats 4000000 in
set_option maxRecDepth 100000 in
theorem c_X7_sendWaves (l : Launch) (B : Nat) (D : va_G) (K : Nat → ClassId) (a1 : Nat) (v2 : Int) (a3 : Nat) (v4 : Int) (h_a1 : is_X5 a1) (i_v2 : inR v2) (h_a3 : isIA a3) (i_v4 : inR v4) (M : Mem) (hM : MR M) (Q : Mem → Prop) (hf : f_X7_sendWaves a1 v2 a3 v4 M Q) : CtV l yX7_sendWaves cX7_sendWaves 7 1 27 B D K [.ref (B + 68), .ref (B + a1), J v2, .ref (B + a3), J v4] M Q := by
  refine ct_v (by decide) (Nat.le_of_ble_eq_true rfl) ?_
  intro p e s m args below meth c hC
  have hC : Cx p s m args meth c D K cX7_sendWaves 7 RX7 none := hC
  unfold f_X7_sendWaves at hf
  refine (show G p l e (rmF 1 27) s m args below meth c B D K 7 0 0 (ZV below args s B D K Q) M 0 [(0, .ref (B + 68)), (1, .ref (B + a1)), (2, J v2), (3, .ref (B + a3)), (4, J v4)] [] from ?_)
  refine g_aload_n hC 0 dX7_sendWaves_0 rfl rfl ?_
  refine g_iconst hC dX7_sendWaves_1 ?_
  refine g_puti hC okX7 tnX7 sc68 3 (by decide) rfl rfl (by decide) wf_X7_69 dX7_sendWaves_2 ?_
  refine g_nmM (fun M_1 e_M_1 => ?_)
  replace hf := hf M_1 e_M_1
  have h_M_1 : MR M_1 := by rw [e_M_1]; exact MR_st hM (by unfold inR; omega)
  refine g_iconst hC dX7_sendWaves_5 ?_
  refine g_istore hC [(5, J 0), (0, .ref (B + 68)), (1, .ref (B + a1)), (2, J v2), (3, .ref (B + a3)), (4, J v4)] dX7_sendWaves_6 (by decide) rfl ?_
  refine g_sub [(0, .ref (B + 68)), (1, .ref (B + a1)), (2, J v2), (3, .ref (B + a3)), (4, J v4), (5, J 0)] [1, 2, 3, 4, 5, 0] rfl ?_
  refine wl2_elim (fun (v5_2 : Int) (M_3 : Mem) => inR v5_2 → MR M_3 → G p l e (rmF 1 27) s m args below meth c B D K 7 0 0 (ZV below args s B D K Q) M_3 8 [(0, .ref (B + 68)), (1, .ref (B + a1)), (2, J v2), (3, .ref (B + a3)), (4, J v4), (5, J v5_2)] []) ?_ 5000 0 M_1 hf (by unfold inR; omega) h_M_1
  intro rec8 ih8 v5_2 M_3 hf h_v5_2 h_M_3
  unfold X7_sendWaves_b8 at hf
  refine g_iload hC 5 dX7_sendWaves_8 rfl ?_
  refine g_aload_n hC 1 dX7_sendWaves_10 rfl rfl ?_
  refine g_geti hC okX5 (sh_X5 h_a1) 0 (by decide) rfl wf_X7_66 dX7_sendWaves_11 ?_
  refine g_icmp_ge hC 75 h_v5_2 (h_M_3 _ _) dX7_sendWaves_14 rfl (fun c_17 => ?_) (fun c_17 => ?_)
  · replace hf := hf.1 c_17
    exact g_retv hC h_M_3 hf dX7_sendWaves_75
  · replace hf := hf.2 c_17
    refine g_iload_n hC 2 dX7_sendWaves_17 rfl rfl ?_
    refine g_iload hC 5 dX7_sendWaves_18 rfl ?_
    refine g_ishr hC dX7_sendWaves_20 ?_
    refine g_iconst hC dX7_sendWaves_21 ?_
    refine g_iand hC dX7_sendWaves_22 ?_
    refine g_iconst hC dX7_sendWaves_23 ?_
    refine jn_elim (fun (k : Int → Prop) => ∀ (s0_4 : Int), k s0_4 → (inR s0_4) → G p l e (rmF 1 27) s m args below meth c B D K 7 0 0 (ZV below args s B D K Q) M_3 40 [(0, .ref (B + 68)), (1, .ref (B + a1)), (2, J v2), (3, .ref (B + a3)), (4, J v4), (5, J v5_2)] [J s0_4]) hf ?_ ?_
    · intro s0_4 hf h_s0_4
      refine g_istore hC [(6, J s0_4), (0, .ref (B + 68)), (1, .ref (B + a1)), (2, J v2), (3, .ref (B + a3)), (4, J v4), (5, J v5_2)] dX7_sendWaves_40 (by decide) rfl ?_
      refine g_iload hC 0 dX7_sendWaves_42 rfl ?_
      refine g_iconst hC dX7_sendWaves_44 ?_
      refine g_icmp_eq hC 69 h_s0_4 (by unfold inR; omega) dX7_sendWaves_45 rfl (fun c_13 => ?_) (fun c_13 => ?_)
      · replace hf := hf.1 c_13
        obtain ⟨q_6, hf⟩ := hf
        obtain ⟨v5_5, e_v5_5⟩ : ∃ z : Int, z = v5_2 + 1 := ⟨_, rfl⟩
        replace hf := hf v5_5 e_v5_5
        have h_v5_5 : inR v5_5 := by rw [e_v5_5]; exact q_6
        refine g_iincv hC 6 e_v5_5 [(5, J v5_5), (6, J s0_4), (0, .ref (B + 68)), (1, .ref (B + a1)), (2, J v2), (3, .ref (B + a3)), (4, J v4)] dX7_sendWaves_69 rfl (by decide) rfl ?_
        refine g_goto hC 8 dX7_sendWaves_72 rfl ?_
        refine g_sub [(0, .ref (B + 68)), (1, .ref (B + a1)), (2, J v2), (3, .ref (B + a3)), (4, J v4), (5, J v5_5)] [2, 3, 4, 5, 6, 0] rfl ?_
        exact ih8 v5_5 M_3 hf h_v5_5 h_M_3
      · replace hf := hf.2 c_13
        refine g_aload_n hC 1 dX7_sendWaves_48 rfl rfl ?_
        refine g_getr hC okX7 sc68 2 (by decide) rfl wf_X7_18 dX7_sendWaves_49 ?_
        refine g_aload_n hC 1 dX7_sendWaves_52 rfl rfl ?_
        refine g_geti hC okX7 sc68 3 (by decide) rfl wf_X7_69 dX7_sendWaves_53 ?_
        refine g_iload hC 0 dX7_sendWaves_56 rfl ?_
        obtain ⟨q_7, hf⟩ := hf
        refine g_iastk ((M_3 68 3).toNat) hC sc71 q_7.1 q_7.2 rfl dX7_sendWaves_58 ?_
        refine g_nmM (fun M_8 e_M_8 => ?_)
        replace hf := hf M_8 e_M_8
        have h_M_8 : MR M_8 := by rw [e_M_8]; exact MR_st h_M_3 h_s0_4
        refine g_aload_n hC 1 dX7_sendWaves_59 rfl rfl ?_
        refine g_dup hC dX7_sendWaves_60 rfl ?_
        refine g_geti hC okX7 sc68 3 (by decide) rfl wf_X7_69 dX7_sendWaves_61 ?_
        refine g_iconst hC dX7_sendWaves_64 ?_
        refine g_iadd hC dX7_sendWaves_65 ?_
        obtain ⟨q_9, hf⟩ := hf
        refine g_puti hC okX7 tnX7 sc68 3 (by decide) rfl rfl (by decide) wf_X7_69 dX7_sendWaves_66 ?_
        refine g_nmM (fun M_10 e_M_10 => ?_)
        replace hf := hf M_10 e_M_10
        have h_M_10 : MR M_10 := by rw [e_M_10]; exact MR_st h_M_8 q_9
        obtain ⟨q_12, hf⟩ := hf
        obtain ⟨v5_11, e_v5_11⟩ : ∃ z : Int, z = v5_2 + 1 := ⟨_, rfl⟩
        replace hf := hf v5_11 e_v5_11
        have h_v5_11 : inR v5_11 := by rw [e_v5_11]; exact q_12
        refine g_iincv hC 6 e_v5_11 [(5, J v5_11), (6, J s0_4), (0, .ref (B + 68)), (1, .ref (B + a1)), (2, J v2), (3, .ref (B + a3)), (4, J v4)] dX7_sendWaves_69 rfl (by decide) rfl ?_
        refine g_goto hC 8 dX7_sendWaves_72 rfl ?_
        refine g_sub [(0, .ref (B + 68)), (1, .ref (B + a1)), (2, J v2), (3, .ref (B + a3)), (4, J v4), (5, J v5_11)] [2, 3, 4, 5, 6, 0] rfl ?_
        exact ih8 v5_11 M_10 hf h_v5_11 h_M_10
    · intro J40 hJ40 hf
      refine g_icmp_ne hC 39 (bAnd_in _ _) (by unfold inR; omega) dX7_sendWaves_24 rfl (fun c_16 => ?_) (fun c_16 => ?_)
      · replace hf := hf.1 c_16
        refine g_iconst hC dX7_sendWaves_39 ?_
        refine g_sub [(0, .ref (B + 68)), (1, .ref (B + a1)), (2, J v2), (3, .ref (B + a3)), (4, J v4), (5, J v5_2)] [0, 1, 2, 3, 4, 5] rfl ?_
        exact hJ40 (-1) hf (by unfold inR; omega)
      · replace hf := hf.2 c_16
        refine g_aload_n hC 1 dX7_sendWaves_27 rfl rfl ?_
        refine g_aload_n hC 3 dX7_sendWaves_28 rfl rfl ?_
        refine g_iload hC 5 dX7_sendWaves_29 rfl ?_
        refine g_iload hC 4 dX7_sendWaves_31 rfl ?_
        refine g_callSI hC (sk := []) [.ref (B + a1), .ref (B + a3), J v5_2, J v4] (c_X7_hourAt l B D K a1 a3 v5_2 v4 h_a1 h_a3 h_v5_2 i_v4 M_3 h_M_3 _ hf) yv_X7_hourAt wm_X7_72 rfl ⟨Nat.le_of_ble_eq_true rfl, Nat.le_of_ble_eq_true rfl, Nat.le_of_ble_eq_true rfl, Nat.le_of_ble_eq_true rfl⟩ rfl (Nat.le_of_ble_eq_true rfl) dX7_sendWaves_33 ?_
        rintro r_14 M_15 h_r_14 - ⟨rfl, hf⟩
        refine g_goto hC 40 dX7_sendWaves_36 rfl ?_
        refine g_sub [(0, .ref (B + 68)), (1, .ref (B + a1)), (2, J v2), (3, .ref (B + a3)), (4, J v4), (5, J v5_2)] [0, 1, 2, 3, 4, 5] rfl ?_
        exact hJ40 r_14 hf h_r_14
set_option maxHeartbeats 4000000 in
set_option maxRecDepth 100000 in
theorem c_X7_comingAt (l : Launch) (B : Nat) (D : va_G) (K : Nat → ClassId) (v1 : Int) (i_v1 : inR v1) (M : Mem) (hM : MR M) (Q : Int → Prop) (hf : f_X7_comingAt v1 M Q) : CtI l yX7_comingAt cX7_comingAt 4 0 0 B D K [.ref (B + 68), J v1] M (fun r M1 => M = M1 ∧ Q r) := by
  refine ct_i (by decide) (Nat.le_of_ble_eq_true rfl) ?_
  intro p e s m args below meth c hC
  have hC : Cx p s m args meth c D K cX7_comingAt 4 RX7 (some .int) := hC
  unfold f_X7_comingAt at hf
  refine (show G p l e (rmF 0 0) s m args below meth c B D K 4 0 0 (ZI below args s B D K (fun r M1 => M = M1 ∧ Q r)) M 0 [(0, .ref (B + 68)), (1, J v1)] [] from ?_)
  refine g_iconst hC dX7_comingAt_0 ?_
  refine g_istore_n hC [(2, J 0), (0, .ref (B + 68)), (1, J v1)] dX7_comingAt_1 rfl (by decide) rfl ?_
  refine g_iconst hC dX7_comingAt_2 ?_
  refine g_istore_n hC [(3, J 0), (2, J 0), (0, .ref (B + 68)), (1, J v1)] dX7_comingAt_3 rfl (by decide) rfl ?_
  refine g_sub [(0, .ref (B + 68)), (1, J v1), (2, J 0), (3, J 0)] [2, 3, 1, 0] rfl ?_
  refine wl2_elim (fun (v2_1 : Int) (v3_2 : Int) => inR v2_1 → inR v3_2 → G p l e (rmF 0 0) s m args below meth c B D K 4 0 0 (ZI below args s B D K (fun r M1 => M = M1 ∧ Q r)) M 4 [(0, .ref (B + 68)), (1, J v1), (2, J v2_1), (3, J v3_2)] []) ?_ 5000 0 0 hf (by unfold inR; omega) (by unfold inR; omega)
  intro rec4 ih4 v2_1 v3_2 hf h_v2_1 h_v3_2
  unfold X7_comingAt_b4 at hf
  refine g_iload_n hC 3 dX7_comingAt_4 rfl rfl ?_
  refine g_aload_n hC 0 dX7_comingAt_5 rfl rfl ?_
  refine g_geti hC okX7 sc68 3 (by decide) rfl wf_X7_69 dX7_comingAt_6 ?_
  refine g_icmp_ge hC 31 h_v3_2 (hM _ _) dX7_comingAt_9 rfl (fun c_11 => ?_) (fun c_11 => ?_)
  · replace hf := hf.1 c_11
    refine g_iload_n hC 2 dX7_comingAt_31 rfl rfl ?_
    exact g_reti hC h_v2_1 hM ⟨rfl, hf⟩ dX7_comingAt_32
  · replace hf := hf.2 c_11
    refine g_aload_n hC 0 dX7_comingAt_12 rfl rfl ?_
    refine g_getr hC okX7 sc68 2 (by decide) rfl wf_X7_18 dX7_comingAt_13 ?_
    refine g_iload_n hC 3 dX7_comingAt_16 rfl rfl ?_
    obtain ⟨q_3, hf⟩ := hf
    refine g_ialdk (v3_2.toNat) hC sc71 q_3.1 q_3.2 rfl dX7_comingAt_17 ?_
    refine g_iload_n hC 1 dX7_comingAt_18 rfl rfl ?_
    refine g_icmp_ne hC 25 (hM _ _) i_v1 dX7_comingAt_19 rfl (fun c_10 => ?_) (fun c_10 => ?_)
    · replace hf := hf.1 c_10
      obtain ⟨q_5, hf⟩ := hf
      obtain ⟨v3_4, e_v3_4⟩ : ∃ z : Int, z = v3_2 + 1 := ⟨_, rfl⟩
      replace hf := hf v3_4 e_v3_4
      have h_v3_4 : inR v3_4 := by rw [e_v3_4]; exact q_5
      refine g_iincv hC 3 e_v3_4 [(3, J v3_4), (0, .ref (B + 68)), (1, J v1), (2, J v2_1)] dX7_comingAt_25 rfl (by decide) rfl ?_
      refine g_goto hC 4 dX7_comingAt_28 rfl ?_
      refine g_sub [(0, .ref (B + 68)), (1, J v1), (2, J v2_1), (3, J v3_4)] [1, 2, 3, 0] rfl ?_
      exact ih4 v2_1 v3_4 hf h_v2_1 h_v3_4
    · replace hf := hf.2 c_10
      obtain ⟨q_7, hf⟩ := hf
      obtain ⟨v2_6, e_v2_6⟩ : ∃ z : Int, z = v2_1 + 1 := ⟨_, rfl⟩
      replace hf := hf v2_6 e_v2_6
      have h_v2_6 : inR v2_6 := by rw [e_v2_6]; exact q_7
      refine g_iincv hC 2 e_v2_6 [(2, J v2_6), (0, .ref (B + 68)), (1, J v1), (3, J v3_2)] dX7_comingAt_22 rfl (by decide) rfl ?_
      obtain ⟨q_9, hf⟩ := hf
      obtain ⟨v3_8, e_v3_8⟩ : ∃ z : Int, z = v3_2 + 1 := ⟨_, rfl⟩
      replace hf := hf v3_8 e_v3_8
      have h_v3_8 : inR v3_8 := by rw [e_v3_8]; exact q_9
      refine g_iincv hC 3 e_v3_8 [(3, J v3_8), (2, J v2_6), (0, .ref (B + 68)), (1, J v1)] dX7_comingAt_25 rfl (by decide) rfl ?_
      refine g_goto hC 4 dX7_comingAt_28 rfl ?_
      refine g_sub [(0, .ref (B + 68)), (1, J v1), (2, J v2_6), (3, J v3_8)] [2, 3, 1, 0] rfl ?_
      exact ih4 v2_6 v3_8 hf h_v2_6 h_v3_8
set_option maxHeartbeats 4000000 in
set_option maxRecDepth 100000 in
theorem c_X7_hourOfMost (l : Launch) (B : Nat) (D : va_G) (K : Nat → ClassId)   (M : Mem) (hM : MR M) (Q : Int → Prop) (hf : f_X7_hourOfMost  M Q) : CtI l yX7_hourOfMost cX7_hourOfMost 5 1 23 B D K [.ref (B + 68)] M (fun r M1 => M = M1 ∧ Q r) := by
  refine ct_i (by decide) (Nat.le_of_ble_eq_true rfl) ?_
  intro p e s m args below meth c hC
  have hC : Cx p s m args meth c D K cX7_hourOfMost 5 RX7 (some .int) := hC
  unfold f_X7_hourOfMost at hf
  refine (show G p l e (rmF 1 23) s m args below meth c B D K 5 0 0 (ZI below args s B D K (fun r M1 => M = M1 ∧ Q r)) M 0 [(0, .ref (B + 68))] [] from ?_)
  refine g_iconst hC dX7_hourOfMost_0 ?_
  refine g_istore_n hC [(1, J (-1)), (0, .ref (B + 68))] dX7_hourOfMost_1 rfl (by decide) rfl ?_
  refine g_iconst hC dX7_hourOfMost_2 ?_
  refine g_istore_n hC [(2, J 0), (1, J (-1)), (0, .ref (B + 68))] dX7_hourOfMost_3 rfl (by decide) rfl ?_
  refine g_iconst hC dX7_hourOfMost_4 ?_
  refine g_istore_n hC [(3, J 0), (2, J 0), (1, J (-1)), (0, .ref (B + 68))] dX7_hourOfMost_5 rfl (by decide) rfl ?_
  refine g_sub [(0, .ref (B + 68)), (1, J (-1)), (2, J 0), (3, J 0)] [3, 2, 1, 0] rfl ?_
  refine wl3_elim (fun (v1_1 : Int) (v2_2 : Int) (v3_3 : Int) => inR v1_1 → inR v2_2 → inR v3_3 → G p l e (rmF 1 23) s m args below meth c B D K 5 0 0 (ZI below args s B D K (fun r M1 => M = M1 ∧ Q r)) M 6 [(0, .ref (B + 68)), (1, J v1_1), (2, J v2_2), (3, J v3_3)] []) ?_ 5000 (-1) 0 0 hf (by unfold inR; omega) (by unfold inR; omega) (by unfold inR; omega)
  intro rec6 ih6 v1_1 v2_2 v3_3 hf h_v1_1 h_v2_2 h_v3_3
  unfold X7_hourOfMost_b6 at hf
  refine g_iload_n hC 3 dX7_hourOfMost_6 rfl rfl ?_
  refine g_aload_n hC 0 dX7_hourOfMost_7 rfl rfl ?_
  refine g_geti hC okX7 sc68 3 (by decide) rfl wf_X7_69 dX7_hourOfMost_8 ?_
  refine g_icmp_ge hC 64 h_v3_3 (hM _ _) dX7_hourOfMost_11 rfl (fun c_19 => ?_) (fun c_19 => ?_)
  · replace hf := hf.1 c_19
    refine g_iload_n hC 1 dX7_hourOfMost_64 rfl rfl ?_
    exact g_reti hC h_v1_1 hM ⟨rfl, hf⟩ dX7_hourOfMost_65
  · replace hf := hf.2 c_19
    refine g_aload_n hC 0 dX7_hourOfMost_14 rfl rfl ?_
    refine g_aload_n hC 0 dX7_hourOfMost_15 rfl rfl ?_
    refine g_getr hC okX7 sc68 2 (by decide) rfl wf_X7_18 dX7_hourOfMost_16 ?_
    refine g_iload_n hC 3 dX7_hourOfMost_19 rfl rfl ?_
    obtain ⟨q_4, hf⟩ := hf
    refine g_ialdk (v3_3.toNat) hC sc71 q_4.1 q_4.2 rfl dX7_hourOfMost_20 ?_
    refine g_callVI hC (sk := []) [J (M 71 (v3_3.toNat))] (c_X7_comingAt l B D K (M 71 (v3_3.toNat)) (hM _ _) M hM _ hf) yv_X7_comingAt wm_X7_80 okX7.1 sc68 rfl ⟨Nat.le_of_ble_eq_true rfl, Nat.le_of_ble_eq_true rfl, Nat.le_of_ble_eq_true rfl, Nat.le_of_ble_eq_true rfl⟩ rfl (Nat.le_of_ble_eq_true rfl) dX7_hourOfMost_21 ?_
    rintro r_5 M_6 h_r_5 - ⟨rfl, hf⟩
    refine g_istore hC [(4, J r_5), (0, .ref (B + 68)), (1, J v1_1), (2, J v2_2), (3, J v3_3)] dX7_hourOfMost_24 (by decide) rfl ?_
    refine g_iload hC 0 dX7_hourOfMost_26 rfl ?_
    refine g_iload_n hC 3 dX7_hourOfMost_28 rfl rfl ?_
    refine jn_elim (fun (k : Int → Prop) => ∀ (v3_7 : Int), k v3_7 → (inR v3_7) → G p l e (rmF 1 23) s m args below meth c B D K 5 0 0 (ZI below args s B D K (fun r M1 => M = M1 ∧ Q r)) M 48 [(0, .ref (B + 68)), (3, J v3_7), (4, J r_5)] []) hf ?_ ?_
    · intro v3_7 hf h_v3_7
      refine g_iload hC 2 dX7_hourOfMost_48 rfl ?_
      refine g_istore_n hC [(2, J r_5), (0, .ref (B + 68)), (3, J v3_7), (4, J r_5)] dX7_hourOfMost_50 rfl (by decide) rfl ?_
      refine g_aload_n hC 1 dX7_hourOfMost_51 rfl rfl ?_
      refine g_getr hC okX7 sc68 2 (by decide) rfl wf_X7_18 dX7_hourOfMost_52 ?_
      refine g_iload_n hC 2 dX7_hourOfMost_55 rfl rfl ?_
      obtain ⟨q_8, hf⟩ := hf
      refine g_ialdk (v3_7.toNat) hC sc71 q_8.1 q_8.2 rfl dX7_hourOfMost_56 ?_
      refine g_nm (fun v1_9 e_v1_9 => ?_)
      replace hf := hf v1_9 e_v1_9
      have h_v1_9 : inR v1_9 := by rw [e_v1_9]; exact (hM _ _)
      refine g_istore_n hC [(1, J v1_9), (2, J r_5), (0, .ref (B + 68)), (3, J v3_7), (4, J r_5)] dX7_hourOfMost_57 rfl (by decide) rfl ?_
      obtain ⟨q_11, hf⟩ := hf
      obtain ⟨v3_10, e_v3_10⟩ : ∃ z : Int, z = v3_7 + 1 := ⟨_, rfl⟩
      replace hf := hf v3_10 e_v3_10
      have h_v3_10 : inR v3_10 := by rw [e_v3_10]; exact q_11
      refine g_iincv hC 3 e_v3_10 [(3, J v3_10), (1, J v1_9), (2, J r_5), (0, .ref (B + 68)), (4, J r_5)] dX7_hourOfMost_58 rfl (by decide) rfl ?_
      refine g_goto hC 6 dX7_hourOfMost_61 rfl ?_
      refine g_sub [(0, .ref (B + 68)), (1, J v1_9), (2, J r_5), (3, J v3_10)] [3, 1, 2, 0] rfl ?_
      exact ih6 v1_9 r_5 v3_10 hf h_v1_9 h_r_5 h_v3_10
    · intro J48 hJ48 hf
      refine g_icmp_gt hC 48 h_r_5 h_v2_2 dX7_hourOfMost_29 rfl (fun c_18 => ?_) (fun c_18 => ?_)
      · replace hf := hf.1 c_18
        refine g_sub [(0, .ref (B + 68)), (3, J v3_3), (4, J r_5)] [1, 4, 0] rfl ?_
        exact hJ48 v3_3 hf h_v3_3
      · replace hf := hf.2 c_18
        refine g_iload hC 0 dX7_hourOfMost_32 rfl ?_
        refine g_iload_n hC 3 dX7_hourOfMost_34 rfl rfl ?_
        refine g_icmp_ne hC 58 h_r_5 h_v2_2 dX7_hourOfMost_35 rfl (fun c_17 => ?_) (fun c_17 => ?_)
        · replace hf := hf.1 c_17
          obtain ⟨q_13, hf⟩ := hf
          obtain ⟨v3_12, e_v3_12⟩ : ∃ z : Int, z = v3_3 + 1 := ⟨_, rfl⟩
          replace hf := hf v3_12 e_v3_12
          have h_v3_12 : inR v3_12 := by rw [e_v3_12]; exact q_13
          refine g_iincv hC 4 e_v3_12 [(3, J v3_12), (4, J r_5), (0, .ref (B + 68)), (1, J v1_1), (2, J v2_2)] dX7_hourOfMost_58 rfl (by decide) rfl ?_
          refine g_goto hC 6 dX7_hourOfMost_61 rfl ?_
          refine g_sub [(0, .ref (B + 68)), (1, J v1_1), (2, J v2_2), (3, J v3_12)] [2, 3, 4, 0] rfl ?_
          exact ih6 v1_1 v2_2 v3_12 hf h_v1_1 h_v2_2 h_v3_12
        · replace hf := hf.2 c_17
          refine g_aload_n hC 1 dX7_hourOfMost_38 rfl rfl ?_
          refine g_getr hC okX7 sc68 2 (by decide) rfl wf_X7_18 dX7_hourOfMost_39 ?_
          refine g_iload_n hC 4 dX7_hourOfMost_42 rfl rfl ?_
          refine g_ialdk (v3_3.toNat) hC sc71 q_4.1 q_4.2 rfl dX7_hourOfMost_43 ?_
          refine g_iload_n hC 2 dX7_hourOfMost_44 rfl rfl ?_
          refine g_icmp_ge hC 58 (hM _ _) h_v1_1 dX7_hourOfMost_45 rfl (fun c_16 => ?_) (fun c_16 => ?_)
          · replace hf := hf.1 c_16
            obtain ⟨q_15, hf⟩ := hf
            obtain ⟨v3_14, e_v3_14⟩ : ∃ z : Int, z = v3_3 + 1 := ⟨_, rfl⟩
            replace hf := hf v3_14 e_v3_14
            have h_v3_14 : inR v3_14 := by rw [e_v3_14]; exact q_15
            refine g_iincv hC 4 e_v3_14 [(3, J v3_14), (4, J r_5), (0, .ref (B + 68)), (1, J v1_1), (2, J v2_2)] dX7_hourOfMost_58 rfl (by decide) rfl ?_
            refine g_goto hC 6 dX7_hourOfMost_61 rfl ?_
            refine g_sub [(0, .ref (B + 68)), (1, J v1_1), (2, J v2_2), (3, J v3_14)] [2, 3, 4, 0] rfl ?_
            exact ih6 v1_1 v2_2 v3_14 hf h_v1_1 h_v2_2 h_v3_14
          · replace hf := hf.2 c_16
            refine g_sub [(0, .ref (B + 68)), (3, J v3_3), (4, J r_5)] [1, 4, 0] rfl ?_
            exact hJ48 v3_3 hf h_v3_3
set_option maxHeartbeats 4000000 in
set_option maxRecDepth 100000 in
theorem c_X7_mostAtOnce (l : Launch) (B : Nat) (D : va_G) (K : Nat → ClassId)   (M : Mem) (hM : MR M) (Q : Int → Prop) (hf : f_X7_mostAtOnce  M Q) : CtI l yX7_mostAtOnce cX7_mostAtOnce 1 2 47 B D K [.ref (B + 68)] M (fun r M1 => M = M1 ∧ Q r) := by
  refine ct_i (by decide) (Nat.le_of_ble_eq_true rfl) ?_
  intro p e s m args below meth c hC
  have hC : Cx p s m args meth c D K cX7_mostAtOnce 1 RX7 (some .int) := hC
  unfold f_X7_mostAtOnce at hf
  refine (show G p l e (rmF 2 47) s m args below meth c B D K 1 0 0 (ZI below args s B D K (fun r M1 => M = M1 ∧ Q r)) M 0 [(0, .ref (B + 68))] [] from ?_)
  refine g_aload_n hC 0 dX7_mostAtOnce_0 rfl rfl ?_
  refine g_geti hC okX7 sc68 3 (by decide) rfl wf_X7_69 dX7_mostAtOnce_1 ?_
  refine g_if_ne hC 11 (hM _ _) dX7_mostAtOnce_4 rfl (fun c_5 => ?_) (fun c_5 => ?_)
  · replace hf := hf.1 c_5
    refine g_aload_n hC 0 dX7_mostAtOnce_11 rfl rfl ?_
    refine g_aload_n hC 0 dX7_mostAtOnce_12 rfl rfl ?_
    refine g_callVI hC (sk := [.ref (B + 68)]) [] (c_X7_hourOfMost l B D K   M hM _ hf) yv_X7_hourOfMost wm_X7_76 okX7.1 sc68 rfl ⟨Nat.le_of_ble_eq_true rfl, Nat.le_of_ble_eq_true rfl, Nat.le_of_ble_eq_true rfl, Nat.le_of_ble_eq_true rfl⟩ rfl (Nat.le_of_ble_eq_true rfl) dX7_mostAtOnce_13 ?_
    rintro r_1 M_2 h_r_1 - ⟨rfl, hf⟩
    refine g_callVI hC (sk := []) [J r_1] (c_X7_comingAt l B D K r_1 h_r_1 M hM _ hf) yv_X7_comingAt wm_X7_80 okX7.1 sc68 rfl ⟨Nat.le_of_ble_eq_true rfl, Nat.le_of_ble_eq_true rfl, Nat.le_of_ble_eq_true rfl, Nat.le_of_ble_eq_true rfl⟩ rfl (Nat.le_of_ble_eq_true rfl) dX7_mostAtOnce_16 ?_
    rintro r_3 M_4 h_r_3 - ⟨rfl, hf⟩
    exact g_reti hC h_r_3 hM ⟨rfl, hf⟩ dX7_mostAtOnce_19
  · replace hf := hf.2 c_5
    refine g_iconst hC dX7_mostAtOnce_7 ?_
    refine g_goto hC 19 dX7_mostAtOnce_8 rfl ?_
    exact g_reti hC (by unfold inR; omega) hM ⟨rfl, hf⟩ dX7_mostAtOnce_19
set_option maxHeartbeats 4000000 in
set_option maxRecDepth 100000 in
theorem c_X7_lastHour (l : Launch) (B : Nat) (D : va_G) (K : Nat → ClassId)   (M : Mem) (hM : MR M) (Q : Int → Prop) (hf : f_X7_lastHour  M Q) : CtI l yX7_lastHour cX7_lastHour 3 1 40 B D K [.ref (B + 68)] M (fun r M1 => M = M1 ∧ Q r) := by
  refine ct_i (by decide) (Nat.le_of_ble_eq_true rfl) ?_
  intro p e s m args below meth c hC
  have hC : Cx p s m args meth c D K cX7_lastHour 3 RX7 (some .int) := hC
  unfold f_X7_lastHour at hf
  refine (show G p l e (rmF 1 40) s m args below meth c B D K 3 0 0 (ZI below args s B D K (fun r M1 => M = M1 ∧ Q r)) M 0 [(0, .ref (B + 68))] [] from ?_)
  refine g_iconst hC dX7_lastHour_0 ?_
  refine g_istore_n hC [(1, J (-1)), (0, .ref (B + 68))] dX7_lastHour_1 rfl (by decide) rfl ?_
  refine g_iconst hC dX7_lastHour_2 ?_
  refine g_istore_n hC [(2, J 0), (1, J (-1)), (0, .ref (B + 68))] dX7_lastHour_3 rfl (by decide) rfl ?_
  refine g_sub [(0, .ref (B + 68)), (1, J (-1)), (2, J 0)] [2, 1, 0] rfl ?_
  refine wl2_elim (fun (v1_1 : Int) (v2_2 : Int) => inR v1_1 → inR v2_2 → G p l e (rmF 1 40) s m args below meth c B D K 3 0 0 (ZI below args s B D K (fun r M1 => M = M1 ∧ Q r)) M 4 [(0, .ref (B + 68)), (1, J v1_1), (2, J v2_2)] []) ?_ 5000 (-1) 0 hf (by unfold inR; omega) (by unfold inR; omega)
  intro rec4 ih4 v1_1 v2_2 hf h_v1_1 h_v2_2
  unfold X7_lastHour_b4 at hf
  refine g_iload_n hC 2 dX7_lastHour_4 rfl rfl ?_
  refine g_aload_n hC 0 dX7_lastHour_5 rfl rfl ?_
  refine g_geti hC okX7 sc68 3 (by decide) rfl wf_X7_69 dX7_lastHour_6 ?_
  refine g_icmp_ge hC 29 h_v2_2 (hM _ _) dX7_lastHour_9 rfl (fun c_7 => ?_) (fun c_7 => ?_)
  · replace hf := hf.1 c_7
    refine g_iload_n hC 1 dX7_lastHour_29 rfl rfl ?_
    exact g_reti hC h_v1_1 hM ⟨rfl, hf⟩ dX7_lastHour_30
  · replace hf := hf.2 c_7
    refine g_iload_n hC 1 dX7_lastHour_12 rfl rfl ?_
    refine g_aload_n hC 0 dX7_lastHour_13 rfl rfl ?_
    refine g_getr hC okX7 sc68 2 (by decide) rfl wf_X7_18 dX7_lastHour_14 ?_
    refine g_iload_n hC 2 dX7_lastHour_17 rfl rfl ?_
    obtain ⟨q_3, hf⟩ := hf
    refine g_ialdk (v2_2.toNat) hC sc71 q_3.1 q_3.2 rfl dX7_lastHour_18 ?_
    refine g_max hC h_v1_1 (hM _ _) ⟨wm_X7_83, wj_max⟩ (Nat.le_of_ble_eq_true rfl) (Nat.le_of_ble_eq_true rfl) (Nat.zero_le _) (Nat.zero_le _) dX7_lastHour_19 ?_
    refine g_nm (fun v1_4 e_v1_4 => ?_)
    replace hf := hf v1_4 e_v1_4
    have h_v1_4 : inR v1_4 := by rw [e_v1_4]; exact (max_in h_v1_1 (hM _ _))
    refine g_istore_n hC [(1, J v1_4), (0, .ref (B + 68)), (2, J v2_2)] dX7_lastHour_22 rfl (by decide) rfl ?_
    obtain ⟨q_6, hf⟩ := hf
    obtain ⟨v2_5, e_v2_5⟩ : ∃ z : Int, z = v2_2 + 1 := ⟨_, rfl⟩
    replace hf := hf v2_5 e_v2_5
    have h_v2_5 : inR v2_5 := by rw [e_v2_5]; exact q_6
    refine g_iincv hC 2 e_v2_5 [(2, J v2_5), (1, J v1_4), (0, .ref (B + 68))] dX7_lastHour_23 rfl (by decide) rfl ?_
    refine g_goto hC 4 dX7_lastHour_26 rfl ?_
    refine g_sub [(0, .ref (B + 68)), (1, J v1_4), (2, J v2_5)] [2, 1, 0] rfl ?_
    exact ih4 v1_4 v2_5 hf h_v1_4 h_v2_5
set_option maxHeartbeats 4000000 in
set_option maxRecDepth 100000 in
theorem c_X8_take (l : Launch) (B : Nat) (D : va_G) (K : Nat → ClassId) (v2 : Int) (i_v2 : inR v2) (M : Mem) (hM : MR M) (Q : Int → Mem → Prop) (hf : f_X8_take v2 M Q) : CtZ l yX8_take cX8_take 4 1 21 B D K [.ref (B + 63), .ref (B + 1), J v2] M Q := by
  refine ct_z (by decide) (Nat.le_of_ble_eq_true rfl) ?_
  intro p e s m args below meth c hC
  have hC : Cx p s m args meth c D K cX8_take 4 RX8 (some .boolean) := hC
  unfold f_X8_take at hf
  refine (show G p l e (rmF 1 21) s m args below meth c B D K 4 0 0 (ZZ below args s B D K Q) M 0 [(0, .ref (B + 63)), (1, .ref (B + 1)), (2, J v2)] [] from ?_)
  refine g_aload_n hC 1 dX8_take_0 rfl rfl ?_
  refine g_geti hC okX10 sc1 1 (by decide) rfl wf_X8_18 dX8_take_1 ?_
  refine g_if_eq hC 25 (hM _ _) dX8_take_4 rfl (fun c_29 => ?_) (fun c_29 => ?_)
  · replace hf := hf.1 c_29
    refine g_iconst hC dX8_take_25 ?_
    exact g_retz hC (Or.inl rfl) hM hf dX8_take_26
  · replace hf := hf.2 c_29
    refine g_aload_n hC 1 dX8_take_7 rfl rfl ?_
    refine g_geti hC okX10 sc1 1 (by decide) rfl wf_X8_18 dX8_take_8 ?_
    refine g_bipush hC dX8_take_11 (by decide) ?_
    refine g_icmp_gt hC 25 (hM _ _) (by unfold inR; omega) dX8_take_13 rfl (fun c_28 => ?_) (fun c_28 => ?_)
    · replace hf := hf.1 c_28
      refine g_iconst hC dX8_take_25 ?_
      exact g_retz hC (Or.inl rfl) hM hf dX8_take_26
    · replace hf := hf.2 c_28
      refine g_aload_n hC 1 dX8_take_16 rfl rfl ?_
      refine g_geti hC okX10 sc1 1 (by decide) rfl wf_X8_18 dX8_take_17 ?_
      refine g_iconst hC dX8_take_20 ?_
      refine g_irem hC (hM _ _) (by unfold inR; omega) (by decide) dX8_take_21 ?_
      refine g_if_eq hC 27 (tmod_in (hM _ _) (by decide)) dX8_take_22 rfl (fun c_27 => ?_) (fun c_27 => ?_)
      · replace hf := hf.1 c_27
        refine g_iconst hC dX8_take_27 ?_
        refine g_istore_n hC [(3, J 0), (0, .ref (B + 63)), (1, .ref (B + 1)), (2, J v2)] dX8_take_28 rfl (by decide) rfl ?_
        refine jn_elim (fun (k : Prop) => k → G p l e (rmF 1 21) s m args below meth c B D K 4 0 0 (ZZ below args s B D K Q) M 65 [(0, .ref (B + 63)), (1, .ref (B + 1))] []) hf ?_ ?_
        · intro hf
          refine g_aload_n hC 0 dX8_take_65 rfl rfl ?_
          refine g_aload_n hC 1 dX8_take_66 rfl rfl ?_
          refine g_geti hC okX10 sc1 1 (by decide) rfl wf_X8_18 dX8_take_67 ?_
          refine g_iconst hC dX8_take_70 ?_
          refine g_idiv hC (hM _ _) (by unfold inR; omega) (by decide) dX8_take_71 ?_
          refine g_puti hC okX8 tnX8 sc63 0 (by decide) rfl rfl (by decide) wf_X8_28 dX8_take_72 ?_
          refine g_nmM (fun M_1 e_M_1 => ?_)
          replace hf := hf M_1 e_M_1
          have h_M_1 : MR M_1 := by rw [e_M_1]; exact MR_st hM (tdiv_in (hM _ _) (by decide))
          refine g_iconst hC dX8_take_75 ?_
          refine g_istore_n hC [(3, J 0), (0, .ref (B + 63)), (1, .ref (B + 1))] dX8_take_76 rfl (by decide) rfl ?_
          refine g_sub [(0, .ref (B + 63)), (1, .ref (B + 1)), (3, J 0)] [1, 2, 0] rfl ?_
          refine wl2_elim (fun (v3_2 : Int) (M_3 : Mem) => inR v3_2 → MR M_3 → G p l e (rmF 1 21) s m args below meth c B D K 4 0 0 (ZZ below args s B D K Q) M_3 77 [(0, .ref (B + 63)), (1, .ref (B + 1)), (3, J v3_2)] []) ?_ 5000 0 M_1 hf (by unfold inR; omega) h_M_1
          intro rec77 ih77 v3_2 M_3 hf h_v3_2 h_M_3
          unfold X8_take_b77 at hf
          refine g_iload_n hC 2 dX8_take_77 rfl rfl ?_
          refine g_aload_n hC 0 dX8_take_78 rfl rfl ?_
          refine g_geti hC okX8 sc63 0 (by decide) rfl wf_X8_28 dX8_take_79 ?_
          refine g_icmp_ge hC 119 h_v3_2 (h_M_3 _ _) dX8_take_82 rfl (fun c_15 => ?_) (fun c_15 => ?_)
          · replace hf := hf.1 c_15
            refine g_iconst hC dX8_take_119 ?_
            exact g_retz hC (Or.inr rfl) h_M_3 hf dX8_take_120
          · replace hf := hf.2 c_15
            refine g_aload_n hC 0 dX8_take_85 rfl rfl ?_
            refine g_getr hC okX8 sc63 1 (by decide) rfl wf_X8_9 dX8_take_86 ?_
            refine g_iload_n hC 2 dX8_take_89 rfl rfl ?_
            refine g_aload_n hC 1 dX8_take_90 rfl rfl ?_
            refine g_iconst hC dX8_take_91 ?_
            refine g_iload_n hC 2 dX8_take_92 rfl rfl ?_
            refine g_imul hC dX8_take_93 ?_
            obtain ⟨q_4, hf⟩ := hf
            refine g_callVI hC (sk := [J v3_2, .ref (B + 64)]) [J (2 * v3_2)] (c_X10_at l B D K (2 * v3_2) q_4 M_3 h_M_3 _ hf) yv_X10_at wm_X8_24 okX10.1 sc1 rfl ⟨Nat.le_of_ble_eq_true rfl, Nat.le_of_ble_eq_true rfl, Nat.le_of_ble_eq_true rfl, Nat.le_of_ble_eq_true rfl⟩ rfl (Nat.le_of_ble_eq_true rfl) dX8_take_94 ?_
            rintro r_5 M_6 h_r_5 - ⟨rfl, hf⟩
            obtain ⟨q_7, hf⟩ := hf
            refine g_iastk (v3_2.toNat) hC sc64 q_7.1 q_7.2 rfl dX8_take_97 ?_
            refine g_nmM (fun M_8 e_M_8 => ?_)
            replace hf := hf M_8 e_M_8
            have h_M_8 : MR M_8 := by rw [e_M_8]; exact MR_st h_M_3 h_r_5
            refine g_aload_n hC 0 dX8_take_98 rfl rfl ?_
            refine g_getr hC okX8 sc63 2 (by decide) rfl wf_X8_15 dX8_take_99 ?_
            refine g_iload_n hC 2 dX8_take_102 rfl rfl ?_
            refine g_aload_n hC 1 dX8_take_103 rfl rfl ?_
            refine g_iconst hC dX8_take_104 ?_
            refine g_iload_n hC 2 dX8_take_105 rfl rfl ?_
            refine g_imul hC dX8_take_106 ?_
            refine g_iconst hC dX8_take_107 ?_
            refine g_iadd hC dX8_take_108 ?_
            obtain ⟨q_9, hf⟩ := hf
            refine g_callVI hC (sk := [J v3_2, .ref (B + 65)]) [J ((2 * v3_2) + 1)] (c_X10_at l B D K ((2 * v3_2) + 1) q_9 M_8 h_M_8 _ hf) yv_X10_at wm_X8_24 okX10.1 sc1 rfl ⟨Nat.le_of_ble_eq_true rfl, Nat.le_of_ble_eq_true rfl, Nat.le_of_ble_eq_true rfl, Nat.le_of_ble_eq_true rfl⟩ rfl (Nat.le_of_ble_eq_true rfl) dX8_take_109 ?_
            rintro r_10 M_11 h_r_10 - ⟨rfl, hf⟩
            refine g_iastk (v3_2.toNat) hC sc65 q_7.1 q_7.2 rfl dX8_take_112 ?_
            refine g_nmM (fun M_12 e_M_12 => ?_)
            replace hf := hf M_12 e_M_12
            have h_M_12 : MR M_12 := by rw [e_M_12]; exact MR_st h_M_8 h_r_10
            obtain ⟨q_14, hf⟩ := hf
            obtain ⟨v3_13, e_v3_13⟩ : ∃ z : Int, z = v3_2 + 1 := ⟨_, rfl⟩
            replace hf := hf v3_13 e_v3_13
            have h_v3_13 : inR v3_13 := by rw [e_v3_13]; exact q_14
            refine g_iincv hC 2 e_v3_13 [(3, J v3_13), (0, .ref (B + 63)), (1, .ref (B + 1))] dX8_take_113 rfl (by decide) rfl ?_
            refine g_goto hC 77 dX8_take_116 rfl ?_
            refine g_sub [(0, .ref (B + 63)), (1, .ref (B + 1)), (3, J v3_13)] [1, 2, 0] rfl ?_
            exact ih77 v3_13 M_12 hf h_v3_13 h_M_12
        · intro J65 hJ65 hf
          refine g_sub [(0, .ref (B + 63)), (1, .ref (B + 1)), (2, J v2), (3, J 0)] [1, 2, 3, 0] rfl ?_
          refine wl1_elim (fun (v3_16 : Int) => inR v3_16 → G p l e (rmF 1 21) s m args below meth c B D K 4 0 0 (ZZ below args s B D K Q) M 29 [(0, .ref (B + 63)), (1, .ref (B + 1)), (2, J v2), (3, J v3_16)] []) ?_ 5000 0 hf (by unfold inR; omega)
          intro rec29 ih29 v3_16 hf h_v3_16
          unfold X8_take_b29 at hf
          refine g_iload_n hC 3 dX8_take_29 rfl rfl ?_
          refine g_aload_n hC 1 dX8_take_30 rfl rfl ?_
          refine g_geti hC okX10 sc1 1 (by decide) rfl wf_X8_18 dX8_take_31 ?_
          refine g_icmp_ge hC 65 h_v3_16 (hM _ _) dX8_take_34 rfl (fun c_26 => ?_) (fun c_26 => ?_)
          · replace hf := hf.1 c_26
            refine g_sub [(0, .ref (B + 63)), (1, .ref (B + 1))] [0, 1] rfl ?_
            exact hJ65 hf
          · replace hf := hf.2 c_26
            refine g_aload_n hC 1 dX8_take_37 rfl rfl ?_
            refine g_iload_n hC 3 dX8_take_38 rfl rfl ?_
            refine g_callVI hC (sk := []) [J v3_16] (c_X10_at l B D K v3_16 h_v3_16 M hM _ hf) yv_X10_at wm_X8_24 okX10.1 sc1 rfl ⟨Nat.le_of_ble_eq_true rfl, Nat.le_of_ble_eq_true rfl, Nat.le_of_ble_eq_true rfl, Nat.le_of_ble_eq_true rfl⟩ rfl (Nat.le_of_ble_eq_true rfl) dX8_take_39 ?_
            rintro r_17 M_18 h_r_17 - ⟨rfl, hf⟩
            refine g_iload_n hC 2 dX8_take_42 rfl rfl ?_
            refine g_icmp_ge hC 57 h_r_17 i_v2 dX8_take_43 rfl (fun c_25 => ?_) (fun c_25 => ?_)
            · replace hf := hf.1 c_25
              refine g_iconst hC dX8_take_57 ?_
              exact g_retz hC (Or.inl rfl) hM hf dX8_take_58
            · replace hf := hf.2 c_25
              refine g_aload_n hC 1 dX8_take_46 rfl rfl ?_
              refine g_iload_n hC 3 dX8_take_47 rfl rfl ?_
              refine g_iconst hC dX8_take_48 ?_
              refine g_iadd hC dX8_take_49 ?_
              obtain ⟨q_19, hf⟩ := hf
              refine g_callVI hC (sk := []) [J (v3_16 + 1)] (c_X10_at l B D K (v3_16 + 1) q_19 M hM _ hf) yv_X10_at wm_X8_24 okX10.1 sc1 rfl ⟨Nat.le_of_ble_eq_true rfl, Nat.le_of_ble_eq_true rfl, Nat.le_of_ble_eq_true rfl, Nat.le_of_ble_eq_true rfl⟩ rfl (Nat.le_of_ble_eq_true rfl) dX8_take_50 ?_
              rintro r_20 M_21 h_r_20 - ⟨rfl, hf⟩
              refine g_iconst hC dX8_take_53 ?_
              refine g_icmp_le hC 59 h_r_20 (by unfold inR; omega) dX8_take_54 rfl (fun c_24 => ?_) (fun c_24 => ?_)
              · replace hf := hf.1 c_24
                obtain ⟨q_23, hf⟩ := hf
                obtain ⟨v3_22, e_v3_22⟩ : ∃ z : Int, z = v3_16 + 2 := ⟨_, rfl⟩
                replace hf := hf v3_22 e_v3_22
                have h_v3_22 : inR v3_22 := by rw [e_v3_22]; exact q_23
                refine g_iincv hC 3 e_v3_22 [(3, J v3_22), (0, .ref (B + 63)), (1, .ref (B + 1)), (2, J v2)] dX8_take_59 rfl (by decide) rfl ?_
                refine g_goto hC 29 dX8_take_62 rfl ?_
                refine g_sub [(0, .ref (B + 63)), (1, .ref (B + 1)), (2, J v2), (3, J v3_22)] [1, 2, 3, 0] rfl ?_
                exact ih29 v3_22 hf h_v3_22
              · replace hf := hf.2 c_24
                refine g_iconst hC dX8_take_57 ?_
                exact g_retz hC (Or.inl rfl) hM hf dX8_take_58
      · replace hf := hf.2 c_27
        refine g_iconst hC dX8_take_25 ?_
        exact g_retz hC (Or.inl rfl) hM hf dX8_take_26
set_option maxHeartbeats 4000000 in
set_option maxRecDepth 100000 in
theorem c_X8_fitsAt (l : Launch) (B : Nat) (D : va_G) (K : Nat → ClassId) (a1 : Nat) (v2 : Int) (h_a1 : is_X5 a1) (i_v2 : inR v2) (M : Mem) (hM : MR M) (Q : Int → Prop) (hf : f_X8_fitsAt a1 v2 M Q) : CtZ l yX8_fitsAt cX8_fitsAt 4 0 0 B D K [.ref (B + 63), .ref (B + a1), J v2] M (fun r M1 => M = M1 ∧ Q r) := by
  refine ct_z (by decide) (Nat.le_of_ble_eq_true rfl) ?_
  intro p e s m args below meth c hC
  have hC : Cx p s m args meth c D K cX8_fitsAt 4 RX8 (some .boolean) := hC
  unfold f_X8_fitsAt at hf
  refine (show G p l e (rmF 0 0) s m args below meth c B D K 4 0 0 (ZZ below args s B D K (fun r M1 => M = M1 ∧ Q r)) M 0 [(0, .ref (B + 63)), (1, .ref (B + a1)), (2, J v2)] [] from ?_)
  refine g_iconst hC dX8_fitsAt_0 ?_
  refine g_istore_n hC [(3, J 0), (0, .ref (B + 63)), (1, .ref (B + a1)), (2, J v2)] dX8_fitsAt_1 rfl (by decide) rfl ?_
  refine g_sub [(0, .ref (B + 63)), (1, .ref (B + a1)), (2, J v2), (3, J 0)] [1, 2, 3, 0] rfl ?_
  refine wl1_elim (fun (v3_1 : Int) => inR v3_1 → G p l e (rmF 0 0) s m args below meth c B D K 4 0 0 (ZZ below args s B D K (fun r M1 => M = M1 ∧ Q r)) M 2 [(0, .ref (B + 63)), (1, .ref (B + a1)), (2, J v2), (3, J v3_1)] []) ?_ 5000 0 hf (by unfold inR; omega)
  intro rec2 ih2 v3_1 hf h_v3_1
  unfold X8_fitsAt_b2 at hf
  refine g_iload_n hC 3 dX8_fitsAt_2 rfl rfl ?_
  refine g_aload_n hC 0 dX8_fitsAt_3 rfl rfl ?_
  refine g_geti hC okX8 sc63 0 (by decide) rfl wf_X8_28 dX8_fitsAt_4 ?_
  refine g_icmp_ge hC 42 h_v3_1 (hM _ _) dX8_fitsAt_7 rfl (fun c_7 => ?_) (fun c_7 => ?_)
  · replace hf := hf.1 c_7
    refine g_iconst hC dX8_fitsAt_42 ?_
    exact g_retz hC (Or.inr rfl) hM ⟨rfl, hf⟩ dX8_fitsAt_43
  · replace hf := hf.2 c_7
    refine g_iload_n hC 2 dX8_fitsAt_10 rfl rfl ?_
    refine g_aload_n hC 1 dX8_fitsAt_11 rfl rfl ?_
    refine g_getr hC okX5 (sh_X5 h_a1) 2 (by decide) rfl wf_X8_44 dX8_fitsAt_12 ?_
    refine g_aload_n hC 0 dX8_fitsAt_15 rfl rfl ?_
    refine g_getr hC okX8 sc63 1 (by decide) rfl wf_X8_9 dX8_fitsAt_16 ?_
    refine g_iload_n hC 3 dX8_fitsAt_19 rfl rfl ?_
    obtain ⟨q_2, hf⟩ := hf
    refine g_ialdk (v3_1.toNat) hC sc64 q_2.1 q_2.2 rfl dX8_fitsAt_20 ?_
    obtain ⟨q_3, hf⟩ := hf
    refine g_ialdk ((M 64 (v3_1.toNat)).toNat) hC (sh_X5_2 h_a1) q_3.1 q_3.2 rfl dX8_fitsAt_21 ?_
    refine g_ishr hC dX8_fitsAt_22 ?_
    refine g_iconst hC dX8_fitsAt_23 ?_
    refine g_iand hC dX8_fitsAt_24 ?_
    refine g_aload_n hC 0 dX8_fitsAt_25 rfl rfl ?_
    refine g_getr hC okX8 sc63 2 (by decide) rfl wf_X8_15 dX8_fitsAt_26 ?_
    refine g_iload_n hC 3 dX8_fitsAt_29 rfl rfl ?_
    refine g_ialdk (v3_1.toNat) hC sc65 q_2.1 q_2.2 rfl dX8_fitsAt_30 ?_
    refine g_icmp_eq hC 36 (bAnd_in _ _) (hM _ _) dX8_fitsAt_31 rfl (fun c_6 => ?_) (fun c_6 => ?_)
    · replace hf := hf.1 c_6
      obtain ⟨q_5, hf⟩ := hf
      obtain ⟨v3_4, e_v3_4⟩ : ∃ z : Int, z = v3_1 + 1 := ⟨_, rfl⟩
      replace hf := hf v3_4 e_v3_4
      have h_v3_4 : inR v3_4 := by rw [e_v3_4]; exact q_5
      refine g_iincv hC 3 e_v3_4 [(3, J v3_4), (0, .ref (B + 63)), (1, .ref (B + a1)), (2, J v2)] dX8_fitsAt_36 rfl (by decide) rfl ?_
      refine g_goto hC 2 dX8_fitsAt_39 rfl ?_
      refine g_sub [(0, .ref (B + 63)), (1, .ref (B + a1)), (2, J v2), (3, J v3_4)] [1, 2, 3, 0] rfl ?_
      exact ih2 v3_4 hf h_v3_4
    · replace hf := hf.2 c_6
      refine g_iconst hC dX8_fitsAt_34 ?_
      exact g_retz hC (Or.inl rfl) hM ⟨rfl, hf⟩ dX8_fitsAt_35
set_option maxHeartbeats 4000000 in
set_option maxRecDepth 100000 in
theorem c_X8_fitting (l : Launch) (B : Nat) (D : va_G) (K : Nat → ClassId) (a1 : Nat) (a2 : Nat) (h_a1 : is_X5 a1) (h_a2 : isIA a2) (M : Mem) (hM : MR M) (Q : Int → Prop) (hf : f_X8_fitting a1 a2 M Q) : CtI l yX8_fitting cX8_fitting 5 1 23 B D K [.ref (B + 63), .ref (B + a1), .ref (B + a2)] M (fun r M1 => M = M1 ∧ Q r) := by
  refine ct_i (by decide) (Nat.le_of_ble_eq_true rfl) ?_
  intro p e s m args below meth c hC
  have hC : Cx p s m args meth c D K cX8_fitting 5 RX8 (some .int) := hC
  unfold f_X8_fitting at hf
  refine (show G p l e (rmF 1 23) s m args below meth c B D K 5 0 0 (ZI below args s B D K (fun r M1 => M = M1 ∧ Q r)) M 0 [(0, .ref (B + 63)), (1, .ref (B + a1)), (2, .ref (B + a2))] [] from ?_)
  refine g_aload_n hC 0 dX8_fitting_0 rfl rfl ?_
  refine g_geti hC okX8 sc63 0 (by decide) rfl wf_X8_28 dX8_fitting_1 ?_
  refine g_if_ne hC 9 (hM _ _) dX8_fitting_4 rfl (fun c_21 => ?_) (fun c_21 => ?_)
  · replace hf := hf.1 c_21
    refine g_iconst hC dX8_fitting_9 ?_
    refine g_istore_n hC [(3, J 0), (0, .ref (B + 63)), (1, .ref (B + a1)), (2, .ref (B + a2))] dX8_fitting_10 rfl (by decide) rfl ?_
    refine jn_elim (fun (k : Prop) => k → G p l e (rmF 1 23) s m args below meth c B D K 5 0 0 (ZI below args s B D K (fun r M1 => M = M1 ∧ Q r)) M 40 [(0, .ref (B + 63)), (1, .ref (B + a1)), (2, .ref (B + a2))] []) hf ?_ ?_
    · intro hf
      refine g_iconst hC dX8_fitting_40 ?_
      refine g_istore_n hC [(3, J 0), (0, .ref (B + 63)), (1, .ref (B + a1)), (2, .ref (B + a2))] dX8_fitting_41 rfl (by decide) rfl ?_
      refine g_iconst hC dX8_fitting_42 ?_
      refine g_istore hC [(4, J 0), (3, J 0), (0, .ref (B + 63)), (1, .ref (B + a1)), (2, .ref (B + a2))] dX8_fitting_43 (by decide) rfl ?_
      refine g_sub [(0, .ref (B + 63)), (1, .ref (B + a1)), (2, .ref (B + a2)), (3, J 0), (4, J 0)] [2, 3, 4, 1, 0] rfl ?_
      refine wl2_elim (fun (v3_1 : Int) (v4_2 : Int) => inR v3_1 → inR v4_2 → G p l e (rmF 1 23) s m args below meth c B D K 5 0 0 (ZI below args s B D K (fun r M1 => M = M1 ∧ Q r)) M 45 [(0, .ref (B + 63)), (1, .ref (B + a1)), (2, .ref (B + a2)), (3, J v3_1), (4, J v4_2)] []) ?_ 5000 0 0 hf (by unfold inR; omega) (by unfold inR; omega)
      intro rec45 ih45 v3_1 v4_2 hf h_v3_1 h_v4_2
      unfold X8_fitting_b45 at hf
      refine g_iload hC 4 dX8_fitting_45 rfl ?_
      refine g_aload_n hC 1 dX8_fitting_47 rfl rfl ?_
      refine g_geti hC okX5 (sh_X5 h_a1) 0 (by decide) rfl wf_X8_37 dX8_fitting_48 ?_
      refine g_icmp_ge hC 84 h_v4_2 (hM _ _) dX8_fitting_51 rfl (fun c_12 => ?_) (fun c_12 => ?_)
      · replace hf := hf.1 c_12
        refine g_iload_n hC 3 dX8_fitting_84 rfl rfl ?_
        exact g_reti hC h_v3_1 hM ⟨rfl, hf⟩ dX8_fitting_85
      · replace hf := hf.2 c_12
        refine g_aload_n hC 0 dX8_fitting_54 rfl rfl ?_
        refine g_aload_n hC 1 dX8_fitting_55 rfl rfl ?_
        refine g_aload_n hC 2 dX8_fitting_56 rfl rfl ?_
        refine g_iload hC 4 dX8_fitting_57 rfl ?_
        obtain ⟨q_3, hf⟩ := hf
        refine g_ialdk (v4_2.toNat) hC h_a2 q_3.1 q_3.2 rfl dX8_fitting_59 ?_
        refine g_iconst hC dX8_fitting_60 ?_
        refine g_iload hC 4 dX8_fitting_61 rfl ?_
        refine g_ishl hC dX8_fitting_63 ?_
        refine g_ior hC dX8_fitting_64 ?_
        refine g_callVZ hC (sk := []) [.ref (B + a1), J (bOr (M a2 (v4_2.toNat)) (bShl 1 v4_2))] (c_X8_fitsAt l B D K a1 (bOr (M a2 (v4_2.toNat)) (bShl 1 v4_2)) h_a1 (bOr_in _ _) M hM _ hf) yv_X8_fitsAt wm_X8_40 okX8.1 sc63 rfl ⟨Nat.le_of_ble_eq_true rfl, Nat.le_of_ble_eq_true rfl, Nat.le_of_ble_eq_true rfl, Nat.le_of_ble_eq_true rfl⟩ rfl (Nat.le_of_ble_eq_true rfl) dX8_fitting_65 ?_
        rintro r_4 M_5 h_r_4 - ⟨rfl, hf⟩
        refine g_if_eq hC 78 (zi_ h_r_4) dX8_fitting_68 rfl (fun c_11 => ?_) (fun c_11 => ?_)
        · replace hf := hf.1 c_11
          obtain ⟨q_7, hf⟩ := hf
          obtain ⟨v4_6, e_v4_6⟩ : ∃ z : Int, z = v4_2 + 1 := ⟨_, rfl⟩
          replace hf := hf v4_6 e_v4_6
          have h_v4_6 : inR v4_6 := by rw [e_v4_6]; exact q_7
          refine g_iincv hC 4 e_v4_6 [(4, J v4_6), (0, .ref (B + 63)), (1, .ref (B + a1)), (2, .ref (B + a2)), (3, J v3_1)] dX8_fitting_78 rfl (by decide) rfl ?_
          refine g_goto hC 45 dX8_fitting_81 rfl ?_
          refine g_sub [(0, .ref (B + 63)), (1, .ref (B + a1)), (2, .ref (B + a2)), (3, J v3_1), (4, J v4_6)] [1, 2, 3, 4, 0] rfl ?_
          exact ih45 v3_1 v4_6 hf h_v3_1 h_v4_6
        · replace hf := hf.2 c_11
          refine g_iload_n hC 3 dX8_fitting_71 rfl rfl ?_
          refine g_iconst hC dX8_fitting_72 ?_
          refine g_iload hC 4 dX8_fitting_73 rfl ?_
          refine g_ishl hC dX8_fitting_75 ?_
          refine g_ior hC dX8_fitting_76 ?_
          refine g_nm (fun v3_8 e_v3_8 => ?_)
          replace hf := hf v3_8 e_v3_8
          have h_v3_8 : inR v3_8 := by rw [e_v3_8]; exact (bOr_in _ _)
          refine g_istore_n hC [(3, J v3_8), (0, .ref (B + 63)), (1, .ref (B + a1)), (2, .ref (B + a2)), (4, J v4_2)] dX8_fitting_77 rfl (by decide) rfl ?_
          obtain ⟨q_10, hf⟩ := hf
          obtain ⟨v4_9, e_v4_9⟩ : ∃ z : Int, z = v4_2 + 1 := ⟨_, rfl⟩
          replace hf := hf v4_9 e_v4_9
          have h_v4_9 : inR v4_9 := by rw [e_v4_9]; exact q_10
          refine g_iincv hC 4 e_v4_9 [(4, J v4_9), (3, J v3_8), (0, .ref (B + 63)), (1, .ref (B + a1)), (2, .ref (B + a2))] dX8_fitting_78 rfl (by decide) rfl ?_
          refine g_goto hC 45 dX8_fitting_81 rfl ?_
          refine g_sub [(0, .ref (B + 63)), (1, .ref (B + a1)), (2, .ref (B + a2)), (3, J v3_8), (4, J v4_9)] [2, 3, 4, 1, 0] rfl ?_
          exact ih45 v3_8 v4_9 hf h_v3_8 h_v4_9
    · intro J40 hJ40 hf
      refine g_sub [(0, .ref (B + 63)), (1, .ref (B + a1)), (2, .ref (B + a2)), (3, J 0)] [1, 2, 3, 0] rfl ?_
      refine wl1_elim (fun (v3_13 : Int) => inR v3_13 → G p l e (rmF 1 23) s m args below meth c B D K 5 0 0 (ZI below args s B D K (fun r M1 => M = M1 ∧ Q r)) M 11 [(0, .ref (B + 63)), (1, .ref (B + a1)), (2, .ref (B + a2)), (3, J v3_13)] []) ?_ 5000 0 hf (by unfold inR; omega)
      intro rec11 ih11 v3_13 hf h_v3_13
      unfold X8_fitting_b11 at hf
      refine g_iload_n hC 3 dX8_fitting_11 rfl rfl ?_
      refine g_aload_n hC 0 dX8_fitting_12 rfl rfl ?_
      refine g_geti hC okX8 sc63 0 (by decide) rfl wf_X8_28 dX8_fitting_13 ?_
      refine g_icmp_ge hC 40 h_v3_13 (hM _ _) dX8_fitting_16 rfl (fun c_20 => ?_) (fun c_20 => ?_)
      · replace hf := hf.1 c_20
        refine g_sub [(0, .ref (B + 63)), (1, .ref (B + a1)), (2, .ref (B + a2))] [0, 1, 2] rfl ?_
        exact hJ40 hf
      · replace hf := hf.2 c_20
        refine g_aload_n hC 1 dX8_fitting_19 rfl rfl ?_
        refine g_aload_n hC 0 dX8_fitting_20 rfl rfl ?_
        refine g_getr hC okX8 sc63 1 (by decide) rfl wf_X8_9 dX8_fitting_21 ?_
        refine g_iload_n hC 3 dX8_fitting_24 rfl rfl ?_
        obtain ⟨q_14, hf⟩ := hf
        refine g_ialdk (v3_13.toNat) hC sc64 q_14.1 q_14.2 rfl dX8_fitting_25 ?_
        refine g_callVZ hC (sk := []) [J (M 64 (v3_13.toNat))] (c_X5_isReach l B D K a1 (M 64 (v3_13.toNat)) h_a1 (hM _ _) M hM _ hf) yv_X5_isReach wm_X8_31 okX5.1 (sh_X5 h_a1) rfl ⟨Nat.le_of_ble_eq_true rfl, Nat.le_of_ble_eq_true rfl, Nat.le_of_ble_eq_true rfl, Nat.le_of_ble_eq_true rfl⟩ rfl (Nat.le_of_ble_eq_true rfl) dX8_fitting_26 ?_
        rintro r_15 M_16 h_r_15 - ⟨rfl, hf⟩
        refine g_if_ne hC 34 (zi_ h_r_15) dX8_fitting_29 rfl (fun c_19 => ?_) (fun c_19 => ?_)
        · replace hf := hf.1 c_19
          obtain ⟨q_18, hf⟩ := hf
          obtain ⟨v3_17, e_v3_17⟩ : ∃ z : Int, z = v3_13 + 1 := ⟨_, rfl⟩
          replace hf := hf v3_17 e_v3_17
          have h_v3_17 : inR v3_17 := by rw [e_v3_17]; exact q_18
          refine g_iincv hC 3 e_v3_17 [(3, J v3_17), (0, .ref (B + 63)), (1, .ref (B + a1)), (2, .ref (B + a2))] dX8_fitting_34 rfl (by decide) rfl ?_
          refine g_goto hC 11 dX8_fitting_37 rfl ?_
          refine g_sub [(0, .ref (B + 63)), (1, .ref (B + a1)), (2, .ref (B + a2)), (3, J v3_17)] [1, 2, 3, 0] rfl ?_
          exact ih11 v3_17 hf h_v3_17
        · replace hf := hf.2 c_19
          refine g_iconst hC dX8_fitting_32 ?_
          exact g_reti hC (by unfold inR; omega) hM ⟨rfl, hf⟩ dX8_fitting_33
  · replace hf := hf.2 c_21
    refine g_iconst hC dX8_fitting_7 ?_
    exact g_reti hC (by unfold inR; omega) hM ⟨rfl, hf⟩ dX8_fitting_8
set_option maxHeartbeats 4000000 in
set_option maxRecDepth 100000 in
theorem c_X9_weight (l : Launch) (B : Nat) (D : va_G) (K : Nat → ClassId) (a0 : Nat) (a1 : Nat) (v2 : Int) (v3 : Int) (h_a0 : is_X5 a0) (h_a1 : is_X1 a1) (i_v2 : inR v2) (i_v3 : inR v3) (M : Mem) (hM : MR M) (Q : Int → Prop) (hf : f_X9_weight a0 a1 v2 v3 M Q) : CtI l yX9_weight cX9_weight 4 0 0 B D K [.ref (B + a0), .ref (B + a1), J v2, J v3] M (fun r M1 => M = M1 ∧ Q r) := by
  refine ct_i (by decide) (Nat.le_of_ble_eq_true rfl) ?_
  intro p e s m args below meth c hC
  have hC : Cx p s m args meth c D K cX9_weight 4 RX9 (some .int) := hC
  unfold f_X9_weight at hf
  refine (show G p l e (rmF 0 0) s m args below meth c B D K 4 0 0 (ZI below args s B D K (fun r M1 => M = M1 ∧ Q r)) M 0 [(0, .ref (B + a0)), (1, .ref (B + a1)), (2, J v2), (3, J v3)] [] from ?_)
  refine g_iload_n hC 3 dX9_weight_0 rfl rfl ?_
  refine g_if_eq hC 23 i_v3 dX9_weight_1 rfl (fun c_5 => ?_) (fun c_5 => ?_)
  · replace hf := hf.1 c_5
    refine g_aload_n hC 1 dX9_weight_23 rfl rfl ?_
    refine g_getr hC okX1 (sh_X1 h_a1) 10 (by decide) rfl wf_X9_55 dX9_weight_24 ?_
    refine g_getr hC okX2 (sh_X2 (fl_X1_10 h_a1)) 0 (by decide) rfl wf_X9_61 dX9_weight_27 ?_
    refine g_iload_n hC 2 dX9_weight_30 rfl rfl ?_
    obtain ⟨q_1, hf⟩ := hf
    refine g_ialdk (v2.toNat) hC (sh_X2_0 (fl_X1_10 h_a1)) q_1.1 q_1.2 rfl dX9_weight_31 ?_
    exact g_reti hC (hM _ _) hM ⟨rfl, hf⟩ dX9_weight_32
  · replace hf := hf.2 c_5
    refine g_aload_n hC 0 dX9_weight_4 rfl rfl ?_
    refine g_getr hC okX5 (sh_X5 h_a0) 4 (by decide) rfl wf_X9_82 dX9_weight_5 ?_
    refine g_iload_n hC 2 dX9_weight_8 rfl rfl ?_
    obtain ⟨q_2, hf⟩ := hf
    refine g_ialdk (v2.toNat) hC (sh_X5_4 h_a0) q_2.1 q_2.2 rfl dX9_weight_9 ?_
    refine g_aload_n hC 1 dX9_weight_10 rfl rfl ?_
    refine g_getr hC okX1 (sh_X1 h_a1) 6 (by decide) rfl wf_X9_85 dX9_weight_11 ?_
    refine g_aload_n hC 0 dX9_weight_14 rfl rfl ?_
    refine g_getr hC okX5 (sh_X5 h_a0) 2 (by decide) rfl wf_X9_79 dX9_weight_15 ?_
    refine g_iload_n hC 2 dX9_weight_18 rfl rfl ?_
    refine g_ialdk (v2.toNat) hC (sh_X5_2 h_a0) q_2.1 q_2.2 rfl dX9_weight_19 ?_
    obtain ⟨q_3, hf⟩ := hf
    refine g_ialdk ((M (a0 + 1) (v2.toNat)).toNat) hC (sh_X1_6 h_a1) q_3.1 q_3.2 rfl dX9_weight_20 ?_
    refine g_iadd hC dX9_weight_21 ?_
    obtain ⟨q_4, hf⟩ := hf
    exact g_reti hC q_4 hM ⟨rfl, hf⟩ dX9_weight_22
set_option maxHeartbeats 4000000 in
set_option maxRecDepth 100000 in
theorem c_X9_findMains (l : Launch) (B : Nat) (D : va_G) (K : Nat → ClassId) (n : Nat) (a1 : Nat) (a2 : Nat) (v3 : Int) (h_n : is_X9 n) (h_a1 : is_X5 a1) (h_a2 : is_X1 a2) (i_v3 : inR v3) (M : Mem) (hM : MR M) (Q : Mem → Prop) (hf : f_X9_findMains n a1 a2 v3 M Q) : CtV l yX9_findMains cX9_findMains 8 1 23 B D K [.ref (B + n), .ref (B + a1), .ref (B + a2), J v3] M Q := by
  refine ct_v (by decide) (Nat.le_of_ble_eq_true rfl) ?_
  intro p e s m args below meth c hC
  have hC : Cx p s m args meth c D K cX9_findMains 8 RX9 none := hC
  unfold f_X9_findMains at hf
  refine (show G p l e (rmF 1 23) s m args below meth c B D K 8 0 0 (ZV below args s B D K Q) M 0 [(0, .ref (B + n)), (1, .ref (B + a1)), (2, .ref (B + a2)), (3, J v3)] [] from ?_)
  refine g_aload_n hC 0 dX9_findMains_0 rfl rfl ?_
  refine g_getr hC okX9 (sh_X9 h_n) 0 (by decide) rfl wf_X9_9 dX9_findMains_1 ?_
  refine g_iconst hC dX9_findMains_4 ?_
  refine g_callSV hC (sk := []) [.ref (B + (n + 1)), J (-1)] (c_fill l B D K (n + 1) _ (sh_X9_0 h_n) (-1) (by unfold inR; omega) M hM) yv_J7_fill_53178 wm_X9_49 rfl ⟨Nat.le_of_ble_eq_true rfl, Nat.le_of_ble_eq_true rfl, Nat.le_of_ble_eq_true rfl, Nat.le_of_ble_eq_true rfl⟩ rfl (Nat.le_of_ble_eq_true rfl) dX9_findMains_5 ?_
  intro M_1 h_M_1 e_M_1
  replace hf := hf M_1 e_M_1
  refine g_aload_n hC 0 dX9_findMains_8 rfl rfl ?_
  refine g_getr hC okX9 (sh_X9 h_n) 1 (by decide) rfl wf_X9_15 dX9_findMains_9 ?_
  refine g_iconst hC dX9_findMains_12 ?_
  refine g_callSV hC (sk := []) [.ref (B + (n + 2)), J (-1)] (c_fill l B D K (n + 2) _ (sh_X9_1 h_n) (-1) (by unfold inR; omega) M_1 h_M_1) yv_J7_fill_53178 wm_X9_49 rfl ⟨Nat.le_of_ble_eq_true rfl, Nat.le_of_ble_eq_true rfl, Nat.le_of_ble_eq_true rfl, Nat.le_of_ble_eq_true rfl⟩ rfl (Nat.le_of_ble_eq_true rfl) dX9_findMains_13 ?_
  intro M_2 h_M_2 e_M_2
  replace hf := hf M_2 e_M_2
  refine g_aload_n hC 2 dX9_findMains_16 rfl rfl ?_
  refine g_getr hC okX1 (sh_X1 h_a2) 10 (by decide) rfl wf_X9_55 dX9_findMains_17 ?_
  refine g_getr hC okX2 (sh_X2 (fl_X1_10 h_a2)) 0 (by decide) rfl wf_X9_61 dX9_findMains_20 ?_
  refine g_astore hC [(4, .ref (B + ((a2 + 11) + 1))), (0, .ref (B + n)), (1, .ref (B + a1)), (2, .ref (B + a2)), (3, J v3)] dX9_findMains_23 (by decide) rfl ?_
  refine g_iconst hC dX9_findMains_25 ?_
  refine g_istore hC [(5, J 0), (4, .ref (B + ((a2 + 11) + 1))), (0, .ref (B + n)), (1, .ref (B + a1)), (2, .ref (B + a2)), (3, J v3)] dX9_findMains_26 (by decide) rfl ?_
  refine g_sub [(0, .ref (B + n)), (1, .ref (B + a1)), (2, .ref (B + a2)), (3, J v3), (4, .ref (B + ((a2 + 11) + 1))), (5, J 0)] [2, 3, 4, 5, 1, 0] rfl ?_
  refine wl2_elim (fun (v5_3 : Int) (M_4 : Mem) => inR v5_3 → MR M_4 → G p l e (rmF 1 23) s m args below meth c B D K 8 0 0 (ZV below args s B D K Q) M_4 28 [(0, .ref (B + n)), (1, .ref (B + a1)), (2, .ref (B + a2)), (3, J v3), (4, .ref (B + ((a2 + 11) + 1))), (5, J v5_3)] []) ?_ 5000 0 M_2 hf (by unfold inR; omega) h_M_2
  intro rec28 ih28 v5_3 M_4 hf h_v5_3 h_M_4
  unfold X9_findMains_b28 at hf
  refine g_iload hC 5 dX9_findMains_28 rfl ?_
  refine g_aload_n hC 1 dX9_findMains_30 rfl rfl ?_
  refine g_geti hC okX5 (sh_X5 h_a1) 1 (by decide) rfl wf_X9_66 dX9_findMains_31 ?_
  refine g_icmp_ge hC 143 h_v5_3 (h_M_4 _ _) dX9_findMains_34 rfl (fun c_30 => ?_) (fun c_30 => ?_)
  · replace hf := hf.1 c_30
    exact g_retv hC h_M_4 hf dX9_findMains_143
  · replace hf := hf.2 c_30
    refine g_aload_n hC 0 dX9_findMains_37 rfl rfl ?_
    refine g_getr hC okX9 (sh_X9 h_n) 0 (by decide) rfl wf_X9_9 dX9_findMains_38 ?_
    refine g_aload_n hC 1 dX9_findMains_41 rfl rfl ?_
    refine g_getr hC okX5 (sh_X5 h_a1) 3 (by decide) rfl wf_X9_72 dX9_findMains_42 ?_
    refine g_iload hC 5 dX9_findMains_45 rfl ?_
    obtain ⟨q_5, hf⟩ := hf
    refine g_ialdk (v5_3.toNat) hC (sh_X5_3 h_a1) q_5.1 q_5.2 rfl dX9_findMains_47 ?_
    obtain ⟨q_6, hf⟩ := hf
    refine g_ialdk ((M_4 (a1 + 2) (v5_3.toNat)).toNat) hC (sh_X9_0 h_n) q_6.1 q_6.2 rfl dX9_findMains_48 ?_
    refine g_nm (fun v6_7 e_v6_7 => ?_)
    replace hf := hf v6_7 e_v6_7
    have h_v6_7 : inR v6_7 := by rw [e_v6_7]; exact (h_M_4 _ _)
    refine g_istore hC [(6, J v6_7), (0, .ref (B + n)), (1, .ref (B + a1)), (2, .ref (B + a2)), (3, J v3), (4, .ref (B + ((a2 + 11) + 1))), (5, J v5_3)] dX9_findMains_49 (by decide) rfl ?_
    refine g_iload hC 0 dX9_findMains_51 rfl ?_
    refine g_iconst hC dX9_findMains_53 ?_
    refine jn_elim (fun (k : Mem → Prop) => ∀ (M_8 : Mem), k M_8 → (MR M_8) → G p l e (rmF 1 23) s m args below meth c B D K 8 0 0 (ZV below args s B D K Q) M_8 90 [(0, .ref (B + n)), (1, .ref (B + a1)), (2, .ref (B + a2)), (3, J v3), (4, .ref (B + ((a2 + 11) + 1))), (5, J v5_3)] []) hf ?_ ?_
    · intro M_8 hf h_M_8
      refine g_aload_n hC 0 dX9_findMains_90 rfl rfl ?_
      refine g_getr hC okX9 (sh_X9 h_n) 1 (by decide) rfl wf_X9_15 dX9_findMains_91 ?_
      refine g_aload_n hC 1 dX9_findMains_94 rfl rfl ?_
      refine g_getr hC okX5 (sh_X5 h_a1) 2 (by decide) rfl wf_X9_79 dX9_findMains_95 ?_
      refine g_iload hC 5 dX9_findMains_98 rfl ?_
      refine g_ialdk (v5_3.toNat) hC (sh_X5_2 h_a1) q_5.1 q_5.2 rfl dX9_findMains_100 ?_
      obtain ⟨q_9, hf⟩ := hf
      refine g_ialdk ((M_8 (a1 + 1) (v5_3.toNat)).toNat) hC (sh_X9_1 h_n) q_9.1 q_9.2 rfl dX9_findMains_101 ?_
      refine g_nm (fun v7_10 e_v7_10 => ?_)
      replace hf := hf v7_10 e_v7_10
      have h_v7_10 : inR v7_10 := by rw [e_v7_10]; exact (h_M_8 _ _)
      refine g_istore hC [(7, J v7_10), (0, .ref (B + n)), (1, .ref (B + a1)), (2, .ref (B + a2)), (3, J v3), (4, .ref (B + ((a2 + 11) + 1))), (5, J v5_3)] dX9_findMains_102 (by decide) rfl ?_
      refine g_iload hC 0 dX9_findMains_104 rfl ?_
      refine g_iconst hC dX9_findMains_106 ?_
      refine jn_elim (fun (k : Int → Prop) => ∀ (v5_11 : Int), k v5_11 → (inR v5_11) → G p l e (rmF 1 23) s m args below meth c B D K 8 0 0 (ZV below args s B D K Q) M_8 123 [(0, .ref (B + n)), (1, .ref (B + a1)), (2, .ref (B + a2)), (3, J v3), (4, .ref (B + ((a2 + 11) + 1))), (5, J v5_11)] []) hf ?_ ?_
      · intro v5_11 hf h_v5_11
        refine g_aload_n hC 0 dX9_findMains_123 rfl rfl ?_
        refine g_getr hC okX9 (sh_X9 h_n) 1 (by decide) rfl wf_X9_15 dX9_findMains_124 ?_
        refine g_aload_n hC 1 dX9_findMains_127 rfl rfl ?_
        refine g_getr hC okX5 (sh_X5 h_a1) 2 (by decide) rfl wf_X9_79 dX9_findMains_128 ?_
        refine g_iload hC 5 dX9_findMains_131 rfl ?_
        obtain ⟨q_12, hf⟩ := hf
        refine g_ialdk (v5_11.toNat) hC (sh_X5_2 h_a1) q_12.1 q_12.2 rfl dX9_findMains_133 ?_
        refine g_iload hC 5 dX9_findMains_134 rfl ?_
        obtain ⟨q_13, hf⟩ := hf
        refine g_iastk ((M_8 (a1 + 1) (v5_11.toNat)).toNat) hC (sh_X9_1 h_n) q_13.1 q_13.2 rfl dX9_findMains_136 ?_
        refine g_nmM (fun M_14 e_M_14 => ?_)
        replace hf := hf M_14 e_M_14
        have h_M_14 : MR M_14 := by rw [e_M_14]; exact MR_st h_M_8 h_v5_11
        obtain ⟨q_16, hf⟩ := hf
        obtain ⟨v5_15, e_v5_15⟩ : ∃ z : Int, z = v5_11 + 1 := ⟨_, rfl⟩
        replace hf := hf v5_15 e_v5_15
        have h_v5_15 : inR v5_15 := by rw [e_v5_15]; exact q_16
        refine g_iincv hC 5 e_v5_15 [(5, J v5_15), (0, .ref (B + n)), (1, .ref (B + a1)), (2, .ref (B + a2)), (3, J v3), (4, .ref (B + ((a2 + 11) + 1)))] dX9_findMains_137 rfl (by decide) rfl ?_
        refine g_goto hC 28 dX9_findMains_140 rfl ?_
        refine g_sub [(0, .ref (B + n)), (1, .ref (B + a1)), (2, .ref (B + a2)), (3, J v3), (4, .ref (B + ((a2 + 11) + 1))), (5, J v5_15)] [1, 2, 3, 4, 5, 0] rfl ?_
        exact ih28 v5_15 M_14 hf h_v5_15 h_M_14
      · intro J123 hJ123 hf
        refine g_icmp_eq hC 123 h_v7_10 (by unfold inR; omega) dX9_findMains_107 rfl (fun c_21 => ?_) (fun c_21 => ?_)
        · replace hf := hf.1 c_21
          refine g_sub [(0, .ref (B + n)), (1, .ref (B + a1)), (2, .ref (B + a2)), (3, J v3), (4, .ref (B + ((a2 + 11) + 1))), (5, J v5_3)] [1, 2, 3, 4, 5, 6] rfl ?_
          exact hJ123 v5_3 hf h_v5_3
        · replace hf := hf.2 c_21
          refine g_aload hC 5 dX9_findMains_110 rfl ?_
          refine g_iload hC 6 dX9_findMains_112 rfl ?_
          refine g_ialdk (v5_3.toNat) hC (sh_X2_0 (fl_X1_10 h_a2)) q_5.1 q_5.2 rfl dX9_findMains_114 ?_
          refine g_aload hC 5 dX9_findMains_115 rfl ?_
          refine g_iload hC 0 dX9_findMains_117 rfl ?_
          obtain ⟨q_17, hf⟩ := hf
          refine g_ialdk (v7_10.toNat) hC (sh_X2_0 (fl_X1_10 h_a2)) q_17.1 q_17.2 rfl dX9_findMains_119 ?_
          refine g_icmp_le hC 137 (h_M_8 _ _) (h_M_8 _ _) dX9_findMains_120 rfl (fun c_20 => ?_) (fun c_20 => ?_)
          · replace hf := hf.1 c_20
            obtain ⟨q_19, hf⟩ := hf
            obtain ⟨v5_18, e_v5_18⟩ : ∃ z : Int, z = v5_3 + 1 := ⟨_, rfl⟩
            replace hf := hf v5_18 e_v5_18
            have h_v5_18 : inR v5_18 := by rw [e_v5_18]; exact q_19
            refine g_iincv hC 6 e_v5_18 [(5, J v5_18), (7, J v7_10), (0, .ref (B + n)), (1, .ref (B + a1)), (2, .ref (B + a2)), (3, J v3), (4, .ref (B + ((a2 + 11) + 1)))] dX9_findMains_137 rfl (by decide) rfl ?_
            refine g_goto hC 28 dX9_findMains_140 rfl ?_
            refine g_sub [(0, .ref (B + n)), (1, .ref (B + a1)), (2, .ref (B + a2)), (3, J v3), (4, .ref (B + ((a2 + 11) + 1))), (5, J v5_18)] [2, 3, 4, 5, 6, 0] rfl ?_
            exact ih28 v5_18 M_8 hf h_v5_18 h_M_8
          · replace hf := hf.2 c_20
            refine g_sub [(0, .ref (B + n)), (1, .ref (B + a1)), (2, .ref (B + a2)), (3, J v3), (4, .ref (B + ((a2 + 11) + 1))), (5, J v5_3)] [1, 2, 3, 4, 5, 6] rfl ?_
            exact hJ123 v5_3 hf h_v5_3
    · intro J90 hJ90 hf
      refine g_icmp_eq hC 76 h_v6_7 (by unfold inR; omega) dX9_findMains_54 rfl (fun c_29 => ?_) (fun c_29 => ?_)
      · replace hf := hf.1 c_29
        refine g_aload_n hC 1 dX9_findMains_76 rfl rfl ?_
        refine g_getr hC okX9 (sh_X9 h_n) 0 (by decide) rfl wf_X9_9 dX9_findMains_77 ?_
        refine g_aload_n hC 2 dX9_findMains_80 rfl rfl ?_
        refine g_getr hC okX5 (sh_X5 h_a1) 3 (by decide) rfl wf_X9_72 dX9_findMains_81 ?_
        refine g_iload hC 6 dX9_findMains_84 rfl ?_
        refine g_ialdk (v5_3.toNat) hC (sh_X5_3 h_a1) q_5.1 q_5.2 rfl dX9_findMains_86 ?_
        refine g_iload hC 6 dX9_findMains_87 rfl ?_
        refine g_iastk ((M_4 (a1 + 2) (v5_3.toNat)).toNat) hC (sh_X9_0 h_n) q_6.1 q_6.2 rfl dX9_findMains_89 ?_
        refine g_nmM (fun M_22 e_M_22 => ?_)
        replace hf := hf M_22 e_M_22
        have h_M_22 : MR M_22 := by rw [e_M_22]; exact MR_st h_M_4 h_v5_3
        refine g_sub [(0, .ref (B + n)), (1, .ref (B + a1)), (2, .ref (B + a2)), (3, J v3), (4, .ref (B + ((a2 + 11) + 1))), (5, J v5_3)] [1, 2, 3, 4, 5, 6] rfl ?_
        exact hJ90 M_22 hf h_M_22
      · replace hf := hf.2 c_29
        refine g_aload_n hC 2 dX9_findMains_57 rfl rfl ?_
        refine g_aload_n hC 3 dX9_findMains_58 rfl rfl ?_
        refine g_iload hC 6 dX9_findMains_59 rfl ?_
        refine g_iload_n hC 4 dX9_findMains_61 rfl rfl ?_
        refine g_callSI hC (sk := []) [.ref (B + a1), .ref (B + a2), J v5_3, J v3] (c_X9_weight l B D K a1 a2 v5_3 v3 h_a1 h_a2 h_v5_3 i_v3 M_4 h_M_4 _ hf) yv_X9_weight wm_X9_75 rfl ⟨Nat.le_of_ble_eq_true rfl, Nat.le_of_ble_eq_true rfl, Nat.le_of_ble_eq_true rfl, Nat.le_of_ble_eq_true rfl⟩ rfl (Nat.le_of_ble_eq_true rfl) dX9_findMains_62 ?_
        rintro r_23 M_24 h_r_23 - ⟨rfl, hf⟩
        refine g_aload_n hC 2 dX9_findMains_65 rfl rfl ?_
        refine g_aload_n hC 3 dX9_findMains_66 rfl rfl ?_
        refine g_iload hC 0 dX9_findMains_67 rfl ?_
        refine g_iload_n hC 4 dX9_findMains_69 rfl rfl ?_
        refine g_callSI hC (sk := [J r_23]) [.ref (B + a1), .ref (B + a2), J v6_7, J v3] (c_X9_weight l B D K a1 a2 v6_7 v3 h_a1 h_a2 h_v6_7 i_v3 M_4 h_M_4 _ hf) yv_X9_weight wm_X9_75 rfl ⟨Nat.le_of_ble_eq_true rfl, Nat.le_of_ble_eq_true rfl, Nat.le_of_ble_eq_true rfl, Nat.le_of_ble_eq_true rfl⟩ rfl (Nat.le_of_ble_eq_true rfl) dX9_findMains_70 ?_
        rintro r_25 M_26 h_r_25 - ⟨rfl, hf⟩
        refine g_icmp_le hC 90 h_r_23 h_r_25 dX9_findMains_73 rfl (fun c_28 => ?_) (fun c_28 => ?_)
        · replace hf := hf.1 c_28
          refine g_sub [(0, .ref (B + n)), (1, .ref (B + a1)), (2, .ref (B + a2)), (3, J v3), (4, .ref (B + ((a2 + 11) + 1))), (5, J v5_3)] [1, 2, 3, 4, 5, 6] rfl ?_
          exact hJ90 M_4 hf h_M_4
        · replace hf := hf.2 c_28
          refine g_aload_n hC 1 dX9_findMains_76 rfl rfl ?_
          refine g_getr hC okX9 (sh_X9 h_n) 0 (by decide) rfl wf_X9_9 dX9_findMains_77 ?_
          refine g_aload_n hC 2 dX9_findMains_80 rfl rfl ?_
          refine g_getr hC okX5 (sh_X5 h_a1) 3 (by decide) rfl wf_X9_72 dX9_findMains_81 ?_
          refine g_iload hC 6 dX9_findMains_84 rfl ?_
          refine g_ialdk (v5_3.toNat) hC (sh_X5_3 h_a1) q_5.1 q_5.2 rfl dX9_findMains_86 ?_
          refine g_iload hC 6 dX9_findMains_87 rfl ?_
          refine g_iastk ((M_4 (a1 + 2) (v5_3.toNat)).toNat) hC (sh_X9_0 h_n) q_6.1 q_6.2 rfl dX9_findMains_89 ?_
          refine g_nmM (fun M_27 e_M_27 => ?_)
          replace hf := hf M_27 e_M_27
          have h_M_27 : MR M_27 := by rw [e_M_27]; exact MR_st h_M_4 h_v5_3
          refine g_sub [(0, .ref (B + n)), (1, .ref (B + a1)), (2, .ref (B + a2)), (3, J v3), (4, .ref (B + ((a2 + 11) + 1))), (5, J v5_3)] [1, 2, 3, 4, 5, 6] rfl ?_
          exact hJ90 M_27 hf h_M_27
set_option maxHeartbeats 4000000 in
set_option maxRecDepth 100000 in
theorem c_X9_preferNames (l : Launch) (B : Nat) (D : va_G) (K : Nat → ClassId) (n : Nat) (a1 : Nat) (a2 : Nat) (h_n : is_X9 n) (h_a1 : is_X5 a1) (h_a2 : is_X9 a2) (M : Mem) (hM : MR M) (Q : Mem → Prop) (hf : f_X9_preferNames n a1 a2 M Q) : CtV l yX9_preferNames cX9_preferNames 6 0 0 B D K [.ref (B + n), .ref (B + a1), .ref (B + a2)] M Q := by
  refine ct_v (by decide) (Nat.le_of_ble_eq_true rfl) ?_
  intro p e s m args below meth c hC
  have hC : Cx p s m args meth c D K cX9_preferNames 6 RX9 none := hC
  unfold f_X9_preferNames at hf
  refine (show G p l e (rmF 0 0) s m args below meth c B D K 6 0 0 (ZV below args s B D K Q) M 0 [(0, .ref (B + n)), (1, .ref (B + a1)), (2, .ref (B + a2))] [] from ?_)
  refine g_aload_n hC 1 dX9_preferNames_0 rfl rfl ?_
  refine g_geti hC okX5 (sh_X5 h_a1) 1 (by decide) rfl wf_X9_66 dX9_preferNames_1 ?_
  refine g_iconst hC dX9_preferNames_4 ?_
  refine g_isub hC dX9_preferNames_5 ?_
  obtain ⟨q_1, hf⟩ := hf
  refine g_nm (fun v3_2 e_v3_2 => ?_)
  replace hf := hf v3_2 e_v3_2
  have h_v3_2 : inR v3_2 := by rw [e_v3_2]; exact q_1
  refine g_istore_n hC [(3, J v3_2), (0, .ref (B + n)), (1, .ref (B + a1)), (2, .ref (B + a2))] dX9_preferNames_6 rfl (by decide) rfl ?_
  refine g_sub [(0, .ref (B + n)), (1, .ref (B + a1)), (2, .ref (B + a2)), (3, J v3_2)] [1, 2, 3, 0] rfl ?_
  refine wl2_elim (fun (v3_3 : Int) (M_4 : Mem) => inR v3_3 → MR M_4 → G p l e (rmF 0 0) s m args below meth c B D K 6 0 0 (ZV below args s B D K Q) M_4 7 [(0, .ref (B + n)), (1, .ref (B + a1)), (2, .ref (B + a2)), (3, J v3_3)] []) ?_ 5000 v3_2 M hf h_v3_2 hM
  intro rec7 ih7 v3_3 M_4 hf h_v3_3 h_M_4
  unfold X9_preferNames_b7 at hf
  refine g_iload_n hC 3 dX9_preferNames_7 rfl rfl ?_
  refine g_if_lt hC 124 h_v3_3 dX9_preferNames_8 rfl (fun c_28 => ?_) (fun c_28 => ?_)
  · replace hf := hf.1 c_28
    exact g_retv hC h_M_4 hf dX9_preferNames_124
  · replace hf := hf.2 c_28
    refine g_aload_n hC 1 dX9_preferNames_11 rfl rfl ?_
    refine g_getr hC okX5 (sh_X5 h_a1) 6 (by decide) rfl wf_X9_88 dX9_preferNames_12 ?_
    refine g_iload_n hC 3 dX9_preferNames_15 rfl rfl ?_
    obtain ⟨q_5, hf⟩ := hf
    refine g_ialdk (v3_3.toNat) hC (sh_X5_6 h_a1) q_5.1 q_5.2 rfl dX9_preferNames_16 ?_
    refine g_iconst hC dX9_preferNames_17 ?_
    refine g_icmp_ne hC 24 (h_M_4 _ _) (by unfold inR; omega) dX9_preferNames_18 rfl (fun c_27 => ?_) (fun c_27 => ?_)
    · replace hf := hf.1 c_27
      refine g_aload_n hC 2 dX9_preferNames_24 rfl rfl ?_
      refine g_getr hC okX9 (sh_X9 h_a2) 1 (by decide) rfl wf_X9_15 dX9_preferNames_25 ?_
      refine g_aload_n hC 1 dX9_preferNames_28 rfl rfl ?_
      refine g_getr hC okX5 (sh_X5 h_a1) 3 (by decide) rfl wf_X9_72 dX9_preferNames_29 ?_
      refine g_iload_n hC 3 dX9_preferNames_32 rfl rfl ?_
      refine g_ialdk (v3_3.toNat) hC (sh_X5_3 h_a1) q_5.1 q_5.2 rfl dX9_preferNames_33 ?_
      obtain ⟨q_6, hf⟩ := hf
      refine g_ialdk ((M_4 (a1 + 2) (v3_3.toNat)).toNat) hC (sh_X9_1 h_a2) q_6.1 q_6.2 rfl dX9_preferNames_34 ?_
      refine g_nm (fun v4_7 e_v4_7 => ?_)
      replace hf := hf v4_7 e_v4_7
      have h_v4_7 : inR v4_7 := by rw [e_v4_7]; exact (h_M_4 _ _)
      refine g_istore hC [(4, J v4_7), (0, .ref (B + n)), (1, .ref (B + a1)), (2, .ref (B + a2)), (3, J v3_3)] dX9_preferNames_35 (by decide) rfl ?_
      refine g_iload hC 0 dX9_preferNames_37 rfl ?_
      refine g_iconst hC dX9_preferNames_39 ?_
      refine jn_elim (fun (k : Mem → Prop) => ∀ (M_8 : Mem), k M_8 → (MR M_8) → G p l e (rmF 0 0) s m args below meth c B D K 6 0 0 (ZV below args s B D K Q) M_8 71 [(0, .ref (B + n)), (1, .ref (B + a1)), (2, .ref (B + a2)), (3, J v3_3)] []) hf ?_ ?_
      · intro M_8 hf h_M_8
        refine g_aload_n hC 2 dX9_preferNames_71 rfl rfl ?_
        refine g_getr hC okX9 (sh_X9 h_a2) 0 (by decide) rfl wf_X9_9 dX9_preferNames_72 ?_
        refine g_aload_n hC 1 dX9_preferNames_75 rfl rfl ?_
        refine g_getr hC okX5 (sh_X5 h_a1) 2 (by decide) rfl wf_X9_79 dX9_preferNames_76 ?_
        refine g_iload_n hC 3 dX9_preferNames_79 rfl rfl ?_
        refine g_ialdk (v3_3.toNat) hC (sh_X5_2 h_a1) q_5.1 q_5.2 rfl dX9_preferNames_80 ?_
        obtain ⟨q_9, hf⟩ := hf
        refine g_ialdk ((M_8 (a1 + 1) (v3_3.toNat)).toNat) hC (sh_X9_0 h_a2) q_9.1 q_9.2 rfl dX9_preferNames_81 ?_
        refine g_nm (fun v5_10 e_v5_10 => ?_)
        replace hf := hf v5_10 e_v5_10
        have h_v5_10 : inR v5_10 := by rw [e_v5_10]; exact (h_M_8 _ _)
        refine g_istore hC [(5, J v5_10), (0, .ref (B + n)), (1, .ref (B + a1)), (2, .ref (B + a2)), (3, J v3_3)] dX9_preferNames_82 (by decide) rfl ?_
        refine g_iload hC 0 dX9_preferNames_84 rfl ?_
        refine g_iconst hC dX9_preferNames_86 ?_
        refine g_icmp_eq hC 118 h_v5_10 (by unfold inR; omega) dX9_preferNames_87 rfl (fun c_20 => ?_) (fun c_20 => ?_)
        · replace hf := hf.1 c_20
          obtain ⟨q_12, hf⟩ := hf
          obtain ⟨v3_11, e_v3_11⟩ : ∃ z : Int, z = v3_3 + (-1) := ⟨_, rfl⟩
          replace hf := hf v3_11 e_v3_11
          have h_v3_11 : inR v3_11 := by rw [e_v3_11]; exact q_12
          refine g_iincv hC 4 e_v3_11 [(3, J v3_11), (5, J v5_10), (0, .ref (B + n)), (1, .ref (B + a1)), (2, .ref (B + a2))] dX9_preferNames_118 rfl (by decide) rfl ?_
          refine g_goto hC 7 dX9_preferNames_121 rfl ?_
          refine g_sub [(0, .ref (B + n)), (1, .ref (B + a1)), (2, .ref (B + a2)), (3, J v3_11)] [2, 3, 4, 0] rfl ?_
          exact ih7 v3_11 M_8 hf h_v3_11 h_M_8
        · replace hf := hf.2 c_20
          refine g_aload_n hC 2 dX9_preferNames_90 rfl rfl ?_
          refine g_getr hC okX5 (sh_X5 h_a1) 6 (by decide) rfl wf_X9_88 dX9_preferNames_91 ?_
          refine g_iload hC 0 dX9_preferNames_94 rfl ?_
          obtain ⟨q_13, hf⟩ := hf
          refine g_ialdk (v5_10.toNat) hC (sh_X5_6 h_a1) q_13.1 q_13.2 rfl dX9_preferNames_96 ?_
          refine g_aload_n hC 2 dX9_preferNames_97 rfl rfl ?_
          refine g_getr hC okX5 (sh_X5 h_a1) 6 (by decide) rfl wf_X9_88 dX9_preferNames_98 ?_
          refine g_iload_n hC 4 dX9_preferNames_101 rfl rfl ?_
          refine g_ialdk (v3_3.toNat) hC (sh_X5_6 h_a1) q_5.1 q_5.2 rfl dX9_preferNames_102 ?_
          refine g_icmp_ne hC 118 (h_M_8 _ _) (h_M_8 _ _) dX9_preferNames_103 rfl (fun c_19 => ?_) (fun c_19 => ?_)
          · replace hf := hf.1 c_19
            obtain ⟨q_15, hf⟩ := hf
            obtain ⟨v3_14, e_v3_14⟩ : ∃ z : Int, z = v3_3 + (-1) := ⟨_, rfl⟩
            replace hf := hf v3_14 e_v3_14
            have h_v3_14 : inR v3_14 := by rw [e_v3_14]; exact q_15
            refine g_iincv hC 4 e_v3_14 [(3, J v3_14), (5, J v5_10), (0, .ref (B + n)), (1, .ref (B + a1)), (2, .ref (B + a2))] dX9_preferNames_118 rfl (by decide) rfl ?_
            refine g_goto hC 7 dX9_preferNames_121 rfl ?_
            refine g_sub [(0, .ref (B + n)), (1, .ref (B + a1)), (2, .ref (B + a2)), (3, J v3_14)] [2, 3, 4, 0] rfl ?_
            exact ih7 v3_14 M_8 hf h_v3_14 h_M_8
          · replace hf := hf.2 c_19
            refine g_aload_n hC 1 dX9_preferNames_106 rfl rfl ?_
            refine g_getr hC okX9 (sh_X9 h_n) 1 (by decide) rfl wf_X9_15 dX9_preferNames_107 ?_
            refine g_aload_n hC 2 dX9_preferNames_110 rfl rfl ?_
            refine g_getr hC okX5 (sh_X5 h_a1) 2 (by decide) rfl wf_X9_79 dX9_preferNames_111 ?_
            refine g_iload_n hC 4 dX9_preferNames_114 rfl rfl ?_
            refine g_ialdk (v3_3.toNat) hC (sh_X5_2 h_a1) q_5.1 q_5.2 rfl dX9_preferNames_115 ?_
            refine g_iload_n hC 4 dX9_preferNames_116 rfl rfl ?_
            refine g_iastk ((M_8 (a1 + 1) (v3_3.toNat)).toNat) hC (sh_X9_1 h_n) q_9.1 q_9.2 rfl dX9_preferNames_117 ?_
            refine g_nmM (fun M_16 e_M_16 => ?_)
            replace hf := hf M_16 e_M_16
            have h_M_16 : MR M_16 := by rw [e_M_16]; exact MR_st h_M_8 h_v3_3
            obtain ⟨q_18, hf⟩ := hf
            obtain ⟨v3_17, e_v3_17⟩ : ∃ z : Int, z = v3_3 + (-1) := ⟨_, rfl⟩
            replace hf := hf v3_17 e_v3_17
            have h_v3_17 : inR v3_17 := by rw [e_v3_17]; exact q_18
            refine g_iincv hC 4 e_v3_17 [(3, J v3_17), (5, J v5_10), (0, .ref (B + n)), (1, .ref (B + a1)), (2, .ref (B + a2))] dX9_preferNames_118 rfl (by decide) rfl ?_
            refine g_goto hC 7 dX9_preferNames_121 rfl ?_
            refine g_sub [(0, .ref (B + n)), (1, .ref (B + a1)), (2, .ref (B + a2)), (3, J v3_17)] [2, 3, 4, 0] rfl ?_
            exact ih7 v3_17 M_16 hf h_v3_17 h_M_16
      · intro J71 hJ71 hf
        refine g_icmp_eq hC 71 h_v4_7 (by unfold inR; omega) dX9_preferNames_40 rfl (fun c_24 => ?_) (fun c_24 => ?_)
        · replace hf := hf.1 c_24
          refine g_sub [(0, .ref (B + n)), (1, .ref (B + a1)), (2, .ref (B + a2)), (3, J v3_3)] [1, 2, 3, 4] rfl ?_
          exact hJ71 M_4 hf h_M_4
        · replace hf := hf.2 c_24
          refine g_aload_n hC 2 dX9_preferNames_43 rfl rfl ?_
          refine g_getr hC okX5 (sh_X5 h_a1) 6 (by decide) rfl wf_X9_88 dX9_preferNames_44 ?_
          refine g_iload hC 0 dX9_preferNames_47 rfl ?_
          obtain ⟨q_21, hf⟩ := hf
          refine g_ialdk (v4_7.toNat) hC (sh_X5_6 h_a1) q_21.1 q_21.2 rfl dX9_preferNames_49 ?_
          refine g_aload_n hC 2 dX9_preferNames_50 rfl rfl ?_
          refine g_getr hC okX5 (sh_X5 h_a1) 6 (by decide) rfl wf_X9_88 dX9_preferNames_51 ?_
          refine g_iload_n hC 4 dX9_preferNames_54 rfl rfl ?_
          refine g_ialdk (v3_3.toNat) hC (sh_X5_6 h_a1) q_5.1 q_5.2 rfl dX9_preferNames_55 ?_
          refine g_icmp_ne hC 71 (h_M_4 _ _) (h_M_4 _ _) dX9_preferNames_56 rfl (fun c_23 => ?_) (fun c_23 => ?_)
          · replace hf := hf.1 c_23
            refine g_sub [(0, .ref (B + n)), (1, .ref (B + a1)), (2, .ref (B + a2)), (3, J v3_3)] [1, 2, 3, 4] rfl ?_
            exact hJ71 M_4 hf h_M_4
          · replace hf := hf.2 c_23
            refine g_aload_n hC 1 dX9_preferNames_59 rfl rfl ?_
            refine g_getr hC okX9 (sh_X9 h_n) 0 (by decide) rfl wf_X9_9 dX9_preferNames_60 ?_
            refine g_aload_n hC 2 dX9_preferNames_63 rfl rfl ?_
            refine g_getr hC okX5 (sh_X5 h_a1) 3 (by decide) rfl wf_X9_72 dX9_preferNames_64 ?_
            refine g_iload_n hC 4 dX9_preferNames_67 rfl rfl ?_
            refine g_ialdk (v3_3.toNat) hC (sh_X5_3 h_a1) q_5.1 q_5.2 rfl dX9_preferNames_68 ?_
            refine g_iload_n hC 4 dX9_preferNames_69 rfl rfl ?_
            refine g_iastk ((M_4 (a1 + 2) (v3_3.toNat)).toNat) hC (sh_X9_0 h_n) q_6.1 q_6.2 rfl dX9_preferNames_70 ?_
            refine g_nmM (fun M_22 e_M_22 => ?_)
            replace hf := hf M_22 e_M_22
            have h_M_22 : MR M_22 := by rw [e_M_22]; exact MR_st h_M_4 h_v3_3
            refine g_sub [(0, .ref (B + n)), (1, .ref (B + a1)), (2, .ref (B + a2)), (3, J v3_3)] [1, 2, 3, 4] rfl ?_
            exact hJ71 M_22 hf h_M_22
    · replace hf := hf.2 c_27
      refine g_goto hC 118 dX9_preferNames_21 rfl ?_
      obtain ⟨q_26, hf⟩ := hf
      obtain ⟨v3_25, e_v3_25⟩ : ∃ z : Int, z = v3_3 + (-1) := ⟨_, rfl⟩
      replace hf := hf v3_25 e_v3_25
      have h_v3_25 : inR v3_25 := by rw [e_v3_25]; exact q_26
      refine g_iincv hC 3 e_v3_25 [(3, J v3_25), (0, .ref (B + n)), (1, .ref (B + a1)), (2, .ref (B + a2))] dX9_preferNames_118 rfl (by decide) rfl ?_
      refine g_goto hC 7 dX9_preferNames_121 rfl ?_
      refine g_sub [(0, .ref (B + n)), (1, .ref (B + a1)), (2, .ref (B + a2)), (3, J v3_25)] [1, 2, 3, 0] rfl ?_
      exact ih7 v3_25 M_4 hf h_v3_25 h_M_4
set_option maxHeartbeats 4000000 in
set_option maxRecDepth 100000 in
theorem c_X9_join (l : Launch) (B : Nat) (D : va_G) (K : Nat → ClassId) (n : Nat) (a1 : Nat) (h_n : is_X9 n) (h_a1 : is_X5 a1) (M : Mem) (hM : MR M) (Q : Mem → Prop) (hf : f_X9_join n a1 M Q) : CtV l yX9_join cX9_join 5 1 23 B D K [.ref (B + n), .ref (B + a1)] M Q := by
  refine ct_v (by decide) (Nat.le_of_ble_eq_true rfl) ?_
  intro p e s m args below meth c hC
  have hC : Cx p s m args meth c D K cX9_join 5 RX9 none := hC
  unfold f_X9_join at hf
  refine (show G p l e (rmF 1 23) s m args below meth c B D K 5 0 0 (ZV below args s B D K Q) M 0 [(0, .ref (B + n)), (1, .ref (B + a1))] [] from ?_)
  refine g_aload_n hC 0 dX9_join_0 rfl rfl ?_
  refine g_getr hC okX9 (sh_X9 h_n) 2 (by decide) rfl wf_X9_18 dX9_join_1 ?_
  refine g_iconst hC dX9_join_4 ?_
  refine g_callSV hC (sk := []) [.ref (B + (n + 3)), J (-1)] (c_fill l B D K (n + 3) _ (sh_X9_2 h_n) (-1) (by unfold inR; omega) M hM) yv_J7_fill_53178 wm_X9_49 rfl ⟨Nat.le_of_ble_eq_true rfl, Nat.le_of_ble_eq_true rfl, Nat.le_of_ble_eq_true rfl, Nat.le_of_ble_eq_true rfl⟩ rfl (Nat.le_of_ble_eq_true rfl) dX9_join_5 ?_
  intro M_1 h_M_1 e_M_1
  replace hf := hf M_1 e_M_1
  refine g_aload_n hC 0 dX9_join_8 rfl rfl ?_
  refine g_getr hC okX9 (sh_X9 h_n) 3 (by decide) rfl wf_X9_21 dX9_join_9 ?_
  refine g_iconst hC dX9_join_12 ?_
  refine g_callSV hC (sk := []) [.ref (B + (n + 4)), J (-1)] (c_fill l B D K (n + 4) _ (sh_X9_3 h_n) (-1) (by unfold inR; omega) M_1 h_M_1) yv_J7_fill_53178 wm_X9_49 rfl ⟨Nat.le_of_ble_eq_true rfl, Nat.le_of_ble_eq_true rfl, Nat.le_of_ble_eq_true rfl, Nat.le_of_ble_eq_true rfl⟩ rfl (Nat.le_of_ble_eq_true rfl) dX9_join_13 ?_
  intro M_2 h_M_2 e_M_2
  replace hf := hf M_2 e_M_2
  refine g_iconst hC dX9_join_16 ?_
  refine g_istore_n hC [(2, J 0), (0, .ref (B + n)), (1, .ref (B + a1))] dX9_join_17 rfl (by decide) rfl ?_
  refine g_sub [(0, .ref (B + n)), (1, .ref (B + a1)), (2, J 0)] [1, 2, 0] rfl ?_
  refine wl2_elim (fun (v2_3 : Int) (M_4 : Mem) => inR v2_3 → MR M_4 → G p l e (rmF 1 23) s m args below meth c B D K 5 0 0 (ZV below args s B D K Q) M_4 18 [(0, .ref (B + n)), (1, .ref (B + a1)), (2, J v2_3)] []) ?_ 5000 0 M_2 hf (by unfold inR; omega) h_M_2
  intro rec18 ih18 v2_3 M_4 hf h_v2_3 h_M_4
  unfold X9_join_b18 at hf
  refine g_iload_n hC 2 dX9_join_18 rfl rfl ?_
  refine g_aload_n hC 1 dX9_join_19 rfl rfl ?_
  refine g_geti hC okX5 (sh_X5 h_a1) 0 (by decide) rfl wf_X9_91 dX9_join_20 ?_
  refine g_icmp_ge hC 74 h_v2_3 (h_M_4 _ _) dX9_join_23 rfl (fun c_20 => ?_) (fun c_20 => ?_)
  · replace hf := hf.1 c_20
    exact g_retv hC h_M_4 hf dX9_join_74
  · replace hf := hf.2 c_20
    refine g_aload_n hC 0 dX9_join_26 rfl rfl ?_
    refine g_getr hC okX9 (sh_X9 h_n) 0 (by decide) rfl wf_X9_9 dX9_join_27 ?_
    refine g_iload_n hC 2 dX9_join_30 rfl rfl ?_
    obtain ⟨q_5, hf⟩ := hf
    refine g_ialdk (v2_3.toNat) hC (sh_X9_0 h_n) q_5.1 q_5.2 rfl dX9_join_31 ?_
    refine g_nm (fun v3_6 e_v3_6 => ?_)
    replace hf := hf v3_6 e_v3_6
    have h_v3_6 : inR v3_6 := by rw [e_v3_6]; exact (h_M_4 _ _)
    refine g_istore_n hC [(3, J v3_6), (0, .ref (B + n)), (1, .ref (B + a1)), (2, J v2_3)] dX9_join_32 rfl (by decide) rfl ?_
    refine g_aload_n hC 1 dX9_join_33 rfl rfl ?_
    refine g_getr hC okX9 (sh_X9 h_n) 1 (by decide) rfl wf_X9_15 dX9_join_34 ?_
    refine g_iload_n hC 3 dX9_join_37 rfl rfl ?_
    refine g_ialdk (v2_3.toNat) hC (sh_X9_1 h_n) q_5.1 q_5.2 rfl dX9_join_38 ?_
    refine g_nm (fun v4_7 e_v4_7 => ?_)
    replace hf := hf v4_7 e_v4_7
    have h_v4_7 : inR v4_7 := by rw [e_v4_7]; exact (h_M_4 _ _)
    refine g_istore hC [(4, J v4_7), (3, J v3_6), (0, .ref (B + n)), (1, .ref (B + a1)), (2, J v2_3)] dX9_join_39 (by decide) rfl ?_
    refine g_iload_n hC 1 dX9_join_41 rfl rfl ?_
    refine g_iconst hC dX9_join_42 ?_
    refine g_icmp_eq hC 68 h_v3_6 (by unfold inR; omega) dX9_join_43 rfl (fun c_19 => ?_) (fun c_19 => ?_)
    · replace hf := hf.1 c_19
      obtain ⟨q_9, hf⟩ := hf
      obtain ⟨v2_8, e_v2_8⟩ : ∃ z : Int, z = v2_3 + 1 := ⟨_, rfl⟩
      replace hf := hf v2_8 e_v2_8
      have h_v2_8 : inR v2_8 := by rw [e_v2_8]; exact q_9
      refine g_iincv hC 4 e_v2_8 [(2, J v2_8), (4, J v4_7), (3, J v3_6), (0, .ref (B + n)), (1, .ref (B + a1))] dX9_join_68 rfl (by decide) rfl ?_
      refine g_goto hC 18 dX9_join_71 rfl ?_
      refine g_sub [(0, .ref (B + n)), (1, .ref (B + a1)), (2, J v2_8)] [3, 4, 0] rfl ?_
      exact ih18 v2_8 M_4 hf h_v2_8 h_M_4
    · replace hf := hf.2 c_19
      refine g_iload hC 0 dX9_join_46 rfl ?_
      refine g_iconst hC dX9_join_48 ?_
      refine g_icmp_eq hC 68 h_v4_7 (by unfold inR; omega) dX9_join_49 rfl (fun c_18 => ?_) (fun c_18 => ?_)
      · replace hf := hf.1 c_18
        obtain ⟨q_11, hf⟩ := hf
        obtain ⟨v2_10, e_v2_10⟩ : ∃ z : Int, z = v2_3 + 1 := ⟨_, rfl⟩
        replace hf := hf v2_10 e_v2_10
        have h_v2_10 : inR v2_10 := by rw [e_v2_10]; exact q_11
        refine g_iincv hC 4 e_v2_10 [(2, J v2_10), (4, J v4_7), (3, J v3_6), (0, .ref (B + n)), (1, .ref (B + a1))] dX9_join_68 rfl (by decide) rfl ?_
        refine g_goto hC 18 dX9_join_71 rfl ?_
        refine g_sub [(0, .ref (B + n)), (1, .ref (B + a1)), (2, J v2_10)] [3, 4, 0] rfl ?_
        exact ih18 v2_10 M_4 hf h_v2_10 h_M_4
      · replace hf := hf.2 c_18
        refine g_aload_n hC 2 dX9_join_52 rfl rfl ?_
        refine g_getr hC okX9 (sh_X9 h_n) 2 (by decide) rfl wf_X9_18 dX9_join_53 ?_
        refine g_iload_n hC 1 dX9_join_56 rfl rfl ?_
        refine g_iload hC 0 dX9_join_57 rfl ?_
        obtain ⟨q_12, hf⟩ := hf
        refine g_iastk (v3_6.toNat) hC (sh_X9_2 h_n) q_12.1 q_12.2 rfl dX9_join_59 ?_
        refine g_nmM (fun M_13 e_M_13 => ?_)
        replace hf := hf M_13 e_M_13
        have h_M_13 : MR M_13 := by rw [e_M_13]; exact MR_st h_M_4 h_v4_7
        refine g_aload_n hC 2 dX9_join_60 rfl rfl ?_
        refine g_getr hC okX9 (sh_X9 h_n) 3 (by decide) rfl wf_X9_21 dX9_join_61 ?_
        refine g_iload hC 0 dX9_join_64 rfl ?_
        refine g_iload_n hC 1 dX9_join_66 rfl rfl ?_
        obtain ⟨q_14, hf⟩ := hf
        refine g_iastk (v4_7.toNat) hC (sh_X9_3 h_n) q_14.1 q_14.2 rfl dX9_join_67 ?_
        refine g_nmM (fun M_15 e_M_15 => ?_)
        replace hf := hf M_15 e_M_15
        have h_M_15 : MR M_15 := by rw [e_M_15]; exact MR_st h_M_13 h_v3_6
        obtain ⟨q_17, hf⟩ := hf
        obtain ⟨v2_16, e_v2_16⟩ : ∃ z : Int, z = v2_3 + 1 := ⟨_, rfl⟩
        replace hf := hf v2_16 e_v2_16
        have h_v2_16 : inR v2_16 := by rw [e_v2_16]; exact q_17
        refine g_iincv hC 4 e_v2_16 [(2, J v2_16), (4, J v4_7), (3, J v3_6), (0, .ref (B + n)), (1, .ref (B + a1))] dX9_join_68 rfl (by decide) rfl ?_
        refine g_goto hC 18 dX9_join_71 rfl ?_
        refine g_sub [(0, .ref (B + n)), (1, .ref (B + a1)), (2, J v2_16)] [3, 4, 0] rfl ?_
        exact ih18 v2_16 M_15 hf h_v2_16 h_M_15
set_option maxHeartbeats 4000000 in
set_option maxRecDepth 100000 in
theorem c_X9_leastBranchFrom (l : Launch) (B : Nat) (D : va_G) (K : Nat → ClassId) (n : Nat) (a1 : Nat) (v2 : Int) (h_n : is_X9 n) (h_a1 : is_X5 a1) (i_v2 : inR v2) (M : Mem) (hM : MR M) (Q : Int → Prop) (hf : f_X9_leastBranchFrom n a1 v2 M Q) : CtI l yX9_leastBranchFrom cX9_leastBranchFrom 5 0 0 B D K [.ref (B + n), .ref (B + a1), J v2] M (fun r M1 => M = M1 ∧ Q r) := by
  refine ct_i (by decide) (Nat.le_of_ble_eq_true rfl) ?_
  intro p e s m args below meth c hC
  have hC : Cx p s m args meth c D K cX9_leastBranchFrom 5 RX9 (some .int) := hC
  unfold f_X9_leastBranchFrom at hf
  refine (show G p l e (rmF 0 0) s m args below meth c B D K 5 0 0 (ZI below args s B D K (fun r M1 => M = M1 ∧ Q r)) M 0 [(0, .ref (B + n)), (1, .ref (B + a1)), (2, J v2)] [] from ?_)
  refine g_iconst hC dX9_leastBranchFrom_0 ?_
  refine g_istore_n hC [(3, J 0), (0, .ref (B + n)), (1, .ref (B + a1)), (2, J v2)] dX9_leastBranchFrom_1 rfl (by decide) rfl ?_
  refine g_iconst hC dX9_leastBranchFrom_2 ?_
  refine g_istore hC [(4, J 0), (3, J 0), (0, .ref (B + n)), (1, .ref (B + a1)), (2, J v2)] dX9_leastBranchFrom_3 (by decide) rfl ?_
  refine g_sub [(0, .ref (B + n)), (1, .ref (B + a1)), (2, J v2), (3, J 0), (4, J 0)] [2, 3, 4, 1, 0] rfl ?_
  refine wl2_elim (fun (v3_1 : Int) (v4_2 : Int) => inR v3_1 → inR v4_2 → G p l e (rmF 0 0) s m args below meth c B D K 5 0 0 (ZI below args s B D K (fun r M1 => M = M1 ∧ Q r)) M 5 [(0, .ref (B + n)), (1, .ref (B + a1)), (2, J v2), (3, J v3_1), (4, J v4_2)] []) ?_ 5000 0 0 hf (by unfold inR; omega) (by unfold inR; omega)
  intro rec5 ih5 v3_1 v4_2 hf h_v3_1 h_v4_2
  unfold X9_leastBranchFrom_b5 at hf
  refine g_iload hC 4 dX9_leastBranchFrom_5 rfl ?_
  refine g_aload_n hC 1 dX9_leastBranchFrom_7 rfl rfl ?_
  refine g_geti hC okX5 (sh_X5 h_a1) 1 (by decide) rfl wf_X9_66 dX9_leastBranchFrom_8 ?_
  refine g_icmp_ge hC 54 h_v4_2 (hM _ _) dX9_leastBranchFrom_11 rfl (fun c_17 => ?_) (fun c_17 => ?_)
  · replace hf := hf.1 c_17
    refine g_iload_n hC 3 dX9_leastBranchFrom_54 rfl rfl ?_
    exact g_reti hC h_v3_1 hM ⟨rfl, hf⟩ dX9_leastBranchFrom_55
  · replace hf := hf.2 c_17
    refine g_aload_n hC 1 dX9_leastBranchFrom_14 rfl rfl ?_
    refine g_getr hC okX5 (sh_X5 h_a1) 2 (by decide) rfl wf_X9_79 dX9_leastBranchFrom_15 ?_
    refine g_iload hC 4 dX9_leastBranchFrom_18 rfl ?_
    obtain ⟨q_3, hf⟩ := hf
    refine g_ialdk (v4_2.toNat) hC (sh_X5_2 h_a1) q_3.1 q_3.2 rfl dX9_leastBranchFrom_20 ?_
    refine g_iload_n hC 2 dX9_leastBranchFrom_21 rfl rfl ?_
    refine g_icmp_ne hC 48 (hM _ _) i_v2 dX9_leastBranchFrom_22 rfl (fun c_16 => ?_) (fun c_16 => ?_)
    · replace hf := hf.1 c_16
      obtain ⟨q_5, hf⟩ := hf
      obtain ⟨v4_4, e_v4_4⟩ : ∃ z : Int, z = v4_2 + 1 := ⟨_, rfl⟩
      replace hf := hf v4_4 e_v4_4
      have h_v4_4 : inR v4_4 := by rw [e_v4_4]; exact q_5
      refine g_iincv hC 4 e_v4_4 [(4, J v4_4), (0, .ref (B + n)), (1, .ref (B + a1)), (2, J v2), (3, J v3_1)] dX9_leastBranchFrom_48 rfl (by decide) rfl ?_
      refine g_goto hC 5 dX9_leastBranchFrom_51 rfl ?_
      refine g_sub [(0, .ref (B + n)), (1, .ref (B + a1)), (2, J v2), (3, J v3_1), (4, J v4_4)] [1, 2, 3, 4, 0] rfl ?_
      exact ih5 v3_1 v4_4 hf h_v3_1 h_v4_4
    · replace hf := hf.2 c_16
      refine g_iload_n hC 3 dX9_leastBranchFrom_25 rfl rfl ?_
      refine g_if_eq hC 40 h_v3_1 dX9_leastBranchFrom_26 rfl (fun c_15 => ?_) (fun c_15 => ?_)
      · replace hf := hf.1 c_15
        refine g_aload_n hC 0 dX9_leastBranchFrom_40 rfl rfl ?_
        refine g_getr hC okX9 (sh_X9 h_n) 4 (by decide) rfl wf_X9_24 dX9_leastBranchFrom_41 ?_
        refine g_iload hC 4 dX9_leastBranchFrom_44 rfl ?_
        refine g_ialdk (v4_2.toNat) hC (sh_X9_4 h_n) q_3.1 q_3.2 rfl dX9_leastBranchFrom_46 ?_
        refine g_nm (fun v3_6 e_v3_6 => ?_)
        replace hf := hf v3_6 e_v3_6
        have h_v3_6 : inR v3_6 := by rw [e_v3_6]; exact (hM _ _)
        refine g_istore_n hC [(3, J v3_6), (0, .ref (B + n)), (1, .ref (B + a1)), (2, J v2), (4, J v4_2)] dX9_leastBranchFrom_47 rfl (by decide) rfl ?_
        obtain ⟨q_8, hf⟩ := hf
        obtain ⟨v4_7, e_v4_7⟩ : ∃ z : Int, z = v4_2 + 1 := ⟨_, rfl⟩
        replace hf := hf v4_7 e_v4_7
        have h_v4_7 : inR v4_7 := by rw [e_v4_7]; exact q_8
        refine g_iincv hC 4 e_v4_7 [(4, J v4_7), (3, J v3_6), (0, .ref (B + n)), (1, .ref (B + a1)), (2, J v2)] dX9_leastBranchFrom_48 rfl (by decide) rfl ?_
        refine g_goto hC 5 dX9_leastBranchFrom_51 rfl ?_
        refine g_sub [(0, .ref (B + n)), (1, .ref (B + a1)), (2, J v2), (3, J v3_6), (4, J v4_7)] [2, 3, 4, 1, 0] rfl ?_
        exact ih5 v3_6 v4_7 hf h_v3_6 h_v4_7
      · replace hf := hf.2 c_15
        refine g_aload_n hC 0 dX9_leastBranchFrom_29 rfl rfl ?_
        refine g_getr hC okX9 (sh_X9 h_n) 4 (by decide) rfl wf_X9_24 dX9_leastBranchFrom_30 ?_
        refine g_iload hC 4 dX9_leastBranchFrom_33 rfl ?_
        refine g_ialdk (v4_2.toNat) hC (sh_X9_4 h_n) q_3.1 q_3.2 rfl dX9_leastBranchFrom_35 ?_
        refine g_iload_n hC 3 dX9_leastBranchFrom_36 rfl rfl ?_
        refine g_icmp_ge hC 48 (hM _ _) h_v3_1 dX9_leastBranchFrom_37 rfl (fun c_14 => ?_) (fun c_14 => ?_)
        · replace hf := hf.1 c_14
          obtain ⟨q_10, hf⟩ := hf
          obtain ⟨v4_9, e_v4_9⟩ : ∃ z : Int, z = v4_2 + 1 := ⟨_, rfl⟩
          replace hf := hf v4_9 e_v4_9
          have h_v4_9 : inR v4_9 := by rw [e_v4_9]; exact q_10
          refine g_iincv hC 4 e_v4_9 [(4, J v4_9), (0, .ref (B + n)), (1, .ref (B + a1)), (2, J v2), (3, J v3_1)] dX9_leastBranchFrom_48 rfl (by decide) rfl ?_
          refine g_goto hC 5 dX9_leastBranchFrom_51 rfl ?_
          refine g_sub [(0, .ref (B + n)), (1, .ref (B + a1)), (2, J v2), (3, J v3_1), (4, J v4_9)] [1, 2, 3, 4, 0] rfl ?_
          exact ih5 v3_1 v4_9 hf h_v3_1 h_v4_9
        · replace hf := hf.2 c_14
          refine g_aload_n hC 0 dX9_leastBranchFrom_40 rfl rfl ?_
          refine g_getr hC okX9 (sh_X9 h_n) 4 (by decide) rfl wf_X9_24 dX9_leastBranchFrom_41 ?_
          refine g_iload hC 4 dX9_leastBranchFrom_44 rfl ?_
          refine g_ialdk (v4_2.toNat) hC (sh_X9_4 h_n) q_3.1 q_3.2 rfl dX9_leastBranchFrom_46 ?_
          refine g_nm (fun v3_11 e_v3_11 => ?_)
          replace hf := hf v3_11 e_v3_11
          have h_v3_11 : inR v3_11 := by rw [e_v3_11]; exact (hM _ _)
          refine g_istore_n hC [(3, J v3_11), (0, .ref (B + n)), (1, .ref (B + a1)), (2, J v2), (4, J v4_2)] dX9_leastBranchFrom_47 rfl (by decide) rfl ?_
          obtain ⟨q_13, hf⟩ := hf
          obtain ⟨v4_12, e_v4_12⟩ : ∃ z : Int, z = v4_2 + 1 := ⟨_, rfl⟩
          replace hf := hf v4_12 e_v4_12
          have h_v4_12 : inR v4_12 := by rw [e_v4_12]; exact q_13
          refine g_iincv hC 4 e_v4_12 [(4, J v4_12), (3, J v3_11), (0, .ref (B + n)), (1, .ref (B + a1)), (2, J v2)] dX9_leastBranchFrom_48 rfl (by decide) rfl ?_
          refine g_goto hC 5 dX9_leastBranchFrom_51 rfl ?_
          refine g_sub [(0, .ref (B + n)), (1, .ref (B + a1)), (2, J v2), (3, J v3_11), (4, J v4_12)] [2, 3, 4, 1, 0] rfl ?_
          exact ih5 v3_11 v4_12 hf h_v3_11 h_v4_12
set_option maxHeartbeats 4000000 in
set_option maxRecDepth 100000 in
theorem c_X9_findBranches (l : Launch) (B : Nat) (D : va_G) (K : Nat → ClassId) (n : Nat) (a1 : Nat) (a2 : Nat) (h_n : is_X9 n) (h_a1 : is_X5 a1) (h_a2 : is_X1 a2) (M : Mem) (hM : MR M) (Q : Mem → Prop) (hf : f_X9_findBranches n a1 a2 M Q) : CtV l yX9_findBranches cX9_findBranches 5 1 24 B D K [.ref (B + n), .ref (B + a1), .ref (B + a2)] M Q := by
  refine ct_v (by decide) (Nat.le_of_ble_eq_true rfl) ?_
  intro p e s m args below meth c hC
  have hC : Cx p s m args meth c D K cX9_findBranches 5 RX9 none := hC
  unfold f_X9_findBranches at hf
  refine (show G p l e (rmF 1 24) s m args below meth c B D K 5 0 0 (ZV below args s B D K Q) M 0 [(0, .ref (B + n)), (1, .ref (B + a1)), (2, .ref (B + a2))] [] from ?_)
  refine g_aload_n hC 1 dX9_findBranches_0 rfl rfl ?_
  refine g_geti hC okX5 (sh_X5 h_a1) 1 (by decide) rfl wf_X9_66 dX9_findBranches_1 ?_
  refine g_iconst hC dX9_findBranches_4 ?_
  refine g_isub hC dX9_findBranches_5 ?_
  obtain ⟨q_1, hf⟩ := hf
  refine g_nm (fun v3_2 e_v3_2 => ?_)
  replace hf := hf v3_2 e_v3_2
  have h_v3_2 : inR v3_2 := by rw [e_v3_2]; exact q_1
  refine g_istore_n hC [(3, J v3_2), (0, .ref (B + n)), (1, .ref (B + a1)), (2, .ref (B + a2))] dX9_findBranches_6 rfl (by decide) rfl ?_
  refine g_sub [(0, .ref (B + n)), (1, .ref (B + a1)), (2, .ref (B + a2)), (3, J v3_2)] [1, 2, 3, 0] rfl ?_
  refine wl2_elim (fun (v3_3 : Int) (M_4 : Mem) => inR v3_3 → MR M_4 → G p l e (rmF 1 24) s m args below meth c B D K 5 0 0 (ZV below args s B D K Q) M_4 7 [(0, .ref (B + n)), (1, .ref (B + a1)), (2, .ref (B + a2)), (3, J v3_3)] []) ?_ 5000 v3_2 M hf h_v3_2 hM
  intro rec7 ih7 v3_3 M_4 hf h_v3_3 h_M_4
  unfold X9_findBranches_b7 at hf
  refine g_iload_n hC 3 dX9_findBranches_7 rfl rfl ?_
  refine g_if_lt hC 72 h_v3_3 dX9_findBranches_8 rfl (fun c_19 => ?_) (fun c_19 => ?_)
  · replace hf := hf.1 c_19
    exact g_retv hC h_M_4 hf dX9_findBranches_72
  · replace hf := hf.2 c_19
    refine g_aload_n hC 2 dX9_findBranches_11 rfl rfl ?_
    refine g_getr hC okX1 (sh_X1 h_a2) 1 (by decide) rfl wf_X9_94 dX9_findBranches_12 ?_
    refine g_iload_n hC 3 dX9_findBranches_15 rfl rfl ?_
    obtain ⟨q_5, hf⟩ := hf
    refine g_ialdk (v3_3.toNat) hC (sh_X1_1 h_a2) q_5.1 q_5.2 rfl dX9_findBranches_16 ?_
    refine g_nm (fun v4_6 e_v4_6 => ?_)
    replace hf := hf v4_6 e_v4_6
    have h_v4_6 : inR v4_6 := by rw [e_v4_6]; exact (h_M_4 _ _)
    refine g_istore hC [(4, J v4_6), (0, .ref (B + n)), (1, .ref (B + a1)), (2, .ref (B + a2)), (3, J v3_3)] dX9_findBranches_17 (by decide) rfl ?_
    refine g_aload_n hC 1 dX9_findBranches_19 rfl rfl ?_
    refine g_getr hC okX9 (sh_X9 h_n) 4 (by decide) rfl wf_X9_24 dX9_findBranches_20 ?_
    refine g_iload hC 0 dX9_findBranches_23 rfl ?_
    refine g_aload_n hC 1 dX9_findBranches_25 rfl rfl ?_
    refine g_getr hC okX9 (sh_X9 h_n) 2 (by decide) rfl wf_X9_18 dX9_findBranches_26 ?_
    refine g_iload hC 0 dX9_findBranches_29 rfl ?_
    obtain ⟨q_7, hf⟩ := hf
    refine g_ialdk (v4_6.toNat) hC (sh_X9_2 h_n) q_7.1 q_7.2 rfl dX9_findBranches_31 ?_
    refine g_iconst hC dX9_findBranches_32 ?_
    refine g_icmp_eq hC 51 (h_M_4 _ _) (by unfold inR; omega) dX9_findBranches_33 rfl (fun c_18 => ?_) (fun c_18 => ?_)
    · replace hf := hf.1 c_18
      refine g_iconst hC dX9_findBranches_51 ?_
      refine g_aload_n hC 1 dX9_findBranches_52 rfl rfl ?_
      refine g_aload_n hC 2 dX9_findBranches_53 rfl rfl ?_
      refine g_aload_n hC 2 dX9_findBranches_54 rfl rfl ?_
      refine g_getr hC okX5 (sh_X5 h_a1) 3 (by decide) rfl wf_X9_72 dX9_findBranches_55 ?_
      refine g_iload hC 0 dX9_findBranches_58 rfl ?_
      refine g_ialdk (v4_6.toNat) hC (sh_X5_3 h_a1) q_7.1 q_7.2 rfl dX9_findBranches_60 ?_
      refine g_callVI hC (sk := [J 1, J v4_6, .ref (B + (n + 5))]) [.ref (B + a1), J (M_4 (a1 + 2) (v4_6.toNat))] (c_X9_leastBranchFrom l B D K n a1 (M_4 (a1 + 2) (v4_6.toNat)) h_n h_a1 (h_M_4 _ _) M_4 h_M_4 _ hf) yv_X9_leastBranchFrom wm_X9_97 okX9.1 (sh_X9 h_n) rfl ⟨Nat.le_of_ble_eq_true rfl, Nat.le_of_ble_eq_true rfl, Nat.le_of_ble_eq_true rfl, Nat.le_of_ble_eq_true rfl⟩ rfl (Nat.le_of_ble_eq_true rfl) dX9_findBranches_61 ?_
      rintro r_8 M_9 h_r_8 - ⟨rfl, hf⟩
      refine g_iadd hC dX9_findBranches_64 ?_
      obtain ⟨q_10, hf⟩ := hf
      refine g_iastk (v4_6.toNat) hC (sh_X9_4 h_n) q_7.1 q_7.2 rfl dX9_findBranches_65 ?_
      refine g_nmM (fun M_11 e_M_11 => ?_)
      replace hf := hf M_11 e_M_11
      have h_M_11 : MR M_11 := by rw [e_M_11]; exact MR_st h_M_4 q_10
      obtain ⟨q_13, hf⟩ := hf
      obtain ⟨v3_12, e_v3_12⟩ : ∃ z : Int, z = v3_3 + (-1) := ⟨_, rfl⟩
      replace hf := hf v3_12 e_v3_12
      have h_v3_12 : inR v3_12 := by rw [e_v3_12]; exact q_13
      refine g_iincv hC 4 e_v3_12 [(3, J v3_12), (4, J v4_6), (0, .ref (B + n)), (1, .ref (B + a1)), (2, .ref (B + a2))] dX9_findBranches_66 rfl (by decide) rfl ?_
      refine g_goto hC 7 dX9_findBranches_69 rfl ?_
      refine g_sub [(0, .ref (B + n)), (1, .ref (B + a1)), (2, .ref (B + a2)), (3, J v3_12)] [2, 3, 4, 0] rfl ?_
      exact ih7 v3_12 M_11 hf h_v3_12 h_M_11
    · replace hf := hf.2 c_18
      refine g_aload_n hC 1 dX9_findBranches_36 rfl rfl ?_
      refine g_getr hC okX9 (sh_X9 h_n) 4 (by decide) rfl wf_X9_24 dX9_findBranches_37 ?_
      refine g_aload_n hC 1 dX9_findBranches_40 rfl rfl ?_
      refine g_getr hC okX9 (sh_X9 h_n) 2 (by decide) rfl wf_X9_18 dX9_findBranches_41 ?_
      refine g_iload hC 0 dX9_findBranches_44 rfl ?_
      refine g_ialdk (v4_6.toNat) hC (sh_X9_2 h_n) q_7.1 q_7.2 rfl dX9_findBranches_46 ?_
      obtain ⟨q_14, hf⟩ := hf
      refine g_ialdk ((M_4 (n + 3) (v4_6.toNat)).toNat) hC (sh_X9_4 h_n) q_14.1 q_14.2 rfl dX9_findBranches_47 ?_
      refine g_goto hC 65 dX9_findBranches_48 rfl ?_
      refine g_iastk (v4_6.toNat) hC (sh_X9_4 h_n) q_7.1 q_7.2 rfl dX9_findBranches_65 ?_
      refine g_nmM (fun M_15 e_M_15 => ?_)
      replace hf := hf M_15 e_M_15
      have h_M_15 : MR M_15 := by rw [e_M_15]; exact MR_st h_M_4 (h_M_4 _ _)
      obtain ⟨q_17, hf⟩ := hf
      obtain ⟨v3_16, e_v3_16⟩ : ∃ z : Int, z = v3_3 + (-1) := ⟨_, rfl⟩
      replace hf := hf v3_16 e_v3_16
      have h_v3_16 : inR v3_16 := by rw [e_v3_16]; exact q_17
      refine g_iincv hC 4 e_v3_16 [(3, J v3_16), (4, J v4_6), (0, .ref (B + n)), (1, .ref (B + a1)), (2, .ref (B + a2))] dX9_findBranches_66 rfl (by decide) rfl ?_
      refine g_goto hC 7 dX9_findBranches_69 rfl ?_
      refine g_sub [(0, .ref (B + n)), (1, .ref (B + a1)), (2, .ref (B + a2)), (3, J v3_16)] [2, 3, 4, 0] rfl ?_
      exact ih7 v3_16 M_15 hf h_v3_16 h_M_15
set_option maxHeartbeats 4000000 in
set_option maxRecDepth 100000 in
theorem c_X9_findCrowns (l : Launch) (B : Nat) (D : va_G) (K : Nat → ClassId) (n : Nat) (a1 : Nat) (a2 : Nat) (h_n : is_X9 n) (h_a1 : is_X5 a1) (h_a2 : is_X1 a2) (M : Mem) (hM : MR M) (Q : Mem → Prop) (hf : f_X9_findCrowns n a1 a2 M Q) : CtV l yX9_findCrowns cX9_findCrowns 6 1 40 B D K [.ref (B + n), .ref (B + a1), .ref (B + a2)] M Q := by
  refine ct_v (by decide) (Nat.le_of_ble_eq_true rfl) ?_
  intro p e s m args below meth c hC
  have hC : Cx p s m args meth c D K cX9_findCrowns 6 RX9 none := hC
  unfold f_X9_findCrowns at hf
  refine (show G p l e (rmF 1 40) s m args below meth c B D K 6 0 0 (ZV below args s B D K Q) M 0 [(0, .ref (B + n)), (1, .ref (B + a1)), (2, .ref (B + a2))] [] from ?_)
  refine g_iconst hC dX9_findCrowns_0 ?_
  refine g_istore_n hC [(3, J 0), (0, .ref (B + n)), (1, .ref (B + a1)), (2, .ref (B + a2))] dX9_findCrowns_1 rfl (by decide) rfl ?_
  refine jn_elim (fun (k : Mem → Prop) => ∀ (M_1 : Mem), k M_1 → (MR M_1) → G p l e (rmF 1 40) s m args below meth c B D K 6 0 0 (ZV below args s B D K Q) M_1 72 [(0, .ref (B + n)), (1, .ref (B + a1)), (2, .ref (B + a2))] []) hf ?_ ?_
  · intro M_1 hf h_M_1
    refine g_aload_n hC 1 dX9_findCrowns_72 rfl rfl ?_
    refine g_geti hC okX5 (sh_X5 h_a1) 1 (by decide) rfl wf_X9_66 dX9_findCrowns_73 ?_
    refine g_iconst hC dX9_findCrowns_76 ?_
    refine g_isub hC dX9_findCrowns_77 ?_
    obtain ⟨q_2, hf⟩ := hf
    refine g_nm (fun v3_3 e_v3_3 => ?_)
    replace hf := hf v3_3 e_v3_3
    have h_v3_3 : inR v3_3 := by rw [e_v3_3]; exact q_2
    refine g_istore_n hC [(3, J v3_3), (0, .ref (B + n)), (1, .ref (B + a1)), (2, .ref (B + a2))] dX9_findCrowns_78 rfl (by decide) rfl ?_
    refine g_sub [(0, .ref (B + n)), (2, .ref (B + a2)), (3, J v3_3)] [1, 3, 0] rfl ?_
    refine wl2_elim (fun (v3_4 : Int) (M_5 : Mem) => inR v3_4 → MR M_5 → G p l e (rmF 1 40) s m args below meth c B D K 6 0 0 (ZV below args s B D K Q) M_5 79 [(0, .ref (B + n)), (2, .ref (B + a2)), (3, J v3_4)] []) ?_ 5000 v3_3 M_1 hf h_v3_3 h_M_1
    intro rec79 ih79 v3_4 M_5 hf h_v3_4 h_M_5
    unfold X9_findCrowns_b79 at hf
    refine g_iload_n hC 2 dX9_findCrowns_79 rfl rfl ?_
    refine g_if_lt hC 127 h_v3_4 dX9_findCrowns_80 rfl (fun c_16 => ?_) (fun c_16 => ?_)
    · replace hf := hf.1 c_16
      exact g_retv hC h_M_5 hf dX9_findCrowns_127
    · replace hf := hf.2 c_16
      refine g_aload_n hC 1 dX9_findCrowns_83 rfl rfl ?_
      refine g_getr hC okX1 (sh_X1 h_a2) 1 (by decide) rfl wf_X9_94 dX9_findCrowns_84 ?_
      refine g_iload_n hC 2 dX9_findCrowns_87 rfl rfl ?_
      obtain ⟨q_6, hf⟩ := hf
      refine g_ialdk (v3_4.toNat) hC (sh_X1_1 h_a2) q_6.1 q_6.2 rfl dX9_findCrowns_88 ?_
      refine g_nm (fun v4_7 e_v4_7 => ?_)
      replace hf := hf v4_7 e_v4_7
      have h_v4_7 : inR v4_7 := by rw [e_v4_7]; exact (h_M_5 _ _)
      refine g_istore hC [(4, J v4_7), (0, .ref (B + n)), (2, .ref (B + a2)), (3, J v3_4)] dX9_findCrowns_89 (by decide) rfl ?_
      refine g_aload_n hC 1 dX9_findCrowns_91 rfl rfl ?_
      refine g_getr hC okX9 (sh_X9 h_n) 2 (by decide) rfl wf_X9_18 dX9_findCrowns_92 ?_
      refine g_iload hC 0 dX9_findCrowns_95 rfl ?_
      obtain ⟨q_8, hf⟩ := hf
      refine g_ialdk (v4_7.toNat) hC (sh_X9_2 h_n) q_8.1 q_8.2 rfl dX9_findCrowns_97 ?_
      refine g_iconst hC dX9_findCrowns_98 ?_
      refine g_icmp_eq hC 121 (h_M_5 _ _) (by unfold inR; omega) dX9_findCrowns_99 rfl (fun c_15 => ?_) (fun c_15 => ?_)
      · replace hf := hf.1 c_15
        obtain ⟨q_10, hf⟩ := hf
        obtain ⟨v3_9, e_v3_9⟩ : ∃ z : Int, z = v3_4 + (-1) := ⟨_, rfl⟩
        replace hf := hf v3_9 e_v3_9
        have h_v3_9 : inR v3_9 := by rw [e_v3_9]; exact q_10
        refine g_iincv hC 3 e_v3_9 [(3, J v3_9), (4, J v4_7), (0, .ref (B + n)), (2, .ref (B + a2))] dX9_findCrowns_121 rfl (by decide) rfl ?_
        refine g_goto hC 79 dX9_findCrowns_124 rfl ?_
        refine g_sub [(0, .ref (B + n)), (2, .ref (B + a2)), (3, J v3_9)] [2, 3, 0] rfl ?_
        exact ih79 v3_9 M_5 hf h_v3_9 h_M_5
      · replace hf := hf.2 c_15
        refine g_aload_n hC 1 dX9_findCrowns_102 rfl rfl ?_
        refine g_getr hC okX9 (sh_X9 h_n) 5 (by decide) rfl wf_X9_27 dX9_findCrowns_103 ?_
        refine g_iload hC 0 dX9_findCrowns_106 rfl ?_
        refine g_aload_n hC 1 dX9_findCrowns_108 rfl rfl ?_
        refine g_getr hC okX9 (sh_X9 h_n) 5 (by decide) rfl wf_X9_27 dX9_findCrowns_109 ?_
        refine g_aload_n hC 1 dX9_findCrowns_112 rfl rfl ?_
        refine g_getr hC okX9 (sh_X9 h_n) 2 (by decide) rfl wf_X9_18 dX9_findCrowns_113 ?_
        refine g_iload hC 0 dX9_findCrowns_116 rfl ?_
        refine g_ialdk (v4_7.toNat) hC (sh_X9_2 h_n) q_8.1 q_8.2 rfl dX9_findCrowns_118 ?_
        obtain ⟨q_11, hf⟩ := hf
        refine g_ialdk ((M_5 (n + 3) (v4_7.toNat)).toNat) hC (sh_X9_5 h_n) q_11.1 q_11.2 rfl dX9_findCrowns_119 ?_
        refine g_iastk (v4_7.toNat) hC (sh_X9_5 h_n) q_8.1 q_8.2 rfl dX9_findCrowns_120 ?_
        refine g_nmM (fun M_12 e_M_12 => ?_)
        replace hf := hf M_12 e_M_12
        have h_M_12 : MR M_12 := by rw [e_M_12]; exact MR_st h_M_5 (h_M_5 _ _)
        obtain ⟨q_14, hf⟩ := hf
        obtain ⟨v3_13, e_v3_13⟩ : ∃ z : Int, z = v3_4 + (-1) := ⟨_, rfl⟩
        replace hf := hf v3_13 e_v3_13
        have h_v3_13 : inR v3_13 := by rw [e_v3_13]; exact q_14
        refine g_iincv hC 3 e_v3_13 [(3, J v3_13), (4, J v4_7), (0, .ref (B + n)), (2, .ref (B + a2))] dX9_findCrowns_121 rfl (by decide) rfl ?_
        refine g_goto hC 79 dX9_findCrowns_124 rfl ?_
        refine g_sub [(0, .ref (B + n)), (2, .ref (B + a2)), (3, J v3_13)] [2, 3, 0] rfl ?_
        exact ih79 v3_13 M_12 hf h_v3_13 h_M_12
  · intro J72 hJ72 hf
    refine g_sub [(0, .ref (B + n)), (1, .ref (B + a1)), (2, .ref (B + a2)), (3, J 0)] [1, 2, 3, 0] rfl ?_
    refine wl2_elim (fun (v3_17 : Int) (M_18 : Mem) => inR v3_17 → MR M_18 → G p l e (rmF 1 40) s m args below meth c B D K 6 0 0 (ZV below args s B D K Q) M_18 2 [(0, .ref (B + n)), (1, .ref (B + a1)), (2, .ref (B + a2)), (3, J v3_17)] []) ?_ 5000 0 M hf (by unfold inR; omega) hM
    intro rec2 ih2 v3_17 M_18 hf h_v3_17 h_M_18
    unfold X9_findCrowns_b2 at hf
    refine g_iload_n hC 3 dX9_findCrowns_2 rfl rfl ?_
    refine g_aload_n hC 1 dX9_findCrowns_3 rfl rfl ?_
    refine g_geti hC okX5 (sh_X5 h_a1) 1 (by decide) rfl wf_X9_66 dX9_findCrowns_4 ?_
    refine g_icmp_ge hC 72 h_v3_17 (h_M_18 _ _) dX9_findCrowns_7 rfl (fun c_28 => ?_) (fun c_28 => ?_)
    · replace hf := hf.1 c_28
      refine g_sub [(0, .ref (B + n)), (1, .ref (B + a1)), (2, .ref (B + a2))] [0, 1, 2] rfl ?_
      exact hJ72 M_18 hf h_M_18
    · replace hf := hf.2 c_28
      refine g_aload_n hC 2 dX9_findCrowns_10 rfl rfl ?_
      refine g_getr hC okX1 (sh_X1 h_a2) 1 (by decide) rfl wf_X9_94 dX9_findCrowns_11 ?_
      refine g_iload_n hC 3 dX9_findCrowns_14 rfl rfl ?_
      obtain ⟨q_19, hf⟩ := hf
      refine g_ialdk (v3_17.toNat) hC (sh_X1_1 h_a2) q_19.1 q_19.2 rfl dX9_findCrowns_15 ?_
      refine g_nm (fun v4_20 e_v4_20 => ?_)
      replace hf := hf v4_20 e_v4_20
      have h_v4_20 : inR v4_20 := by rw [e_v4_20]; exact (h_M_18 _ _)
      refine g_istore hC [(4, J v4_20), (0, .ref (B + n)), (1, .ref (B + a1)), (2, .ref (B + a2)), (3, J v3_17)] dX9_findCrowns_16 (by decide) rfl ?_
      refine g_aload_n hC 1 dX9_findCrowns_18 rfl rfl ?_
      refine g_getr hC okX9 (sh_X9 h_n) 3 (by decide) rfl wf_X9_21 dX9_findCrowns_19 ?_
      refine g_iload hC 0 dX9_findCrowns_22 rfl ?_
      obtain ⟨q_21, hf⟩ := hf
      refine g_ialdk (v4_20.toNat) hC (sh_X9_3 h_n) q_21.1 q_21.2 rfl dX9_findCrowns_24 ?_
      refine g_iconst hC dX9_findCrowns_25 ?_
      refine jn_elim (fun (k : Int → Prop) => ∀ (s0_22 : Int), k s0_22 → (inR s0_22) → G p l e (rmF 1 40) s m args below meth c B D K 6 0 0 (ZV below args s B D K Q) M_18 45 [(0, .ref (B + n)), (1, .ref (B + a1)), (2, .ref (B + a2)), (3, J v3_17), (4, J v4_20)] [J s0_22]) hf ?_ ?_
      · intro s0_22 hf h_s0_22
        refine g_istore hC [(5, J s0_22), (0, .ref (B + n)), (1, .ref (B + a1)), (2, .ref (B + a2)), (3, J v3_17), (4, J v4_20)] dX9_findCrowns_45 (by decide) rfl ?_
        refine g_aload_n hC 1 dX9_findCrowns_47 rfl rfl ?_
        refine g_getr hC okX9 (sh_X9 h_n) 5 (by decide) rfl wf_X9_27 dX9_findCrowns_48 ?_
        refine g_iload hC 5 dX9_findCrowns_51 rfl ?_
        refine g_aload_n hC 3 dX9_findCrowns_53 rfl rfl ?_
        refine g_getr hC okX1 (sh_X1 h_a2) 9 (by decide) rfl wf_X9_101 dX9_findCrowns_54 ?_
        refine g_iload hC 5 dX9_findCrowns_57 rfl ?_
        refine g_ialdk (v4_20.toNat) hC (sh_X1_9 h_a2) q_21.1 q_21.2 rfl dX9_findCrowns_59 ?_
        refine g_iload hC 0 dX9_findCrowns_60 rfl ?_
        refine g_max hC (h_M_18 _ _) h_s0_22 ⟨wm_X9_104, wj_max⟩ (Nat.le_of_ble_eq_true rfl) (Nat.le_of_ble_eq_true rfl) (Nat.zero_le _) (Nat.zero_le _) dX9_findCrowns_62 ?_
        refine g_iastk (v4_20.toNat) hC (sh_X9_5 h_n) q_21.1 q_21.2 rfl dX9_findCrowns_65 ?_
        refine g_nmM (fun M_23 e_M_23 => ?_)
        replace hf := hf M_23 e_M_23
        have h_M_23 : MR M_23 := by rw [e_M_23]; exact MR_st h_M_18 (max_in (h_M_18 _ _) h_s0_22)
        obtain ⟨q_25, hf⟩ := hf
        obtain ⟨v3_24, e_v3_24⟩ : ∃ z : Int, z = v3_17 + 1 := ⟨_, rfl⟩
        replace hf := hf v3_24 e_v3_24
        have h_v3_24 : inR v3_24 := by rw [e_v3_24]; exact q_25
        refine g_iincv hC 4 e_v3_24 [(3, J v3_24), (5, J s0_22), (0, .ref (B + n)), (1, .ref (B + a1)), (2, .ref (B + a2)), (4, J v4_20)] dX9_findCrowns_66 rfl (by decide) rfl ?_
        refine g_goto hC 2 dX9_findCrowns_69 rfl ?_
        refine g_sub [(0, .ref (B + n)), (1, .ref (B + a1)), (2, .ref (B + a2)), (3, J v3_24)] [2, 3, 4, 0] rfl ?_
        exact ih2 v3_24 M_23 hf h_v3_24 h_M_23
      · intro J45 hJ45 hf
        refine g_icmp_ne hC 33 (h_M_18 _ _) (by unfold inR; omega) dX9_findCrowns_26 rfl (fun c_27 => ?_) (fun c_27 => ?_)
        · replace hf := hf.1 c_27
          refine g_aload_n hC 1 dX9_findCrowns_33 rfl rfl ?_
          refine g_getr hC okX9 (sh_X9 h_n) 5 (by decide) rfl wf_X9_27 dX9_findCrowns_34 ?_
          refine g_aload_n hC 1 dX9_findCrowns_37 rfl rfl ?_
          refine g_getr hC okX9 (sh_X9 h_n) 3 (by decide) rfl wf_X9_21 dX9_findCrowns_38 ?_
          refine g_iload hC 0 dX9_findCrowns_41 rfl ?_
          refine g_ialdk (v4_20.toNat) hC (sh_X9_3 h_n) q_21.1 q_21.2 rfl dX9_findCrowns_43 ?_
          obtain ⟨q_26, hf⟩ := hf
          refine g_ialdk ((M_18 (n + 4) (v4_20.toNat)).toNat) hC (sh_X9_5 h_n) q_26.1 q_26.2 rfl dX9_findCrowns_44 ?_
          refine g_sub [(0, .ref (B + n)), (1, .ref (B + a1)), (2, .ref (B + a2)), (3, J v3_17), (4, J v4_20)] [1, 2, 3, 4, 0] rfl ?_
          exact hJ45 (M_18 (n + 6) ((M_18 (n + 4) (v4_20.toNat)).toNat)) hf (h_M_18 _ _)
        · replace hf := hf.2 c_27
          refine g_iconst hC dX9_findCrowns_29 ?_
          refine g_goto hC 45 dX9_findCrowns_30 rfl ?_
          refine g_sub [(0, .ref (B + n)), (1, .ref (B + a1)), (2, .ref (B + a2)), (3, J v3_17), (4, J v4_20)] [1, 2, 3, 4, 0] rfl ?_
          exact hJ45 0 hf (by unfold inR; omega)
set_option maxHeartbeats 4000000 in
set_option maxRecDepth 100000 in
theorem c_X9_build (l : Launch) (B : Nat) (D : va_G) (K : Nat → ClassId) (n : Nat) (a1 : Nat) (a2 : Nat) (v3 : Int) (a4 : Nat) (h_n : is_X9 n) (h_a1 : is_X5 a1) (h_a2 : is_X1 a2) (i_v3 : inR v3) (h_a4 : is_X9 a4) (M : Mem) (hM : MR M) (Q : Mem → Prop) (hf : f_X9_build n a1 a2 v3 a4 M Q) : CtV l yX9_build cX9_build 5 2 65 B D K [.ref (B + n), .ref (B + a1), .ref (B + a2), J v3, .ref (B + a4)] M Q := by
  refine ct_v (by decide) (Nat.le_of_ble_eq_true rfl) ?_
  intro p e s m args below meth c hC
  have hC : Cx p s m args meth c D K cX9_build 5 RX9 none := hC
  unfold f_X9_build at hf
  refine (show G p l e (rmF 2 65) s m args below meth c B D K 5 0 0 (ZV below args s B D K Q) M 0 [(0, .ref (B + n)), (1, .ref (B + a1)), (2, .ref (B + a2)), (3, J v3), (4, .ref (B + a4))] [] from ?_)
  refine g_aload_n hC 0 dX9_build_0 rfl rfl ?_
  refine g_aload_n hC 1 dX9_build_1 rfl rfl ?_
  refine g_aload_n hC 2 dX9_build_2 rfl rfl ?_
  refine g_iload_n hC 3 dX9_build_3 rfl rfl ?_
  refine g_iconst hC dX9_build_4 ?_
  refine jn_elim (fun (k : Int → Prop) => ∀ (s3_1 : Int), k s3_1 → ((s3_1 = 0 ∨ s3_1 = 1)) → G p l e (rmF 2 65) s m args below meth c B D K 5 0 0 (ZV below args s B D K Q) M 13 [(0, .ref (B + n)), (1, .ref (B + a1)), (2, .ref (B + a2)), (3, J v3), (4, .ref (B + a4))] [J s3_1, .ref (B + a2), .ref (B + a1), .ref (B + n)]) hf ?_ ?_
  · intro s3_1 hf h_s3_1
    refine g_callVV hC (sk := []) [.ref (B + a1), .ref (B + a2), J s3_1] (c_X9_findMains l B D K n a1 a2 s3_1 h_n h_a1 h_a2 (zi_ h_s3_1) M hM _ hf) yv_X9_findMains wm_X9_30 okX9.1 (sh_X9 h_n) rfl ⟨Nat.le_of_ble_eq_true rfl, Nat.le_of_ble_eq_true rfl, Nat.le_of_ble_eq_true rfl, Nat.le_of_ble_eq_true rfl⟩ rfl (Nat.le_of_ble_eq_true rfl) dX9_build_13 ?_
    intro M_2 h_M_2 hf
    refine g_iload_n hC 3 dX9_build_16 rfl rfl ?_
    refine g_iconst hC dX9_build_17 ?_
    refine jn_elim (fun (k : Mem → Prop) => ∀ (M_3 : Mem), k M_3 → (MR M_3) → G p l e (rmF 2 65) s m args below meth c B D K 5 0 0 (ZV below args s B D K Q) M_3 28 [(0, .ref (B + n)), (1, .ref (B + a1)), (2, .ref (B + a2))] []) hf ?_ ?_
    · intro M_3 hf h_M_3
      refine g_aload_n hC 0 dX9_build_28 rfl rfl ?_
      refine g_aload_n hC 1 dX9_build_29 rfl rfl ?_
      refine g_callVV hC (sk := []) [.ref (B + a1)] (c_X9_join l B D K n a1 h_n h_a1 M_3 h_M_3 _ hf) yv_X9_join wm_X9_38 okX9.1 (sh_X9 h_n) rfl ⟨Nat.le_of_ble_eq_true rfl, Nat.le_of_ble_eq_true rfl, Nat.le_of_ble_eq_true rfl, Nat.le_of_ble_eq_true rfl⟩ rfl (Nat.le_of_ble_eq_true rfl) dX9_build_30 ?_
      intro M_4 h_M_4 hf
      refine g_aload_n hC 0 dX9_build_33 rfl rfl ?_
      refine g_aload_n hC 1 dX9_build_34 rfl rfl ?_
      refine g_aload_n hC 2 dX9_build_35 rfl rfl ?_
      refine g_callVV hC (sk := []) [.ref (B + a1), .ref (B + a2)] (c_X9_findBranches l B D K n a1 a2 h_n h_a1 h_a2 M_4 h_M_4 _ hf) yv_X9_findBranches wm_X9_42 okX9.1 (sh_X9 h_n) rfl ⟨Nat.le_of_ble_eq_true rfl, Nat.le_of_ble_eq_true rfl, Nat.le_of_ble_eq_true rfl, Nat.le_of_ble_eq_true rfl⟩ rfl (Nat.le_of_ble_eq_true rfl) dX9_build_36 ?_
      intro M_5 h_M_5 hf
      refine g_aload_n hC 0 dX9_build_39 rfl rfl ?_
      refine g_aload_n hC 1 dX9_build_40 rfl rfl ?_
      refine g_aload_n hC 2 dX9_build_41 rfl rfl ?_
      refine g_callVV hC (sk := []) [.ref (B + a1), .ref (B + a2)] (c_X9_findCrowns l B D K n a1 a2 h_n h_a1 h_a2 M_5 h_M_5 _ hf) yv_X9_findCrowns wm_X9_46 okX9.1 (sh_X9 h_n) rfl ⟨Nat.le_of_ble_eq_true rfl, Nat.le_of_ble_eq_true rfl, Nat.le_of_ble_eq_true rfl, Nat.le_of_ble_eq_true rfl⟩ rfl (Nat.le_of_ble_eq_true rfl) dX9_build_42 ?_
      intro M_6 h_M_6 hf
      exact g_retv hC h_M_6 hf dX9_build_45
    · intro J28 hJ28 hf
      refine g_icmp_ne hC 28 i_v3 (by unfold inR; omega) dX9_build_18 rfl (fun c_8 => ?_) (fun c_8 => ?_)
      · replace hf := hf.1 c_8
        refine g_sub [(0, .ref (B + n)), (1, .ref (B + a1)), (2, .ref (B + a2))] [0, 1, 2] rfl ?_
        exact hJ28 M_2 hf h_M_2
      · replace hf := hf.2 c_8
        refine g_aload_n hC 0 dX9_build_21 rfl rfl ?_
        refine g_aload_n hC 1 dX9_build_22 rfl rfl ?_
        refine g_aload hC 4 dX9_build_23 rfl ?_
        refine g_callVV hC (sk := []) [.ref (B + a1), .ref (B + a4)] (c_X9_preferNames l B D K n a1 a4 h_n h_a1 h_a4 M_2 h_M_2 _ hf) yv_X9_preferNames wm_X9_34 okX9.1 (sh_X9 h_n) rfl ⟨Nat.le_of_ble_eq_true rfl, Nat.le_of_ble_eq_true rfl, Nat.le_of_ble_eq_true rfl, Nat.le_of_ble_eq_true rfl⟩ rfl (Nat.le_of_ble_eq_true rfl) dX9_build_25 ?_
        intro M_7 h_M_7 hf
        refine g_sub [(0, .ref (B + n)), (1, .ref (B + a1)), (2, .ref (B + a2))] [0, 1, 2] rfl ?_
        exact hJ28 M_7 hf h_M_7
  · intro J13 hJ13 hf
    refine g_icmp_ne hC 12 i_v3 (by unfold inR; omega) dX9_build_5 rfl (fun c_9 => ?_) (fun c_9 => ?_)
    · replace hf := hf.1 c_9
      refine g_iconst hC dX9_build_12 ?_
      refine g_sub [(0, .ref (B + n)), (1, .ref (B + a1)), (2, .ref (B + a2)), (3, J v3), (4, .ref (B + a4))] [0, 1, 2, 3, 4] rfl ?_
      exact hJ13 0 hf (Or.inl rfl)
    · replace hf := hf.2 c_9
      refine g_iconst hC dX9_build_8 ?_
      refine g_goto hC 13 dX9_build_9 rfl ?_
      refine g_sub [(0, .ref (B + n)), (1, .ref (B + a1)), (2, .ref (B + a2)), (3, J v3), (4, .ref (B + a4))] [0, 1, 2, 3, 4] rfl ?_
      exact hJ13 1 hf (Or.inr rfl)
set_option maxHeartbeats 4000000 in
set_option maxRecDepth 100000 in
theorem c_X9_topOf (l : Launch) (B : Nat) (D : va_G) (K : Nat → ClassId) (n : Nat) (v1 : Int) (h_n : is_X9 n) (i_v1 : inR v1) (M : Mem) (hM : MR M) (Q : Int → Prop) (hf : f_X9_topOf n v1 M Q) : CtI l yX9_topOf cX9_topOf 4 0 0 B D K [.ref (B + n), J v1] M (fun r M1 => M = M1 ∧ Q r) := by
  refine ct_i (by decide) (Nat.le_of_ble_eq_true rfl) ?_
  intro p e s m args below meth c hC
  have hC : Cx p s m args meth c D K cX9_topOf 4 RX9 (some .int) := hC
  unfold f_X9_topOf at hf
  refine (show G p l e (rmF 0 0) s m args below meth c B D K 4 0 0 (ZI below args s B D K (fun r M1 => M = M1 ∧ Q r)) M 0 [(0, .ref (B + n)), (1, J v1)] [] from ?_)
  refine g_iload_n hC 1 dX9_topOf_0 rfl rfl ?_
  refine g_istore_n hC [(2, J v1), (0, .ref (B + n)), (1, J v1)] dX9_topOf_1 rfl (by decide) rfl ?_
  refine g_iconst hC dX9_topOf_2 ?_
  refine g_istore_n hC [(3, J 0), (2, J v1), (0, .ref (B + n)), (1, J v1)] dX9_topOf_3 rfl (by decide) rfl ?_
  refine g_sub [(0, .ref (B + n)), (2, J v1), (3, J 0)] [2, 1, 0] rfl ?_
  refine wl2_elim (fun (v2_1 : Int) (v3_2 : Int) => inR v2_1 → inR v3_2 → G p l e (rmF 0 0) s m args below meth c B D K 4 0 0 (ZI below args s B D K (fun r M1 => M = M1 ∧ Q r)) M 4 [(0, .ref (B + n)), (2, J v2_1), (3, J v3_2)] []) ?_ 5000 v1 0 hf i_v1 (by unfold inR; omega)
  intro rec4 ih4 v2_1 v3_2 hf h_v2_1 h_v3_2
  unfold X9_topOf_b4 at hf
  refine g_iload_n hC 2 dX9_topOf_4 rfl rfl ?_
  refine g_bipush hC dX9_topOf_5 (by decide) ?_
  refine g_icmp_ge hC 33 h_v3_2 (by unfold inR; omega) dX9_topOf_7 rfl (fun c_8 => ?_) (fun c_8 => ?_)
  · replace hf := hf.1 c_8
    refine g_iload_n hC 1 dX9_topOf_33 rfl rfl ?_
    exact g_reti hC h_v2_1 hM ⟨rfl, hf⟩ dX9_topOf_34
  · replace hf := hf.2 c_8
    refine g_aload_n hC 0 dX9_topOf_10 rfl rfl ?_
    refine g_getr hC okX9 (sh_X9 h_n) 3 (by decide) rfl wf_X9_21 dX9_topOf_11 ?_
    refine g_iload_n hC 1 dX9_topOf_14 rfl rfl ?_
    obtain ⟨q_3, hf⟩ := hf
    refine g_ialdk (v2_1.toNat) hC (sh_X9_3 h_n) q_3.1 q_3.2 rfl dX9_topOf_15 ?_
    refine g_iconst hC dX9_topOf_16 ?_
    refine g_icmp_eq hC 33 (hM _ _) (by unfold inR; omega) dX9_topOf_17 rfl (fun c_7 => ?_) (fun c_7 => ?_)
    · replace hf := hf.1 c_7
      refine g_iload_n hC 1 dX9_topOf_33 rfl rfl ?_
      exact g_reti hC h_v2_1 hM ⟨rfl, hf⟩ dX9_topOf_34
    · replace hf := hf.2 c_7
      refine g_aload_n hC 0 dX9_topOf_20 rfl rfl ?_
      refine g_getr hC okX9 (sh_X9 h_n) 3 (by decide) rfl wf_X9_21 dX9_topOf_21 ?_
      refine g_iload_n hC 1 dX9_topOf_24 rfl rfl ?_
      refine g_ialdk (v2_1.toNat) hC (sh_X9_3 h_n) q_3.1 q_3.2 rfl dX9_topOf_25 ?_
      refine g_nm (fun v2_4 e_v2_4 => ?_)
      replace hf := hf v2_4 e_v2_4
      have h_v2_4 : inR v2_4 := by rw [e_v2_4]; exact (hM _ _)
      refine g_istore_n hC [(2, J v2_4), (0, .ref (B + n)), (3, J v3_2)] dX9_topOf_26 rfl (by decide) rfl ?_
      obtain ⟨q_6, hf⟩ := hf
      obtain ⟨v3_5, e_v3_5⟩ : ∃ z : Int, z = v3_2 + 1 := ⟨_, rfl⟩
      replace hf := hf v3_5 e_v3_5
      have h_v3_5 : inR v3_5 := by rw [e_v3_5]; exact q_6
      refine g_iincv hC 2 e_v3_5 [(3, J v3_5), (2, J v2_4), (0, .ref (B + n))] dX9_topOf_27 rfl (by decide) rfl ?_
      refine g_goto hC 4 dX9_topOf_30 rfl ?_
      refine g_sub [(0, .ref (B + n)), (2, J v2_4), (3, J v3_5)] [2, 1, 0] rfl ?_
      exact ih4 v2_4 v3_5 hf h_v2_4 h_v3_5
set_option maxHeartbeats 4000000 in
set_option maxRecDepth 100000 in
theorem c_X9_howMany (l : Launch) (B : Nat) (D : va_G) (K : Nat → ClassId) (n : Nat) (v1 : Int) (h_n : is_X9 n) (i_v1 : inR v1) (M : Mem) (hM : MR M) (Q : Int → Prop) (hf : f_X9_howMany n v1 M Q) : CtI l yX9_howMany cX9_howMany 5 0 0 B D K [.ref (B + n), J v1] M (fun r M1 => M = M1 ∧ Q r) := by
  refine ct_i (by decide) (Nat.le_of_ble_eq_true rfl) ?_
  intro p e s m args below meth c hC
  have hC : Cx p s m args meth c D K cX9_howMany 5 RX9 (some .int) := hC
  unfold f_X9_howMany at hf
  refine (show G p l e (rmF 0 0) s m args below meth c B D K 5 0 0 (ZI below args s B D K (fun r M1 => M = M1 ∧ Q r)) M 0 [(0, .ref (B + n)), (1, J v1)] [] from ?_)
  refine g_iconst hC dX9_howMany_0 ?_
  refine g_istore_n hC [(2, J 1), (0, .ref (B + n)), (1, J v1)] dX9_howMany_1 rfl (by decide) rfl ?_
  refine g_iload_n hC 2 dX9_howMany_2 rfl rfl ?_
  refine g_istore_n hC [(3, J v1), (2, J 1), (0, .ref (B + n)), (1, J v1)] dX9_howMany_3 rfl (by decide) rfl ?_
  refine g_iconst hC dX9_howMany_4 ?_
  refine g_istore hC [(4, J 0), (3, J v1), (2, J 1), (0, .ref (B + n)), (1, J v1)] dX9_howMany_5 (by decide) rfl ?_
  refine g_sub [(0, .ref (B + n)), (2, J 1), (3, J v1), (4, J 0)] [3, 2, 1, 0] rfl ?_
  refine wl3_elim (fun (v2_1 : Int) (v3_2 : Int) (v4_3 : Int) => inR v2_1 → inR v3_2 → inR v4_3 → G p l e (rmF 0 0) s m args below meth c B D K 5 0 0 (ZI below args s B D K (fun r M1 => M = M1 ∧ Q r)) M 7 [(0, .ref (B + n)), (2, J v2_1), (3, J v3_2), (4, J v4_3)] []) ?_ 5000 1 v1 0 hf (by unfold inR; omega) i_v1 (by unfold inR; omega)
  intro rec7 ih7 v2_1 v3_2 v4_3 hf h_v2_1 h_v3_2 h_v4_3
  unfold X9_howMany_b7 at hf
  refine g_iload hC 3 dX9_howMany_7 rfl ?_
  refine g_bipush hC dX9_howMany_9 (by decide) ?_
  refine g_icmp_ge hC 40 h_v4_3 (by unfold inR; omega) dX9_howMany_11 rfl (fun c_11 => ?_) (fun c_11 => ?_)
  · replace hf := hf.1 c_11
    refine g_iload_n hC 1 dX9_howMany_40 rfl rfl ?_
    exact g_reti hC h_v2_1 hM ⟨rfl, hf⟩ dX9_howMany_41
  · replace hf := hf.2 c_11
    refine g_aload_n hC 0 dX9_howMany_14 rfl rfl ?_
    refine g_getr hC okX9 (sh_X9 h_n) 2 (by decide) rfl wf_X9_18 dX9_howMany_15 ?_
    refine g_iload_n hC 2 dX9_howMany_18 rfl rfl ?_
    obtain ⟨q_4, hf⟩ := hf
    refine g_ialdk (v3_2.toNat) hC (sh_X9_2 h_n) q_4.1 q_4.2 rfl dX9_howMany_19 ?_
    refine g_iconst hC dX9_howMany_20 ?_
    refine g_icmp_eq hC 40 (hM _ _) (by unfold inR; omega) dX9_howMany_21 rfl (fun c_10 => ?_) (fun c_10 => ?_)
    · replace hf := hf.1 c_10
      refine g_iload_n hC 1 dX9_howMany_40 rfl rfl ?_
      exact g_reti hC h_v2_1 hM ⟨rfl, hf⟩ dX9_howMany_41
    · replace hf := hf.2 c_10
      refine g_aload_n hC 0 dX9_howMany_24 rfl rfl ?_
      refine g_getr hC okX9 (sh_X9 h_n) 2 (by decide) rfl wf_X9_18 dX9_howMany_25 ?_
      refine g_iload_n hC 2 dX9_howMany_28 rfl rfl ?_
      refine g_ialdk (v3_2.toNat) hC (sh_X9_2 h_n) q_4.1 q_4.2 rfl dX9_howMany_29 ?_
      refine g_nm (fun v3_5 e_v3_5 => ?_)
      replace hf := hf v3_5 e_v3_5
      have h_v3_5 : inR v3_5 := by rw [e_v3_5]; exact (hM _ _)
      refine g_istore_n hC [(3, J v3_5), (0, .ref (B + n)), (2, J v2_1), (4, J v4_3)] dX9_howMany_30 rfl (by decide) rfl ?_
      obtain ⟨q_7, hf⟩ := hf
      obtain ⟨v2_6, e_v2_6⟩ : ∃ z : Int, z = v2_1 + 1 := ⟨_, rfl⟩
      replace hf := hf v2_6 e_v2_6
      have h_v2_6 : inR v2_6 := by rw [e_v2_6]; exact q_7
      refine g_iincv hC 2 e_v2_6 [(2, J v2_6), (3, J v3_5), (0, .ref (B + n)), (4, J v4_3)] dX9_howMany_31 rfl (by decide) rfl ?_
      obtain ⟨q_9, hf⟩ := hf
      obtain ⟨v4_8, e_v4_8⟩ : ∃ z : Int, z = v4_3 + 1 := ⟨_, rfl⟩
      replace hf := hf v4_8 e_v4_8
      have h_v4_8 : inR v4_8 := by rw [e_v4_8]; exact q_9
      refine g_iincv hC 3 e_v4_8 [(4, J v4_8), (2, J v2_6), (3, J v3_5), (0, .ref (B + n))] dX9_howMany_34 rfl (by decide) rfl ?_
      refine g_goto hC 7 dX9_howMany_37 rfl ?_
      refine g_sub [(0, .ref (B + n)), (2, J v2_6), (3, J v3_5), (4, J v4_8)] [3, 1, 2, 0] rfl ?_
      exact ih7 v2_6 v3_5 v4_8 hf h_v2_6 h_v3_5 h_v4_8
set_option maxHeartbeats 4000000 in
set_option maxRecDepth 100000 in
theorem c_X9_nth (l : Launch) (B : Nat) (D : va_G) (K : Nat → ClassId) (n : Nat) (v1 : Int) (v2 : Int) (h_n : is_X9 n) (i_v1 : inR v1) (i_v2 : inR v2) (M : Mem) (hM : MR M) (Q : Int → Prop) (hf : f_X9_nth n v1 v2 M Q) : CtI l yX9_nth cX9_nth 5 0 0 B D K [.ref (B + n), J v1, J v2] M (fun r M1 => M = M1 ∧ Q r) := by
  refine ct_i (by decide) (Nat.le_of_ble_eq_true rfl) ?_
  intro p e s m args below meth c hC
  have hC : Cx p s m args meth c D K cX9_nth 5 RX9 (some .int) := hC
  unfold f_X9_nth at hf
  refine (show G p l e (rmF 0 0) s m args below meth c B D K 5 0 0 (ZI below args s B D K (fun r M1 => M = M1 ∧ Q r)) M 0 [(0, .ref (B + n)), (1, J v1), (2, J v2)] [] from ?_)
  refine g_iload_n hC 2 dX9_nth_0 rfl rfl ?_
  refine g_if_ge hC 6 i_v2 dX9_nth_1 rfl (fun c_9 => ?_) (fun c_9 => ?_)
  · replace hf := hf.1 c_9
    refine g_iload_n hC 1 dX9_nth_6 rfl rfl ?_
    refine g_istore_n hC [(3, J v1), (0, .ref (B + n)), (1, J v1), (2, J v2)] dX9_nth_7 rfl (by decide) rfl ?_
    refine g_iconst hC dX9_nth_8 ?_
    refine g_istore hC [(4, J 0), (3, J v1), (0, .ref (B + n)), (1, J v1), (2, J v2)] dX9_nth_9 (by decide) rfl ?_
    refine g_sub [(0, .ref (B + n)), (2, J v2), (3, J v1), (4, J 0)] [2, 4, 1, 0] rfl ?_
    refine wl2_elim (fun (v3_1 : Int) (v4_2 : Int) => inR v3_1 → inR v4_2 → G p l e (rmF 0 0) s m args below meth c B D K 5 0 0 (ZI below args s B D K (fun r M1 => M = M1 ∧ Q r)) M 11 [(0, .ref (B + n)), (2, J v2), (3, J v3_1), (4, J v4_2)] []) ?_ 5000 v1 0 hf i_v1 (by unfold inR; omega)
    intro rec11 ih11 v3_1 v4_2 hf h_v3_1 h_v4_2
    unfold X9_nth_b11 at hf
    refine g_iload hC 3 dX9_nth_11 rfl ?_
    refine g_iload_n hC 1 dX9_nth_13 rfl rfl ?_
    refine g_icmp_ge hC 35 h_v4_2 i_v2 dX9_nth_14 rfl (fun c_8 => ?_) (fun c_8 => ?_)
    · replace hf := hf.1 c_8
      refine g_iload_n hC 2 dX9_nth_35 rfl rfl ?_
      exact g_reti hC h_v3_1 hM ⟨rfl, hf⟩ dX9_nth_36
    · replace hf := hf.2 c_8
      refine g_iload_n hC 2 dX9_nth_17 rfl rfl ?_
      refine g_iconst hC dX9_nth_18 ?_
      refine g_icmp_eq hC 35 h_v3_1 (by unfold inR; omega) dX9_nth_19 rfl (fun c_7 => ?_) (fun c_7 => ?_)
      · replace hf := hf.1 c_7
        refine g_iload_n hC 2 dX9_nth_35 rfl rfl ?_
        exact g_reti hC h_v3_1 hM ⟨rfl, hf⟩ dX9_nth_36
      · replace hf := hf.2 c_7
        refine g_aload_n hC 0 dX9_nth_22 rfl rfl ?_
        refine g_getr hC okX9 (sh_X9 h_n) 2 (by decide) rfl wf_X9_18 dX9_nth_23 ?_
        refine g_iload_n hC 2 dX9_nth_26 rfl rfl ?_
        obtain ⟨q_3, hf⟩ := hf
        refine g_ialdk (v3_1.toNat) hC (sh_X9_2 h_n) q_3.1 q_3.2 rfl dX9_nth_27 ?_
        refine g_nm (fun v3_4 e_v3_4 => ?_)
        replace hf := hf v3_4 e_v3_4
        have h_v3_4 : inR v3_4 := by rw [e_v3_4]; exact (hM _ _)
        refine g_istore_n hC [(3, J v3_4), (0, .ref (B + n)), (2, J v2), (4, J v4_2)] dX9_nth_28 rfl (by decide) rfl ?_
        obtain ⟨q_6, hf⟩ := hf
        obtain ⟨v4_5, e_v4_5⟩ : ∃ z : Int, z = v4_2 + 1 := ⟨_, rfl⟩
        replace hf := hf v4_5 e_v4_5
        have h_v4_5 : inR v4_5 := by rw [e_v4_5]; exact q_6
        refine g_iincv hC 3 e_v4_5 [(4, J v4_5), (3, J v3_4), (0, .ref (B + n)), (2, J v2)] dX9_nth_29 rfl (by decide) rfl ?_
        refine g_goto hC 11 dX9_nth_32 rfl ?_
        refine g_sub [(0, .ref (B + n)), (2, J v2), (3, J v3_4), (4, J v4_5)] [2, 3, 1, 0] rfl ?_
        exact ih11 v3_4 v4_5 hf h_v3_4 h_v4_5
  · replace hf := hf.2 c_9
    refine g_iconst hC dX9_nth_4 ?_
    exact g_reti hC (by unfold inR; omega) hM ⟨rfl, hf⟩ dX9_nth_5
set_option maxHeartbeats 4000000 in
set_option maxRecDepth 100000 in
theorem c_X9_lengthOf (l : Launch) (B : Nat) (D : va_G) (K : Nat → ClassId) (n : Nat) (a1 : Nat) (v2 : Int) (h_n : is_X9 n) (h_a1 : is_X5 a1) (i_v2 : inR v2) (M : Mem) (hM : MR M) (Q : Int → Prop) (hf : f_X9_lengthOf n a1 v2 M Q) : CtI l yX9_lengthOf cX9_lengthOf 6 0 0 B D K [.ref (B + n), .ref (B + a1), J v2] M (fun r M1 => M = M1 ∧ Q r) := by
  refine ct_i (by decide) (Nat.le_of_ble_eq_true rfl) ?_
  intro p e s m args below meth c hC
  have hC : Cx p s m args meth c D K cX9_lengthOf 6 RX9 (some .int) := hC
  unfold f_X9_lengthOf at hf
  refine (show G p l e (rmF 0 0) s m args below meth c B D K 6 0 0 (ZI below args s B D K (fun r M1 => M = M1 ∧ Q r)) M 0 [(0, .ref (B + n)), (1, .ref (B + a1)), (2, J v2)] [] from ?_)
  refine g_iconst hC dX9_lengthOf_0 ?_
  refine g_istore_n hC [(3, J 0), (0, .ref (B + n)), (1, .ref (B + a1)), (2, J v2)] dX9_lengthOf_1 rfl (by decide) rfl ?_
  refine g_iload_n hC 3 dX9_lengthOf_2 rfl rfl ?_
  refine g_istore hC [(4, J v2), (3, J 0), (0, .ref (B + n)), (1, .ref (B + a1)), (2, J v2)] dX9_lengthOf_3 (by decide) rfl ?_
  refine g_iconst hC dX9_lengthOf_5 ?_
  refine g_istore hC [(5, J 0), (4, J v2), (3, J 0), (0, .ref (B + n)), (1, .ref (B + a1)), (2, J v2)] dX9_lengthOf_6 (by decide) rfl ?_
  refine g_sub [(0, .ref (B + n)), (1, .ref (B + a1)), (3, J 0), (4, J v2), (5, J 0)] [3, 4, 2, 1, 0] rfl ?_
  refine wl3_elim (fun (v3_1 : Int) (v4_2 : Int) (v5_3 : Int) => inR v3_1 → inR v4_2 → inR v5_3 → G p l e (rmF 0 0) s m args below meth c B D K 6 0 0 (ZI below args s B D K (fun r M1 => M = M1 ∧ Q r)) M 8 [(0, .ref (B + n)), (1, .ref (B + a1)), (3, J v3_1), (4, J v4_2), (5, J v5_3)] []) ?_ 5000 0 v2 0 hf (by unfold inR; omega) i_v2 (by unfold inR; omega)
  intro rec8 ih8 v3_1 v4_2 v5_3 hf h_v3_1 h_v4_2 h_v5_3
  unfold X9_lengthOf_b8 at hf
  refine g_iload hC 4 dX9_lengthOf_8 rfl ?_
  refine g_bipush hC dX9_lengthOf_10 (by decide) ?_
  refine g_icmp_ge hC 46 h_v5_3 (by unfold inR; omega) dX9_lengthOf_12 rfl (fun c_11 => ?_) (fun c_11 => ?_)
  · replace hf := hf.1 c_11
    refine g_iload_n hC 2 dX9_lengthOf_46 rfl rfl ?_
    exact g_reti hC h_v3_1 hM ⟨rfl, hf⟩ dX9_lengthOf_47
  · replace hf := hf.2 c_11
    refine g_iload hC 3 dX9_lengthOf_15 rfl ?_
    refine g_iconst hC dX9_lengthOf_17 ?_
    refine g_icmp_eq hC 46 h_v4_2 (by unfold inR; omega) dX9_lengthOf_18 rfl (fun c_10 => ?_) (fun c_10 => ?_)
    · replace hf := hf.1 c_10
      refine g_iload_n hC 2 dX9_lengthOf_46 rfl rfl ?_
      exact g_reti hC h_v3_1 hM ⟨rfl, hf⟩ dX9_lengthOf_47
    · replace hf := hf.2 c_10
      refine g_iload_n hC 2 dX9_lengthOf_21 rfl rfl ?_
      refine g_aload_n hC 1 dX9_lengthOf_22 rfl rfl ?_
      refine g_getr hC okX5 (sh_X5 h_a1) 4 (by decide) rfl wf_X9_82 dX9_lengthOf_23 ?_
      refine g_iload hC 3 dX9_lengthOf_26 rfl ?_
      obtain ⟨q_4, hf⟩ := hf
      refine g_ialdk (v4_2.toNat) hC (sh_X5_4 h_a1) q_4.1 q_4.2 rfl dX9_lengthOf_28 ?_
      refine g_iadd hC dX9_lengthOf_29 ?_
      obtain ⟨q_5, hf⟩ := hf
      refine g_nm (fun v3_6 e_v3_6 => ?_)
      replace hf := hf v3_6 e_v3_6
      have h_v3_6 : inR v3_6 := by rw [e_v3_6]; exact q_5
      refine g_istore_n hC [(3, J v3_6), (0, .ref (B + n)), (1, .ref (B + a1)), (4, J v4_2), (5, J v5_3)] dX9_lengthOf_30 rfl (by decide) rfl ?_
      refine g_aload_n hC 1 dX9_lengthOf_31 rfl rfl ?_
      refine g_getr hC okX9 (sh_X9 h_n) 2 (by decide) rfl wf_X9_18 dX9_lengthOf_32 ?_
      refine g_iload hC 3 dX9_lengthOf_35 rfl ?_
      refine g_ialdk (v4_2.toNat) hC (sh_X9_2 h_n) q_4.1 q_4.2 rfl dX9_lengthOf_37 ?_
      refine g_nm (fun v4_7 e_v4_7 => ?_)
      replace hf := hf v4_7 e_v4_7
      have h_v4_7 : inR v4_7 := by rw [e_v4_7]; exact (hM _ _)
      refine g_istore hC [(4, J v4_7), (3, J v3_6), (0, .ref (B + n)), (1, .ref (B + a1)), (5, J v5_3)] dX9_lengthOf_38 (by decide) rfl ?_
      obtain ⟨q_9, hf⟩ := hf
      obtain ⟨v5_8, e_v5_8⟩ : ∃ z : Int, z = v5_3 + 1 := ⟨_, rfl⟩
      replace hf := hf v5_8 e_v5_8
      have h_v5_8 : inR v5_8 := by rw [e_v5_8]; exact q_9
      refine g_iincv hC 4 e_v5_8 [(5, J v5_8), (4, J v4_7), (3, J v3_6), (0, .ref (B + n)), (1, .ref (B + a1))] dX9_lengthOf_40 rfl (by decide) rfl ?_
      refine g_goto hC 8 dX9_lengthOf_43 rfl ?_
      refine g_sub [(0, .ref (B + n)), (1, .ref (B + a1)), (3, J v3_6), (4, J v4_7), (5, J v5_8)] [3, 4, 2, 1, 0] rfl ?_
      exact ih8 v3_6 v4_7 v5_8 hf h_v3_6 h_v4_7 h_v5_8
set_option maxHeartbeats 4000000 in
set_option maxRecDepth 100000 in
theorem c_X9_howManyStems (l : Launch) (B : Nat) (D : va_G) (K : Nat → ClassId) (n : Nat) (a1 : Nat) (h_n : is_X9 n) (h_a1 : is_X5 a1) (M : Mem) (hM : MR M) (Q : Int → Prop) (hf : f_X9_howManyStems n a1 M Q) : CtI l yX9_howManyStems cX9_howManyStems 4 0 0 B D K [.ref (B + n), .ref (B + a1)] M (fun r M1 => M = M1 ∧ Q r) := by
  refine ct_i (by decide) (Nat.le_of_ble_eq_true rfl) ?_
  intro p e s m args below meth c hC
  have hC : Cx p s m args meth c D K cX9_howManyStems 4 RX9 (some .int) := hC
  unfold f_X9_howManyStems at hf
  refine (show G p l e (rmF 0 0) s m args below meth c B D K 4 0 0 (ZI below args s B D K (fun r M1 => M = M1 ∧ Q r)) M 0 [(0, .ref (B + n)), (1, .ref (B + a1))] [] from ?_)
  refine g_iconst hC dX9_howManyStems_0 ?_
  refine g_istore_n hC [(2, J 0), (0, .ref (B + n)), (1, .ref (B + a1))] dX9_howManyStems_1 rfl (by decide) rfl ?_
  refine g_iconst hC dX9_howManyStems_2 ?_
  refine g_istore_n hC [(3, J 0), (2, J 0), (0, .ref (B + n)), (1, .ref (B + a1))] dX9_howManyStems_3 rfl (by decide) rfl ?_
  refine g_sub [(0, .ref (B + n)), (1, .ref (B + a1)), (2, J 0), (3, J 0)] [2, 3, 1, 0] rfl ?_
  refine wl2_elim (fun (v2_1 : Int) (v3_2 : Int) => inR v2_1 → inR v3_2 → G p l e (rmF 0 0) s m args below meth c B D K 4 0 0 (ZI below args s B D K (fun r M1 => M = M1 ∧ Q r)) M 4 [(0, .ref (B + n)), (1, .ref (B + a1)), (2, J v2_1), (3, J v3_2)] []) ?_ 5000 0 0 hf (by unfold inR; omega) (by unfold inR; omega)
  intro rec4 ih4 v2_1 v3_2 hf h_v2_1 h_v3_2
  unfold X9_howManyStems_b4 at hf
  refine g_iload_n hC 3 dX9_howManyStems_4 rfl rfl ?_
  refine g_aload_n hC 1 dX9_howManyStems_5 rfl rfl ?_
  refine g_geti hC okX5 (sh_X5 h_a1) 1 (by decide) rfl wf_X9_66 dX9_howManyStems_6 ?_
  refine g_icmp_ge hC 31 h_v3_2 (hM _ _) dX9_howManyStems_9 rfl (fun c_11 => ?_) (fun c_11 => ?_)
  · replace hf := hf.1 c_11
    refine g_iload_n hC 2 dX9_howManyStems_31 rfl rfl ?_
    exact g_reti hC h_v2_1 hM ⟨rfl, hf⟩ dX9_howManyStems_32
  · replace hf := hf.2 c_11
    refine g_aload_n hC 0 dX9_howManyStems_12 rfl rfl ?_
    refine g_getr hC okX9 (sh_X9 h_n) 3 (by decide) rfl wf_X9_21 dX9_howManyStems_13 ?_
    refine g_iload_n hC 3 dX9_howManyStems_16 rfl rfl ?_
    obtain ⟨q_3, hf⟩ := hf
    refine g_ialdk (v3_2.toNat) hC (sh_X9_3 h_n) q_3.1 q_3.2 rfl dX9_howManyStems_17 ?_
    refine g_iconst hC dX9_howManyStems_18 ?_
    refine g_icmp_ne hC 25 (hM _ _) (by unfold inR; omega) dX9_howManyStems_19 rfl (fun c_10 => ?_) (fun c_10 => ?_)
    · replace hf := hf.1 c_10
      obtain ⟨q_5, hf⟩ := hf
      obtain ⟨v3_4, e_v3_4⟩ : ∃ z : Int, z = v3_2 + 1 := ⟨_, rfl⟩
      replace hf := hf v3_4 e_v3_4
      have h_v3_4 : inR v3_4 := by rw [e_v3_4]; exact q_5
      refine g_iincv hC 3 e_v3_4 [(3, J v3_4), (0, .ref (B + n)), (1, .ref (B + a1)), (2, J v2_1)] dX9_howManyStems_25 rfl (by decide) rfl ?_
      refine g_goto hC 4 dX9_howManyStems_28 rfl ?_
      refine g_sub [(0, .ref (B + n)), (1, .ref (B + a1)), (2, J v2_1), (3, J v3_4)] [1, 2, 3, 0] rfl ?_
      exact ih4 v2_1 v3_4 hf h_v2_1 h_v3_4
    · replace hf := hf.2 c_10
      obtain ⟨q_7, hf⟩ := hf
      obtain ⟨v2_6, e_v2_6⟩ : ∃ z : Int, z = v2_1 + 1 := ⟨_, rfl⟩
      replace hf := hf v2_6 e_v2_6
      have h_v2_6 : inR v2_6 := by rw [e_v2_6]; exact q_7
      refine g_iincv hC 2 e_v2_6 [(2, J v2_6), (0, .ref (B + n)), (1, .ref (B + a1)), (3, J v3_2)] dX9_howManyStems_22 rfl (by decide) rfl ?_
      obtain ⟨q_9, hf⟩ := hf
      obtain ⟨v3_8, e_v3_8⟩ : ∃ z : Int, z = v3_2 + 1 := ⟨_, rfl⟩
      replace hf := hf v3_8 e_v3_8
      have h_v3_8 : inR v3_8 := by rw [e_v3_8]; exact q_9
      refine g_iincv hC 3 e_v3_8 [(3, J v3_8), (2, J v2_6), (0, .ref (B + n)), (1, .ref (B + a1))] dX9_howManyStems_25 rfl (by decide) rfl ?_
      refine g_goto hC 4 dX9_howManyStems_28 rfl ?_
      refine g_sub [(0, .ref (B + n)), (1, .ref (B + a1)), (2, J v2_6), (3, J v3_8)] [2, 3, 1, 0] rfl ?_
      exact ih4 v2_6 v3_8 hf h_v2_6 h_v3_8
set_option maxHeartbeats 4000000 in
set_option maxRecDepth 100000 in
theorem c_X9_longest (l : Launch) (B : Nat) (D : va_G) (K : Nat → ClassId) (n : Nat) (a1 : Nat) (h_n : is_X9 n) (h_a1 : is_X5 a1) (M : Mem) (hM : MR M) (Q : Int → Prop) (hf : f_X9_longest n a1 M Q) : CtI l yX9_longest cX9_longest 6 1 25 B D K [.ref (B + n), .ref (B + a1)] M (fun r M1 => M = M1 ∧ Q r) := by
  refine ct_i (by decide) (Nat.le_of_ble_eq_true rfl) ?_
  intro p e s m args below meth c hC
  have hC : Cx p s m args meth c D K cX9_longest 6 RX9 (some .int) := hC
  unfold f_X9_longest at hf
  refine (show G p l e (rmF 1 25) s m args below meth c B D K 6 0 0 (ZI below args s B D K (fun r M1 => M = M1 ∧ Q r)) M 0 [(0, .ref (B + n)), (1, .ref (B + a1))] [] from ?_)
  refine g_iconst hC dX9_longest_0 ?_
  refine g_istore_n hC [(2, J (-1)), (0, .ref (B + n)), (1, .ref (B + a1))] dX9_longest_1 rfl (by decide) rfl ?_
  refine g_iconst hC dX9_longest_2 ?_
  refine g_istore_n hC [(3, J 0), (2, J (-1)), (0, .ref (B + n)), (1, .ref (B + a1))] dX9_longest_3 rfl (by decide) rfl ?_
  refine g_iconst hC dX9_longest_4 ?_
  refine g_istore hC [(4, J 0), (3, J 0), (2, J (-1)), (0, .ref (B + n)), (1, .ref (B + a1))] dX9_longest_5 (by decide) rfl ?_
  refine g_sub [(0, .ref (B + n)), (1, .ref (B + a1)), (2, J (-1)), (3, J 0), (4, J 0)] [3, 4, 2, 1, 0] rfl ?_
  refine wl3_elim (fun (v2_1 : Int) (v3_2 : Int) (v4_3 : Int) => inR v2_1 → inR v3_2 → inR v4_3 → G p l e (rmF 1 25) s m args below meth c B D K 6 0 0 (ZI below args s B D K (fun r M1 => M = M1 ∧ Q r)) M 7 [(0, .ref (B + n)), (1, .ref (B + a1)), (2, J v2_1), (3, J v3_2), (4, J v4_3)] []) ?_ 5000 (-1) 0 0 hf (by unfold inR; omega) (by unfold inR; omega) (by unfold inR; omega)
  intro rec7 ih7 v2_1 v3_2 v4_3 hf h_v2_1 h_v3_2 h_v4_3
  unfold X9_longest_b7 at hf
  refine g_iload hC 4 dX9_longest_7 rfl ?_
  refine g_aload_n hC 1 dX9_longest_9 rfl rfl ?_
  refine g_geti hC okX5 (sh_X5 h_a1) 1 (by decide) rfl wf_X9_66 dX9_longest_10 ?_
  refine g_icmp_ge hC 58 h_v4_3 (hM _ _) dX9_longest_13 rfl (fun c_14 => ?_) (fun c_14 => ?_)
  · replace hf := hf.1 c_14
    refine g_iload_n hC 2 dX9_longest_58 rfl rfl ?_
    exact g_reti hC h_v2_1 hM ⟨rfl, hf⟩ dX9_longest_59
  · replace hf := hf.2 c_14
    refine g_aload_n hC 0 dX9_longest_16 rfl rfl ?_
    refine g_getr hC okX9 (sh_X9 h_n) 3 (by decide) rfl wf_X9_21 dX9_longest_17 ?_
    refine g_iload hC 4 dX9_longest_20 rfl ?_
    obtain ⟨q_4, hf⟩ := hf
    refine g_ialdk (v4_3.toNat) hC (sh_X9_3 h_n) q_4.1 q_4.2 rfl dX9_longest_22 ?_
    refine g_iconst hC dX9_longest_23 ?_
    refine jn_elim (fun (k : Int → Prop) => ∀ (s0_5 : Int), k s0_5 → (inR s0_5) → G p l e (rmF 1 25) s m args below meth c B D K 6 0 0 (ZI below args s B D K (fun r M1 => M = M1 ∧ Q r)) M 38 [(0, .ref (B + n)), (1, .ref (B + a1)), (2, J v2_1), (3, J v3_2), (4, J v4_3)] [J s0_5]) hf ?_ ?_
    · intro s0_5 hf h_s0_5
      refine g_istore hC [(5, J s0_5), (0, .ref (B + n)), (1, .ref (B + a1)), (2, J v2_1), (3, J v3_2), (4, J v4_3)] dX9_longest_38 (by decide) rfl ?_
      refine g_iload hC 0 dX9_longest_40 rfl ?_
      refine g_iload_n hC 4 dX9_longest_42 rfl rfl ?_
      refine g_icmp_le hC 52 h_s0_5 h_v3_2 dX9_longest_43 rfl (fun c_10 => ?_) (fun c_10 => ?_)
      · replace hf := hf.1 c_10
        obtain ⟨q_7, hf⟩ := hf
        obtain ⟨v4_6, e_v4_6⟩ : ∃ z : Int, z = v4_3 + 1 := ⟨_, rfl⟩
        replace hf := hf v4_6 e_v4_6
        have h_v4_6 : inR v4_6 := by rw [e_v4_6]; exact q_7
        refine g_iincv hC 5 e_v4_6 [(4, J v4_6), (5, J s0_5), (0, .ref (B + n)), (1, .ref (B + a1)), (2, J v2_1), (3, J v3_2)] dX9_longest_52 rfl (by decide) rfl ?_
        refine g_goto hC 7 dX9_longest_55 rfl ?_
        refine g_sub [(0, .ref (B + n)), (1, .ref (B + a1)), (2, J v2_1), (3, J v3_2), (4, J v4_6)] [2, 3, 4, 5, 0] rfl ?_
        exact ih7 v2_1 v3_2 v4_6 hf h_v2_1 h_v3_2 h_v4_6
      · replace hf := hf.2 c_10
        refine g_iload hC 0 dX9_longest_46 rfl ?_
        refine g_istore_n hC [(3, J s0_5), (5, J s0_5), (0, .ref (B + n)), (1, .ref (B + a1)), (2, J v2_1), (4, J v4_3)] dX9_longest_48 rfl (by decide) rfl ?_
        refine g_iload hC 5 dX9_longest_49 rfl ?_
        refine g_istore_n hC [(2, J v4_3), (3, J s0_5), (5, J s0_5), (0, .ref (B + n)), (1, .ref (B + a1)), (4, J v4_3)] dX9_longest_51 rfl (by decide) rfl ?_
        obtain ⟨q_9, hf⟩ := hf
        obtain ⟨v4_8, e_v4_8⟩ : ∃ z : Int, z = v4_3 + 1 := ⟨_, rfl⟩
        replace hf := hf v4_8 e_v4_8
        have h_v4_8 : inR v4_8 := by rw [e_v4_8]; exact q_9
        refine g_iincv hC 5 e_v4_8 [(4, J v4_8), (2, J v4_3), (3, J s0_5), (5, J s0_5), (0, .ref (B + n)), (1, .ref (B + a1))] dX9_longest_52 rfl (by decide) rfl ?_
        refine g_goto hC 7 dX9_longest_55 rfl ?_
        refine g_sub [(0, .ref (B + n)), (1, .ref (B + a1)), (2, J v4_3), (3, J s0_5), (4, J v4_8)] [4, 5, 1, 2, 0] rfl ?_
        exact ih7 v4_3 s0_5 v4_8 hf h_v4_3 h_s0_5 h_v4_8
    · intro J38 hJ38 hf
      refine g_icmp_ne hC 37 (hM _ _) (by unfold inR; omega) dX9_longest_24 rfl (fun c_13 => ?_) (fun c_13 => ?_)
      · replace hf := hf.1 c_13
        refine g_iconst hC dX9_longest_37 ?_
        refine g_sub [(0, .ref (B + n)), (1, .ref (B + a1)), (2, J v2_1), (3, J v3_2), (4, J v4_3)] [0, 1, 2, 3, 4] rfl ?_
        exact hJ38 0 hf (by unfold inR; omega)
      · replace hf := hf.2 c_13
        refine g_aload_n hC 0 dX9_longest_27 rfl rfl ?_
        refine g_aload_n hC 1 dX9_longest_28 rfl rfl ?_
        refine g_iload hC 4 dX9_longest_29 rfl ?_
        refine g_callVI hC (sk := []) [.ref (B + a1), J v4_3] (c_X9_lengthOf l B D K n a1 v4_3 h_n h_a1 h_v4_3 M hM _ hf) yv_X9_lengthOf wm_X9_110 okX9.1 (sh_X9 h_n) rfl ⟨Nat.le_of_ble_eq_true rfl, Nat.le_of_ble_eq_true rfl, Nat.le_of_ble_eq_true rfl, Nat.le_of_ble_eq_true rfl⟩ rfl (Nat.le_of_ble_eq_true rfl) dX9_longest_31 ?_
        rintro r_11 M_12 h_r_11 - ⟨rfl, hf⟩
        refine g_goto hC 38 dX9_longest_34 rfl ?_
        refine g_sub [(0, .ref (B + n)), (1, .ref (B + a1)), (2, J v2_1), (3, J v3_2), (4, J v4_3)] [0, 1, 2, 3, 4] rfl ?_
        exact hJ38 r_11 hf h_r_11
set_option maxHeartbeats 4000000 in
set_option maxRecDepth 100000 in
theorem c_X10_hasRoom (l : Launch) (B : Nat) (D : va_G) (K : Nat → ClassId)   (M : Mem) (hM : MR M) (Q : Int → Prop) (hf : f_X10_hasRoom  M Q) : CtZ l yX10_hasRoom cX10_hasRoom 1 0 0 B D K [.ref (B + 1)] M (fun r M1 => M = M1 ∧ Q r) := by
  refine ct_z (by decide) (Nat.le_of_ble_eq_true rfl) ?_
  intro p e s m args below meth c hC
  have hC : Cx p s m args meth c D K cX10_hasRoom 1 RX10 (some .boolean) := hC
  unfold f_X10_hasRoom at hf
  refine (show G p l e (rmF 0 0) s m args below meth c B D K 1 0 0 (ZZ below args s B D K (fun r M1 => M = M1 ∧ Q r)) M 0 [(0, .ref (B + 1))] [] from ?_)
  refine g_aload_n hC 0 dX10_hasRoom_0 rfl rfl ?_
  refine g_geti hC okX10 sc1 1 (by decide) rfl wf_X10_15 dX10_hasRoom_1 ?_
  refine g_bipush hC dX10_hasRoom_4 (by decide) ?_
  refine g_iadd hC dX10_hasRoom_6 ?_
  refine g_sipush hC dX10_hasRoom_7 (by decide) ?_
  obtain ⟨q_1, hf⟩ := hf
  refine g_icmp_gt hC 17 q_1 (by unfold inR; omega) dX10_hasRoom_10 rfl (fun c_2 => ?_) (fun c_2 => ?_)
  · replace hf := hf.1 c_2
    refine g_iconst hC dX10_hasRoom_17 ?_
    exact g_retz hC (Or.inl rfl) hM ⟨rfl, hf⟩ dX10_hasRoom_18
  · replace hf := hf.2 c_2
    refine g_iconst hC dX10_hasRoom_13 ?_
    refine g_goto hC 18 dX10_hasRoom_14 rfl ?_
    exact g_retz hC (Or.inr rfl) hM ⟨rfl, hf⟩ dX10_hasRoom_18
set_option maxHeartbeats 4000000 in
set_option maxRecDepth 100000 in
theorem c_X10_put (l : Launch) (B : Nat) (D : va_G) (K : Nat → ClassId) (v1 : Int) (i_v1 : inR v1) (M : Mem) (hM : MR M) (Q : Mem → Prop) (hf : f_X10_put v1 M Q) : CtV l yX10_put cX10_put 3 0 0 B D K [.ref (B + 1), J v1] M Q := by
  refine ct_v (by decide) (Nat.le_of_ble_eq_true rfl) ?_
  intro p e s m args below meth c hC
  have hC : Cx p s m args meth c D K cX10_put 3 RX10 none := hC
  unfold f_X10_put at hf
  refine (show G p l e (rmF 0 0) s m args below meth c B D K 3 0 0 (ZV below args s B D K Q) M 0 [(0, .ref (B + 1)), (1, J v1)] [] from ?_)
  refine g_bipush hC dX10_put_0 (by decide) ?_
  refine g_istore_n hC [(2, J 24), (0, .ref (B + 1)), (1, J v1)] dX10_put_2 rfl (by decide) rfl ?_
  refine g_sub [(0, .ref (B + 1)), (1, J v1), (2, J 24)] [1, 2, 0] rfl ?_
  refine wl2_elim (fun (v2_1 : Int) (M_2 : Mem) => inR v2_1 → MR M_2 → G p l e (rmF 0 0) s m args below meth c B D K 3 0 0 (ZV below args s B D K Q) M_2 3 [(0, .ref (B + 1)), (1, J v1), (2, J v2_1)] []) ?_ 5000 24 M hf (by unfold inR; omega) hM
  intro rec3 ih3 v2_1 M_2 hf h_v2_1 h_M_2
  unfold X10_put_b3 at hf
  refine g_iload_n hC 2 dX10_put_3 rfl rfl ?_
  refine g_if_lt hC 46 h_v2_1 dX10_put_4 rfl (fun c_10 => ?_) (fun c_10 => ?_)
  · replace hf := hf.1 c_10
    exact g_retv hC h_M_2 hf dX10_put_46
  · replace hf := hf.2 c_10
    refine g_aload_n hC 0 dX10_put_7 rfl rfl ?_
    refine g_geti hC okX10 sc1 1 (by decide) rfl wf_X10_15 dX10_put_8 ?_
    refine g_sipush hC dX10_put_11 (by decide) ?_
    refine g_icmp_ge hC 46 (h_M_2 _ _) (by unfold inR; omega) dX10_put_14 rfl (fun c_9 => ?_) (fun c_9 => ?_)
    · replace hf := hf.1 c_9
      exact g_retv hC h_M_2 hf dX10_put_46
    · replace hf := hf.2 c_9
      refine g_aload_n hC 0 dX10_put_17 rfl rfl ?_
      refine g_getr hC okX10 sc1 0 (by decide) rfl wf_X10_9 dX10_put_18 ?_
      refine g_aload_n hC 0 dX10_put_21 rfl rfl ?_
      refine g_geti hC okX10 sc1 1 (by decide) rfl wf_X10_15 dX10_put_22 ?_
      refine g_iload_n hC 1 dX10_put_25 rfl rfl ?_
      refine g_iload_n hC 2 dX10_put_26 rfl rfl ?_
      refine g_ishr hC dX10_put_27 ?_
      refine g_i2b hC dX10_put_28 ?_
      obtain ⟨q_3, hf⟩ := hf
      refine g_bastk ((M_2 1 1).toNat) hC sc2 q_3.1 q_3.2 rfl dX10_put_29 ?_
      refine g_nmM (fun M_4 e_M_4 => ?_)
      replace hf := hf M_4 e_M_4
      have h_M_4 : MR M_4 := by rw [e_M_4]; exact MR_st h_M_2 (bByte_in _)
      refine g_aload_n hC 0 dX10_put_30 rfl rfl ?_
      refine g_dup hC dX10_put_31 rfl ?_
      refine g_geti hC okX10 sc1 1 (by decide) rfl wf_X10_15 dX10_put_32 ?_
      refine g_iconst hC dX10_put_35 ?_
      refine g_iadd hC dX10_put_36 ?_
      obtain ⟨q_5, hf⟩ := hf
      refine g_puti hC okX10 tnX10 sc1 1 (by decide) rfl rfl (by decide) wf_X10_15 dX10_put_37 ?_
      refine g_nmM (fun M_6 e_M_6 => ?_)
      replace hf := hf M_6 e_M_6
      have h_M_6 : MR M_6 := by rw [e_M_6]; exact MR_st h_M_4 q_5
      obtain ⟨q_8, hf⟩ := hf
      obtain ⟨v2_7, e_v2_7⟩ : ∃ z : Int, z = v2_1 + (-8) := ⟨_, rfl⟩
      replace hf := hf v2_7 e_v2_7
      have h_v2_7 : inR v2_7 := by rw [e_v2_7]; exact q_8
      refine g_iincv hC 2 e_v2_7 [(2, J v2_7), (0, .ref (B + 1)), (1, J v1)] dX10_put_40 rfl (by decide) rfl ?_
      refine g_goto hC 3 dX10_put_43 rfl ?_
      refine g_sub [(0, .ref (B + 1)), (1, J v1), (2, J v2_7)] [1, 2, 0] rfl ?_
      exact ih3 v2_7 M_6 hf h_v2_7 h_M_6
set_option maxHeartbeats 4000000 in
set_option maxRecDepth 100000 in
theorem c_X11_refuse (l : Launch) (B : Nat) (D : va_G) (K : Nat → ClassId) (v1 : Int) (i_v1 : inR v1) (M : Mem) (hM : MR M) (Q : Int → Mem → Prop) (hf : f_X11_refuse v1 M Q) : CtI l yX11_refuse cX11_refuse 2 0 0 B D K [.ref (B + 0), J v1] M Q := by
  refine ct_i (by decide) (Nat.le_of_ble_eq_true rfl) ?_
  intro p e s m args below meth c hC
  have hC : Cx p s m args meth c D K cX11_refuse 2 RX11 (some .int) := hC
  unfold f_X11_refuse at hf
  refine (show G p l e (rmF 0 0) s m args below meth c B D K 2 0 0 (ZI below args s B D K Q) M 0 [(0, .ref (B + 0)), (1, J v1)] [] from ?_)
  refine g_aload_n hC 0 dX11_refuse_0 rfl rfl ?_
  refine g_getr hC okX11 sc0 15 (by decide) rfl wf_X11_94 dX11_refuse_1 ?_
  refine g_iload_n hC 1 dX11_refuse_4 rfl rfl ?_
  refine g_dup2 hC dX11_refuse_5 rfl rfl ?_
  obtain ⟨q_1, hf⟩ := hf
  refine g_ialdk (v1.toNat) hC sc94 q_1.1 q_1.2 rfl dX11_refuse_6 ?_
  refine g_iconst hC dX11_refuse_7 ?_
  refine g_iadd hC dX11_refuse_8 ?_
  obtain ⟨q_2, hf⟩ := hf
  refine g_iastk (v1.toNat) hC sc94 q_1.1 q_1.2 rfl dX11_refuse_9 ?_
  refine g_nmM (fun M_3 e_M_3 => ?_)
  replace hf := hf M_3 e_M_3
  have h_M_3 : MR M_3 := by rw [e_M_3]; exact MR_st hM q_2
  refine g_iconst hC dX11_refuse_10 ?_
  exact g_reti hC (by unfold inR; omega) h_M_3 hf dX11_refuse_11
set_option maxHeartbeats 4000000 in
set_option maxRecDepth 100000 in
theorem c_X11_feed (l : Launch) (B : Nat) (D : va_G) (K : Nat → ClassId) (v1 : Int) (v2 : Int) (v3 : Int) (v4 : Int) (v5 : Int) (i_v1 : inR v1) (i_v2 : inR v2) (i_v3 : inR v3) (i_v4 : inR v4) (i_v5 : inR v5) (M : Mem) (hM : MR M) (Q : Int → Mem → Prop) (hf : f_X11_feed v1 v2 v3 v4 v5 M Q) : CtI l yX11_feed cX11_feed 6 1 22 B D K [.ref (B + 0), J v1, J v2, J v3, J v4, J v5] M Q := by
  refine ct_i (by decide) (Nat.le_of_ble_eq_true rfl) ?_
  intro p e s m args below meth c hC
  have hC : Cx p s m args meth c D K cX11_feed 6 RX11 (some .int) := hC
  unfold f_X11_feed at hf
  refine (show G p l e (rmF 1 22) s m args below meth c B D K 6 0 0 (ZI below args s B D K Q) M 0 [(0, .ref (B + 0)), (1, J v1), (2, J v2), (3, J v3), (4, J v4), (5, J v5)] [] from ?_)
  refine g_aload_n hC 0 dX11_feed_0 rfl rfl ?_
  refine g_getr hC okX11 sc0 0 (by decide) rfl wf_X11_10 dX11_feed_1 ?_
  refine g_callVZ hC (sk := []) [] (c_X10_hasRoom l B D K   M hM _ hf) yv_X10_hasRoom wm_X11_101 okX10.1 sc1 rfl ⟨Nat.le_of_ble_eq_true rfl, Nat.le_of_ble_eq_true rfl, Nat.le_of_ble_eq_true rfl, Nat.le_of_ble_eq_true rfl⟩ rfl (Nat.le_of_ble_eq_true rfl) dX11_feed_4 ?_
  rintro r_1 M_2 h_r_1 - ⟨rfl, hf⟩
  refine g_if_ne hC 16 (zi_ h_r_1) dX11_feed_7 rfl (fun c_10 => ?_) (fun c_10 => ?_)
  · replace hf := hf.1 c_10
    refine g_aload_n hC 0 dX11_feed_16 rfl rfl ?_
    refine g_getr hC okX11 sc0 0 (by decide) rfl wf_X11_10 dX11_feed_17 ?_
    refine g_iload_n hC 1 dX11_feed_20 rfl rfl ?_
    refine g_callVV hC (sk := []) [J v1] (c_X10_put l B D K v1 i_v1 M hM _ hf) yv_X10_put wm_X11_109 okX10.1 sc1 rfl ⟨Nat.le_of_ble_eq_true rfl, Nat.le_of_ble_eq_true rfl, Nat.le_of_ble_eq_true rfl, Nat.le_of_ble_eq_true rfl⟩ rfl (Nat.le_of_ble_eq_true rfl) dX11_feed_21 ?_
    intro M_3 h_M_3 hf
    refine g_aload_n hC 0 dX11_feed_24 rfl rfl ?_
    refine g_getr hC okX11 sc0 0 (by decide) rfl wf_X11_10 dX11_feed_25 ?_
    refine g_iload_n hC 2 dX11_feed_28 rfl rfl ?_
    refine g_callVV hC (sk := []) [J v2] (c_X10_put l B D K v2 i_v2 M_3 h_M_3 _ hf) yv_X10_put wm_X11_109 okX10.1 sc1 rfl ⟨Nat.le_of_ble_eq_true rfl, Nat.le_of_ble_eq_true rfl, Nat.le_of_ble_eq_true rfl, Nat.le_of_ble_eq_true rfl⟩ rfl (Nat.le_of_ble_eq_true rfl) dX11_feed_29 ?_
    intro M_4 h_M_4 hf
    refine g_aload_n hC 0 dX11_feed_32 rfl rfl ?_
    refine g_getr hC okX11 sc0 0 (by decide) rfl wf_X11_10 dX11_feed_33 ?_
    refine g_iload_n hC 3 dX11_feed_36 rfl rfl ?_
    refine g_callVV hC (sk := []) [J v3] (c_X10_put l B D K v3 i_v3 M_4 h_M_4 _ hf) yv_X10_put wm_X11_109 okX10.1 sc1 rfl ⟨Nat.le_of_ble_eq_true rfl, Nat.le_of_ble_eq_true rfl, Nat.le_of_ble_eq_true rfl, Nat.le_of_ble_eq_true rfl⟩ rfl (Nat.le_of_ble_eq_true rfl) dX11_feed_37 ?_
    intro M_5 h_M_5 hf
    refine g_aload_n hC 0 dX11_feed_40 rfl rfl ?_
    refine g_getr hC okX11 sc0 0 (by decide) rfl wf_X11_10 dX11_feed_41 ?_
    refine g_iload hC 4 dX11_feed_44 rfl ?_
    refine g_callVV hC (sk := []) [J v4] (c_X10_put l B D K v4 i_v4 M_5 h_M_5 _ hf) yv_X10_put wm_X11_109 okX10.1 sc1 rfl ⟨Nat.le_of_ble_eq_true rfl, Nat.le_of_ble_eq_true rfl, Nat.le_of_ble_eq_true rfl, Nat.le_of_ble_eq_true rfl⟩ rfl (Nat.le_of_ble_eq_true rfl) dX11_feed_46 ?_
    intro M_6 h_M_6 hf
    refine g_aload_n hC 0 dX11_feed_49 rfl rfl ?_
    refine g_getr hC okX11 sc0 0 (by decide) rfl wf_X11_10 dX11_feed_50 ?_
    refine g_iload hC 5 dX11_feed_53 rfl ?_
    refine g_callVV hC (sk := []) [J v5] (c_X10_put l B D K v5 i_v5 M_6 h_M_6 _ hf) yv_X10_put wm_X11_109 okX10.1 sc1 rfl ⟨Nat.le_of_ble_eq_true rfl, Nat.le_of_ble_eq_true rfl, Nat.le_of_ble_eq_true rfl, Nat.le_of_ble_eq_true rfl⟩ rfl (Nat.le_of_ble_eq_true rfl) dX11_feed_55 ?_
    intro M_7 h_M_7 hf
    refine g_aload_n hC 0 dX11_feed_58 rfl rfl ?_
    refine g_getr hC okX11 sc0 0 (by decide) rfl wf_X11_10 dX11_feed_59 ?_
    refine g_geti hC okX10 sc1 1 (by decide) rfl wf_X11_113 dX11_feed_62 ?_
    exact g_reti hC (h_M_7 _ _) h_M_7 hf dX11_feed_65
  · replace hf := hf.2 c_10
    refine g_aload_n hC 0 dX11_feed_10 rfl rfl ?_
    refine g_iconst hC dX11_feed_11 ?_
    refine g_callVI hC (sk := []) [J 0] (c_X11_refuse l B D K 0 (by unfold inR; omega) M hM _ hf) yv_X11_refuse wm_X11_105 okX11.1 sc0 rfl ⟨Nat.le_of_ble_eq_true rfl, Nat.le_of_ble_eq_true rfl, Nat.le_of_ble_eq_true rfl, Nat.le_of_ble_eq_true rfl⟩ rfl (Nat.le_of_ble_eq_true rfl) dX11_feed_12 ?_
    intro r_8 M_9 h_r_8 h_M_9 hf
    exact g_reti hC h_r_8 h_M_9 hf dX11_feed_15
set_option maxHeartbeats 4000000 in
set_option maxRecDepth 100000 in
theorem c_X11_end (l : Launch) (B : Nat) (D : va_G) (K : Nat → ClassId) (v1 : Int) (i_v1 : inR v1) (M : Mem) (hM : MR M) (Q : Int → Mem → Prop) (hf : f_X11_end v1 M Q) : CtZ l yX11_end cX11_end 2 1 21 B D K [.ref (B + 0), J v1] M Q := by
  refine ct_z (by decide) (Nat.le_of_ble_eq_true rfl) ?_
  intro p e s m args below meth c hC
  have hC : Cx p s m args meth c D K cX11_end 2 RX11 (some .boolean) := hC
  unfold f_X11_end at hf
  refine (show G p l e (rmF 1 21) s m args below meth c B D K 2 0 0 (ZZ below args s B D K Q) M 0 [(0, .ref (B + 0)), (1, J v1)] [] from ?_)
  refine g_iload_n hC 1 dX11_end_0 rfl rfl ?_
  refine jn_elim (fun (k : Mem → Prop) => ∀ (M_1 : Mem), k M_1 → (MR M_1) → G p l e (rmF 1 21) s m args below meth c B D K 2 0 0 (ZZ below args s B D K Q) M_1 15 [(0, .ref (B + 0))] []) hf ?_ ?_
  · intro M_1 hf h_M_1
    refine g_aload_n hC 0 dX11_end_15 rfl rfl ?_
    refine g_iconst hC dX11_end_16 ?_
    refine g_callVI hC (sk := []) [J 0] (c_X11_refuse l B D K 0 (by unfold inR; omega) M_1 h_M_1 _ hf) yv_X11_refuse wm_X11_105 okX11.1 sc0 rfl ⟨Nat.le_of_ble_eq_true rfl, Nat.le_of_ble_eq_true rfl, Nat.le_of_ble_eq_true rfl, Nat.le_of_ble_eq_true rfl⟩ rfl (Nat.le_of_ble_eq_true rfl) dX11_end_17 ?_
    intro r_2 M_3 h_r_2 h_M_3 hf
    refine g_pop hC dX11_end_20 rfl ?_
    refine g_iconst hC dX11_end_21 ?_
    exact g_retz hC (Or.inl rfl) h_M_3 hf dX11_end_22
  · intro J15 hJ15 hf
    refine g_if_lt hC 15 i_v1 dX11_end_1 rfl (fun c_6 => ?_) (fun c_6 => ?_)
    · replace hf := hf.1 c_6
      refine g_sub [(0, .ref (B + 0))] [0] rfl ?_
      exact hJ15 M hf hM
    · replace hf := hf.2 c_6
      refine g_iload_n hC 1 dX11_end_4 rfl rfl ?_
      refine g_aload_n hC 0 dX11_end_5 rfl rfl ?_
      refine g_getr hC okX11 sc0 0 (by decide) rfl wf_X11_10 dX11_end_6 ?_
      refine g_geti hC okX10 sc1 1 (by decide) rfl wf_X11_113 dX11_end_9 ?_
      refine g_icmp_le hC 23 i_v1 (hM _ _) dX11_end_12 rfl (fun c_5 => ?_) (fun c_5 => ?_)
      · replace hf := hf.1 c_5
        refine g_aload_n hC 0 dX11_end_23 rfl rfl ?_
        refine g_getr hC okX11 sc0 0 (by decide) rfl wf_X11_10 dX11_end_24 ?_
        refine g_iload_n hC 1 dX11_end_27 rfl rfl ?_
        refine g_puti hC okX10 tnX10 sc1 1 (by decide) rfl rfl (by decide) wf_X11_113 dX11_end_28 ?_
        refine g_nmM (fun M_4 e_M_4 => ?_)
        replace hf := hf M_4 e_M_4
        have h_M_4 : MR M_4 := by rw [e_M_4]; exact MR_st hM i_v1
        refine g_iconst hC dX11_end_31 ?_
        exact g_retz hC (Or.inr rfl) h_M_4 hf dX11_end_32
      · replace hf := hf.2 c_5
        refine g_sub [(0, .ref (B + 0))] [0] rfl ?_
        exact hJ15 M hf hM
set_option maxHeartbeats 4000000 in
set_option maxRecDepth 100000 in
theorem c_X11_forgetActs (l : Launch) (B : Nat) (D : va_G) (K : Nat → ClassId)   (M : Mem) (hM : MR M) (Q : Mem → Prop) (hf : f_X11_forgetActs  M Q) : CtV l yX11_forgetActs cX11_forgetActs 1 0 0 B D K [.ref (B + 0)] M Q := by
  refine ct_v (by decide) (Nat.le_of_ble_eq_true rfl) ?_
  intro p e s m args below meth c hC
  have hC : Cx p s m args meth c D K cX11_forgetActs 1 RX11 none := hC
  unfold f_X11_forgetActs at hf
  refine (show G p l e (rmF 0 0) s m args below meth c B D K 1 0 0 (ZV below args s B D K Q) M 0 [(0, .ref (B + 0))] [] from ?_)
  refine g_aload_n hC 0 dX11_forgetActs_0 rfl rfl ?_
  refine g_getr hC okX11 sc0 8 (by decide) rfl wf_X11_56 dX11_forgetActs_1 ?_
  refine g_iconst hC dX11_forgetActs_4 ?_
  refine g_puti hC okX3 tnX3 sc58 0 (by decide) rfl rfl (by decide) wf_X11_174 dX11_forgetActs_5 ?_
  refine g_nmM (fun M_1 e_M_1 => ?_)
  replace hf := hf M_1 e_M_1
  have h_M_1 : MR M_1 := by rw [e_M_1]; exact MR_st hM (by unfold inR; omega)
  refine g_aload_n hC 0 dX11_forgetActs_8 rfl rfl ?_
  refine g_getr hC okX11 sc0 9 (by decide) rfl wf_X11_63 dX11_forgetActs_9 ?_
  refine g_iconst hC dX11_forgetActs_12 ?_
  refine g_putz hC okX0 tnX0 sc60 0 (by decide) rfl rfl (by decide) wf_X11_352 (Or.inl rfl) dX11_forgetActs_13 ?_
  refine g_nmM (fun M_2 e_M_2 => ?_)
  replace hf := hf M_2 e_M_2
  have h_M_2 : MR M_2 := by rw [e_M_2]; exact MR_st h_M_1 (by unfold inR; omega)
  exact g_retv hC h_M_2 hf dX11_forgetActs_16
set_option maxHeartbeats 4000000 in
set_option maxRecDepth 100000 in
theorem c_X11_figure (l : Launch) (B : Nat) (D : va_G) (K : Nat → ClassId)   (M : Mem) (hM : MR M) (Q : Mem → Prop) (hf : f_X11_figure  M Q) : CtV l yX11_figure cX11_figure 2 4 109 B D K [.ref (B + 0)] M Q := by
  refine ct_v (by decide) (Nat.le_of_ble_eq_true rfl) ?_
  intro p e s m args below meth c hC
  have hC : Cx p s m args meth c D K cX11_figure 2 RX11 none := hC
  unfold f_X11_figure at hf
  refine (show G p l e (rmF 4 109) s m args below meth c B D K 2 0 0 (ZV below args s B D K Q) M 0 [(0, .ref (B + 0))] [] from ?_)
  refine g_aload_n hC 0 dX11_figure_0 rfl rfl ?_
  refine g_getr hC okX11 sc0 6 (by decide) rfl wf_X11_42 dX11_figure_1 ?_
  refine g_aload_n hC 0 dX11_figure_4 rfl rfl ?_
  refine g_getr hC okX11 sc0 2 (by decide) rfl wf_X11_28 dX11_figure_5 ?_
  refine g_callVV hC (sk := []) [.ref (B + 12)] (c_X1_figure l B D K 20 12 (Or.inl rfl) (Or.inr (Or.inl rfl)) M hM _ hf) yv_X1_figure wm_X11_320 okX1.1 (sh_X1 (Or.inl rfl)) rfl ⟨Nat.le_of_ble_eq_true rfl, Nat.le_of_ble_eq_true rfl, Nat.le_of_ble_eq_true rfl, Nat.le_of_ble_eq_true rfl⟩ rfl (Nat.le_of_ble_eq_true rfl) dX11_figure_8 ?_
  intro M_1 h_M_1 hf
  refine g_iconst hC dX11_figure_11 ?_
  refine g_istore_n hC [(1, J 0), (0, .ref (B + 0))] dX11_figure_12 rfl (by decide) rfl ?_
  refine g_sub [(0, .ref (B + 0)), (1, J 0)] [1, 0] rfl ?_
  refine wl2_elim (fun (v1_2 : Int) (M_3 : Mem) => inR v1_2 → MR M_3 → G p l e (rmF 4 109) s m args below meth c B D K 2 0 0 (ZV below args s B D K Q) M_3 13 [(0, .ref (B + 0)), (1, J v1_2)] []) ?_ 5000 0 M_1 hf (by unfold inR; omega) h_M_1
  intro rec13 ih13 v1_2 M_3 hf h_v1_2 h_M_3
  unfold X11_figure_b13 at hf
  refine g_iload_n hC 1 dX11_figure_13 rfl rfl ?_
  refine g_iconst hC dX11_figure_14 ?_
  refine g_icmp_ge hC 48 h_v1_2 (by unfold inR; omega) dX11_figure_15 rfl (fun c_8 => ?_) (fun c_8 => ?_)
  · replace hf := hf.1 c_8
    exact g_retv hC h_M_3 hf dX11_figure_48
  · replace hf := hf.2 c_8
    refine g_aload_n hC 0 dX11_figure_18 rfl rfl ?_
    refine g_getr hC okX11 sc0 7 (by decide) rfl wf_X11_49 dX11_figure_19 ?_
    refine g_iload_n hC 1 dX11_figure_22 rfl rfl ?_
    obtain ⟨q_4, hf⟩ := hf
    refine g_aald hC sc36 q_4.1 q_4.2 dX11_figure_23 ?_
    refine g_aload_n hC 0 dX11_figure_24 rfl rfl ?_
    refine g_getr hC okX11 sc0 2 (by decide) rfl wf_X11_28 dX11_figure_25 ?_
    refine g_aload_n hC 0 dX11_figure_28 rfl rfl ?_
    refine g_getr hC okX11 sc0 6 (by decide) rfl wf_X11_42 dX11_figure_29 ?_
    refine g_iload_n hC 1 dX11_figure_32 rfl rfl ?_
    refine g_aload_n hC 0 dX11_figure_33 rfl rfl ?_
    refine g_getr hC okX11 sc0 7 (by decide) rfl wf_X11_49 dX11_figure_34 ?_
    refine g_iconst hC dX11_figure_37 ?_
    refine g_aaldk 37 hC sc36 (by decide) (by decide) rfl dX11_figure_38 ?_
    refine g_callVV hC (sk := []) [.ref (B + 12), .ref (B + 20), J v1_2, .ref (B + 37)] (c_X9_build l B D K (37 + 7 * v1_2.toNat) 12 20 v1_2 37 (st_X9 q_4.1 q_4.2) (Or.inr (Or.inl rfl)) (Or.inl rfl) h_v1_2 (Or.inl rfl) M_3 h_M_3 _ hf) yv_X9_build wm_X11_431 okX9.1 (sh_X9 (st_X9 q_4.1 q_4.2)) rfl ⟨Nat.le_of_ble_eq_true rfl, Nat.le_of_ble_eq_true rfl, Nat.le_of_ble_eq_true rfl, Nat.le_of_ble_eq_true rfl⟩ rfl (Nat.le_of_ble_eq_true rfl) dX11_figure_39 ?_
    intro M_5 h_M_5 hf
    obtain ⟨q_7, hf⟩ := hf
    obtain ⟨v1_6, e_v1_6⟩ : ∃ z : Int, z = v1_2 + 1 := ⟨_, rfl⟩
    replace hf := hf v1_6 e_v1_6
    have h_v1_6 : inR v1_6 := by rw [e_v1_6]; exact q_7
    refine g_iincv hC 1 e_v1_6 [(1, J v1_6), (0, .ref (B + 0))] dX11_figure_42 rfl (by decide) rfl ?_
    refine g_goto hC 13 dX11_figure_45 rfl ?_
    refine g_sub [(0, .ref (B + 0)), (1, J v1_6)] [1, 0] rfl ?_
    exact ih13 v1_6 M_5 hf h_v1_6 h_M_5
set_option maxHeartbeats 4000000 in
set_option maxRecDepth 100000 in
theorem c_X11_net (l : Launch) (B : Nat) (D : va_G) (K : Nat → ClassId)   (M : Mem) (hM : MR M) (Q : Int → Mem → Prop) (hf : f_X11_net  M Q) : CtI l yX11_net cX11_net 2 6 137 B D K [.ref (B + 0)] M Q := by
  refine ct_i (by decide) (Nat.le_of_ble_eq_true rfl) ?_
  intro p e s m args below meth c hC
  have hC : Cx p s m args meth c D K cX11_net 2 RX11 (some .int) := hC
  unfold f_X11_net at hf
  refine (show G p l e (rmF 6 137) s m args below meth c B D K 2 0 0 (ZI below args s B D K Q) M 0 [(0, .ref (B + 0))] [] from ?_)
  refine g_aload_n hC 0 dX11_net_0 rfl rfl ?_
  refine g_getr hC okX11 sc0 1 (by decide) rfl wf_X11_21 dX11_net_1 ?_
  refine g_callVZ hC (sk := []) [] (c_X6_read l B D K   M hM _ hf) yv_X6_read wm_X11_116 okX6.1 sc3 rfl ⟨Nat.le_of_ble_eq_true rfl, Nat.le_of_ble_eq_true rfl, Nat.le_of_ble_eq_true rfl, Nat.le_of_ble_eq_true rfl⟩ rfl (Nat.le_of_ble_eq_true rfl) dX11_net_4 ?_
  intro r_1 M_2 h_r_1 h_M_2 hf
  refine g_istore_n hC [(1, J r_1), (0, .ref (B + 0))] dX11_net_7 rfl (by decide) rfl ?_
  refine g_aload_n hC 1 dX11_net_8 rfl rfl ?_
  refine g_getr hC okX11 sc0 0 (by decide) rfl wf_X11_10 dX11_net_9 ?_
  refine g_iconst hC dX11_net_12 ?_
  refine g_puti hC okX10 tnX10 sc1 1 (by decide) rfl rfl (by decide) wf_X11_113 dX11_net_13 ?_
  refine g_nmM (fun M_3 e_M_3 => ?_)
  replace hf := hf M_3 e_M_3
  have h_M_3 : MR M_3 := by rw [e_M_3]; exact MR_st h_M_2 (by unfold inR; omega)
  refine g_iload_n hC 0 dX11_net_16 rfl rfl ?_
  refine g_if_ne hC 26 (zi_ h_r_1) dX11_net_17 rfl (fun c_16 => ?_) (fun c_16 => ?_)
  · replace hf := hf.1 c_16
    refine g_aload_n hC 1 dX11_net_26 rfl rfl ?_
    refine g_getr hC okX11 sc0 2 (by decide) rfl wf_X11_28 dX11_net_27 ?_
    refine g_aload_n hC 1 dX11_net_30 rfl rfl ?_
    refine g_getr hC okX11 sc0 1 (by decide) rfl wf_X11_21 dX11_net_31 ?_
    refine g_getr hC okX6 sc3 0 (by decide) rfl wf_X11_119 dX11_net_34 ?_
    refine g_callVV hC (sk := []) [.ref (B + 4)] (c_X5_copyFrom l B D K 12 4 (Or.inr (Or.inl rfl)) (Or.inl rfl) M_3 h_M_3 _ hf) yv_X5_copyFrom wm_X11_122 okX5.1 (sh_X5 (Or.inr (Or.inl rfl))) rfl ⟨Nat.le_of_ble_eq_true rfl, Nat.le_of_ble_eq_true rfl, Nat.le_of_ble_eq_true rfl, Nat.le_of_ble_eq_true rfl⟩ rfl (Nat.le_of_ble_eq_true rfl) dX11_net_37 ?_
    intro M_4 h_M_4 hf
    refine g_aload_n hC 1 dX11_net_40 rfl rfl ?_
    refine g_getr hC okX11 sc0 1 (by decide) rfl wf_X11_21 dX11_net_41 ?_
    refine g_getr hC okX6 sc3 1 (by decide) rfl wf_X11_126 dX11_net_44 ?_
    refine g_iconst hC dX11_net_47 ?_
    refine g_aload_n hC 1 dX11_net_48 rfl rfl ?_
    refine g_getr hC okX11 sc0 3 (by decide) rfl wf_X11_32 dX11_net_49 ?_
    refine g_iconst hC dX11_net_52 ?_
    refine g_bipush hC dX11_net_53 (by decide) ?_
    obtain ⟨q_5, hf⟩ := hf
    refine g_copy hC sc10 sc18 q_5.1 q_5.2.1 q_5.2.2.1 q_5.2.2.2.1 q_5.2.2.2.2 ⟨wm_X11_127, wj_copy⟩ (Nat.le_of_ble_eq_true rfl) (Nat.le_of_ble_eq_true rfl) dX11_net_55 ?_
    refine g_nmM (fun M_6 e_M_6 => ?_)
    replace hf := hf M_6 e_M_6
    have h_M_6 : MR M_6 := by rw [e_M_6]; exact MR_cpy h_M_4
    refine g_aload_n hC 1 dX11_net_58 rfl rfl ?_
    refine g_getr hC okX11 sc0 1 (by decide) rfl wf_X11_21 dX11_net_59 ?_
    refine g_getr hC okX6 sc3 2 (by decide) rfl wf_X11_133 dX11_net_62 ?_
    refine g_iconst hC dX11_net_65 ?_
    refine g_aload_n hC 1 dX11_net_66 rfl rfl ?_
    refine g_getr hC okX11 sc0 4 (by decide) rfl wf_X11_36 dX11_net_67 ?_
    refine g_iconst hC dX11_net_70 ?_
    refine g_bipush hC dX11_net_71 (by decide) ?_
    obtain ⟨q_7, hf⟩ := hf
    refine g_copy hC sc11 sc19 q_7.1 q_7.2.1 q_7.2.2.1 q_7.2.2.2.1 q_7.2.2.2.2 ⟨wm_X11_127, wj_copy⟩ (Nat.le_of_ble_eq_true rfl) (Nat.le_of_ble_eq_true rfl) dX11_net_73 ?_
    refine g_nmM (fun M_8 e_M_8 => ?_)
    replace hf := hf M_8 e_M_8
    have h_M_8 : MR M_8 := by rw [e_M_8]; exact MR_cpy h_M_6
    refine g_aload_n hC 1 dX11_net_76 rfl rfl ?_
    refine g_aload_n hC 1 dX11_net_77 rfl rfl ?_
    refine g_getr hC okX11 sc0 1 (by decide) rfl wf_X11_21 dX11_net_78 ?_
    refine g_geti hC okX6 sc3 3 (by decide) rfl wf_X11_134 dX11_net_81 ?_
    refine g_puti hC okX11 tnX11 sc0 5 (by decide) rfl rfl (by decide) wf_X11_137 dX11_net_84 ?_
    refine g_nmM (fun M_9 e_M_9 => ?_)
    replace hf := hf M_9 e_M_9
    have h_M_9 : MR M_9 := by rw [e_M_9]; exact MR_st h_M_8 (h_M_8 _ _)
    refine g_aload_n hC 1 dX11_net_87 rfl rfl ?_
    refine g_getr hC okX11 sc0 10 (by decide) rfl wf_X11_70 dX11_net_88 ?_
    refine g_iconst hC dX11_net_91 ?_
    refine g_puti hC okX8 tnX8 sc63 0 (by decide) rfl rfl (by decide) wf_X11_138 dX11_net_92 ?_
    refine g_nmM (fun M_10 e_M_10 => ?_)
    replace hf := hf M_10 e_M_10
    have h_M_10 : MR M_10 := by rw [e_M_10]; exact MR_st h_M_9 (by unfold inR; omega)
    refine g_aload_n hC 1 dX11_net_95 rfl rfl ?_
    refine g_callVV hC (sk := []) [] (c_X11_forgetActs l B D K   M_10 h_M_10 _ hf) yv_X11_forgetActs wm_X11_141 okX11.1 sc0 rfl ⟨Nat.le_of_ble_eq_true rfl, Nat.le_of_ble_eq_true rfl, Nat.le_of_ble_eq_true rfl, Nat.le_of_ble_eq_true rfl⟩ rfl (Nat.le_of_ble_eq_true rfl) dX11_net_96 ?_
    intro M_11 h_M_11 hf
    refine g_aload_n hC 1 dX11_net_99 rfl rfl ?_
    refine g_callVV hC (sk := []) [] (c_X11_figure l B D K   M_11 h_M_11 _ hf) yv_X11_figure wm_X11_144 okX11.1 sc0 rfl ⟨Nat.le_of_ble_eq_true rfl, Nat.le_of_ble_eq_true rfl, Nat.le_of_ble_eq_true rfl, Nat.le_of_ble_eq_true rfl⟩ rfl (Nat.le_of_ble_eq_true rfl) dX11_net_100 ?_
    intro M_12 h_M_12 hf
    refine g_iconst hC dX11_net_103 ?_
    refine g_aload_n hC 1 dX11_net_104 rfl rfl ?_
    refine g_getr hC okX11 sc0 2 (by decide) rfl wf_X11_28 dX11_net_105 ?_
    refine g_geti hC okX5 (sh_X5 (Or.inr (Or.inl rfl))) 1 (by decide) rfl wf_X11_147 dX11_net_108 ?_
    refine g_iadd hC dX11_net_111 ?_
    obtain ⟨q_13, hf⟩ := hf
    exact g_reti hC q_13 h_M_12 hf dX11_net_112
  · replace hf := hf.2 c_16
    refine g_aload_n hC 1 dX11_net_20 rfl rfl ?_
    refine g_iconst hC dX11_net_21 ?_
    refine g_callVI hC (sk := []) [J 1] (c_X11_refuse l B D K 1 (by unfold inR; omega) M_3 h_M_3 _ hf) yv_X11_refuse wm_X11_105 okX11.1 sc0 rfl ⟨Nat.le_of_ble_eq_true rfl, Nat.le_of_ble_eq_true rfl, Nat.le_of_ble_eq_true rfl, Nat.le_of_ble_eq_true rfl⟩ rfl (Nat.le_of_ble_eq_true rfl) dX11_net_22 ?_
    intro r_14 M_15 h_r_14 h_M_15 hf
    exact g_reti hC h_r_14 h_M_15 hf dX11_net_25
set_option maxHeartbeats 4000000 in
set_option maxRecDepth 100000 in
theorem c_X11_fault (l : Launch) (B : Nat) (D : va_G) (K : Nat → ClassId) (v1 : Int) (i_v1 : inR v1) (M : Mem) (hM : MR M) (Q : Int → Prop) (hf : f_X11_fault v1 M Q) : CtI l yX11_fault cX11_fault 2 0 0 B D K [.ref (B + 0), J v1] M (fun r M1 => M = M1 ∧ Q r) := by
  refine ct_i (by decide) (Nat.le_of_ble_eq_true rfl) ?_
  intro p e s m args below meth c hC
  have hC : Cx p s m args meth c D K cX11_fault 2 RX11 (some .int) := hC
  unfold f_X11_fault at hf
  refine (show G p l e (rmF 0 0) s m args below meth c B D K 2 0 0 (ZI below args s B D K (fun r M1 => M = M1 ∧ Q r)) M 0 [(0, .ref (B + 0)), (1, J v1)] [] from ?_)
  refine g_iload_n hC 1 dX11_fault_0 rfl rfl ?_
  by_cases c_1 : v1 = 0
  · replace hf := hf.1 c_1
    refine g_look (off := 27) hC 28 i_v1 dX11_fault_1 rfl (by first | (rw [c_1]; done) | (rw [c_1]; rfl)) rfl ?_
    refine g_aload_n hC 0 dX11_fault_28 rfl rfl ?_
    refine g_getr hC okX11 sc0 1 (by decide) rfl wf_X11_21 dX11_fault_29 ?_
    refine g_geti hC okX6 sc3 4 (by decide) rfl wf_X11_150 dX11_fault_32 ?_
    exact g_reti hC (hM _ _) hM ⟨rfl, hf⟩ dX11_fault_35
  · replace hf := hf.2
    by_cases c_2 : v1 = 1
    · replace hf := hf.1 c_2
      refine g_look (off := 35) hC 36 i_v1 dX11_fault_1 rfl (by first | (rw [c_2]; done) | (rw [c_2]; rfl)) rfl ?_
      refine g_aload_n hC 0 dX11_fault_36 rfl rfl ?_
      refine g_getr hC okX11 sc0 1 (by decide) rfl wf_X11_21 dX11_fault_37 ?_
      refine g_geti hC okX6 sc3 5 (by decide) rfl wf_X11_153 dX11_fault_40 ?_
      exact g_reti hC (hM _ _) hM ⟨rfl, hf⟩ dX11_fault_43
    · replace hf := hf.2
      replace hf := hf ⟨c_1, c_2⟩
      refine g_look (off := 43) hC 44 i_v1 dX11_fault_1 rfl (by simp [Op.lookupswitch.offset, c_1, c_2, Ne.symm c_1, Ne.symm c_2]) rfl ?_
      refine g_iconst hC dX11_fault_44 ?_
      exact g_reti hC (by unfold inR; omega) hM ⟨rfl, hf⟩ dX11_fault_45
set_option maxHeartbeats 4000000 in
set_option maxRecDepth 100000 in
theorem c_X11_has (l : Launch) (B : Nat) (D : va_G) (K : Nat → ClassId) (v1 : Int) (i_v1 : inR v1) (M : Mem) (hM : MR M) (Q : Int → Prop) (hf : f_X11_has v1 M Q) : CtI l yX11_has cX11_has 2 2 63 B D K [.ref (B + 0), J v1] M (fun r M1 => M = M1 ∧ Q r) := by
  refine ct_i (by decide) (Nat.le_of_ble_eq_true rfl) ?_
  intro p e s m args below meth c hC
  have hC : Cx p s m args meth c D K cX11_has 2 RX11 (some .int) := hC
  unfold f_X11_has at hf
  refine (show G p l e (rmF 2 63) s m args below meth c B D K 2 0 0 (ZI below args s B D K (fun r M1 => M = M1 ∧ Q r)) M 0 [(0, .ref (B + 0)), (1, J v1)] [] from ?_)
  refine g_iload_n hC 1 dX11_has_0 rfl rfl ?_
  by_cases c_1 : v1 = 0
  · replace hf := hf.1 c_1
    refine g_tabIn hC 0 56 i_v1 c_1 dX11_has_1 (by decide) (by decide) rfl rfl ?_
    refine g_aload_n hC 0 dX11_has_56 rfl rfl ?_
    refine g_getr hC okX11 sc0 2 (by decide) rfl wf_X11_28 dX11_has_57 ?_
    refine g_geti hC okX5 (sh_X5 (Or.inr (Or.inl rfl))) 0 (by decide) rfl wf_X11_156 dX11_has_60 ?_
    exact g_reti hC (hM _ _) hM ⟨rfl, hf⟩ dX11_has_63
  · replace hf := hf.2
    by_cases c_2 : v1 = 1
    · replace hf := hf.1 c_2
      refine g_tabIn hC 1 64 i_v1 c_2 dX11_has_1 (by decide) (by decide) rfl rfl ?_
      refine g_aload_n hC 0 dX11_has_64 rfl rfl ?_
      refine g_getr hC okX11 sc0 2 (by decide) rfl wf_X11_28 dX11_has_65 ?_
      refine g_geti hC okX5 (sh_X5 (Or.inr (Or.inl rfl))) 1 (by decide) rfl wf_X11_147 dX11_has_68 ?_
      exact g_reti hC (hM _ _) hM ⟨rfl, hf⟩ dX11_has_71
    · replace hf := hf.2
      by_cases c_3 : v1 = 2
      · replace hf := hf.1 c_3
        refine g_tabIn hC 2 72 i_v1 c_3 dX11_has_1 (by decide) (by decide) rfl rfl ?_
        refine g_aload_n hC 0 dX11_has_72 rfl rfl ?_
        refine g_geti hC okX11 sc0 5 (by decide) rfl wf_X11_137 dX11_has_73 ?_
        exact g_reti hC (hM _ _) hM ⟨rfl, hf⟩ dX11_has_76
      · replace hf := hf.2
        by_cases c_6 : v1 = 3
        · replace hf := hf.1 c_6
          refine g_tabIn hC 3 77 i_v1 c_6 dX11_has_1 (by decide) (by decide) rfl rfl ?_
          refine g_aload_n hC 0 dX11_has_77 rfl rfl ?_
          refine g_getr hC okX11 sc0 6 (by decide) rfl wf_X11_42 dX11_has_78 ?_
          refine g_geti hC okX1 (sh_X1 (Or.inl rfl)) 11 (by decide) rfl wf_X11_159 dX11_has_81 ?_
          refine g_callSI hC (sk := []) [J (M 20 11)] (c_J6_bitCount_0f7a4 l B D K (M 20 11) (hM _ _) M hM _ hf) yv_J6_bitCount_0f7a4 wm_X11_162 rfl ⟨Nat.le_of_ble_eq_true rfl, Nat.le_of_ble_eq_true rfl, Nat.le_of_ble_eq_true rfl, Nat.le_of_ble_eq_true rfl⟩ rfl (Nat.le_of_ble_eq_true rfl) dX11_has_84 ?_
          rintro r_4 M_5 h_r_4 - ⟨rfl, hf⟩
          exact g_reti hC h_r_4 hM ⟨rfl, hf⟩ dX11_has_87
        · replace hf := hf.2
          by_cases c_9 : v1 = 4
          · replace hf := hf.1 c_9
            refine g_tabIn hC 4 88 i_v1 c_9 dX11_has_1 (by decide) (by decide) rfl rfl ?_
            refine g_aload_n hC 0 dX11_has_88 rfl rfl ?_
            refine g_getr hC okX11 sc0 6 (by decide) rfl wf_X11_42 dX11_has_89 ?_
            refine g_geti hC okX1 (sh_X1 (Or.inl rfl)) 12 (by decide) rfl wf_X11_167 dX11_has_92 ?_
            refine g_callSI hC (sk := []) [J (M 20 12)] (c_J6_bitCount_0f7a4 l B D K (M 20 12) (hM _ _) M hM _ hf) yv_J6_bitCount_0f7a4 wm_X11_162 rfl ⟨Nat.le_of_ble_eq_true rfl, Nat.le_of_ble_eq_true rfl, Nat.le_of_ble_eq_true rfl, Nat.le_of_ble_eq_true rfl⟩ rfl (Nat.le_of_ble_eq_true rfl) dX11_has_95 ?_
            rintro r_7 M_8 h_r_7 - ⟨rfl, hf⟩
            exact g_reti hC h_r_7 hM ⟨rfl, hf⟩ dX11_has_98
          · replace hf := hf.2
            by_cases c_12 : v1 = 5
            · replace hf := hf.1 c_12
              refine g_tabIn hC 5 99 i_v1 c_12 dX11_has_1 (by decide) (by decide) rfl rfl ?_
              refine g_aload_n hC 0 dX11_has_99 rfl rfl ?_
              refine g_getr hC okX11 sc0 6 (by decide) rfl wf_X11_42 dX11_has_100 ?_
              refine g_aload_n hC 0 dX11_has_103 rfl rfl ?_
              refine g_getr hC okX11 sc0 2 (by decide) rfl wf_X11_28 dX11_has_104 ?_
              refine g_callVI hC (sk := []) [.ref (B + 12)] (c_X1_howManyPart l B D K 20 12 (Or.inl rfl) (Or.inr (Or.inl rfl)) M hM _ hf) yv_X1_howManyPart wm_X11_170 okX1.1 (sh_X1 (Or.inl rfl)) rfl ⟨Nat.le_of_ble_eq_true rfl, Nat.le_of_ble_eq_true rfl, Nat.le_of_ble_eq_true rfl, Nat.le_of_ble_eq_true rfl⟩ rfl (Nat.le_of_ble_eq_true rfl) dX11_has_107 ?_
              rintro r_10 M_11 h_r_10 - ⟨rfl, hf⟩
              exact g_reti hC h_r_10 hM ⟨rfl, hf⟩ dX11_has_110
            · replace hf := hf.2
              by_cases c_13 : v1 = 6
              · replace hf := hf.1 c_13
                refine g_tabIn hC 6 111 i_v1 c_13 dX11_has_1 (by decide) (by decide) rfl rfl ?_
                refine g_aload_n hC 0 dX11_has_111 rfl rfl ?_
                refine g_getr hC okX11 sc0 8 (by decide) rfl wf_X11_56 dX11_has_112 ?_
                refine g_geti hC okX3 sc58 0 (by decide) rfl wf_X11_174 dX11_has_115 ?_
                exact g_reti hC (hM _ _) hM ⟨rfl, hf⟩ dX11_has_118
              · replace hf := hf.2
                by_cases c_14 : v1 = 7
                · replace hf := hf.1 c_14
                  refine g_tabIn hC 7 119 i_v1 c_14 dX11_has_1 (by decide) (by decide) rfl rfl ?_
                  refine g_aload_n hC 0 dX11_has_119 rfl rfl ?_
                  refine g_getr hC okX11 sc0 10 (by decide) rfl wf_X11_70 dX11_has_120 ?_
                  refine g_geti hC okX8 sc63 0 (by decide) rfl wf_X11_138 dX11_has_123 ?_
                  exact g_reti hC (hM _ _) hM ⟨rfl, hf⟩ dX11_has_126
                · replace hf := hf.2
                  by_cases c_17 : v1 = 8
                  · replace hf := hf.1 c_17
                    refine g_tabIn hC 8 127 i_v1 c_17 dX11_has_1 (by decide) (by decide) rfl rfl ?_
                    refine g_aload_n hC 0 dX11_has_127 rfl rfl ?_
                    refine g_getr hC okX11 sc0 6 (by decide) rfl wf_X11_42 dX11_has_128 ?_
                    refine g_getr hC okX1 (sh_X1 (Or.inl rfl)) 10 (by decide) rfl wf_X11_177 dX11_has_131 ?_
                    refine g_aload_n hC 0 dX11_has_134 rfl rfl ?_
                    refine g_getr hC okX11 sc0 6 (by decide) rfl wf_X11_42 dX11_has_135 ?_
                    refine g_geti hC okX1 (sh_X1 (Or.inl rfl)) 12 (by decide) rfl wf_X11_167 dX11_has_138 ?_
                    refine g_callVI hC (sk := []) [J (M 20 12)] (c_X2_sumAt l B D K 31 (M 20 12) (fl_X1_10 (Or.inl rfl)) (hM _ _) M hM _ hf) yv_X2_sumAt wm_X11_181 okX2.1 (sh_X2 (fl_X1_10 (Or.inl rfl))) rfl ⟨Nat.le_of_ble_eq_true rfl, Nat.le_of_ble_eq_true rfl, Nat.le_of_ble_eq_true rfl, Nat.le_of_ble_eq_true rfl⟩ rfl (Nat.le_of_ble_eq_true rfl) dX11_has_141 ?_
                    rintro r_15 M_16 h_r_15 - ⟨rfl, hf⟩
                    exact g_reti hC h_r_15 hM ⟨rfl, hf⟩ dX11_has_144
                  · replace hf := hf.2
                    by_cases c_20 : v1 = 9
                    · replace hf := hf.1 c_20
                      refine g_tabIn hC 9 145 i_v1 c_20 dX11_has_1 (by decide) (by decide) rfl rfl ?_
                      refine g_aload_n hC 0 dX11_has_145 rfl rfl ?_
                      refine g_getr hC okX11 sc0 6 (by decide) rfl wf_X11_42 dX11_has_146 ?_
                      refine g_aload_n hC 0 dX11_has_149 rfl rfl ?_
                      refine g_getr hC okX11 sc0 2 (by decide) rfl wf_X11_28 dX11_has_150 ?_
                      refine g_callVI hC (sk := []) [.ref (B + 12)] (c_X1_greatestMet l B D K 20 12 (Or.inl rfl) (Or.inr (Or.inl rfl)) M hM _ hf) yv_X1_greatestMet wm_X11_186 okX1.1 (sh_X1 (Or.inl rfl)) rfl ⟨Nat.le_of_ble_eq_true rfl, Nat.le_of_ble_eq_true rfl, Nat.le_of_ble_eq_true rfl, Nat.le_of_ble_eq_true rfl⟩ rfl (Nat.le_of_ble_eq_true rfl) dX11_has_153 ?_
                      rintro r_18 M_19 h_r_18 - ⟨rfl, hf⟩
                      exact g_reti hC h_r_18 hM ⟨rfl, hf⟩ dX11_has_156
                    · replace hf := hf.2
                      have c_21 : v1 < 0 ∨ 9 < v1 := by omega
                      replace hf := hf c_21
                      refine g_tabOut hC 157 i_v1 dX11_has_1 c_21 rfl ?_
                      refine g_iconst hC dX11_has_157 ?_
                      exact g_reti hC (by unfold inR; omega) hM ⟨rfl, hf⟩ dX11_has_158
set_option maxHeartbeats 4000000 in
set_option maxRecDepth 100000 in
theorem c_X11_letterOf (l : Launch) (B : Nat) (D : va_G) (K : Nat → ClassId) (v0 : Int) (v1 : Int) (i_v0 : inR v0) (i_v1 : inR v1) (M : Mem) (hM : MR M) (Q : Int → Prop) (hf : f_X11_letterOf v0 v1 M Q) : CtI l yX11_letterOf cX11_letterOf 2 0 0 B D K [J v0, J v1] M (fun r M1 => M = M1 ∧ Q r) := by
  refine ct_i (by decide) (Nat.le_of_ble_eq_true rfl) ?_
  intro p e s m args below meth c hC
  have hC : Cx p s m args meth c D K cX11_letterOf 2 RX11 (some .int) := hC
  unfold f_X11_letterOf at hf
  refine (show G p l e (rmF 0 0) s m args below meth c B D K 2 0 0 (ZI below args s B D K (fun r M1 => M = M1 ∧ Q r)) M 0 [(0, J v0), (1, J v1)] [] from ?_)
  refine g_iload_n hC 0 dX11_letterOf_0 rfl rfl ?_
  refine g_iconst hC dX11_letterOf_1 ?_
  refine g_iload_n hC 1 dX11_letterOf_2 rfl rfl ?_
  refine g_imul hC dX11_letterOf_3 ?_
  refine g_ishr hC dX11_letterOf_4 ?_
  refine g_bipush hC dX11_letterOf_5 (by decide) ?_
  refine g_iand hC dX11_letterOf_7 ?_
  exact g_reti hC (bAnd_in _ _) hM ⟨rfl, hf⟩ dX11_letterOf_8
set_option maxHeartbeats 4000000 in
set_option maxRecDepth 100000 in
theorem c_X11_letter (l : Launch) (B : Nat) (D : va_G) (K : Nat → ClassId) (v1 : Int) (v2 : Int) (v3 : Int) (i_v1 : inR v1) (i_v2 : inR v2) (i_v3 : inR v3) (M : Mem) (hM : MR M) (Q : Int → Prop) (hf : f_X11_letter v1 v2 v3 M Q) : CtI l yX11_letter cX11_letter 4 1 21 B D K [.ref (B + 0), J v1, J v2, J v3] M (fun r M1 => M = M1 ∧ Q r) := by
  refine ct_i (by decide) (Nat.le_of_ble_eq_true rfl) ?_
  intro p e s m args below meth c hC
  have hC : Cx p s m args meth c D K cX11_letter 4 RX11 (some .int) := hC
  unfold f_X11_letter at hf
  refine (show G p l e (rmF 1 21) s m args below meth c B D K 4 0 0 (ZI below args s B D K (fun r M1 => M = M1 ∧ Q r)) M 0 [(0, .ref (B + 0)), (1, J v1), (2, J v2), (3, J v3)] [] from ?_)
  refine g_iload_n hC 3 dX11_letter_0 rfl rfl ?_
  refine g_if_lt hC 14 i_v3 dX11_letter_1 rfl (fun c_13 => ?_) (fun c_13 => ?_)
  · replace hf := hf.1 c_13
    refine g_iconst hC dX11_letter_14 ?_
    exact g_reti hC (by unfold inR; omega) hM ⟨rfl, hf⟩ dX11_letter_15
  · replace hf := hf.2 c_13
    refine g_iload_n hC 3 dX11_letter_4 rfl rfl ?_
    refine g_bipush hC dX11_letter_5 (by decide) ?_
    refine g_icmp_ge hC 14 i_v3 (by unfold inR; omega) dX11_letter_7 rfl (fun c_12 => ?_) (fun c_12 => ?_)
    · replace hf := hf.1 c_12
      refine g_iconst hC dX11_letter_14 ?_
      exact g_reti hC (by unfold inR; omega) hM ⟨rfl, hf⟩ dX11_letter_15
    · replace hf := hf.2 c_12
      refine g_iload_n hC 2 dX11_letter_10 rfl rfl ?_
      refine g_if_ge hC 16 i_v2 dX11_letter_11 rfl (fun c_11 => ?_) (fun c_11 => ?_)
      · replace hf := hf.1 c_11
        refine g_iload_n hC 1 dX11_letter_16 rfl rfl ?_
        refine jn_elim (fun (k : Prop) => k → G p l e (rmF 1 21) s m args below meth c B D K 4 0 0 (ZI below args s B D K (fun r M1 => M = M1 ∧ Q r)) M 42 [(0, .ref (B + 0)), (1, J v1), (2, J v2), (3, J v3)] []) hf ?_ ?_
        · intro hf
          refine g_iload_n hC 1 dX11_letter_42 rfl rfl ?_
          refine g_iconst hC dX11_letter_43 ?_
          refine g_icmp_ne hC 66 i_v1 (by unfold inR; omega) dX11_letter_44 rfl (fun c_5 => ?_) (fun c_5 => ?_)
          · replace hf := hf.1 c_5
            refine g_iconst hC dX11_letter_66 ?_
            exact g_reti hC (by unfold inR; omega) hM ⟨rfl, hf⟩ dX11_letter_67
          · replace hf := hf.2 c_5
            refine g_iload_n hC 2 dX11_letter_47 rfl rfl ?_
            refine g_aload_n hC 0 dX11_letter_48 rfl rfl ?_
            refine g_geti hC okX11 sc0 5 (by decide) rfl wf_X11_137 dX11_letter_49 ?_
            refine g_icmp_ge hC 66 i_v2 (hM _ _) dX11_letter_52 rfl (fun c_4 => ?_) (fun c_4 => ?_)
            · replace hf := hf.1 c_4
              refine g_iconst hC dX11_letter_66 ?_
              exact g_reti hC (by unfold inR; omega) hM ⟨rfl, hf⟩ dX11_letter_67
            · replace hf := hf.2 c_4
              refine g_aload_n hC 0 dX11_letter_55 rfl rfl ?_
              refine g_getr hC okX11 sc0 4 (by decide) rfl wf_X11_36 dX11_letter_56 ?_
              refine g_iload_n hC 2 dX11_letter_59 rfl rfl ?_
              obtain ⟨q_1, hf⟩ := hf
              refine g_ialdk (v2.toNat) hC sc19 q_1.1 q_1.2 rfl dX11_letter_60 ?_
              refine g_iload_n hC 3 dX11_letter_61 rfl rfl ?_
              refine g_callSI hC (sk := []) [J (M 19 (v2.toNat)), J v3] (c_X11_letterOf l B D K (M 19 (v2.toNat)) v3 (hM _ _) i_v3 M hM _ hf) yv_X11_letterOf wm_X11_189 rfl ⟨Nat.le_of_ble_eq_true rfl, Nat.le_of_ble_eq_true rfl, Nat.le_of_ble_eq_true rfl, Nat.le_of_ble_eq_true rfl⟩ rfl (Nat.le_of_ble_eq_true rfl) dX11_letter_62 ?_
              rintro r_2 M_3 h_r_2 - ⟨rfl, hf⟩
              exact g_reti hC h_r_2 hM ⟨rfl, hf⟩ dX11_letter_65
        · intro J42 hJ42 hf
          refine g_if_ne hC 42 i_v1 dX11_letter_17 rfl (fun c_10 => ?_) (fun c_10 => ?_)
          · replace hf := hf.1 c_10
            refine g_sub [(0, .ref (B + 0)), (1, J v1), (2, J v2), (3, J v3)] [0, 1, 2, 3] rfl ?_
            exact hJ42 hf
          · replace hf := hf.2 c_10
            refine g_iload_n hC 2 dX11_letter_20 rfl rfl ?_
            refine g_aload_n hC 0 dX11_letter_21 rfl rfl ?_
            refine g_getr hC okX11 sc0 2 (by decide) rfl wf_X11_28 dX11_letter_22 ?_
            refine g_geti hC okX5 (sh_X5 (Or.inr (Or.inl rfl))) 0 (by decide) rfl wf_X11_156 dX11_letter_25 ?_
            refine g_icmp_ge hC 42 i_v2 (hM _ _) dX11_letter_28 rfl (fun c_9 => ?_) (fun c_9 => ?_)
            · replace hf := hf.1 c_9
              refine g_sub [(0, .ref (B + 0)), (1, J v1), (2, J v2), (3, J v3)] [0, 1, 2, 3] rfl ?_
              exact hJ42 hf
            · replace hf := hf.2 c_9
              refine g_aload_n hC 0 dX11_letter_31 rfl rfl ?_
              refine g_getr hC okX11 sc0 3 (by decide) rfl wf_X11_32 dX11_letter_32 ?_
              refine g_iload_n hC 2 dX11_letter_35 rfl rfl ?_
              obtain ⟨q_6, hf⟩ := hf
              refine g_ialdk (v2.toNat) hC sc18 q_6.1 q_6.2 rfl dX11_letter_36 ?_
              refine g_iload_n hC 3 dX11_letter_37 rfl rfl ?_
              refine g_callSI hC (sk := []) [J (M 18 (v2.toNat)), J v3] (c_X11_letterOf l B D K (M 18 (v2.toNat)) v3 (hM _ _) i_v3 M hM _ hf) yv_X11_letterOf wm_X11_189 rfl ⟨Nat.le_of_ble_eq_true rfl, Nat.le_of_ble_eq_true rfl, Nat.le_of_ble_eq_true rfl, Nat.le_of_ble_eq_true rfl⟩ rfl (Nat.le_of_ble_eq_true rfl) dX11_letter_38 ?_
              rintro r_7 M_8 h_r_7 - ⟨rfl, hf⟩
              exact g_reti hC h_r_7 hM ⟨rfl, hf⟩ dX11_letter_41
      · replace hf := hf.2 c_11
        refine g_iconst hC dX11_letter_14 ?_
        exact g_reti hC (by unfold inR; omega) hM ⟨rfl, hf⟩ dX11_letter_15
