set_option maxHeartbeats 4000000 in
set_option maxRecDepth 100000 in
theorem c_X5_mayLay (l : Launch) (B : Nat) (D : va_G) (K : Nat → ClassId) (n : Nat) (v1 : Int) (v2 : Int) (v3 : Int) (v4 : Int) (h_n : is_X5 n) (i_v1 : inR v1) (i_v2 : inR v2) (i_v3 : inR v3) (i_v4 : inR v4) (M : Mem) (hM : MR M) (Q : Int → Prop) (hf : f_X5_mayLay n v1 v2 v3 v4 M Q) : CtZ l yX5_mayLay cX5_mayLay 5 1 27 B D K [.ref (B + n), J v1, J v2, J v3, J v4] M (fun r M1 => M = M1 ∧ Q r) := by
  refine ct_z (by decide) (Nat.le_of_ble_eq_true rfl) ?_
  intro p e s m args below meth c hC
  have hC : Cx p s m args meth c D K cX5_mayLay 5 RX5 (some .boolean) := hC
  unfold f_X5_mayLay at hf
  refine (show G p l e (rmF 1 27) s m args below meth c B D K 5 0 0 (ZZ below args s B D K (fun r M1 => M = M1 ∧ Q r)) M 0 [(0, .ref (B + n)), (1, J v1), (2, J v2), (3, J v3), (4, J v4)] [] from ?_)
  refine g_aload_n hC 0 dX5_mayLay_0 rfl rfl ?_
  refine g_iload_n hC 1 dX5_mayLay_1 rfl rfl ?_
  refine g_callVZ hC (sk := []) [J v1] (c_X5_isPlace l B D K n v1 h_n i_v1 M hM _ hf) yv_X5_isPlace wm_X5_40 okX5.1 (sh_X5 h_n) rfl ⟨Nat.le_of_ble_eq_true rfl, Nat.le_of_ble_eq_true rfl, Nat.le_of_ble_eq_true rfl, Nat.le_of_ble_eq_true rfl⟩ rfl (Nat.le_of_ble_eq_true rfl) dX5_mayLay_2 ?_
  rintro r_1 M_2 h_r_1 - ⟨rfl, hf⟩
  refine g_if_eq hC 62 (zi_ h_r_1) dX5_mayLay_5 rfl (fun c_14 => ?_) (fun c_14 => ?_)
  · replace hf := hf.1 c_14
    refine g_iconst hC dX5_mayLay_62 ?_
    exact g_retz hC (Or.inl rfl) hM ⟨rfl, hf⟩ dX5_mayLay_63
  · replace hf := hf.2 c_14
    refine g_aload_n hC 0 dX5_mayLay_8 rfl rfl ?_
    refine g_iload_n hC 2 dX5_mayLay_9 rfl rfl ?_
    refine g_callVZ hC (sk := []) [J v2] (c_X5_isPlace l B D K n v2 h_n i_v2 M hM _ hf) yv_X5_isPlace wm_X5_40 okX5.1 (sh_X5 h_n) rfl ⟨Nat.le_of_ble_eq_true rfl, Nat.le_of_ble_eq_true rfl, Nat.le_of_ble_eq_true rfl, Nat.le_of_ble_eq_true rfl⟩ rfl (Nat.le_of_ble_eq_true rfl) dX5_mayLay_10 ?_
    rintro r_3 M_4 h_r_3 - ⟨rfl, hf⟩
    refine g_if_eq hC 62 (zi_ h_r_3) dX5_mayLay_13 rfl (fun c_13 => ?_) (fun c_13 => ?_)
    · replace hf := hf.1 c_13
      refine g_iconst hC dX5_mayLay_62 ?_
      exact g_retz hC (Or.inl rfl) hM ⟨rfl, hf⟩ dX5_mayLay_63
    · replace hf := hf.2 c_13
      refine g_aload_n hC 0 dX5_mayLay_16 rfl rfl ?_
      refine g_geti hC okX5 (sh_X5 h_n) 1 (by decide) rfl wf_X5_31 dX5_mayLay_17 ?_
      refine g_bipush hC dX5_mayLay_20 (by decide) ?_
      refine g_icmp_ge hC 62 (hM _ _) (by unfold inR; omega) dX5_mayLay_22 rfl (fun c_12 => ?_) (fun c_12 => ?_)
      · replace hf := hf.1 c_12
        refine g_iconst hC dX5_mayLay_62 ?_
        exact g_retz hC (Or.inl rfl) hM ⟨rfl, hf⟩ dX5_mayLay_63
      · replace hf := hf.2 c_12
        refine g_iload_n hC 3 dX5_mayLay_25 rfl rfl ?_
        refine g_iconst hC dX5_mayLay_26 ?_
        refine g_icmp_lt hC 62 i_v3 (by unfold inR; omega) dX5_mayLay_27 rfl (fun c_11 => ?_) (fun c_11 => ?_)
        · replace hf := hf.1 c_11
          refine g_iconst hC dX5_mayLay_62 ?_
          exact g_retz hC (Or.inl rfl) hM ⟨rfl, hf⟩ dX5_mayLay_63
        · replace hf := hf.2 c_11
          refine g_iload_n hC 3 dX5_mayLay_30 rfl rfl ?_
          refine g_bipush hC dX5_mayLay_31 (by decide) ?_
          refine g_icmp_gt hC 62 i_v3 (by unfold inR; omega) dX5_mayLay_33 rfl (fun c_10 => ?_) (fun c_10 => ?_)
          · replace hf := hf.1 c_10
            refine g_iconst hC dX5_mayLay_62 ?_
            exact g_retz hC (Or.inl rfl) hM ⟨rfl, hf⟩ dX5_mayLay_63
          · replace hf := hf.2 c_10
            refine g_iload hC 4 dX5_mayLay_36 rfl ?_
            refine g_if_lt hC 62 i_v4 dX5_mayLay_38 rfl (fun c_9 => ?_) (fun c_9 => ?_)
            · replace hf := hf.1 c_9
              refine g_iconst hC dX5_mayLay_62 ?_
              exact g_retz hC (Or.inl rfl) hM ⟨rfl, hf⟩ dX5_mayLay_63
            · replace hf := hf.2 c_9
              refine g_iload hC 4 dX5_mayLay_41 rfl ?_
              refine g_bipush hC dX5_mayLay_43 (by decide) ?_
              refine g_icmp_gt hC 62 i_v4 (by unfold inR; omega) dX5_mayLay_45 rfl (fun c_8 => ?_) (fun c_8 => ?_)
              · replace hf := hf.1 c_8
                refine g_iconst hC dX5_mayLay_62 ?_
                exact g_retz hC (Or.inl rfl) hM ⟨rfl, hf⟩ dX5_mayLay_63
              · replace hf := hf.2 c_8
                refine g_aload_n hC 0 dX5_mayLay_48 rfl rfl ?_
                refine g_iload_n hC 2 dX5_mayLay_49 rfl rfl ?_
                refine g_iload_n hC 1 dX5_mayLay_50 rfl rfl ?_
                refine g_iconst hC dX5_mayLay_51 ?_
                refine g_callVZ hC (sk := []) [J v2, J v1, J (-1)] (c_X5_leads l B D K n v2 v1 (-1) h_n i_v2 i_v1 (by unfold inR; omega) M hM _ hf) yv_X5_leads wm_X5_44 okX5.1 (sh_X5 h_n) rfl ⟨Nat.le_of_ble_eq_true rfl, Nat.le_of_ble_eq_true rfl, Nat.le_of_ble_eq_true rfl, Nat.le_of_ble_eq_true rfl⟩ rfl (Nat.le_of_ble_eq_true rfl) dX5_mayLay_52 ?_
                rintro r_5 M_6 h_r_5 - ⟨rfl, hf⟩
                refine g_if_ne hC 62 (zi_ h_r_5) dX5_mayLay_55 rfl (fun c_7 => ?_) (fun c_7 => ?_)
                · replace hf := hf.1 c_7
                  refine g_iconst hC dX5_mayLay_62 ?_
                  exact g_retz hC (Or.inl rfl) hM ⟨rfl, hf⟩ dX5_mayLay_63
                · replace hf := hf.2 c_7
                  refine g_iconst hC dX5_mayLay_58 ?_
                  refine g_goto hC 63 dX5_mayLay_59 rfl ?_
                  exact g_retz hC (Or.inr rfl) hM ⟨rfl, hf⟩ dX5_mayLay_63
set_option maxHeartbeats 4000000 in
set_option maxRecDepth 100000 in
theorem c_X5_lay (l : Launch) (B : Nat) (D : va_G) (K : Nat → ClassId) (n : Nat) (v1 : Int) (v2 : Int) (v3 : Int) (v4 : Int) (v5 : Int) (h_n : is_X5 n) (i_v1 : inR v1) (i_v2 : inR v2) (i_v3 : inR v3) (i_v4 : inR v4) (i_v5 : inR v5) (M : Mem) (hM : MR M) (Q : Mem → Prop) (hf : f_X5_lay n v1 v2 v3 v4 v5 M Q) : CtV l yX5_lay cX5_lay 6 0 0 B D K [.ref (B + n), J v1, J v2, J v3, J v4, J v5] M Q := by
  refine ct_v (by decide) (Nat.le_of_ble_eq_true rfl) ?_
  intro p e s m args below meth c hC
  have hC : Cx p s m args meth c D K cX5_lay 6 RX5 none := hC
  unfold f_X5_lay at hf
  refine (show G p l e (rmF 0 0) s m args below meth c B D K 6 0 0 (ZV below args s B D K Q) M 0 [(0, .ref (B + n)), (1, J v1), (2, J v2), (3, J v3), (4, J v4), (5, J v5)] [] from ?_)
  refine g_aload_n hC 0 dX5_lay_0 rfl rfl ?_
  refine g_getr hC okX5 (sh_X5 h_n) 2 (by decide) rfl wf_X5_9 dX5_lay_1 ?_
  refine g_aload_n hC 0 dX5_lay_4 rfl rfl ?_
  refine g_geti hC okX5 (sh_X5 h_n) 1 (by decide) rfl wf_X5_31 dX5_lay_5 ?_
  refine g_iload_n hC 1 dX5_lay_8 rfl rfl ?_
  obtain ⟨q_1, hf⟩ := hf
  refine g_iastk ((M n 1).toNat) hC (sh_X5_2 h_n) q_1.1 q_1.2 rfl dX5_lay_9 ?_
  refine g_nmM (fun M_2 e_M_2 => ?_)
  replace hf := hf M_2 e_M_2
  have h_M_2 : MR M_2 := by rw [e_M_2]; exact MR_st hM i_v1
  refine g_aload_n hC 0 dX5_lay_10 rfl rfl ?_
  refine g_getr hC okX5 (sh_X5 h_n) 3 (by decide) rfl wf_X5_15 dX5_lay_11 ?_
  refine g_aload_n hC 0 dX5_lay_14 rfl rfl ?_
  refine g_geti hC okX5 (sh_X5 h_n) 1 (by decide) rfl wf_X5_31 dX5_lay_15 ?_
  refine g_iload_n hC 2 dX5_lay_18 rfl rfl ?_
  obtain ⟨q_3, hf⟩ := hf
  refine g_iastk ((M_2 n 1).toNat) hC (sh_X5_3 h_n) q_3.1 q_3.2 rfl dX5_lay_19 ?_
  refine g_nmM (fun M_4 e_M_4 => ?_)
  replace hf := hf M_4 e_M_4
  have h_M_4 : MR M_4 := by rw [e_M_4]; exact MR_st h_M_2 i_v2
  refine g_aload_n hC 0 dX5_lay_20 rfl rfl ?_
  refine g_getr hC okX5 (sh_X5 h_n) 4 (by decide) rfl wf_X5_18 dX5_lay_21 ?_
  refine g_aload_n hC 0 dX5_lay_24 rfl rfl ?_
  refine g_geti hC okX5 (sh_X5 h_n) 1 (by decide) rfl wf_X5_31 dX5_lay_25 ?_
  refine g_iload_n hC 3 dX5_lay_28 rfl rfl ?_
  obtain ⟨q_5, hf⟩ := hf
  refine g_iastk ((M_4 n 1).toNat) hC (sh_X5_4 h_n) q_5.1 q_5.2 rfl dX5_lay_29 ?_
  refine g_nmM (fun M_6 e_M_6 => ?_)
  replace hf := hf M_6 e_M_6
  have h_M_6 : MR M_6 := by rw [e_M_6]; exact MR_st h_M_4 i_v3
  refine g_aload_n hC 0 dX5_lay_30 rfl rfl ?_
  refine g_getr hC okX5 (sh_X5 h_n) 5 (by decide) rfl wf_X5_21 dX5_lay_31 ?_
  refine g_aload_n hC 0 dX5_lay_34 rfl rfl ?_
  refine g_geti hC okX5 (sh_X5 h_n) 1 (by decide) rfl wf_X5_31 dX5_lay_35 ?_
  refine g_iload hC 4 dX5_lay_38 rfl ?_
  obtain ⟨q_7, hf⟩ := hf
  refine g_iastk ((M_6 n 1).toNat) hC (sh_X5_5 h_n) q_7.1 q_7.2 rfl dX5_lay_40 ?_
  refine g_nmM (fun M_8 e_M_8 => ?_)
  replace hf := hf M_8 e_M_8
  have h_M_8 : MR M_8 := by rw [e_M_8]; exact MR_st h_M_6 i_v4
  refine g_aload_n hC 0 dX5_lay_41 rfl rfl ?_
  refine g_getr hC okX5 (sh_X5 h_n) 6 (by decide) rfl wf_X5_24 dX5_lay_42 ?_
  refine g_aload_n hC 0 dX5_lay_45 rfl rfl ?_
  refine g_geti hC okX5 (sh_X5 h_n) 1 (by decide) rfl wf_X5_31 dX5_lay_46 ?_
  refine g_iload hC 5 dX5_lay_49 rfl ?_
  obtain ⟨q_9, hf⟩ := hf
  refine g_iastk ((M_8 n 1).toNat) hC (sh_X5_6 h_n) q_9.1 q_9.2 rfl dX5_lay_51 ?_
  refine g_nmM (fun M_10 e_M_10 => ?_)
  replace hf := hf M_10 e_M_10
  have h_M_10 : MR M_10 := by rw [e_M_10]; exact MR_st h_M_8 i_v5
  refine g_aload_n hC 0 dX5_lay_52 rfl rfl ?_
  refine g_dup hC dX5_lay_53 rfl ?_
  refine g_geti hC okX5 (sh_X5 h_n) 1 (by decide) rfl wf_X5_31 dX5_lay_54 ?_
  refine g_iconst hC dX5_lay_57 ?_
  refine g_iadd hC dX5_lay_58 ?_
  obtain ⟨q_11, hf⟩ := hf
  refine g_puti hC okX5 tnX5 (sh_X5 h_n) 1 (by decide) rfl rfl (by decide) wf_X5_31 dX5_lay_59 ?_
  refine g_nmM (fun M_12 e_M_12 => ?_)
  replace hf := hf M_12 e_M_12
  have h_M_12 : MR M_12 := by rw [e_M_12]; exact MR_st h_M_10 q_11
  exact g_retv hC h_M_12 hf dX5_lay_62
set_option maxHeartbeats 4000000 in
set_option maxRecDepth 100000 in
theorem c_X4_readReach (l : Launch) (B : Nat) (D : va_G) (K : Nat → ClassId) (v1 : Int) (a2 : Nat) (v3 : Int) (i_v1 : inR v1) (h_a2 : is_X5 a2) (i_v3 : inR v3) (M : Mem) (hM : MR M) (Q : Int → Mem → Prop) (hf : f_X4_readReach v1 a2 v3 M Q) : CtZ l yX4_readReach cX4_readReach 5 2 51 B D K [.ref (B + 1), J v1, .ref (B + a2), J v3] M Q := by
  refine ct_z (by decide) (Nat.le_of_ble_eq_true rfl) ?_
  intro p e s m args below meth c hC
  have hC : Cx p s m args meth c D K cX4_readReach 5 RX4 (some .boolean) := hC
  unfold f_X4_readReach at hf
  refine (show G p l e (rmF 2 51) s m args below meth c B D K 5 0 0 (ZZ below args s B D K Q) M 0 [(0, .ref (B + 1)), (1, J v1), (2, .ref (B + a2)), (3, J v3)] [] from ?_)
  refine g_aload_n hC 0 dX4_readReach_0 rfl rfl ?_
  refine g_iload_n hC 1 dX4_readReach_1 rfl rfl ?_
  refine g_iconst hC dX4_readReach_2 ?_
  refine g_iadd hC dX4_readReach_3 ?_
  obtain ⟨q_1, hf⟩ := hf
  refine g_callVI hC (sk := []) [J (v1 + 4)] (c_X10_at l B D K (v1 + 4) q_1 M hM _ hf) yv_X10_at wm_X4_42 okX10.1 sc1 rfl ⟨Nat.le_of_ble_eq_true rfl, Nat.le_of_ble_eq_true rfl, Nat.le_of_ble_eq_true rfl, Nat.le_of_ble_eq_true rfl⟩ rfl (Nat.le_of_ble_eq_true rfl) dX4_readReach_4 ?_
  rintro r_2 M_3 h_r_2 - ⟨rfl, hf⟩
  refine g_istore hC [(4, J r_2), (0, .ref (B + 1)), (1, J v1), (2, .ref (B + a2)), (3, J v3)] dX4_readReach_7 (by decide) rfl ?_
  refine g_iload hC 0 dX4_readReach_9 rfl ?_
  refine g_sipush hC dX4_readReach_11 (by decide) ?_
  refine jn_elim (fun (k : Prop) => k → G p l e (rmF 2 51) s m args below meth c B D K 5 0 0 (ZZ below args s B D K Q) M 23 [(0, .ref (B + 1)), (1, J v1), (2, .ref (B + a2)), (4, J r_2)] []) hf ?_ ?_
  · intro hf
    refine g_aload_n hC 2 dX4_readReach_23 rfl rfl ?_
    refine g_aload_n hC 0 dX4_readReach_24 rfl rfl ?_
    refine g_iload_n hC 1 dX4_readReach_25 rfl rfl ?_
    refine g_callVI hC (sk := [.ref (B + a2)]) [J v1] (c_X10_at l B D K v1 i_v1 M hM _ hf) yv_X10_at wm_X4_42 okX10.1 sc1 rfl ⟨Nat.le_of_ble_eq_true rfl, Nat.le_of_ble_eq_true rfl, Nat.le_of_ble_eq_true rfl, Nat.le_of_ble_eq_true rfl⟩ rfl (Nat.le_of_ble_eq_true rfl) dX4_readReach_26 ?_
    rintro r_4 M_5 h_r_4 - ⟨rfl, hf⟩
    refine g_aload_n hC 0 dX4_readReach_29 rfl rfl ?_
    refine g_iload_n hC 1 dX4_readReach_30 rfl rfl ?_
    refine g_iconst hC dX4_readReach_31 ?_
    refine g_iadd hC dX4_readReach_32 ?_
    obtain ⟨q_6, hf⟩ := hf
    refine g_callVI hC (sk := [J r_4, .ref (B + a2)]) [J (v1 + 1)] (c_X10_at l B D K (v1 + 1) q_6 M hM _ hf) yv_X10_at wm_X4_42 okX10.1 sc1 rfl ⟨Nat.le_of_ble_eq_true rfl, Nat.le_of_ble_eq_true rfl, Nat.le_of_ble_eq_true rfl, Nat.le_of_ble_eq_true rfl⟩ rfl (Nat.le_of_ble_eq_true rfl) dX4_readReach_33 ?_
    rintro r_7 M_8 h_r_7 - ⟨rfl, hf⟩
    refine g_aload_n hC 0 dX4_readReach_36 rfl rfl ?_
    refine g_iload_n hC 1 dX4_readReach_37 rfl rfl ?_
    refine g_iconst hC dX4_readReach_38 ?_
    refine g_iadd hC dX4_readReach_39 ?_
    obtain ⟨q_9, hf⟩ := hf
    refine g_callVI hC (sk := [J r_7, J r_4, .ref (B + a2)]) [J (v1 + 2)] (c_X10_at l B D K (v1 + 2) q_9 M hM _ hf) yv_X10_at wm_X4_42 okX10.1 sc1 rfl ⟨Nat.le_of_ble_eq_true rfl, Nat.le_of_ble_eq_true rfl, Nat.le_of_ble_eq_true rfl, Nat.le_of_ble_eq_true rfl⟩ rfl (Nat.le_of_ble_eq_true rfl) dX4_readReach_40 ?_
    rintro r_10 M_11 h_r_10 - ⟨rfl, hf⟩
    refine g_aload_n hC 0 dX4_readReach_43 rfl rfl ?_
    refine g_iload_n hC 1 dX4_readReach_44 rfl rfl ?_
    refine g_iconst hC dX4_readReach_45 ?_
    refine g_iadd hC dX4_readReach_46 ?_
    obtain ⟨q_12, hf⟩ := hf
    refine g_callVI hC (sk := [J r_10, J r_7, J r_4, .ref (B + a2)]) [J (v1 + 3)] (c_X10_at l B D K (v1 + 3) q_12 M hM _ hf) yv_X10_at wm_X4_42 okX10.1 sc1 rfl ⟨Nat.le_of_ble_eq_true rfl, Nat.le_of_ble_eq_true rfl, Nat.le_of_ble_eq_true rfl, Nat.le_of_ble_eq_true rfl⟩ rfl (Nat.le_of_ble_eq_true rfl) dX4_readReach_47 ?_
    rintro r_13 M_14 h_r_13 - ⟨rfl, hf⟩
    refine g_callVZ hC (sk := []) [J r_4, J r_7, J r_10, J r_13] (c_X5_mayLay l B D K a2 r_4 r_7 r_10 r_13 h_a2 h_r_4 h_r_7 h_r_10 h_r_13 M hM _ hf) yv_X5_mayLay wm_X4_57 okX5.1 (sh_X5 h_a2) rfl ⟨Nat.le_of_ble_eq_true rfl, Nat.le_of_ble_eq_true rfl, Nat.le_of_ble_eq_true rfl, Nat.le_of_ble_eq_true rfl⟩ rfl (Nat.le_of_ble_eq_true rfl) dX4_readReach_50 ?_
    rintro r_15 M_16 h_r_15 - ⟨rfl, hf⟩
    refine g_if_ne hC 58 (zi_ h_r_15) dX4_readReach_53 rfl (fun c_28 => ?_) (fun c_28 => ?_)
    · replace hf := hf.1 c_28
      refine g_aload_n hC 2 dX4_readReach_58 rfl rfl ?_
      refine g_aload_n hC 0 dX4_readReach_59 rfl rfl ?_
      refine g_iload_n hC 1 dX4_readReach_60 rfl rfl ?_
      refine g_callVI hC (sk := [.ref (B + a2)]) [J v1] (c_X10_at l B D K v1 i_v1 M hM _ hf) yv_X10_at wm_X4_42 okX10.1 sc1 rfl ⟨Nat.le_of_ble_eq_true rfl, Nat.le_of_ble_eq_true rfl, Nat.le_of_ble_eq_true rfl, Nat.le_of_ble_eq_true rfl⟩ rfl (Nat.le_of_ble_eq_true rfl) dX4_readReach_61 ?_
      rintro r_17 M_18 h_r_17 - ⟨rfl, hf⟩
      refine g_aload_n hC 0 dX4_readReach_64 rfl rfl ?_
      refine g_iload_n hC 1 dX4_readReach_65 rfl rfl ?_
      refine g_iconst hC dX4_readReach_66 ?_
      refine g_iadd hC dX4_readReach_67 ?_
      refine g_callVI hC (sk := [J r_17, .ref (B + a2)]) [J (v1 + 1)] (c_X10_at l B D K (v1 + 1) q_6 M hM _ hf) yv_X10_at wm_X4_42 okX10.1 sc1 rfl ⟨Nat.le_of_ble_eq_true rfl, Nat.le_of_ble_eq_true rfl, Nat.le_of_ble_eq_true rfl, Nat.le_of_ble_eq_true rfl⟩ rfl (Nat.le_of_ble_eq_true rfl) dX4_readReach_68 ?_
      rintro r_19 M_20 h_r_19 - ⟨rfl, hf⟩
      refine g_aload_n hC 0 dX4_readReach_71 rfl rfl ?_
      refine g_iload_n hC 1 dX4_readReach_72 rfl rfl ?_
      refine g_iconst hC dX4_readReach_73 ?_
      refine g_iadd hC dX4_readReach_74 ?_
      refine g_callVI hC (sk := [J r_19, J r_17, .ref (B + a2)]) [J (v1 + 2)] (c_X10_at l B D K (v1 + 2) q_9 M hM _ hf) yv_X10_at wm_X4_42 okX10.1 sc1 rfl ⟨Nat.le_of_ble_eq_true rfl, Nat.le_of_ble_eq_true rfl, Nat.le_of_ble_eq_true rfl, Nat.le_of_ble_eq_true rfl⟩ rfl (Nat.le_of_ble_eq_true rfl) dX4_readReach_75 ?_
      rintro r_21 M_22 h_r_21 - ⟨rfl, hf⟩
      refine g_aload_n hC 0 dX4_readReach_78 rfl rfl ?_
      refine g_iload_n hC 1 dX4_readReach_79 rfl rfl ?_
      refine g_iconst hC dX4_readReach_80 ?_
      refine g_iadd hC dX4_readReach_81 ?_
      refine g_callVI hC (sk := [J r_21, J r_19, J r_17, .ref (B + a2)]) [J (v1 + 3)] (c_X10_at l B D K (v1 + 3) q_12 M hM _ hf) yv_X10_at wm_X4_42 okX10.1 sc1 rfl ⟨Nat.le_of_ble_eq_true rfl, Nat.le_of_ble_eq_true rfl, Nat.le_of_ble_eq_true rfl, Nat.le_of_ble_eq_true rfl⟩ rfl (Nat.le_of_ble_eq_true rfl) dX4_readReach_82 ?_
      rintro r_23 M_24 h_r_23 - ⟨rfl, hf⟩
      refine g_iload hC 3 dX4_readReach_85 rfl ?_
      refine g_sipush hC dX4_readReach_87 (by decide) ?_
      refine jn_elim (fun (k : Int → Prop) => ∀ (s5_25 : Int), k s5_25 → (inR s5_25) → G p l e (rmF 2 51) s m args below meth c B D K 5 0 0 (ZZ below args s B D K Q) M 99 [] [J s5_25, J r_23, J r_21, J r_19, J r_17, .ref (B + a2)]) hf ?_ ?_
      · intro s5_25 hf h_s5_25
        refine g_callVV hC (sk := []) [J r_17, J r_19, J r_21, J r_23, J s5_25] (c_X5_lay l B D K a2 r_17 r_19 r_21 r_23 s5_25 h_a2 h_r_17 h_r_19 h_r_21 h_r_23 h_s5_25 M hM _ hf) yv_X5_lay wm_X4_61 okX5.1 (sh_X5 h_a2) rfl ⟨Nat.le_of_ble_eq_true rfl, Nat.le_of_ble_eq_true rfl, Nat.le_of_ble_eq_true rfl, Nat.le_of_ble_eq_true rfl⟩ rfl (Nat.le_of_ble_eq_true rfl) dX4_readReach_99 ?_
        intro M_26 h_M_26 hf
        refine g_iconst hC dX4_readReach_102 ?_
        exact g_retz hC (Or.inr rfl) h_M_26 hf dX4_readReach_103
      · intro J99 hJ99 hf
        refine g_icmp_ne hC 97 h_r_2 (by unfold inR; omega) dX4_readReach_90 rfl (fun c_27 => ?_) (fun c_27 => ?_)
        · replace hf := hf.1 c_27
          refine g_iload hC 3 dX4_readReach_97 rfl ?_
          refine g_sub [] [] rfl ?_
          exact hJ99 r_2 hf h_r_2
        · replace hf := hf.2 c_27
          refine g_iconst hC dX4_readReach_93 ?_
          refine g_goto hC 99 dX4_readReach_94 rfl ?_
          refine g_sub [] [] rfl ?_
          exact hJ99 (-1) hf (by unfold inR; omega)
    · replace hf := hf.2 c_28
      refine g_iconst hC dX4_readReach_56 ?_
      exact g_retz hC (Or.inl rfl) hM hf dX4_readReach_57
  · intro J23 hJ23 hf
    refine g_icmp_eq hC 23 h_r_2 (by unfold inR; omega) dX4_readReach_14 rfl (fun c_30 => ?_) (fun c_30 => ?_)
    · replace hf := hf.1 c_30
      refine g_sub [(0, .ref (B + 1)), (1, J v1), (2, .ref (B + a2)), (4, J r_2)] [1, 2, 3, 0] rfl ?_
      exact hJ23 hf
    · replace hf := hf.2 c_30
      refine g_iload hC 0 dX4_readReach_17 rfl ?_
      refine g_iload_n hC 4 dX4_readReach_19 rfl rfl ?_
      refine g_icmp_ge hC 56 h_r_2 i_v3 dX4_readReach_20 rfl (fun c_29 => ?_) (fun c_29 => ?_)
      · replace hf := hf.1 c_29
        refine g_iconst hC dX4_readReach_56 ?_
        exact g_retz hC (Or.inl rfl) hM hf dX4_readReach_57
      · replace hf := hf.2 c_29
        refine g_sub [(0, .ref (B + 1)), (1, J v1), (2, .ref (B + a2)), (4, J r_2)] [1, 2, 3, 0] rfl ?_
        exact hJ23 hf
set_option maxHeartbeats 4000000 in
set_option maxRecDepth 100000 in
theorem c_X4_read (l : Launch) (B : Nat) (D : va_G) (K : Nat → ClassId) (a1 : Nat) (v2 : Int) (h_a1 : is_X5 a1) (i_v2 : inR v2) (M : Mem) (hM : MR M) (Q : Int → Mem → Prop) (hf : f_X4_read a1 v2 M Q) : CtZ l yX4_read cX4_read 6 3 75 B D K [.ref (B + 1), .ref (B + a1), J v2] M Q := by
  refine ct_z (by decide) (Nat.le_of_ble_eq_true rfl) ?_
  intro p e s m args below meth c hC
  have hC : Cx p s m args meth c D K cX4_read 6 RX4 (some .boolean) := hC
  unfold f_X4_read at hf
  refine (show G p l e (rmF 3 75) s m args below meth c B D K 6 0 0 (ZZ below args s B D K Q) M 0 [(0, .ref (B + 1)), (1, .ref (B + a1)), (2, J v2)] [] from ?_)
  refine g_aload_n hC 0 dX4_read_0 rfl rfl ?_
  refine g_iconst hC dX4_read_1 ?_
  refine g_callVI hC (sk := []) [J 0] (c_X10_at l B D K 0 (by unfold inR; omega) M hM _ hf) yv_X10_at wm_X4_42 okX10.1 sc1 rfl ⟨Nat.le_of_ble_eq_true rfl, Nat.le_of_ble_eq_true rfl, Nat.le_of_ble_eq_true rfl, Nat.le_of_ble_eq_true rfl⟩ rfl (Nat.le_of_ble_eq_true rfl) dX4_read_2 ?_
  rintro r_1 M_2 h_r_1 - ⟨rfl, hf⟩
  refine g_istore_n hC [(3, J r_1), (0, .ref (B + 1)), (1, .ref (B + a1)), (2, J v2)] dX4_read_5 rfl (by decide) rfl ?_
  refine g_aload_n hC 1 dX4_read_6 rfl rfl ?_
  refine g_iconst hC dX4_read_7 ?_
  refine g_callVI hC (sk := []) [J 1] (c_X10_at l B D K 1 (by unfold inR; omega) M hM _ hf) yv_X10_at wm_X4_42 okX10.1 sc1 rfl ⟨Nat.le_of_ble_eq_true rfl, Nat.le_of_ble_eq_true rfl, Nat.le_of_ble_eq_true rfl, Nat.le_of_ble_eq_true rfl⟩ rfl (Nat.le_of_ble_eq_true rfl) dX4_read_8 ?_
  rintro r_3 M_4 h_r_3 - ⟨rfl, hf⟩
  refine g_istore hC [(4, J r_3), (3, J r_1), (0, .ref (B + 1)), (1, .ref (B + a1)), (2, J v2)] dX4_read_11 (by decide) rfl ?_
  refine g_iload_n hC 1 dX4_read_13 rfl rfl ?_
  refine g_iconst hC dX4_read_14 ?_
  refine g_icmp_lt hC 58 h_r_1 (by unfold inR; omega) dX4_read_15 rfl (fun c_24 => ?_) (fun c_24 => ?_)
  · replace hf := hf.1 c_24
    refine g_iconst hC dX4_read_58 ?_
    exact g_retz hC (Or.inl rfl) hM hf dX4_read_59
  · replace hf := hf.2 c_24
    refine g_iload_n hC 1 dX4_read_18 rfl rfl ?_
    refine g_bipush hC dX4_read_19 (by decide) ?_
    refine g_icmp_gt hC 58 h_r_1 (by unfold inR; omega) dX4_read_21 rfl (fun c_23 => ?_) (fun c_23 => ?_)
    · replace hf := hf.1 c_23
      refine g_iconst hC dX4_read_58 ?_
      exact g_retz hC (Or.inl rfl) hM hf dX4_read_59
    · replace hf := hf.2 c_23
      refine g_iload hC 0 dX4_read_24 rfl ?_
      refine g_if_lt hC 58 h_r_3 dX4_read_26 rfl (fun c_22 => ?_) (fun c_22 => ?_)
      · replace hf := hf.1 c_22
        refine g_iconst hC dX4_read_58 ?_
        exact g_retz hC (Or.inl rfl) hM hf dX4_read_59
      · replace hf := hf.2 c_22
        refine g_iload hC 0 dX4_read_29 rfl ?_
        refine g_bipush hC dX4_read_31 (by decide) ?_
        refine g_icmp_gt hC 58 h_r_3 (by unfold inR; omega) dX4_read_33 rfl (fun c_21 => ?_) (fun c_21 => ?_)
        · replace hf := hf.1 c_21
          refine g_iconst hC dX4_read_58 ?_
          exact g_retz hC (Or.inl rfl) hM hf dX4_read_59
        · replace hf := hf.2 c_21
          refine g_aload_n hC 2 dX4_read_36 rfl rfl ?_
          refine g_geti hC okX10 sc1 1 (by decide) rfl wf_X4_48 dX4_read_37 ?_
          refine g_iconst hC dX4_read_40 ?_
          refine g_iconst hC dX4_read_41 ?_
          refine g_iload hC 0 dX4_read_42 rfl ?_
          refine g_imul hC dX4_read_44 ?_
          refine g_iadd hC dX4_read_45 ?_
          refine g_iconst hC dX4_read_46 ?_
          refine g_iadd hC dX4_read_47 ?_
          obtain ⟨q_5, hf⟩ := hf
          refine g_icmp_ne hC 58 (hM _ _) q_5 dX4_read_48 rfl (fun c_20 => ?_) (fun c_20 => ?_)
          · replace hf := hf.1 c_20
            refine g_iconst hC dX4_read_58 ?_
            exact g_retz hC (Or.inl rfl) hM hf dX4_read_59
          · replace hf := hf.2 c_20
            refine g_aload_n hC 2 dX4_read_51 rfl rfl ?_
            refine g_callSZ hC (sk := []) [.ref (B + 1)] (c_X4_isChecked l B D K   M hM _ hf) yv_X4_isChecked wm_X4_49 rfl ⟨Nat.le_of_ble_eq_true rfl, Nat.le_of_ble_eq_true rfl, Nat.le_of_ble_eq_true rfl, Nat.le_of_ble_eq_true rfl⟩ rfl (Nat.le_of_ble_eq_true rfl) dX4_read_52 ?_
            rintro r_6 M_7 h_r_6 - ⟨rfl, hf⟩
            refine g_if_ne hC 60 (zi_ h_r_6) dX4_read_55 rfl (fun c_19 => ?_) (fun c_19 => ?_)
            · replace hf := hf.1 c_19
              refine g_aload_n hC 3 dX4_read_60 rfl rfl ?_
              refine g_iload_n hC 1 dX4_read_61 rfl rfl ?_
              refine g_puti hC okX5 tnX5 (sh_X5 h_a1) 0 (by decide) rfl rfl (by decide) wf_X4_15 dX4_read_62 ?_
              refine g_nmM (fun M_8 e_M_8 => ?_)
              replace hf := hf M_8 e_M_8
              have h_M_8 : MR M_8 := by rw [e_M_8]; exact MR_st hM h_r_1
              refine g_aload_n hC 3 dX4_read_65 rfl rfl ?_
              refine g_iconst hC dX4_read_66 ?_
              refine g_puti hC okX5 tnX5 (sh_X5 h_a1) 1 (by decide) rfl rfl (by decide) wf_X4_21 dX4_read_67 ?_
              refine g_nmM (fun M_9 e_M_9 => ?_)
              replace hf := hf M_9 e_M_9
              have h_M_9 : MR M_9 := by rw [e_M_9]; exact MR_st h_M_8 (by unfold inR; omega)
              refine g_iconst hC dX4_read_70 ?_
              refine g_istore hC [(5, J 0), (4, J r_3), (3, J r_1), (0, .ref (B + 1)), (1, .ref (B + a1)), (2, J v2)] dX4_read_71 (by decide) rfl ?_
              refine g_sub [(0, .ref (B + 1)), (1, .ref (B + a1)), (2, J v2), (4, J r_3), (5, J 0)] [3, 4, 5, 1, 0] rfl ?_
              refine wl2_elim (fun (v5_10 : Int) (M_11 : Mem) => inR v5_10 → MR M_11 → G p l e (rmF 3 75) s m args below meth c B D K 6 0 0 (ZZ below args s B D K Q) M_11 73 [(0, .ref (B + 1)), (1, .ref (B + a1)), (2, J v2), (4, J r_3), (5, J v5_10)] []) ?_ 5000 0 M_9 hf (by unfold inR; omega) h_M_9
              intro rec73 ih73 v5_10 M_11 hf h_v5_10 h_M_11
              unfold X4_read_b73 at hf
              refine g_iload hC 4 dX4_read_73 rfl ?_
              refine g_iload hC 3 dX4_read_75 rfl ?_
              refine g_icmp_ge hC 103 h_v5_10 h_r_3 dX4_read_77 rfl (fun c_18 => ?_) (fun c_18 => ?_)
              · replace hf := hf.1 c_18
                refine g_iconst hC dX4_read_103 ?_
                exact g_retz hC (Or.inr rfl) h_M_11 hf dX4_read_104
              · replace hf := hf.2 c_18
                refine g_aload_n hC 0 dX4_read_80 rfl rfl ?_
                refine g_iconst hC dX4_read_81 ?_
                refine g_iconst hC dX4_read_82 ?_
                refine g_iload hC 4 dX4_read_83 rfl ?_
                refine g_imul hC dX4_read_85 ?_
                refine g_iadd hC dX4_read_86 ?_
                refine g_aload_n hC 1 dX4_read_87 rfl rfl ?_
                refine g_iload_n hC 2 dX4_read_88 rfl rfl ?_
                obtain ⟨q_12, hf⟩ := hf
                refine g_callSZ hC (sk := []) [.ref (B + 1), J (2 + (5 * v5_10)), .ref (B + a1), J v2] (c_X4_readReach l B D K (2 + (5 * v5_10)) a1 v2 q_12 h_a1 i_v2 M_11 h_M_11 _ hf) yv_X4_readReach wm_X4_53 rfl ⟨Nat.le_of_ble_eq_true rfl, Nat.le_of_ble_eq_true rfl, Nat.le_of_ble_eq_true rfl, Nat.le_of_ble_eq_true rfl⟩ rfl (Nat.le_of_ble_eq_true rfl) dX4_read_89 ?_
                intro r_13 M_14 h_r_13 h_M_14 hf
                refine g_if_ne hC 97 (zi_ h_r_13) dX4_read_92 rfl (fun c_17 => ?_) (fun c_17 => ?_)
                · replace hf := hf.1 c_17
                  obtain ⟨q_16, hf⟩ := hf
                  obtain ⟨v5_15, e_v5_15⟩ : ∃ z : Int, z = v5_10 + 1 := ⟨_, rfl⟩
                  replace hf := hf v5_15 e_v5_15
                  have h_v5_15 : inR v5_15 := by rw [e_v5_15]; exact q_16
                  refine g_iincv hC 4 e_v5_15 [(5, J v5_15), (0, .ref (B + 1)), (1, .ref (B + a1)), (2, J v2), (4, J r_3)] dX4_read_97 rfl (by decide) rfl ?_
                  refine g_goto hC 73 dX4_read_100 rfl ?_
                  refine g_sub [(0, .ref (B + 1)), (1, .ref (B + a1)), (2, J v2), (4, J r_3), (5, J v5_15)] [1, 2, 3, 4, 0] rfl ?_
                  exact ih73 v5_15 M_14 hf h_v5_15 h_M_14
                · replace hf := hf.2 c_17
                  refine g_iconst hC dX4_read_95 ?_
                  exact g_retz hC (Or.inl rfl) h_M_14 hf dX4_read_96
            · replace hf := hf.2 c_19
              refine g_iconst hC dX4_read_58 ?_
              exact g_retz hC (Or.inl rfl) hM hf dX4_read_59
set_option maxHeartbeats 4000000 in
set_option maxRecDepth 100000 in
theorem c_X5_isReach (l : Launch) (B : Nat) (D : va_G) (K : Nat → ClassId) (n : Nat) (v1 : Int) (h_n : is_X5 n) (i_v1 : inR v1) (M : Mem) (hM : MR M) (Q : Int → Prop) (hf : f_X5_isReach n v1 M Q) : CtZ l yX5_isReach cX5_isReach 2 0 0 B D K [.ref (B + n), J v1] M (fun r M1 => M = M1 ∧ Q r) := by
  refine ct_z (by decide) (Nat.le_of_ble_eq_true rfl) ?_
  intro p e s m args below meth c hC
  have hC : Cx p s m args meth c D K cX5_isReach 2 RX5 (some .boolean) := hC
  unfold f_X5_isReach at hf
  refine (show G p l e (rmF 0 0) s m args below meth c B D K 2 0 0 (ZZ below args s B D K (fun r M1 => M = M1 ∧ Q r)) M 0 [(0, .ref (B + n)), (1, J v1)] [] from ?_)
  refine g_iload_n hC 1 dX5_isReach_0 rfl rfl ?_
  refine g_if_lt hC 16 i_v1 dX5_isReach_1 rfl (fun c_2 => ?_) (fun c_2 => ?_)
  · replace hf := hf.1 c_2
    refine g_iconst hC dX5_isReach_16 ?_
    exact g_retz hC (Or.inl rfl) hM ⟨rfl, hf⟩ dX5_isReach_17
  · replace hf := hf.2 c_2
    refine g_iload_n hC 1 dX5_isReach_4 rfl rfl ?_
    refine g_aload_n hC 0 dX5_isReach_5 rfl rfl ?_
    refine g_geti hC okX5 (sh_X5 h_n) 1 (by decide) rfl wf_X5_31 dX5_isReach_6 ?_
    refine g_icmp_ge hC 16 i_v1 (hM _ _) dX5_isReach_9 rfl (fun c_1 => ?_) (fun c_1 => ?_)
    · replace hf := hf.1 c_1
      refine g_iconst hC dX5_isReach_16 ?_
      exact g_retz hC (Or.inl rfl) hM ⟨rfl, hf⟩ dX5_isReach_17
    · replace hf := hf.2 c_1
      refine g_iconst hC dX5_isReach_12 ?_
      refine g_goto hC 17 dX5_isReach_13 rfl ?_
      exact g_retz hC (Or.inr rfl) hM ⟨rfl, hf⟩ dX5_isReach_17
set_option maxHeartbeats 4000000 in
set_option maxRecDepth 100000 in
theorem c_X5_copyFrom (l : Launch) (B : Nat) (D : va_G) (K : Nat → ClassId) (n : Nat) (a1 : Nat) (h_n : is_X5 n) (h_a1 : is_X5 a1) (M : Mem) (hM : MR M) (Q : Mem → Prop) (hf : f_X5_copyFrom n a1 M Q) : CtV l yX5_copyFrom cX5_copyFrom 2 1 40 B D K [.ref (B + n), .ref (B + a1)] M Q := by
  refine ct_v (by decide) (Nat.le_of_ble_eq_true rfl) ?_
  intro p e s m args below meth c hC
  have hC : Cx p s m args meth c D K cX5_copyFrom 2 RX5 none := hC
  unfold f_X5_copyFrom at hf
  refine (show G p l e (rmF 1 40) s m args below meth c B D K 2 0 0 (ZV below args s B D K Q) M 0 [(0, .ref (B + n)), (1, .ref (B + a1))] [] from ?_)
  refine g_aload_n hC 0 dX5_copyFrom_0 rfl rfl ?_
  refine g_aload_n hC 1 dX5_copyFrom_1 rfl rfl ?_
  refine g_geti hC okX5 (sh_X5 h_a1) 0 (by decide) rfl wf_X5_27 dX5_copyFrom_2 ?_
  refine g_puti hC okX5 tnX5 (sh_X5 h_n) 0 (by decide) rfl rfl (by decide) wf_X5_27 dX5_copyFrom_5 ?_
  refine g_nmM (fun M_1 e_M_1 => ?_)
  replace hf := hf M_1 e_M_1
  have h_M_1 : MR M_1 := by rw [e_M_1]; exact MR_st hM (hM _ _)
  refine g_aload_n hC 0 dX5_copyFrom_8 rfl rfl ?_
  refine g_aload_n hC 1 dX5_copyFrom_9 rfl rfl ?_
  refine g_geti hC okX5 (sh_X5 h_a1) 1 (by decide) rfl wf_X5_31 dX5_copyFrom_10 ?_
  refine g_puti hC okX5 tnX5 (sh_X5 h_n) 1 (by decide) rfl rfl (by decide) wf_X5_31 dX5_copyFrom_13 ?_
  refine g_nmM (fun M_2 e_M_2 => ?_)
  replace hf := hf M_2 e_M_2
  have h_M_2 : MR M_2 := by rw [e_M_2]; exact MR_st h_M_1 (h_M_1 _ _)
  refine g_aload_n hC 1 dX5_copyFrom_16 rfl rfl ?_
  refine g_getr hC okX5 (sh_X5 h_a1) 2 (by decide) rfl wf_X5_9 dX5_copyFrom_17 ?_
  refine g_iconst hC dX5_copyFrom_20 ?_
  refine g_aload_n hC 0 dX5_copyFrom_21 rfl rfl ?_
  refine g_getr hC okX5 (sh_X5 h_n) 2 (by decide) rfl wf_X5_9 dX5_copyFrom_22 ?_
  refine g_iconst hC dX5_copyFrom_25 ?_
  refine g_aload_n hC 0 dX5_copyFrom_26 rfl rfl ?_
  refine g_geti hC okX5 (sh_X5 h_n) 1 (by decide) rfl wf_X5_31 dX5_copyFrom_27 ?_
  obtain ⟨q_3, hf⟩ := hf
  refine g_copy hC (sh_X5_2 h_a1) (sh_X5_2 h_n) q_3.1 q_3.2.1 q_3.2.2.1 q_3.2.2.2.1 q_3.2.2.2.2 ⟨wm_X5_34, wj_copy⟩ (Nat.le_of_ble_eq_true rfl) (Nat.le_of_ble_eq_true rfl) dX5_copyFrom_30 ?_
  refine g_nmM (fun M_4 e_M_4 => ?_)
  replace hf := hf M_4 e_M_4
  have h_M_4 : MR M_4 := by rw [e_M_4]; exact MR_cpy h_M_2
  refine g_aload_n hC 1 dX5_copyFrom_33 rfl rfl ?_
  refine g_getr hC okX5 (sh_X5 h_a1) 3 (by decide) rfl wf_X5_15 dX5_copyFrom_34 ?_
  refine g_iconst hC dX5_copyFrom_37 ?_
  refine g_aload_n hC 0 dX5_copyFrom_38 rfl rfl ?_
  refine g_getr hC okX5 (sh_X5 h_n) 3 (by decide) rfl wf_X5_15 dX5_copyFrom_39 ?_
  refine g_iconst hC dX5_copyFrom_42 ?_
  refine g_aload_n hC 0 dX5_copyFrom_43 rfl rfl ?_
  refine g_geti hC okX5 (sh_X5 h_n) 1 (by decide) rfl wf_X5_31 dX5_copyFrom_44 ?_
  obtain ⟨q_5, hf⟩ := hf
  refine g_copy hC (sh_X5_3 h_a1) (sh_X5_3 h_n) q_5.1 q_5.2.1 q_5.2.2.1 q_5.2.2.2.1 q_5.2.2.2.2 ⟨wm_X5_34, wj_copy⟩ (Nat.le_of_ble_eq_true rfl) (Nat.le_of_ble_eq_true rfl) dX5_copyFrom_47 ?_
  refine g_nmM (fun M_6 e_M_6 => ?_)
  replace hf := hf M_6 e_M_6
  have h_M_6 : MR M_6 := by rw [e_M_6]; exact MR_cpy h_M_4
  refine g_aload_n hC 1 dX5_copyFrom_50 rfl rfl ?_
  refine g_getr hC okX5 (sh_X5 h_a1) 4 (by decide) rfl wf_X5_18 dX5_copyFrom_51 ?_
  refine g_iconst hC dX5_copyFrom_54 ?_
  refine g_aload_n hC 0 dX5_copyFrom_55 rfl rfl ?_
  refine g_getr hC okX5 (sh_X5 h_n) 4 (by decide) rfl wf_X5_18 dX5_copyFrom_56 ?_
  refine g_iconst hC dX5_copyFrom_59 ?_
  refine g_aload_n hC 0 dX5_copyFrom_60 rfl rfl ?_
  refine g_geti hC okX5 (sh_X5 h_n) 1 (by decide) rfl wf_X5_31 dX5_copyFrom_61 ?_
  obtain ⟨q_7, hf⟩ := hf
  refine g_copy hC (sh_X5_4 h_a1) (sh_X5_4 h_n) q_7.1 q_7.2.1 q_7.2.2.1 q_7.2.2.2.1 q_7.2.2.2.2 ⟨wm_X5_34, wj_copy⟩ (Nat.le_of_ble_eq_true rfl) (Nat.le_of_ble_eq_true rfl) dX5_copyFrom_64 ?_
  refine g_nmM (fun M_8 e_M_8 => ?_)
  replace hf := hf M_8 e_M_8
  have h_M_8 : MR M_8 := by rw [e_M_8]; exact MR_cpy h_M_6
  refine g_aload_n hC 1 dX5_copyFrom_67 rfl rfl ?_
  refine g_getr hC okX5 (sh_X5 h_a1) 5 (by decide) rfl wf_X5_21 dX5_copyFrom_68 ?_
  refine g_iconst hC dX5_copyFrom_71 ?_
  refine g_aload_n hC 0 dX5_copyFrom_72 rfl rfl ?_
  refine g_getr hC okX5 (sh_X5 h_n) 5 (by decide) rfl wf_X5_21 dX5_copyFrom_73 ?_
  refine g_iconst hC dX5_copyFrom_76 ?_
  refine g_aload_n hC 0 dX5_copyFrom_77 rfl rfl ?_
  refine g_geti hC okX5 (sh_X5 h_n) 1 (by decide) rfl wf_X5_31 dX5_copyFrom_78 ?_
  obtain ⟨q_9, hf⟩ := hf
  refine g_copy hC (sh_X5_5 h_a1) (sh_X5_5 h_n) q_9.1 q_9.2.1 q_9.2.2.1 q_9.2.2.2.1 q_9.2.2.2.2 ⟨wm_X5_34, wj_copy⟩ (Nat.le_of_ble_eq_true rfl) (Nat.le_of_ble_eq_true rfl) dX5_copyFrom_81 ?_
  refine g_nmM (fun M_10 e_M_10 => ?_)
  replace hf := hf M_10 e_M_10
  have h_M_10 : MR M_10 := by rw [e_M_10]; exact MR_cpy h_M_8
  refine g_aload_n hC 1 dX5_copyFrom_84 rfl rfl ?_
  refine g_getr hC okX5 (sh_X5 h_a1) 6 (by decide) rfl wf_X5_24 dX5_copyFrom_85 ?_
  refine g_iconst hC dX5_copyFrom_88 ?_
  refine g_aload_n hC 0 dX5_copyFrom_89 rfl rfl ?_
  refine g_getr hC okX5 (sh_X5 h_n) 6 (by decide) rfl wf_X5_24 dX5_copyFrom_90 ?_
  refine g_iconst hC dX5_copyFrom_93 ?_
  refine g_aload_n hC 0 dX5_copyFrom_94 rfl rfl ?_
  refine g_geti hC okX5 (sh_X5 h_n) 1 (by decide) rfl wf_X5_31 dX5_copyFrom_95 ?_
  obtain ⟨q_11, hf⟩ := hf
  refine g_copy hC (sh_X5_6 h_a1) (sh_X5_6 h_n) q_11.1 q_11.2.1 q_11.2.2.1 q_11.2.2.2.1 q_11.2.2.2.2 ⟨wm_X5_34, wj_copy⟩ (Nat.le_of_ble_eq_true rfl) (Nat.le_of_ble_eq_true rfl) dX5_copyFrom_98 ?_
  refine g_nmM (fun M_12 e_M_12 => ?_)
  replace hf := hf M_12 e_M_12
  have h_M_12 : MR M_12 := by rw [e_M_12]; exact MR_cpy h_M_10
  exact g_retv hC h_M_12 hf dX5_copyFrom_101
set_option maxHeartbeats 4000000 in
set_option maxRecDepth 100000 in
theorem c_X5_take (l : Launch) (B : Nat) (D : va_G) (K : Nat → ClassId) (n : Nat) (v1 : Int) (h_n : is_X5 n) (i_v1 : inR v1) (M : Mem) (hM : MR M) (Q : Mem → Prop) (hf : f_X5_take n v1 M Q) : CtV l yX5_take cX5_take 3 1 40 B D K [.ref (B + n), J v1] M Q := by
  refine ct_v (by decide) (Nat.le_of_ble_eq_true rfl) ?_
  intro p e s m args below meth c hC
  have hC : Cx p s m args meth c D K cX5_take 3 RX5 none := hC
  unfold f_X5_take at hf
  refine (show G p l e (rmF 1 40) s m args below meth c B D K 3 0 0 (ZV below args s B D K Q) M 0 [(0, .ref (B + n)), (1, J v1)] [] from ?_)
  refine g_aload_n hC 0 dX5_take_0 rfl rfl ?_
  refine g_geti hC okX5 (sh_X5 h_n) 1 (by decide) rfl wf_X5_31 dX5_take_1 ?_
  refine g_iload_n hC 1 dX5_take_4 rfl rfl ?_
  refine g_isub hC dX5_take_5 ?_
  refine g_iconst hC dX5_take_6 ?_
  refine g_isub hC dX5_take_7 ?_
  obtain ⟨q_1, hf⟩ := hf
  refine g_nm (fun v2_2 e_v2_2 => ?_)
  replace hf := hf v2_2 e_v2_2
  have h_v2_2 : inR v2_2 := by rw [e_v2_2]; exact q_1
  refine g_istore_n hC [(2, J v2_2), (0, .ref (B + n)), (1, J v1)] dX5_take_8 rfl (by decide) rfl ?_
  refine g_aload_n hC 1 dX5_take_9 rfl rfl ?_
  refine g_getr hC okX5 (sh_X5 h_n) 2 (by decide) rfl wf_X5_9 dX5_take_10 ?_
  refine g_iload_n hC 2 dX5_take_13 rfl rfl ?_
  refine g_iconst hC dX5_take_14 ?_
  refine g_iadd hC dX5_take_15 ?_
  refine g_aload_n hC 1 dX5_take_16 rfl rfl ?_
  refine g_getr hC okX5 (sh_X5 h_n) 2 (by decide) rfl wf_X5_9 dX5_take_17 ?_
  refine g_iload_n hC 2 dX5_take_20 rfl rfl ?_
  refine g_iload_n hC 0 dX5_take_21 rfl rfl ?_
  obtain ⟨q_3, hf⟩ := hf
  refine g_copy hC (sh_X5_2 h_n) (sh_X5_2 h_n) q_3.1 q_3.2.1 q_3.2.2.1 q_3.2.2.2.1 q_3.2.2.2.2 ⟨wm_X5_34, wj_copy⟩ (Nat.le_of_ble_eq_true rfl) (Nat.le_of_ble_eq_true rfl) dX5_take_22 ?_
  refine g_nmM (fun M_4 e_M_4 => ?_)
  replace hf := hf M_4 e_M_4
  have h_M_4 : MR M_4 := by rw [e_M_4]; exact MR_cpy hM
  refine g_aload_n hC 1 dX5_take_25 rfl rfl ?_
  refine g_getr hC okX5 (sh_X5 h_n) 3 (by decide) rfl wf_X5_15 dX5_take_26 ?_
  refine g_iload_n hC 2 dX5_take_29 rfl rfl ?_
  refine g_iconst hC dX5_take_30 ?_
  refine g_iadd hC dX5_take_31 ?_
  refine g_aload_n hC 1 dX5_take_32 rfl rfl ?_
  refine g_getr hC okX5 (sh_X5 h_n) 3 (by decide) rfl wf_X5_15 dX5_take_33 ?_
  refine g_iload_n hC 2 dX5_take_36 rfl rfl ?_
  refine g_iload_n hC 0 dX5_take_37 rfl rfl ?_
  obtain ⟨q_5, hf⟩ := hf
  refine g_copy hC (sh_X5_3 h_n) (sh_X5_3 h_n) q_5.1 q_5.2.1 q_5.2.2.1 q_5.2.2.2.1 q_5.2.2.2.2 ⟨wm_X5_34, wj_copy⟩ (Nat.le_of_ble_eq_true rfl) (Nat.le_of_ble_eq_true rfl) dX5_take_38 ?_
  refine g_nmM (fun M_6 e_M_6 => ?_)
  replace hf := hf M_6 e_M_6
  have h_M_6 : MR M_6 := by rw [e_M_6]; exact MR_cpy h_M_4
  refine g_aload_n hC 1 dX5_take_41 rfl rfl ?_
  refine g_getr hC okX5 (sh_X5 h_n) 4 (by decide) rfl wf_X5_18 dX5_take_42 ?_
  refine g_iload_n hC 2 dX5_take_45 rfl rfl ?_
  refine g_iconst hC dX5_take_46 ?_
  refine g_iadd hC dX5_take_47 ?_
  refine g_aload_n hC 1 dX5_take_48 rfl rfl ?_
  refine g_getr hC okX5 (sh_X5 h_n) 4 (by decide) rfl wf_X5_18 dX5_take_49 ?_
  refine g_iload_n hC 2 dX5_take_52 rfl rfl ?_
  refine g_iload_n hC 0 dX5_take_53 rfl rfl ?_
  obtain ⟨q_7, hf⟩ := hf
  refine g_copy hC (sh_X5_4 h_n) (sh_X5_4 h_n) q_7.1 q_7.2.1 q_7.2.2.1 q_7.2.2.2.1 q_7.2.2.2.2 ⟨wm_X5_34, wj_copy⟩ (Nat.le_of_ble_eq_true rfl) (Nat.le_of_ble_eq_true rfl) dX5_take_54 ?_
  refine g_nmM (fun M_8 e_M_8 => ?_)
  replace hf := hf M_8 e_M_8
  have h_M_8 : MR M_8 := by rw [e_M_8]; exact MR_cpy h_M_6
  refine g_aload_n hC 1 dX5_take_57 rfl rfl ?_
  refine g_getr hC okX5 (sh_X5 h_n) 5 (by decide) rfl wf_X5_21 dX5_take_58 ?_
  refine g_iload_n hC 2 dX5_take_61 rfl rfl ?_
  refine g_iconst hC dX5_take_62 ?_
  refine g_iadd hC dX5_take_63 ?_
  refine g_aload_n hC 1 dX5_take_64 rfl rfl ?_
  refine g_getr hC okX5 (sh_X5 h_n) 5 (by decide) rfl wf_X5_21 dX5_take_65 ?_
  refine g_iload_n hC 2 dX5_take_68 rfl rfl ?_
  refine g_iload_n hC 0 dX5_take_69 rfl rfl ?_
  obtain ⟨q_9, hf⟩ := hf
  refine g_copy hC (sh_X5_5 h_n) (sh_X5_5 h_n) q_9.1 q_9.2.1 q_9.2.2.1 q_9.2.2.2.1 q_9.2.2.2.2 ⟨wm_X5_34, wj_copy⟩ (Nat.le_of_ble_eq_true rfl) (Nat.le_of_ble_eq_true rfl) dX5_take_70 ?_
  refine g_nmM (fun M_10 e_M_10 => ?_)
  replace hf := hf M_10 e_M_10
  have h_M_10 : MR M_10 := by rw [e_M_10]; exact MR_cpy h_M_8
  refine g_aload_n hC 1 dX5_take_73 rfl rfl ?_
  refine g_getr hC okX5 (sh_X5 h_n) 6 (by decide) rfl wf_X5_24 dX5_take_74 ?_
  refine g_iload_n hC 2 dX5_take_77 rfl rfl ?_
  refine g_iconst hC dX5_take_78 ?_
  refine g_iadd hC dX5_take_79 ?_
  refine g_aload_n hC 1 dX5_take_80 rfl rfl ?_
  refine g_getr hC okX5 (sh_X5 h_n) 6 (by decide) rfl wf_X5_24 dX5_take_81 ?_
  refine g_iload_n hC 2 dX5_take_84 rfl rfl ?_
  refine g_iload_n hC 0 dX5_take_85 rfl rfl ?_
  obtain ⟨q_11, hf⟩ := hf
  refine g_copy hC (sh_X5_6 h_n) (sh_X5_6 h_n) q_11.1 q_11.2.1 q_11.2.2.1 q_11.2.2.2.1 q_11.2.2.2.2 ⟨wm_X5_34, wj_copy⟩ (Nat.le_of_ble_eq_true rfl) (Nat.le_of_ble_eq_true rfl) dX5_take_86 ?_
  refine g_nmM (fun M_12 e_M_12 => ?_)
  replace hf := hf M_12 e_M_12
  have h_M_12 : MR M_12 := by rw [e_M_12]; exact MR_cpy h_M_10
  refine g_aload_n hC 1 dX5_take_89 rfl rfl ?_
  refine g_dup hC dX5_take_90 rfl ?_
  refine g_geti hC okX5 (sh_X5 h_n) 1 (by decide) rfl wf_X5_31 dX5_take_91 ?_
  refine g_iconst hC dX5_take_94 ?_
  refine g_isub hC dX5_take_95 ?_
  obtain ⟨q_13, hf⟩ := hf
  refine g_puti hC okX5 tnX5 (sh_X5 h_n) 1 (by decide) rfl rfl (by decide) wf_X5_31 dX5_take_96 ?_
  refine g_nmM (fun M_14 e_M_14 => ?_)
  replace hf := hf M_14 e_M_14
  have h_M_14 : MR M_14 := by rw [e_M_14]; exact MR_st h_M_12 q_13
  exact g_retv hC h_M_14 hf dX5_take_99
set_option maxHeartbeats 4000000 in
set_option maxRecDepth 100000 in
theorem c_X5_maySplit (l : Launch) (B : Nat) (D : va_G) (K : Nat → ClassId) (n : Nat) (v1 : Int) (v2 : Int) (h_n : is_X5 n) (i_v1 : inR v1) (i_v2 : inR v2) (M : Mem) (hM : MR M) (Q : Int → Prop) (hf : f_X5_maySplit n v1 v2 M Q) : CtZ l yX5_maySplit cX5_maySplit 3 1 21 B D K [.ref (B + n), J v1, J v2] M (fun r M1 => M = M1 ∧ Q r) := by
  refine ct_z (by decide) (Nat.le_of_ble_eq_true rfl) ?_
  intro p e s m args below meth c hC
  have hC : Cx p s m args meth c D K cX5_maySplit 3 RX5 (some .boolean) := hC
  unfold f_X5_maySplit at hf
  refine (show G p l e (rmF 1 21) s m args below meth c B D K 3 0 0 (ZZ below args s B D K (fun r M1 => M = M1 ∧ Q r)) M 0 [(0, .ref (B + n)), (1, J v1), (2, J v2)] [] from ?_)
  refine g_aload_n hC 0 dX5_maySplit_0 rfl rfl ?_
  refine g_iload_n hC 1 dX5_maySplit_1 rfl rfl ?_
  refine g_callVZ hC (sk := []) [J v1] (c_X5_isReach l B D K n v1 h_n i_v1 M hM _ hf) yv_X5_isReach wm_X5_48 okX5.1 (sh_X5 h_n) rfl ⟨Nat.le_of_ble_eq_true rfl, Nat.le_of_ble_eq_true rfl, Nat.le_of_ble_eq_true rfl, Nat.le_of_ble_eq_true rfl⟩ rfl (Nat.le_of_ble_eq_true rfl) dX5_maySplit_2 ?_
  rintro r_1 M_2 h_r_1 - ⟨rfl, hf⟩
  refine g_if_eq hC 45 (zi_ h_r_1) dX5_maySplit_5 rfl (fun c_8 => ?_) (fun c_8 => ?_)
  · replace hf := hf.1 c_8
    refine g_iconst hC dX5_maySplit_45 ?_
    exact g_retz hC (Or.inl rfl) hM ⟨rfl, hf⟩ dX5_maySplit_46
  · replace hf := hf.2 c_8
    refine g_iload_n hC 2 dX5_maySplit_8 rfl rfl ?_
    refine g_iconst hC dX5_maySplit_9 ?_
    refine g_icmp_lt hC 45 i_v2 (by unfold inR; omega) dX5_maySplit_10 rfl (fun c_7 => ?_) (fun c_7 => ?_)
    · replace hf := hf.1 c_7
      refine g_iconst hC dX5_maySplit_45 ?_
      exact g_retz hC (Or.inl rfl) hM ⟨rfl, hf⟩ dX5_maySplit_46
    · replace hf := hf.2 c_7
      refine g_iload_n hC 2 dX5_maySplit_13 rfl rfl ?_
      refine g_aload_n hC 0 dX5_maySplit_14 rfl rfl ?_
      refine g_getr hC okX5 (sh_X5 h_n) 4 (by decide) rfl wf_X5_18 dX5_maySplit_15 ?_
      refine g_iload_n hC 1 dX5_maySplit_18 rfl rfl ?_
      obtain ⟨q_3, hf⟩ := hf
      refine g_ialdk (v1.toNat) hC (sh_X5_4 h_n) q_3.1 q_3.2 rfl dX5_maySplit_19 ?_
      refine g_icmp_ge hC 45 i_v2 (hM _ _) dX5_maySplit_20 rfl (fun c_6 => ?_) (fun c_6 => ?_)
      · replace hf := hf.1 c_6
        refine g_iconst hC dX5_maySplit_45 ?_
        exact g_retz hC (Or.inl rfl) hM ⟨rfl, hf⟩ dX5_maySplit_46
      · replace hf := hf.2 c_6
        refine g_aload_n hC 0 dX5_maySplit_23 rfl rfl ?_
        refine g_geti hC okX5 (sh_X5 h_n) 0 (by decide) rfl wf_X5_27 dX5_maySplit_24 ?_
        refine g_bipush hC dX5_maySplit_27 (by decide) ?_
        refine g_icmp_ge hC 45 (hM _ _) (by unfold inR; omega) dX5_maySplit_29 rfl (fun c_5 => ?_) (fun c_5 => ?_)
        · replace hf := hf.1 c_5
          refine g_iconst hC dX5_maySplit_45 ?_
          exact g_retz hC (Or.inl rfl) hM ⟨rfl, hf⟩ dX5_maySplit_46
        · replace hf := hf.2 c_5
          refine g_aload_n hC 0 dX5_maySplit_32 rfl rfl ?_
          refine g_geti hC okX5 (sh_X5 h_n) 1 (by decide) rfl wf_X5_31 dX5_maySplit_33 ?_
          refine g_bipush hC dX5_maySplit_36 (by decide) ?_
          refine g_icmp_ge hC 45 (hM _ _) (by unfold inR; omega) dX5_maySplit_38 rfl (fun c_4 => ?_) (fun c_4 => ?_)
          · replace hf := hf.1 c_4
            refine g_iconst hC dX5_maySplit_45 ?_
            exact g_retz hC (Or.inl rfl) hM ⟨rfl, hf⟩ dX5_maySplit_46
          · replace hf := hf.2 c_4
            refine g_iconst hC dX5_maySplit_41 ?_
            refine g_goto hC 46 dX5_maySplit_42 rfl ?_
            exact g_retz hC (Or.inr rfl) hM ⟨rfl, hf⟩ dX5_maySplit_46
set_option maxHeartbeats 4000000 in
set_option maxRecDepth 100000 in
theorem c_X5_split (l : Launch) (B : Nat) (D : va_G) (K : Nat → ClassId) (n : Nat) (v1 : Int) (v2 : Int) (h_n : is_X5 n) (i_v1 : inR v1) (i_v2 : inR v2) (M : Mem) (hM : MR M) (Q : Mem → Prop) (hf : f_X5_split n v1 v2 M Q) : CtV l yX5_split cX5_split 4 1 25 B D K [.ref (B + n), J v1, J v2] M Q := by
  refine ct_v (by decide) (Nat.le_of_ble_eq_true rfl) ?_
  intro p e s m args below meth c hC
  have hC : Cx p s m args meth c D K cX5_split 4 RX5 none := hC
  unfold f_X5_split at hf
  refine (show G p l e (rmF 1 25) s m args below meth c B D K 4 0 0 (ZV below args s B D K Q) M 0 [(0, .ref (B + n)), (1, J v1), (2, J v2)] [] from ?_)
  refine g_aload_n hC 0 dX5_split_0 rfl rfl ?_
  refine g_geti hC okX5 (sh_X5 h_n) 0 (by decide) rfl wf_X5_27 dX5_split_1 ?_
  refine g_nm (fun v3_1 e_v3_1 => ?_)
  replace hf := hf v3_1 e_v3_1
  have h_v3_1 : inR v3_1 := by rw [e_v3_1]; exact (hM _ _)
  refine g_istore_n hC [(3, J v3_1), (0, .ref (B + n)), (1, J v1), (2, J v2)] dX5_split_4 rfl (by decide) rfl ?_
  refine g_aload_n hC 1 dX5_split_5 rfl rfl ?_
  refine g_dup hC dX5_split_6 rfl ?_
  refine g_geti hC okX5 (sh_X5 h_n) 0 (by decide) rfl wf_X5_27 dX5_split_7 ?_
  refine g_iconst hC dX5_split_10 ?_
  refine g_iadd hC dX5_split_11 ?_
  obtain ⟨q_2, hf⟩ := hf
  refine g_puti hC okX5 tnX5 (sh_X5 h_n) 0 (by decide) rfl rfl (by decide) wf_X5_27 dX5_split_12 ?_
  refine g_nmM (fun M_3 e_M_3 => ?_)
  replace hf := hf M_3 e_M_3
  have h_M_3 : MR M_3 := by rw [e_M_3]; exact MR_st hM q_2
  refine g_aload_n hC 1 dX5_split_15 rfl rfl ?_
  refine g_iload_n hC 0 dX5_split_16 rfl rfl ?_
  refine g_aload_n hC 1 dX5_split_17 rfl rfl ?_
  refine g_getr hC okX5 (sh_X5 h_n) 3 (by decide) rfl wf_X5_15 dX5_split_18 ?_
  refine g_iload_n hC 2 dX5_split_21 rfl rfl ?_
  obtain ⟨q_4, hf⟩ := hf
  refine g_ialdk (v1.toNat) hC (sh_X5_3 h_n) q_4.1 q_4.2 rfl dX5_split_22 ?_
  refine g_aload_n hC 1 dX5_split_23 rfl rfl ?_
  refine g_getr hC okX5 (sh_X5 h_n) 4 (by decide) rfl wf_X5_18 dX5_split_24 ?_
  refine g_iload_n hC 2 dX5_split_27 rfl rfl ?_
  refine g_ialdk (v1.toNat) hC (sh_X5_4 h_n) q_4.1 q_4.2 rfl dX5_split_28 ?_
  refine g_iload_n hC 3 dX5_split_29 rfl rfl ?_
  refine g_isub hC dX5_split_30 ?_
  refine g_iconst hC dX5_split_31 ?_
  refine g_aload_n hC 1 dX5_split_32 rfl rfl ?_
  refine g_getr hC okX5 (sh_X5 h_n) 6 (by decide) rfl wf_X5_24 dX5_split_33 ?_
  refine g_iload_n hC 2 dX5_split_36 rfl rfl ?_
  refine g_ialdk (v1.toNat) hC (sh_X5_6 h_n) q_4.1 q_4.2 rfl dX5_split_37 ?_
  obtain ⟨q_5, hf⟩ := hf
  refine g_callVV hC (sk := []) [J v3_1, J (M_3 (n + 2) (v1.toNat)), J ((M_3 (n + 3) (v1.toNat)) - v2), J 0, J (M_3 (n + 5) (v1.toNat))] (c_X5_lay l B D K n v3_1 (M_3 (n + 2) (v1.toNat)) ((M_3 (n + 3) (v1.toNat)) - v2) 0 (M_3 (n + 5) (v1.toNat)) h_n h_v3_1 (h_M_3 _ _) q_5 (by unfold inR; omega) (h_M_3 _ _) M_3 h_M_3 _ hf) yv_X5_lay wm_X5_51 okX5.1 (sh_X5 h_n) rfl ⟨Nat.le_of_ble_eq_true rfl, Nat.le_of_ble_eq_true rfl, Nat.le_of_ble_eq_true rfl, Nat.le_of_ble_eq_true rfl⟩ rfl (Nat.le_of_ble_eq_true rfl) dX5_split_38 ?_
  intro M_6 h_M_6 hf
  refine g_aload_n hC 1 dX5_split_41 rfl rfl ?_
  refine g_getr hC okX5 (sh_X5 h_n) 3 (by decide) rfl wf_X5_15 dX5_split_42 ?_
  refine g_iload_n hC 2 dX5_split_45 rfl rfl ?_
  refine g_iload_n hC 0 dX5_split_46 rfl rfl ?_
  refine g_iastk (v1.toNat) hC (sh_X5_3 h_n) q_4.1 q_4.2 rfl dX5_split_47 ?_
  refine g_nmM (fun M_7 e_M_7 => ?_)
  replace hf := hf M_7 e_M_7
  have h_M_7 : MR M_7 := by rw [e_M_7]; exact MR_st h_M_6 h_v3_1
  refine g_aload_n hC 1 dX5_split_48 rfl rfl ?_
  refine g_getr hC okX5 (sh_X5 h_n) 4 (by decide) rfl wf_X5_18 dX5_split_49 ?_
  refine g_iload_n hC 2 dX5_split_52 rfl rfl ?_
  refine g_iload_n hC 3 dX5_split_53 rfl rfl ?_
  refine g_iastk (v1.toNat) hC (sh_X5_4 h_n) q_4.1 q_4.2 rfl dX5_split_54 ?_
  refine g_nmM (fun M_8 e_M_8 => ?_)
  replace hf := hf M_8 e_M_8
  have h_M_8 : MR M_8 := by rw [e_M_8]; exact MR_st h_M_7 i_v2
  exact g_retv hC h_M_8 hf dX5_split_55
set_option maxHeartbeats 4000000 in
set_option maxRecDepth 100000 in
theorem c_X5_mayReverse (l : Launch) (B : Nat) (D : va_G) (K : Nat → ClassId) (n : Nat) (v1 : Int) (h_n : is_X5 n) (i_v1 : inR v1) (M : Mem) (hM : MR M) (Q : Int → Prop) (hf : f_X5_mayReverse n v1 M Q) : CtZ l yX5_mayReverse cX5_mayReverse 2 1 27 B D K [.ref (B + n), J v1] M (fun r M1 => M = M1 ∧ Q r) := by
  refine ct_z (by decide) (Nat.le_of_ble_eq_true rfl) ?_
  intro p e s m args below meth c hC
  have hC : Cx p s m args meth c D K cX5_mayReverse 2 RX5 (some .boolean) := hC
  unfold f_X5_mayReverse at hf
  refine (show G p l e (rmF 1 27) s m args below meth c B D K 2 0 0 (ZZ below args s B D K (fun r M1 => M = M1 ∧ Q r)) M 0 [(0, .ref (B + n)), (1, J v1)] [] from ?_)
  refine g_aload_n hC 0 dX5_mayReverse_0 rfl rfl ?_
  refine g_aload_n hC 0 dX5_mayReverse_1 rfl rfl ?_
  refine g_getr hC okX5 (sh_X5 h_n) 2 (by decide) rfl wf_X5_9 dX5_mayReverse_2 ?_
  refine g_iload_n hC 1 dX5_mayReverse_5 rfl rfl ?_
  obtain ⟨q_1, hf⟩ := hf
  refine g_ialdk (v1.toNat) hC (sh_X5_2 h_n) q_1.1 q_1.2 rfl dX5_mayReverse_6 ?_
  refine g_aload_n hC 0 dX5_mayReverse_7 rfl rfl ?_
  refine g_getr hC okX5 (sh_X5 h_n) 3 (by decide) rfl wf_X5_15 dX5_mayReverse_8 ?_
  refine g_iload_n hC 1 dX5_mayReverse_11 rfl rfl ?_
  refine g_ialdk (v1.toNat) hC (sh_X5_3 h_n) q_1.1 q_1.2 rfl dX5_mayReverse_12 ?_
  refine g_iload_n hC 1 dX5_mayReverse_13 rfl rfl ?_
  refine g_callVZ hC (sk := []) [J (M (n + 1) (v1.toNat)), J (M (n + 2) (v1.toNat)), J v1] (c_X5_leads l B D K n (M (n + 1) (v1.toNat)) (M (n + 2) (v1.toNat)) v1 h_n (hM _ _) (hM _ _) i_v1 M hM _ hf) yv_X5_leads wm_X5_44 okX5.1 (sh_X5 h_n) rfl ⟨Nat.le_of_ble_eq_true rfl, Nat.le_of_ble_eq_true rfl, Nat.le_of_ble_eq_true rfl, Nat.le_of_ble_eq_true rfl⟩ rfl (Nat.le_of_ble_eq_true rfl) dX5_mayReverse_14 ?_
  rintro r_2 M_3 h_r_2 - ⟨rfl, hf⟩
  refine g_if_ne hC 24 (zi_ h_r_2) dX5_mayReverse_17 rfl (fun c_4 => ?_) (fun c_4 => ?_)
  · replace hf := hf.1 c_4
    refine g_iconst hC dX5_mayReverse_24 ?_
    exact g_retz hC (Or.inl rfl) hM ⟨rfl, hf⟩ dX5_mayReverse_25
  · replace hf := hf.2 c_4
    refine g_iconst hC dX5_mayReverse_20 ?_
    refine g_goto hC 25 dX5_mayReverse_21 rfl ?_
    exact g_retz hC (Or.inr rfl) hM ⟨rfl, hf⟩ dX5_mayReverse_25
set_option maxHeartbeats 4000000 in
set_option maxRecDepth 100000 in
theorem c_X5_reverse (l : Launch) (B : Nat) (D : va_G) (K : Nat → ClassId) (n : Nat) (v1 : Int) (h_n : is_X5 n) (i_v1 : inR v1) (M : Mem) (hM : MR M) (Q : Mem → Prop) (hf : f_X5_reverse n v1 M Q) : CtV l yX5_reverse cX5_reverse 3 0 0 B D K [.ref (B + n), J v1] M Q := by
  refine ct_v (by decide) (Nat.le_of_ble_eq_true rfl) ?_
  intro p e s m args below meth c hC
  have hC : Cx p s m args meth c D K cX5_reverse 3 RX5 none := hC
  unfold f_X5_reverse at hf
  refine (show G p l e (rmF 0 0) s m args below meth c B D K 3 0 0 (ZV below args s B D K Q) M 0 [(0, .ref (B + n)), (1, J v1)] [] from ?_)
  refine g_aload_n hC 0 dX5_reverse_0 rfl rfl ?_
  refine g_getr hC okX5 (sh_X5 h_n) 2 (by decide) rfl wf_X5_9 dX5_reverse_1 ?_
  refine g_iload_n hC 1 dX5_reverse_4 rfl rfl ?_
  obtain ⟨q_1, hf⟩ := hf
  refine g_ialdk (v1.toNat) hC (sh_X5_2 h_n) q_1.1 q_1.2 rfl dX5_reverse_5 ?_
  refine g_nm (fun v2_2 e_v2_2 => ?_)
  replace hf := hf v2_2 e_v2_2
  have h_v2_2 : inR v2_2 := by rw [e_v2_2]; exact (hM _ _)
  refine g_istore_n hC [(2, J v2_2), (0, .ref (B + n)), (1, J v1)] dX5_reverse_6 rfl (by decide) rfl ?_
  refine g_aload_n hC 1 dX5_reverse_7 rfl rfl ?_
  refine g_getr hC okX5 (sh_X5 h_n) 2 (by decide) rfl wf_X5_9 dX5_reverse_8 ?_
  refine g_iload_n hC 2 dX5_reverse_11 rfl rfl ?_
  refine g_aload_n hC 1 dX5_reverse_12 rfl rfl ?_
  refine g_getr hC okX5 (sh_X5 h_n) 3 (by decide) rfl wf_X5_15 dX5_reverse_13 ?_
  refine g_iload_n hC 2 dX5_reverse_16 rfl rfl ?_
  refine g_ialdk (v1.toNat) hC (sh_X5_3 h_n) q_1.1 q_1.2 rfl dX5_reverse_17 ?_
  refine g_iastk (v1.toNat) hC (sh_X5_2 h_n) q_1.1 q_1.2 rfl dX5_reverse_18 ?_
  refine g_nmM (fun M_3 e_M_3 => ?_)
  replace hf := hf M_3 e_M_3
  have h_M_3 : MR M_3 := by rw [e_M_3]; exact MR_st hM (hM _ _)
  refine g_aload_n hC 1 dX5_reverse_19 rfl rfl ?_
  refine g_getr hC okX5 (sh_X5 h_n) 3 (by decide) rfl wf_X5_15 dX5_reverse_20 ?_
  refine g_iload_n hC 2 dX5_reverse_23 rfl rfl ?_
  refine g_iload_n hC 0 dX5_reverse_24 rfl rfl ?_
  refine g_iastk (v1.toNat) hC (sh_X5_3 h_n) q_1.1 q_1.2 rfl dX5_reverse_25 ?_
  refine g_nmM (fun M_4 e_M_4 => ?_)
  replace hf := hf M_4 e_M_4
  have h_M_4 : MR M_4 := by rw [e_M_4]; exact MR_st h_M_3 h_v2_2
  exact g_retv hC h_M_4 hf dX5_reverse_26
set_option maxHeartbeats 4000000 in
set_option maxRecDepth 100000 in
theorem c_X5_howManyCalled (l : Launch) (B : Nat) (D : va_G) (K : Nat → ClassId) (n : Nat) (v1 : Int) (h_n : is_X5 n) (i_v1 : inR v1) (M : Mem) (hM : MR M) (Q : Int → Prop) (hf : f_X5_howManyCalled n v1 M Q) : CtI l yX5_howManyCalled cX5_howManyCalled 4 0 0 B D K [.ref (B + n), J v1] M (fun r M1 => M = M1 ∧ Q r) := by
  refine ct_i (by decide) (Nat.le_of_ble_eq_true rfl) ?_
  intro p e s m args below meth c hC
  have hC : Cx p s m args meth c D K cX5_howManyCalled 4 RX5 (some .int) := hC
  unfold f_X5_howManyCalled at hf
  refine (show G p l e (rmF 0 0) s m args below meth c B D K 4 0 0 (ZI below args s B D K (fun r M1 => M = M1 ∧ Q r)) M 0 [(0, .ref (B + n)), (1, J v1)] [] from ?_)
  refine g_iconst hC dX5_howManyCalled_0 ?_
  refine g_istore_n hC [(2, J 0), (0, .ref (B + n)), (1, J v1)] dX5_howManyCalled_1 rfl (by decide) rfl ?_
  refine g_iconst hC dX5_howManyCalled_2 ?_
  refine g_istore_n hC [(3, J 0), (2, J 0), (0, .ref (B + n)), (1, J v1)] dX5_howManyCalled_3 rfl (by decide) rfl ?_
  refine g_sub [(0, .ref (B + n)), (1, J v1), (2, J 0), (3, J 0)] [2, 3, 1, 0] rfl ?_
  refine wl2_elim (fun (v2_1 : Int) (v3_2 : Int) => inR v2_1 → inR v3_2 → G p l e (rmF 0 0) s m args below meth c B D K 4 0 0 (ZI below args s B D K (fun r M1 => M = M1 ∧ Q r)) M 4 [(0, .ref (B + n)), (1, J v1), (2, J v2_1), (3, J v3_2)] []) ?_ 5000 0 0 hf (by unfold inR; omega) (by unfold inR; omega)
  intro rec4 ih4 v2_1 v3_2 hf h_v2_1 h_v3_2
  unfold X5_howManyCalled_b4 at hf
  refine g_iload_n hC 3 dX5_howManyCalled_4 rfl rfl ?_
  refine g_aload_n hC 0 dX5_howManyCalled_5 rfl rfl ?_
  refine g_geti hC okX5 (sh_X5 h_n) 1 (by decide) rfl wf_X5_31 dX5_howManyCalled_6 ?_
  refine g_icmp_ge hC 31 h_v3_2 (hM _ _) dX5_howManyCalled_9 rfl (fun c_11 => ?_) (fun c_11 => ?_)
  · replace hf := hf.1 c_11
    refine g_iload_n hC 2 dX5_howManyCalled_31 rfl rfl ?_
    exact g_reti hC h_v2_1 hM ⟨rfl, hf⟩ dX5_howManyCalled_32
  · replace hf := hf.2 c_11
    refine g_aload_n hC 0 dX5_howManyCalled_12 rfl rfl ?_
    refine g_getr hC okX5 (sh_X5 h_n) 6 (by decide) rfl wf_X5_24 dX5_howManyCalled_13 ?_
    refine g_iload_n hC 3 dX5_howManyCalled_16 rfl rfl ?_
    obtain ⟨q_3, hf⟩ := hf
    refine g_ialdk (v3_2.toNat) hC (sh_X5_6 h_n) q_3.1 q_3.2 rfl dX5_howManyCalled_17 ?_
    refine g_iload_n hC 1 dX5_howManyCalled_18 rfl rfl ?_
    refine g_icmp_ne hC 25 (hM _ _) i_v1 dX5_howManyCalled_19 rfl (fun c_10 => ?_) (fun c_10 => ?_)
    · replace hf := hf.1 c_10
      obtain ⟨q_5, hf⟩ := hf
      obtain ⟨v3_4, e_v3_4⟩ : ∃ z : Int, z = v3_2 + 1 := ⟨_, rfl⟩
      replace hf := hf v3_4 e_v3_4
      have h_v3_4 : inR v3_4 := by rw [e_v3_4]; exact q_5
      refine g_iincv hC 3 e_v3_4 [(3, J v3_4), (0, .ref (B + n)), (1, J v1), (2, J v2_1)] dX5_howManyCalled_25 rfl (by decide) rfl ?_
      refine g_goto hC 4 dX5_howManyCalled_28 rfl ?_
      refine g_sub [(0, .ref (B + n)), (1, J v1), (2, J v2_1), (3, J v3_4)] [1, 2, 3, 0] rfl ?_
      exact ih4 v2_1 v3_4 hf h_v2_1 h_v3_4
    · replace hf := hf.2 c_10
      obtain ⟨q_7, hf⟩ := hf
      obtain ⟨v2_6, e_v2_6⟩ : ∃ z : Int, z = v2_1 + 1 := ⟨_, rfl⟩
      replace hf := hf v2_6 e_v2_6
      have h_v2_6 : inR v2_6 := by rw [e_v2_6]; exact q_7
      refine g_iincv hC 2 e_v2_6 [(2, J v2_6), (0, .ref (B + n)), (1, J v1), (3, J v3_2)] dX5_howManyCalled_22 rfl (by decide) rfl ?_
      obtain ⟨q_9, hf⟩ := hf
      obtain ⟨v3_8, e_v3_8⟩ : ∃ z : Int, z = v3_2 + 1 := ⟨_, rfl⟩
      replace hf := hf v3_8 e_v3_8
      have h_v3_8 : inR v3_8 := by rw [e_v3_8]; exact q_9
      refine g_iincv hC 3 e_v3_8 [(3, J v3_8), (2, J v2_6), (0, .ref (B + n)), (1, J v1)] dX5_howManyCalled_25 rfl (by decide) rfl ?_
      refine g_goto hC 4 dX5_howManyCalled_28 rfl ?_
      refine g_sub [(0, .ref (B + n)), (1, J v1), (2, J v2_6), (3, J v3_8)] [2, 3, 1, 0] rfl ?_
      exact ih4 v2_6 v3_8 hf h_v2_6 h_v3_8
set_option maxHeartbeats 4000000 in
set_option maxRecDepth 100000 in
theorem c_X5_lengthCalled (l : Launch) (B : Nat) (D : va_G) (K : Nat → ClassId) (n : Nat) (v1 : Int) (h_n : is_X5 n) (i_v1 : inR v1) (M : Mem) (hM : MR M) (Q : Int → Prop) (hf : f_X5_lengthCalled n v1 M Q) : CtI l yX5_lengthCalled cX5_lengthCalled 4 0 0 B D K [.ref (B + n), J v1] M (fun r M1 => M = M1 ∧ Q r) := by
  refine ct_i (by decide) (Nat.le_of_ble_eq_true rfl) ?_
  intro p e s m args below meth c hC
  have hC : Cx p s m args meth c D K cX5_lengthCalled 4 RX5 (some .int) := hC
  unfold f_X5_lengthCalled at hf
  refine (show G p l e (rmF 0 0) s m args below meth c B D K 4 0 0 (ZI below args s B D K (fun r M1 => M = M1 ∧ Q r)) M 0 [(0, .ref (B + n)), (1, J v1)] [] from ?_)
  refine g_iconst hC dX5_lengthCalled_0 ?_
  refine g_istore_n hC [(2, J 0), (0, .ref (B + n)), (1, J v1)] dX5_lengthCalled_1 rfl (by decide) rfl ?_
  refine g_iconst hC dX5_lengthCalled_2 ?_
  refine g_istore_n hC [(3, J 0), (2, J 0), (0, .ref (B + n)), (1, J v1)] dX5_lengthCalled_3 rfl (by decide) rfl ?_
  refine g_sub [(0, .ref (B + n)), (1, J v1), (2, J 0), (3, J 0)] [2, 3, 1, 0] rfl ?_
  refine wl2_elim (fun (v2_1 : Int) (v3_2 : Int) => inR v2_1 → inR v3_2 → G p l e (rmF 0 0) s m args below meth c B D K 4 0 0 (ZI below args s B D K (fun r M1 => M = M1 ∧ Q r)) M 4 [(0, .ref (B + n)), (1, J v1), (2, J v2_1), (3, J v3_2)] []) ?_ 5000 0 0 hf (by unfold inR; omega) (by unfold inR; omega)
  intro rec4 ih4 v2_1 v3_2 hf h_v2_1 h_v3_2
  unfold X5_lengthCalled_b4 at hf
  refine g_iload_n hC 3 dX5_lengthCalled_4 rfl rfl ?_
  refine g_aload_n hC 0 dX5_lengthCalled_5 rfl rfl ?_
  refine g_geti hC okX5 (sh_X5 h_n) 1 (by decide) rfl wf_X5_31 dX5_lengthCalled_6 ?_
  refine g_icmp_ge hC 37 h_v3_2 (hM _ _) dX5_lengthCalled_9 rfl (fun c_11 => ?_) (fun c_11 => ?_)
  · replace hf := hf.1 c_11
    refine g_iload_n hC 2 dX5_lengthCalled_37 rfl rfl ?_
    exact g_reti hC h_v2_1 hM ⟨rfl, hf⟩ dX5_lengthCalled_38
  · replace hf := hf.2 c_11
    refine g_aload_n hC 0 dX5_lengthCalled_12 rfl rfl ?_
    refine g_getr hC okX5 (sh_X5 h_n) 6 (by decide) rfl wf_X5_24 dX5_lengthCalled_13 ?_
    refine g_iload_n hC 3 dX5_lengthCalled_16 rfl rfl ?_
    obtain ⟨q_3, hf⟩ := hf
    refine g_ialdk (v3_2.toNat) hC (sh_X5_6 h_n) q_3.1 q_3.2 rfl dX5_lengthCalled_17 ?_
    refine g_iload_n hC 1 dX5_lengthCalled_18 rfl rfl ?_
    refine g_icmp_ne hC 31 (hM _ _) i_v1 dX5_lengthCalled_19 rfl (fun c_10 => ?_) (fun c_10 => ?_)
    · replace hf := hf.1 c_10
      obtain ⟨q_5, hf⟩ := hf
      obtain ⟨v3_4, e_v3_4⟩ : ∃ z : Int, z = v3_2 + 1 := ⟨_, rfl⟩
      replace hf := hf v3_4 e_v3_4
      have h_v3_4 : inR v3_4 := by rw [e_v3_4]; exact q_5
      refine g_iincv hC 3 e_v3_4 [(3, J v3_4), (0, .ref (B + n)), (1, J v1), (2, J v2_1)] dX5_lengthCalled_31 rfl (by decide) rfl ?_
      refine g_goto hC 4 dX5_lengthCalled_34 rfl ?_
      refine g_sub [(0, .ref (B + n)), (1, J v1), (2, J v2_1), (3, J v3_4)] [1, 2, 3, 0] rfl ?_
      exact ih4 v2_1 v3_4 hf h_v2_1 h_v3_4
    · replace hf := hf.2 c_10
      refine g_iload_n hC 2 dX5_lengthCalled_22 rfl rfl ?_
      refine g_aload_n hC 0 dX5_lengthCalled_23 rfl rfl ?_
      refine g_getr hC okX5 (sh_X5 h_n) 4 (by decide) rfl wf_X5_18 dX5_lengthCalled_24 ?_
      refine g_iload_n hC 3 dX5_lengthCalled_27 rfl rfl ?_
      refine g_ialdk (v3_2.toNat) hC (sh_X5_4 h_n) q_3.1 q_3.2 rfl dX5_lengthCalled_28 ?_
      refine g_iadd hC dX5_lengthCalled_29 ?_
      obtain ⟨q_6, hf⟩ := hf
      refine g_nm (fun v2_7 e_v2_7 => ?_)
      replace hf := hf v2_7 e_v2_7
      have h_v2_7 : inR v2_7 := by rw [e_v2_7]; exact q_6
      refine g_istore_n hC [(2, J v2_7), (0, .ref (B + n)), (1, J v1), (3, J v3_2)] dX5_lengthCalled_30 rfl (by decide) rfl ?_
      obtain ⟨q_9, hf⟩ := hf
      obtain ⟨v3_8, e_v3_8⟩ : ∃ z : Int, z = v3_2 + 1 := ⟨_, rfl⟩
      replace hf := hf v3_8 e_v3_8
      have h_v3_8 : inR v3_8 := by rw [e_v3_8]; exact q_9
      refine g_iincv hC 3 e_v3_8 [(3, J v3_8), (2, J v2_7), (0, .ref (B + n)), (1, J v1)] dX5_lengthCalled_31 rfl (by decide) rfl ?_
      refine g_goto hC 4 dX5_lengthCalled_34 rfl ?_
      refine g_sub [(0, .ref (B + n)), (1, J v1), (2, J v2_7), (3, J v3_8)] [2, 3, 1, 0] rfl ?_
      exact ih4 v2_7 v3_8 hf h_v2_7 h_v3_8
set_option maxHeartbeats 4000000 in
set_option maxRecDepth 100000 in
theorem c_X5_firstCalled (l : Launch) (B : Nat) (D : va_G) (K : Nat → ClassId) (n : Nat) (v1 : Int) (h_n : is_X5 n) (i_v1 : inR v1) (M : Mem) (hM : MR M) (Q : Int → Prop) (hf : f_X5_firstCalled n v1 M Q) : CtI l yX5_firstCalled cX5_firstCalled 3 0 0 B D K [.ref (B + n), J v1] M (fun r M1 => M = M1 ∧ Q r) := by
  refine ct_i (by decide) (Nat.le_of_ble_eq_true rfl) ?_
  intro p e s m args below meth c hC
  have hC : Cx p s m args meth c D K cX5_firstCalled 3 RX5 (some .int) := hC
  unfold f_X5_firstCalled at hf
  refine (show G p l e (rmF 0 0) s m args below meth c B D K 3 0 0 (ZI below args s B D K (fun r M1 => M = M1 ∧ Q r)) M 0 [(0, .ref (B + n)), (1, J v1)] [] from ?_)
  refine g_iconst hC dX5_firstCalled_0 ?_
  refine g_istore_n hC [(2, J 0), (0, .ref (B + n)), (1, J v1)] dX5_firstCalled_1 rfl (by decide) rfl ?_
  refine g_sub [(0, .ref (B + n)), (1, J v1), (2, J 0)] [1, 2, 0] rfl ?_
  refine wl1_elim (fun (v2_1 : Int) => inR v2_1 → G p l e (rmF 0 0) s m args below meth c B D K 3 0 0 (ZI below args s B D K (fun r M1 => M = M1 ∧ Q r)) M 2 [(0, .ref (B + n)), (1, J v1), (2, J v2_1)] []) ?_ 5000 0 hf (by unfold inR; omega)
  intro rec2 ih2 v2_1 hf h_v2_1
  unfold X5_firstCalled_b2 at hf
  refine g_iload_n hC 2 dX5_firstCalled_2 rfl rfl ?_
  refine g_aload_n hC 0 dX5_firstCalled_3 rfl rfl ?_
  refine g_geti hC okX5 (sh_X5 h_n) 1 (by decide) rfl wf_X5_31 dX5_firstCalled_4 ?_
  refine g_icmp_ge hC 28 h_v2_1 (hM _ _) dX5_firstCalled_7 rfl (fun c_6 => ?_) (fun c_6 => ?_)
  · replace hf := hf.1 c_6
    refine g_iconst hC dX5_firstCalled_28 ?_
    exact g_reti hC (by unfold inR; omega) hM ⟨rfl, hf⟩ dX5_firstCalled_29
  · replace hf := hf.2 c_6
    refine g_aload_n hC 0 dX5_firstCalled_10 rfl rfl ?_
    refine g_getr hC okX5 (sh_X5 h_n) 6 (by decide) rfl wf_X5_24 dX5_firstCalled_11 ?_
    refine g_iload_n hC 2 dX5_firstCalled_14 rfl rfl ?_
    obtain ⟨q_2, hf⟩ := hf
    refine g_ialdk (v2_1.toNat) hC (sh_X5_6 h_n) q_2.1 q_2.2 rfl dX5_firstCalled_15 ?_
    refine g_iload_n hC 1 dX5_firstCalled_16 rfl rfl ?_
    refine g_icmp_ne hC 22 (hM _ _) i_v1 dX5_firstCalled_17 rfl (fun c_5 => ?_) (fun c_5 => ?_)
    · replace hf := hf.1 c_5
      obtain ⟨q_4, hf⟩ := hf
      obtain ⟨v2_3, e_v2_3⟩ : ∃ z : Int, z = v2_1 + 1 := ⟨_, rfl⟩
      replace hf := hf v2_3 e_v2_3
      have h_v2_3 : inR v2_3 := by rw [e_v2_3]; exact q_4
      refine g_iincv hC 2 e_v2_3 [(2, J v2_3), (0, .ref (B + n)), (1, J v1)] dX5_firstCalled_22 rfl (by decide) rfl ?_
      refine g_goto hC 2 dX5_firstCalled_25 rfl ?_
      refine g_sub [(0, .ref (B + n)), (1, J v1), (2, J v2_3)] [1, 2, 0] rfl ?_
      exact ih2 v2_3 hf h_v2_3
    · replace hf := hf.2 c_5
      refine g_iload_n hC 2 dX5_firstCalled_20 rfl rfl ?_
      exact g_reti hC h_v2_1 hM ⟨rfl, hf⟩ dX5_firstCalled_21
set_option maxHeartbeats 4000000 in
set_option maxRecDepth 100000 in
theorem c_X5_isTorn (l : Launch) (B : Nat) (D : va_G) (K : Nat → ClassId) (n : Nat) (v1 : Int) (h_n : is_X5 n) (i_v1 : inR v1) (M : Mem) (hM : MR M) (Q : Int → Prop) (hf : f_X5_isTorn n v1 M Q) : CtZ l yX5_isTorn cX5_isTorn 6 1 20 B D K [.ref (B + n), J v1] M (fun r M1 => M = M1 ∧ Q r) := by
  refine ct_z (by decide) (Nat.le_of_ble_eq_true rfl) ?_
  intro p e s m args below meth c hC
  have hC : Cx p s m args meth c D K cX5_isTorn 6 RX5 (some .boolean) := hC
  unfold f_X5_isTorn at hf
  refine (show G p l e (rmF 1 20) s m args below meth c B D K 6 0 0 (ZZ below args s B D K (fun r M1 => M = M1 ∧ Q r)) M 0 [(0, .ref (B + n)), (1, J v1)] [] from ?_)
  refine g_iconst hC dX5_isTorn_0 ?_
  refine g_istore_n hC [(2, J 0), (0, .ref (B + n)), (1, J v1)] dX5_isTorn_1 rfl (by decide) rfl ?_
  refine g_iconst hC dX5_isTorn_2 ?_
  refine g_istore_n hC [(3, J 0), (2, J 0), (0, .ref (B + n)), (1, J v1)] dX5_isTorn_3 rfl (by decide) rfl ?_
  refine g_iconst hC dX5_isTorn_4 ?_
  refine g_istore hC [(4, J 0), (3, J 0), (2, J 0), (0, .ref (B + n)), (1, J v1)] dX5_isTorn_5 (by decide) rfl ?_
  refine g_iconst hC dX5_isTorn_7 ?_
  refine g_istore hC [(5, J 0), (4, J 0), (3, J 0), (2, J 0), (0, .ref (B + n)), (1, J v1)] dX5_isTorn_8 (by decide) rfl ?_
  refine jn_elim (fun (k : Int → Int → Int → Prop) => ∀ (v2_1 : Int) (v3_2 : Int) (v4_3 : Int), k v2_1 v3_2 v4_3 → (inR v2_1) → (inR v3_2) → (inR v4_3) → G p l e (rmF 1 20) s m args below meth c B D K 6 0 0 (ZZ below args s B D K (fun r M1 => M = M1 ∧ Q r)) M 63 [(2, J v2_1), (3, J v3_2), (4, J v4_3)] []) hf ?_ ?_
  · intro v2_1 v3_2 v4_3 hf h_v2_1 h_v3_2 h_v4_3
    refine g_iload hC 2 dX5_isTorn_63 rfl ?_
    refine g_if_ne hC 70 h_v4_3 dX5_isTorn_65 rfl (fun c_13 => ?_) (fun c_13 => ?_)
    · replace hf := hf.1 c_13
      refine g_iload_n hC 0 dX5_isTorn_70 rfl rfl ?_
      refine g_callSI hC (sk := []) [J v2_1] (c_J6_bitCount_0f7a4 l B D K v2_1 h_v2_1 M hM _ hf) yv_J6_bitCount_0f7a4 wm_X5_55 rfl ⟨Nat.le_of_ble_eq_true rfl, Nat.le_of_ble_eq_true rfl, Nat.le_of_ble_eq_true rfl, Nat.le_of_ble_eq_true rfl⟩ rfl (Nat.le_of_ble_eq_true rfl) dX5_isTorn_71 ?_
      rintro r_4 M_5 h_r_4 - ⟨rfl, hf⟩
      refine g_iload hC 2 dX5_isTorn_74 rfl ?_
      refine g_icmp_lt hC 100 h_r_4 h_v4_3 dX5_isTorn_76 rfl (fun c_12 => ?_) (fun c_12 => ?_)
      · replace hf := hf.1 c_12
        refine g_iconst hC dX5_isTorn_100 ?_
        refine g_goto hC 105 dX5_isTorn_101 rfl ?_
        exact g_retz hC (Or.inr rfl) hM ⟨rfl, hf⟩ dX5_isTorn_105
      · replace hf := hf.2 c_12
        refine g_iload_n hC 1 dX5_isTorn_79 rfl rfl ?_
        refine g_callSI hC (sk := []) [J v3_2] (c_J6_bitCount_0f7a4 l B D K v3_2 h_v3_2 M hM _ hf) yv_J6_bitCount_0f7a4 wm_X5_55 rfl ⟨Nat.le_of_ble_eq_true rfl, Nat.le_of_ble_eq_true rfl, Nat.le_of_ble_eq_true rfl, Nat.le_of_ble_eq_true rfl⟩ rfl (Nat.le_of_ble_eq_true rfl) dX5_isTorn_80 ?_
        rintro r_6 M_7 h_r_6 - ⟨rfl, hf⟩
        refine g_iload hC 2 dX5_isTorn_83 rfl ?_
        refine g_icmp_lt hC 100 h_r_6 h_v4_3 dX5_isTorn_85 rfl (fun c_11 => ?_) (fun c_11 => ?_)
        · replace hf := hf.1 c_11
          refine g_iconst hC dX5_isTorn_100 ?_
          refine g_goto hC 105 dX5_isTorn_101 rfl ?_
          exact g_retz hC (Or.inr rfl) hM ⟨rfl, hf⟩ dX5_isTorn_105
        · replace hf := hf.2 c_11
          refine g_iload_n hC 0 dX5_isTorn_88 rfl rfl ?_
          refine g_iload_n hC 1 dX5_isTorn_89 rfl rfl ?_
          refine g_iconst hC dX5_isTorn_90 ?_
          refine g_ixor hC dX5_isTorn_91 ?_
          refine g_iand hC dX5_isTorn_92 ?_
          refine g_callSI hC (sk := []) [J (bAnd v2_1 (bXor v3_2 (-1)))] (c_J6_bitCount_0f7a4 l B D K (bAnd v2_1 (bXor v3_2 (-1))) (bAnd_in _ _) M hM _ hf) yv_J6_bitCount_0f7a4 wm_X5_55 rfl ⟨Nat.le_of_ble_eq_true rfl, Nat.le_of_ble_eq_true rfl, Nat.le_of_ble_eq_true rfl, Nat.le_of_ble_eq_true rfl⟩ rfl (Nat.le_of_ble_eq_true rfl) dX5_isTorn_93 ?_
          rintro r_8 M_9 h_r_8 - ⟨rfl, hf⟩
          refine g_iconst hC dX5_isTorn_96 ?_
          refine g_icmp_eq hC 104 h_r_8 (by unfold inR; omega) dX5_isTorn_97 rfl (fun c_10 => ?_) (fun c_10 => ?_)
          · replace hf := hf.1 c_10
            refine g_iconst hC dX5_isTorn_104 ?_
            exact g_retz hC (Or.inl rfl) hM ⟨rfl, hf⟩ dX5_isTorn_105
          · replace hf := hf.2 c_10
            refine g_iconst hC dX5_isTorn_100 ?_
            refine g_goto hC 105 dX5_isTorn_101 rfl ?_
            exact g_retz hC (Or.inr rfl) hM ⟨rfl, hf⟩ dX5_isTorn_105
    · replace hf := hf.2 c_13
      refine g_iconst hC dX5_isTorn_68 ?_
      exact g_retz hC (Or.inl rfl) hM ⟨rfl, hf⟩ dX5_isTorn_69
  · intro J63 hJ63 hf
    refine g_sub [(0, .ref (B + n)), (1, J v1), (2, J 0), (3, J 0), (4, J 0), (5, J 0)] [4, 5, 3, 2, 1, 0] rfl ?_
    refine wl4_elim (fun (v2_14 : Int) (v3_15 : Int) (v4_16 : Int) (v5_17 : Int) => inR v2_14 → inR v3_15 → inR v4_16 → inR v5_17 → G p l e (rmF 1 20) s m args below meth c B D K 6 0 0 (ZZ below args s B D K (fun r M1 => M = M1 ∧ Q r)) M 10 [(0, .ref (B + n)), (1, J v1), (2, J v2_14), (3, J v3_15), (4, J v4_16), (5, J v5_17)] []) ?_ 5000 0 0 0 0 hf (by unfold inR; omega) (by unfold inR; omega) (by unfold inR; omega) (by unfold inR; omega)
    intro rec10 ih10 v2_14 v3_15 v4_16 v5_17 hf h_v2_14 h_v3_15 h_v4_16 h_v5_17
    unfold X5_isTorn_b10 at hf
    refine g_iload hC 5 dX5_isTorn_10 rfl ?_
    refine g_aload_n hC 0 dX5_isTorn_12 rfl rfl ?_
    refine g_geti hC okX5 (sh_X5 h_n) 1 (by decide) rfl wf_X5_31 dX5_isTorn_13 ?_
    refine g_icmp_ge hC 63 h_v5_17 (hM _ _) dX5_isTorn_16 rfl (fun c_28 => ?_) (fun c_28 => ?_)
    · replace hf := hf.1 c_28
      refine g_sub [(2, J v2_14), (3, J v3_15), (4, J v4_16)] [2, 3, 4] rfl ?_
      exact hJ63 v2_14 v3_15 v4_16 hf h_v2_14 h_v3_15 h_v4_16
    · replace hf := hf.2 c_28
      refine g_aload_n hC 0 dX5_isTorn_19 rfl rfl ?_
      refine g_getr hC okX5 (sh_X5 h_n) 6 (by decide) rfl wf_X5_24 dX5_isTorn_20 ?_
      refine g_iload hC 5 dX5_isTorn_23 rfl ?_
      obtain ⟨q_18, hf⟩ := hf
      refine g_ialdk (v5_17.toNat) hC (sh_X5_6 h_n) q_18.1 q_18.2 rfl dX5_isTorn_25 ?_
      refine g_iload_n hC 1 dX5_isTorn_26 rfl rfl ?_
      refine g_icmp_ne hC 57 (hM _ _) i_v1 dX5_isTorn_27 rfl (fun c_27 => ?_) (fun c_27 => ?_)
      · replace hf := hf.1 c_27
        obtain ⟨q_20, hf⟩ := hf
        obtain ⟨v5_19, e_v5_19⟩ : ∃ z : Int, z = v5_17 + 1 := ⟨_, rfl⟩
        replace hf := hf v5_19 e_v5_19
        have h_v5_19 : inR v5_19 := by rw [e_v5_19]; exact q_20
        refine g_iincv hC 5 e_v5_19 [(5, J v5_19), (0, .ref (B + n)), (1, J v1), (2, J v2_14), (3, J v3_15), (4, J v4_16)] dX5_isTorn_57 rfl (by decide) rfl ?_
        refine g_goto hC 10 dX5_isTorn_60 rfl ?_
        refine g_sub [(0, .ref (B + n)), (1, J v1), (2, J v2_14), (3, J v3_15), (4, J v4_16), (5, J v5_19)] [1, 2, 3, 4, 5, 0] rfl ?_
        exact ih10 v2_14 v3_15 v4_16 v5_19 hf h_v2_14 h_v3_15 h_v4_16 h_v5_19
      · replace hf := hf.2 c_27
        refine g_iload_n hC 2 dX5_isTorn_30 rfl rfl ?_
        refine g_iconst hC dX5_isTorn_31 ?_
        refine g_aload_n hC 0 dX5_isTorn_32 rfl rfl ?_
        refine g_getr hC okX5 (sh_X5 h_n) 2 (by decide) rfl wf_X5_9 dX5_isTorn_33 ?_
        refine g_iload hC 5 dX5_isTorn_36 rfl ?_
        refine g_ialdk (v5_17.toNat) hC (sh_X5_2 h_n) q_18.1 q_18.2 rfl dX5_isTorn_38 ?_
        refine g_ishl hC dX5_isTorn_39 ?_
        refine g_ior hC dX5_isTorn_40 ?_
        refine g_nm (fun v2_21 e_v2_21 => ?_)
        replace hf := hf v2_21 e_v2_21
        have h_v2_21 : inR v2_21 := by rw [e_v2_21]; exact (bOr_in _ _)
        refine g_istore_n hC [(2, J v2_21), (0, .ref (B + n)), (1, J v1), (3, J v3_15), (4, J v4_16), (5, J v5_17)] dX5_isTorn_41 rfl (by decide) rfl ?_
        refine g_iload_n hC 3 dX5_isTorn_42 rfl rfl ?_
        refine g_iconst hC dX5_isTorn_43 ?_
        refine g_aload_n hC 1 dX5_isTorn_44 rfl rfl ?_
        refine g_getr hC okX5 (sh_X5 h_n) 3 (by decide) rfl wf_X5_15 dX5_isTorn_45 ?_
        refine g_iload hC 5 dX5_isTorn_48 rfl ?_
        refine g_ialdk (v5_17.toNat) hC (sh_X5_3 h_n) q_18.1 q_18.2 rfl dX5_isTorn_50 ?_
        refine g_ishl hC dX5_isTorn_51 ?_
        refine g_ior hC dX5_isTorn_52 ?_
        refine g_nm (fun v3_22 e_v3_22 => ?_)
        replace hf := hf v3_22 e_v3_22
        have h_v3_22 : inR v3_22 := by rw [e_v3_22]; exact (bOr_in _ _)
        refine g_istore_n hC [(3, J v3_22), (2, J v2_21), (0, .ref (B + n)), (1, J v1), (4, J v4_16), (5, J v5_17)] dX5_isTorn_53 rfl (by decide) rfl ?_
        obtain ⟨q_24, hf⟩ := hf
        obtain ⟨v4_23, e_v4_23⟩ : ∃ z : Int, z = v4_16 + 1 := ⟨_, rfl⟩
        replace hf := hf v4_23 e_v4_23
        have h_v4_23 : inR v4_23 := by rw [e_v4_23]; exact q_24
        refine g_iincv hC 4 e_v4_23 [(4, J v4_23), (3, J v3_22), (2, J v2_21), (0, .ref (B + n)), (1, J v1), (5, J v5_17)] dX5_isTorn_54 rfl (by decide) rfl ?_
        obtain ⟨q_26, hf⟩ := hf
        obtain ⟨v5_25, e_v5_25⟩ : ∃ z : Int, z = v5_17 + 1 := ⟨_, rfl⟩
        replace hf := hf v5_25 e_v5_25
        have h_v5_25 : inR v5_25 := by rw [e_v5_25]; exact q_26
        refine g_iincv hC 5 e_v5_25 [(5, J v5_25), (4, J v4_23), (3, J v3_22), (2, J v2_21), (0, .ref (B + n)), (1, J v1)] dX5_isTorn_57 rfl (by decide) rfl ?_
        refine g_goto hC 10 dX5_isTorn_60 rfl ?_
        refine g_sub [(0, .ref (B + n)), (1, J v1), (2, J v2_21), (3, J v3_22), (4, J v4_23), (5, J v5_25)] [4, 5, 3, 2, 1, 0] rfl ?_
        exact ih10 v2_21 v3_22 v4_23 v5_25 hf h_v2_21 h_v3_22 h_v4_23 h_v5_25
set_option maxHeartbeats 4000000 in
set_option maxRecDepth 100000 in
theorem c_X6_skipBlanks (l : Launch) (B : Nat) (D : va_G) (K : Nat → ClassId)   (M : Mem) (hM : MR M) (Q : Mem → Prop) (hf : f_X6_skipBlanks  M Q) : CtV l yX6_skipBlanks cX6_skipBlanks 1 1 21 B D K [.ref (B + 3)] M Q := by
  refine ct_v (by decide) (Nat.le_of_ble_eq_true rfl) ?_
  intro p e s m args below meth c hC
  have hC : Cx p s m args meth c D K cX6_skipBlanks 1 RX6 none := hC
  unfold f_X6_skipBlanks at hf
  refine (show G p l e (rmF 1 21) s m args below meth c B D K 1 0 0 (ZV below args s B D K Q) M 0 [(0, .ref (B + 3))] [] from ?_)
  refine g_sub [(0, .ref (B + 3))] [0] rfl ?_
  refine wl1_elim (fun (M_1 : Mem) => MR M_1 → G p l e (rmF 1 21) s m args below meth c B D K 1 0 0 (ZV below args s B D K Q) M_1 0 [(0, .ref (B + 3))] []) ?_ 5000 M hf hM
  intro rec0 ih0 M_1 hf h_M_1
  unfold X6_skipBlanks_b0 at hf
  refine g_aload_n hC 0 dX6_skipBlanks_0 rfl rfl ?_
  refine g_geti hC okX6 sc3 7 (by decide) rfl wf_X6_33 dX6_skipBlanks_1 ?_
  refine g_aload_n hC 0 dX6_skipBlanks_4 rfl rfl ?_
  refine g_getr hC okX6 sc3 6 (by decide) rfl wf_X6_29 dX6_skipBlanks_5 ?_
  refine g_geti hC okX10 sc1 1 (by decide) rfl wf_X6_55 dX6_skipBlanks_8 ?_
  refine g_icmp_ge hC 59 (h_M_1 _ _) (h_M_1 _ _) dX6_skipBlanks_11 rfl (fun c_12 => ?_) (fun c_12 => ?_)
  · replace hf := hf.1 c_12
    exact g_retv hC h_M_1 hf dX6_skipBlanks_59
  · replace hf := hf.2 c_12
    refine g_aload_n hC 0 dX6_skipBlanks_14 rfl rfl ?_
    refine g_getr hC okX6 sc3 6 (by decide) rfl wf_X6_29 dX6_skipBlanks_15 ?_
    refine g_aload_n hC 0 dX6_skipBlanks_18 rfl rfl ?_
    refine g_geti hC okX6 sc3 7 (by decide) rfl wf_X6_33 dX6_skipBlanks_19 ?_
    refine g_callVI hC (sk := []) [J (M_1 3 7)] (c_X10_at l B D K (M_1 3 7) (h_M_1 _ _) M_1 h_M_1 _ hf) yv_X10_at wm_X6_124 okX10.1 sc1 rfl ⟨Nat.le_of_ble_eq_true rfl, Nat.le_of_ble_eq_true rfl, Nat.le_of_ble_eq_true rfl, Nat.le_of_ble_eq_true rfl⟩ rfl (Nat.le_of_ble_eq_true rfl) dX6_skipBlanks_22 ?_
    rintro r_2 M_3 h_r_2 - ⟨rfl, hf⟩
    refine g_bipush hC dX6_skipBlanks_25 (by decide) ?_
    refine g_icmp_eq hC 46 h_r_2 (by unfold inR; omega) dX6_skipBlanks_27 rfl (fun c_11 => ?_) (fun c_11 => ?_)
    · replace hf := hf.1 c_11
      refine g_aload_n hC 0 dX6_skipBlanks_46 rfl rfl ?_
      refine g_dup hC dX6_skipBlanks_47 rfl ?_
      refine g_geti hC okX6 sc3 7 (by decide) rfl wf_X6_33 dX6_skipBlanks_48 ?_
      refine g_iconst hC dX6_skipBlanks_51 ?_
      refine g_iadd hC dX6_skipBlanks_52 ?_
      obtain ⟨q_4, hf⟩ := hf
      refine g_puti hC okX6 tnX6 sc3 7 (by decide) rfl rfl (by decide) wf_X6_33 dX6_skipBlanks_53 ?_
      refine g_nmM (fun M_5 e_M_5 => ?_)
      replace hf := hf M_5 e_M_5
      have h_M_5 : MR M_5 := by rw [e_M_5]; exact MR_st h_M_1 q_4
      refine g_goto hC 0 dX6_skipBlanks_56 rfl ?_
      refine g_sub [(0, .ref (B + 3))] [0] rfl ?_
      exact ih0 M_5 hf h_M_5
    · replace hf := hf.2 c_11
      refine g_aload_n hC 0 dX6_skipBlanks_30 rfl rfl ?_
      refine g_getr hC okX6 sc3 6 (by decide) rfl wf_X6_29 dX6_skipBlanks_31 ?_
      refine g_aload_n hC 0 dX6_skipBlanks_34 rfl rfl ?_
      refine g_geti hC okX6 sc3 7 (by decide) rfl wf_X6_33 dX6_skipBlanks_35 ?_
      refine g_callVI hC (sk := []) [J (M_1 3 7)] (c_X10_at l B D K (M_1 3 7) (h_M_1 _ _) M_1 h_M_1 _ hf) yv_X10_at wm_X6_124 okX10.1 sc1 rfl ⟨Nat.le_of_ble_eq_true rfl, Nat.le_of_ble_eq_true rfl, Nat.le_of_ble_eq_true rfl, Nat.le_of_ble_eq_true rfl⟩ rfl (Nat.le_of_ble_eq_true rfl) dX6_skipBlanks_38 ?_
      rintro r_6 M_7 h_r_6 - ⟨rfl, hf⟩
      refine g_bipush hC dX6_skipBlanks_41 (by decide) ?_
      refine g_icmp_ne hC 59 h_r_6 (by unfold inR; omega) dX6_skipBlanks_43 rfl (fun c_10 => ?_) (fun c_10 => ?_)
      · replace hf := hf.1 c_10
        exact g_retv hC h_M_1 hf dX6_skipBlanks_59
      · replace hf := hf.2 c_10
        refine g_aload_n hC 0 dX6_skipBlanks_46 rfl rfl ?_
        refine g_dup hC dX6_skipBlanks_47 rfl ?_
        refine g_geti hC okX6 sc3 7 (by decide) rfl wf_X6_33 dX6_skipBlanks_48 ?_
        refine g_iconst hC dX6_skipBlanks_51 ?_
        refine g_iadd hC dX6_skipBlanks_52 ?_
        obtain ⟨q_8, hf⟩ := hf
        refine g_puti hC okX6 tnX6 sc3 7 (by decide) rfl rfl (by decide) wf_X6_33 dX6_skipBlanks_53 ?_
        refine g_nmM (fun M_9 e_M_9 => ?_)
        replace hf := hf M_9 e_M_9
        have h_M_9 : MR M_9 := by rw [e_M_9]; exact MR_st h_M_1 q_8
        refine g_goto hC 0 dX6_skipBlanks_56 rfl ?_
        refine g_sub [(0, .ref (B + 3))] [0] rfl ?_
        exact ih0 M_9 hf h_M_9
set_option maxHeartbeats 4000000 in
set_option maxRecDepth 100000 in
theorem c_X6_isLetter (l : Launch) (B : Nat) (D : va_G) (K : Nat → ClassId) (v0 : Int) (i_v0 : inR v0) (M : Mem) (hM : MR M) (Q : Int → Prop) (hf : f_X6_isLetter v0 M Q) : CtZ l yX6_isLetter cX6_isLetter 1 0 0 B D K [J v0] M (fun r M1 => M = M1 ∧ Q r) := by
  refine ct_z (by decide) (Nat.le_of_ble_eq_true rfl) ?_
  intro p e s m args below meth c hC
  have hC : Cx p s m args meth c D K cX6_isLetter 1 RX6 (some .boolean) := hC
  unfold f_X6_isLetter at hf
  refine (show G p l e (rmF 0 0) s m args below meth c B D K 1 0 0 (ZZ below args s B D K (fun r M1 => M = M1 ∧ Q r)) M 0 [(0, J v0)] [] from ?_)
  refine g_iload_n hC 0 dX6_isLetter_0 rfl rfl ?_
  refine g_bipush hC dX6_isLetter_1 (by decide) ?_
  refine g_icmp_lt hC 16 i_v0 (by unfold inR; omega) dX6_isLetter_3 rfl (fun c_2 => ?_) (fun c_2 => ?_)
  · replace hf := hf.1 c_2
    refine g_iconst hC dX6_isLetter_16 ?_
    exact g_retz hC (Or.inl rfl) hM ⟨rfl, hf⟩ dX6_isLetter_17
  · replace hf := hf.2 c_2
    refine g_iload_n hC 0 dX6_isLetter_6 rfl rfl ?_
    refine g_bipush hC dX6_isLetter_7 (by decide) ?_
    refine g_icmp_gt hC 16 i_v0 (by unfold inR; omega) dX6_isLetter_9 rfl (fun c_1 => ?_) (fun c_1 => ?_)
    · replace hf := hf.1 c_1
      refine g_iconst hC dX6_isLetter_16 ?_
      exact g_retz hC (Or.inl rfl) hM ⟨rfl, hf⟩ dX6_isLetter_17
    · replace hf := hf.2 c_1
      refine g_iconst hC dX6_isLetter_12 ?_
      refine g_goto hC 17 dX6_isLetter_13 rfl ?_
      exact g_retz hC (Or.inr rfl) hM ⟨rfl, hf⟩ dX6_isLetter_17
set_option maxHeartbeats 4000000 in
set_option maxRecDepth 100000 in
theorem c_X6_wordEnd (l : Launch) (B : Nat) (D : va_G) (K : Nat → ClassId)   (M : Mem) (hM : MR M) (Q : Int → Prop) (hf : f_X6_wordEnd  M Q) : CtI l yX6_wordEnd cX6_wordEnd 2 1 21 B D K [.ref (B + 3)] M (fun r M1 => M = M1 ∧ Q r) := by
  refine ct_i (by decide) (Nat.le_of_ble_eq_true rfl) ?_
  intro p e s m args below meth c hC
  have hC : Cx p s m args meth c D K cX6_wordEnd 2 RX6 (some .int) := hC
  unfold f_X6_wordEnd at hf
  refine (show G p l e (rmF 1 21) s m args below meth c B D K 2 0 0 (ZI below args s B D K (fun r M1 => M = M1 ∧ Q r)) M 0 [(0, .ref (B + 3))] [] from ?_)
  refine g_aload_n hC 0 dX6_wordEnd_0 rfl rfl ?_
  refine g_geti hC okX6 sc3 7 (by decide) rfl wf_X6_33 dX6_wordEnd_1 ?_
  refine g_nm (fun v1_1 e_v1_1 => ?_)
  replace hf := hf v1_1 e_v1_1
  have h_v1_1 : inR v1_1 := by rw [e_v1_1]; exact (hM _ _)
  refine g_istore_n hC [(1, J v1_1), (0, .ref (B + 3))] dX6_wordEnd_4 rfl (by decide) rfl ?_
  refine g_sub [(0, .ref (B + 3)), (1, J v1_1)] [1, 0] rfl ?_
  refine wl1_elim (fun (v1_2 : Int) => inR v1_2 → G p l e (rmF 1 21) s m args below meth c B D K 2 0 0 (ZI below args s B D K (fun r M1 => M = M1 ∧ Q r)) M 5 [(0, .ref (B + 3)), (1, J v1_2)] []) ?_ 5000 v1_1 hf h_v1_1
  intro rec5 ih5 v1_2 hf h_v1_2
  unfold X6_wordEnd_b5 at hf
  refine g_iload_n hC 1 dX6_wordEnd_5 rfl rfl ?_
  refine g_aload_n hC 0 dX6_wordEnd_6 rfl rfl ?_
  refine g_getr hC okX6 sc3 6 (by decide) rfl wf_X6_29 dX6_wordEnd_7 ?_
  refine g_geti hC okX10 sc1 1 (by decide) rfl wf_X6_55 dX6_wordEnd_10 ?_
  refine g_icmp_ge hC 36 h_v1_2 (hM _ _) dX6_wordEnd_13 rfl (fun c_10 => ?_) (fun c_10 => ?_)
  · replace hf := hf.1 c_10
    refine g_iload_n hC 1 dX6_wordEnd_36 rfl rfl ?_
    exact g_reti hC h_v1_2 hM ⟨rfl, hf⟩ dX6_wordEnd_37
  · replace hf := hf.2 c_10
    refine g_aload_n hC 0 dX6_wordEnd_16 rfl rfl ?_
    refine g_getr hC okX6 sc3 6 (by decide) rfl wf_X6_29 dX6_wordEnd_17 ?_
    refine g_iload_n hC 1 dX6_wordEnd_20 rfl rfl ?_
    refine g_callVI hC (sk := []) [J v1_2] (c_X10_at l B D K v1_2 h_v1_2 M hM _ hf) yv_X10_at wm_X6_124 okX10.1 sc1 rfl ⟨Nat.le_of_ble_eq_true rfl, Nat.le_of_ble_eq_true rfl, Nat.le_of_ble_eq_true rfl, Nat.le_of_ble_eq_true rfl⟩ rfl (Nat.le_of_ble_eq_true rfl) dX6_wordEnd_21 ?_
    rintro r_3 M_4 h_r_3 - ⟨rfl, hf⟩
    refine g_callSZ hC (sk := []) [J r_3] (c_X6_isLetter l B D K r_3 h_r_3 M hM _ hf) yv_X6_isLetter wm_X6_129 rfl ⟨Nat.le_of_ble_eq_true rfl, Nat.le_of_ble_eq_true rfl, Nat.le_of_ble_eq_true rfl, Nat.le_of_ble_eq_true rfl⟩ rfl (Nat.le_of_ble_eq_true rfl) dX6_wordEnd_24 ?_
    rintro r_5 M_6 h_r_5 - ⟨rfl, hf⟩
    refine g_if_eq hC 36 (zi_ h_r_5) dX6_wordEnd_27 rfl (fun c_9 => ?_) (fun c_9 => ?_)
    · replace hf := hf.1 c_9
      refine g_iload_n hC 1 dX6_wordEnd_36 rfl rfl ?_
      exact g_reti hC h_v1_2 hM ⟨rfl, hf⟩ dX6_wordEnd_37
    · replace hf := hf.2 c_9
      obtain ⟨q_8, hf⟩ := hf
      obtain ⟨v1_7, e_v1_7⟩ : ∃ z : Int, z = v1_2 + 1 := ⟨_, rfl⟩
      replace hf := hf v1_7 e_v1_7
      have h_v1_7 : inR v1_7 := by rw [e_v1_7]; exact q_8
      refine g_iincv hC 1 e_v1_7 [(1, J v1_7), (0, .ref (B + 3))] dX6_wordEnd_30 rfl (by decide) rfl ?_
      refine g_goto hC 5 dX6_wordEnd_33 rfl ?_
      refine g_sub [(0, .ref (B + 3)), (1, J v1_7)] [1, 0] rfl ?_
      exact ih5 v1_7 hf h_v1_7
set_option maxHeartbeats 4000000 in
set_option maxRecDepth 100000 in
theorem c_X6_wordTo (l : Launch) (B : Nat) (D : va_G) (K : Nat → ClassId) (v1 : Int) (i_v1 : inR v1) (M : Mem) (hM : MR M) (Q : Int → Prop) (hf : f_X6_wordTo v1 M Q) : CtI l yX6_wordTo cX6_wordTo 4 1 21 B D K [.ref (B + 3), J v1] M (fun r M1 => M = M1 ∧ Q r) := by
  refine ct_i (by decide) (Nat.le_of_ble_eq_true rfl) ?_
  intro p e s m args below meth c hC
  have hC : Cx p s m args meth c D K cX6_wordTo 4 RX6 (some .int) := hC
  unfold f_X6_wordTo at hf
  refine (show G p l e (rmF 1 21) s m args below meth c B D K 4 0 0 (ZI below args s B D K (fun r M1 => M = M1 ∧ Q r)) M 0 [(0, .ref (B + 3)), (1, J v1)] [] from ?_)
  refine g_iload_n hC 1 dX6_wordTo_0 rfl rfl ?_
  refine g_aload_n hC 0 dX6_wordTo_1 rfl rfl ?_
  refine g_geti hC okX6 sc3 7 (by decide) rfl wf_X6_33 dX6_wordTo_2 ?_
  refine g_isub hC dX6_wordTo_5 ?_
  refine g_bipush hC dX6_wordTo_6 (by decide) ?_
  obtain ⟨q_1, hf⟩ := hf
  refine g_icmp_le hC 13 q_1 (by unfold inR; omega) dX6_wordTo_8 rfl (fun c_11 => ?_) (fun c_11 => ?_)
  · replace hf := hf.1 c_11
    refine g_iconst hC dX6_wordTo_13 ?_
    refine g_istore_n hC [(2, J 0), (0, .ref (B + 3)), (1, J v1)] dX6_wordTo_14 rfl (by decide) rfl ?_
    refine g_iconst hC dX6_wordTo_15 ?_
    refine g_istore_n hC [(3, J 0), (2, J 0), (0, .ref (B + 3)), (1, J v1)] dX6_wordTo_16 rfl (by decide) rfl ?_
    refine g_sub [(0, .ref (B + 3)), (1, J v1), (2, J 0), (3, J 0)] [2, 3, 1, 0] rfl ?_
    refine wl2_elim (fun (v2_2 : Int) (v3_3 : Int) => inR v2_2 → inR v3_3 → G p l e (rmF 1 21) s m args below meth c B D K 4 0 0 (ZI below args s B D K (fun r M1 => M = M1 ∧ Q r)) M 17 [(0, .ref (B + 3)), (1, J v1), (2, J v2_2), (3, J v3_3)] []) ?_ 5000 0 0 hf (by unfold inR; omega) (by unfold inR; omega)
    intro rec17 ih17 v2_2 v3_3 hf h_v2_2 h_v3_3
    unfold X6_wordTo_b17 at hf
    refine g_iload_n hC 3 dX6_wordTo_17 rfl rfl ?_
    refine g_iload_n hC 1 dX6_wordTo_18 rfl rfl ?_
    refine g_aload_n hC 0 dX6_wordTo_19 rfl rfl ?_
    refine g_geti hC okX6 sc3 7 (by decide) rfl wf_X6_33 dX6_wordTo_20 ?_
    refine g_isub hC dX6_wordTo_23 ?_
    refine g_icmp_ge hC 56 h_v3_3 q_1 dX6_wordTo_24 rfl (fun c_10 => ?_) (fun c_10 => ?_)
    · replace hf := hf.1 c_10
      refine g_iload_n hC 2 dX6_wordTo_56 rfl rfl ?_
      exact g_reti hC h_v2_2 hM ⟨rfl, hf⟩ dX6_wordTo_57
    · replace hf := hf.2 c_10
      refine g_iload_n hC 2 dX6_wordTo_27 rfl rfl ?_
      refine g_aload_n hC 0 dX6_wordTo_28 rfl rfl ?_
      refine g_getr hC okX6 sc3 6 (by decide) rfl wf_X6_29 dX6_wordTo_29 ?_
      refine g_aload_n hC 0 dX6_wordTo_32 rfl rfl ?_
      refine g_geti hC okX6 sc3 7 (by decide) rfl wf_X6_33 dX6_wordTo_33 ?_
      refine g_iload_n hC 3 dX6_wordTo_36 rfl rfl ?_
      refine g_iadd hC dX6_wordTo_37 ?_
      obtain ⟨q_4, hf⟩ := hf
      refine g_callVI hC (sk := [J v2_2]) [J ((M 3 7) + v3_3)] (c_X10_at l B D K ((M 3 7) + v3_3) q_4 M hM _ hf) yv_X10_at wm_X6_124 okX10.1 sc1 rfl ⟨Nat.le_of_ble_eq_true rfl, Nat.le_of_ble_eq_true rfl, Nat.le_of_ble_eq_true rfl, Nat.le_of_ble_eq_true rfl⟩ rfl (Nat.le_of_ble_eq_true rfl) dX6_wordTo_38 ?_
      rintro r_5 M_6 h_r_5 - ⟨rfl, hf⟩
      refine g_bipush hC dX6_wordTo_41 (by decide) ?_
      refine g_iand hC dX6_wordTo_43 ?_
      refine g_iconst hC dX6_wordTo_44 ?_
      refine g_iload_n hC 3 dX6_wordTo_45 rfl rfl ?_
      refine g_imul hC dX6_wordTo_46 ?_
      refine g_ishl hC dX6_wordTo_47 ?_
      refine g_ior hC dX6_wordTo_48 ?_
      refine g_nm (fun v2_7 e_v2_7 => ?_)
      replace hf := hf v2_7 e_v2_7
      have h_v2_7 : inR v2_7 := by rw [e_v2_7]; exact (bOr_in _ _)
      refine g_istore_n hC [(2, J v2_7), (0, .ref (B + 3)), (1, J v1), (3, J v3_3)] dX6_wordTo_49 rfl (by decide) rfl ?_
      obtain ⟨q_9, hf⟩ := hf
      obtain ⟨v3_8, e_v3_8⟩ : ∃ z : Int, z = v3_3 + 1 := ⟨_, rfl⟩
      replace hf := hf v3_8 e_v3_8
      have h_v3_8 : inR v3_8 := by rw [e_v3_8]; exact q_9
      refine g_iincv hC 3 e_v3_8 [(3, J v3_8), (2, J v2_7), (0, .ref (B + 3)), (1, J v1)] dX6_wordTo_50 rfl (by decide) rfl ?_
      refine g_goto hC 17 dX6_wordTo_53 rfl ?_
      refine g_sub [(0, .ref (B + 3)), (1, J v1), (2, J v2_7), (3, J v3_8)] [2, 3, 1, 0] rfl ?_
      exact ih17 v2_7 v3_8 hf h_v2_7 h_v3_8
  · replace hf := hf.2 c_11
    refine g_iconst hC dX6_wordTo_11 ?_
    exact g_reti hC (by unfold inR; omega) hM ⟨rfl, hf⟩ dX6_wordTo_12
set_option maxHeartbeats 4000000 in
set_option maxRecDepth 100000 in
theorem c_X6_takeWord (l : Launch) (B : Nat) (D : va_G) (K : Nat → ClassId) (v1 : Int) (i_v1 : inR v1) (M : Mem) (hM : MR M) (Q : Int → Mem → Prop) (hf : f_X6_takeWord v1 M Q) : CtZ l yX6_takeWord cX6_takeWord 3 2 44 B D K [.ref (B + 3), J v1] M Q := by
  refine ct_z (by decide) (Nat.le_of_ble_eq_true rfl) ?_
  intro p e s m args below meth c hC
  have hC : Cx p s m args meth c D K cX6_takeWord 3 RX6 (some .boolean) := hC
  unfold f_X6_takeWord at hf
  refine (show G p l e (rmF 2 44) s m args below meth c B D K 3 0 0 (ZZ below args s B D K Q) M 0 [(0, .ref (B + 3)), (1, J v1)] [] from ?_)
  refine g_aload_n hC 0 dX6_takeWord_0 rfl rfl ?_
  refine g_callVV hC (sk := []) [] (c_X6_skipBlanks l B D K   M hM _ hf) yv_X6_skipBlanks wm_X6_52 okX6.1 sc3 rfl ⟨Nat.le_of_ble_eq_true rfl, Nat.le_of_ble_eq_true rfl, Nat.le_of_ble_eq_true rfl, Nat.le_of_ble_eq_true rfl⟩ rfl (Nat.le_of_ble_eq_true rfl) dX6_takeWord_1 ?_
  intro M_1 h_M_1 hf
  refine g_aload_n hC 0 dX6_takeWord_4 rfl rfl ?_
  refine g_callVI hC (sk := []) [] (c_X6_wordEnd l B D K   M_1 h_M_1 _ hf) yv_X6_wordEnd wm_X6_115 okX6.1 sc3 rfl ⟨Nat.le_of_ble_eq_true rfl, Nat.le_of_ble_eq_true rfl, Nat.le_of_ble_eq_true rfl, Nat.le_of_ble_eq_true rfl⟩ rfl (Nat.le_of_ble_eq_true rfl) dX6_takeWord_5 ?_
  rintro r_2 M_3 h_r_2 - ⟨rfl, hf⟩
  refine g_istore_n hC [(2, J r_2), (0, .ref (B + 3)), (1, J v1)] dX6_takeWord_8 rfl (by decide) rfl ?_
  refine g_aload_n hC 1 dX6_takeWord_9 rfl rfl ?_
  refine g_iload_n hC 0 dX6_takeWord_10 rfl rfl ?_
  refine g_callVI hC (sk := []) [J r_2] (c_X6_wordTo l B D K r_2 h_r_2 M_1 h_M_1 _ hf) yv_X6_wordTo wm_X6_118 okX6.1 sc3 rfl ⟨Nat.le_of_ble_eq_true rfl, Nat.le_of_ble_eq_true rfl, Nat.le_of_ble_eq_true rfl, Nat.le_of_ble_eq_true rfl⟩ rfl (Nat.le_of_ble_eq_true rfl) dX6_takeWord_11 ?_
  rintro r_4 M_5 h_r_4 - ⟨rfl, hf⟩
  refine g_iload_n hC 2 dX6_takeWord_14 rfl rfl ?_
  refine g_icmp_eq hC 20 h_r_4 i_v1 dX6_takeWord_15 rfl (fun c_7 => ?_) (fun c_7 => ?_)
  · replace hf := hf.1 c_7
    refine g_aload_n hC 1 dX6_takeWord_20 rfl rfl ?_
    refine g_iload_n hC 0 dX6_takeWord_21 rfl rfl ?_
    refine g_puti hC okX6 tnX6 sc3 7 (by decide) rfl rfl (by decide) wf_X6_33 dX6_takeWord_22 ?_
    refine g_nmM (fun M_6 e_M_6 => ?_)
    replace hf := hf M_6 e_M_6
    have h_M_6 : MR M_6 := by rw [e_M_6]; exact MR_st h_M_1 h_r_2
    refine g_iconst hC dX6_takeWord_25 ?_
    exact g_retz hC (Or.inr rfl) h_M_6 hf dX6_takeWord_26
  · replace hf := hf.2 c_7
    refine g_iconst hC dX6_takeWord_18 ?_
    exact g_retz hC (Or.inl rfl) h_M_1 hf dX6_takeWord_19
set_option maxHeartbeats 4000000 in
set_option maxRecDepth 100000 in
theorem c_X6_fail (l : Launch) (B : Nat) (D : va_G) (K : Nat → ClassId) (v1 : Int) (v2 : Int) (i_v1 : inR v1) (i_v2 : inR v2) (M : Mem) (hM : MR M) (Q : Int → Mem → Prop) (hf : f_X6_fail v1 v2 M Q) : CtZ l yX6_fail cX6_fail 3 0 0 B D K [.ref (B + 3), J v1, J v2] M Q := by
  refine ct_z (by decide) (Nat.le_of_ble_eq_true rfl) ?_
  intro p e s m args below meth c hC
  have hC : Cx p s m args meth c D K cX6_fail 3 RX6 (some .boolean) := hC
  unfold f_X6_fail at hf
  refine (show G p l e (rmF 0 0) s m args below meth c B D K 3 0 0 (ZZ below args s B D K Q) M 0 [(0, .ref (B + 3)), (1, J v1), (2, J v2)] [] from ?_)
  refine g_aload_n hC 0 dX6_fail_0 rfl rfl ?_
  refine g_iload_n hC 1 dX6_fail_1 rfl rfl ?_
  refine g_puti hC okX6 tnX6 sc3 4 (by decide) rfl rfl (by decide) wf_X6_45 dX6_fail_2 ?_
  refine g_nmM (fun M_1 e_M_1 => ?_)
  replace hf := hf M_1 e_M_1
  have h_M_1 : MR M_1 := by rw [e_M_1]; exact MR_st hM i_v1
  refine g_aload_n hC 0 dX6_fail_5 rfl rfl ?_
  refine g_iload_n hC 2 dX6_fail_6 rfl rfl ?_
  refine g_puti hC okX6 tnX6 sc3 5 (by decide) rfl rfl (by decide) wf_X6_25 dX6_fail_7 ?_
  refine g_nmM (fun M_2 e_M_2 => ?_)
  replace hf := hf M_2 e_M_2
  have h_M_2 : MR M_2 := by rw [e_M_2]; exact MR_st h_M_1 i_v2
  refine g_iconst hC dX6_fail_10 ?_
  exact g_retz hC (Or.inl rfl) h_M_2 hf dX6_fail_11
set_option maxHeartbeats 4000000 in
set_option maxRecDepth 100000 in
theorem c_X6_wantWord (l : Launch) (B : Nat) (D : va_G) (K : Nat → ClassId) (v1 : Int) (i_v1 : inR v1) (M : Mem) (hM : MR M) (Q : Int → Mem → Prop) (hf : f_X6_wantWord v1 M Q) : CtZ l yX6_wantWord cX6_wantWord 2 3 66 B D K [.ref (B + 3), J v1] M Q := by
  refine ct_z (by decide) (Nat.le_of_ble_eq_true rfl) ?_
  intro p e s m args below meth c hC
  have hC : Cx p s m args meth c D K cX6_wantWord 2 RX6 (some .boolean) := hC
  unfold f_X6_wantWord at hf
  refine (show G p l e (rmF 3 66) s m args below meth c B D K 2 0 0 (ZZ below args s B D K Q) M 0 [(0, .ref (B + 3)), (1, J v1)] [] from ?_)
  refine g_aload_n hC 0 dX6_wantWord_0 rfl rfl ?_
  refine g_iload_n hC 1 dX6_wantWord_1 rfl rfl ?_
  refine g_callVZ hC (sk := []) [J v1] (c_X6_takeWord l B D K v1 i_v1 M hM _ hf) yv_X6_takeWord wm_X6_100 okX6.1 sc3 rfl ⟨Nat.le_of_ble_eq_true rfl, Nat.le_of_ble_eq_true rfl, Nat.le_of_ble_eq_true rfl, Nat.le_of_ble_eq_true rfl⟩ rfl (Nat.le_of_ble_eq_true rfl) dX6_wantWord_2 ?_
  intro r_1 M_2 h_r_1 h_M_2 hf
  refine g_if_ne hC 20 (zi_ h_r_1) dX6_wantWord_5 rfl (fun c_6 => ?_) (fun c_6 => ?_)
  · replace hf := hf.1 c_6
    refine g_iconst hC dX6_wantWord_20 ?_
    refine g_goto hC 25 dX6_wantWord_21 rfl ?_
    exact g_retz hC (Or.inr rfl) h_M_2 hf dX6_wantWord_25
  · replace hf := hf.2 c_6
    refine g_aload_n hC 0 dX6_wantWord_8 rfl rfl ?_
    refine g_iconst hC dX6_wantWord_9 ?_
    refine g_aload_n hC 0 dX6_wantWord_10 rfl rfl ?_
    refine g_geti hC okX6 sc3 7 (by decide) rfl wf_X6_33 dX6_wantWord_11 ?_
    refine g_callVZ hC (sk := []) [J 1, J (M_2 3 7)] (c_X6_fail l B D K 1 (M_2 3 7) (by unfold inR; omega) (h_M_2 _ _) M_2 h_M_2 _ hf) yv_X6_fail wm_X6_78 okX6.1 sc3 rfl ⟨Nat.le_of_ble_eq_true rfl, Nat.le_of_ble_eq_true rfl, Nat.le_of_ble_eq_true rfl, Nat.le_of_ble_eq_true rfl⟩ rfl (Nat.le_of_ble_eq_true rfl) dX6_wantWord_14 ?_
    intro r_3 M_4 h_r_3 h_M_4 hf
    refine g_if_eq hC 24 (zi_ h_r_3) dX6_wantWord_17 rfl (fun c_5 => ?_) (fun c_5 => ?_)
    · replace hf := hf.1 c_5
      refine g_iconst hC dX6_wantWord_24 ?_
      exact g_retz hC (Or.inl rfl) h_M_4 hf dX6_wantWord_25
    · replace hf := hf.2 c_5
      refine g_iconst hC dX6_wantWord_20 ?_
      refine g_goto hC 25 dX6_wantWord_21 rfl ?_
      exact g_retz hC (Or.inr rfl) h_M_4 hf dX6_wantWord_25
set_option maxHeartbeats 4000000 in
set_option maxRecDepth 100000 in
theorem c_X6_isOwnWord (l : Launch) (B : Nat) (D : va_G) (K : Nat → ClassId) (v0 : Int) (i_v0 : inR v0) (M : Mem) (hM : MR M) (Q : Int → Prop) (hf : f_X6_isOwnWord v0 M Q) : CtZ l yX6_isOwnWord cX6_isOwnWord 1 0 0 B D K [J v0] M (fun r M1 => M = M1 ∧ Q r) := by
  refine ct_z (by decide) (Nat.le_of_ble_eq_true rfl) ?_
  intro p e s m args below meth c hC
  have hC : Cx p s m args meth c D K cX6_isOwnWord 1 RX6 (some .boolean) := hC
  unfold f_X6_isOwnWord at hf
  refine (show G p l e (rmF 0 0) s m args below meth c B D K 1 0 0 (ZZ below args s B D K (fun r M1 => M = M1 ∧ Q r)) M 0 [(0, J v0)] [] from ?_)
  refine g_iload_n hC 0 dX6_isOwnWord_0 rfl rfl ?_
  refine g_ldc (n := 642876816) hC wc_X6_63 (by decide) dX6_isOwnWord_1 ?_
  refine g_icmp_eq hC 37 i_v0 (by unfold inR; omega) dX6_isOwnWord_3 rfl (fun c_6 => ?_) (fun c_6 => ?_)
  · replace hf := hf.1 c_6
    refine g_iconst hC dX6_isOwnWord_37 ?_
    refine g_goto hC 42 dX6_isOwnWord_38 rfl ?_
    exact g_retz hC (Or.inr rfl) hM ⟨rfl, hf⟩ dX6_isOwnWord_42
  · replace hf := hf.2 c_6
    refine g_iload_n hC 0 dX6_isOwnWord_6 rfl rfl ?_
    refine g_ldc (n := 8488114) hC wc_X6_90 (by decide) dX6_isOwnWord_7 ?_
    refine g_icmp_eq hC 37 i_v0 (by unfold inR; omega) dX6_isOwnWord_9 rfl (fun c_5 => ?_) (fun c_5 => ?_)
    · replace hf := hf.1 c_5
      refine g_iconst hC dX6_isOwnWord_37 ?_
      refine g_goto hC 42 dX6_isOwnWord_38 rfl ?_
      exact g_retz hC (Or.inr rfl) hM ⟨rfl, hf⟩ dX6_isOwnWord_42
    · replace hf := hf.2 c_5
      refine g_iload_n hC 0 dX6_isOwnWord_12 rfl rfl ?_
      refine g_sipush hC dX6_isOwnWord_13 (by decide) ?_
      refine g_icmp_eq hC 37 i_v0 (by unfold inR; omega) dX6_isOwnWord_16 rfl (fun c_4 => ?_) (fun c_4 => ?_)
      · replace hf := hf.1 c_4
        refine g_iconst hC dX6_isOwnWord_37 ?_
        refine g_goto hC 42 dX6_isOwnWord_38 rfl ?_
        exact g_retz hC (Or.inr rfl) hM ⟨rfl, hf⟩ dX6_isOwnWord_42
      · replace hf := hf.2 c_4
        refine g_iload_n hC 0 dX6_isOwnWord_19 rfl rfl ?_
        refine g_ldc (n := 244204) hC wc_X6_95 (by decide) dX6_isOwnWord_20 ?_
        refine g_icmp_eq hC 37 i_v0 (by unfold inR; omega) dX6_isOwnWord_22 rfl (fun c_3 => ?_) (fun c_3 => ?_)
        · replace hf := hf.1 c_3
          refine g_iconst hC dX6_isOwnWord_37 ?_
          refine g_goto hC 42 dX6_isOwnWord_38 rfl ?_
          exact g_retz hC (Or.inr rfl) hM ⟨rfl, hf⟩ dX6_isOwnWord_42
        · replace hf := hf.2 c_3
          refine g_iload_n hC 0 dX6_isOwnWord_25 rfl rfl ?_
          refine g_ldc (n := 642127161) hC wc_X6_99 (by decide) dX6_isOwnWord_26 ?_
          refine g_icmp_eq hC 37 i_v0 (by unfold inR; omega) dX6_isOwnWord_28 rfl (fun c_2 => ?_) (fun c_2 => ?_)
          · replace hf := hf.1 c_2
            refine g_iconst hC dX6_isOwnWord_37 ?_
            refine g_goto hC 42 dX6_isOwnWord_38 rfl ?_
            exact g_retz hC (Or.inr rfl) hM ⟨rfl, hf⟩ dX6_isOwnWord_42
          · replace hf := hf.2 c_2
            refine g_iload_n hC 0 dX6_isOwnWord_31 rfl rfl ?_
            refine g_ldc (n := 139866147) hC wc_X6_103 (by decide) dX6_isOwnWord_32 ?_
            refine g_icmp_ne hC 41 i_v0 (by unfold inR; omega) dX6_isOwnWord_34 rfl (fun c_1 => ?_) (fun c_1 => ?_)
            · replace hf := hf.1 c_1
              refine g_iconst hC dX6_isOwnWord_41 ?_
              exact g_retz hC (Or.inl rfl) hM ⟨rfl, hf⟩ dX6_isOwnWord_42
            · replace hf := hf.2 c_1
              refine g_iconst hC dX6_isOwnWord_37 ?_
              refine g_goto hC 42 dX6_isOwnWord_38 rfl ?_
              exact g_retz hC (Or.inr rfl) hM ⟨rfl, hf⟩ dX6_isOwnWord_42
set_option maxHeartbeats 4000000 in
set_option maxRecDepth 100000 in
theorem c_X6_readName (l : Launch) (B : Nat) (D : va_G) (K : Nat → ClassId)   (M : Mem) (hM : MR M) (Q : Int → Mem → Prop) (hf : f_X6_readName  M Q) : CtI l yX6_readName cX6_readName 3 2 44 B D K [.ref (B + 3)] M Q := by
  refine ct_i (by decide) (Nat.le_of_ble_eq_true rfl) ?_
  intro p e s m args below meth c hC
  have hC : Cx p s m args meth c D K cX6_readName 3 RX6 (some .int) := hC
  unfold f_X6_readName at hf
  refine (show G p l e (rmF 2 44) s m args below meth c B D K 3 0 0 (ZI below args s B D K Q) M 0 [(0, .ref (B + 3))] [] from ?_)
  refine g_aload_n hC 0 dX6_readName_0 rfl rfl ?_
  refine g_callVI hC (sk := []) [] (c_X6_wordEnd l B D K   M hM _ hf) yv_X6_wordEnd wm_X6_115 okX6.1 sc3 rfl ⟨Nat.le_of_ble_eq_true rfl, Nat.le_of_ble_eq_true rfl, Nat.le_of_ble_eq_true rfl, Nat.le_of_ble_eq_true rfl⟩ rfl (Nat.le_of_ble_eq_true rfl) dX6_readName_1 ?_
  rintro r_1 M_2 h_r_1 - ⟨rfl, hf⟩
  refine g_istore_n hC [(1, J r_1), (0, .ref (B + 3))] dX6_readName_4 rfl (by decide) rfl ?_
  refine g_iload_n hC 0 dX6_readName_5 rfl rfl ?_
  refine g_aload_n hC 1 dX6_readName_6 rfl rfl ?_
  refine g_geti hC okX6 sc3 7 (by decide) rfl wf_X6_33 dX6_readName_7 ?_
  refine g_isub hC dX6_readName_10 ?_
  refine g_bipush hC dX6_readName_11 (by decide) ?_
  obtain ⟨q_3, hf⟩ := hf
  refine g_icmp_le hC 31 q_3 (by unfold inR; omega) dX6_readName_13 rfl (fun c_17 => ?_) (fun c_17 => ?_)
  · replace hf := hf.1 c_17
    refine g_aload_n hC 1 dX6_readName_31 rfl rfl ?_
    refine g_iload_n hC 0 dX6_readName_32 rfl rfl ?_
    refine g_callVI hC (sk := []) [J r_1] (c_X6_wordTo l B D K r_1 h_r_1 M hM _ hf) yv_X6_wordTo wm_X6_118 okX6.1 sc3 rfl ⟨Nat.le_of_ble_eq_true rfl, Nat.le_of_ble_eq_true rfl, Nat.le_of_ble_eq_true rfl, Nat.le_of_ble_eq_true rfl⟩ rfl (Nat.le_of_ble_eq_true rfl) dX6_readName_33 ?_
    rintro r_4 M_5 h_r_4 - ⟨rfl, hf⟩
    refine g_istore_n hC [(2, J r_4), (1, J r_1), (0, .ref (B + 3))] dX6_readName_36 rfl (by decide) rfl ?_
    refine g_iload_n hC 0 dX6_readName_37 rfl rfl ?_
    refine jn_elim (fun (k : Mem → Prop) => ∀ (M_6 : Mem), k M_6 → (MR M_6) → G p l e (rmF 2 44) s m args below meth c B D K 3 0 0 (ZI below args s B D K Q) M_6 48 [(0, .ref (B + 3))] []) hf ?_ ?_
    · intro M_6 hf h_M_6
      refine g_aload_n hC 0 dX6_readName_48 rfl rfl ?_
      refine g_iconst hC dX6_readName_49 ?_
      refine g_aload_n hC 0 dX6_readName_50 rfl rfl ?_
      refine g_geti hC okX6 sc3 7 (by decide) rfl wf_X6_33 dX6_readName_51 ?_
      refine g_callVZ hC (sk := []) [J 1, J (M_6 3 7)] (c_X6_fail l B D K 1 (M_6 3 7) (by unfold inR; omega) (h_M_6 _ _) M_6 h_M_6 _ hf) yv_X6_fail wm_X6_78 okX6.1 sc3 rfl ⟨Nat.le_of_ble_eq_true rfl, Nat.le_of_ble_eq_true rfl, Nat.le_of_ble_eq_true rfl, Nat.le_of_ble_eq_true rfl⟩ rfl (Nat.le_of_ble_eq_true rfl) dX6_readName_54 ?_
      intro r_7 M_8 h_r_7 h_M_8 hf
      refine g_pop hC dX6_readName_57 rfl ?_
      refine g_iconst hC dX6_readName_58 ?_
      exact g_reti hC (by unfold inR; omega) h_M_8 hf dX6_readName_59
    · intro J48 hJ48 hf
      refine g_if_eq hC 48 h_r_4 dX6_readName_38 rfl (fun c_13 => ?_) (fun c_13 => ?_)
      · replace hf := hf.1 c_13
        refine g_sub [(0, .ref (B + 3))] [2] rfl ?_
        exact hJ48 M hf hM
      · replace hf := hf.2 c_13
        refine g_iload_n hC 0 dX6_readName_41 rfl rfl ?_
        refine g_callSZ hC (sk := []) [J r_4] (c_X6_isOwnWord l B D K r_4 h_r_4 M hM _ hf) yv_X6_isOwnWord wm_X6_121 rfl ⟨Nat.le_of_ble_eq_true rfl, Nat.le_of_ble_eq_true rfl, Nat.le_of_ble_eq_true rfl, Nat.le_of_ble_eq_true rfl⟩ rfl (Nat.le_of_ble_eq_true rfl) dX6_readName_42 ?_
        rintro r_9 M_10 h_r_9 - ⟨rfl, hf⟩
        refine g_if_eq hC 60 (zi_ h_r_9) dX6_readName_45 rfl (fun c_12 => ?_) (fun c_12 => ?_)
        · replace hf := hf.1 c_12
          refine g_aload_n hC 2 dX6_readName_60 rfl rfl ?_
          refine g_iload_n hC 1 dX6_readName_61 rfl rfl ?_
          refine g_puti hC okX6 tnX6 sc3 7 (by decide) rfl rfl (by decide) wf_X6_33 dX6_readName_62 ?_
          refine g_nmM (fun M_11 e_M_11 => ?_)
          replace hf := hf M_11 e_M_11
          have h_M_11 : MR M_11 := by rw [e_M_11]; exact MR_st hM h_r_1
          refine g_iload_n hC 0 dX6_readName_65 rfl rfl ?_
          exact g_reti hC h_r_4 h_M_11 hf dX6_readName_66
        · replace hf := hf.2 c_12
          refine g_sub [(0, .ref (B + 3))] [2] rfl ?_
          exact hJ48 M hf hM
  · replace hf := hf.2 c_17
    refine g_aload_n hC 1 dX6_readName_16 rfl rfl ?_
    refine g_iconst hC dX6_readName_17 ?_
    refine g_aload_n hC 1 dX6_readName_18 rfl rfl ?_
    refine g_geti hC okX6 sc3 7 (by decide) rfl wf_X6_33 dX6_readName_19 ?_
    refine g_bipush hC dX6_readName_22 (by decide) ?_
    refine g_iadd hC dX6_readName_24 ?_
    obtain ⟨q_14, hf⟩ := hf
    refine g_callVZ hC (sk := []) [J 1, J ((M 3 7) + 6)] (c_X6_fail l B D K 1 ((M 3 7) + 6) (by unfold inR; omega) q_14 M hM _ hf) yv_X6_fail wm_X6_78 okX6.1 sc3 rfl ⟨Nat.le_of_ble_eq_true rfl, Nat.le_of_ble_eq_true rfl, Nat.le_of_ble_eq_true rfl, Nat.le_of_ble_eq_true rfl⟩ rfl (Nat.le_of_ble_eq_true rfl) dX6_readName_25 ?_
    intro r_15 M_16 h_r_15 h_M_16 hf
    refine g_pop hC dX6_readName_28 rfl ?_
    refine g_iconst hC dX6_readName_29 ?_
    exact g_reti hC (by unfold inR; omega) h_M_16 hf dX6_readName_30
set_option maxHeartbeats 4000000 in
set_option maxRecDepth 100000 in
theorem c_X6_find (l : Launch) (B : Nat) (D : va_G) (K : Nat → ClassId) (a0 : Nat) (v1 : Int) (v2 : Int) (h_a0 : isIA a0) (i_v1 : inR v1) (i_v2 : inR v2) (M : Mem) (hM : MR M) (Q : Int → Prop) (hf : f_X6_find a0 v1 v2 M Q) : CtI l yX6_find cX6_find 4 0 0 B D K [.ref (B + a0), J v1, J v2] M (fun r M1 => M = M1 ∧ Q r) := by
  refine ct_i (by decide) (Nat.le_of_ble_eq_true rfl) ?_
  intro p e s m args below meth c hC
  have hC : Cx p s m args meth c D K cX6_find 4 RX6 (some .int) := hC
  unfold f_X6_find at hf
  refine (show G p l e (rmF 0 0) s m args below meth c B D K 4 0 0 (ZI below args s B D K (fun r M1 => M = M1 ∧ Q r)) M 0 [(0, .ref (B + a0)), (1, J v1), (2, J v2)] [] from ?_)
  refine g_iconst hC dX6_find_0 ?_
  refine g_istore_n hC [(3, J 0), (0, .ref (B + a0)), (1, J v1), (2, J v2)] dX6_find_1 rfl (by decide) rfl ?_
  refine g_sub [(0, .ref (B + a0)), (1, J v1), (2, J v2), (3, J 0)] [1, 2, 3, 0] rfl ?_
  refine wl1_elim (fun (v3_1 : Int) => inR v3_1 → G p l e (rmF 0 0) s m args below meth c B D K 4 0 0 (ZI below args s B D K (fun r M1 => M = M1 ∧ Q r)) M 2 [(0, .ref (B + a0)), (1, J v1), (2, J v2), (3, J v3_1)] []) ?_ 5000 0 hf (by unfold inR; omega)
  intro rec2 ih2 v3_1 hf h_v3_1
  unfold X6_find_b2 at hf
  refine g_iload_n hC 3 dX6_find_2 rfl rfl ?_
  refine g_iload_n hC 1 dX6_find_3 rfl rfl ?_
  refine g_icmp_ge hC 22 h_v3_1 i_v1 dX6_find_4 rfl (fun c_6 => ?_) (fun c_6 => ?_)
  · replace hf := hf.1 c_6
    refine g_iconst hC dX6_find_22 ?_
    exact g_reti hC (by unfold inR; omega) hM ⟨rfl, hf⟩ dX6_find_23
  · replace hf := hf.2 c_6
    refine g_aload_n hC 0 dX6_find_7 rfl rfl ?_
    refine g_iload_n hC 3 dX6_find_8 rfl rfl ?_
    obtain ⟨q_2, hf⟩ := hf
    refine g_ialdk (v3_1.toNat) hC h_a0 q_2.1 q_2.2 rfl dX6_find_9 ?_
    refine g_iload_n hC 2 dX6_find_10 rfl rfl ?_
    refine g_icmp_ne hC 16 (hM _ _) i_v2 dX6_find_11 rfl (fun c_5 => ?_) (fun c_5 => ?_)
    · replace hf := hf.1 c_5
      obtain ⟨q_4, hf⟩ := hf
      obtain ⟨v3_3, e_v3_3⟩ : ∃ z : Int, z = v3_1 + 1 := ⟨_, rfl⟩
      replace hf := hf v3_3 e_v3_3
      have h_v3_3 : inR v3_3 := by rw [e_v3_3]; exact q_4
      refine g_iincv hC 3 e_v3_3 [(3, J v3_3), (0, .ref (B + a0)), (1, J v1), (2, J v2)] dX6_find_16 rfl (by decide) rfl ?_
      refine g_goto hC 2 dX6_find_19 rfl ?_
      refine g_sub [(0, .ref (B + a0)), (1, J v1), (2, J v2), (3, J v3_3)] [1, 2, 3, 0] rfl ?_
      exact ih2 v3_3 hf h_v3_3
    · replace hf := hf.2 c_5
      refine g_iload_n hC 3 dX6_find_14 rfl rfl ?_
      exact g_reti hC h_v3_1 hM ⟨rfl, hf⟩ dX6_find_15
set_option maxHeartbeats 4000000 in
set_option maxRecDepth 100000 in
theorem c_X6_readNewPlace (l : Launch) (B : Nat) (D : va_G) (K : Nat → ClassId)   (M : Mem) (hM : MR M) (Q : Int → Mem → Prop) (hf : f_X6_readNewPlace  M Q) : CtZ l yX6_readNewPlace cX6_readNewPlace 3 3 66 B D K [.ref (B + 3)] M Q := by
  refine ct_z (by decide) (Nat.le_of_ble_eq_true rfl) ?_
  intro p e s m args below meth c hC
  have hC : Cx p s m args meth c D K cX6_readNewPlace 3 RX6 (some .boolean) := hC
  unfold f_X6_readNewPlace at hf
  refine (show G p l e (rmF 3 66) s m args below meth c B D K 3 0 0 (ZZ below args s B D K Q) M 0 [(0, .ref (B + 3))] [] from ?_)
  refine g_aload_n hC 0 dX6_readNewPlace_0 rfl rfl ?_
  refine g_callVV hC (sk := []) [] (c_X6_skipBlanks l B D K   M hM _ hf) yv_X6_skipBlanks wm_X6_52 okX6.1 sc3 rfl ⟨Nat.le_of_ble_eq_true rfl, Nat.le_of_ble_eq_true rfl, Nat.le_of_ble_eq_true rfl, Nat.le_of_ble_eq_true rfl⟩ rfl (Nat.le_of_ble_eq_true rfl) dX6_readNewPlace_1 ?_
  intro M_1 h_M_1 hf
  refine g_aload_n hC 0 dX6_readNewPlace_4 rfl rfl ?_
  refine g_getr hC okX6 sc3 0 (by decide) rfl wf_X6_12 dX6_readNewPlace_5 ?_
  refine g_geti hC okX5 (sh_X5 (Or.inl rfl)) 0 (by decide) rfl wf_X6_36 dX6_readNewPlace_8 ?_
  refine g_bipush hC dX6_readNewPlace_11 (by decide) ?_
  refine jn_elim (fun (k : Mem → Prop) => ∀ (M_2 : Mem), k M_2 → (MR M_2) → G p l e (rmF 3 66) s m args below meth c B D K 3 0 0 (ZZ below args s B D K Q) M_2 40 [(0, .ref (B + 3))] []) hf ?_ ?_
  · intro M_2 hf h_M_2
    refine g_aload_n hC 0 dX6_readNewPlace_40 rfl rfl ?_
    refine g_geti hC okX6 sc3 7 (by decide) rfl wf_X6_33 dX6_readNewPlace_41 ?_
    refine g_nm (fun v1_3 e_v1_3 => ?_)
    replace hf := hf v1_3 e_v1_3
    have h_v1_3 : inR v1_3 := by rw [e_v1_3]; exact (h_M_2 _ _)
    refine g_istore_n hC [(1, J v1_3), (0, .ref (B + 3))] dX6_readNewPlace_44 rfl (by decide) rfl ?_
    refine g_aload_n hC 1 dX6_readNewPlace_45 rfl rfl ?_
    refine g_callVI hC (sk := []) [] (c_X6_readName l B D K   M_2 h_M_2 _ hf) yv_X6_readName wm_X6_82 okX6.1 sc3 rfl ⟨Nat.le_of_ble_eq_true rfl, Nat.le_of_ble_eq_true rfl, Nat.le_of_ble_eq_true rfl, Nat.le_of_ble_eq_true rfl⟩ rfl (Nat.le_of_ble_eq_true rfl) dX6_readNewPlace_46 ?_
    intro r_4 M_5 h_r_4 h_M_5 hf
    refine g_istore_n hC [(2, J r_4), (1, J v1_3), (0, .ref (B + 3))] dX6_readNewPlace_49 rfl (by decide) rfl ?_
    refine g_iload_n hC 0 dX6_readNewPlace_50 rfl rfl ?_
    refine g_iconst hC dX6_readNewPlace_51 ?_
    refine g_icmp_ne hC 57 h_r_4 (by unfold inR; omega) dX6_readNewPlace_52 rfl (fun c_16 => ?_) (fun c_16 => ?_)
    · replace hf := hf.1 c_16
      refine g_aload_n hC 2 dX6_readNewPlace_57 rfl rfl ?_
      refine g_getr hC okX6 sc3 1 (by decide) rfl wf_X6_18 dX6_readNewPlace_58 ?_
      refine g_aload_n hC 2 dX6_readNewPlace_61 rfl rfl ?_
      refine g_getr hC okX6 sc3 0 (by decide) rfl wf_X6_12 dX6_readNewPlace_62 ?_
      refine g_geti hC okX5 (sh_X5 (Or.inl rfl)) 0 (by decide) rfl wf_X6_36 dX6_readNewPlace_65 ?_
      refine g_iload_n hC 0 dX6_readNewPlace_68 rfl rfl ?_
      refine g_callSI hC (sk := []) [.ref (B + 10), J (M_5 4 0), J r_4] (c_X6_find l B D K 10 (M_5 4 0) r_4 (isIA_of sc10) (h_M_5 _ _) h_r_4 M_5 h_M_5 _ hf) yv_X6_find wm_X6_86 rfl ⟨Nat.le_of_ble_eq_true rfl, Nat.le_of_ble_eq_true rfl, Nat.le_of_ble_eq_true rfl, Nat.le_of_ble_eq_true rfl⟩ rfl (Nat.le_of_ble_eq_true rfl) dX6_readNewPlace_69 ?_
      rintro r_6 M_7 h_r_6 - ⟨rfl, hf⟩
      refine g_iconst hC dX6_readNewPlace_72 ?_
      refine g_icmp_eq hC 83 h_r_6 (by unfold inR; omega) dX6_readNewPlace_73 rfl (fun c_15 => ?_) (fun c_15 => ?_)
      · replace hf := hf.1 c_15
        refine g_aload_n hC 2 dX6_readNewPlace_83 rfl rfl ?_
        refine g_getr hC okX6 sc3 0 (by decide) rfl wf_X6_12 dX6_readNewPlace_84 ?_
        refine g_geti hC okX5 (sh_X5 (Or.inl rfl)) 0 (by decide) rfl wf_X6_36 dX6_readNewPlace_87 ?_
        refine g_bipush hC dX6_readNewPlace_90 (by decide) ?_
        refine g_icmp_ge hC 121 (h_M_5 _ _) (by unfold inR; omega) dX6_readNewPlace_92 rfl (fun c_12 => ?_) (fun c_12 => ?_)
        · replace hf := hf.1 c_12
          refine g_iconst hC dX6_readNewPlace_121 ?_
          exact g_retz hC (Or.inr rfl) h_M_5 hf dX6_readNewPlace_122
        · replace hf := hf.2 c_12
          refine g_aload_n hC 2 dX6_readNewPlace_95 rfl rfl ?_
          refine g_getr hC okX6 sc3 1 (by decide) rfl wf_X6_18 dX6_readNewPlace_96 ?_
          refine g_aload_n hC 2 dX6_readNewPlace_99 rfl rfl ?_
          refine g_getr hC okX6 sc3 0 (by decide) rfl wf_X6_12 dX6_readNewPlace_100 ?_
          refine g_geti hC okX5 (sh_X5 (Or.inl rfl)) 0 (by decide) rfl wf_X6_36 dX6_readNewPlace_103 ?_
          refine g_iload_n hC 0 dX6_readNewPlace_106 rfl rfl ?_
          obtain ⟨q_8, hf⟩ := hf
          refine g_iastk ((M_5 4 0).toNat) hC sc10 q_8.1 q_8.2 rfl dX6_readNewPlace_107 ?_
          refine g_nmM (fun M_9 e_M_9 => ?_)
          replace hf := hf M_9 e_M_9
          have h_M_9 : MR M_9 := by rw [e_M_9]; exact MR_st h_M_5 h_r_4
          refine g_aload_n hC 2 dX6_readNewPlace_108 rfl rfl ?_
          refine g_getr hC okX6 sc3 0 (by decide) rfl wf_X6_12 dX6_readNewPlace_109 ?_
          refine g_dup hC dX6_readNewPlace_112 rfl ?_
          refine g_geti hC okX5 (sh_X5 (Or.inl rfl)) 0 (by decide) rfl wf_X6_36 dX6_readNewPlace_113 ?_
          refine g_iconst hC dX6_readNewPlace_116 ?_
          refine g_iadd hC dX6_readNewPlace_117 ?_
          obtain ⟨q_10, hf⟩ := hf
          refine g_puti hC okX5 tnX5 (sh_X5 (Or.inl rfl)) 0 (by decide) rfl rfl (by decide) wf_X6_36 dX6_readNewPlace_118 ?_
          refine g_nmM (fun M_11 e_M_11 => ?_)
          replace hf := hf M_11 e_M_11
          have h_M_11 : MR M_11 := by rw [e_M_11]; exact MR_st h_M_9 q_10
          refine g_iconst hC dX6_readNewPlace_121 ?_
          exact g_retz hC (Or.inr rfl) h_M_11 hf dX6_readNewPlace_122
      · replace hf := hf.2 c_15
        refine g_aload_n hC 2 dX6_readNewPlace_76 rfl rfl ?_
        refine g_iconst hC dX6_readNewPlace_77 ?_
        refine g_iload_n hC 1 dX6_readNewPlace_78 rfl rfl ?_
        refine g_callVZ hC (sk := []) [J 3, J v1_3] (c_X6_fail l B D K 3 v1_3 (by unfold inR; omega) h_v1_3 M_5 h_M_5 _ hf) yv_X6_fail wm_X6_78 okX6.1 sc3 rfl ⟨Nat.le_of_ble_eq_true rfl, Nat.le_of_ble_eq_true rfl, Nat.le_of_ble_eq_true rfl, Nat.le_of_ble_eq_true rfl⟩ rfl (Nat.le_of_ble_eq_true rfl) dX6_readNewPlace_79 ?_
        intro r_13 M_14 h_r_13 h_M_14 hf
        exact g_retz hC h_r_13 h_M_14 hf dX6_readNewPlace_82
    · replace hf := hf.2 c_16
      refine g_iconst hC dX6_readNewPlace_55 ?_
      exact g_retz hC (Or.inl rfl) h_M_5 hf dX6_readNewPlace_56
  · intro J40 hJ40 hf
    refine g_icmp_ne hC 40 (h_M_1 _ _) (by unfold inR; omega) dX6_readNewPlace_13 rfl (fun c_20 => ?_) (fun c_20 => ?_)
    · replace hf := hf.1 c_20
      refine g_sub [(0, .ref (B + 3))] [0] rfl ?_
      exact hJ40 M_1 hf h_M_1
    · replace hf := hf.2 c_20
      refine g_aload_n hC 0 dX6_readNewPlace_16 rfl rfl ?_
      refine g_geti hC okX6 sc3 7 (by decide) rfl wf_X6_33 dX6_readNewPlace_17 ?_
      refine g_aload_n hC 0 dX6_readNewPlace_20 rfl rfl ?_
      refine g_getr hC okX6 sc3 6 (by decide) rfl wf_X6_29 dX6_readNewPlace_21 ?_
      refine g_geti hC okX10 sc1 1 (by decide) rfl wf_X6_55 dX6_readNewPlace_24 ?_
      refine g_icmp_ge hC 40 (h_M_1 _ _) (h_M_1 _ _) dX6_readNewPlace_27 rfl (fun c_19 => ?_) (fun c_19 => ?_)
      · replace hf := hf.1 c_19
        refine g_sub [(0, .ref (B + 3))] [0] rfl ?_
        exact hJ40 M_1 hf h_M_1
      · replace hf := hf.2 c_19
        refine g_aload_n hC 0 dX6_readNewPlace_30 rfl rfl ?_
        refine g_iconst hC dX6_readNewPlace_31 ?_
        refine g_aload_n hC 0 dX6_readNewPlace_32 rfl rfl ?_
        refine g_geti hC okX6 sc3 7 (by decide) rfl wf_X6_33 dX6_readNewPlace_33 ?_
        refine g_callVZ hC (sk := []) [J 5, J (M_1 3 7)] (c_X6_fail l B D K 5 (M_1 3 7) (by unfold inR; omega) (h_M_1 _ _) M_1 h_M_1 _ hf) yv_X6_fail wm_X6_78 okX6.1 sc3 rfl ⟨Nat.le_of_ble_eq_true rfl, Nat.le_of_ble_eq_true rfl, Nat.le_of_ble_eq_true rfl, Nat.le_of_ble_eq_true rfl⟩ rfl (Nat.le_of_ble_eq_true rfl) dX6_readNewPlace_36 ?_
        intro r_17 M_18 h_r_17 h_M_18 hf
        exact g_retz hC h_r_17 h_M_18 hf dX6_readNewPlace_39
set_option maxHeartbeats 4000000 in
set_option maxRecDepth 100000 in
theorem c_X6_takeSign (l : Launch) (B : Nat) (D : va_G) (K : Nat → ClassId) (v1 : Int) (i_v1 : inR v1) (M : Mem) (hM : MR M) (Q : Int → Mem → Prop) (hf : f_X6_takeSign v1 M Q) : CtZ l yX6_takeSign cX6_takeSign 2 2 41 B D K [.ref (B + 3), J v1] M Q := by
  refine ct_z (by decide) (Nat.le_of_ble_eq_true rfl) ?_
  intro p e s m args below meth c hC
  have hC : Cx p s m args meth c D K cX6_takeSign 2 RX6 (some .boolean) := hC
  unfold f_X6_takeSign at hf
  refine (show G p l e (rmF 2 41) s m args below meth c B D K 2 0 0 (ZZ below args s B D K Q) M 0 [(0, .ref (B + 3)), (1, J v1)] [] from ?_)
  refine g_aload_n hC 0 dX6_takeSign_0 rfl rfl ?_
  refine g_callVV hC (sk := []) [] (c_X6_skipBlanks l B D K   M hM _ hf) yv_X6_skipBlanks wm_X6_52 okX6.1 sc3 rfl ⟨Nat.le_of_ble_eq_true rfl, Nat.le_of_ble_eq_true rfl, Nat.le_of_ble_eq_true rfl, Nat.le_of_ble_eq_true rfl⟩ rfl (Nat.le_of_ble_eq_true rfl) dX6_takeSign_1 ?_
  intro M_1 h_M_1 hf
  refine g_aload_n hC 0 dX6_takeSign_4 rfl rfl ?_
  refine g_getr hC okX6 sc3 6 (by decide) rfl wf_X6_29 dX6_takeSign_5 ?_
  refine g_aload_n hC 0 dX6_takeSign_8 rfl rfl ?_
  refine g_geti hC okX6 sc3 7 (by decide) rfl wf_X6_33 dX6_takeSign_9 ?_
  refine g_callVI hC (sk := []) [J (M_1 3 7)] (c_X10_at l B D K (M_1 3 7) (h_M_1 _ _) M_1 h_M_1 _ hf) yv_X10_at wm_X6_124 okX10.1 sc1 rfl ⟨Nat.le_of_ble_eq_true rfl, Nat.le_of_ble_eq_true rfl, Nat.le_of_ble_eq_true rfl, Nat.le_of_ble_eq_true rfl⟩ rfl (Nat.le_of_ble_eq_true rfl) dX6_takeSign_12 ?_
  rintro r_2 M_3 h_r_2 - ⟨rfl, hf⟩
  refine g_iload_n hC 1 dX6_takeSign_15 rfl rfl ?_
  refine g_icmp_eq hC 21 h_r_2 i_v1 dX6_takeSign_16 rfl (fun c_6 => ?_) (fun c_6 => ?_)
  · replace hf := hf.1 c_6
    refine g_aload_n hC 0 dX6_takeSign_21 rfl rfl ?_
    refine g_dup hC dX6_takeSign_22 rfl ?_
    refine g_geti hC okX6 sc3 7 (by decide) rfl wf_X6_33 dX6_takeSign_23 ?_
    refine g_iconst hC dX6_takeSign_26 ?_
    refine g_iadd hC dX6_takeSign_27 ?_
    obtain ⟨q_4, hf⟩ := hf
    refine g_puti hC okX6 tnX6 sc3 7 (by decide) rfl rfl (by decide) wf_X6_33 dX6_takeSign_28 ?_
    refine g_nmM (fun M_5 e_M_5 => ?_)
    replace hf := hf M_5 e_M_5
    have h_M_5 : MR M_5 := by rw [e_M_5]; exact MR_st h_M_1 q_4
    refine g_iconst hC dX6_takeSign_31 ?_
    exact g_retz hC (Or.inr rfl) h_M_5 hf dX6_takeSign_32
  · replace hf := hf.2 c_6
    refine g_iconst hC dX6_takeSign_19 ?_
    exact g_retz hC (Or.inl rfl) h_M_1 hf dX6_takeSign_20
set_option maxHeartbeats 4000000 in
set_option maxRecDepth 100000 in
theorem c_X6_wantEnd (l : Launch) (B : Nat) (D : va_G) (K : Nat → ClassId)   (M : Mem) (hM : MR M) (Q : Int → Mem → Prop) (hf : f_X6_wantEnd  M Q) : CtZ l yX6_wantEnd cX6_wantEnd 1 3 62 B D K [.ref (B + 3)] M Q := by
  refine ct_z (by decide) (Nat.le_of_ble_eq_true rfl) ?_
  intro p e s m args below meth c hC
  have hC : Cx p s m args meth c D K cX6_wantEnd 1 RX6 (some .boolean) := hC
  unfold f_X6_wantEnd at hf
  refine (show G p l e (rmF 3 62) s m args below meth c B D K 1 0 0 (ZZ below args s B D K Q) M 0 [(0, .ref (B + 3))] [] from ?_)
  refine g_aload_n hC 0 dX6_wantEnd_0 rfl rfl ?_
  refine g_bipush hC dX6_wantEnd_1 (by decide) ?_
  refine g_callVZ hC (sk := []) [J 59] (c_X6_takeSign l B D K 59 (by unfold inR; omega) M hM _ hf) yv_X6_takeSign wm_X6_71 okX6.1 sc3 rfl ⟨Nat.le_of_ble_eq_true rfl, Nat.le_of_ble_eq_true rfl, Nat.le_of_ble_eq_true rfl, Nat.le_of_ble_eq_true rfl⟩ rfl (Nat.le_of_ble_eq_true rfl) dX6_wantEnd_3 ?_
  intro r_1 M_2 h_r_1 h_M_2 hf
  refine g_if_ne hC 21 (zi_ h_r_1) dX6_wantEnd_6 rfl (fun c_6 => ?_) (fun c_6 => ?_)
  · replace hf := hf.1 c_6
    refine g_iconst hC dX6_wantEnd_21 ?_
    refine g_goto hC 26 dX6_wantEnd_22 rfl ?_
    exact g_retz hC (Or.inr rfl) h_M_2 hf dX6_wantEnd_26
  · replace hf := hf.2 c_6
    refine g_aload_n hC 0 dX6_wantEnd_9 rfl rfl ?_
    refine g_iconst hC dX6_wantEnd_10 ?_
    refine g_aload_n hC 0 dX6_wantEnd_11 rfl rfl ?_
    refine g_geti hC okX6 sc3 7 (by decide) rfl wf_X6_33 dX6_wantEnd_12 ?_
    refine g_callVZ hC (sk := []) [J 1, J (M_2 3 7)] (c_X6_fail l B D K 1 (M_2 3 7) (by unfold inR; omega) (h_M_2 _ _) M_2 h_M_2 _ hf) yv_X6_fail wm_X6_78 okX6.1 sc3 rfl ⟨Nat.le_of_ble_eq_true rfl, Nat.le_of_ble_eq_true rfl, Nat.le_of_ble_eq_true rfl, Nat.le_of_ble_eq_true rfl⟩ rfl (Nat.le_of_ble_eq_true rfl) dX6_wantEnd_15 ?_
    intro r_3 M_4 h_r_3 h_M_4 hf
    refine g_if_eq hC 25 (zi_ h_r_3) dX6_wantEnd_18 rfl (fun c_5 => ?_) (fun c_5 => ?_)
    · replace hf := hf.1 c_5
      refine g_iconst hC dX6_wantEnd_25 ?_
      exact g_retz hC (Or.inl rfl) h_M_4 hf dX6_wantEnd_26
    · replace hf := hf.2 c_5
      refine g_iconst hC dX6_wantEnd_21 ?_
      refine g_goto hC 26 dX6_wantEnd_22 rfl ?_
      exact g_retz hC (Or.inr rfl) h_M_4 hf dX6_wantEnd_26
set_option maxHeartbeats 4000000 in
set_option maxRecDepth 100000 in
theorem c_X6_readPlaces (l : Launch) (B : Nat) (D : va_G) (K : Nat → ClassId)   (M : Mem) (hM : MR M) (Q : Int → Mem → Prop) (hf : f_X6_readPlaces  M Q) : CtZ l yX6_readPlaces cX6_readPlaces 2 4 88 B D K [.ref (B + 3)] M Q := by
  refine ct_z (by decide) (Nat.le_of_ble_eq_true rfl) ?_
  intro p e s m args below meth c hC
  have hC : Cx p s m args meth c D K cX6_readPlaces 2 RX6 (some .boolean) := hC
  unfold f_X6_readPlaces at hf
  refine (show G p l e (rmF 4 88) s m args below meth c B D K 2 0 0 (ZZ below args s B D K Q) M 0 [(0, .ref (B + 3))] [] from ?_)
  refine g_aload_n hC 0 dX6_readPlaces_0 rfl rfl ?_
  refine g_ldc (n := 642876816) hC wc_X6_63 (by decide) dX6_readPlaces_1 ?_
  refine g_callVZ hC (sk := []) [J 642876816] (c_X6_wantWord l B D K 642876816 (by unfold inR; omega) M hM _ hf) yv_X6_wantWord wm_X6_64 okX6.1 sc3 rfl ⟨Nat.le_of_ble_eq_true rfl, Nat.le_of_ble_eq_true rfl, Nat.le_of_ble_eq_true rfl, Nat.le_of_ble_eq_true rfl⟩ rfl (Nat.le_of_ble_eq_true rfl) dX6_readPlaces_3 ?_
  intro r_1 M_2 h_r_1 h_M_2 hf
  refine g_if_ne hC 11 (zi_ h_r_1) dX6_readPlaces_6 rfl (fun c_17 => ?_) (fun c_17 => ?_)
  · replace hf := hf.1 c_17
    refine g_iconst hC dX6_readPlaces_11 ?_
    refine g_istore_n hC [(1, J 0), (0, .ref (B + 3))] dX6_readPlaces_12 rfl (by decide) rfl ?_
    refine jn_elim (fun (k : Mem → Prop) => ∀ (M_3 : Mem), k M_3 → (MR M_3) → G p l e (rmF 4 88) s m args below meth c B D K 2 0 0 (ZZ below args s B D K Q) M_3 37 [(0, .ref (B + 3))] []) hf ?_ ?_
    · intro M_3 hf h_M_3
      refine g_aload_n hC 0 dX6_readPlaces_37 rfl rfl ?_
      refine g_callVZ hC (sk := []) [] (c_X6_wantEnd l B D K   M_3 h_M_3 _ hf) yv_X6_wantEnd wm_X6_75 okX6.1 sc3 rfl ⟨Nat.le_of_ble_eq_true rfl, Nat.le_of_ble_eq_true rfl, Nat.le_of_ble_eq_true rfl, Nat.le_of_ble_eq_true rfl⟩ rfl (Nat.le_of_ble_eq_true rfl) dX6_readPlaces_38 ?_
      intro r_4 M_5 h_r_4 h_M_5 hf
      exact g_retz hC h_r_4 h_M_5 hf dX6_readPlaces_41
    · intro J37 hJ37 hf
      refine g_sub [(0, .ref (B + 3)), (1, J 0)] [1, 0] rfl ?_
      refine wl2_elim (fun (v1_6 : Int) (M_7 : Mem) => inR v1_6 → MR M_7 → G p l e (rmF 4 88) s m args below meth c B D K 2 0 0 (ZZ below args s B D K Q) M_7 13 [(0, .ref (B + 3)), (1, J v1_6)] []) ?_ 5000 0 M_2 hf (by unfold inR; omega) h_M_2
      intro rec13 ih13 v1_6 M_7 hf h_v1_6 h_M_7
      unfold X6_readPlaces_b13 at hf
      refine g_iload_n hC 1 dX6_readPlaces_13 rfl rfl ?_
      refine g_bipush hC dX6_readPlaces_14 (by decide) ?_
      refine g_icmp_gt hC 48 h_v1_6 (by unfold inR; omega) dX6_readPlaces_16 rfl (fun c_16 => ?_) (fun c_16 => ?_)
      · replace hf := hf.1 c_16
        refine g_iconst hC dX6_readPlaces_48 ?_
        exact g_retz hC (Or.inl rfl) h_M_7 hf dX6_readPlaces_49
      · replace hf := hf.2 c_16
        refine g_aload_n hC 0 dX6_readPlaces_19 rfl rfl ?_
        refine g_callVZ hC (sk := []) [] (c_X6_readNewPlace l B D K   M_7 h_M_7 _ hf) yv_X6_readNewPlace wm_X6_68 okX6.1 sc3 rfl ⟨Nat.le_of_ble_eq_true rfl, Nat.le_of_ble_eq_true rfl, Nat.le_of_ble_eq_true rfl, Nat.le_of_ble_eq_true rfl⟩ rfl (Nat.le_of_ble_eq_true rfl) dX6_readPlaces_20 ?_
        intro r_8 M_9 h_r_8 h_M_9 hf
        refine g_if_ne hC 28 (zi_ h_r_8) dX6_readPlaces_23 rfl (fun c_15 => ?_) (fun c_15 => ?_)
        · replace hf := hf.1 c_15
          refine g_aload_n hC 0 dX6_readPlaces_28 rfl rfl ?_
          refine g_bipush hC dX6_readPlaces_29 (by decide) ?_
          refine g_callVZ hC (sk := []) [J 44] (c_X6_takeSign l B D K 44 (by unfold inR; omega) M_9 h_M_9 _ hf) yv_X6_takeSign wm_X6_71 okX6.1 sc3 rfl ⟨Nat.le_of_ble_eq_true rfl, Nat.le_of_ble_eq_true rfl, Nat.le_of_ble_eq_true rfl, Nat.le_of_ble_eq_true rfl⟩ rfl (Nat.le_of_ble_eq_true rfl) dX6_readPlaces_31 ?_
          intro r_10 M_11 h_r_10 h_M_11 hf
          refine g_if_ne hC 42 (zi_ h_r_10) dX6_readPlaces_34 rfl (fun c_14 => ?_) (fun c_14 => ?_)
          · replace hf := hf.1 c_14
            obtain ⟨q_13, hf⟩ := hf
            obtain ⟨v1_12, e_v1_12⟩ : ∃ z : Int, z = v1_6 + 1 := ⟨_, rfl⟩
            replace hf := hf v1_12 e_v1_12
            have h_v1_12 : inR v1_12 := by rw [e_v1_12]; exact q_13
            refine g_iincv hC 1 e_v1_12 [(1, J v1_12), (0, .ref (B + 3))] dX6_readPlaces_42 rfl (by decide) rfl ?_
            refine g_goto hC 13 dX6_readPlaces_45 rfl ?_
            refine g_sub [(0, .ref (B + 3)), (1, J v1_12)] [1, 0] rfl ?_
            exact ih13 v1_12 M_11 hf h_v1_12 h_M_11
          · replace hf := hf.2 c_14
            refine g_sub [(0, .ref (B + 3))] [0] rfl ?_
            exact hJ37 M_11 hf h_M_11
        · replace hf := hf.2 c_15
          refine g_iconst hC dX6_readPlaces_26 ?_
          exact g_retz hC (Or.inl rfl) h_M_9 hf dX6_readPlaces_27
  · replace hf := hf.2 c_17
    refine g_iconst hC dX6_readPlaces_9 ?_
    exact g_retz hC (Or.inl rfl) h_M_2 hf dX6_readPlaces_10
set_option maxHeartbeats 4000000 in
set_option maxRecDepth 100000 in
theorem c_X6_readOldPlace (l : Launch) (B : Nat) (D : va_G) (K : Nat → ClassId) (v1 : Int) (i_v1 : inR v1) (M : Mem) (hM : MR M) (Q : Int → Mem → Prop) (hf : f_X6_readOldPlace v1 M Q) : CtI l yX6_readOldPlace cX6_readOldPlace 5 3 66 B D K [.ref (B + 3), J v1] M Q := by
  refine ct_i (by decide) (Nat.le_of_ble_eq_true rfl) ?_
  intro p e s m args below meth c hC
  have hC : Cx p s m args meth c D K cX6_readOldPlace 5 RX6 (some .int) := hC
  unfold f_X6_readOldPlace at hf
  refine (show G p l e (rmF 3 66) s m args below meth c B D K 5 0 0 (ZI below args s B D K Q) M 0 [(0, .ref (B + 3)), (1, J v1)] [] from ?_)
  refine g_aload_n hC 0 dX6_readOldPlace_0 rfl rfl ?_
  refine g_callVV hC (sk := []) [] (c_X6_skipBlanks l B D K   M hM _ hf) yv_X6_skipBlanks wm_X6_52 okX6.1 sc3 rfl ⟨Nat.le_of_ble_eq_true rfl, Nat.le_of_ble_eq_true rfl, Nat.le_of_ble_eq_true rfl, Nat.le_of_ble_eq_true rfl⟩ rfl (Nat.le_of_ble_eq_true rfl) dX6_readOldPlace_1 ?_
  intro M_1 h_M_1 hf
  refine g_aload_n hC 0 dX6_readOldPlace_4 rfl rfl ?_
  refine g_geti hC okX6 sc3 7 (by decide) rfl wf_X6_33 dX6_readOldPlace_5 ?_
  refine g_nm (fun v2_2 e_v2_2 => ?_)
  replace hf := hf v2_2 e_v2_2
  have h_v2_2 : inR v2_2 := by rw [e_v2_2]; exact (h_M_1 _ _)
  refine g_istore_n hC [(2, J v2_2), (0, .ref (B + 3)), (1, J v1)] dX6_readOldPlace_8 rfl (by decide) rfl ?_
  refine g_aload_n hC 1 dX6_readOldPlace_9 rfl rfl ?_
  refine g_callVI hC (sk := []) [] (c_X6_readName l B D K   M_1 h_M_1 _ hf) yv_X6_readName wm_X6_82 okX6.1 sc3 rfl ⟨Nat.le_of_ble_eq_true rfl, Nat.le_of_ble_eq_true rfl, Nat.le_of_ble_eq_true rfl, Nat.le_of_ble_eq_true rfl⟩ rfl (Nat.le_of_ble_eq_true rfl) dX6_readOldPlace_10 ?_
  intro r_3 M_4 h_r_3 h_M_4 hf
  refine g_istore_n hC [(3, J r_3), (2, J v2_2), (0, .ref (B + 3)), (1, J v1)] dX6_readOldPlace_13 rfl (by decide) rfl ?_
  refine g_iload_n hC 0 dX6_readOldPlace_14 rfl rfl ?_
  refine g_iconst hC dX6_readOldPlace_15 ?_
  refine g_icmp_ne hC 21 h_r_3 (by unfold inR; omega) dX6_readOldPlace_16 rfl (fun c_16 => ?_) (fun c_16 => ?_)
  · replace hf := hf.1 c_16
    refine g_aload_n hC 2 dX6_readOldPlace_21 rfl rfl ?_
    refine g_getr hC okX6 sc3 1 (by decide) rfl wf_X6_18 dX6_readOldPlace_22 ?_
    refine g_aload_n hC 2 dX6_readOldPlace_25 rfl rfl ?_
    refine g_getr hC okX6 sc3 0 (by decide) rfl wf_X6_12 dX6_readOldPlace_26 ?_
    refine g_geti hC okX5 (sh_X5 (Or.inl rfl)) 0 (by decide) rfl wf_X6_36 dX6_readOldPlace_29 ?_
    refine g_iload_n hC 0 dX6_readOldPlace_32 rfl rfl ?_
    refine g_callSI hC (sk := []) [.ref (B + 10), J (M_4 4 0), J r_3] (c_X6_find l B D K 10 (M_4 4 0) r_3 (isIA_of sc10) (h_M_4 _ _) h_r_3 M_4 h_M_4 _ hf) yv_X6_find wm_X6_86 rfl ⟨Nat.le_of_ble_eq_true rfl, Nat.le_of_ble_eq_true rfl, Nat.le_of_ble_eq_true rfl, Nat.le_of_ble_eq_true rfl⟩ rfl (Nat.le_of_ble_eq_true rfl) dX6_readOldPlace_33 ?_
    rintro r_5 M_6 h_r_5 - ⟨rfl, hf⟩
    refine g_istore hC [(4, J r_5), (3, J r_3), (2, J v2_2), (0, .ref (B + 3)), (1, J v1)] dX6_readOldPlace_36 (by decide) rfl ?_
    refine g_iload hC 0 dX6_readOldPlace_38 rfl ?_
    refine g_iconst hC dX6_readOldPlace_40 ?_
    refine g_icmp_ne hC 53 h_r_5 (by unfold inR; omega) dX6_readOldPlace_41 rfl (fun c_15 => ?_) (fun c_15 => ?_)
    · replace hf := hf.1 c_15
      refine g_iload_n hC 4 dX6_readOldPlace_53 rfl rfl ?_
      refine g_iconst hC dX6_readOldPlace_54 ?_
      refine g_icmp_eq hC 81 i_v1 (by unfold inR; omega) dX6_readOldPlace_55 rfl (fun c_12 => ?_) (fun c_12 => ?_)
      · replace hf := hf.1 c_12
        refine g_iload hC 0 dX6_readOldPlace_81 rfl ?_
        exact g_reti hC h_r_5 h_M_4 hf dX6_readOldPlace_83
      · replace hf := hf.2 c_12
        refine g_aload_n hC 3 dX6_readOldPlace_58 rfl rfl ?_
        refine g_getr hC okX6 sc3 0 (by decide) rfl wf_X6_12 dX6_readOldPlace_59 ?_
        refine g_iload hC 0 dX6_readOldPlace_62 rfl ?_
        refine g_iload_n hC 4 dX6_readOldPlace_64 rfl rfl ?_
        refine g_iconst hC dX6_readOldPlace_65 ?_
        refine g_callVZ hC (sk := []) [J r_5, J v1, J (-1)] (c_X5_leads l B D K 4 r_5 v1 (-1) (Or.inl rfl) h_r_5 i_v1 (by unfold inR; omega) M_4 h_M_4 _ hf) yv_X5_leads wm_X6_111 okX5.1 (sh_X5 (Or.inl rfl)) rfl ⟨Nat.le_of_ble_eq_true rfl, Nat.le_of_ble_eq_true rfl, Nat.le_of_ble_eq_true rfl, Nat.le_of_ble_eq_true rfl⟩ rfl (Nat.le_of_ble_eq_true rfl) dX6_readOldPlace_66 ?_
        rintro r_7 M_8 h_r_7 - ⟨rfl, hf⟩
        refine g_if_eq hC 81 (zi_ h_r_7) dX6_readOldPlace_69 rfl (fun c_11 => ?_) (fun c_11 => ?_)
        · replace hf := hf.1 c_11
          refine g_iload hC 0 dX6_readOldPlace_81 rfl ?_
          exact g_reti hC h_r_5 h_M_4 hf dX6_readOldPlace_83
        · replace hf := hf.2 c_11
          refine g_aload_n hC 3 dX6_readOldPlace_72 rfl rfl ?_
          refine g_iconst hC dX6_readOldPlace_73 ?_
          refine g_iload_n hC 2 dX6_readOldPlace_74 rfl rfl ?_
          refine g_callVZ hC (sk := []) [J 4, J v2_2] (c_X6_fail l B D K 4 v2_2 (by unfold inR; omega) h_v2_2 M_4 h_M_4 _ hf) yv_X6_fail wm_X6_78 okX6.1 sc3 rfl ⟨Nat.le_of_ble_eq_true rfl, Nat.le_of_ble_eq_true rfl, Nat.le_of_ble_eq_true rfl, Nat.le_of_ble_eq_true rfl⟩ rfl (Nat.le_of_ble_eq_true rfl) dX6_readOldPlace_75 ?_
          intro r_9 M_10 h_r_9 h_M_10 hf
          refine g_pop hC dX6_readOldPlace_78 rfl ?_
          refine g_iconst hC dX6_readOldPlace_79 ?_
          exact g_reti hC (by unfold inR; omega) h_M_10 hf dX6_readOldPlace_80
    · replace hf := hf.2 c_15
      refine g_aload_n hC 3 dX6_readOldPlace_44 rfl rfl ?_
      refine g_iconst hC dX6_readOldPlace_45 ?_
      refine g_iload_n hC 2 dX6_readOldPlace_46 rfl rfl ?_
      refine g_callVZ hC (sk := []) [J 3, J v2_2] (c_X6_fail l B D K 3 v2_2 (by unfold inR; omega) h_v2_2 M_4 h_M_4 _ hf) yv_X6_fail wm_X6_78 okX6.1 sc3 rfl ⟨Nat.le_of_ble_eq_true rfl, Nat.le_of_ble_eq_true rfl, Nat.le_of_ble_eq_true rfl, Nat.le_of_ble_eq_true rfl⟩ rfl (Nat.le_of_ble_eq_true rfl) dX6_readOldPlace_47 ?_
      intro r_13 M_14 h_r_13 h_M_14 hf
      refine g_pop hC dX6_readOldPlace_50 rfl ?_
      refine g_iconst hC dX6_readOldPlace_51 ?_
      exact g_reti hC (by unfold inR; omega) h_M_14 hf dX6_readOldPlace_52
  · replace hf := hf.2 c_16
    refine g_iconst hC dX6_readOldPlace_19 ?_
    exact g_reti hC (by unfold inR; omega) h_M_4 hf dX6_readOldPlace_20
set_option maxHeartbeats 4000000 in
set_option maxRecDepth 100000 in
theorem c_X6_isDigit (l : Launch) (B : Nat) (D : va_G) (K : Nat → ClassId) (v0 : Int) (i_v0 : inR v0) (M : Mem) (hM : MR M) (Q : Int → Prop) (hf : f_X6_isDigit v0 M Q) : CtZ l yX6_isDigit cX6_isDigit 1 0 0 B D K [J v0] M (fun r M1 => M = M1 ∧ Q r) := by
  refine ct_z (by decide) (Nat.le_of_ble_eq_true rfl) ?_
  intro p e s m args below meth c hC
  have hC : Cx p s m args meth c D K cX6_isDigit 1 RX6 (some .boolean) := hC
  unfold f_X6_isDigit at hf
  refine (show G p l e (rmF 0 0) s m args below meth c B D K 1 0 0 (ZZ below args s B D K (fun r M1 => M = M1 ∧ Q r)) M 0 [(0, J v0)] [] from ?_)
  refine g_iload_n hC 0 dX6_isDigit_0 rfl rfl ?_
  refine g_bipush hC dX6_isDigit_1 (by decide) ?_
  refine g_icmp_lt hC 16 i_v0 (by unfold inR; omega) dX6_isDigit_3 rfl (fun c_2 => ?_) (fun c_2 => ?_)
  · replace hf := hf.1 c_2
    refine g_iconst hC dX6_isDigit_16 ?_
    exact g_retz hC (Or.inl rfl) hM ⟨rfl, hf⟩ dX6_isDigit_17
  · replace hf := hf.2 c_2
    refine g_iload_n hC 0 dX6_isDigit_6 rfl rfl ?_
    refine g_bipush hC dX6_isDigit_7 (by decide) ?_
    refine g_icmp_gt hC 16 i_v0 (by unfold inR; omega) dX6_isDigit_9 rfl (fun c_1 => ?_) (fun c_1 => ?_)
    · replace hf := hf.1 c_1
      refine g_iconst hC dX6_isDigit_16 ?_
      exact g_retz hC (Or.inl rfl) hM ⟨rfl, hf⟩ dX6_isDigit_17
    · replace hf := hf.2 c_1
      refine g_iconst hC dX6_isDigit_12 ?_
      refine g_goto hC 17 dX6_isDigit_13 rfl ?_
      exact g_retz hC (Or.inr rfl) hM ⟨rfl, hf⟩ dX6_isDigit_17
set_option maxHeartbeats 4000000 in
set_option maxRecDepth 100000 in
theorem c_X6_readNumber (l : Launch) (B : Nat) (D : va_G) (K : Nat → ClassId) (v1 : Int) (i_v1 : inR v1) (M : Mem) (hM : MR M) (Q : Int → Mem → Prop) (hf : f_X6_readNumber v1 M Q) : CtI l yX6_readNumber cX6_readNumber 5 2 41 B D K [.ref (B + 3), J v1] M Q := by
  refine ct_i (by decide) (Nat.le_of_ble_eq_true rfl) ?_
  intro p e s m args below meth c hC
  have hC : Cx p s m args meth c D K cX6_readNumber 5 RX6 (some .int) := hC
  unfold f_X6_readNumber at hf
  refine (show G p l e (rmF 2 41) s m args below meth c B D K 5 0 0 (ZI below args s B D K Q) M 0 [(0, .ref (B + 3)), (1, J v1)] [] from ?_)
  refine g_aload_n hC 0 dX6_readNumber_0 rfl rfl ?_
  refine g_getr hC okX6 sc3 6 (by decide) rfl wf_X6_29 dX6_readNumber_1 ?_
  refine g_aload_n hC 0 dX6_readNumber_4 rfl rfl ?_
  refine g_geti hC okX6 sc3 7 (by decide) rfl wf_X6_33 dX6_readNumber_5 ?_
  refine g_callVI hC (sk := []) [J (M 3 7)] (c_X10_at l B D K (M 3 7) (hM _ _) M hM _ hf) yv_X10_at wm_X6_124 okX10.1 sc1 rfl ⟨Nat.le_of_ble_eq_true rfl, Nat.le_of_ble_eq_true rfl, Nat.le_of_ble_eq_true rfl, Nat.le_of_ble_eq_true rfl⟩ rfl (Nat.le_of_ble_eq_true rfl) dX6_readNumber_8 ?_
  rintro r_1 M_2 h_r_1 - ⟨rfl, hf⟩
  refine g_callSZ hC (sk := []) [J r_1] (c_X6_isDigit l B D K r_1 h_r_1 M hM _ hf) yv_X6_isDigit wm_X6_126 rfl ⟨Nat.le_of_ble_eq_true rfl, Nat.le_of_ble_eq_true rfl, Nat.le_of_ble_eq_true rfl, Nat.le_of_ble_eq_true rfl⟩ rfl (Nat.le_of_ble_eq_true rfl) dX6_readNumber_11 ?_
  rintro r_3 M_4 h_r_3 - ⟨rfl, hf⟩
  refine g_if_eq hC 29 (zi_ h_r_3) dX6_readNumber_14 rfl (fun c_47 => ?_) (fun c_47 => ?_)
  · replace hf := hf.1 c_47
    refine g_aload_n hC 0 dX6_readNumber_29 rfl rfl ?_
    refine g_callVV hC (sk := []) [] (c_X6_skipBlanks l B D K   M hM _ hf) yv_X6_skipBlanks wm_X6_52 okX6.1 sc3 rfl ⟨Nat.le_of_ble_eq_true rfl, Nat.le_of_ble_eq_true rfl, Nat.le_of_ble_eq_true rfl, Nat.le_of_ble_eq_true rfl⟩ rfl (Nat.le_of_ble_eq_true rfl) dX6_readNumber_30 ?_
    intro M_5 h_M_5 hf
    refine g_aload_n hC 0 dX6_readNumber_33 rfl rfl ?_
    refine g_geti hC okX6 sc3 7 (by decide) rfl wf_X6_33 dX6_readNumber_34 ?_
    refine g_nm (fun v2_6 e_v2_6 => ?_)
    replace hf := hf v2_6 e_v2_6
    have h_v2_6 : inR v2_6 := by rw [e_v2_6]; exact (h_M_5 _ _)
    refine g_istore_n hC [(2, J v2_6), (0, .ref (B + 3)), (1, J v1)] dX6_readNumber_37 rfl (by decide) rfl ?_
    refine g_iconst hC dX6_readNumber_38 ?_
    refine g_istore_n hC [(3, J 0), (2, J v2_6), (0, .ref (B + 3)), (1, J v1)] dX6_readNumber_39 rfl (by decide) rfl ?_
    refine g_iconst hC dX6_readNumber_40 ?_
    refine g_istore hC [(4, J 0), (3, J 0), (2, J v2_6), (0, .ref (B + 3)), (1, J v1)] dX6_readNumber_41 (by decide) rfl ?_
    refine jn_elim (fun (k : Int → Mem → Prop) => ∀ (v3_7 : Int) (M_8 : Mem), k v3_7 M_8 → (inR v3_7) → (MR M_8) → G p l e (rmF 2 41) s m args below meth c B D K 5 0 0 (ZI below args s B D K Q) M_8 102 [(0, .ref (B + 3)), (1, J v1), (2, J v2_6), (3, J v3_7)] []) hf ?_ ?_
    · intro v3_7 M_8 hf h_v3_7 h_M_8
      refine g_aload_n hC 0 dX6_readNumber_102 rfl rfl ?_
      refine g_geti hC okX6 sc3 7 (by decide) rfl wf_X6_33 dX6_readNumber_103 ?_
      refine g_iload_n hC 2 dX6_readNumber_106 rfl rfl ?_
      refine jn_elim (fun (k : Mem → Prop) => ∀ (M_9 : Mem), k M_9 → (MR M_9) → G p l e (rmF 2 41) s m args below meth c B D K 5 0 0 (ZI below args s B D K Q) M_9 127 [(0, .ref (B + 3))] []) hf ?_ ?_
      · intro M_9 hf h_M_9
        refine g_aload_n hC 0 dX6_readNumber_127 rfl rfl ?_
        refine g_iconst hC dX6_readNumber_128 ?_
        refine g_aload_n hC 0 dX6_readNumber_129 rfl rfl ?_
        refine g_geti hC okX6 sc3 7 (by decide) rfl wf_X6_33 dX6_readNumber_130 ?_
        refine g_callVZ hC (sk := []) [J 1, J (M_9 3 7)] (c_X6_fail l B D K 1 (M_9 3 7) (by unfold inR; omega) (h_M_9 _ _) M_9 h_M_9 _ hf) yv_X6_fail wm_X6_78 okX6.1 sc3 rfl ⟨Nat.le_of_ble_eq_true rfl, Nat.le_of_ble_eq_true rfl, Nat.le_of_ble_eq_true rfl, Nat.le_of_ble_eq_true rfl⟩ rfl (Nat.le_of_ble_eq_true rfl) dX6_readNumber_133 ?_
        intro r_10 M_11 h_r_10 h_M_11 hf
        refine g_pop hC dX6_readNumber_136 rfl ?_
        refine g_iconst hC dX6_readNumber_137 ?_
        exact g_reti hC (by unfold inR; omega) h_M_11 hf dX6_readNumber_138
      · intro J127 hJ127 hf
        refine g_icmp_eq hC 127 (h_M_8 _ _) h_v2_6 dX6_readNumber_107 rfl (fun c_27 => ?_) (fun c_27 => ?_)
        · replace hf := hf.1 c_27
          refine g_sub [(0, .ref (B + 3))] [0] rfl ?_
          exact hJ127 M_8 hf h_M_8
        · replace hf := hf.2 c_27
          refine g_aload_n hC 0 dX6_readNumber_110 rfl rfl ?_
          refine g_getr hC okX6 sc3 6 (by decide) rfl wf_X6_29 dX6_readNumber_111 ?_
          refine g_aload_n hC 0 dX6_readNumber_114 rfl rfl ?_
          refine g_geti hC okX6 sc3 7 (by decide) rfl wf_X6_33 dX6_readNumber_115 ?_
          refine g_callVI hC (sk := []) [J (M_8 3 7)] (c_X10_at l B D K (M_8 3 7) (h_M_8 _ _) M_8 h_M_8 _ hf) yv_X10_at wm_X6_124 okX10.1 sc1 rfl ⟨Nat.le_of_ble_eq_true rfl, Nat.le_of_ble_eq_true rfl, Nat.le_of_ble_eq_true rfl, Nat.le_of_ble_eq_true rfl⟩ rfl (Nat.le_of_ble_eq_true rfl) dX6_readNumber_118 ?_
          rintro r_12 M_13 h_r_12 - ⟨rfl, hf⟩
          refine g_callSZ hC (sk := []) [J r_12] (c_X6_isDigit l B D K r_12 h_r_12 M_8 h_M_8 _ hf) yv_X6_isDigit wm_X6_126 rfl ⟨Nat.le_of_ble_eq_true rfl, Nat.le_of_ble_eq_true rfl, Nat.le_of_ble_eq_true rfl, Nat.le_of_ble_eq_true rfl⟩ rfl (Nat.le_of_ble_eq_true rfl) dX6_readNumber_121 ?_
          rintro r_14 M_15 h_r_14 - ⟨rfl, hf⟩
          refine g_if_eq hC 139 (zi_ h_r_14) dX6_readNumber_124 rfl (fun c_26 => ?_) (fun c_26 => ?_)
          · replace hf := hf.1 c_26
            refine g_iload_n hC 3 dX6_readNumber_139 rfl rfl ?_
            refine g_iload_n hC 1 dX6_readNumber_140 rfl rfl ?_
            refine g_icmp_ge hC 153 h_v3_7 i_v1 dX6_readNumber_141 rfl (fun c_25 => ?_) (fun c_25 => ?_)
            · replace hf := hf.1 c_25
              refine g_aload_n hC 0 dX6_readNumber_153 rfl rfl ?_
              refine g_getr hC okX6 sc3 6 (by decide) rfl wf_X6_29 dX6_readNumber_154 ?_
              refine g_aload_n hC 0 dX6_readNumber_157 rfl rfl ?_
              refine g_geti hC okX6 sc3 7 (by decide) rfl wf_X6_33 dX6_readNumber_158 ?_
              refine g_callVI hC (sk := []) [J (M_8 3 7)] (c_X10_at l B D K (M_8 3 7) (h_M_8 _ _) M_8 h_M_8 _ hf) yv_X10_at wm_X6_124 okX10.1 sc1 rfl ⟨Nat.le_of_ble_eq_true rfl, Nat.le_of_ble_eq_true rfl, Nat.le_of_ble_eq_true rfl, Nat.le_of_ble_eq_true rfl⟩ rfl (Nat.le_of_ble_eq_true rfl) dX6_readNumber_161 ?_
              rintro r_16 M_17 h_r_16 - ⟨rfl, hf⟩
              refine g_callSZ hC (sk := []) [J r_16] (c_X6_isLetter l B D K r_16 h_r_16 M_8 h_M_8 _ hf) yv_X6_isLetter wm_X6_129 rfl ⟨Nat.le_of_ble_eq_true rfl, Nat.le_of_ble_eq_true rfl, Nat.le_of_ble_eq_true rfl, Nat.le_of_ble_eq_true rfl⟩ rfl (Nat.le_of_ble_eq_true rfl) dX6_readNumber_164 ?_
              rintro r_18 M_19 h_r_18 - ⟨rfl, hf⟩
              refine g_if_eq hC 182 (zi_ h_r_18) dX6_readNumber_167 rfl (fun c_22 => ?_) (fun c_22 => ?_)
              · replace hf := hf.1 c_22
                refine g_iload_n hC 3 dX6_readNumber_182 rfl rfl ?_
                exact g_reti hC h_v3_7 h_M_8 hf dX6_readNumber_183
              · replace hf := hf.2 c_22
                refine g_aload_n hC 0 dX6_readNumber_170 rfl rfl ?_
                refine g_iconst hC dX6_readNumber_171 ?_
                refine g_aload_n hC 0 dX6_readNumber_172 rfl rfl ?_
                refine g_geti hC okX6 sc3 7 (by decide) rfl wf_X6_33 dX6_readNumber_173 ?_
                refine g_callVZ hC (sk := []) [J 1, J (M_8 3 7)] (c_X6_fail l B D K 1 (M_8 3 7) (by unfold inR; omega) (h_M_8 _ _) M_8 h_M_8 _ hf) yv_X6_fail wm_X6_78 okX6.1 sc3 rfl ⟨Nat.le_of_ble_eq_true rfl, Nat.le_of_ble_eq_true rfl, Nat.le_of_ble_eq_true rfl, Nat.le_of_ble_eq_true rfl⟩ rfl (Nat.le_of_ble_eq_true rfl) dX6_readNumber_176 ?_
                intro r_20 M_21 h_r_20 h_M_21 hf
                refine g_pop hC dX6_readNumber_179 rfl ?_
                refine g_iconst hC dX6_readNumber_180 ?_
                exact g_reti hC (by unfold inR; omega) h_M_21 hf dX6_readNumber_181
            · replace hf := hf.2 c_25
              refine g_aload_n hC 0 dX6_readNumber_144 rfl rfl ?_
              refine g_iconst hC dX6_readNumber_145 ?_
              refine g_iload_n hC 2 dX6_readNumber_146 rfl rfl ?_
              refine g_callVZ hC (sk := []) [J 2, J v2_6] (c_X6_fail l B D K 2 v2_6 (by unfold inR; omega) h_v2_6 M_8 h_M_8 _ hf) yv_X6_fail wm_X6_78 okX6.1 sc3 rfl ⟨Nat.le_of_ble_eq_true rfl, Nat.le_of_ble_eq_true rfl, Nat.le_of_ble_eq_true rfl, Nat.le_of_ble_eq_true rfl⟩ rfl (Nat.le_of_ble_eq_true rfl) dX6_readNumber_147 ?_
              intro r_23 M_24 h_r_23 h_M_24 hf
              refine g_pop hC dX6_readNumber_150 rfl ?_
              refine g_iconst hC dX6_readNumber_151 ?_
              exact g_reti hC (by unfold inR; omega) h_M_24 hf dX6_readNumber_152
          · replace hf := hf.2 c_26
            refine g_sub [(0, .ref (B + 3))] [0] rfl ?_
            exact hJ127 M_8 hf h_M_8
    · intro J102 hJ102 hf
      refine g_sub [(0, .ref (B + 3)), (1, J v1), (2, J v2_6), (3, J 0), (4, J 0)] [3, 4, 2, 1, 0] rfl ?_
      refine wl3_elim (fun (v3_28 : Int) (v4_29 : Int) (M_30 : Mem) => inR v3_28 → inR v4_29 → MR M_30 → G p l e (rmF 2 41) s m args below meth c B D K 5 0 0 (ZI below args s B D K Q) M_30 43 [(0, .ref (B + 3)), (1, J v1), (2, J v2_6), (3, J v3_28), (4, J v4_29)] []) ?_ 5000 0 0 M_5 hf (by unfold inR; omega) (by unfold inR; omega) h_M_5
      intro rec43 ih43 v3_28 v4_29 M_30 hf h_v3_28 h_v4_29 h_M_30
      unfold X6_readNumber_b43 at hf
      refine g_iload hC 4 dX6_readNumber_43 rfl ?_
      refine g_iconst hC dX6_readNumber_45 ?_
      refine g_icmp_ge hC 102 h_v4_29 (by unfold inR; omega) dX6_readNumber_46 rfl (fun c_44 => ?_) (fun c_44 => ?_)
      · replace hf := hf.1 c_44
        refine g_sub [(0, .ref (B + 3)), (1, J v1), (2, J v2_6), (3, J v3_28)] [0, 1, 2, 3] rfl ?_
        exact hJ102 v3_28 M_30 hf h_v3_28 h_M_30
      · replace hf := hf.2 c_44
        refine g_aload_n hC 0 dX6_readNumber_49 rfl rfl ?_
        refine g_getr hC okX6 sc3 6 (by decide) rfl wf_X6_29 dX6_readNumber_50 ?_
        refine g_aload_n hC 0 dX6_readNumber_53 rfl rfl ?_
        refine g_geti hC okX6 sc3 7 (by decide) rfl wf_X6_33 dX6_readNumber_54 ?_
        refine g_callVI hC (sk := []) [J (M_30 3 7)] (c_X10_at l B D K (M_30 3 7) (h_M_30 _ _) M_30 h_M_30 _ hf) yv_X10_at wm_X6_124 okX10.1 sc1 rfl ⟨Nat.le_of_ble_eq_true rfl, Nat.le_of_ble_eq_true rfl, Nat.le_of_ble_eq_true rfl, Nat.le_of_ble_eq_true rfl⟩ rfl (Nat.le_of_ble_eq_true rfl) dX6_readNumber_57 ?_
        rintro r_31 M_32 h_r_31 - ⟨rfl, hf⟩
        refine g_callSZ hC (sk := []) [J r_31] (c_X6_isDigit l B D K r_31 h_r_31 M_30 h_M_30 _ hf) yv_X6_isDigit wm_X6_126 rfl ⟨Nat.le_of_ble_eq_true rfl, Nat.le_of_ble_eq_true rfl, Nat.le_of_ble_eq_true rfl, Nat.le_of_ble_eq_true rfl⟩ rfl (Nat.le_of_ble_eq_true rfl) dX6_readNumber_60 ?_
        rintro r_33 M_34 h_r_33 - ⟨rfl, hf⟩
        refine g_if_eq hC 102 (zi_ h_r_33) dX6_readNumber_63 rfl (fun c_43 => ?_) (fun c_43 => ?_)
        · replace hf := hf.1 c_43
          refine g_sub [(0, .ref (B + 3)), (1, J v1), (2, J v2_6), (3, J v3_28)] [0, 1, 2, 3] rfl ?_
          exact hJ102 v3_28 M_30 hf h_v3_28 h_M_30
        · replace hf := hf.2 c_43
          refine g_bipush hC dX6_readNumber_66 (by decide) ?_
          refine g_iload_n hC 3 dX6_readNumber_68 rfl rfl ?_
          refine g_imul hC dX6_readNumber_69 ?_
          refine g_aload_n hC 0 dX6_readNumber_70 rfl rfl ?_
          refine g_getr hC okX6 sc3 6 (by decide) rfl wf_X6_29 dX6_readNumber_71 ?_
          refine g_aload_n hC 0 dX6_readNumber_74 rfl rfl ?_
          refine g_geti hC okX6 sc3 7 (by decide) rfl wf_X6_33 dX6_readNumber_75 ?_
          refine g_callVI hC (sk := [J (10 * v3_28)]) [J (M_30 3 7)] (c_X10_at l B D K (M_30 3 7) (h_M_30 _ _) M_30 h_M_30 _ hf) yv_X10_at wm_X6_124 okX10.1 sc1 rfl ⟨Nat.le_of_ble_eq_true rfl, Nat.le_of_ble_eq_true rfl, Nat.le_of_ble_eq_true rfl, Nat.le_of_ble_eq_true rfl⟩ rfl (Nat.le_of_ble_eq_true rfl) dX6_readNumber_78 ?_
          rintro r_35 M_36 h_r_35 - ⟨rfl, hf⟩
          refine g_iadd hC dX6_readNumber_81 ?_
          refine g_bipush hC dX6_readNumber_82 (by decide) ?_
          refine g_isub hC dX6_readNumber_84 ?_
          obtain ⟨q_37, hf⟩ := hf
          refine g_nm (fun v3_38 e_v3_38 => ?_)
          replace hf := hf v3_38 e_v3_38
          have h_v3_38 : inR v3_38 := by rw [e_v3_38]; exact q_37
          refine g_istore_n hC [(3, J v3_38), (0, .ref (B + 3)), (1, J v1), (2, J v2_6), (4, J v4_29)] dX6_readNumber_85 rfl (by decide) rfl ?_
          refine g_aload_n hC 1 dX6_readNumber_86 rfl rfl ?_
          refine g_dup hC dX6_readNumber_87 rfl ?_
          refine g_geti hC okX6 sc3 7 (by decide) rfl wf_X6_33 dX6_readNumber_88 ?_
          refine g_iconst hC dX6_readNumber_91 ?_
          refine g_iadd hC dX6_readNumber_92 ?_
          obtain ⟨q_39, hf⟩ := hf
          refine g_puti hC okX6 tnX6 sc3 7 (by decide) rfl rfl (by decide) wf_X6_33 dX6_readNumber_93 ?_
          refine g_nmM (fun M_40 e_M_40 => ?_)
          replace hf := hf M_40 e_M_40
          have h_M_40 : MR M_40 := by rw [e_M_40]; exact MR_st h_M_30 q_39
          obtain ⟨q_42, hf⟩ := hf
          obtain ⟨v4_41, e_v4_41⟩ : ∃ z : Int, z = v4_29 + 1 := ⟨_, rfl⟩
          replace hf := hf v4_41 e_v4_41
          have h_v4_41 : inR v4_41 := by rw [e_v4_41]; exact q_42
          refine g_iincv hC 4 e_v4_41 [(4, J v4_41), (3, J v3_38), (0, .ref (B + 3)), (1, J v1), (2, J v2_6)] dX6_readNumber_96 rfl (by decide) rfl ?_
          refine g_goto hC 43 dX6_readNumber_99 rfl ?_
          refine g_sub [(0, .ref (B + 3)), (1, J v1), (2, J v2_6), (3, J v3_38), (4, J v4_41)] [2, 3, 4, 1, 0] rfl ?_
          exact ih43 v3_38 v4_41 M_40 hf h_v3_38 h_v4_41 h_M_40
  · replace hf := hf.2 c_47
    refine g_aload_n hC 0 dX6_readNumber_17 rfl rfl ?_
    refine g_iconst hC dX6_readNumber_18 ?_
    refine g_aload_n hC 0 dX6_readNumber_19 rfl rfl ?_
    refine g_geti hC okX6 sc3 7 (by decide) rfl wf_X6_33 dX6_readNumber_20 ?_
    refine g_callVZ hC (sk := []) [J 1, J (M 3 7)] (c_X6_fail l B D K 1 (M 3 7) (by unfold inR; omega) (hM _ _) M hM _ hf) yv_X6_fail wm_X6_78 okX6.1 sc3 rfl ⟨Nat.le_of_ble_eq_true rfl, Nat.le_of_ble_eq_true rfl, Nat.le_of_ble_eq_true rfl, Nat.le_of_ble_eq_true rfl⟩ rfl (Nat.le_of_ble_eq_true rfl) dX6_readNumber_23 ?_
    intro r_45 M_46 h_r_45 h_M_46 hf
    refine g_pop hC dX6_readNumber_26 rfl ?_
    refine g_iconst hC dX6_readNumber_27 ?_
    exact g_reti hC (by unfold inR; omega) h_M_46 hf dX6_readNumber_28
set_option maxHeartbeats 4000000 in
set_option maxRecDepth 100000 in
theorem c_X6_readRiver (l : Launch) (B : Nat) (D : va_G) (K : Nat → ClassId)   (M : Mem) (hM : MR M) (Q : Int → Mem → Prop) (hf : f_X6_readRiver  M Q) : CtI l yX6_readRiver cX6_readRiver 4 3 66 B D K [.ref (B + 3)] M Q := by
  refine ct_i (by decide) (Nat.le_of_ble_eq_true rfl) ?_
  intro p e s m args below meth c hC
  have hC : Cx p s m args meth c D K cX6_readRiver 4 RX6 (some .int) := hC
  unfold f_X6_readRiver at hf
  refine (show G p l e (rmF 3 66) s m args below meth c B D K 4 0 0 (ZI below args s B D K Q) M 0 [(0, .ref (B + 3))] [] from ?_)
  refine g_aload_n hC 0 dX6_readRiver_0 rfl rfl ?_
  refine g_callVV hC (sk := []) [] (c_X6_skipBlanks l B D K   M hM _ hf) yv_X6_skipBlanks wm_X6_52 okX6.1 sc3 rfl ⟨Nat.le_of_ble_eq_true rfl, Nat.le_of_ble_eq_true rfl, Nat.le_of_ble_eq_true rfl, Nat.le_of_ble_eq_true rfl⟩ rfl (Nat.le_of_ble_eq_true rfl) dX6_readRiver_1 ?_
  intro M_1 h_M_1 hf
  refine g_aload_n hC 0 dX6_readRiver_4 rfl rfl ?_
  refine g_geti hC okX6 sc3 7 (by decide) rfl wf_X6_33 dX6_readRiver_5 ?_
  refine g_nm (fun v1_2 e_v1_2 => ?_)
  replace hf := hf v1_2 e_v1_2
  have h_v1_2 : inR v1_2 := by rw [e_v1_2]; exact (h_M_1 _ _)
  refine g_istore_n hC [(1, J v1_2), (0, .ref (B + 3))] dX6_readRiver_8 rfl (by decide) rfl ?_
  refine g_aload_n hC 1 dX6_readRiver_9 rfl rfl ?_
  refine g_callVI hC (sk := []) [] (c_X6_readName l B D K   M_1 h_M_1 _ hf) yv_X6_readName wm_X6_82 okX6.1 sc3 rfl ⟨Nat.le_of_ble_eq_true rfl, Nat.le_of_ble_eq_true rfl, Nat.le_of_ble_eq_true rfl, Nat.le_of_ble_eq_true rfl⟩ rfl (Nat.le_of_ble_eq_true rfl) dX6_readRiver_10 ?_
  intro r_3 M_4 h_r_3 h_M_4 hf
  refine g_istore_n hC [(2, J r_3), (1, J v1_2), (0, .ref (B + 3))] dX6_readRiver_13 rfl (by decide) rfl ?_
  refine g_iload_n hC 0 dX6_readRiver_14 rfl rfl ?_
  refine g_iconst hC dX6_readRiver_15 ?_
  refine g_icmp_ne hC 21 h_r_3 (by unfold inR; omega) dX6_readRiver_16 rfl (fun c_16 => ?_) (fun c_16 => ?_)
  · replace hf := hf.1 c_16
    refine g_aload_n hC 2 dX6_readRiver_21 rfl rfl ?_
    refine g_getr hC okX6 sc3 2 (by decide) rfl wf_X6_22 dX6_readRiver_22 ?_
    refine g_aload_n hC 2 dX6_readRiver_25 rfl rfl ?_
    refine g_geti hC okX6 sc3 3 (by decide) rfl wf_X6_42 dX6_readRiver_26 ?_
    refine g_iload_n hC 0 dX6_readRiver_29 rfl rfl ?_
    refine g_callSI hC (sk := []) [.ref (B + 11), J (M_4 3 3), J r_3] (c_X6_find l B D K 11 (M_4 3 3) r_3 (isIA_of sc11) (h_M_4 _ _) h_r_3 M_4 h_M_4 _ hf) yv_X6_find wm_X6_86 rfl ⟨Nat.le_of_ble_eq_true rfl, Nat.le_of_ble_eq_true rfl, Nat.le_of_ble_eq_true rfl, Nat.le_of_ble_eq_true rfl⟩ rfl (Nat.le_of_ble_eq_true rfl) dX6_readRiver_30 ?_
    rintro r_5 M_6 h_r_5 - ⟨rfl, hf⟩
    refine g_istore_n hC [(3, J r_5), (2, J r_3), (1, J v1_2), (0, .ref (B + 3))] dX6_readRiver_33 rfl (by decide) rfl ?_
    refine g_iload_n hC 0 dX6_readRiver_34 rfl rfl ?_
    refine g_iconst hC dX6_readRiver_35 ?_
    refine g_icmp_eq hC 41 h_r_5 (by unfold inR; omega) dX6_readRiver_36 rfl (fun c_15 => ?_) (fun c_15 => ?_)
    · replace hf := hf.1 c_15
      refine g_aload_n hC 3 dX6_readRiver_41 rfl rfl ?_
      refine g_geti hC okX6 sc3 3 (by decide) rfl wf_X6_42 dX6_readRiver_42 ?_
      refine g_bipush hC dX6_readRiver_45 (by decide) ?_
      refine g_icmp_lt hC 59 (h_M_4 _ _) (by unfold inR; omega) dX6_readRiver_47 rfl (fun c_14 => ?_) (fun c_14 => ?_)
      · replace hf := hf.1 c_14
        refine g_aload_n hC 3 dX6_readRiver_59 rfl rfl ?_
        refine g_getr hC okX6 sc3 2 (by decide) rfl wf_X6_22 dX6_readRiver_60 ?_
        refine g_aload_n hC 3 dX6_readRiver_63 rfl rfl ?_
        refine g_geti hC okX6 sc3 3 (by decide) rfl wf_X6_42 dX6_readRiver_64 ?_
        refine g_iload_n hC 1 dX6_readRiver_67 rfl rfl ?_
        obtain ⟨q_7, hf⟩ := hf
        refine g_iastk ((M_4 3 3).toNat) hC sc11 q_7.1 q_7.2 rfl dX6_readRiver_68 ?_
        refine g_nmM (fun M_8 e_M_8 => ?_)
        replace hf := hf M_8 e_M_8
        have h_M_8 : MR M_8 := by rw [e_M_8]; exact MR_st h_M_4 h_r_3
        refine g_aload_n hC 3 dX6_readRiver_69 rfl rfl ?_
        refine g_dup hC dX6_readRiver_70 rfl ?_
        refine g_geti hC okX6 sc3 3 (by decide) rfl wf_X6_42 dX6_readRiver_71 ?_
        refine g_iconst hC dX6_readRiver_74 ?_
        refine g_iadd hC dX6_readRiver_75 ?_
        obtain ⟨q_9, hf⟩ := hf
        refine g_puti hC okX6 tnX6 sc3 3 (by decide) rfl rfl (by decide) wf_X6_42 dX6_readRiver_76 ?_
        refine g_nmM (fun M_10 e_M_10 => ?_)
        replace hf := hf M_10 e_M_10
        have h_M_10 : MR M_10 := by rw [e_M_10]; exact MR_st h_M_8 q_9
        refine g_aload_n hC 3 dX6_readRiver_79 rfl rfl ?_
        refine g_geti hC okX6 sc3 3 (by decide) rfl wf_X6_42 dX6_readRiver_80 ?_
        refine g_iconst hC dX6_readRiver_83 ?_
        refine g_isub hC dX6_readRiver_84 ?_
        obtain ⟨q_11, hf⟩ := hf
        exact g_reti hC q_11 h_M_10 hf dX6_readRiver_85
      · replace hf := hf.2 c_14
        refine g_aload_n hC 3 dX6_readRiver_50 rfl rfl ?_
        refine g_iconst hC dX6_readRiver_51 ?_
        refine g_iload_n hC 2 dX6_readRiver_52 rfl rfl ?_
        refine g_callVZ hC (sk := []) [J 5, J v1_2] (c_X6_fail l B D K 5 v1_2 (by unfold inR; omega) h_v1_2 M_4 h_M_4 _ hf) yv_X6_fail wm_X6_78 okX6.1 sc3 rfl ⟨Nat.le_of_ble_eq_true rfl, Nat.le_of_ble_eq_true rfl, Nat.le_of_ble_eq_true rfl, Nat.le_of_ble_eq_true rfl⟩ rfl (Nat.le_of_ble_eq_true rfl) dX6_readRiver_53 ?_
        intro r_12 M_13 h_r_12 h_M_13 hf
        refine g_pop hC dX6_readRiver_56 rfl ?_
        refine g_iconst hC dX6_readRiver_57 ?_
        exact g_reti hC (by unfold inR; omega) h_M_13 hf dX6_readRiver_58
    · replace hf := hf.2 c_15
      refine g_iload_n hC 0 dX6_readRiver_39 rfl rfl ?_
      exact g_reti hC h_r_5 h_M_4 hf dX6_readRiver_40
  · replace hf := hf.2 c_16
    refine g_iconst hC dX6_readRiver_19 ?_
    exact g_reti hC (by unfold inR; omega) h_M_4 hf dX6_readRiver_20
set_option maxHeartbeats 4000000 in
set_option maxRecDepth 100000 in
theorem c_X6_readReach (l : Launch) (B : Nat) (D : va_G) (K : Nat → ClassId)   (M : Mem) (hM : MR M) (Q : Int → Mem → Prop) (hf : f_X6_readReach  M Q) : CtZ l yX6_readReach cX6_readReach 7 4 90 B D K [.ref (B + 3)] M Q := by
  refine ct_z (by decide) (Nat.le_of_ble_eq_true rfl) ?_
  intro p e s m args below meth c hC
  have hC : Cx p s m args meth c D K cX6_readReach 7 RX6 (some .boolean) := hC
  unfold f_X6_readReach at hf
  refine (show G p l e (rmF 4 90) s m args below meth c B D K 7 0 0 (ZZ below args s B D K Q) M 0 [(0, .ref (B + 3))] [] from ?_)
  refine g_aload_n hC 0 dX6_readReach_0 rfl rfl ?_
  refine g_geti hC okX6 sc3 7 (by decide) rfl wf_X6_33 dX6_readReach_1 ?_
  refine g_nm (fun v1_1 e_v1_1 => ?_)
  replace hf := hf v1_1 e_v1_1
  have h_v1_1 : inR v1_1 := by rw [e_v1_1]; exact (hM _ _)
  refine g_istore_n hC [(1, J v1_1), (0, .ref (B + 3))] dX6_readReach_4 rfl (by decide) rfl ?_
  refine g_aload_n hC 1 dX6_readReach_5 rfl rfl ?_
  refine g_ldc (n := 8488114) hC wc_X6_90 (by decide) dX6_readReach_6 ?_
  refine g_callVZ hC (sk := []) [J 8488114] (c_X6_wantWord l B D K 8488114 (by unfold inR; omega) M hM _ hf) yv_X6_wantWord wm_X6_64 okX6.1 sc3 rfl ⟨Nat.le_of_ble_eq_true rfl, Nat.le_of_ble_eq_true rfl, Nat.le_of_ble_eq_true rfl, Nat.le_of_ble_eq_true rfl⟩ rfl (Nat.le_of_ble_eq_true rfl) dX6_readReach_8 ?_
  intro r_2 M_3 h_r_2 h_M_3 hf
  refine g_if_ne hC 16 (zi_ h_r_2) dX6_readReach_11 rfl (fun c_42 => ?_) (fun c_42 => ?_)
  · replace hf := hf.1 c_42
    refine g_aload_n hC 1 dX6_readReach_16 rfl rfl ?_
    refine g_getr hC okX6 sc3 0 (by decide) rfl wf_X6_12 dX6_readReach_17 ?_
    refine g_geti hC okX5 (sh_X5 (Or.inl rfl)) 1 (by decide) rfl wf_X6_39 dX6_readReach_20 ?_
    refine g_bipush hC dX6_readReach_23 (by decide) ?_
    refine g_icmp_lt hC 35 (h_M_3 _ _) (by unfold inR; omega) dX6_readReach_25 rfl (fun c_41 => ?_) (fun c_41 => ?_)
    · replace hf := hf.1 c_41
      refine g_aload_n hC 1 dX6_readReach_35 rfl rfl ?_
      refine g_iconst hC dX6_readReach_36 ?_
      refine g_callVI hC (sk := []) [J (-1)] (c_X6_readOldPlace l B D K (-1) (by unfold inR; omega) M_3 h_M_3 _ hf) yv_X6_readOldPlace wm_X6_91 okX6.1 sc3 rfl ⟨Nat.le_of_ble_eq_true rfl, Nat.le_of_ble_eq_true rfl, Nat.le_of_ble_eq_true rfl, Nat.le_of_ble_eq_true rfl⟩ rfl (Nat.le_of_ble_eq_true rfl) dX6_readReach_37 ?_
      intro r_4 M_5 h_r_4 h_M_5 hf
      refine g_istore_n hC [(2, J r_4), (1, J v1_1), (0, .ref (B + 3))] dX6_readReach_40 rfl (by decide) rfl ?_
      refine g_iload_n hC 0 dX6_readReach_41 rfl rfl ?_
      refine g_iconst hC dX6_readReach_42 ?_
      refine g_icmp_eq hC 56 h_r_4 (by unfold inR; omega) dX6_readReach_43 rfl (fun c_38 => ?_) (fun c_38 => ?_)
      · replace hf := hf.1 c_38
        refine g_iconst hC dX6_readReach_56 ?_
        exact g_retz hC (Or.inl rfl) h_M_5 hf dX6_readReach_57
      · replace hf := hf.2 c_38
        refine g_aload_n hC 2 dX6_readReach_46 rfl rfl ?_
        refine g_sipush hC dX6_readReach_47 (by decide) ?_
        refine g_callVZ hC (sk := []) [J 500] (c_X6_wantWord l B D K 500 (by unfold inR; omega) M_5 h_M_5 _ hf) yv_X6_wantWord wm_X6_64 okX6.1 sc3 rfl ⟨Nat.le_of_ble_eq_true rfl, Nat.le_of_ble_eq_true rfl, Nat.le_of_ble_eq_true rfl, Nat.le_of_ble_eq_true rfl⟩ rfl (Nat.le_of_ble_eq_true rfl) dX6_readReach_50 ?_
        intro r_6 M_7 h_r_6 h_M_7 hf
        refine g_if_ne hC 58 (zi_ h_r_6) dX6_readReach_53 rfl (fun c_37 => ?_) (fun c_37 => ?_)
        · replace hf := hf.1 c_37
          refine g_aload_n hC 2 dX6_readReach_58 rfl rfl ?_
          refine g_iload_n hC 0 dX6_readReach_59 rfl rfl ?_
          refine g_callVI hC (sk := []) [J r_4] (c_X6_readOldPlace l B D K r_4 h_r_4 M_7 h_M_7 _ hf) yv_X6_readOldPlace wm_X6_91 okX6.1 sc3 rfl ⟨Nat.le_of_ble_eq_true rfl, Nat.le_of_ble_eq_true rfl, Nat.le_of_ble_eq_true rfl, Nat.le_of_ble_eq_true rfl⟩ rfl (Nat.le_of_ble_eq_true rfl) dX6_readReach_60 ?_
          intro r_8 M_9 h_r_8 h_M_9 hf
          refine g_istore_n hC [(3, J r_8), (2, J r_4), (1, J v1_1), (0, .ref (B + 3))] dX6_readReach_63 rfl (by decide) rfl ?_
          refine g_iload_n hC 0 dX6_readReach_64 rfl rfl ?_
          refine g_iconst hC dX6_readReach_65 ?_
          refine g_icmp_eq hC 78 h_r_8 (by unfold inR; omega) dX6_readReach_66 rfl (fun c_36 => ?_) (fun c_36 => ?_)
          · replace hf := hf.1 c_36
            refine g_iconst hC dX6_readReach_78 ?_
            exact g_retz hC (Or.inl rfl) h_M_9 hf dX6_readReach_79
          · replace hf := hf.2 c_36
            refine g_aload_n hC 3 dX6_readReach_69 rfl rfl ?_
            refine g_ldc (n := 244204) hC wc_X6_95 (by decide) dX6_readReach_70 ?_
            refine g_callVZ hC (sk := []) [J 244204] (c_X6_wantWord l B D K 244204 (by unfold inR; omega) M_9 h_M_9 _ hf) yv_X6_wantWord wm_X6_64 okX6.1 sc3 rfl ⟨Nat.le_of_ble_eq_true rfl, Nat.le_of_ble_eq_true rfl, Nat.le_of_ble_eq_true rfl, Nat.le_of_ble_eq_true rfl⟩ rfl (Nat.le_of_ble_eq_true rfl) dX6_readReach_72 ?_
            intro r_10 M_11 h_r_10 h_M_11 hf
            refine g_if_ne hC 80 (zi_ h_r_10) dX6_readReach_75 rfl (fun c_35 => ?_) (fun c_35 => ?_)
            · replace hf := hf.1 c_35
              refine g_aload_n hC 3 dX6_readReach_80 rfl rfl ?_
              refine g_iconst hC dX6_readReach_81 ?_
              refine g_callVI hC (sk := []) [J 1] (c_X6_readNumber l B D K 1 (by unfold inR; omega) M_11 h_M_11 _ hf) yv_X6_readNumber wm_X6_96 okX6.1 sc3 rfl ⟨Nat.le_of_ble_eq_true rfl, Nat.le_of_ble_eq_true rfl, Nat.le_of_ble_eq_true rfl, Nat.le_of_ble_eq_true rfl⟩ rfl (Nat.le_of_ble_eq_true rfl) dX6_readReach_82 ?_
              intro r_12 M_13 h_r_12 h_M_13 hf
              refine g_istore hC [(4, J r_12), (3, J r_8), (2, J r_4), (1, J v1_1), (0, .ref (B + 3))] dX6_readReach_85 (by decide) rfl ?_
              refine g_iload hC 0 dX6_readReach_87 rfl ?_
              refine g_iconst hC dX6_readReach_89 ?_
              refine g_icmp_ne hC 95 h_r_12 (by unfold inR; omega) dX6_readReach_90 rfl (fun c_34 => ?_) (fun c_34 => ?_)
              · replace hf := hf.1 c_34
                refine g_aload_n hC 4 dX6_readReach_95 rfl rfl ?_
                refine g_ldc (n := 642127161) hC wc_X6_99 (by decide) dX6_readReach_96 ?_
                refine g_callVZ hC (sk := []) [J 642127161] (c_X6_takeWord l B D K 642127161 (by unfold inR; omega) M_13 h_M_13 _ hf) yv_X6_takeWord wm_X6_100 okX6.1 sc3 rfl ⟨Nat.le_of_ble_eq_true rfl, Nat.le_of_ble_eq_true rfl, Nat.le_of_ble_eq_true rfl, Nat.le_of_ble_eq_true rfl⟩ rfl (Nat.le_of_ble_eq_true rfl) dX6_readReach_98 ?_
                intro r_14 M_15 h_r_14 h_M_15 hf
                refine jn_elim (fun (k : Int → Mem → Prop) => ∀ (s0_16 : Int) (M_17 : Mem), k s0_16 M_17 → (inR s0_16) → (MR M_17) → G p l e (rmF 4 90) s m args below meth c B D K 7 0 0 (ZZ below args s B D K Q) M_17 113 [(0, .ref (B + 3)), (2, J r_4), (3, J r_8), (4, J r_12)] [J s0_16]) hf ?_ ?_
                · intro s0_16 M_17 hf h_s0_16 h_M_17
                  refine g_istore hC [(5, J s0_16), (0, .ref (B + 3)), (2, J r_4), (3, J r_8), (4, J r_12)] dX6_readReach_113 (by decide) rfl ?_
                  refine g_iload hC 0 dX6_readReach_115 rfl ?_
                  refine g_iconst hC dX6_readReach_117 ?_
                  refine g_icmp_ne hC 123 h_s0_16 (by unfold inR; omega) dX6_readReach_118 rfl (fun c_30 => ?_) (fun c_30 => ?_)
                  · replace hf := hf.1 c_30
                    refine g_aload_n hC 1 dX6_readReach_123 rfl rfl ?_
                    refine g_ldc (n := 139866147) hC wc_X6_103 (by decide) dX6_readReach_124 ?_
                    refine g_callVZ hC (sk := []) [J 139866147] (c_X6_takeWord l B D K 139866147 (by unfold inR; omega) M_17 h_M_17 _ hf) yv_X6_takeWord wm_X6_100 okX6.1 sc3 rfl ⟨Nat.le_of_ble_eq_true rfl, Nat.le_of_ble_eq_true rfl, Nat.le_of_ble_eq_true rfl, Nat.le_of_ble_eq_true rfl⟩ rfl (Nat.le_of_ble_eq_true rfl) dX6_readReach_126 ?_
                    intro r_18 M_19 h_r_18 h_M_19 hf
                    refine jn_elim (fun (k : Int → Mem → Prop) => ∀ (s0_20 : Int) (M_21 : Mem), k s0_20 M_21 → (inR s0_20) → (MR M_21) → G p l e (rmF 4 90) s m args below meth c B D K 7 0 0 (ZZ below args s B D K Q) M_21 140 [(0, .ref (B + 3)), (2, J r_4), (3, J r_8), (4, J r_12), (5, J s0_16)] [J s0_20]) hf ?_ ?_
                    · intro s0_20 M_21 hf h_s0_20 h_M_21
                      refine g_istore hC [(6, J s0_20), (0, .ref (B + 3)), (2, J r_4), (3, J r_8), (4, J r_12), (5, J s0_16)] dX6_readReach_140 (by decide) rfl ?_
                      refine g_aload_n hC 1 dX6_readReach_142 rfl rfl ?_
                      refine g_geti hC okX6 sc3 4 (by decide) rfl wf_X6_45 dX6_readReach_143 ?_
                      refine g_if_ne hC 156 (h_M_21 _ _) dX6_readReach_146 rfl (fun c_26 => ?_) (fun c_26 => ?_)
                      · replace hf := hf.1 c_26
                        refine g_iconst hC dX6_readReach_156 ?_
                        exact g_retz hC (Or.inl rfl) h_M_21 hf dX6_readReach_157
                      · replace hf := hf.2 c_26
                        refine g_aload_n hC 1 dX6_readReach_149 rfl rfl ?_
                        refine g_callVZ hC (sk := []) [] (c_X6_wantEnd l B D K   M_21 h_M_21 _ hf) yv_X6_wantEnd wm_X6_75 okX6.1 sc3 rfl ⟨Nat.le_of_ble_eq_true rfl, Nat.le_of_ble_eq_true rfl, Nat.le_of_ble_eq_true rfl, Nat.le_of_ble_eq_true rfl⟩ rfl (Nat.le_of_ble_eq_true rfl) dX6_readReach_150 ?_
                        intro r_22 M_23 h_r_22 h_M_23 hf
                        refine g_if_ne hC 158 (zi_ h_r_22) dX6_readReach_153 rfl (fun c_25 => ?_) (fun c_25 => ?_)
                        · replace hf := hf.1 c_25
                          refine g_aload_n hC 1 dX6_readReach_158 rfl rfl ?_
                          refine g_getr hC okX6 sc3 0 (by decide) rfl wf_X6_12 dX6_readReach_159 ?_
                          refine g_iload_n hC 2 dX6_readReach_162 rfl rfl ?_
                          refine g_iload_n hC 3 dX6_readReach_163 rfl rfl ?_
                          refine g_iload hC 4 dX6_readReach_164 rfl ?_
                          refine g_iload hC 5 dX6_readReach_166 rfl ?_
                          refine g_iload hC 0 dX6_readReach_168 rfl ?_
                          refine g_callVV hC (sk := []) [J r_4, J r_8, J r_12, J s0_16, J s0_20] (c_X5_lay l B D K 4 r_4 r_8 r_12 s0_16 s0_20 (Or.inl rfl) h_r_4 h_r_8 h_r_12 h_s0_16 h_s0_20 M_23 h_M_23 _ hf) yv_X5_lay wm_X6_107 okX5.1 (sh_X5 (Or.inl rfl)) rfl ⟨Nat.le_of_ble_eq_true rfl, Nat.le_of_ble_eq_true rfl, Nat.le_of_ble_eq_true rfl, Nat.le_of_ble_eq_true rfl⟩ rfl (Nat.le_of_ble_eq_true rfl) dX6_readReach_170 ?_
                          intro M_24 h_M_24 hf
                          refine g_iconst hC dX6_readReach_173 ?_
                          exact g_retz hC (Or.inr rfl) h_M_24 hf dX6_readReach_174
                        · replace hf := hf.2 c_25
                          refine g_iconst hC dX6_readReach_156 ?_
                          exact g_retz hC (Or.inl rfl) h_M_23 hf dX6_readReach_157
                    · intro J140 hJ140 hf
                      refine g_if_eq hC 139 (zi_ h_r_18) dX6_readReach_129 rfl (fun c_29 => ?_) (fun c_29 => ?_)
                      · replace hf := hf.1 c_29
                        refine g_iconst hC dX6_readReach_139 ?_
                        refine g_sub [(0, .ref (B + 3)), (2, J r_4), (3, J r_8), (4, J r_12), (5, J s0_16)] [1, 2, 3, 4, 0] rfl ?_
                        exact hJ140 (-1) M_19 hf (by unfold inR; omega) h_M_19
                      · replace hf := hf.2 c_29
                        refine g_aload_n hC 1 dX6_readReach_132 rfl rfl ?_
                        refine g_callVI hC (sk := []) [] (c_X6_readRiver l B D K   M_19 h_M_19 _ hf) yv_X6_readRiver wm_X6_104 okX6.1 sc3 rfl ⟨Nat.le_of_ble_eq_true rfl, Nat.le_of_ble_eq_true rfl, Nat.le_of_ble_eq_true rfl, Nat.le_of_ble_eq_true rfl⟩ rfl (Nat.le_of_ble_eq_true rfl) dX6_readReach_133 ?_
                        intro r_27 M_28 h_r_27 h_M_28 hf
                        refine g_goto hC 140 dX6_readReach_136 rfl ?_
                        refine g_sub [(0, .ref (B + 3)), (2, J r_4), (3, J r_8), (4, J r_12), (5, J s0_16)] [1, 2, 3, 4, 0] rfl ?_
                        exact hJ140 r_27 M_28 hf h_r_27 h_M_28
                  · replace hf := hf.2 c_30
                    refine g_iconst hC dX6_readReach_121 ?_
                    exact g_retz hC (Or.inl rfl) h_M_17 hf dX6_readReach_122
                · intro J113 hJ113 hf
                  refine g_if_eq hC 112 (zi_ h_r_14) dX6_readReach_101 rfl (fun c_33 => ?_) (fun c_33 => ?_)
                  · replace hf := hf.1 c_33
                    refine g_iconst hC dX6_readReach_112 ?_
                    refine g_sub [(0, .ref (B + 3)), (2, J r_4), (3, J r_8), (4, J r_12)] [4, 2, 1, 0] rfl ?_
                    exact hJ113 0 M_15 hf (by unfold inR; omega) h_M_15
                  · replace hf := hf.2 c_33
                    refine g_aload_n hC 4 dX6_readReach_104 rfl rfl ?_
                    refine g_iconst hC dX6_readReach_105 ?_
                    refine g_callVI hC (sk := []) [J 0] (c_X6_readNumber l B D K 0 (by unfold inR; omega) M_15 h_M_15 _ hf) yv_X6_readNumber wm_X6_96 okX6.1 sc3 rfl ⟨Nat.le_of_ble_eq_true rfl, Nat.le_of_ble_eq_true rfl, Nat.le_of_ble_eq_true rfl, Nat.le_of_ble_eq_true rfl⟩ rfl (Nat.le_of_ble_eq_true rfl) dX6_readReach_106 ?_
                    intro r_31 M_32 h_r_31 h_M_32 hf
                    refine g_goto hC 113 dX6_readReach_109 rfl ?_
                    refine g_sub [(0, .ref (B + 3)), (2, J r_4), (3, J r_8), (4, J r_12)] [4, 2, 1, 0] rfl ?_
                    exact hJ113 r_31 M_32 hf h_r_31 h_M_32
              · replace hf := hf.2 c_34
                refine g_iconst hC dX6_readReach_93 ?_
                exact g_retz hC (Or.inl rfl) h_M_13 hf dX6_readReach_94
            · replace hf := hf.2 c_35
              refine g_iconst hC dX6_readReach_78 ?_
              exact g_retz hC (Or.inl rfl) h_M_11 hf dX6_readReach_79
        · replace hf := hf.2 c_37
          refine g_iconst hC dX6_readReach_56 ?_
          exact g_retz hC (Or.inl rfl) h_M_7 hf dX6_readReach_57
    · replace hf := hf.2 c_41
      refine g_aload_n hC 1 dX6_readReach_28 rfl rfl ?_
      refine g_iconst hC dX6_readReach_29 ?_
      refine g_iload_n hC 0 dX6_readReach_30 rfl rfl ?_
      refine g_callVZ hC (sk := []) [J 5, J v1_1] (c_X6_fail l B D K 5 v1_1 (by unfold inR; omega) h_v1_1 M_3 h_M_3 _ hf) yv_X6_fail wm_X6_78 okX6.1 sc3 rfl ⟨Nat.le_of_ble_eq_true rfl, Nat.le_of_ble_eq_true rfl, Nat.le_of_ble_eq_true rfl, Nat.le_of_ble_eq_true rfl⟩ rfl (Nat.le_of_ble_eq_true rfl) dX6_readReach_31 ?_
      intro r_39 M_40 h_r_39 h_M_40 hf
      exact g_retz hC h_r_39 h_M_40 hf dX6_readReach_34
  · replace hf := hf.2 c_42
    refine g_iconst hC dX6_readReach_14 ?_
    exact g_retz hC (Or.inl rfl) h_M_3 hf dX6_readReach_15
set_option maxHeartbeats 4000000 in
set_option maxRecDepth 100000 in
theorem c_X6_read (l : Launch) (B : Nat) (D : va_G) (K : Nat → ClassId)   (M : Mem) (hM : MR M) (Q : Int → Mem → Prop) (hf : f_X6_read  M Q) : CtZ l yX6_read cX6_read 2 5 116 B D K [.ref (B + 3)] M Q := by
  refine ct_z (by decide) (Nat.le_of_ble_eq_true rfl) ?_
  intro p e s m args below meth c hC
  have hC : Cx p s m args meth c D K cX6_read 2 RX6 (some .boolean) := hC
  unfold f_X6_read at hf
  refine (show G p l e (rmF 5 116) s m args below meth c B D K 2 0 0 (ZZ below args s B D K Q) M 0 [(0, .ref (B + 3))] [] from ?_)
  refine g_aload_n hC 0 dX6_read_0 rfl rfl ?_
  refine g_iconst hC dX6_read_1 ?_
  refine g_puti hC okX6 tnX6 sc3 7 (by decide) rfl rfl (by decide) wf_X6_33 dX6_read_2 ?_
  refine g_nmM (fun M_1 e_M_1 => ?_)
  replace hf := hf M_1 e_M_1
  have h_M_1 : MR M_1 := by rw [e_M_1]; exact MR_st hM (by unfold inR; omega)
  refine g_aload_n hC 0 dX6_read_5 rfl rfl ?_
  refine g_getr hC okX6 sc3 0 (by decide) rfl wf_X6_12 dX6_read_6 ?_
  refine g_iconst hC dX6_read_9 ?_
  refine g_puti hC okX5 tnX5 (sh_X5 (Or.inl rfl)) 0 (by decide) rfl rfl (by decide) wf_X6_36 dX6_read_10 ?_
  refine g_nmM (fun M_2 e_M_2 => ?_)
  replace hf := hf M_2 e_M_2
  have h_M_2 : MR M_2 := by rw [e_M_2]; exact MR_st h_M_1 (by unfold inR; omega)
  refine g_aload_n hC 0 dX6_read_13 rfl rfl ?_
  refine g_getr hC okX6 sc3 0 (by decide) rfl wf_X6_12 dX6_read_14 ?_
  refine g_iconst hC dX6_read_17 ?_
  refine g_puti hC okX5 tnX5 (sh_X5 (Or.inl rfl)) 1 (by decide) rfl rfl (by decide) wf_X6_39 dX6_read_18 ?_
  refine g_nmM (fun M_3 e_M_3 => ?_)
  replace hf := hf M_3 e_M_3
  have h_M_3 : MR M_3 := by rw [e_M_3]; exact MR_st h_M_2 (by unfold inR; omega)
  refine g_aload_n hC 0 dX6_read_21 rfl rfl ?_
  refine g_iconst hC dX6_read_22 ?_
  refine g_puti hC okX6 tnX6 sc3 3 (by decide) rfl rfl (by decide) wf_X6_42 dX6_read_23 ?_
  refine g_nmM (fun M_4 e_M_4 => ?_)
  replace hf := hf M_4 e_M_4
  have h_M_4 : MR M_4 := by rw [e_M_4]; exact MR_st h_M_3 (by unfold inR; omega)
  refine g_aload_n hC 0 dX6_read_26 rfl rfl ?_
  refine g_iconst hC dX6_read_27 ?_
  refine g_puti hC okX6 tnX6 sc3 4 (by decide) rfl rfl (by decide) wf_X6_45 dX6_read_28 ?_
  refine g_nmM (fun M_5 e_M_5 => ?_)
  replace hf := hf M_5 e_M_5
  have h_M_5 : MR M_5 := by rw [e_M_5]; exact MR_st h_M_4 (by unfold inR; omega)
  refine g_aload_n hC 0 dX6_read_31 rfl rfl ?_
  refine g_iconst hC dX6_read_32 ?_
  refine g_puti hC okX6 tnX6 sc3 5 (by decide) rfl rfl (by decide) wf_X6_25 dX6_read_33 ?_
  refine g_nmM (fun M_6 e_M_6 => ?_)
  replace hf := hf M_6 e_M_6
  have h_M_6 : MR M_6 := by rw [e_M_6]; exact MR_st h_M_5 (by unfold inR; omega)
  refine g_aload_n hC 0 dX6_read_36 rfl rfl ?_
  refine g_callVZ hC (sk := []) [] (c_X6_readPlaces l B D K   M_6 h_M_6 _ hf) yv_X6_readPlaces wm_X6_48 okX6.1 sc3 rfl ⟨Nat.le_of_ble_eq_true rfl, Nat.le_of_ble_eq_true rfl, Nat.le_of_ble_eq_true rfl, Nat.le_of_ble_eq_true rfl⟩ rfl (Nat.le_of_ble_eq_true rfl) dX6_read_37 ?_
  intro r_7 M_8 h_r_7 h_M_8 hf
  refine g_if_ne hC 45 (zi_ h_r_7) dX6_read_40 rfl (fun c_19 => ?_) (fun c_19 => ?_)
  · replace hf := hf.1 c_19
    refine g_iconst hC dX6_read_45 ?_
    refine g_istore_n hC [(1, J 0), (0, .ref (B + 3))] dX6_read_46 rfl (by decide) rfl ?_
    refine g_sub [(0, .ref (B + 3)), (1, J 0)] [1, 0] rfl ?_
    refine wl2_elim (fun (v1_9 : Int) (M_10 : Mem) => inR v1_9 → MR M_10 → G p l e (rmF 5 116) s m args below meth c B D K 2 0 0 (ZZ below args s B D K Q) M_10 47 [(0, .ref (B + 3)), (1, J v1_9)] []) ?_ 5000 0 M_8 hf (by unfold inR; omega) h_M_8
    intro rec47 ih47 v1_9 M_10 hf h_v1_9 h_M_10
    unfold X6_read_b47 at hf
    refine g_iload_n hC 1 dX6_read_47 rfl rfl ?_
    refine g_bipush hC dX6_read_48 (by decide) ?_
    refine g_icmp_gt hC 88 h_v1_9 (by unfold inR; omega) dX6_read_50 rfl (fun c_18 => ?_) (fun c_18 => ?_)
    · replace hf := hf.1 c_18
      refine g_iconst hC dX6_read_88 ?_
      exact g_retz hC (Or.inl rfl) h_M_10 hf dX6_read_89
    · replace hf := hf.2 c_18
      refine g_aload_n hC 0 dX6_read_53 rfl rfl ?_
      refine g_callVV hC (sk := []) [] (c_X6_skipBlanks l B D K   M_10 h_M_10 _ hf) yv_X6_skipBlanks wm_X6_52 okX6.1 sc3 rfl ⟨Nat.le_of_ble_eq_true rfl, Nat.le_of_ble_eq_true rfl, Nat.le_of_ble_eq_true rfl, Nat.le_of_ble_eq_true rfl⟩ rfl (Nat.le_of_ble_eq_true rfl) dX6_read_54 ?_
      intro M_11 h_M_11 hf
      refine g_aload_n hC 0 dX6_read_57 rfl rfl ?_
      refine g_geti hC okX6 sc3 7 (by decide) rfl wf_X6_33 dX6_read_58 ?_
      refine g_aload_n hC 0 dX6_read_61 rfl rfl ?_
      refine g_getr hC okX6 sc3 6 (by decide) rfl wf_X6_29 dX6_read_62 ?_
      refine g_geti hC okX10 sc1 1 (by decide) rfl wf_X6_55 dX6_read_65 ?_
      refine g_icmp_lt hC 73 (h_M_11 _ _) (h_M_11 _ _) dX6_read_68 rfl (fun c_17 => ?_) (fun c_17 => ?_)
      · replace hf := hf.1 c_17
        refine g_aload_n hC 0 dX6_read_73 rfl rfl ?_
        refine g_callVZ hC (sk := []) [] (c_X6_readReach l B D K   M_11 h_M_11 _ hf) yv_X6_readReach wm_X6_60 okX6.1 sc3 rfl ⟨Nat.le_of_ble_eq_true rfl, Nat.le_of_ble_eq_true rfl, Nat.le_of_ble_eq_true rfl, Nat.le_of_ble_eq_true rfl⟩ rfl (Nat.le_of_ble_eq_true rfl) dX6_read_74 ?_
        intro r_12 M_13 h_r_12 h_M_13 hf
        refine g_if_ne hC 82 (zi_ h_r_12) dX6_read_77 rfl (fun c_16 => ?_) (fun c_16 => ?_)
        · replace hf := hf.1 c_16
          obtain ⟨q_15, hf⟩ := hf
          obtain ⟨v1_14, e_v1_14⟩ : ∃ z : Int, z = v1_9 + 1 := ⟨_, rfl⟩
          replace hf := hf v1_14 e_v1_14
          have h_v1_14 : inR v1_14 := by rw [e_v1_14]; exact q_15
          refine g_iincv hC 1 e_v1_14 [(1, J v1_14), (0, .ref (B + 3))] dX6_read_82 rfl (by decide) rfl ?_
          refine g_goto hC 47 dX6_read_85 rfl ?_
          refine g_sub [(0, .ref (B + 3)), (1, J v1_14)] [1, 0] rfl ?_
          exact ih47 v1_14 M_13 hf h_v1_14 h_M_13
        · replace hf := hf.2 c_16
          refine g_iconst hC dX6_read_80 ?_
          exact g_retz hC (Or.inl rfl) h_M_13 hf dX6_read_81
      · replace hf := hf.2 c_17
        refine g_iconst hC dX6_read_71 ?_
        exact g_retz hC (Or.inr rfl) h_M_11 hf dX6_read_72
  · replace hf := hf.2 c_19
    refine g_iconst hC dX6_read_43 ?_
    exact g_retz hC (Or.inl rfl) h_M_8 hf dX6_read_44
set_option maxHeartbeats 4000000 in
set_option maxRecDepth 100000 in
theorem c_X7_howManyWays (l : Launch) (B : Nat) (D : va_G) (K : Nat → ClassId) (a1 : Nat) (a2 : Nat) (v3 : Int) (v4 : Int) (h_a1 : is_X5 a1) (h_a2 : is_X1 a2) (i_v3 : inR v3) (i_v4 : inR v4) (M : Mem) (hM : MR M) (Q : Int → Mem → Prop) (hf : f_X7_howManyWays a1 a2 v3 v4 M Q) : CtI l yX7_howManyWays cX7_howManyWays 8 1 40 B D K [.ref (B + 68), .ref (B + a1), .ref (B + a2), J v3, J v4] M Q := by
  refine ct_i (by decide) (Nat.le_of_ble_eq_true rfl) ?_
  intro p e s m args below meth c hC
  have hC : Cx p s m args meth c D K cX7_howManyWays 8 RX7 (some .int) := hC
  unfold f_X7_howManyWays at hf
  refine (show G p l e (rmF 1 40) s m args below meth c B D K 8 0 0 (ZI below args s B D K Q) M 0 [(0, .ref (B + 68)), (1, .ref (B + a1)), (2, .ref (B + a2)), (3, J v3), (4, J v4)] [] from ?_)
  refine g_aload_n hC 0 dX7_howManyWays_0 rfl rfl ?_
  refine g_getr hC okX7 sc68 0 (by decide) rfl wf_X7_9 dX7_howManyWays_1 ?_
  refine g_iconst hC dX7_howManyWays_4 ?_
  refine g_callSV hC (sk := []) [.ref (B + 69), J 0] (c_fill l B D K 69 _ sc69 0 (by unfold inR; omega) M hM) yv_J7_fill_53178 wm_X7_21 rfl ⟨Nat.le_of_ble_eq_true rfl, Nat.le_of_ble_eq_true rfl, Nat.le_of_ble_eq_true rfl, Nat.le_of_ble_eq_true rfl⟩ rfl (Nat.le_of_ble_eq_true rfl) dX7_howManyWays_5 ?_
  intro M_1 h_M_1 e_M_1
  replace hf := hf M_1 e_M_1
  refine g_aload_n hC 0 dX7_howManyWays_8 rfl rfl ?_
  refine g_getr hC okX7 sc68 0 (by decide) rfl wf_X7_9 dX7_howManyWays_9 ?_
  refine g_iload_n hC 3 dX7_howManyWays_12 rfl rfl ?_
  refine g_iconst hC dX7_howManyWays_13 ?_
  obtain ⟨q_2, hf⟩ := hf
  refine g_iastk (v3.toNat) hC sc69 q_2.1 q_2.2 rfl dX7_howManyWays_14 ?_
  refine g_nmM (fun M_3 e_M_3 => ?_)
  replace hf := hf M_3 e_M_3
  have h_M_3 : MR M_3 := by rw [e_M_3]; exact MR_st h_M_1 (by unfold inR; omega)
  refine g_iconst hC dX7_howManyWays_15 ?_
  refine g_istore hC [(5, J 0), (0, .ref (B + 68)), (1, .ref (B + a1)), (2, .ref (B + a2)), (3, J v3), (4, J v4)] dX7_howManyWays_16 (by decide) rfl ?_
  refine g_sub [(0, .ref (B + 68)), (1, .ref (B + a1)), (2, .ref (B + a2)), (4, J v4), (5, J 0)] [1, 2, 3, 5, 0] rfl ?_
  refine wl2_elim (fun (v5_4 : Int) (M_5 : Mem) => inR v5_4 → MR M_5 → G p l e (rmF 1 40) s m args below meth c B D K 8 0 0 (ZI below args s B D K Q) M_5 18 [(0, .ref (B + 68)), (1, .ref (B + a1)), (2, .ref (B + a2)), (4, J v4), (5, J v5_4)] []) ?_ 5000 0 M_3 hf (by unfold inR; omega) h_M_3
  intro rec18 ih18 v5_4 M_5 hf h_v5_4 h_M_5
  unfold X7_howManyWays_b18 at hf
  refine g_iload hC 4 dX7_howManyWays_18 rfl ?_
  refine g_aload_n hC 1 dX7_howManyWays_20 rfl rfl ?_
  refine g_geti hC okX5 (sh_X5 h_a1) 1 (by decide) rfl wf_X7_27 dX7_howManyWays_21 ?_
  refine g_icmp_ge hC 88 h_v5_4 (h_M_5 _ _) dX7_howManyWays_24 rfl (fun c_17 => ?_) (fun c_17 => ?_)
  · replace hf := hf.1 c_17
    refine g_aload_n hC 0 dX7_howManyWays_88 rfl rfl ?_
    refine g_getr hC okX7 sc68 0 (by decide) rfl wf_X7_9 dX7_howManyWays_89 ?_
    refine g_iload hC 3 dX7_howManyWays_92 rfl ?_
    obtain ⟨q_6, hf⟩ := hf
    refine g_ialdk (v4.toNat) hC sc69 q_6.1 q_6.2 rfl dX7_howManyWays_94 ?_
    exact g_reti hC (h_M_5 _ _) h_M_5 hf dX7_howManyWays_95
  · replace hf := hf.2 c_17
    refine g_aload_n hC 2 dX7_howManyWays_27 rfl rfl ?_
    refine g_getr hC okX1 (sh_X1 h_a2) 1 (by decide) rfl wf_X7_33 dX7_howManyWays_28 ?_
    refine g_iload hC 4 dX7_howManyWays_31 rfl ?_
    obtain ⟨q_7, hf⟩ := hf
    refine g_ialdk (v5_4.toNat) hC (sh_X1_1 h_a2) q_7.1 q_7.2 rfl dX7_howManyWays_33 ?_
    refine g_nm (fun v6_8 e_v6_8 => ?_)
    replace hf := hf v6_8 e_v6_8
    have h_v6_8 : inR v6_8 := by rw [e_v6_8]; exact (h_M_5 _ _)
    refine g_istore hC [(6, J v6_8), (0, .ref (B + 68)), (1, .ref (B + a1)), (2, .ref (B + a2)), (4, J v4), (5, J v5_4)] dX7_howManyWays_34 (by decide) rfl ?_
    refine g_aload_n hC 1 dX7_howManyWays_36 rfl rfl ?_
    refine g_getr hC okX7 sc68 0 (by decide) rfl wf_X7_9 dX7_howManyWays_37 ?_
    refine g_aload_n hC 2 dX7_howManyWays_40 rfl rfl ?_
    refine g_getr hC okX5 (sh_X5 h_a1) 3 (by decide) rfl wf_X7_38 dX7_howManyWays_41 ?_
    refine g_iload hC 0 dX7_howManyWays_44 rfl ?_
    obtain ⟨q_9, hf⟩ := hf
    refine g_ialdk (v6_8.toNat) hC (sh_X5_3 h_a1) q_9.1 q_9.2 rfl dX7_howManyWays_46 ?_
    obtain ⟨q_10, hf⟩ := hf
    refine g_ialdk ((M_5 (a1 + 2) (v6_8.toNat)).toNat) hC sc69 q_10.1 q_10.2 rfl dX7_howManyWays_47 ?_
    refine g_aload_n hC 1 dX7_howManyWays_48 rfl rfl ?_
    refine g_getr hC okX7 sc68 0 (by decide) rfl wf_X7_9 dX7_howManyWays_49 ?_
    refine g_aload_n hC 2 dX7_howManyWays_52 rfl rfl ?_
    refine g_getr hC okX5 (sh_X5 h_a1) 2 (by decide) rfl wf_X7_41 dX7_howManyWays_53 ?_
    refine g_iload hC 0 dX7_howManyWays_56 rfl ?_
    refine g_ialdk (v6_8.toNat) hC (sh_X5_2 h_a1) q_9.1 q_9.2 rfl dX7_howManyWays_58 ?_
    obtain ⟨q_11, hf⟩ := hf
    refine g_ialdk ((M_5 (a1 + 1) (v6_8.toNat)).toNat) hC sc69 q_11.1 q_11.2 rfl dX7_howManyWays_59 ?_
    refine g_iadd hC dX7_howManyWays_60 ?_
    obtain ⟨q_12, hf⟩ := hf
    refine g_nm (fun v7_13 e_v7_13 => ?_)
    replace hf := hf v7_13 e_v7_13
    have h_v7_13 : inR v7_13 := by rw [e_v7_13]; exact q_12
    refine g_istore hC [(7, J v7_13), (6, J v6_8), (0, .ref (B + 68)), (1, .ref (B + a1)), (2, .ref (B + a2)), (4, J v4), (5, J v5_4)] dX7_howManyWays_61 (by decide) rfl ?_
    refine g_aload_n hC 2 dX7_howManyWays_63 rfl rfl ?_
    refine g_getr hC okX7 sc68 0 (by decide) rfl wf_X7_9 dX7_howManyWays_64 ?_
    refine g_aload_n hC 3 dX7_howManyWays_67 rfl rfl ?_
    refine g_getr hC okX5 (sh_X5 h_a1) 3 (by decide) rfl wf_X7_38 dX7_howManyWays_68 ?_
    refine g_iload hC 1 dX7_howManyWays_71 rfl ?_
    refine g_ialdk (v6_8.toNat) hC (sh_X5_3 h_a1) q_9.1 q_9.2 rfl dX7_howManyWays_73 ?_
    refine g_iload hC 0 dX7_howManyWays_74 rfl ?_
    refine g_ldc (n := 1000000000) hC wc_X7_44 (by decide) dX7_howManyWays_76 ?_
    refine g_min hC h_v7_13 (by unfold inR; omega) ⟨wm_X7_45, wj_min⟩ (Nat.le_of_ble_eq_true rfl) (Nat.le_of_ble_eq_true rfl) (Nat.zero_le _) (Nat.zero_le _) dX7_howManyWays_78 ?_
    refine g_iastk ((M_5 (a1 + 2) (v6_8.toNat)).toNat) hC sc69 q_10.1 q_10.2 rfl dX7_howManyWays_81 ?_
    refine g_nmM (fun M_14 e_M_14 => ?_)
    replace hf := hf M_14 e_M_14
    have h_M_14 : MR M_14 := by rw [e_M_14]; exact MR_st h_M_5 (min_in h_v7_13 (by unfold inR; omega))
    obtain ⟨q_16, hf⟩ := hf
    obtain ⟨v5_15, e_v5_15⟩ : ∃ z : Int, z = v5_4 + 1 := ⟨_, rfl⟩
    replace hf := hf v5_15 e_v5_15
    have h_v5_15 : inR v5_15 := by rw [e_v5_15]; exact q_16
    refine g_iincv hC 6 e_v5_15 [(5, J v5_15), (7, J v7_13), (6, J v6_8), (0, .ref (B + 68)), (1, .ref (B + a1)), (2, .ref (B + a2)), (4, J v4)] dX7_howManyWays_82 rfl (by decide) rfl ?_
    refine g_goto hC 18 dX7_howManyWays_85 rfl ?_
    refine g_sub [(0, .ref (B + 68)), (1, .ref (B + a1)), (2, .ref (B + a2)), (4, J v4), (5, J v5_15)] [3, 4, 5, 6, 0] rfl ?_
    exact ih18 v5_15 M_14 hf h_v5_15 h_M_14
set_option maxHeartbeats 4000000 in
set_option maxRecDepth 100000 in
theorem c_X7_lengthOfWay (l : Launch) (B : Nat) (D : va_G) (K : Nat → ClassId) (a1 : Nat) (a2 : Nat) (v3 : Int) (v4 : Int) (v5 : Int) (h_a1 : is_X5 a1) (h_a2 : is_X1 a2) (i_v3 : inR v3) (i_v4 : inR v4) (i_v5 : inR v5) (M : Mem) (hM : MR M) (Q : Int → Mem → Prop) (hf : f_X7_lengthOfWay a1 a2 v3 v4 v5 M Q) : CtI l yX7_lengthOfWay cX7_lengthOfWay 10 1 23 B D K [.ref (B + 68), .ref (B + a1), .ref (B + a2), J v3, J v4, J v5] M Q := by
  refine ct_i (by decide) (Nat.le_of_ble_eq_true rfl) ?_
  intro p e s m args below meth c hC
  have hC : Cx p s m args meth c D K cX7_lengthOfWay 10 RX7 (some .int) := hC
  unfold f_X7_lengthOfWay at hf
  refine (show G p l e (rmF 1 23) s m args below meth c B D K 10 0 0 (ZI below args s B D K Q) M 0 [(0, .ref (B + 68)), (1, .ref (B + a1)), (2, .ref (B + a2)), (3, J v3), (4, J v4), (5, J v5)] [] from ?_)
  refine g_aload_n hC 0 dX7_lengthOfWay_0 rfl rfl ?_
  refine g_getr hC okX7 sc68 0 (by decide) rfl wf_X7_9 dX7_lengthOfWay_1 ?_
  refine g_iconst hC dX7_lengthOfWay_4 ?_
  refine g_callSV hC (sk := []) [.ref (B + 69), J (-1)] (c_fill l B D K 69 _ sc69 (-1) (by unfold inR; omega) M hM) yv_J7_fill_53178 wm_X7_21 rfl ⟨Nat.le_of_ble_eq_true rfl, Nat.le_of_ble_eq_true rfl, Nat.le_of_ble_eq_true rfl, Nat.le_of_ble_eq_true rfl⟩ rfl (Nat.le_of_ble_eq_true rfl) dX7_lengthOfWay_5 ?_
  intro M_1 h_M_1 e_M_1
  replace hf := hf M_1 e_M_1
  refine g_aload_n hC 0 dX7_lengthOfWay_8 rfl rfl ?_
  refine g_getr hC okX7 sc68 0 (by decide) rfl wf_X7_9 dX7_lengthOfWay_9 ?_
  refine g_iload_n hC 3 dX7_lengthOfWay_12 rfl rfl ?_
  refine g_iconst hC dX7_lengthOfWay_13 ?_
  obtain ⟨q_2, hf⟩ := hf
  refine g_iastk (v3.toNat) hC sc69 q_2.1 q_2.2 rfl dX7_lengthOfWay_14 ?_
  refine g_nmM (fun M_3 e_M_3 => ?_)
  replace hf := hf M_3 e_M_3
  have h_M_3 : MR M_3 := by rw [e_M_3]; exact MR_st h_M_1 (by unfold inR; omega)
  refine g_iconst hC dX7_lengthOfWay_15 ?_
  refine g_istore hC [(6, J 0), (0, .ref (B + 68)), (1, .ref (B + a1)), (2, .ref (B + a2)), (3, J v3), (4, J v4), (5, J v5)] dX7_lengthOfWay_16 (by decide) rfl ?_
  refine g_sub [(0, .ref (B + 68)), (1, .ref (B + a1)), (2, .ref (B + a2)), (4, J v4), (5, J v5), (6, J 0)] [1, 2, 3, 5, 6, 0] rfl ?_
  refine wl2_elim (fun (v6_4 : Int) (M_5 : Mem) => inR v6_4 → MR M_5 → G p l e (rmF 1 23) s m args below meth c B D K 10 0 0 (ZI below args s B D K Q) M_5 18 [(0, .ref (B + 68)), (1, .ref (B + a1)), (2, .ref (B + a2)), (4, J v4), (5, J v5), (6, J v6_4)] []) ?_ 5000 0 M_3 hf (by unfold inR; omega) h_M_3
  intro rec18 ih18 v6_4 M_5 hf h_v6_4 h_M_5
  unfold X7_lengthOfWay_b18 at hf
  refine g_iload hC 5 dX7_lengthOfWay_18 rfl ?_
  refine g_aload_n hC 1 dX7_lengthOfWay_20 rfl rfl ?_
  refine g_geti hC okX5 (sh_X5 h_a1) 1 (by decide) rfl wf_X7_27 dX7_lengthOfWay_21 ?_
  refine g_icmp_ge hC 139 h_v6_4 (h_M_5 _ _) dX7_lengthOfWay_24 rfl (fun c_29 => ?_) (fun c_29 => ?_)
  · replace hf := hf.1 c_29
    refine g_aload_n hC 0 dX7_lengthOfWay_139 rfl rfl ?_
    refine g_getr hC okX7 sc68 0 (by decide) rfl wf_X7_9 dX7_lengthOfWay_140 ?_
    refine g_iload hC 3 dX7_lengthOfWay_143 rfl ?_
    obtain ⟨q_6, hf⟩ := hf
    refine g_ialdk (v4.toNat) hC sc69 q_6.1 q_6.2 rfl dX7_lengthOfWay_145 ?_
    exact g_reti hC (h_M_5 _ _) h_M_5 hf dX7_lengthOfWay_146
  · replace hf := hf.2 c_29
    refine g_aload_n hC 2 dX7_lengthOfWay_27 rfl rfl ?_
    refine g_getr hC okX1 (sh_X1 h_a2) 1 (by decide) rfl wf_X7_33 dX7_lengthOfWay_28 ?_
    refine g_iload hC 5 dX7_lengthOfWay_31 rfl ?_
    obtain ⟨q_7, hf⟩ := hf
    refine g_ialdk (v6_4.toNat) hC (sh_X1_1 h_a2) q_7.1 q_7.2 rfl dX7_lengthOfWay_33 ?_
    refine g_nm (fun v7_8 e_v7_8 => ?_)
    replace hf := hf v7_8 e_v7_8
    have h_v7_8 : inR v7_8 := by rw [e_v7_8]; exact (h_M_5 _ _)
    refine g_istore hC [(7, J v7_8), (0, .ref (B + 68)), (1, .ref (B + a1)), (2, .ref (B + a2)), (4, J v4), (5, J v5), (6, J v6_4)] dX7_lengthOfWay_34 (by decide) rfl ?_
    refine g_aload_n hC 1 dX7_lengthOfWay_36 rfl rfl ?_
    refine g_getr hC okX7 sc68 0 (by decide) rfl wf_X7_9 dX7_lengthOfWay_37 ?_
    refine g_aload_n hC 2 dX7_lengthOfWay_40 rfl rfl ?_
    refine g_getr hC okX5 (sh_X5 h_a1) 2 (by decide) rfl wf_X7_41 dX7_lengthOfWay_41 ?_
    refine g_iload hC 0 dX7_lengthOfWay_44 rfl ?_
    obtain ⟨q_9, hf⟩ := hf
    refine g_ialdk (v7_8.toNat) hC (sh_X5_2 h_a1) q_9.1 q_9.2 rfl dX7_lengthOfWay_46 ?_
    obtain ⟨q_10, hf⟩ := hf
    refine g_ialdk ((M_5 (a1 + 1) (v7_8.toNat)).toNat) hC sc69 q_10.1 q_10.2 rfl dX7_lengthOfWay_47 ?_
    refine g_iconst hC dX7_lengthOfWay_48 ?_
    refine g_icmp_ne hC 55 (h_M_5 _ _) (by unfold inR; omega) dX7_lengthOfWay_49 rfl (fun c_28 => ?_) (fun c_28 => ?_)
    · replace hf := hf.1 c_28
      refine g_aload_n hC 1 dX7_lengthOfWay_55 rfl rfl ?_
      refine g_getr hC okX7 sc68 0 (by decide) rfl wf_X7_9 dX7_lengthOfWay_56 ?_
      refine g_aload_n hC 2 dX7_lengthOfWay_59 rfl rfl ?_
      refine g_getr hC okX5 (sh_X5 h_a1) 2 (by decide) rfl wf_X7_41 dX7_lengthOfWay_60 ?_
      refine g_iload hC 0 dX7_lengthOfWay_63 rfl ?_
      refine g_ialdk (v7_8.toNat) hC (sh_X5_2 h_a1) q_9.1 q_9.2 rfl dX7_lengthOfWay_65 ?_
      refine g_ialdk ((M_5 (a1 + 1) (v7_8.toNat)).toNat) hC sc69 q_10.1 q_10.2 rfl dX7_lengthOfWay_66 ?_
      refine g_aload_n hC 2 dX7_lengthOfWay_67 rfl rfl ?_
      refine g_getr hC okX5 (sh_X5 h_a1) 4 (by decide) rfl wf_X7_51 dX7_lengthOfWay_68 ?_
      refine g_iload hC 0 dX7_lengthOfWay_71 rfl ?_
      refine g_ialdk (v7_8.toNat) hC (sh_X5_4 h_a1) q_9.1 q_9.2 rfl dX7_lengthOfWay_73 ?_
      refine g_iadd hC dX7_lengthOfWay_74 ?_
      obtain ⟨q_11, hf⟩ := hf
      refine g_nm (fun v8_12 e_v8_12 => ?_)
      replace hf := hf v8_12 e_v8_12
      have h_v8_12 : inR v8_12 := by rw [e_v8_12]; exact q_11
      refine g_istore hC [(8, J v8_12), (7, J v7_8), (0, .ref (B + 68)), (1, .ref (B + a1)), (2, .ref (B + a2)), (4, J v4), (5, J v5), (6, J v6_4)] dX7_lengthOfWay_75 (by decide) rfl ?_
      refine g_aload_n hC 2 dX7_lengthOfWay_77 rfl rfl ?_
      refine g_getr hC okX7 sc68 0 (by decide) rfl wf_X7_9 dX7_lengthOfWay_78 ?_
      refine g_aload_n hC 3 dX7_lengthOfWay_81 rfl rfl ?_
      refine g_getr hC okX5 (sh_X5 h_a1) 3 (by decide) rfl wf_X7_38 dX7_lengthOfWay_82 ?_
      refine g_iload hC 1 dX7_lengthOfWay_85 rfl ?_
      refine g_ialdk (v7_8.toNat) hC (sh_X5_3 h_a1) q_9.1 q_9.2 rfl dX7_lengthOfWay_87 ?_
      obtain ⟨q_13, hf⟩ := hf
      refine g_ialdk ((M_5 (a1 + 2) (v7_8.toNat)).toNat) hC sc69 q_13.1 q_13.2 rfl dX7_lengthOfWay_88 ?_
      refine g_nm (fun v9_14 e_v9_14 => ?_)
      replace hf := hf v9_14 e_v9_14
      have h_v9_14 : inR v9_14 := by rw [e_v9_14]; exact (h_M_5 _ _)
      refine g_istore hC [(9, J v9_14), (8, J v8_12), (7, J v7_8), (0, .ref (B + 68)), (1, .ref (B + a1)), (2, .ref (B + a2)), (4, J v4), (5, J v5), (6, J v6_4)] dX7_lengthOfWay_89 (by decide) rfl ?_
      refine g_iload hC 0 dX7_lengthOfWay_91 rfl ?_
      refine g_iconst hC dX7_lengthOfWay_93 ?_
      refine jn_elim (fun (k : Prop) => k → G p l e (rmF 1 23) s m args below meth c B D K 10 0 0 (ZI below args s B D K Q) M_5 119 [(0, .ref (B + 68)), (1, .ref (B + a1)), (2, .ref (B + a2)), (4, J v4), (5, J v5), (6, J v6_4), (7, J v7_8), (8, J v8_12)] []) hf ?_ ?_
      · intro hf
        refine g_aload_n hC 0 dX7_lengthOfWay_119 rfl rfl ?_
        refine g_getr hC okX7 sc68 0 (by decide) rfl wf_X7_9 dX7_lengthOfWay_120 ?_
        refine g_aload_n hC 1 dX7_lengthOfWay_123 rfl rfl ?_
        refine g_getr hC okX5 (sh_X5 h_a1) 3 (by decide) rfl wf_X7_38 dX7_lengthOfWay_124 ?_
        refine g_iload hC 6 dX7_lengthOfWay_127 rfl ?_
        refine g_ialdk (v7_8.toNat) hC (sh_X5_3 h_a1) q_9.1 q_9.2 rfl dX7_lengthOfWay_129 ?_
        refine g_iload hC 7 dX7_lengthOfWay_130 rfl ?_
        refine g_iastk ((M_5 (a1 + 2) (v7_8.toNat)).toNat) hC sc69 q_13.1 q_13.2 rfl dX7_lengthOfWay_132 ?_
        refine g_nmM (fun M_15 e_M_15 => ?_)
        replace hf := hf M_15 e_M_15
        have h_M_15 : MR M_15 := by rw [e_M_15]; exact MR_st h_M_5 h_v8_12
        obtain ⟨q_17, hf⟩ := hf
        obtain ⟨v6_16, e_v6_16⟩ : ∃ z : Int, z = v6_4 + 1 := ⟨_, rfl⟩
        replace hf := hf v6_16 e_v6_16
        have h_v6_16 : inR v6_16 := by rw [e_v6_16]; exact q_17
        refine g_iincv hC 5 e_v6_16 [(6, J v6_16), (0, .ref (B + 68)), (1, .ref (B + a1)), (2, .ref (B + a2)), (4, J v4), (5, J v5), (7, J v7_8), (8, J v8_12)] dX7_lengthOfWay_133 rfl (by decide) rfl ?_
        refine g_goto hC 18 dX7_lengthOfWay_136 rfl ?_
        refine g_sub [(0, .ref (B + 68)), (1, .ref (B + a1)), (2, .ref (B + a2)), (4, J v4), (5, J v5), (6, J v6_16)] [1, 2, 3, 4, 5, 0] rfl ?_
        exact ih18 v6_16 M_15 hf h_v6_16 h_M_15
      · intro J119 hJ119 hf
        refine g_icmp_eq hC 119 h_v9_14 (by unfold inR; omega) dX7_lengthOfWay_94 rfl (fun c_25 => ?_) (fun c_25 => ?_)
        · replace hf := hf.1 c_25
          refine g_sub [(0, .ref (B + 68)), (1, .ref (B + a1)), (2, .ref (B + a2)), (4, J v4), (5, J v5), (6, J v6_4), (7, J v7_8), (8, J v8_12)] [3, 4, 5, 6, 7, 8, 2, 1] rfl ?_
          exact hJ119 hf
        · replace hf := hf.2 c_25
          refine g_iload hC 7 dX7_lengthOfWay_97 rfl ?_
          refine g_if_eq hC 112 i_v5 dX7_lengthOfWay_99 rfl (fun c_24 => ?_) (fun c_24 => ?_)
          · replace hf := hf.1 c_24
            refine g_iload hC 1 dX7_lengthOfWay_112 rfl ?_
            refine g_iload hC 0 dX7_lengthOfWay_114 rfl ?_
            refine g_icmp_ge hC 133 h_v8_12 h_v9_14 dX7_lengthOfWay_116 rfl (fun c_20 => ?_) (fun c_20 => ?_)
            · replace hf := hf.1 c_20
              obtain ⟨q_19, hf⟩ := hf
              obtain ⟨v6_18, e_v6_18⟩ : ∃ z : Int, z = v6_4 + 1 := ⟨_, rfl⟩
              replace hf := hf v6_18 e_v6_18
              have h_v6_18 : inR v6_18 := by rw [e_v6_18]; exact q_19
              refine g_iincv hC 8 e_v6_18 [(6, J v6_18), (9, J v9_14), (8, J v8_12), (7, J v7_8), (0, .ref (B + 68)), (1, .ref (B + a1)), (2, .ref (B + a2)), (4, J v4), (5, J v5)] dX7_lengthOfWay_133 rfl (by decide) rfl ?_
              refine g_goto hC 18 dX7_lengthOfWay_136 rfl ?_
              refine g_sub [(0, .ref (B + 68)), (1, .ref (B + a1)), (2, .ref (B + a2)), (4, J v4), (5, J v5), (6, J v6_18)] [4, 5, 6, 7, 8, 0] rfl ?_
              exact ih18 v6_18 M_5 hf h_v6_18 h_M_5
            · replace hf := hf.2 c_20
              refine g_sub [(0, .ref (B + 68)), (1, .ref (B + a1)), (2, .ref (B + a2)), (4, J v4), (5, J v5), (6, J v6_4), (7, J v7_8), (8, J v8_12)] [3, 4, 5, 6, 7, 8, 2, 1] rfl ?_
              exact hJ119 hf
          · replace hf := hf.2 c_24
            refine g_iload hC 1 dX7_lengthOfWay_102 rfl ?_
            refine g_iload hC 0 dX7_lengthOfWay_104 rfl ?_
            refine g_icmp_le hC 133 h_v8_12 h_v9_14 dX7_lengthOfWay_106 rfl (fun c_23 => ?_) (fun c_23 => ?_)
            · replace hf := hf.1 c_23
              obtain ⟨q_22, hf⟩ := hf
              obtain ⟨v6_21, e_v6_21⟩ : ∃ z : Int, z = v6_4 + 1 := ⟨_, rfl⟩
              replace hf := hf v6_21 e_v6_21
              have h_v6_21 : inR v6_21 := by rw [e_v6_21]; exact q_22
              refine g_iincv hC 8 e_v6_21 [(6, J v6_21), (9, J v9_14), (8, J v8_12), (7, J v7_8), (0, .ref (B + 68)), (1, .ref (B + a1)), (2, .ref (B + a2)), (4, J v4), (5, J v5)] dX7_lengthOfWay_133 rfl (by decide) rfl ?_
              refine g_goto hC 18 dX7_lengthOfWay_136 rfl ?_
              refine g_sub [(0, .ref (B + 68)), (1, .ref (B + a1)), (2, .ref (B + a2)), (4, J v4), (5, J v5), (6, J v6_21)] [4, 5, 6, 7, 8, 0] rfl ?_
              exact ih18 v6_21 M_5 hf h_v6_21 h_M_5
            · replace hf := hf.2 c_23
              refine g_goto hC 119 dX7_lengthOfWay_109 rfl ?_
              refine g_sub [(0, .ref (B + 68)), (1, .ref (B + a1)), (2, .ref (B + a2)), (4, J v4), (5, J v5), (6, J v6_4), (7, J v7_8), (8, J v8_12)] [3, 4, 5, 6, 7, 8, 2, 1] rfl ?_
              exact hJ119 hf
    · replace hf := hf.2 c_28
      refine g_goto hC 133 dX7_lengthOfWay_52 rfl ?_
      obtain ⟨q_27, hf⟩ := hf
      obtain ⟨v6_26, e_v6_26⟩ : ∃ z : Int, z = v6_4 + 1 := ⟨_, rfl⟩
      replace hf := hf v6_26 e_v6_26
      have h_v6_26 : inR v6_26 := by rw [e_v6_26]; exact q_27
      refine g_iincv hC 6 e_v6_26 [(6, J v6_26), (7, J v7_8), (0, .ref (B + 68)), (1, .ref (B + a1)), (2, .ref (B + a2)), (4, J v4), (5, J v5)] dX7_lengthOfWay_133 rfl (by decide) rfl ?_
      refine g_goto hC 18 dX7_lengthOfWay_136 rfl ?_
      refine g_sub [(0, .ref (B + 68)), (1, .ref (B + a1)), (2, .ref (B + a2)), (4, J v4), (5, J v5), (6, J v6_26)] [2, 3, 4, 5, 6, 0] rfl ?_
      exact ih18 v6_26 M_5 hf h_v6_26 h_M_5
set_option maxHeartbeats 4000000 in
set_option maxRecDepth 100000 in
theorem c_X7_leader (l : Launch) (B : Nat) (D : va_G) (K : Nat → ClassId) (v1 : Int) (i_v1 : inR v1) (M : Mem) (hM : MR M) (Q : Int → Prop) (hf : f_X7_leader v1 M Q) : CtI l yX7_leader cX7_leader 4 0 0 B D K [.ref (B + 68), J v1] M (fun r M1 => M = M1 ∧ Q r) := by
  refine ct_i (by decide) (Nat.le_of_ble_eq_true rfl) ?_
  intro p e s m args below meth c hC
  have hC : Cx p s m args meth c D K cX7_leader 4 RX7 (some .int) := hC
  unfold f_X7_leader at hf
  refine (show G p l e (rmF 0 0) s m args below meth c B D K 4 0 0 (ZI below args s B D K (fun r M1 => M = M1 ∧ Q r)) M 0 [(0, .ref (B + 68)), (1, J v1)] [] from ?_)
  refine g_iload_n hC 1 dX7_leader_0 rfl rfl ?_
  refine g_istore_n hC [(2, J v1), (0, .ref (B + 68)), (1, J v1)] dX7_leader_1 rfl (by decide) rfl ?_
  refine g_iconst hC dX7_leader_2 ?_
  refine g_istore_n hC [(3, J 0), (2, J v1), (0, .ref (B + 68)), (1, J v1)] dX7_leader_3 rfl (by decide) rfl ?_
  refine g_sub [(0, .ref (B + 68)), (2, J v1), (3, J 0)] [2, 1, 0] rfl ?_
  refine wl2_elim (fun (v2_1 : Int) (v3_2 : Int) => inR v2_1 → inR v3_2 → G p l e (rmF 0 0) s m args below meth c B D K 4 0 0 (ZI below args s B D K (fun r M1 => M = M1 ∧ Q r)) M 4 [(0, .ref (B + 68)), (2, J v2_1), (3, J v3_2)] []) ?_ 5000 v1 0 hf i_v1 (by unfold inR; omega)
  intro rec4 ih4 v2_1 v3_2 hf h_v2_1 h_v3_2
  unfold X7_leader_b4 at hf
  refine g_iload_n hC 2 dX7_leader_4 rfl rfl ?_
  refine g_bipush hC dX7_leader_5 (by decide) ?_
  refine g_icmp_ge hC 33 h_v3_2 (by unfold inR; omega) dX7_leader_7 rfl (fun c_8 => ?_) (fun c_8 => ?_)
  · replace hf := hf.1 c_8
    refine g_iload_n hC 1 dX7_leader_33 rfl rfl ?_
    exact g_reti hC h_v2_1 hM ⟨rfl, hf⟩ dX7_leader_34
  · replace hf := hf.2 c_8
    refine g_aload_n hC 0 dX7_leader_10 rfl rfl ?_
    refine g_getr hC okX7 sc68 1 (by decide) rfl wf_X7_15 dX7_leader_11 ?_
    refine g_iload_n hC 1 dX7_leader_14 rfl rfl ?_
    obtain ⟨q_3, hf⟩ := hf
    refine g_ialdk (v2_1.toNat) hC sc70 q_3.1 q_3.2 rfl dX7_leader_15 ?_
    refine g_iload_n hC 1 dX7_leader_16 rfl rfl ?_
    refine g_icmp_eq hC 33 (hM _ _) h_v2_1 dX7_leader_17 rfl (fun c_7 => ?_) (fun c_7 => ?_)
    · replace hf := hf.1 c_7
      refine g_iload_n hC 1 dX7_leader_33 rfl rfl ?_
      exact g_reti hC h_v2_1 hM ⟨rfl, hf⟩ dX7_leader_34
    · replace hf := hf.2 c_7
      refine g_aload_n hC 0 dX7_leader_20 rfl rfl ?_
      refine g_getr hC okX7 sc68 1 (by decide) rfl wf_X7_15 dX7_leader_21 ?_
      refine g_iload_n hC 1 dX7_leader_24 rfl rfl ?_
      refine g_ialdk (v2_1.toNat) hC sc70 q_3.1 q_3.2 rfl dX7_leader_25 ?_
      refine g_nm (fun v2_4 e_v2_4 => ?_)
      replace hf := hf v2_4 e_v2_4
      have h_v2_4 : inR v2_4 := by rw [e_v2_4]; exact (hM _ _)
      refine g_istore_n hC [(2, J v2_4), (0, .ref (B + 68)), (3, J v3_2)] dX7_leader_26 rfl (by decide) rfl ?_
      obtain ⟨q_6, hf⟩ := hf
      obtain ⟨v3_5, e_v3_5⟩ : ∃ z : Int, z = v3_2 + 1 := ⟨_, rfl⟩
      replace hf := hf v3_5 e_v3_5
      have h_v3_5 : inR v3_5 := by rw [e_v3_5]; exact q_6
      refine g_iincv hC 2 e_v3_5 [(3, J v3_5), (2, J v2_4), (0, .ref (B + 68))] dX7_leader_27 rfl (by decide) rfl ?_
      refine g_goto hC 4 dX7_leader_30 rfl ?_
      refine g_sub [(0, .ref (B + 68)), (2, J v2_4), (3, J v3_5)] [2, 1, 0] rfl ?_
      exact ih4 v2_4 v3_5 hf h_v2_4 h_v3_5
set_option maxHeartbeats 4000000 in
set_option maxRecDepth 100000 in
theorem c_X7_howManyStreams (l : Launch) (B : Nat) (D : va_G) (K : Nat → ClassId) (a1 : Nat) (a2 : Nat) (v3 : Int) (h_a1 : is_X5 a1) (h_a2 : isIA a2) (i_v3 : inR v3) (M : Mem) (hM : MR M) (Q : Int → Mem → Prop) (hf : f_X7_howManyStreams a1 a2 v3 M Q) : CtI l yX7_howManyStreams cX7_howManyStreams 9 1 23 B D K [.ref (B + 68), .ref (B + a1), .ref (B + a2), J v3] M Q := by
  refine ct_i (by decide) (Nat.le_of_ble_eq_true rfl) ?_
  intro p e s m args below meth c hC
  have hC : Cx p s m args meth c D K cX7_howManyStreams 9 RX7 (some .int) := hC
  unfold f_X7_howManyStreams at hf
  refine (show G p l e (rmF 1 23) s m args below meth c B D K 9 0 0 (ZI below args s B D K Q) M 0 [(0, .ref (B + 68)), (1, .ref (B + a1)), (2, .ref (B + a2)), (3, J v3)] [] from ?_)
  refine g_iconst hC dX7_howManyStreams_0 ?_
  refine g_istore hC [(4, J 0), (0, .ref (B + 68)), (1, .ref (B + a1)), (2, .ref (B + a2)), (3, J v3)] dX7_howManyStreams_1 (by decide) rfl ?_
  refine g_iconst hC dX7_howManyStreams_3 ?_
  refine g_istore hC [(5, J 0), (4, J 0), (0, .ref (B + 68)), (1, .ref (B + a1)), (2, .ref (B + a2)), (3, J v3)] dX7_howManyStreams_4 (by decide) rfl ?_
  refine jn_elim (fun (k : Int → Mem → Prop) => ∀ (v4_1 : Int) (M_2 : Mem), k v4_1 M_2 → (inR v4_1) → (MR M_2) → G p l e (rmF 1 23) s m args below meth c B D K 9 0 0 (ZI below args s B D K Q) M_2 41 [(0, .ref (B + 68)), (1, .ref (B + a1)), (2, .ref (B + a2)), (3, J v3), (4, J v4_1)] []) hf ?_ ?_
  · intro v4_1 M_2 hf h_v4_1 h_M_2
    refine g_iconst hC dX7_howManyStreams_41 ?_
    refine g_istore hC [(5, J 0), (0, .ref (B + 68)), (1, .ref (B + a1)), (2, .ref (B + a2)), (3, J v3), (4, J v4_1)] dX7_howManyStreams_42 (by decide) rfl ?_
    refine g_sub [(0, .ref (B + 68)), (1, .ref (B + a1)), (2, .ref (B + a2)), (3, J v3), (4, J v4_1), (5, J 0)] [1, 2, 3, 4, 5, 0] rfl ?_
    refine wl3_elim (fun (v4_3 : Int) (v5_4 : Int) (M_5 : Mem) => inR v4_3 → inR v5_4 → MR M_5 → G p l e (rmF 1 23) s m args below meth c B D K 9 0 0 (ZI below args s B D K Q) M_5 44 [(0, .ref (B + 68)), (1, .ref (B + a1)), (2, .ref (B + a2)), (3, J v3), (4, J v4_3), (5, J v5_4)] []) ?_ 5000 v4_1 0 M_2 hf h_v4_1 (by unfold inR; omega) h_M_2
    intro rec44 ih44 v4_3 v5_4 M_5 hf h_v4_3 h_v5_4 h_M_5
    unfold X7_howManyStreams_b44 at hf
    refine g_iload hC 5 dX7_howManyStreams_44 rfl ?_
    refine g_aload_n hC 1 dX7_howManyStreams_46 rfl rfl ?_
    refine g_geti hC okX5 (sh_X5 h_a1) 1 (by decide) rfl wf_X7_27 dX7_howManyStreams_47 ?_
    refine g_icmp_ge hC 145 h_v5_4 (h_M_5 _ _) dX7_howManyStreams_50 rfl (fun c_38 => ?_) (fun c_38 => ?_)
    · replace hf := hf.1 c_38
      refine g_iload hC 4 dX7_howManyStreams_145 rfl ?_
      exact g_reti hC h_v4_3 h_M_5 hf dX7_howManyStreams_147
    · replace hf := hf.2 c_38
      refine g_iconst hC dX7_howManyStreams_53 ?_
      refine g_istore hC [(6, J 0), (0, .ref (B + 68)), (1, .ref (B + a1)), (2, .ref (B + a2)), (3, J v3), (4, J v4_3), (5, J v5_4)] dX7_howManyStreams_54 (by decide) rfl ?_
      refine g_sub [(0, .ref (B + 68)), (1, .ref (B + a1)), (2, .ref (B + a2)), (3, J v3), (4, J v4_3), (5, J v5_4), (6, J 0)] [1, 2, 3, 4, 5, 6, 0] rfl ?_
      refine wl3_elim (fun (v4_6 : Int) (v6_7 : Int) (M_8 : Mem) => inR v4_6 → inR v6_7 → MR M_8 → G p l e (rmF 1 23) s m args below meth c B D K 9 0 0 (ZI below args s B D K Q) M_8 56 [(0, .ref (B + 68)), (1, .ref (B + a1)), (2, .ref (B + a2)), (3, J v3), (4, J v4_6), (5, J v5_4), (6, J v6_7)] []) ?_ 5000 v4_3 0 M_5 hf h_v4_3 (by unfold inR; omega) h_M_5
      intro rec56 ih56 v4_6 v6_7 M_8 hf h_v4_6 h_v6_7 h_M_8
      unfold X7_howManyStreams_b56 at hf
      refine g_iload hC 6 dX7_howManyStreams_56 rfl ?_
      refine g_aload_n hC 1 dX7_howManyStreams_58 rfl rfl ?_
      refine g_geti hC okX5 (sh_X5 h_a1) 1 (by decide) rfl wf_X7_27 dX7_howManyStreams_59 ?_
      refine g_icmp_ge hC 139 h_v6_7 (h_M_8 _ _) dX7_howManyStreams_62 rfl (fun c_37 => ?_) (fun c_37 => ?_)
      · replace hf := hf.1 c_37
        obtain ⟨q_10, hf⟩ := hf
        obtain ⟨v5_9, e_v5_9⟩ : ∃ z : Int, z = v5_4 + 1 := ⟨_, rfl⟩
        replace hf := hf v5_9 e_v5_9
        have h_v5_9 : inR v5_9 := by rw [e_v5_9]; exact q_10
        refine g_iincv hC 5 e_v5_9 [(5, J v5_9), (0, .ref (B + 68)), (1, .ref (B + a1)), (2, .ref (B + a2)), (3, J v3), (4, J v4_6), (6, J v6_7)] dX7_howManyStreams_139 rfl (by decide) rfl ?_
        refine g_goto hC 44 dX7_howManyStreams_142 rfl ?_
        refine g_sub [(0, .ref (B + 68)), (1, .ref (B + a1)), (2, .ref (B + a2)), (3, J v3), (4, J v4_6), (5, J v5_9)] [1, 2, 3, 4, 5, 0] rfl ?_
        exact ih44 v4_6 v5_9 M_8 hf h_v4_6 h_v5_9 h_M_8
      · replace hf := hf.2 c_37
        refine g_aload_n hC 2 dX7_howManyStreams_65 rfl rfl ?_
        refine g_iload hC 5 dX7_howManyStreams_66 rfl ?_
        obtain ⟨q_11, hf⟩ := hf
        refine g_ialdk (v5_4.toNat) hC h_a2 q_11.1 q_11.2 rfl dX7_howManyStreams_68 ?_
        refine g_iload_n hC 3 dX7_howManyStreams_69 rfl rfl ?_
        refine g_icmp_ne hC 133 (h_M_8 _ _) i_v3 dX7_howManyStreams_70 rfl (fun c_36 => ?_) (fun c_36 => ?_)
        · replace hf := hf.1 c_36
          obtain ⟨q_13, hf⟩ := hf
          obtain ⟨v6_12, e_v6_12⟩ : ∃ z : Int, z = v6_7 + 1 := ⟨_, rfl⟩
          replace hf := hf v6_12 e_v6_12
          have h_v6_12 : inR v6_12 := by rw [e_v6_12]; exact q_13
          refine g_iincv hC 6 e_v6_12 [(6, J v6_12), (0, .ref (B + 68)), (1, .ref (B + a1)), (2, .ref (B + a2)), (3, J v3), (4, J v4_6), (5, J v5_4)] dX7_howManyStreams_133 rfl (by decide) rfl ?_
          refine g_goto hC 56 dX7_howManyStreams_136 rfl ?_
          refine g_sub [(0, .ref (B + 68)), (1, .ref (B + a1)), (2, .ref (B + a2)), (3, J v3), (4, J v4_6), (5, J v5_4), (6, J v6_12)] [1, 2, 3, 4, 5, 6, 0] rfl ?_
          exact ih56 v4_6 v6_12 M_8 hf h_v4_6 h_v6_12 h_M_8
        · replace hf := hf.2 c_36
          refine g_aload_n hC 2 dX7_howManyStreams_73 rfl rfl ?_
          refine g_iload hC 6 dX7_howManyStreams_74 rfl ?_
          obtain ⟨q_14, hf⟩ := hf
          refine g_ialdk (v6_7.toNat) hC h_a2 q_14.1 q_14.2 rfl dX7_howManyStreams_76 ?_
          refine g_iload_n hC 3 dX7_howManyStreams_77 rfl rfl ?_
          refine g_icmp_ne hC 133 (h_M_8 _ _) i_v3 dX7_howManyStreams_78 rfl (fun c_35 => ?_) (fun c_35 => ?_)
          · replace hf := hf.1 c_35
            obtain ⟨q_16, hf⟩ := hf
            obtain ⟨v6_15, e_v6_15⟩ : ∃ z : Int, z = v6_7 + 1 := ⟨_, rfl⟩
            replace hf := hf v6_15 e_v6_15
            have h_v6_15 : inR v6_15 := by rw [e_v6_15]; exact q_16
            refine g_iincv hC 6 e_v6_15 [(6, J v6_15), (0, .ref (B + 68)), (1, .ref (B + a1)), (2, .ref (B + a2)), (3, J v3), (4, J v4_6), (5, J v5_4)] dX7_howManyStreams_133 rfl (by decide) rfl ?_
            refine g_goto hC 56 dX7_howManyStreams_136 rfl ?_
            refine g_sub [(0, .ref (B + 68)), (1, .ref (B + a1)), (2, .ref (B + a2)), (3, J v3), (4, J v4_6), (5, J v5_4), (6, J v6_15)] [1, 2, 3, 4, 5, 6, 0] rfl ?_
            exact ih56 v4_6 v6_15 M_8 hf h_v4_6 h_v6_15 h_M_8
          · replace hf := hf.2 c_35
            refine g_aload_n hC 1 dX7_howManyStreams_81 rfl rfl ?_
            refine g_getr hC okX5 (sh_X5 h_a1) 3 (by decide) rfl wf_X7_38 dX7_howManyStreams_82 ?_
            refine g_iload hC 5 dX7_howManyStreams_85 rfl ?_
            obtain ⟨q_17, hf⟩ := hf
            refine g_ialdk (v5_4.toNat) hC (sh_X5_3 h_a1) q_17.1 q_17.2 rfl dX7_howManyStreams_87 ?_
            refine g_aload_n hC 1 dX7_howManyStreams_88 rfl rfl ?_
            refine g_getr hC okX5 (sh_X5 h_a1) 2 (by decide) rfl wf_X7_41 dX7_howManyStreams_89 ?_
            refine g_iload hC 6 dX7_howManyStreams_92 rfl ?_
            obtain ⟨q_18, hf⟩ := hf
            refine g_ialdk (v6_7.toNat) hC (sh_X5_2 h_a1) q_18.1 q_18.2 rfl dX7_howManyStreams_94 ?_
            refine g_icmp_ne hC 133 (h_M_8 _ _) (h_M_8 _ _) dX7_howManyStreams_95 rfl (fun c_34 => ?_) (fun c_34 => ?_)
            · replace hf := hf.1 c_34
              obtain ⟨q_20, hf⟩ := hf
              obtain ⟨v6_19, e_v6_19⟩ : ∃ z : Int, z = v6_7 + 1 := ⟨_, rfl⟩
              replace hf := hf v6_19 e_v6_19
              have h_v6_19 : inR v6_19 := by rw [e_v6_19]; exact q_20
              refine g_iincv hC 6 e_v6_19 [(6, J v6_19), (0, .ref (B + 68)), (1, .ref (B + a1)), (2, .ref (B + a2)), (3, J v3), (4, J v4_6), (5, J v5_4)] dX7_howManyStreams_133 rfl (by decide) rfl ?_
              refine g_goto hC 56 dX7_howManyStreams_136 rfl ?_
              refine g_sub [(0, .ref (B + 68)), (1, .ref (B + a1)), (2, .ref (B + a2)), (3, J v3), (4, J v4_6), (5, J v5_4), (6, J v6_19)] [1, 2, 3, 4, 5, 6, 0] rfl ?_
              exact ih56 v4_6 v6_19 M_8 hf h_v4_6 h_v6_19 h_M_8
            · replace hf := hf.2 c_34
              refine g_aload_n hC 0 dX7_howManyStreams_98 rfl rfl ?_
              refine g_iload hC 5 dX7_howManyStreams_99 rfl ?_
              refine g_callVI hC (sk := []) [J v5_4] (c_X7_leader l B D K v5_4 h_v5_4 M_8 h_M_8 _ hf) yv_X7_leader wm_X7_54 okX7.1 sc68 rfl ⟨Nat.le_of_ble_eq_true rfl, Nat.le_of_ble_eq_true rfl, Nat.le_of_ble_eq_true rfl, Nat.le_of_ble_eq_true rfl⟩ rfl (Nat.le_of_ble_eq_true rfl) dX7_howManyStreams_101 ?_
              rintro r_21 M_22 h_r_21 - ⟨rfl, hf⟩
              refine g_istore hC [(7, J r_21), (0, .ref (B + 68)), (1, .ref (B + a1)), (2, .ref (B + a2)), (3, J v3), (4, J v4_6), (5, J v5_4), (6, J v6_7)] dX7_howManyStreams_104 (by decide) rfl ?_
              refine g_aload_n hC 1 dX7_howManyStreams_106 rfl rfl ?_
              refine g_iload hC 7 dX7_howManyStreams_107 rfl ?_
              refine g_callVI hC (sk := []) [J v6_7] (c_X7_leader l B D K v6_7 h_v6_7 M_8 h_M_8 _ hf) yv_X7_leader wm_X7_54 okX7.1 sc68 rfl ⟨Nat.le_of_ble_eq_true rfl, Nat.le_of_ble_eq_true rfl, Nat.le_of_ble_eq_true rfl, Nat.le_of_ble_eq_true rfl⟩ rfl (Nat.le_of_ble_eq_true rfl) dX7_howManyStreams_109 ?_
              rintro r_23 M_24 h_r_23 - ⟨rfl, hf⟩
              refine g_istore hC [(8, J r_23), (7, J r_21), (0, .ref (B + 68)), (1, .ref (B + a1)), (2, .ref (B + a2)), (3, J v3), (4, J v4_6), (5, J v5_4), (6, J v6_7)] dX7_howManyStreams_112 (by decide) rfl ?_
              refine g_iload hC 1 dX7_howManyStreams_114 rfl ?_
              refine g_iload hC 0 dX7_howManyStreams_116 rfl ?_
              refine g_icmp_eq hC 133 h_r_21 h_r_23 dX7_howManyStreams_118 rfl (fun c_33 => ?_) (fun c_33 => ?_)
              · replace hf := hf.1 c_33
                obtain ⟨q_26, hf⟩ := hf
                obtain ⟨v6_25, e_v6_25⟩ : ∃ z : Int, z = v6_7 + 1 := ⟨_, rfl⟩
                replace hf := hf v6_25 e_v6_25
                have h_v6_25 : inR v6_25 := by rw [e_v6_25]; exact q_26
                refine g_iincv hC 8 e_v6_25 [(6, J v6_25), (8, J r_23), (7, J r_21), (0, .ref (B + 68)), (1, .ref (B + a1)), (2, .ref (B + a2)), (3, J v3), (4, J v4_6), (5, J v5_4)] dX7_howManyStreams_133 rfl (by decide) rfl ?_
                refine g_goto hC 56 dX7_howManyStreams_136 rfl ?_
                refine g_sub [(0, .ref (B + 68)), (1, .ref (B + a1)), (2, .ref (B + a2)), (3, J v3), (4, J v4_6), (5, J v5_4), (6, J v6_25)] [3, 4, 5, 6, 7, 8, 0] rfl ?_
                exact ih56 v4_6 v6_25 M_8 hf h_v4_6 h_v6_25 h_M_8
              · replace hf := hf.2 c_33
                refine g_aload_n hC 2 dX7_howManyStreams_121 rfl rfl ?_
                refine g_getr hC okX7 sc68 1 (by decide) rfl wf_X7_15 dX7_howManyStreams_122 ?_
                refine g_iload hC 0 dX7_howManyStreams_125 rfl ?_
                refine g_iload hC 1 dX7_howManyStreams_127 rfl ?_
                obtain ⟨q_27, hf⟩ := hf
                refine g_iastk (r_23.toNat) hC sc70 q_27.1 q_27.2 rfl dX7_howManyStreams_129 ?_
                refine g_nmM (fun M_28 e_M_28 => ?_)
                replace hf := hf M_28 e_M_28
                have h_M_28 : MR M_28 := by rw [e_M_28]; exact MR_st h_M_8 h_r_21
                obtain ⟨q_30, hf⟩ := hf
                obtain ⟨v4_29, e_v4_29⟩ : ∃ z : Int, z = v4_6 + (-1) := ⟨_, rfl⟩
                replace hf := hf v4_29 e_v4_29
                have h_v4_29 : inR v4_29 := by rw [e_v4_29]; exact q_30
                refine g_iincv hC 6 e_v4_29 [(4, J v4_29), (8, J r_23), (7, J r_21), (0, .ref (B + 68)), (1, .ref (B + a1)), (2, .ref (B + a2)), (3, J v3), (5, J v5_4), (6, J v6_7)] dX7_howManyStreams_130 rfl (by decide) rfl ?_
                obtain ⟨q_32, hf⟩ := hf
                obtain ⟨v6_31, e_v6_31⟩ : ∃ z : Int, z = v6_7 + 1 := ⟨_, rfl⟩
                replace hf := hf v6_31 e_v6_31
                have h_v6_31 : inR v6_31 := by rw [e_v6_31]; exact q_32
                refine g_iincv hC 8 e_v6_31 [(6, J v6_31), (4, J v4_29), (8, J r_23), (7, J r_21), (0, .ref (B + 68)), (1, .ref (B + a1)), (2, .ref (B + a2)), (3, J v3), (5, J v5_4)] dX7_howManyStreams_133 rfl (by decide) rfl ?_
                refine g_goto hC 56 dX7_howManyStreams_136 rfl ?_
                refine g_sub [(0, .ref (B + 68)), (1, .ref (B + a1)), (2, .ref (B + a2)), (3, J v3), (4, J v4_29), (5, J v5_4), (6, J v6_31)] [4, 5, 6, 7, 1, 8, 0] rfl ?_
                exact ih56 v4_29 v6_31 M_28 hf h_v4_29 h_v6_31 h_M_28
  · intro J41 hJ41 hf
    refine g_sub [(0, .ref (B + 68)), (1, .ref (B + a1)), (2, .ref (B + a2)), (3, J v3), (4, J 0), (5, J 0)] [2, 3, 4, 5, 1, 0] rfl ?_
    refine wl3_elim (fun (v4_39 : Int) (v5_40 : Int) (M_41 : Mem) => inR v4_39 → inR v5_40 → MR M_41 → G p l e (rmF 1 23) s m args below meth c B D K 9 0 0 (ZI below args s B D K Q) M_41 6 [(0, .ref (B + 68)), (1, .ref (B + a1)), (2, .ref (B + a2)), (3, J v3), (4, J v4_39), (5, J v5_40)] []) ?_ 5000 0 0 M hf (by unfold inR; omega) (by unfold inR; omega) hM
    intro rec6 ih6 v4_39 v5_40 M_41 hf h_v4_39 h_v5_40 h_M_41
    unfold X7_howManyStreams_b6 at hf
    refine g_iload hC 5 dX7_howManyStreams_6 rfl ?_
    refine g_aload_n hC 1 dX7_howManyStreams_8 rfl rfl ?_
    refine g_geti hC okX5 (sh_X5 h_a1) 1 (by decide) rfl wf_X7_27 dX7_howManyStreams_9 ?_
    refine g_icmp_ge hC 41 h_v5_40 (h_M_41 _ _) dX7_howManyStreams_12 rfl (fun c_52 => ?_) (fun c_52 => ?_)
    · replace hf := hf.1 c_52
      refine g_sub [(0, .ref (B + 68)), (1, .ref (B + a1)), (2, .ref (B + a2)), (3, J v3), (4, J v4_39)] [0, 1, 2, 3, 4] rfl ?_
      exact hJ41 v4_39 M_41 hf h_v4_39 h_M_41
    · replace hf := hf.2 c_52
      refine g_aload_n hC 0 dX7_howManyStreams_15 rfl rfl ?_
      refine g_getr hC okX7 sc68 1 (by decide) rfl wf_X7_15 dX7_howManyStreams_16 ?_
      refine g_iload hC 5 dX7_howManyStreams_19 rfl ?_
      refine g_iload hC 5 dX7_howManyStreams_21 rfl ?_
      obtain ⟨q_42, hf⟩ := hf
      refine g_iastk (v5_40.toNat) hC sc70 q_42.1 q_42.2 rfl dX7_howManyStreams_23 ?_
      refine g_nmM (fun M_43 e_M_43 => ?_)
      replace hf := hf M_43 e_M_43
      have h_M_43 : MR M_43 := by rw [e_M_43]; exact MR_st h_M_41 h_v5_40
      refine g_aload_n hC 2 dX7_howManyStreams_24 rfl rfl ?_
      refine g_iload hC 5 dX7_howManyStreams_25 rfl ?_
      obtain ⟨q_44, hf⟩ := hf
      refine g_ialdk (v5_40.toNat) hC h_a2 q_44.1 q_44.2 rfl dX7_howManyStreams_27 ?_
      refine g_iload_n hC 3 dX7_howManyStreams_28 rfl rfl ?_
      refine g_icmp_ne hC 35 (h_M_43 _ _) i_v3 dX7_howManyStreams_29 rfl (fun c_51 => ?_) (fun c_51 => ?_)
      · replace hf := hf.1 c_51
        obtain ⟨q_46, hf⟩ := hf
        obtain ⟨v5_45, e_v5_45⟩ : ∃ z : Int, z = v5_40 + 1 := ⟨_, rfl⟩
        replace hf := hf v5_45 e_v5_45
        have h_v5_45 : inR v5_45 := by rw [e_v5_45]; exact q_46
        refine g_iincv hC 5 e_v5_45 [(5, J v5_45), (0, .ref (B + 68)), (1, .ref (B + a1)), (2, .ref (B + a2)), (3, J v3), (4, J v4_39)] dX7_howManyStreams_35 rfl (by decide) rfl ?_
        refine g_goto hC 6 dX7_howManyStreams_38 rfl ?_
        refine g_sub [(0, .ref (B + 68)), (1, .ref (B + a1)), (2, .ref (B + a2)), (3, J v3), (4, J v4_39), (5, J v5_45)] [1, 2, 3, 4, 5, 0] rfl ?_
        exact ih6 v4_39 v5_45 M_43 hf h_v4_39 h_v5_45 h_M_43
      · replace hf := hf.2 c_51
        obtain ⟨q_48, hf⟩ := hf
        obtain ⟨v4_47, e_v4_47⟩ : ∃ z : Int, z = v4_39 + 1 := ⟨_, rfl⟩
        replace hf := hf v4_47 e_v4_47
        have h_v4_47 : inR v4_47 := by rw [e_v4_47]; exact q_48
        refine g_iincv hC 4 e_v4_47 [(4, J v4_47), (0, .ref (B + 68)), (1, .ref (B + a1)), (2, .ref (B + a2)), (3, J v3), (5, J v5_40)] dX7_howManyStreams_32 rfl (by decide) rfl ?_
        obtain ⟨q_50, hf⟩ := hf
        obtain ⟨v5_49, e_v5_49⟩ : ∃ z : Int, z = v5_40 + 1 := ⟨_, rfl⟩
        replace hf := hf v5_49 e_v5_49
        have h_v5_49 : inR v5_49 := by rw [e_v5_49]; exact q_50
        refine g_iincv hC 5 e_v5_49 [(5, J v5_49), (4, J v4_47), (0, .ref (B + 68)), (1, .ref (B + a1)), (2, .ref (B + a2)), (3, J v3)] dX7_howManyStreams_35 rfl (by decide) rfl ?_
        refine g_goto hC 6 dX7_howManyStreams_38 rfl ?_
        refine g_sub [(0, .ref (B + 68)), (1, .ref (B + a1)), (2, .ref (B + a2)), (3, J v3), (4, J v4_47), (5, J v5_49)] [2, 3, 4, 5, 1, 0] rfl ?_
        exact ih6 v4_47 v5_49 M_43 hf h_v4_47 h_v5_49 h_M_43
