set_option maxHeartbeats 4000000 in
set_option maxRecDepth 100000 in
theorem c_X12_laysFlow (l : Launch) (B : Nat) (D : va_G) (K : Nat → ClassId)   (M : Mem) (hM : MR M) (Q : Mem → Prop) (hf : f_X12_laysFlow  M Q) : CtV l yX12_laysFlow cX12_laysFlow 2 3 66 B D K [.ref (B + 95)] M Q := by
  refine ct_v (by decide) (Nat.le_of_ble_eq_true rfl) ?_
  intro p e s m args below meth c hC
  have hC : Cx p s m args meth c D K cX12_laysFlow 2 RX12 none := hC
  unfold f_X12_laysFlow at hf
  refine (show G p l e (rmF 3 66) s m args below meth c B D K 2 0 0 (ZV below args s B D K Q) M 0 [(0, .ref (B + 95))] [] from ?_)
  refine g_iconst hC dX12_laysFlow_0 ?_
  refine g_istore_n hC [(1, J 0), (0, .ref (B + 95))] dX12_laysFlow_1 rfl (by decide) rfl ?_
  refine jn_elim (fun (k : Mem → Prop) => ∀ (M_1 : Mem), k M_1 → (MR M_1) → G p l e (rmF 3 66) s m args below meth c B D K 2 0 0 (ZV below args s B D K Q) M_1 23 [(0, .ref (B + 95))] []) hf ?_ ?_
  · intro M_1 hf h_M_1
    refine g_iconst hC dX12_laysFlow_23 ?_
    refine g_istore_n hC [(1, J 0), (0, .ref (B + 95))] dX12_laysFlow_24 rfl (by decide) rfl ?_
    refine g_sub [(0, .ref (B + 95)), (1, J 0)] [1, 0] rfl ?_
    refine wl2_elim (fun (v1_2 : Int) (M_3 : Mem) => inR v1_2 → MR M_3 → G p l e (rmF 3 66) s m args below meth c B D K 2 0 0 (ZV below args s B D K Q) M_3 25 [(0, .ref (B + 95)), (1, J v1_2)] []) ?_ 5000 0 M_1 hf (by unfold inR; omega) h_M_1
    intro rec25 ih25 v1_2 M_3 hf h_v1_2 h_M_3
    unfold X12_laysFlow_b25 at hf
    refine g_iload_n hC 1 dX12_laysFlow_25 rfl rfl ?_
    refine g_aload_n hC 0 dX12_laysFlow_26 rfl rfl ?_
    refine g_callVI hC (sk := [J v1_2]) [] (c_X12_places l B D K   M_3 h_M_3 _ hf) yv_X12_places wm_X12_246 okX12.1 sc95 rfl ⟨Nat.le_of_ble_eq_true rfl, Nat.le_of_ble_eq_true rfl, Nat.le_of_ble_eq_true rfl, Nat.le_of_ble_eq_true rfl⟩ rfl (Nat.le_of_ble_eq_true rfl) dX12_laysFlow_27 ?_
    rintro r_4 M_5 h_r_4 - ⟨rfl, hf⟩
    refine g_icmp_ge hC 49 h_v1_2 h_r_4 dX12_laysFlow_30 rfl (fun c_10 => ?_) (fun c_10 => ?_)
    · replace hf := hf.1 c_10
      exact g_retv hC h_M_3 hf dX12_laysFlow_49
    · replace hf := hf.2 c_10
      refine g_aload_n hC 0 dX12_laysFlow_33 rfl rfl ?_
      refine g_aload_n hC 0 dX12_laysFlow_34 rfl rfl ?_
      refine g_getr hC okX12 sc95 16 (by decide) rfl wf_X12_30 dX12_laysFlow_35 ?_
      refine g_iload_n hC 1 dX12_laysFlow_38 rfl rfl ?_
      obtain ⟨q_6, hf⟩ := hf
      refine g_ialdk (v1_2.toNat) hC sc101 q_6.1 q_6.2 rfl dX12_laysFlow_39 ?_
      refine g_callVV hC (sk := []) [J (M_3 101 (v1_2.toNat))] (c_X12_sharesOut l B D K (M_3 101 (v1_2.toNat)) (h_M_3 _ _) M_3 h_M_3 _ hf) yv_X12_sharesOut wm_X12_259 okX12.1 sc95 rfl ⟨Nat.le_of_ble_eq_true rfl, Nat.le_of_ble_eq_true rfl, Nat.le_of_ble_eq_true rfl, Nat.le_of_ble_eq_true rfl⟩ rfl (Nat.le_of_ble_eq_true rfl) dX12_laysFlow_40 ?_
      intro M_7 h_M_7 hf
      obtain ⟨q_9, hf⟩ := hf
      obtain ⟨v1_8, e_v1_8⟩ : ∃ z : Int, z = v1_2 + 1 := ⟨_, rfl⟩
      replace hf := hf v1_8 e_v1_8
      have h_v1_8 : inR v1_8 := by rw [e_v1_8]; exact q_9
      refine g_iincv hC 1 e_v1_8 [(1, J v1_8), (0, .ref (B + 95))] dX12_laysFlow_43 rfl (by decide) rfl ?_
      refine g_goto hC 25 dX12_laysFlow_46 rfl ?_
      refine g_sub [(0, .ref (B + 95)), (1, J v1_8)] [1, 0] rfl ?_
      exact ih25 v1_8 M_7 hf h_v1_8 h_M_7
  · intro J23 hJ23 hf
    refine g_sub [(0, .ref (B + 95)), (1, J 0)] [1, 0] rfl ?_
    refine wl2_elim (fun (v1_11 : Int) (M_12 : Mem) => inR v1_11 → MR M_12 → G p l e (rmF 3 66) s m args below meth c B D K 2 0 0 (ZV below args s B D K Q) M_12 2 [(0, .ref (B + 95)), (1, J v1_11)] []) ?_ 5000 0 M hf (by unfold inR; omega) hM
    intro rec2 ih2 v1_11 M_12 hf h_v1_11 h_M_12
    unfold X12_laysFlow_b2 at hf
    refine g_iload_n hC 1 dX12_laysFlow_2 rfl rfl ?_
    refine g_aload_n hC 0 dX12_laysFlow_3 rfl rfl ?_
    refine g_callVI hC (sk := [J v1_11]) [] (c_X12_places l B D K   M_12 h_M_12 _ hf) yv_X12_places wm_X12_246 okX12.1 sc95 rfl ⟨Nat.le_of_ble_eq_true rfl, Nat.le_of_ble_eq_true rfl, Nat.le_of_ble_eq_true rfl, Nat.le_of_ble_eq_true rfl⟩ rfl (Nat.le_of_ble_eq_true rfl) dX12_laysFlow_4 ?_
    rintro r_13 M_14 h_r_13 - ⟨rfl, hf⟩
    refine g_icmp_ge hC 23 h_v1_11 h_r_13 dX12_laysFlow_7 rfl (fun c_19 => ?_) (fun c_19 => ?_)
    · replace hf := hf.1 c_19
      refine g_sub [(0, .ref (B + 95))] [0] rfl ?_
      exact hJ23 M_12 hf h_M_12
    · replace hf := hf.2 c_19
      refine g_aload_n hC 0 dX12_laysFlow_10 rfl rfl ?_
      refine g_getr hC okX12 sc95 21 (by decide) rfl wf_X12_45 dX12_laysFlow_11 ?_
      refine g_iload_n hC 1 dX12_laysFlow_14 rfl rfl ?_
      refine g_iconst hC dX12_laysFlow_15 ?_
      obtain ⟨q_15, hf⟩ := hf
      refine g_iastk (v1_11.toNat) hC sc106 q_15.1 q_15.2 rfl dX12_laysFlow_16 ?_
      refine g_nmM (fun M_16 e_M_16 => ?_)
      replace hf := hf M_16 e_M_16
      have h_M_16 : MR M_16 := by rw [e_M_16]; exact MR_st h_M_12 (by unfold inR; omega)
      obtain ⟨q_18, hf⟩ := hf
      obtain ⟨v1_17, e_v1_17⟩ : ∃ z : Int, z = v1_11 + 1 := ⟨_, rfl⟩
      replace hf := hf v1_17 e_v1_17
      have h_v1_17 : inR v1_17 := by rw [e_v1_17]; exact q_18
      refine g_iincv hC 1 e_v1_17 [(1, J v1_17), (0, .ref (B + 95))] dX12_laysFlow_17 rfl (by decide) rfl ?_
      refine g_goto hC 2 dX12_laysFlow_20 rfl ?_
      refine g_sub [(0, .ref (B + 95)), (1, J v1_17)] [1, 0] rfl ?_
      exact ih2 v1_17 M_16 hf h_v1_17 h_M_16
set_option maxHeartbeats 4000000 in
set_option maxRecDepth 100000 in
theorem c_X12_sources (l : Launch) (B : Nat) (D : va_G) (K : Nat → ClassId)   (M : Mem) (hM : MR M) (Q : Int → Prop) (hf : f_X12_sources  M Q) : CtI l yX12_sources cX12_sources 3 1 21 B D K [.ref (B + 95)] M (fun r M1 => M = M1 ∧ Q r) := by
  refine ct_i (by decide) (Nat.le_of_ble_eq_true rfl) ?_
  intro p e s m args below meth c hC
  have hC : Cx p s m args meth c D K cX12_sources 3 RX12 (some .int) := hC
  unfold f_X12_sources at hf
  refine (show G p l e (rmF 1 21) s m args below meth c B D K 3 0 0 (ZI below args s B D K (fun r M1 => M = M1 ∧ Q r)) M 0 [(0, .ref (B + 95))] [] from ?_)
  refine g_iconst hC dX12_sources_0 ?_
  refine g_istore_n hC [(1, J 0), (0, .ref (B + 95))] dX12_sources_1 rfl (by decide) rfl ?_
  refine g_iconst hC dX12_sources_2 ?_
  refine g_istore_n hC [(2, J 0), (1, J 0), (0, .ref (B + 95))] dX12_sources_3 rfl (by decide) rfl ?_
  refine g_sub [(0, .ref (B + 95)), (1, J 0), (2, J 0)] [2, 1, 0] rfl ?_
  refine wl2_elim (fun (v1_1 : Int) (v2_2 : Int) => inR v1_1 → inR v2_2 → G p l e (rmF 1 21) s m args below meth c B D K 3 0 0 (ZI below args s B D K (fun r M1 => M = M1 ∧ Q r)) M 4 [(0, .ref (B + 95)), (1, J v1_1), (2, J v2_2)] []) ?_ 5000 0 0 hf (by unfold inR; omega) (by unfold inR; omega)
  intro rec4 ih4 v1_1 v2_2 hf h_v1_1 h_v2_2
  unfold X12_sources_b4 at hf
  refine g_iload_n hC 2 dX12_sources_4 rfl rfl ?_
  refine g_aload_n hC 0 dX12_sources_5 rfl rfl ?_
  refine g_callVI hC (sk := [J v2_2]) [] (c_X12_places l B D K   M hM _ hf) yv_X12_places wm_X12_246 okX12.1 sc95 rfl ⟨Nat.le_of_ble_eq_true rfl, Nat.le_of_ble_eq_true rfl, Nat.le_of_ble_eq_true rfl, Nat.le_of_ble_eq_true rfl⟩ rfl (Nat.le_of_ble_eq_true rfl) dX12_sources_6 ?_
  rintro r_3 M_4 h_r_3 - ⟨rfl, hf⟩
  refine g_icmp_ge hC 32 h_v2_2 h_r_3 dX12_sources_9 rfl (fun c_13 => ?_) (fun c_13 => ?_)
  · replace hf := hf.1 c_13
    refine g_iload_n hC 1 dX12_sources_32 rfl rfl ?_
    exact g_reti hC h_v1_1 hM ⟨rfl, hf⟩ dX12_sources_33
  · replace hf := hf.2 c_13
    refine g_aload_n hC 0 dX12_sources_12 rfl rfl ?_
    refine g_iload_n hC 2 dX12_sources_13 rfl rfl ?_
    refine g_callVZ hC (sk := []) [J v2_2] (c_X12_isSource l B D K v2_2 h_v2_2 M hM _ hf) yv_X12_isSource wm_X12_262 okX12.1 sc95 rfl ⟨Nat.le_of_ble_eq_true rfl, Nat.le_of_ble_eq_true rfl, Nat.le_of_ble_eq_true rfl, Nat.le_of_ble_eq_true rfl⟩ rfl (Nat.le_of_ble_eq_true rfl) dX12_sources_14 ?_
    rintro r_5 M_6 h_r_5 - ⟨rfl, hf⟩
    refine g_if_eq hC 26 (zi_ h_r_5) dX12_sources_17 rfl (fun c_12 => ?_) (fun c_12 => ?_)
    · replace hf := hf.1 c_12
      obtain ⟨q_8, hf⟩ := hf
      obtain ⟨v2_7, e_v2_7⟩ : ∃ z : Int, z = v2_2 + 1 := ⟨_, rfl⟩
      replace hf := hf v2_7 e_v2_7
      have h_v2_7 : inR v2_7 := by rw [e_v2_7]; exact q_8
      refine g_iincv hC 2 e_v2_7 [(2, J v2_7), (0, .ref (B + 95)), (1, J v1_1)] dX12_sources_26 rfl (by decide) rfl ?_
      refine g_goto hC 4 dX12_sources_29 rfl ?_
      refine g_sub [(0, .ref (B + 95)), (1, J v1_1), (2, J v2_7)] [1, 2, 0] rfl ?_
      exact ih4 v1_1 v2_7 hf h_v1_1 h_v2_7
    · replace hf := hf.2 c_12
      refine g_iload_n hC 1 dX12_sources_20 rfl rfl ?_
      refine g_iconst hC dX12_sources_21 ?_
      refine g_iload_n hC 2 dX12_sources_22 rfl rfl ?_
      refine g_ishl hC dX12_sources_23 ?_
      refine g_ior hC dX12_sources_24 ?_
      refine g_nm (fun v1_9 e_v1_9 => ?_)
      replace hf := hf v1_9 e_v1_9
      have h_v1_9 : inR v1_9 := by rw [e_v1_9]; exact (bOr_in _ _)
      refine g_istore_n hC [(1, J v1_9), (0, .ref (B + 95)), (2, J v2_2)] dX12_sources_25 rfl (by decide) rfl ?_
      obtain ⟨q_11, hf⟩ := hf
      obtain ⟨v2_10, e_v2_10⟩ : ∃ z : Int, z = v2_2 + 1 := ⟨_, rfl⟩
      replace hf := hf v2_10 e_v2_10
      have h_v2_10 : inR v2_10 := by rw [e_v2_10]; exact q_11
      refine g_iincv hC 2 e_v2_10 [(2, J v2_10), (1, J v1_9), (0, .ref (B + 95))] dX12_sources_26 rfl (by decide) rfl ?_
      refine g_goto hC 4 dX12_sources_29 rfl ?_
      refine g_sub [(0, .ref (B + 95)), (1, J v1_9), (2, J v2_10)] [2, 1, 0] rfl ?_
      exact ih4 v1_9 v2_10 hf h_v1_9 h_v2_10
set_option maxHeartbeats 4000000 in
set_option maxRecDepth 100000 in
theorem c_X12_areApart (l : Launch) (B : Nat) (D : va_G) (K : Nat → ClassId) (v1 : Int) (v2 : Int) (i_v1 : inR v1) (i_v2 : inR v2) (M : Mem) (hM : MR M) (Q : Int → Prop) (hf : f_X12_areApart v1 v2 M Q) : CtZ l yX12_areApart cX12_areApart 5 2 43 B D K [.ref (B + 95), J v1, J v2] M (fun r M1 => M = M1 ∧ Q r) := by
  refine ct_z (by decide) (Nat.le_of_ble_eq_true rfl) ?_
  intro p e s m args below meth c hC
  have hC : Cx p s m args meth c D K cX12_areApart 5 RX12 (some .boolean) := hC
  unfold f_X12_areApart at hf
  refine (show G p l e (rmF 2 43) s m args below meth c B D K 5 0 0 (ZZ below args s B D K (fun r M1 => M = M1 ∧ Q r)) M 0 [(0, .ref (B + 95)), (1, J v1), (2, J v2)] [] from ?_)
  refine g_iconst hC dX12_areApart_0 ?_
  refine g_istore_n hC [(3, J 0), (0, .ref (B + 95)), (1, J v1), (2, J v2)] dX12_areApart_1 rfl (by decide) rfl ?_
  refine g_sub [(0, .ref (B + 95)), (1, J v1), (2, J v2), (3, J 0)] [1, 2, 3, 0] rfl ?_
  refine wl1_elim (fun (v3_1 : Int) => inR v3_1 → G p l e (rmF 2 43) s m args below meth c B D K 5 0 0 (ZZ below args s B D K (fun r M1 => M = M1 ∧ Q r)) M 2 [(0, .ref (B + 95)), (1, J v1), (2, J v2), (3, J v3_1)] []) ?_ 5000 0 hf (by unfold inR; omega)
  intro rec2 ih2 v3_1 hf h_v3_1
  unfold X12_areApart_b2 at hf
  refine g_iload_n hC 3 dX12_areApart_2 rfl rfl ?_
  refine g_aload_n hC 0 dX12_areApart_3 rfl rfl ?_
  refine g_callVI hC (sk := [J v3_1]) [] (c_X12_reaches l B D K   M hM _ hf) yv_X12_reaches wm_X12_249 okX12.1 sc95 rfl ⟨Nat.le_of_ble_eq_true rfl, Nat.le_of_ble_eq_true rfl, Nat.le_of_ble_eq_true rfl, Nat.le_of_ble_eq_true rfl⟩ rfl (Nat.le_of_ble_eq_true rfl) dX12_areApart_4 ?_
  rintro r_2 M_3 h_r_2 - ⟨rfl, hf⟩
  refine g_icmp_ge hC 92 h_v3_1 h_r_2 dX12_areApart_7 rfl (fun c_29 => ?_) (fun c_29 => ?_)
  · replace hf := hf.1 c_29
    refine g_iconst hC dX12_areApart_92 ?_
    exact g_retz hC (Or.inl rfl) hM ⟨rfl, hf⟩ dX12_areApart_93
  · replace hf := hf.2 c_29
    refine g_iconst hC dX12_areApart_10 ?_
    refine g_istore hC [(4, J 0), (0, .ref (B + 95)), (1, J v1), (2, J v2), (3, J v3_1)] dX12_areApart_11 (by decide) rfl ?_
    refine g_sub [(0, .ref (B + 95)), (1, J v1), (2, J v2), (3, J v3_1), (4, J 0)] [1, 2, 3, 4, 0] rfl ?_
    refine wl1_elim (fun (v4_4 : Int) => inR v4_4 → G p l e (rmF 2 43) s m args below meth c B D K 5 0 0 (ZZ below args s B D K (fun r M1 => M = M1 ∧ Q r)) M 13 [(0, .ref (B + 95)), (1, J v1), (2, J v2), (3, J v3_1), (4, J v4_4)] []) ?_ 5000 0 hf (by unfold inR; omega)
    intro rec13 ih13 v4_4 hf h_v4_4
    unfold X12_areApart_b13 at hf
    refine g_iload hC 4 dX12_areApart_13 rfl ?_
    refine g_iload_n hC 3 dX12_areApart_15 rfl rfl ?_
    refine g_icmp_ge hC 86 h_v4_4 h_v3_1 dX12_areApart_16 rfl (fun c_28 => ?_) (fun c_28 => ?_)
    · replace hf := hf.1 c_28
      obtain ⟨q_6, hf⟩ := hf
      obtain ⟨v3_5, e_v3_5⟩ : ∃ z : Int, z = v3_1 + 1 := ⟨_, rfl⟩
      replace hf := hf v3_5 e_v3_5
      have h_v3_5 : inR v3_5 := by rw [e_v3_5]; exact q_6
      refine g_iincv hC 3 e_v3_5 [(3, J v3_5), (0, .ref (B + 95)), (1, J v1), (2, J v2), (4, J v4_4)] dX12_areApart_86 rfl (by decide) rfl ?_
      refine g_goto hC 2 dX12_areApart_89 rfl ?_
      refine g_sub [(0, .ref (B + 95)), (1, J v1), (2, J v2), (3, J v3_5)] [1, 2, 3, 0] rfl ?_
      exact ih2 v3_5 hf h_v3_5
    · replace hf := hf.2 c_28
      refine g_aload_n hC 0 dX12_areApart_19 rfl rfl ?_
      refine g_iload_n hC 3 dX12_areApart_20 rfl rfl ?_
      refine g_iconst hC dX12_areApart_21 ?_
      refine g_callVI hC (sk := []) [J v3_1, J 1] (c_X12_its l B D K v3_1 1 h_v3_1 (by unfold inR; omega) M hM _ hf) yv_X12_its wm_X12_252 okX12.1 sc95 rfl ⟨Nat.le_of_ble_eq_true rfl, Nat.le_of_ble_eq_true rfl, Nat.le_of_ble_eq_true rfl, Nat.le_of_ble_eq_true rfl⟩ rfl (Nat.le_of_ble_eq_true rfl) dX12_areApart_22 ?_
      rintro r_7 M_8 h_r_7 - ⟨rfl, hf⟩
      refine g_iload_n hC 1 dX12_areApart_25 rfl rfl ?_
      refine g_icmp_ne hC 80 h_r_7 i_v1 dX12_areApart_26 rfl (fun c_27 => ?_) (fun c_27 => ?_)
      · replace hf := hf.1 c_27
        obtain ⟨q_10, hf⟩ := hf
        obtain ⟨v4_9, e_v4_9⟩ : ∃ z : Int, z = v4_4 + 1 := ⟨_, rfl⟩
        replace hf := hf v4_9 e_v4_9
        have h_v4_9 : inR v4_9 := by rw [e_v4_9]; exact q_10
        refine g_iincv hC 4 e_v4_9 [(4, J v4_9), (0, .ref (B + 95)), (1, J v1), (2, J v2), (3, J v3_1)] dX12_areApart_80 rfl (by decide) rfl ?_
        refine g_goto hC 13 dX12_areApart_83 rfl ?_
        refine g_sub [(0, .ref (B + 95)), (1, J v1), (2, J v2), (3, J v3_1), (4, J v4_9)] [1, 2, 3, 4, 0] rfl ?_
        exact ih13 v4_9 hf h_v4_9
      · replace hf := hf.2 c_27
        refine g_aload_n hC 0 dX12_areApart_29 rfl rfl ?_
        refine g_iload hC 4 dX12_areApart_30 rfl ?_
        refine g_iconst hC dX12_areApart_32 ?_
        refine g_callVI hC (sk := []) [J v4_4, J 1] (c_X12_its l B D K v4_4 1 h_v4_4 (by unfold inR; omega) M hM _ hf) yv_X12_its wm_X12_252 okX12.1 sc95 rfl ⟨Nat.le_of_ble_eq_true rfl, Nat.le_of_ble_eq_true rfl, Nat.le_of_ble_eq_true rfl, Nat.le_of_ble_eq_true rfl⟩ rfl (Nat.le_of_ble_eq_true rfl) dX12_areApart_33 ?_
        rintro r_11 M_12 h_r_11 - ⟨rfl, hf⟩
        refine g_iload_n hC 1 dX12_areApart_36 rfl rfl ?_
        refine g_icmp_ne hC 80 h_r_11 i_v1 dX12_areApart_37 rfl (fun c_26 => ?_) (fun c_26 => ?_)
        · replace hf := hf.1 c_26
          obtain ⟨q_14, hf⟩ := hf
          obtain ⟨v4_13, e_v4_13⟩ : ∃ z : Int, z = v4_4 + 1 := ⟨_, rfl⟩
          replace hf := hf v4_13 e_v4_13
          have h_v4_13 : inR v4_13 := by rw [e_v4_13]; exact q_14
          refine g_iincv hC 4 e_v4_13 [(4, J v4_13), (0, .ref (B + 95)), (1, J v1), (2, J v2), (3, J v3_1)] dX12_areApart_80 rfl (by decide) rfl ?_
          refine g_goto hC 13 dX12_areApart_83 rfl ?_
          refine g_sub [(0, .ref (B + 95)), (1, J v1), (2, J v2), (3, J v3_1), (4, J v4_13)] [1, 2, 3, 4, 0] rfl ?_
          exact ih13 v4_13 hf h_v4_13
        · replace hf := hf.2 c_26
          refine g_aload_n hC 0 dX12_areApart_40 rfl rfl ?_
          refine g_getr hC okX12 sc95 26 (by decide) rfl wf_X12_60 dX12_areApart_41 ?_
          refine g_iload_n hC 3 dX12_areApart_44 rfl rfl ?_
          obtain ⟨q_15, hf⟩ := hf
          refine g_ialdk (v3_1.toNat) hC sc111 q_15.1 q_15.2 rfl dX12_areApart_45 ?_
          refine g_iload_n hC 2 dX12_areApart_46 rfl rfl ?_
          refine g_icmp_ne hC 80 (hM _ _) i_v2 dX12_areApart_47 rfl (fun c_25 => ?_) (fun c_25 => ?_)
          · replace hf := hf.1 c_25
            obtain ⟨q_17, hf⟩ := hf
            obtain ⟨v4_16, e_v4_16⟩ : ∃ z : Int, z = v4_4 + 1 := ⟨_, rfl⟩
            replace hf := hf v4_16 e_v4_16
            have h_v4_16 : inR v4_16 := by rw [e_v4_16]; exact q_17
            refine g_iincv hC 4 e_v4_16 [(4, J v4_16), (0, .ref (B + 95)), (1, J v1), (2, J v2), (3, J v3_1)] dX12_areApart_80 rfl (by decide) rfl ?_
            refine g_goto hC 13 dX12_areApart_83 rfl ?_
            refine g_sub [(0, .ref (B + 95)), (1, J v1), (2, J v2), (3, J v3_1), (4, J v4_16)] [1, 2, 3, 4, 0] rfl ?_
            exact ih13 v4_16 hf h_v4_16
          · replace hf := hf.2 c_25
            refine g_aload_n hC 0 dX12_areApart_50 rfl rfl ?_
            refine g_getr hC okX12 sc95 26 (by decide) rfl wf_X12_60 dX12_areApart_51 ?_
            refine g_iload hC 4 dX12_areApart_54 rfl ?_
            obtain ⟨q_18, hf⟩ := hf
            refine g_ialdk (v4_4.toNat) hC sc111 q_18.1 q_18.2 rfl dX12_areApart_56 ?_
            refine g_iload_n hC 2 dX12_areApart_57 rfl rfl ?_
            refine g_icmp_ne hC 80 (hM _ _) i_v2 dX12_areApart_58 rfl (fun c_24 => ?_) (fun c_24 => ?_)
            · replace hf := hf.1 c_24
              obtain ⟨q_20, hf⟩ := hf
              obtain ⟨v4_19, e_v4_19⟩ : ∃ z : Int, z = v4_4 + 1 := ⟨_, rfl⟩
              replace hf := hf v4_19 e_v4_19
              have h_v4_19 : inR v4_19 := by rw [e_v4_19]; exact q_20
              refine g_iincv hC 4 e_v4_19 [(4, J v4_19), (0, .ref (B + 95)), (1, J v1), (2, J v2), (3, J v3_1)] dX12_areApart_80 rfl (by decide) rfl ?_
              refine g_goto hC 13 dX12_areApart_83 rfl ?_
              refine g_sub [(0, .ref (B + 95)), (1, J v1), (2, J v2), (3, J v3_1), (4, J v4_19)] [1, 2, 3, 4, 0] rfl ?_
              exact ih13 v4_19 hf h_v4_19
            · replace hf := hf.2 c_24
              refine g_aload_n hC 0 dX12_areApart_61 rfl rfl ?_
              refine g_getr hC okX12 sc95 25 (by decide) rfl wf_X12_57 dX12_areApart_62 ?_
              refine g_iload_n hC 3 dX12_areApart_65 rfl rfl ?_
              refine g_ialdk (v3_1.toNat) hC sc110 q_15.1 q_15.2 rfl dX12_areApart_66 ?_
              refine g_aload_n hC 0 dX12_areApart_67 rfl rfl ?_
              refine g_getr hC okX12 sc95 25 (by decide) rfl wf_X12_57 dX12_areApart_68 ?_
              refine g_iload hC 4 dX12_areApart_71 rfl ?_
              refine g_ialdk (v4_4.toNat) hC sc110 q_18.1 q_18.2 rfl dX12_areApart_73 ?_
              refine g_iand hC dX12_areApart_74 ?_
              refine g_if_ne hC 80 (bAnd_in _ _) dX12_areApart_75 rfl (fun c_23 => ?_) (fun c_23 => ?_)
              · replace hf := hf.1 c_23
                obtain ⟨q_22, hf⟩ := hf
                obtain ⟨v4_21, e_v4_21⟩ : ∃ z : Int, z = v4_4 + 1 := ⟨_, rfl⟩
                replace hf := hf v4_21 e_v4_21
                have h_v4_21 : inR v4_21 := by rw [e_v4_21]; exact q_22
                refine g_iincv hC 4 e_v4_21 [(4, J v4_21), (0, .ref (B + 95)), (1, J v1), (2, J v2), (3, J v3_1)] dX12_areApart_80 rfl (by decide) rfl ?_
                refine g_goto hC 13 dX12_areApart_83 rfl ?_
                refine g_sub [(0, .ref (B + 95)), (1, J v1), (2, J v2), (3, J v3_1), (4, J v4_21)] [1, 2, 3, 4, 0] rfl ?_
                exact ih13 v4_21 hf h_v4_21
              · replace hf := hf.2 c_23
                refine g_iconst hC dX12_areApart_78 ?_
                exact g_retz hC (Or.inr rfl) hM ⟨rfl, hf⟩ dX12_areApart_79
set_option maxHeartbeats 4000000 in
set_option maxRecDepth 100000 in
theorem c_X12_metFrom (l : Launch) (B : Nat) (D : va_G) (K : Nat → ClassId) (v1 : Int) (i_v1 : inR v1) (M : Mem) (hM : MR M) (Q : Int → Prop) (hf : f_X12_metFrom v1 M Q) : CtI l yX12_metFrom cX12_metFrom 4 3 67 B D K [.ref (B + 95), J v1] M (fun r M1 => M = M1 ∧ Q r) := by
  refine ct_i (by decide) (Nat.le_of_ble_eq_true rfl) ?_
  intro p e s m args below meth c hC
  have hC : Cx p s m args meth c D K cX12_metFrom 4 RX12 (some .int) := hC
  unfold f_X12_metFrom at hf
  refine (show G p l e (rmF 3 67) s m args below meth c B D K 4 0 0 (ZI below args s B D K (fun r M1 => M = M1 ∧ Q r)) M 0 [(0, .ref (B + 95)), (1, J v1)] [] from ?_)
  refine g_aload_n hC 0 dX12_metFrom_0 rfl rfl ?_
  refine g_iload_n hC 1 dX12_metFrom_1 rfl rfl ?_
  refine g_callVZ hC (sk := []) [J v1] (c_X12_isSource l B D K v1 i_v1 M hM _ hf) yv_X12_isSource wm_X12_262 okX12.1 sc95 rfl ⟨Nat.le_of_ble_eq_true rfl, Nat.le_of_ble_eq_true rfl, Nat.le_of_ble_eq_true rfl, Nat.le_of_ble_eq_true rfl⟩ rfl (Nat.le_of_ble_eq_true rfl) dX12_metFrom_2 ?_
  rintro r_1 M_2 h_r_1 - ⟨rfl, hf⟩
  refine g_if_eq hC 10 (zi_ h_r_1) dX12_metFrom_5 rfl (fun c_26 => ?_) (fun c_26 => ?_)
  · replace hf := hf.1 c_26
    refine g_iconst hC dX12_metFrom_10 ?_
    refine g_istore_n hC [(2, J 0), (0, .ref (B + 95)), (1, J v1)] dX12_metFrom_11 rfl (by decide) rfl ?_
    refine g_iconst hC dX12_metFrom_12 ?_
    refine g_istore_n hC [(3, J 0), (2, J 0), (0, .ref (B + 95)), (1, J v1)] dX12_metFrom_13 rfl (by decide) rfl ?_
    refine jn_elim (fun (k : Int → Prop) => ∀ (v2_3 : Int), k v2_3 → (inR v2_3) → G p l e (rmF 3 67) s m args below meth c B D K 4 0 0 (ZI below args s B D K (fun r M1 => M = M1 ∧ Q r)) M 55 [(0, .ref (B + 95)), (1, J v1), (2, J v2_3)] []) hf ?_ ?_
    · intro v2_3 hf h_v2_3
      refine g_iload_n hC 2 dX12_metFrom_55 rfl rfl ?_
      refine g_aload_n hC 0 dX12_metFrom_56 rfl rfl ?_
      refine g_iload_n hC 1 dX12_metFrom_57 rfl rfl ?_
      refine g_iload_n hC 2 dX12_metFrom_58 rfl rfl ?_
      refine g_callVZ hC (sk := [J v2_3]) [J v1, J v2_3] (c_X12_areApart l B D K v1 v2_3 i_v1 h_v2_3 M hM _ hf) yv_X12_areApart wm_X12_265 okX12.1 sc95 rfl ⟨Nat.le_of_ble_eq_true rfl, Nat.le_of_ble_eq_true rfl, Nat.le_of_ble_eq_true rfl, Nat.le_of_ble_eq_true rfl⟩ rfl (Nat.le_of_ble_eq_true rfl) dX12_metFrom_59 ?_
      rintro r_4 M_5 h_r_4 - ⟨rfl, hf⟩
      refine g_callSI hC (sk := [J v2_3]) [J r_4] (c_X12_flag l B D K r_4 (zi_ h_r_4) M hM _ hf) yv_X12_flag wm_X12_255 rfl ⟨Nat.le_of_ble_eq_true rfl, Nat.le_of_ble_eq_true rfl, Nat.le_of_ble_eq_true rfl, Nat.le_of_ble_eq_true rfl⟩ rfl (Nat.le_of_ble_eq_true rfl) dX12_metFrom_62 ?_
      rintro r_6 M_7 h_r_6 - ⟨rfl, hf⟩
      refine g_iadd hC dX12_metFrom_65 ?_
      obtain ⟨q_8, hf⟩ := hf
      exact g_reti hC q_8 hM ⟨rfl, hf⟩ dX12_metFrom_66
    · intro J55 hJ55 hf
      refine g_sub [(0, .ref (B + 95)), (1, J v1), (2, J 0), (3, J 0)] [2, 3, 1, 0] rfl ?_
      refine wl2_elim (fun (v2_9 : Int) (v3_10 : Int) => inR v2_9 → inR v3_10 → G p l e (rmF 3 67) s m args below meth c B D K 4 0 0 (ZI below args s B D K (fun r M1 => M = M1 ∧ Q r)) M 14 [(0, .ref (B + 95)), (1, J v1), (2, J v2_9), (3, J v3_10)] []) ?_ 5000 0 0 hf (by unfold inR; omega) (by unfold inR; omega)
      intro rec14 ih14 v2_9 v3_10 hf h_v2_9 h_v3_10
      unfold X12_metFrom_b14 at hf
      refine g_iload_n hC 3 dX12_metFrom_14 rfl rfl ?_
      refine g_aload_n hC 0 dX12_metFrom_15 rfl rfl ?_
      refine g_callVI hC (sk := [J v3_10]) [] (c_X12_reaches l B D K   M hM _ hf) yv_X12_reaches wm_X12_249 okX12.1 sc95 rfl ⟨Nat.le_of_ble_eq_true rfl, Nat.le_of_ble_eq_true rfl, Nat.le_of_ble_eq_true rfl, Nat.le_of_ble_eq_true rfl⟩ rfl (Nat.le_of_ble_eq_true rfl) dX12_metFrom_16 ?_
      rintro r_11 M_12 h_r_11 - ⟨rfl, hf⟩
      refine g_icmp_ge hC 55 h_v3_10 h_r_11 dX12_metFrom_19 rfl (fun c_25 => ?_) (fun c_25 => ?_)
      · replace hf := hf.1 c_25
        refine g_sub [(0, .ref (B + 95)), (1, J v1), (2, J v2_9)] [0, 1, 2] rfl ?_
        exact hJ55 v2_9 hf h_v2_9
      · replace hf := hf.2 c_25
        refine g_aload_n hC 0 dX12_metFrom_22 rfl rfl ?_
        refine g_iload_n hC 3 dX12_metFrom_23 rfl rfl ?_
        refine g_iconst hC dX12_metFrom_24 ?_
        refine g_callVI hC (sk := []) [J v3_10, J 1] (c_X12_its l B D K v3_10 1 h_v3_10 (by unfold inR; omega) M hM _ hf) yv_X12_its wm_X12_252 okX12.1 sc95 rfl ⟨Nat.le_of_ble_eq_true rfl, Nat.le_of_ble_eq_true rfl, Nat.le_of_ble_eq_true rfl, Nat.le_of_ble_eq_true rfl⟩ rfl (Nat.le_of_ble_eq_true rfl) dX12_metFrom_25 ?_
        rintro r_13 M_14 h_r_13 - ⟨rfl, hf⟩
        refine g_iload_n hC 1 dX12_metFrom_28 rfl rfl ?_
        refine g_icmp_ne hC 49 h_r_13 i_v1 dX12_metFrom_29 rfl (fun c_24 => ?_) (fun c_24 => ?_)
        · replace hf := hf.1 c_24
          obtain ⟨q_16, hf⟩ := hf
          obtain ⟨v3_15, e_v3_15⟩ : ∃ z : Int, z = v3_10 + 1 := ⟨_, rfl⟩
          replace hf := hf v3_15 e_v3_15
          have h_v3_15 : inR v3_15 := by rw [e_v3_15]; exact q_16
          refine g_iincv hC 3 e_v3_15 [(3, J v3_15), (0, .ref (B + 95)), (1, J v1), (2, J v2_9)] dX12_metFrom_49 rfl (by decide) rfl ?_
          refine g_goto hC 14 dX12_metFrom_52 rfl ?_
          refine g_sub [(0, .ref (B + 95)), (1, J v1), (2, J v2_9), (3, J v3_15)] [1, 2, 3, 0] rfl ?_
          exact ih14 v2_9 v3_15 hf h_v2_9 h_v3_15
        · replace hf := hf.2 c_24
          refine g_aload_n hC 0 dX12_metFrom_32 rfl rfl ?_
          refine g_getr hC okX12 sc95 26 (by decide) rfl wf_X12_60 dX12_metFrom_33 ?_
          refine g_iload_n hC 3 dX12_metFrom_36 rfl rfl ?_
          obtain ⟨q_17, hf⟩ := hf
          refine g_ialdk (v3_10.toNat) hC sc111 q_17.1 q_17.2 rfl dX12_metFrom_37 ?_
          refine g_iload_n hC 2 dX12_metFrom_38 rfl rfl ?_
          refine g_icmp_le hC 49 (hM _ _) h_v2_9 dX12_metFrom_39 rfl (fun c_23 => ?_) (fun c_23 => ?_)
          · replace hf := hf.1 c_23
            obtain ⟨q_19, hf⟩ := hf
            obtain ⟨v3_18, e_v3_18⟩ : ∃ z : Int, z = v3_10 + 1 := ⟨_, rfl⟩
            replace hf := hf v3_18 e_v3_18
            have h_v3_18 : inR v3_18 := by rw [e_v3_18]; exact q_19
            refine g_iincv hC 3 e_v3_18 [(3, J v3_18), (0, .ref (B + 95)), (1, J v1), (2, J v2_9)] dX12_metFrom_49 rfl (by decide) rfl ?_
            refine g_goto hC 14 dX12_metFrom_52 rfl ?_
            refine g_sub [(0, .ref (B + 95)), (1, J v1), (2, J v2_9), (3, J v3_18)] [1, 2, 3, 0] rfl ?_
            exact ih14 v2_9 v3_18 hf h_v2_9 h_v3_18
          · replace hf := hf.2 c_23
            refine g_aload_n hC 0 dX12_metFrom_42 rfl rfl ?_
            refine g_getr hC okX12 sc95 26 (by decide) rfl wf_X12_60 dX12_metFrom_43 ?_
            refine g_iload_n hC 3 dX12_metFrom_46 rfl rfl ?_
            refine g_ialdk (v3_10.toNat) hC sc111 q_17.1 q_17.2 rfl dX12_metFrom_47 ?_
            refine g_nm (fun v2_20 e_v2_20 => ?_)
            replace hf := hf v2_20 e_v2_20
            have h_v2_20 : inR v2_20 := by rw [e_v2_20]; exact (hM _ _)
            refine g_istore_n hC [(2, J v2_20), (0, .ref (B + 95)), (1, J v1), (3, J v3_10)] dX12_metFrom_48 rfl (by decide) rfl ?_
            obtain ⟨q_22, hf⟩ := hf
            obtain ⟨v3_21, e_v3_21⟩ : ∃ z : Int, z = v3_10 + 1 := ⟨_, rfl⟩
            replace hf := hf v3_21 e_v3_21
            have h_v3_21 : inR v3_21 := by rw [e_v3_21]; exact q_22
            refine g_iincv hC 3 e_v3_21 [(3, J v3_21), (2, J v2_20), (0, .ref (B + 95)), (1, J v1)] dX12_metFrom_49 rfl (by decide) rfl ?_
            refine g_goto hC 14 dX12_metFrom_52 rfl ?_
            refine g_sub [(0, .ref (B + 95)), (1, J v1), (2, J v2_20), (3, J v3_21)] [2, 3, 1, 0] rfl ?_
            exact ih14 v2_20 v3_21 hf h_v2_20 h_v3_21
  · replace hf := hf.2 c_26
    refine g_iconst hC dX12_metFrom_8 ?_
    exact g_reti hC (by unfold inR; omega) hM ⟨rfl, hf⟩ dX12_metFrom_9
set_option maxHeartbeats 4000000 in
set_option maxRecDepth 100000 in
theorem c_X12_laysMet (l : Launch) (B : Nat) (D : va_G) (K : Nat → ClassId)   (M : Mem) (hM : MR M) (Q : Mem → Prop) (hf : f_X12_laysMet  M Q) : CtV l yX12_laysMet cX12_laysMet 6 4 90 B D K [.ref (B + 95)] M Q := by
  refine ct_v (by decide) (Nat.le_of_ble_eq_true rfl) ?_
  intro p e s m args below meth c hC
  have hC : Cx p s m args meth c D K cX12_laysMet 6 RX12 none := hC
  unfold f_X12_laysMet at hf
  refine (show G p l e (rmF 4 90) s m args below meth c B D K 6 0 0 (ZV below args s B D K Q) M 0 [(0, .ref (B + 95))] [] from ?_)
  refine g_aload_n hC 0 dX12_laysMet_0 rfl rfl ?_
  refine g_callVI hC (sk := []) [] (c_X12_sources l B D K   M hM _ hf) yv_X12_sources wm_X12_268 okX12.1 sc95 rfl ⟨Nat.le_of_ble_eq_true rfl, Nat.le_of_ble_eq_true rfl, Nat.le_of_ble_eq_true rfl, Nat.le_of_ble_eq_true rfl⟩ rfl (Nat.le_of_ble_eq_true rfl) dX12_laysMet_1 ?_
  rintro r_1 M_2 h_r_1 - ⟨rfl, hf⟩
  refine g_istore_n hC [(1, J r_1), (0, .ref (B + 95))] dX12_laysMet_4 rfl (by decide) rfl ?_
  refine g_iconst hC dX12_laysMet_5 ?_
  refine g_istore_n hC [(2, J 0), (1, J r_1), (0, .ref (B + 95))] dX12_laysMet_6 rfl (by decide) rfl ?_
  refine jn_elim (fun (k : Mem → Prop) => ∀ (M_3 : Mem), k M_3 → (MR M_3) → G p l e (rmF 4 90) s m args below meth c B D K 6 0 0 (ZV below args s B D K Q) M_3 49 [(0, .ref (B + 95))] []) hf ?_ ?_
  · intro M_3 hf h_M_3
    refine g_iconst hC dX12_laysMet_49 ?_
    refine g_istore_n hC [(2, J 0), (0, .ref (B + 95))] dX12_laysMet_50 rfl (by decide) rfl ?_
    refine g_sub [(0, .ref (B + 95)), (2, J 0)] [1, 0] rfl ?_
    refine wl2_elim (fun (v2_4 : Int) (M_5 : Mem) => inR v2_4 → MR M_5 → G p l e (rmF 4 90) s m args below meth c B D K 6 0 0 (ZV below args s B D K Q) M_5 51 [(0, .ref (B + 95)), (2, J v2_4)] []) ?_ 5000 0 M_3 hf (by unfold inR; omega) h_M_3
    intro rec51 ih51 v2_4 M_5 hf h_v2_4 h_M_5
    unfold X12_laysMet_b51 at hf
    refine g_iload_n hC 1 dX12_laysMet_51 rfl rfl ?_
    refine g_aload_n hC 0 dX12_laysMet_52 rfl rfl ?_
    refine g_callVI hC (sk := [J v2_4]) [] (c_X12_places l B D K   M_5 h_M_5 _ hf) yv_X12_places wm_X12_246 okX12.1 sc95 rfl ⟨Nat.le_of_ble_eq_true rfl, Nat.le_of_ble_eq_true rfl, Nat.le_of_ble_eq_true rfl, Nat.le_of_ble_eq_true rfl⟩ rfl (Nat.le_of_ble_eq_true rfl) dX12_laysMet_53 ?_
    rintro r_6 M_7 h_r_6 - ⟨rfl, hf⟩
    refine g_icmp_ge hC 130 h_v2_4 h_r_6 dX12_laysMet_56 rfl (fun c_31 => ?_) (fun c_31 => ?_)
    · replace hf := hf.1 c_31
      exact g_retv hC h_M_5 hf dX12_laysMet_130
    · replace hf := hf.2 c_31
      refine g_aload_n hC 0 dX12_laysMet_59 rfl rfl ?_
      refine g_getr hC okX12 sc95 16 (by decide) rfl wf_X12_30 dX12_laysMet_60 ?_
      refine g_iload_n hC 1 dX12_laysMet_63 rfl rfl ?_
      obtain ⟨q_8, hf⟩ := hf
      refine g_ialdk (v2_4.toNat) hC sc101 q_8.1 q_8.2 rfl dX12_laysMet_64 ?_
      refine g_nm (fun v3_9 e_v3_9 => ?_)
      replace hf := hf v3_9 e_v3_9
      have h_v3_9 : inR v3_9 := by rw [e_v3_9]; exact (h_M_5 _ _)
      refine g_istore_n hC [(3, J v3_9), (0, .ref (B + 95)), (2, J v2_4)] dX12_laysMet_65 rfl (by decide) rfl ?_
      refine g_aload_n hC 1 dX12_laysMet_66 rfl rfl ?_
      refine g_getr hC okX12 sc95 18 (by decide) rfl wf_X12_36 dX12_laysMet_67 ?_
      refine g_iload_n hC 0 dX12_laysMet_70 rfl rfl ?_
      obtain ⟨q_10, hf⟩ := hf
      refine g_ialdk (v3_9.toNat) hC sc103 q_10.1 q_10.2 rfl dX12_laysMet_71 ?_
      refine jn_elim (fun (k : Int → Prop) => ∀ (s0_11 : Int), k s0_11 → (inR s0_11) → G p l e (rmF 4 90) s m args below meth c B D K 6 0 0 (ZV below args s B D K Q) M_5 84 [(0, .ref (B + 95)), (2, J v2_4), (3, J v3_9)] [J s0_11]) hf ?_ ?_
      · intro s0_11 hf h_s0_11
        refine g_istore hC [(4, J s0_11), (0, .ref (B + 95)), (2, J v2_4), (3, J v3_9)] dX12_laysMet_84 (by decide) rfl ?_
        refine g_iconst hC dX12_laysMet_86 ?_
        refine g_istore hC [(5, J 0), (4, J s0_11), (0, .ref (B + 95)), (2, J v2_4), (3, J v3_9)] dX12_laysMet_87 (by decide) rfl ?_
        refine g_sub [(0, .ref (B + 95)), (2, J v2_4), (3, J v3_9), (4, J s0_11), (5, J 0)] [2, 3, 4, 1, 0] rfl ?_
        refine wl2_elim (fun (v5_12 : Int) (M_13 : Mem) => inR v5_12 → MR M_13 → G p l e (rmF 4 90) s m args below meth c B D K 6 0 0 (ZV below args s B D K Q) M_13 89 [(0, .ref (B + 95)), (2, J v2_4), (3, J v3_9), (4, J s0_11), (5, J v5_12)] []) ?_ 5000 0 M_5 hf (by unfold inR; omega) h_M_5
        intro rec89 ih89 v5_12 M_13 hf h_v5_12 h_M_13
        unfold X12_laysMet_b89 at hf
        refine g_iload hC 4 dX12_laysMet_89 rfl ?_
        refine g_aload_n hC 0 dX12_laysMet_91 rfl rfl ?_
        refine g_callVI hC (sk := [J v5_12]) [] (c_X12_reaches l B D K   M_13 h_M_13 _ hf) yv_X12_reaches wm_X12_249 okX12.1 sc95 rfl ⟨Nat.le_of_ble_eq_true rfl, Nat.le_of_ble_eq_true rfl, Nat.le_of_ble_eq_true rfl, Nat.le_of_ble_eq_true rfl⟩ rfl (Nat.le_of_ble_eq_true rfl) dX12_laysMet_92 ?_
        rintro r_14 M_15 h_r_14 - ⟨rfl, hf⟩
        refine g_icmp_ge hC 124 h_v5_12 h_r_14 dX12_laysMet_95 rfl (fun c_27 => ?_) (fun c_27 => ?_)
        · replace hf := hf.1 c_27
          obtain ⟨q_17, hf⟩ := hf
          obtain ⟨v2_16, e_v2_16⟩ : ∃ z : Int, z = v2_4 + 1 := ⟨_, rfl⟩
          replace hf := hf v2_16 e_v2_16
          have h_v2_16 : inR v2_16 := by rw [e_v2_16]; exact q_17
          refine g_iincv hC 1 e_v2_16 [(2, J v2_16), (0, .ref (B + 95)), (3, J v3_9), (4, J s0_11), (5, J v5_12)] dX12_laysMet_124 rfl (by decide) rfl ?_
          refine g_goto hC 51 dX12_laysMet_127 rfl ?_
          refine g_sub [(0, .ref (B + 95)), (2, J v2_16)] [1, 0] rfl ?_
          exact ih51 v2_16 M_13 hf h_v2_16 h_M_13
        · replace hf := hf.2 c_27
          refine g_aload_n hC 0 dX12_laysMet_98 rfl rfl ?_
          refine g_iload hC 4 dX12_laysMet_99 rfl ?_
          refine g_iconst hC dX12_laysMet_101 ?_
          refine g_callVI hC (sk := []) [J v5_12, J 0] (c_X12_its l B D K v5_12 0 h_v5_12 (by unfold inR; omega) M_13 h_M_13 _ hf) yv_X12_its wm_X12_252 okX12.1 sc95 rfl ⟨Nat.le_of_ble_eq_true rfl, Nat.le_of_ble_eq_true rfl, Nat.le_of_ble_eq_true rfl, Nat.le_of_ble_eq_true rfl⟩ rfl (Nat.le_of_ble_eq_true rfl) dX12_laysMet_102 ?_
          rintro r_18 M_19 h_r_18 - ⟨rfl, hf⟩
          refine g_iload_n hC 2 dX12_laysMet_105 rfl rfl ?_
          refine g_icmp_ne hC 118 h_r_18 h_v3_9 dX12_laysMet_106 rfl (fun c_26 => ?_) (fun c_26 => ?_)
          · replace hf := hf.1 c_26
            obtain ⟨q_21, hf⟩ := hf
            obtain ⟨v5_20, e_v5_20⟩ : ∃ z : Int, z = v5_12 + 1 := ⟨_, rfl⟩
            replace hf := hf v5_20 e_v5_20
            have h_v5_20 : inR v5_20 := by rw [e_v5_20]; exact q_21
            refine g_iincv hC 4 e_v5_20 [(5, J v5_20), (0, .ref (B + 95)), (2, J v2_4), (3, J v3_9), (4, J s0_11)] dX12_laysMet_118 rfl (by decide) rfl ?_
            refine g_goto hC 89 dX12_laysMet_121 rfl ?_
            refine g_sub [(0, .ref (B + 95)), (2, J v2_4), (3, J v3_9), (4, J s0_11), (5, J v5_20)] [1, 2, 3, 4, 0] rfl ?_
            exact ih89 v5_20 M_13 hf h_v5_20 h_M_13
          · replace hf := hf.2 c_26
            refine g_aload_n hC 0 dX12_laysMet_109 rfl rfl ?_
            refine g_getr hC okX12 sc95 26 (by decide) rfl wf_X12_60 dX12_laysMet_110 ?_
            refine g_iload hC 4 dX12_laysMet_113 rfl ?_
            refine g_iload hC 3 dX12_laysMet_115 rfl ?_
            obtain ⟨q_22, hf⟩ := hf
            refine g_iastk (v5_12.toNat) hC sc111 q_22.1 q_22.2 rfl dX12_laysMet_117 ?_
            refine g_nmM (fun M_23 e_M_23 => ?_)
            replace hf := hf M_23 e_M_23
            have h_M_23 : MR M_23 := by rw [e_M_23]; exact MR_st h_M_13 h_s0_11
            obtain ⟨q_25, hf⟩ := hf
            obtain ⟨v5_24, e_v5_24⟩ : ∃ z : Int, z = v5_12 + 1 := ⟨_, rfl⟩
            replace hf := hf v5_24 e_v5_24
            have h_v5_24 : inR v5_24 := by rw [e_v5_24]; exact q_25
            refine g_iincv hC 4 e_v5_24 [(5, J v5_24), (0, .ref (B + 95)), (2, J v2_4), (3, J v3_9), (4, J s0_11)] dX12_laysMet_118 rfl (by decide) rfl ?_
            refine g_goto hC 89 dX12_laysMet_121 rfl ?_
            refine g_sub [(0, .ref (B + 95)), (2, J v2_4), (3, J v3_9), (4, J s0_11), (5, J v5_24)] [1, 2, 3, 4, 0] rfl ?_
            exact ih89 v5_24 M_23 hf h_v5_24 h_M_23
      · intro J84 hJ84 hf
        refine g_if_ne hC 79 (h_M_5 _ _) dX12_laysMet_72 rfl (fun c_30 => ?_) (fun c_30 => ?_)
        · replace hf := hf.1 c_30
          refine g_aload_n hC 1 dX12_laysMet_79 rfl rfl ?_
          refine g_iload_n hC 0 dX12_laysMet_80 rfl rfl ?_
          refine g_callVI hC (sk := []) [J v3_9] (c_X12_metFrom l B D K v3_9 h_v3_9 M_5 h_M_5 _ hf) yv_X12_metFrom wm_X12_271 okX12.1 sc95 rfl ⟨Nat.le_of_ble_eq_true rfl, Nat.le_of_ble_eq_true rfl, Nat.le_of_ble_eq_true rfl, Nat.le_of_ble_eq_true rfl⟩ rfl (Nat.le_of_ble_eq_true rfl) dX12_laysMet_81 ?_
          rintro r_28 M_29 h_r_28 - ⟨rfl, hf⟩
          refine g_sub [(0, .ref (B + 95)), (2, J v2_4), (3, J v3_9)] [1, 2, 0] rfl ?_
          exact hJ84 r_28 hf h_r_28
        · replace hf := hf.2 c_30
          refine g_iconst hC dX12_laysMet_75 ?_
          refine g_goto hC 84 dX12_laysMet_76 rfl ?_
          refine g_sub [(0, .ref (B + 95)), (2, J v2_4), (3, J v3_9)] [1, 2, 0] rfl ?_
          exact hJ84 0 hf (by unfold inR; omega)
  · intro J49 hJ49 hf
    refine g_sub [(0, .ref (B + 95)), (1, J r_1), (2, J 0)] [2, 1, 0] rfl ?_
    refine wl2_elim (fun (v2_32 : Int) (M_33 : Mem) => inR v2_32 → MR M_33 → G p l e (rmF 4 90) s m args below meth c B D K 6 0 0 (ZV below args s B D K Q) M_33 7 [(0, .ref (B + 95)), (1, J r_1), (2, J v2_32)] []) ?_ 5000 0 M hf (by unfold inR; omega) hM
    intro rec7 ih7 v2_32 M_33 hf h_v2_32 h_M_33
    unfold X12_laysMet_b7 at hf
    refine g_iload_n hC 2 dX12_laysMet_7 rfl rfl ?_
    refine g_aload_n hC 0 dX12_laysMet_8 rfl rfl ?_
    refine g_callVI hC (sk := [J v2_32]) [] (c_X12_reaches l B D K   M_33 h_M_33 _ hf) yv_X12_reaches wm_X12_249 okX12.1 sc95 rfl ⟨Nat.le_of_ble_eq_true rfl, Nat.le_of_ble_eq_true rfl, Nat.le_of_ble_eq_true rfl, Nat.le_of_ble_eq_true rfl⟩ rfl (Nat.le_of_ble_eq_true rfl) dX12_laysMet_9 ?_
    rintro r_34 M_35 h_r_34 - ⟨rfl, hf⟩
    refine g_icmp_ge hC 49 h_v2_32 h_r_34 dX12_laysMet_12 rfl (fun c_45 => ?_) (fun c_45 => ?_)
    · replace hf := hf.1 c_45
      refine g_sub [(0, .ref (B + 95))] [0] rfl ?_
      exact hJ49 M_33 hf h_M_33
    · replace hf := hf.2 c_45
      refine g_aload_n hC 0 dX12_laysMet_15 rfl rfl ?_
      refine g_getr hC okX12 sc95 25 (by decide) rfl wf_X12_57 dX12_laysMet_16 ?_
      refine g_iload_n hC 2 dX12_laysMet_19 rfl rfl ?_
      refine g_aload_n hC 0 dX12_laysMet_20 rfl rfl ?_
      refine g_getr hC okX12 sc95 20 (by decide) rfl wf_X12_42 dX12_laysMet_21 ?_
      refine g_aload_n hC 0 dX12_laysMet_24 rfl rfl ?_
      refine g_iload_n hC 2 dX12_laysMet_25 rfl rfl ?_
      refine g_iconst hC dX12_laysMet_26 ?_
      refine g_callVI hC (sk := [.ref (B + 105), J v2_32, .ref (B + 110)]) [J v2_32, J 0] (c_X12_its l B D K v2_32 0 h_v2_32 (by unfold inR; omega) M_33 h_M_33 _ hf) yv_X12_its wm_X12_252 okX12.1 sc95 rfl ⟨Nat.le_of_ble_eq_true rfl, Nat.le_of_ble_eq_true rfl, Nat.le_of_ble_eq_true rfl, Nat.le_of_ble_eq_true rfl⟩ rfl (Nat.le_of_ble_eq_true rfl) dX12_laysMet_27 ?_
      rintro r_36 M_37 h_r_36 - ⟨rfl, hf⟩
      obtain ⟨q_38, hf⟩ := hf
      refine g_ialdk (r_36.toNat) hC sc105 q_38.1 q_38.2 rfl dX12_laysMet_30 ?_
      refine g_iconst hC dX12_laysMet_31 ?_
      refine g_aload_n hC 0 dX12_laysMet_32 rfl rfl ?_
      refine g_iload_n hC 2 dX12_laysMet_33 rfl rfl ?_
      refine g_iconst hC dX12_laysMet_34 ?_
      refine g_callVI hC (sk := [J 1, J (M_33 105 (r_36.toNat)), J v2_32, .ref (B + 110)]) [J v2_32, J 0] (c_X12_its l B D K v2_32 0 h_v2_32 (by unfold inR; omega) M_33 h_M_33 _ hf) yv_X12_its wm_X12_252 okX12.1 sc95 rfl ⟨Nat.le_of_ble_eq_true rfl, Nat.le_of_ble_eq_true rfl, Nat.le_of_ble_eq_true rfl, Nat.le_of_ble_eq_true rfl⟩ rfl (Nat.le_of_ble_eq_true rfl) dX12_laysMet_35 ?_
      rintro r_39 M_40 h_r_39 - ⟨rfl, hf⟩
      refine g_ishl hC dX12_laysMet_38 ?_
      refine g_ior hC dX12_laysMet_39 ?_
      refine g_iload_n hC 1 dX12_laysMet_40 rfl rfl ?_
      refine g_iand hC dX12_laysMet_41 ?_
      obtain ⟨q_41, hf⟩ := hf
      refine g_iastk (v2_32.toNat) hC sc110 q_41.1 q_41.2 rfl dX12_laysMet_42 ?_
      refine g_nmM (fun M_42 e_M_42 => ?_)
      replace hf := hf M_42 e_M_42
      have h_M_42 : MR M_42 := by rw [e_M_42]; exact MR_st h_M_33 (bAnd_in _ _)
      obtain ⟨q_44, hf⟩ := hf
      obtain ⟨v2_43, e_v2_43⟩ : ∃ z : Int, z = v2_32 + 1 := ⟨_, rfl⟩
      replace hf := hf v2_43 e_v2_43
      have h_v2_43 : inR v2_43 := by rw [e_v2_43]; exact q_44
      refine g_iincv hC 2 e_v2_43 [(2, J v2_43), (0, .ref (B + 95)), (1, J r_1)] dX12_laysMet_43 rfl (by decide) rfl ?_
      refine g_goto hC 7 dX12_laysMet_46 rfl ?_
      refine g_sub [(0, .ref (B + 95)), (1, J r_1), (2, J v2_43)] [1, 2, 0] rfl ?_
      exact ih7 v2_43 M_42 hf h_v2_43 h_M_42
set_option maxHeartbeats 4000000 in
set_option maxRecDepth 100000 in
theorem c_X12_greatest (l : Launch) (B : Nat) (D : va_G) (K : Nat → ClassId) (v1 : Int) (v2 : Int) (v3 : Int) (i_v1 : inR v1) (i_v2 : inR v2) (i_v3 : inR v3) (M : Mem) (hM : MR M) (Q : Int → Prop) (hf : f_X12_greatest v1 v2 v3 M Q) : CtI l yX12_greatest cX12_greatest 6 2 43 B D K [.ref (B + 95), J v1, J v2, J v3] M (fun r M1 => M = M1 ∧ Q r) := by
  refine ct_i (by decide) (Nat.le_of_ble_eq_true rfl) ?_
  intro p e s m args below meth c hC
  have hC : Cx p s m args meth c D K cX12_greatest 6 RX12 (some .int) := hC
  unfold f_X12_greatest at hf
  refine (show G p l e (rmF 2 43) s m args below meth c B D K 6 0 0 (ZI below args s B D K (fun r M1 => M = M1 ∧ Q r)) M 0 [(0, .ref (B + 95)), (1, J v1), (2, J v2), (3, J v3)] [] from ?_)
  refine g_iconst hC dX12_greatest_0 ?_
  refine g_istore hC [(4, J (-1)), (0, .ref (B + 95)), (1, J v1), (2, J v2), (3, J v3)] dX12_greatest_1 (by decide) rfl ?_
  refine g_iconst hC dX12_greatest_3 ?_
  refine g_istore hC [(5, J 0), (4, J (-1)), (0, .ref (B + 95)), (1, J v1), (2, J v2), (3, J v3)] dX12_greatest_4 (by decide) rfl ?_
  refine g_sub [(0, .ref (B + 95)), (1, J v1), (2, J v2), (3, J v3), (4, J (-1)), (5, J 0)] [2, 3, 4, 5, 1, 0] rfl ?_
  refine wl2_elim (fun (v4_1 : Int) (v5_2 : Int) => inR v4_1 → inR v5_2 → G p l e (rmF 2 43) s m args below meth c B D K 6 0 0 (ZI below args s B D K (fun r M1 => M = M1 ∧ Q r)) M 6 [(0, .ref (B + 95)), (1, J v1), (2, J v2), (3, J v3), (4, J v4_1), (5, J v5_2)] []) ?_ 5000 (-1) 0 hf (by unfold inR; omega) (by unfold inR; omega)
  intro rec6 ih6 v4_1 v5_2 hf h_v4_1 h_v5_2
  unfold X12_greatest_b6 at hf
  refine g_iload hC 5 dX12_greatest_6 rfl ?_
  refine g_aload_n hC 0 dX12_greatest_8 rfl rfl ?_
  refine g_callVI hC (sk := [J v5_2]) [] (c_X12_reaches l B D K   M hM _ hf) yv_X12_reaches wm_X12_249 okX12.1 sc95 rfl ⟨Nat.le_of_ble_eq_true rfl, Nat.le_of_ble_eq_true rfl, Nat.le_of_ble_eq_true rfl, Nat.le_of_ble_eq_true rfl⟩ rfl (Nat.le_of_ble_eq_true rfl) dX12_greatest_9 ?_
  rintro r_3 M_4 h_r_3 - ⟨rfl, hf⟩
  refine g_icmp_ge hC 112 h_v5_2 h_r_3 dX12_greatest_12 rfl (fun c_38 => ?_) (fun c_38 => ?_)
  · replace hf := hf.1 c_38
    refine g_iload hC 4 dX12_greatest_112 rfl ?_
    exact g_reti hC h_v4_1 hM ⟨rfl, hf⟩ dX12_greatest_114
  · replace hf := hf.2 c_38
    refine g_aload_n hC 0 dX12_greatest_15 rfl rfl ?_
    refine g_iload hC 5 dX12_greatest_16 rfl ?_
    refine g_iload_n hC 2 dX12_greatest_18 rfl rfl ?_
    refine g_callVI hC (sk := []) [J v5_2, J v2] (c_X12_its l B D K v5_2 v2 h_v5_2 i_v2 M hM _ hf) yv_X12_its wm_X12_252 okX12.1 sc95 rfl ⟨Nat.le_of_ble_eq_true rfl, Nat.le_of_ble_eq_true rfl, Nat.le_of_ble_eq_true rfl, Nat.le_of_ble_eq_true rfl⟩ rfl (Nat.le_of_ble_eq_true rfl) dX12_greatest_19 ?_
    rintro r_5 M_6 h_r_5 - ⟨rfl, hf⟩
    refine g_iload_n hC 1 dX12_greatest_22 rfl rfl ?_
    refine g_icmp_eq hC 29 h_r_5 i_v1 dX12_greatest_23 rfl (fun c_37 => ?_) (fun c_37 => ?_)
    · replace hf := hf.1 c_37
      refine g_iload hC 4 dX12_greatest_29 rfl ?_
      refine g_iconst hC dX12_greatest_31 ?_
      refine g_icmp_eq hC 102 h_v4_1 (by unfold inR; omega) dX12_greatest_32 rfl (fun c_34 => ?_) (fun c_34 => ?_)
      · replace hf := hf.1 c_34
        refine g_iload hC 5 dX12_greatest_102 rfl ?_
        refine g_istore hC [(4, J v5_2), (0, .ref (B + 95)), (1, J v1), (2, J v2), (3, J v3), (5, J v5_2)] dX12_greatest_104 (by decide) rfl ?_
        obtain ⟨q_8, hf⟩ := hf
        obtain ⟨v5_7, e_v5_7⟩ : ∃ z : Int, z = v5_2 + 1 := ⟨_, rfl⟩
        replace hf := hf v5_7 e_v5_7
        have h_v5_7 : inR v5_7 := by rw [e_v5_7]; exact q_8
        refine g_iincv hC 5 e_v5_7 [(5, J v5_7), (4, J v5_2), (0, .ref (B + 95)), (1, J v1), (2, J v2), (3, J v3)] dX12_greatest_106 rfl (by decide) rfl ?_
        refine g_goto hC 6 dX12_greatest_109 rfl ?_
        refine g_sub [(0, .ref (B + 95)), (1, J v1), (2, J v2), (3, J v3), (4, J v5_2), (5, J v5_7)] [2, 3, 4, 5, 1, 0] rfl ?_
        exact ih6 v5_2 v5_7 hf h_v5_2 h_v5_7
      · replace hf := hf.2 c_34
        refine g_iload_n hC 3 dX12_greatest_35 rfl rfl ?_
        refine g_if_eq hC 85 i_v3 dX12_greatest_36 rfl (fun c_33 => ?_) (fun c_33 => ?_)
        · replace hf := hf.1 c_33
          refine g_aload_n hC 0 dX12_greatest_85 rfl rfl ?_
          refine g_getr hC okX12 sc95 22 (by decide) rfl wf_X12_48 dX12_greatest_86 ?_
          refine g_iload hC 5 dX12_greatest_89 rfl ?_
          obtain ⟨q_9, hf⟩ := hf
          refine g_ialdk (v5_2.toNat) hC sc107 q_9.1 q_9.2 rfl dX12_greatest_91 ?_
          refine g_aload_n hC 0 dX12_greatest_92 rfl rfl ?_
          refine g_getr hC okX12 sc95 22 (by decide) rfl wf_X12_48 dX12_greatest_93 ?_
          refine g_iload hC 4 dX12_greatest_96 rfl ?_
          obtain ⟨q_10, hf⟩ := hf
          refine g_ialdk (v4_1.toNat) hC sc107 q_10.1 q_10.2 rfl dX12_greatest_98 ?_
          refine g_icmp_le hC 106 (hM _ _) (hM _ _) dX12_greatest_99 rfl (fun c_15 => ?_) (fun c_15 => ?_)
          · replace hf := hf.1 c_15
            obtain ⟨q_12, hf⟩ := hf
            obtain ⟨v5_11, e_v5_11⟩ : ∃ z : Int, z = v5_2 + 1 := ⟨_, rfl⟩
            replace hf := hf v5_11 e_v5_11
            have h_v5_11 : inR v5_11 := by rw [e_v5_11]; exact q_12
            refine g_iincv hC 5 e_v5_11 [(5, J v5_11), (0, .ref (B + 95)), (1, J v1), (2, J v2), (3, J v3), (4, J v4_1)] dX12_greatest_106 rfl (by decide) rfl ?_
            refine g_goto hC 6 dX12_greatest_109 rfl ?_
            refine g_sub [(0, .ref (B + 95)), (1, J v1), (2, J v2), (3, J v3), (4, J v4_1), (5, J v5_11)] [1, 2, 3, 4, 5, 0] rfl ?_
            exact ih6 v4_1 v5_11 hf h_v4_1 h_v5_11
          · replace hf := hf.2 c_15
            refine g_iload hC 5 dX12_greatest_102 rfl ?_
            refine g_istore hC [(4, J v5_2), (0, .ref (B + 95)), (1, J v1), (2, J v2), (3, J v3), (5, J v5_2)] dX12_greatest_104 (by decide) rfl ?_
            obtain ⟨q_14, hf⟩ := hf
            obtain ⟨v5_13, e_v5_13⟩ : ∃ z : Int, z = v5_2 + 1 := ⟨_, rfl⟩
            replace hf := hf v5_13 e_v5_13
            have h_v5_13 : inR v5_13 := by rw [e_v5_13]; exact q_14
            refine g_iincv hC 5 e_v5_13 [(5, J v5_13), (4, J v5_2), (0, .ref (B + 95)), (1, J v1), (2, J v2), (3, J v3)] dX12_greatest_106 rfl (by decide) rfl ?_
            refine g_goto hC 6 dX12_greatest_109 rfl ?_
            refine g_sub [(0, .ref (B + 95)), (1, J v1), (2, J v2), (3, J v3), (4, J v5_2), (5, J v5_13)] [2, 3, 4, 5, 1, 0] rfl ?_
            exact ih6 v5_2 v5_13 hf h_v5_2 h_v5_13
        · replace hf := hf.2 c_33
          refine g_aload_n hC 0 dX12_greatest_39 rfl rfl ?_
          refine g_getr hC okX12 sc95 23 (by decide) rfl wf_X12_51 dX12_greatest_40 ?_
          refine g_aload_n hC 0 dX12_greatest_43 rfl rfl ?_
          refine g_iload hC 5 dX12_greatest_44 rfl ?_
          refine g_iconst hC dX12_greatest_46 ?_
          refine g_callVI hC (sk := [.ref (B + 108)]) [J v5_2, J 0] (c_X12_its l B D K v5_2 0 h_v5_2 (by unfold inR; omega) M hM _ hf) yv_X12_its wm_X12_252 okX12.1 sc95 rfl ⟨Nat.le_of_ble_eq_true rfl, Nat.le_of_ble_eq_true rfl, Nat.le_of_ble_eq_true rfl, Nat.le_of_ble_eq_true rfl⟩ rfl (Nat.le_of_ble_eq_true rfl) dX12_greatest_47 ?_
          rintro r_16 M_17 h_r_16 - ⟨rfl, hf⟩
          obtain ⟨q_18, hf⟩ := hf
          refine g_ialdk (r_16.toNat) hC sc108 q_18.1 q_18.2 rfl dX12_greatest_50 ?_
          refine g_aload_n hC 0 dX12_greatest_51 rfl rfl ?_
          refine g_iload hC 5 dX12_greatest_52 rfl ?_
          refine g_iconst hC dX12_greatest_54 ?_
          refine g_callVI hC (sk := [J (M 108 (r_16.toNat))]) [J v5_2, J 2] (c_X12_its l B D K v5_2 2 h_v5_2 (by unfold inR; omega) M hM _ hf) yv_X12_its wm_X12_252 okX12.1 sc95 rfl ⟨Nat.le_of_ble_eq_true rfl, Nat.le_of_ble_eq_true rfl, Nat.le_of_ble_eq_true rfl, Nat.le_of_ble_eq_true rfl⟩ rfl (Nat.le_of_ble_eq_true rfl) dX12_greatest_55 ?_
          rintro r_19 M_20 h_r_19 - ⟨rfl, hf⟩
          refine g_iadd hC dX12_greatest_58 ?_
          refine g_aload_n hC 0 dX12_greatest_59 rfl rfl ?_
          refine g_getr hC okX12 sc95 23 (by decide) rfl wf_X12_51 dX12_greatest_60 ?_
          refine g_aload_n hC 0 dX12_greatest_63 rfl rfl ?_
          refine g_iload hC 4 dX12_greatest_64 rfl ?_
          refine g_iconst hC dX12_greatest_66 ?_
          refine g_callVI hC (sk := [.ref (B + 108), J ((M 108 (r_16.toNat)) + r_19)]) [J v4_1, J 0] (c_X12_its l B D K v4_1 0 h_v4_1 (by unfold inR; omega) M hM _ hf) yv_X12_its wm_X12_252 okX12.1 sc95 rfl ⟨Nat.le_of_ble_eq_true rfl, Nat.le_of_ble_eq_true rfl, Nat.le_of_ble_eq_true rfl, Nat.le_of_ble_eq_true rfl⟩ rfl (Nat.le_of_ble_eq_true rfl) dX12_greatest_67 ?_
          rintro r_21 M_22 h_r_21 - ⟨rfl, hf⟩
          obtain ⟨q_23, hf⟩ := hf
          refine g_ialdk (r_21.toNat) hC sc108 q_23.1 q_23.2 rfl dX12_greatest_70 ?_
          refine g_aload_n hC 0 dX12_greatest_71 rfl rfl ?_
          refine g_iload hC 4 dX12_greatest_72 rfl ?_
          refine g_iconst hC dX12_greatest_74 ?_
          refine g_callVI hC (sk := [J (M 108 (r_21.toNat)), J ((M 108 (r_16.toNat)) + r_19)]) [J v4_1, J 2] (c_X12_its l B D K v4_1 2 h_v4_1 (by unfold inR; omega) M hM _ hf) yv_X12_its wm_X12_252 okX12.1 sc95 rfl ⟨Nat.le_of_ble_eq_true rfl, Nat.le_of_ble_eq_true rfl, Nat.le_of_ble_eq_true rfl, Nat.le_of_ble_eq_true rfl⟩ rfl (Nat.le_of_ble_eq_true rfl) dX12_greatest_75 ?_
          rintro r_24 M_25 h_r_24 - ⟨rfl, hf⟩
          refine g_iadd hC dX12_greatest_78 ?_
          obtain ⟨q_26, hf⟩ := hf
          obtain ⟨q_27, hf⟩ := hf
          refine g_icmp_le hC 106 q_26 q_27 dX12_greatest_79 rfl (fun c_32 => ?_) (fun c_32 => ?_)
          · replace hf := hf.1 c_32
            obtain ⟨q_29, hf⟩ := hf
            obtain ⟨v5_28, e_v5_28⟩ : ∃ z : Int, z = v5_2 + 1 := ⟨_, rfl⟩
            replace hf := hf v5_28 e_v5_28
            have h_v5_28 : inR v5_28 := by rw [e_v5_28]; exact q_29
            refine g_iincv hC 5 e_v5_28 [(5, J v5_28), (0, .ref (B + 95)), (1, J v1), (2, J v2), (3, J v3), (4, J v4_1)] dX12_greatest_106 rfl (by decide) rfl ?_
            refine g_goto hC 6 dX12_greatest_109 rfl ?_
            refine g_sub [(0, .ref (B + 95)), (1, J v1), (2, J v2), (3, J v3), (4, J v4_1), (5, J v5_28)] [1, 2, 3, 4, 5, 0] rfl ?_
            exact ih6 v4_1 v5_28 hf h_v4_1 h_v5_28
          · replace hf := hf.2 c_32
            refine g_goto hC 102 dX12_greatest_82 rfl ?_
            refine g_iload hC 5 dX12_greatest_102 rfl ?_
            refine g_istore hC [(4, J v5_2), (0, .ref (B + 95)), (1, J v1), (2, J v2), (3, J v3), (5, J v5_2)] dX12_greatest_104 (by decide) rfl ?_
            obtain ⟨q_31, hf⟩ := hf
            obtain ⟨v5_30, e_v5_30⟩ : ∃ z : Int, z = v5_2 + 1 := ⟨_, rfl⟩
            replace hf := hf v5_30 e_v5_30
            have h_v5_30 : inR v5_30 := by rw [e_v5_30]; exact q_31
            refine g_iincv hC 5 e_v5_30 [(5, J v5_30), (4, J v5_2), (0, .ref (B + 95)), (1, J v1), (2, J v2), (3, J v3)] dX12_greatest_106 rfl (by decide) rfl ?_
            refine g_goto hC 6 dX12_greatest_109 rfl ?_
            refine g_sub [(0, .ref (B + 95)), (1, J v1), (2, J v2), (3, J v3), (4, J v5_2), (5, J v5_30)] [2, 3, 4, 5, 1, 0] rfl ?_
            exact ih6 v5_2 v5_30 hf h_v5_2 h_v5_30
    · replace hf := hf.2 c_37
      refine g_goto hC 106 dX12_greatest_26 rfl ?_
      obtain ⟨q_36, hf⟩ := hf
      obtain ⟨v5_35, e_v5_35⟩ : ∃ z : Int, z = v5_2 + 1 := ⟨_, rfl⟩
      replace hf := hf v5_35 e_v5_35
      have h_v5_35 : inR v5_35 := by rw [e_v5_35]; exact q_36
      refine g_iincv hC 5 e_v5_35 [(5, J v5_35), (0, .ref (B + 95)), (1, J v1), (2, J v2), (3, J v3), (4, J v4_1)] dX12_greatest_106 rfl (by decide) rfl ?_
      refine g_goto hC 6 dX12_greatest_109 rfl ?_
      refine g_sub [(0, .ref (B + 95)), (1, J v1), (2, J v2), (3, J v3), (4, J v4_1), (5, J v5_35)] [1, 2, 3, 4, 5, 0] rfl ?_
      exact ih6 v4_1 v5_35 hf h_v4_1 h_v5_35
set_option maxHeartbeats 4000000 in
set_option maxRecDepth 100000 in
theorem c_X12_calledAs (l : Launch) (B : Nat) (D : va_G) (K : Nat → ClassId) (v1 : Int) (v2 : Int) (v3 : Int) (i_v1 : inR v1) (i_v2 : inR v2) (i_v3 : inR v3) (M : Mem) (hM : MR M) (Q : Int → Prop) (hf : f_X12_calledAs v1 v2 v3 M Q) : CtI l yX12_calledAs cX12_calledAs 5 3 68 B D K [.ref (B + 95), J v1, J v2, J v3] M (fun r M1 => M = M1 ∧ Q r) := by
  refine ct_i (by decide) (Nat.le_of_ble_eq_true rfl) ?_
  intro p e s m args below meth c hC
  have hC : Cx p s m args meth c D K cX12_calledAs 5 RX12 (some .int) := hC
  unfold f_X12_calledAs at hf
  refine (show G p l e (rmF 3 68) s m args below meth c B D K 5 0 0 (ZI below args s B D K (fun r M1 => M = M1 ∧ Q r)) M 0 [(0, .ref (B + 95)), (1, J v1), (2, J v2), (3, J v3)] [] from ?_)
  refine g_iload_n hC 3 dX12_calledAs_0 rfl rfl ?_
  refine g_iconst hC dX12_calledAs_1 ?_
  refine jn_elim (fun (k : Prop) => k → G p l e (rmF 3 68) s m args below meth c B D K 5 0 0 (ZI below args s B D K (fun r M1 => M = M1 ∧ Q r)) M 63 [(0, .ref (B + 95)), (1, J v1), (2, J v2)] []) hf ?_ ?_
  · intro hf
    refine g_aload_n hC 0 dX12_calledAs_63 rfl rfl ?_
    refine g_iload_n hC 1 dX12_calledAs_64 rfl rfl ?_
    refine g_iload_n hC 2 dX12_calledAs_65 rfl rfl ?_
    refine g_iconst hC dX12_calledAs_66 ?_
    refine g_callVI hC (sk := []) [J v1, J v2, J 0] (c_X12_greatest l B D K v1 v2 0 i_v1 i_v2 (by unfold inR; omega) M hM _ hf) yv_X12_greatest wm_X12_274 okX12.1 sc95 rfl ⟨Nat.le_of_ble_eq_true rfl, Nat.le_of_ble_eq_true rfl, Nat.le_of_ble_eq_true rfl, Nat.le_of_ble_eq_true rfl⟩ rfl (Nat.le_of_ble_eq_true rfl) dX12_calledAs_67 ?_
    rintro r_1 M_2 h_r_1 - ⟨rfl, hf⟩
    exact g_reti hC h_r_1 hM ⟨rfl, hf⟩ dX12_calledAs_70
  · intro J63 hJ63 hf
    refine g_icmp_eq hC 63 i_v3 (by unfold inR; omega) dX12_calledAs_2 rfl (fun c_22 => ?_) (fun c_22 => ?_)
    · replace hf := hf.1 c_22
      refine g_sub [(0, .ref (B + 95)), (1, J v1), (2, J v2)] [0, 1, 2] rfl ?_
      exact hJ63 hf
    · replace hf := hf.2 c_22
      refine g_aload_n hC 0 dX12_calledAs_5 rfl rfl ?_
      refine g_iload_n hC 3 dX12_calledAs_6 rfl rfl ?_
      refine g_iconst hC dX12_calledAs_7 ?_
      refine g_callVI hC (sk := []) [J v3, J 4] (c_X12_its l B D K v3 4 i_v3 (by unfold inR; omega) M hM _ hf) yv_X12_its wm_X12_252 okX12.1 sc95 rfl ⟨Nat.le_of_ble_eq_true rfl, Nat.le_of_ble_eq_true rfl, Nat.le_of_ble_eq_true rfl, Nat.le_of_ble_eq_true rfl⟩ rfl (Nat.le_of_ble_eq_true rfl) dX12_calledAs_8 ?_
      rintro r_3 M_4 h_r_3 - ⟨rfl, hf⟩
      refine g_iconst hC dX12_calledAs_11 ?_
      refine g_icmp_eq hC 63 h_r_3 (by unfold inR; omega) dX12_calledAs_12 rfl (fun c_21 => ?_) (fun c_21 => ?_)
      · replace hf := hf.1 c_21
        refine g_sub [(0, .ref (B + 95)), (1, J v1), (2, J v2)] [0, 1, 2] rfl ?_
        exact hJ63 hf
      · replace hf := hf.2 c_21
        refine g_iconst hC dX12_calledAs_15 ?_
        refine g_istore hC [(4, J 0), (0, .ref (B + 95)), (1, J v1), (2, J v2), (3, J v3)] dX12_calledAs_16 (by decide) rfl ?_
        refine g_sub [(0, .ref (B + 95)), (1, J v1), (2, J v2), (3, J v3), (4, J 0)] [1, 2, 3, 4, 0] rfl ?_
        refine wl1_elim (fun (v4_5 : Int) => inR v4_5 → G p l e (rmF 3 68) s m args below meth c B D K 5 0 0 (ZI below args s B D K (fun r M1 => M = M1 ∧ Q r)) M 18 [(0, .ref (B + 95)), (1, J v1), (2, J v2), (3, J v3), (4, J v4_5)] []) ?_ 5000 0 hf (by unfold inR; omega)
        intro rec18 ih18 v4_5 hf h_v4_5
        unfold X12_calledAs_b18 at hf
        refine g_iload hC 4 dX12_calledAs_18 rfl ?_
        refine g_aload_n hC 0 dX12_calledAs_20 rfl rfl ?_
        refine g_callVI hC (sk := [J v4_5]) [] (c_X12_reaches l B D K   M hM _ hf) yv_X12_reaches wm_X12_249 okX12.1 sc95 rfl ⟨Nat.le_of_ble_eq_true rfl, Nat.le_of_ble_eq_true rfl, Nat.le_of_ble_eq_true rfl, Nat.le_of_ble_eq_true rfl⟩ rfl (Nat.le_of_ble_eq_true rfl) dX12_calledAs_21 ?_
        rintro r_6 M_7 h_r_6 - ⟨rfl, hf⟩
        refine g_icmp_ge hC 63 h_v4_5 h_r_6 dX12_calledAs_24 rfl (fun c_20 => ?_) (fun c_20 => ?_)
        · replace hf := hf.1 c_20
          refine g_sub [(0, .ref (B + 95)), (1, J v1), (2, J v2)] [0, 1, 2] rfl ?_
          exact hJ63 hf
        · replace hf := hf.2 c_20
          refine g_aload_n hC 0 dX12_calledAs_27 rfl rfl ?_
          refine g_iload hC 4 dX12_calledAs_28 rfl ?_
          refine g_iload_n hC 2 dX12_calledAs_30 rfl rfl ?_
          refine g_callVI hC (sk := []) [J v4_5, J v2] (c_X12_its l B D K v4_5 v2 h_v4_5 i_v2 M hM _ hf) yv_X12_its wm_X12_252 okX12.1 sc95 rfl ⟨Nat.le_of_ble_eq_true rfl, Nat.le_of_ble_eq_true rfl, Nat.le_of_ble_eq_true rfl, Nat.le_of_ble_eq_true rfl⟩ rfl (Nat.le_of_ble_eq_true rfl) dX12_calledAs_31 ?_
          rintro r_8 M_9 h_r_8 - ⟨rfl, hf⟩
          refine g_iload_n hC 1 dX12_calledAs_34 rfl rfl ?_
          refine g_icmp_ne hC 57 h_r_8 i_v1 dX12_calledAs_35 rfl (fun c_19 => ?_) (fun c_19 => ?_)
          · replace hf := hf.1 c_19
            obtain ⟨q_11, hf⟩ := hf
            obtain ⟨v4_10, e_v4_10⟩ : ∃ z : Int, z = v4_5 + 1 := ⟨_, rfl⟩
            replace hf := hf v4_10 e_v4_10
            have h_v4_10 : inR v4_10 := by rw [e_v4_10]; exact q_11
            refine g_iincv hC 4 e_v4_10 [(4, J v4_10), (0, .ref (B + 95)), (1, J v1), (2, J v2), (3, J v3)] dX12_calledAs_57 rfl (by decide) rfl ?_
            refine g_goto hC 18 dX12_calledAs_60 rfl ?_
            refine g_sub [(0, .ref (B + 95)), (1, J v1), (2, J v2), (3, J v3), (4, J v4_10)] [1, 2, 3, 4, 0] rfl ?_
            exact ih18 v4_10 hf h_v4_10
          · replace hf := hf.2 c_19
            refine g_aload_n hC 0 dX12_calledAs_38 rfl rfl ?_
            refine g_iload hC 4 dX12_calledAs_39 rfl ?_
            refine g_iconst hC dX12_calledAs_41 ?_
            refine g_callVI hC (sk := []) [J v4_5, J 4] (c_X12_its l B D K v4_5 4 h_v4_5 (by unfold inR; omega) M hM _ hf) yv_X12_its wm_X12_252 okX12.1 sc95 rfl ⟨Nat.le_of_ble_eq_true rfl, Nat.le_of_ble_eq_true rfl, Nat.le_of_ble_eq_true rfl, Nat.le_of_ble_eq_true rfl⟩ rfl (Nat.le_of_ble_eq_true rfl) dX12_calledAs_42 ?_
            rintro r_12 M_13 h_r_12 - ⟨rfl, hf⟩
            refine g_aload_n hC 0 dX12_calledAs_45 rfl rfl ?_
            refine g_iload_n hC 3 dX12_calledAs_46 rfl rfl ?_
            refine g_iconst hC dX12_calledAs_47 ?_
            refine g_callVI hC (sk := [J r_12]) [J v3, J 4] (c_X12_its l B D K v3 4 i_v3 (by unfold inR; omega) M hM _ hf) yv_X12_its wm_X12_252 okX12.1 sc95 rfl ⟨Nat.le_of_ble_eq_true rfl, Nat.le_of_ble_eq_true rfl, Nat.le_of_ble_eq_true rfl, Nat.le_of_ble_eq_true rfl⟩ rfl (Nat.le_of_ble_eq_true rfl) dX12_calledAs_48 ?_
            rintro r_14 M_15 h_r_14 - ⟨rfl, hf⟩
            refine g_icmp_ne hC 57 h_r_12 h_r_14 dX12_calledAs_51 rfl (fun c_18 => ?_) (fun c_18 => ?_)
            · replace hf := hf.1 c_18
              obtain ⟨q_17, hf⟩ := hf
              obtain ⟨v4_16, e_v4_16⟩ : ∃ z : Int, z = v4_5 + 1 := ⟨_, rfl⟩
              replace hf := hf v4_16 e_v4_16
              have h_v4_16 : inR v4_16 := by rw [e_v4_16]; exact q_17
              refine g_iincv hC 4 e_v4_16 [(4, J v4_16), (0, .ref (B + 95)), (1, J v1), (2, J v2), (3, J v3)] dX12_calledAs_57 rfl (by decide) rfl ?_
              refine g_goto hC 18 dX12_calledAs_60 rfl ?_
              refine g_sub [(0, .ref (B + 95)), (1, J v1), (2, J v2), (3, J v3), (4, J v4_16)] [1, 2, 3, 4, 0] rfl ?_
              exact ih18 v4_16 hf h_v4_16
            · replace hf := hf.2 c_18
              refine g_iload hC 4 dX12_calledAs_54 rfl ?_
              exact g_reti hC h_v4_5 hM ⟨rfl, hf⟩ dX12_calledAs_56
set_option maxHeartbeats 4000000 in
set_option maxRecDepth 100000 in
theorem c_X12_mainIn (l : Launch) (B : Nat) (D : va_G) (K : Nat → ClassId) (v1 : Int) (v2 : Int) (i_v1 : inR v1) (i_v2 : inR v2) (M : Mem) (hM : MR M) (Q : Int → Prop) (hf : f_X12_mainIn v1 v2 M Q) : CtI l yX12_mainIn cX12_mainIn 3 4 92 B D K [.ref (B + 95), J v1, J v2] M (fun r M1 => M = M1 ∧ Q r) := by
  refine ct_i (by decide) (Nat.le_of_ble_eq_true rfl) ?_
  intro p e s m args below meth c hC
  have hC : Cx p s m args meth c D K cX12_mainIn 3 RX12 (some .int) := hC
  unfold f_X12_mainIn at hf
  refine (show G p l e (rmF 4 92) s m args below meth c B D K 3 0 0 (ZI below args s B D K (fun r M1 => M = M1 ∧ Q r)) M 0 [(0, .ref (B + 95)), (1, J v1), (2, J v2)] [] from ?_)
  refine g_iload_n hC 2 dX12_mainIn_0 rfl rfl ?_
  refine g_iconst hC dX12_mainIn_1 ?_
  refine g_icmp_ne hC 21 i_v2 (by unfold inR; omega) dX12_mainIn_2 rfl (fun c_9 => ?_) (fun c_9 => ?_)
  · replace hf := hf.1 c_9
    refine g_aload_n hC 0 dX12_mainIn_21 rfl rfl ?_
    refine g_iload_n hC 1 dX12_mainIn_22 rfl rfl ?_
    refine g_iconst hC dX12_mainIn_23 ?_
    refine g_iload_n hC 2 dX12_mainIn_24 rfl rfl ?_
    refine g_iconst hC dX12_mainIn_25 ?_
    refine jn_elim (fun (k : Int → Prop) => ∀ (s3_1 : Int), k s3_1 → ((s3_1 = 0 ∨ s3_1 = 1)) → G p l e (rmF 4 92) s m args below meth c B D K 3 0 0 (ZI below args s B D K (fun r M1 => M = M1 ∧ Q r)) M 34 [] [J s3_1, J 1, J v1, .ref (B + 95)]) hf ?_ ?_
    · intro s3_1 hf h_s3_1
      refine g_callVI hC (sk := []) [J v1, J 1, J s3_1] (c_X12_greatest l B D K v1 1 s3_1 i_v1 (by unfold inR; omega) (zi_ h_s3_1) M hM _ hf) yv_X12_greatest wm_X12_274 okX12.1 sc95 rfl ⟨Nat.le_of_ble_eq_true rfl, Nat.le_of_ble_eq_true rfl, Nat.le_of_ble_eq_true rfl, Nat.le_of_ble_eq_true rfl⟩ rfl (Nat.le_of_ble_eq_true rfl) dX12_mainIn_34 ?_
      rintro r_2 M_3 h_r_2 - ⟨rfl, hf⟩
      exact g_reti hC h_r_2 hM ⟨rfl, hf⟩ dX12_mainIn_37
    · intro J34 hJ34 hf
      refine g_icmp_ne hC 33 i_v2 (by unfold inR; omega) dX12_mainIn_26 rfl (fun c_4 => ?_) (fun c_4 => ?_)
      · replace hf := hf.1 c_4
        refine g_iconst hC dX12_mainIn_33 ?_
        refine g_sub [] [] rfl ?_
        exact hJ34 0 hf (Or.inl rfl)
      · replace hf := hf.2 c_4
        refine g_iconst hC dX12_mainIn_29 ?_
        refine g_goto hC 34 dX12_mainIn_30 rfl ?_
        refine g_sub [] [] rfl ?_
        exact hJ34 1 hf (Or.inr rfl)
  · replace hf := hf.2 c_9
    refine g_aload_n hC 0 dX12_mainIn_5 rfl rfl ?_
    refine g_iload_n hC 1 dX12_mainIn_6 rfl rfl ?_
    refine g_iconst hC dX12_mainIn_7 ?_
    refine g_aload_n hC 0 dX12_mainIn_8 rfl rfl ?_
    refine g_iload_n hC 1 dX12_mainIn_9 rfl rfl ?_
    refine g_iconst hC dX12_mainIn_10 ?_
    refine g_iconst hC dX12_mainIn_11 ?_
    refine g_callVI hC (sk := [J 1, J v1, .ref (B + 95)]) [J v1, J 0, J 0] (c_X12_greatest l B D K v1 0 0 i_v1 (by unfold inR; omega) (by unfold inR; omega) M hM _ hf) yv_X12_greatest wm_X12_274 okX12.1 sc95 rfl ⟨Nat.le_of_ble_eq_true rfl, Nat.le_of_ble_eq_true rfl, Nat.le_of_ble_eq_true rfl, Nat.le_of_ble_eq_true rfl⟩ rfl (Nat.le_of_ble_eq_true rfl) dX12_mainIn_12 ?_
    rintro r_5 M_6 h_r_5 - ⟨rfl, hf⟩
    refine g_callVI hC (sk := []) [J v1, J 1, J r_5] (c_X12_calledAs l B D K v1 1 r_5 i_v1 (by unfold inR; omega) h_r_5 M hM _ hf) yv_X12_calledAs wm_X12_278 okX12.1 sc95 rfl ⟨Nat.le_of_ble_eq_true rfl, Nat.le_of_ble_eq_true rfl, Nat.le_of_ble_eq_true rfl, Nat.le_of_ble_eq_true rfl⟩ rfl (Nat.le_of_ble_eq_true rfl) dX12_mainIn_15 ?_
    rintro r_7 M_8 h_r_7 - ⟨rfl, hf⟩
    refine g_goto hC 37 dX12_mainIn_18 rfl ?_
    exact g_reti hC h_r_7 hM ⟨rfl, hf⟩ dX12_mainIn_37
set_option maxHeartbeats 4000000 in
set_option maxRecDepth 100000 in
theorem c_X12_mainOut (l : Launch) (B : Nat) (D : va_G) (K : Nat → ClassId) (v1 : Int) (v2 : Int) (i_v1 : inR v1) (i_v2 : inR v2) (M : Mem) (hM : MR M) (Q : Int → Prop) (hf : f_X12_mainOut v1 v2 M Q) : CtI l yX12_mainOut cX12_mainOut 3 4 92 B D K [.ref (B + 95), J v1, J v2] M (fun r M1 => M = M1 ∧ Q r) := by
  refine ct_i (by decide) (Nat.le_of_ble_eq_true rfl) ?_
  intro p e s m args below meth c hC
  have hC : Cx p s m args meth c D K cX12_mainOut 3 RX12 (some .int) := hC
  unfold f_X12_mainOut at hf
  refine (show G p l e (rmF 4 92) s m args below meth c B D K 3 0 0 (ZI below args s B D K (fun r M1 => M = M1 ∧ Q r)) M 0 [(0, .ref (B + 95)), (1, J v1), (2, J v2)] [] from ?_)
  refine g_iload_n hC 2 dX12_mainOut_0 rfl rfl ?_
  refine g_iconst hC dX12_mainOut_1 ?_
  refine g_icmp_ne hC 21 i_v2 (by unfold inR; omega) dX12_mainOut_2 rfl (fun c_7 => ?_) (fun c_7 => ?_)
  · replace hf := hf.1 c_7
    refine g_aload_n hC 0 dX12_mainOut_21 rfl rfl ?_
    refine g_iload_n hC 1 dX12_mainOut_22 rfl rfl ?_
    refine g_iconst hC dX12_mainOut_23 ?_
    refine g_iconst hC dX12_mainOut_24 ?_
    refine g_callVI hC (sk := []) [J v1, J 0, J 0] (c_X12_greatest l B D K v1 0 0 i_v1 (by unfold inR; omega) (by unfold inR; omega) M hM _ hf) yv_X12_greatest wm_X12_274 okX12.1 sc95 rfl ⟨Nat.le_of_ble_eq_true rfl, Nat.le_of_ble_eq_true rfl, Nat.le_of_ble_eq_true rfl, Nat.le_of_ble_eq_true rfl⟩ rfl (Nat.le_of_ble_eq_true rfl) dX12_mainOut_25 ?_
    rintro r_1 M_2 h_r_1 - ⟨rfl, hf⟩
    exact g_reti hC h_r_1 hM ⟨rfl, hf⟩ dX12_mainOut_28
  · replace hf := hf.2 c_7
    refine g_aload_n hC 0 dX12_mainOut_5 rfl rfl ?_
    refine g_iload_n hC 1 dX12_mainOut_6 rfl rfl ?_
    refine g_iconst hC dX12_mainOut_7 ?_
    refine g_aload_n hC 0 dX12_mainOut_8 rfl rfl ?_
    refine g_iload_n hC 1 dX12_mainOut_9 rfl rfl ?_
    refine g_iconst hC dX12_mainOut_10 ?_
    refine g_iconst hC dX12_mainOut_11 ?_
    refine g_callVI hC (sk := [J 0, J v1, .ref (B + 95)]) [J v1, J 1, J 0] (c_X12_greatest l B D K v1 1 0 i_v1 (by unfold inR; omega) (by unfold inR; omega) M hM _ hf) yv_X12_greatest wm_X12_274 okX12.1 sc95 rfl ⟨Nat.le_of_ble_eq_true rfl, Nat.le_of_ble_eq_true rfl, Nat.le_of_ble_eq_true rfl, Nat.le_of_ble_eq_true rfl⟩ rfl (Nat.le_of_ble_eq_true rfl) dX12_mainOut_12 ?_
    rintro r_3 M_4 h_r_3 - ⟨rfl, hf⟩
    refine g_callVI hC (sk := []) [J v1, J 0, J r_3] (c_X12_calledAs l B D K v1 0 r_3 i_v1 (by unfold inR; omega) h_r_3 M hM _ hf) yv_X12_calledAs wm_X12_278 okX12.1 sc95 rfl ⟨Nat.le_of_ble_eq_true rfl, Nat.le_of_ble_eq_true rfl, Nat.le_of_ble_eq_true rfl, Nat.le_of_ble_eq_true rfl⟩ rfl (Nat.le_of_ble_eq_true rfl) dX12_mainOut_15 ?_
    rintro r_5 M_6 h_r_5 - ⟨rfl, hf⟩
    refine g_goto hC 28 dX12_mainOut_18 rfl ?_
    exact g_reti hC h_r_5 hM ⟨rfl, hf⟩ dX12_mainOut_28
set_option maxHeartbeats 4000000 in
set_option maxRecDepth 100000 in
theorem c_X12_by (l : Launch) (B : Nat) (D : va_G) (K : Nat → ClassId) (v0 : Int) (v1 : Int) (i_v0 : inR v0) (i_v1 : inR v1) (M : Mem) (hM : MR M) (Q : Int → Prop) (hf : f_X12_by v0 v1 M Q) : CtI l yX12_by cX12_by 2 0 0 B D K [J v0, J v1] M (fun r M1 => M = M1 ∧ Q r) := by
  refine ct_i (by decide) (Nat.le_of_ble_eq_true rfl) ?_
  intro p e s m args below meth c hC
  have hC : Cx p s m args meth c D K cX12_by 2 RX12 (some .int) := hC
  unfold f_X12_by at hf
  refine (show G p l e (rmF 0 0) s m args below meth c B D K 2 0 0 (ZI below args s B D K (fun r M1 => M = M1 ∧ Q r)) M 0 [(0, J v0), (1, J v1)] [] from ?_)
  refine g_bipush hC dX12_by_0 (by decide) ?_
  refine g_iload_n hC 0 dX12_by_2 rfl rfl ?_
  refine g_imul hC dX12_by_3 ?_
  refine g_iload_n hC 1 dX12_by_4 rfl rfl ?_
  refine g_iadd hC dX12_by_5 ?_
  obtain ⟨q_1, hf⟩ := hf
  exact g_reti hC q_1 hM ⟨rfl, hf⟩ dX12_by_6
set_option maxHeartbeats 4000000 in
set_option maxRecDepth 100000 in
theorem c_X12_leastBranch (l : Launch) (B : Nat) (D : va_G) (K : Nat → ClassId) (v1 : Int) (v2 : Int) (i_v1 : inR v1) (i_v2 : inR v2) (M : Mem) (hM : MR M) (Q : Int → Prop) (hf : f_X12_leastBranch v1 v2 M Q) : CtI l yX12_leastBranch cX12_leastBranch 5 2 43 B D K [.ref (B + 95), J v1, J v2] M (fun r M1 => M = M1 ∧ Q r) := by
  refine ct_i (by decide) (Nat.le_of_ble_eq_true rfl) ?_
  intro p e s m args below meth c hC
  have hC : Cx p s m args meth c D K cX12_leastBranch 5 RX12 (some .int) := hC
  unfold f_X12_leastBranch at hf
  refine (show G p l e (rmF 2 43) s m args below meth c B D K 5 0 0 (ZI below args s B D K (fun r M1 => M = M1 ∧ Q r)) M 0 [(0, .ref (B + 95)), (1, J v1), (2, J v2)] [] from ?_)
  refine g_iconst hC dX12_leastBranch_0 ?_
  refine g_istore_n hC [(3, J 0), (0, .ref (B + 95)), (1, J v1), (2, J v2)] dX12_leastBranch_1 rfl (by decide) rfl ?_
  refine g_iconst hC dX12_leastBranch_2 ?_
  refine g_istore hC [(4, J 0), (3, J 0), (0, .ref (B + 95)), (1, J v1), (2, J v2)] dX12_leastBranch_3 (by decide) rfl ?_
  refine g_sub [(0, .ref (B + 95)), (1, J v1), (2, J v2), (3, J 0), (4, J 0)] [2, 3, 4, 1, 0] rfl ?_
  refine wl2_elim (fun (v3_1 : Int) (v4_2 : Int) => inR v3_1 → inR v4_2 → G p l e (rmF 2 43) s m args below meth c B D K 5 0 0 (ZI below args s B D K (fun r M1 => M = M1 ∧ Q r)) M 5 [(0, .ref (B + 95)), (1, J v1), (2, J v2), (3, J v3_1), (4, J v4_2)] []) ?_ 5000 0 0 hf (by unfold inR; omega) (by unfold inR; omega)
  intro rec5 ih5 v3_1 v4_2 hf h_v3_1 h_v4_2
  unfold X12_leastBranch_b5 at hf
  refine g_iload hC 4 dX12_leastBranch_5 rfl ?_
  refine g_aload_n hC 0 dX12_leastBranch_7 rfl rfl ?_
  refine g_callVI hC (sk := [J v4_2]) [] (c_X12_reaches l B D K   M hM _ hf) yv_X12_reaches wm_X12_249 okX12.1 sc95 rfl ⟨Nat.le_of_ble_eq_true rfl, Nat.le_of_ble_eq_true rfl, Nat.le_of_ble_eq_true rfl, Nat.le_of_ble_eq_true rfl⟩ rfl (Nat.le_of_ble_eq_true rfl) dX12_leastBranch_8 ?_
  rintro r_3 M_4 h_r_3 - ⟨rfl, hf⟩
  refine g_icmp_ge hC 62 h_v4_2 h_r_3 dX12_leastBranch_11 rfl (fun c_23 => ?_) (fun c_23 => ?_)
  · replace hf := hf.1 c_23
    refine g_iload_n hC 3 dX12_leastBranch_62 rfl rfl ?_
    exact g_reti hC h_v3_1 hM ⟨rfl, hf⟩ dX12_leastBranch_63
  · replace hf := hf.2 c_23
    refine g_aload_n hC 0 dX12_leastBranch_14 rfl rfl ?_
    refine g_iload hC 4 dX12_leastBranch_15 rfl ?_
    refine g_iconst hC dX12_leastBranch_17 ?_
    refine g_callVI hC (sk := []) [J v4_2, J 0] (c_X12_its l B D K v4_2 0 h_v4_2 (by unfold inR; omega) M hM _ hf) yv_X12_its wm_X12_252 okX12.1 sc95 rfl ⟨Nat.le_of_ble_eq_true rfl, Nat.le_of_ble_eq_true rfl, Nat.le_of_ble_eq_true rfl, Nat.le_of_ble_eq_true rfl⟩ rfl (Nat.le_of_ble_eq_true rfl) dX12_leastBranch_18 ?_
    rintro r_5 M_6 h_r_5 - ⟨rfl, hf⟩
    refine g_iload_n hC 1 dX12_leastBranch_21 rfl rfl ?_
    refine g_icmp_ne hC 56 h_r_5 i_v1 dX12_leastBranch_22 rfl (fun c_22 => ?_) (fun c_22 => ?_)
    · replace hf := hf.1 c_22
      obtain ⟨q_8, hf⟩ := hf
      obtain ⟨v4_7, e_v4_7⟩ : ∃ z : Int, z = v4_2 + 1 := ⟨_, rfl⟩
      replace hf := hf v4_7 e_v4_7
      have h_v4_7 : inR v4_7 := by rw [e_v4_7]; exact q_8
      refine g_iincv hC 4 e_v4_7 [(4, J v4_7), (0, .ref (B + 95)), (1, J v1), (2, J v2), (3, J v3_1)] dX12_leastBranch_56 rfl (by decide) rfl ?_
      refine g_goto hC 5 dX12_leastBranch_59 rfl ?_
      refine g_sub [(0, .ref (B + 95)), (1, J v1), (2, J v2), (3, J v3_1), (4, J v4_7)] [1, 2, 3, 4, 0] rfl ?_
      exact ih5 v3_1 v4_7 hf h_v3_1 h_v4_7
    · replace hf := hf.2 c_22
      refine g_iload_n hC 3 dX12_leastBranch_25 rfl rfl ?_
      refine jn_elim (fun (k : Prop) => k → G p l e (rmF 2 43) s m args below meth c B D K 5 0 0 (ZI below args s B D K (fun r M1 => M = M1 ∧ Q r)) M 44 [(0, .ref (B + 95)), (1, J v1), (2, J v2), (4, J v4_2)] []) hf ?_ ?_
      · intro hf
        refine g_aload_n hC 0 dX12_leastBranch_44 rfl rfl ?_
        refine g_getr hC okX12 sc95 29 (by decide) rfl wf_X12_69 dX12_leastBranch_45 ?_
        refine g_iload_n hC 2 dX12_leastBranch_48 rfl rfl ?_
        refine g_iload hC 3 dX12_leastBranch_49 rfl ?_
        refine g_callSI hC (sk := [.ref (B + 114)]) [J v2, J v4_2] (c_X12_by l B D K v2 v4_2 i_v2 h_v4_2 M hM _ hf) yv_X12_by wm_X12_282 rfl ⟨Nat.le_of_ble_eq_true rfl, Nat.le_of_ble_eq_true rfl, Nat.le_of_ble_eq_true rfl, Nat.le_of_ble_eq_true rfl⟩ rfl (Nat.le_of_ble_eq_true rfl) dX12_leastBranch_51 ?_
        rintro r_9 M_10 h_r_9 - ⟨rfl, hf⟩
        obtain ⟨q_11, hf⟩ := hf
        refine g_ialdk (r_9.toNat) hC sc114 q_11.1 q_11.2 rfl dX12_leastBranch_54 ?_
        refine g_nm (fun v3_12 e_v3_12 => ?_)
        replace hf := hf v3_12 e_v3_12
        have h_v3_12 : inR v3_12 := by rw [e_v3_12]; exact (hM _ _)
        refine g_istore_n hC [(3, J v3_12), (0, .ref (B + 95)), (1, J v1), (2, J v2), (4, J v4_2)] dX12_leastBranch_55 rfl (by decide) rfl ?_
        obtain ⟨q_14, hf⟩ := hf
        obtain ⟨v4_13, e_v4_13⟩ : ∃ z : Int, z = v4_2 + 1 := ⟨_, rfl⟩
        replace hf := hf v4_13 e_v4_13
        have h_v4_13 : inR v4_13 := by rw [e_v4_13]; exact q_14
        refine g_iincv hC 4 e_v4_13 [(4, J v4_13), (3, J v3_12), (0, .ref (B + 95)), (1, J v1), (2, J v2)] dX12_leastBranch_56 rfl (by decide) rfl ?_
        refine g_goto hC 5 dX12_leastBranch_59 rfl ?_
        refine g_sub [(0, .ref (B + 95)), (1, J v1), (2, J v2), (3, J v3_12), (4, J v4_13)] [2, 3, 4, 1, 0] rfl ?_
        exact ih5 v3_12 v4_13 hf h_v3_12 h_v4_13
      · intro J44 hJ44 hf
        refine g_if_eq hC 44 h_v3_1 dX12_leastBranch_26 rfl (fun c_21 => ?_) (fun c_21 => ?_)
        · replace hf := hf.1 c_21
          refine g_sub [(0, .ref (B + 95)), (1, J v1), (2, J v2), (4, J v4_2)] [0, 1, 2, 4] rfl ?_
          exact hJ44 hf
        · replace hf := hf.2 c_21
          refine g_aload_n hC 0 dX12_leastBranch_29 rfl rfl ?_
          refine g_getr hC okX12 sc95 29 (by decide) rfl wf_X12_69 dX12_leastBranch_30 ?_
          refine g_iload_n hC 2 dX12_leastBranch_33 rfl rfl ?_
          refine g_iload hC 4 dX12_leastBranch_34 rfl ?_
          refine g_callSI hC (sk := [.ref (B + 114)]) [J v2, J v4_2] (c_X12_by l B D K v2 v4_2 i_v2 h_v4_2 M hM _ hf) yv_X12_by wm_X12_282 rfl ⟨Nat.le_of_ble_eq_true rfl, Nat.le_of_ble_eq_true rfl, Nat.le_of_ble_eq_true rfl, Nat.le_of_ble_eq_true rfl⟩ rfl (Nat.le_of_ble_eq_true rfl) dX12_leastBranch_36 ?_
          rintro r_15 M_16 h_r_15 - ⟨rfl, hf⟩
          obtain ⟨q_17, hf⟩ := hf
          refine g_ialdk (r_15.toNat) hC sc114 q_17.1 q_17.2 rfl dX12_leastBranch_39 ?_
          refine g_iload_n hC 3 dX12_leastBranch_40 rfl rfl ?_
          refine g_icmp_ge hC 56 (hM _ _) h_v3_1 dX12_leastBranch_41 rfl (fun c_20 => ?_) (fun c_20 => ?_)
          · replace hf := hf.1 c_20
            obtain ⟨q_19, hf⟩ := hf
            obtain ⟨v4_18, e_v4_18⟩ : ∃ z : Int, z = v4_2 + 1 := ⟨_, rfl⟩
            replace hf := hf v4_18 e_v4_18
            have h_v4_18 : inR v4_18 := by rw [e_v4_18]; exact q_19
            refine g_iincv hC 4 e_v4_18 [(4, J v4_18), (0, .ref (B + 95)), (1, J v1), (2, J v2), (3, J v3_1)] dX12_leastBranch_56 rfl (by decide) rfl ?_
            refine g_goto hC 5 dX12_leastBranch_59 rfl ?_
            refine g_sub [(0, .ref (B + 95)), (1, J v1), (2, J v2), (3, J v3_1), (4, J v4_18)] [1, 2, 3, 4, 0] rfl ?_
            exact ih5 v3_1 v4_18 hf h_v3_1 h_v4_18
          · replace hf := hf.2 c_20
            refine g_sub [(0, .ref (B + 95)), (1, J v1), (2, J v2), (4, J v4_2)] [0, 1, 2, 4] rfl ?_
            exact hJ44 hf
set_option maxHeartbeats 4000000 in
set_option maxRecDepth 100000 in
theorem c_X12_laysBranches (l : Launch) (B : Nat) (D : va_G) (K : Nat → ClassId) (v1 : Int) (i_v1 : inR v1) (M : Mem) (hM : MR M) (Q : Mem → Prop) (hf : f_X12_laysBranches v1 M Q) : CtV l yX12_laysBranches cX12_laysBranches 5 3 67 B D K [.ref (B + 95), J v1] M Q := by
  refine ct_v (by decide) (Nat.le_of_ble_eq_true rfl) ?_
  intro p e s m args below meth c hC
  have hC : Cx p s m args meth c D K cX12_laysBranches 5 RX12 none := hC
  unfold f_X12_laysBranches at hf
  refine (show G p l e (rmF 3 67) s m args below meth c B D K 5 0 0 (ZV below args s B D K Q) M 0 [(0, .ref (B + 95)), (1, J v1)] [] from ?_)
  refine g_aload_n hC 0 dX12_laysBranches_0 rfl rfl ?_
  refine g_callVI hC (sk := []) [] (c_X12_places l B D K   M hM _ hf) yv_X12_places wm_X12_246 okX12.1 sc95 rfl ⟨Nat.le_of_ble_eq_true rfl, Nat.le_of_ble_eq_true rfl, Nat.le_of_ble_eq_true rfl, Nat.le_of_ble_eq_true rfl⟩ rfl (Nat.le_of_ble_eq_true rfl) dX12_laysBranches_1 ?_
  rintro r_1 M_2 h_r_1 - ⟨rfl, hf⟩
  refine g_iconst hC dX12_laysBranches_4 ?_
  refine g_isub hC dX12_laysBranches_5 ?_
  obtain ⟨q_3, hf⟩ := hf
  refine g_nm (fun v2_4 e_v2_4 => ?_)
  replace hf := hf v2_4 e_v2_4
  have h_v2_4 : inR v2_4 := by rw [e_v2_4]; exact q_3
  refine g_istore_n hC [(2, J v2_4), (0, .ref (B + 95)), (1, J v1)] dX12_laysBranches_6 rfl (by decide) rfl ?_
  refine g_sub [(0, .ref (B + 95)), (1, J v1), (2, J v2_4)] [1, 2, 0] rfl ?_
  refine wl2_elim (fun (v2_5 : Int) (M_6 : Mem) => inR v2_5 → MR M_6 → G p l e (rmF 3 67) s m args below meth c B D K 5 0 0 (ZV below args s B D K Q) M_6 7 [(0, .ref (B + 95)), (1, J v1), (2, J v2_5)] []) ?_ 5000 v2_4 M hf h_v2_4 hM
  intro rec7 ih7 v2_5 M_6 hf h_v2_5 h_M_6
  unfold X12_laysBranches_b7 at hf
  refine g_iload_n hC 2 dX12_laysBranches_7 rfl rfl ?_
  refine g_if_lt hC 106 h_v2_5 dX12_laysBranches_8 rfl (fun c_41 => ?_) (fun c_41 => ?_)
  · replace hf := hf.1 c_41
    exact g_retv hC h_M_6 hf dX12_laysBranches_106
  · replace hf := hf.2 c_41
    refine g_iconst hC dX12_laysBranches_11 ?_
    refine g_istore_n hC [(3, J 0), (0, .ref (B + 95)), (1, J v1), (2, J v2_5)] dX12_laysBranches_12 rfl (by decide) rfl ?_
    refine g_sub [(0, .ref (B + 95)), (1, J v1), (2, J v2_5), (3, J 0)] [1, 2, 3, 0] rfl ?_
    refine wl2_elim (fun (v3_7 : Int) (M_8 : Mem) => inR v3_7 → MR M_8 → G p l e (rmF 3 67) s m args below meth c B D K 5 0 0 (ZV below args s B D K Q) M_8 13 [(0, .ref (B + 95)), (1, J v1), (2, J v2_5), (3, J v3_7)] []) ?_ 5000 0 M_6 hf (by unfold inR; omega) h_M_6
    intro rec13 ih13 v3_7 M_8 hf h_v3_7 h_M_8
    unfold X12_laysBranches_b13 at hf
    refine g_iload_n hC 3 dX12_laysBranches_13 rfl rfl ?_
    refine g_aload_n hC 0 dX12_laysBranches_14 rfl rfl ?_
    refine g_callVI hC (sk := [J v3_7]) [] (c_X12_reaches l B D K   M_8 h_M_8 _ hf) yv_X12_reaches wm_X12_249 okX12.1 sc95 rfl ⟨Nat.le_of_ble_eq_true rfl, Nat.le_of_ble_eq_true rfl, Nat.le_of_ble_eq_true rfl, Nat.le_of_ble_eq_true rfl⟩ rfl (Nat.le_of_ble_eq_true rfl) dX12_laysBranches_15 ?_
    rintro r_9 M_10 h_r_9 - ⟨rfl, hf⟩
    refine g_icmp_ge hC 100 h_v3_7 h_r_9 dX12_laysBranches_18 rfl (fun c_40 => ?_) (fun c_40 => ?_)
    · replace hf := hf.1 c_40
      obtain ⟨q_12, hf⟩ := hf
      obtain ⟨v2_11, e_v2_11⟩ : ∃ z : Int, z = v2_5 + (-1) := ⟨_, rfl⟩
      replace hf := hf v2_11 e_v2_11
      have h_v2_11 : inR v2_11 := by rw [e_v2_11]; exact q_12
      refine g_iincv hC 2 e_v2_11 [(2, J v2_11), (0, .ref (B + 95)), (1, J v1), (3, J v3_7)] dX12_laysBranches_100 rfl (by decide) rfl ?_
      refine g_goto hC 7 dX12_laysBranches_103 rfl ?_
      refine g_sub [(0, .ref (B + 95)), (1, J v1), (2, J v2_11)] [1, 2, 0] rfl ?_
      exact ih7 v2_11 M_8 hf h_v2_11 h_M_8
    · replace hf := hf.2 c_40
      refine g_aload_n hC 0 dX12_laysBranches_21 rfl rfl ?_
      refine g_iload_n hC 3 dX12_laysBranches_22 rfl rfl ?_
      refine g_iconst hC dX12_laysBranches_23 ?_
      refine g_callVI hC (sk := []) [J v3_7, J 1] (c_X12_its l B D K v3_7 1 h_v3_7 (by unfold inR; omega) M_8 h_M_8 _ hf) yv_X12_its wm_X12_252 okX12.1 sc95 rfl ⟨Nat.le_of_ble_eq_true rfl, Nat.le_of_ble_eq_true rfl, Nat.le_of_ble_eq_true rfl, Nat.le_of_ble_eq_true rfl⟩ rfl (Nat.le_of_ble_eq_true rfl) dX12_laysBranches_24 ?_
      rintro r_13 M_14 h_r_13 - ⟨rfl, hf⟩
      refine g_aload_n hC 0 dX12_laysBranches_27 rfl rfl ?_
      refine g_getr hC okX12 sc95 16 (by decide) rfl wf_X12_30 dX12_laysBranches_28 ?_
      refine g_iload_n hC 2 dX12_laysBranches_31 rfl rfl ?_
      obtain ⟨q_15, hf⟩ := hf
      refine g_ialdk (v2_5.toNat) hC sc101 q_15.1 q_15.2 rfl dX12_laysBranches_32 ?_
      refine g_icmp_eq hC 39 h_r_13 (h_M_8 _ _) dX12_laysBranches_33 rfl (fun c_39 => ?_) (fun c_39 => ?_)
      · replace hf := hf.1 c_39
        refine g_aload_n hC 0 dX12_laysBranches_39 rfl rfl ?_
        refine g_getr hC okX12 sc95 27 (by decide) rfl wf_X12_63 dX12_laysBranches_40 ?_
        refine g_iload_n hC 1 dX12_laysBranches_43 rfl rfl ?_
        refine g_iload_n hC 3 dX12_laysBranches_44 rfl rfl ?_
        refine g_callSI hC (sk := [.ref (B + 112)]) [J v1, J v3_7] (c_X12_by l B D K v1 v3_7 i_v1 h_v3_7 M_8 h_M_8 _ hf) yv_X12_by wm_X12_282 rfl ⟨Nat.le_of_ble_eq_true rfl, Nat.le_of_ble_eq_true rfl, Nat.le_of_ble_eq_true rfl, Nat.le_of_ble_eq_true rfl⟩ rfl (Nat.le_of_ble_eq_true rfl) dX12_laysBranches_45 ?_
        rintro r_16 M_17 h_r_16 - ⟨rfl, hf⟩
        obtain ⟨q_18, hf⟩ := hf
        refine g_ialdk (r_16.toNat) hC sc112 q_18.1 q_18.2 rfl dX12_laysBranches_48 ?_
        refine g_nm (fun v4_19 e_v4_19 => ?_)
        replace hf := hf v4_19 e_v4_19
        have h_v4_19 : inR v4_19 := by rw [e_v4_19]; exact (h_M_8 _ _)
        refine g_istore hC [(4, J v4_19), (0, .ref (B + 95)), (1, J v1), (2, J v2_5), (3, J v3_7)] dX12_laysBranches_49 (by decide) rfl ?_
        refine g_aload_n hC 1 dX12_laysBranches_51 rfl rfl ?_
        refine g_getr hC okX12 sc95 29 (by decide) rfl wf_X12_69 dX12_laysBranches_52 ?_
        refine g_iload_n hC 2 dX12_laysBranches_55 rfl rfl ?_
        refine g_iload_n hC 4 dX12_laysBranches_56 rfl rfl ?_
        refine g_callSI hC (sk := [.ref (B + 114)]) [J v1, J v3_7] (c_X12_by l B D K v1 v3_7 i_v1 h_v3_7 M_8 h_M_8 _ hf) yv_X12_by wm_X12_282 rfl ⟨Nat.le_of_ble_eq_true rfl, Nat.le_of_ble_eq_true rfl, Nat.le_of_ble_eq_true rfl, Nat.le_of_ble_eq_true rfl⟩ rfl (Nat.le_of_ble_eq_true rfl) dX12_laysBranches_57 ?_
        rintro r_20 M_21 h_r_20 - ⟨rfl, hf⟩
        refine g_iload hC 0 dX12_laysBranches_60 rfl ?_
        refine g_iconst hC dX12_laysBranches_62 ?_
        refine g_icmp_eq hC 80 h_v4_19 (by unfold inR; omega) dX12_laysBranches_63 rfl (fun c_36 => ?_) (fun c_36 => ?_)
        · replace hf := hf.1 c_36
          refine g_iconst hC dX12_laysBranches_80 ?_
          refine g_aload_n hC 1 dX12_laysBranches_81 rfl rfl ?_
          refine g_aload_n hC 1 dX12_laysBranches_82 rfl rfl ?_
          refine g_getr hC okX12 sc95 16 (by decide) rfl wf_X12_30 dX12_laysBranches_83 ?_
          refine g_iload_n hC 3 dX12_laysBranches_86 rfl rfl ?_
          refine g_ialdk (v2_5.toNat) hC sc101 q_15.1 q_15.2 rfl dX12_laysBranches_87 ?_
          refine g_iload_n hC 2 dX12_laysBranches_88 rfl rfl ?_
          refine g_callVI hC (sk := [J 1, J r_20, .ref (B + 114)]) [J (M_8 101 (v2_5.toNat)), J v1] (c_X12_leastBranch l B D K (M_8 101 (v2_5.toNat)) v1 (h_M_8 _ _) i_v1 M_8 h_M_8 _ hf) yv_X12_leastBranch wm_X12_296 okX12.1 sc95 rfl ⟨Nat.le_of_ble_eq_true rfl, Nat.le_of_ble_eq_true rfl, Nat.le_of_ble_eq_true rfl, Nat.le_of_ble_eq_true rfl⟩ rfl (Nat.le_of_ble_eq_true rfl) dX12_laysBranches_89 ?_
          rintro r_22 M_23 h_r_22 - ⟨rfl, hf⟩
          refine g_iadd hC dX12_laysBranches_92 ?_
          obtain ⟨q_24, hf⟩ := hf
          obtain ⟨q_25, hf⟩ := hf
          refine g_iastk (r_20.toNat) hC sc114 q_24.1 q_24.2 rfl dX12_laysBranches_93 ?_
          refine g_nmM (fun M_26 e_M_26 => ?_)
          replace hf := hf M_26 e_M_26
          have h_M_26 : MR M_26 := by rw [e_M_26]; exact MR_st h_M_8 q_25
          obtain ⟨q_28, hf⟩ := hf
          obtain ⟨v3_27, e_v3_27⟩ : ∃ z : Int, z = v3_7 + 1 := ⟨_, rfl⟩
          replace hf := hf v3_27 e_v3_27
          have h_v3_27 : inR v3_27 := by rw [e_v3_27]; exact q_28
          refine g_iincv hC 4 e_v3_27 [(3, J v3_27), (4, J v4_19), (0, .ref (B + 95)), (1, J v1), (2, J v2_5)] dX12_laysBranches_94 rfl (by decide) rfl ?_
          refine g_goto hC 13 dX12_laysBranches_97 rfl ?_
          refine g_sub [(0, .ref (B + 95)), (1, J v1), (2, J v2_5), (3, J v3_27)] [2, 3, 4, 0] rfl ?_
          exact ih13 v3_27 M_26 hf h_v3_27 h_M_26
        · replace hf := hf.2 c_36
          refine g_aload_n hC 1 dX12_laysBranches_66 rfl rfl ?_
          refine g_getr hC okX12 sc95 29 (by decide) rfl wf_X12_69 dX12_laysBranches_67 ?_
          refine g_iload_n hC 2 dX12_laysBranches_70 rfl rfl ?_
          refine g_iload hC 0 dX12_laysBranches_71 rfl ?_
          refine g_callSI hC (sk := [.ref (B + 114), J r_20, .ref (B + 114)]) [J v1, J v4_19] (c_X12_by l B D K v1 v4_19 i_v1 h_v4_19 M_8 h_M_8 _ hf) yv_X12_by wm_X12_282 rfl ⟨Nat.le_of_ble_eq_true rfl, Nat.le_of_ble_eq_true rfl, Nat.le_of_ble_eq_true rfl, Nat.le_of_ble_eq_true rfl⟩ rfl (Nat.le_of_ble_eq_true rfl) dX12_laysBranches_73 ?_
          rintro r_29 M_30 h_r_29 - ⟨rfl, hf⟩
          obtain ⟨q_31, hf⟩ := hf
          refine g_ialdk (r_29.toNat) hC sc114 q_31.1 q_31.2 rfl dX12_laysBranches_76 ?_
          refine g_goto hC 93 dX12_laysBranches_77 rfl ?_
          obtain ⟨q_32, hf⟩ := hf
          refine g_iastk (r_20.toNat) hC sc114 q_32.1 q_32.2 rfl dX12_laysBranches_93 ?_
          refine g_nmM (fun M_33 e_M_33 => ?_)
          replace hf := hf M_33 e_M_33
          have h_M_33 : MR M_33 := by rw [e_M_33]; exact MR_st h_M_8 (h_M_8 _ _)
          obtain ⟨q_35, hf⟩ := hf
          obtain ⟨v3_34, e_v3_34⟩ : ∃ z : Int, z = v3_7 + 1 := ⟨_, rfl⟩
          replace hf := hf v3_34 e_v3_34
          have h_v3_34 : inR v3_34 := by rw [e_v3_34]; exact q_35
          refine g_iincv hC 4 e_v3_34 [(3, J v3_34), (4, J v4_19), (0, .ref (B + 95)), (1, J v1), (2, J v2_5)] dX12_laysBranches_94 rfl (by decide) rfl ?_
          refine g_goto hC 13 dX12_laysBranches_97 rfl ?_
          refine g_sub [(0, .ref (B + 95)), (1, J v1), (2, J v2_5), (3, J v3_34)] [2, 3, 4, 0] rfl ?_
          exact ih13 v3_34 M_33 hf h_v3_34 h_M_33
      · replace hf := hf.2 c_39
        refine g_goto hC 94 dX12_laysBranches_36 rfl ?_
        obtain ⟨q_38, hf⟩ := hf
        obtain ⟨v3_37, e_v3_37⟩ : ∃ z : Int, z = v3_7 + 1 := ⟨_, rfl⟩
        replace hf := hf v3_37 e_v3_37
        have h_v3_37 : inR v3_37 := by rw [e_v3_37]; exact q_38
        refine g_iincv hC 3 e_v3_37 [(3, J v3_37), (0, .ref (B + 95)), (1, J v1), (2, J v2_5)] dX12_laysBranches_94 rfl (by decide) rfl ?_
        refine g_goto hC 13 dX12_laysBranches_97 rfl ?_
        refine g_sub [(0, .ref (B + 95)), (1, J v1), (2, J v2_5), (3, J v3_37)] [1, 2, 3, 0] rfl ?_
        exact ih13 v3_37 M_8 hf h_v3_37 h_M_8
set_option maxHeartbeats 4000000 in
set_option maxRecDepth 100000 in
theorem c_X12_topOf (l : Launch) (B : Nat) (D : va_G) (K : Nat → ClassId) (v1 : Int) (v2 : Int) (i_v1 : inR v1) (i_v2 : inR v2) (M : Mem) (hM : MR M) (Q : Int → Prop) (hf : f_X12_topOf v1 v2 M Q) : CtI l yX12_topOf cX12_topOf 4 1 21 B D K [.ref (B + 95), J v1, J v2] M (fun r M1 => M = M1 ∧ Q r) := by
  refine ct_i (by decide) (Nat.le_of_ble_eq_true rfl) ?_
  intro p e s m args below meth c hC
  have hC : Cx p s m args meth c D K cX12_topOf 4 RX12 (some .int) := hC
  unfold f_X12_topOf at hf
  refine (show G p l e (rmF 1 21) s m args below meth c B D K 4 0 0 (ZI below args s B D K (fun r M1 => M = M1 ∧ Q r)) M 0 [(0, .ref (B + 95)), (1, J v1), (2, J v2)] [] from ?_)
  refine g_iload_n hC 1 dX12_topOf_0 rfl rfl ?_
  refine g_istore_n hC [(3, J v1), (0, .ref (B + 95)), (1, J v1), (2, J v2)] dX12_topOf_1 rfl (by decide) rfl ?_
  refine g_sub [(0, .ref (B + 95)), (2, J v2), (3, J v1)] [1, 3, 0] rfl ?_
  refine wl1_elim (fun (v3_1 : Int) => inR v3_1 → G p l e (rmF 1 21) s m args below meth c B D K 4 0 0 (ZI below args s B D K (fun r M1 => M = M1 ∧ Q r)) M 2 [(0, .ref (B + 95)), (2, J v2), (3, J v3_1)] []) ?_ 5000 v1 hf i_v1
  intro rec2 ih2 v3_1 hf h_v3_1
  unfold X12_topOf_b2 at hf
  refine g_aload_n hC 0 dX12_topOf_2 rfl rfl ?_
  refine g_getr hC okX12 sc95 28 (by decide) rfl wf_X12_66 dX12_topOf_3 ?_
  refine g_iload_n hC 1 dX12_topOf_6 rfl rfl ?_
  refine g_iload_n hC 2 dX12_topOf_7 rfl rfl ?_
  refine g_callSI hC (sk := [.ref (B + 113)]) [J v2, J v3_1] (c_X12_by l B D K v2 v3_1 i_v2 h_v3_1 M hM _ hf) yv_X12_by wm_X12_282 rfl ⟨Nat.le_of_ble_eq_true rfl, Nat.le_of_ble_eq_true rfl, Nat.le_of_ble_eq_true rfl, Nat.le_of_ble_eq_true rfl⟩ rfl (Nat.le_of_ble_eq_true rfl) dX12_topOf_8 ?_
  rintro r_2 M_3 h_r_2 - ⟨rfl, hf⟩
  obtain ⟨q_4, hf⟩ := hf
  refine g_ialdk (r_2.toNat) hC sc113 q_4.1 q_4.2 rfl dX12_topOf_11 ?_
  refine g_iconst hC dX12_topOf_12 ?_
  refine g_icmp_eq hC 30 (hM _ _) (by unfold inR; omega) dX12_topOf_13 rfl (fun c_9 => ?_) (fun c_9 => ?_)
  · replace hf := hf.1 c_9
    refine g_iload_n hC 2 dX12_topOf_30 rfl rfl ?_
    exact g_reti hC h_v3_1 hM ⟨rfl, hf⟩ dX12_topOf_31
  · replace hf := hf.2 c_9
    refine g_aload_n hC 0 dX12_topOf_16 rfl rfl ?_
    refine g_getr hC okX12 sc95 28 (by decide) rfl wf_X12_66 dX12_topOf_17 ?_
    refine g_iload_n hC 1 dX12_topOf_20 rfl rfl ?_
    refine g_iload_n hC 2 dX12_topOf_21 rfl rfl ?_
    refine g_callSI hC (sk := [.ref (B + 113)]) [J v2, J v3_1] (c_X12_by l B D K v2 v3_1 i_v2 h_v3_1 M hM _ hf) yv_X12_by wm_X12_282 rfl ⟨Nat.le_of_ble_eq_true rfl, Nat.le_of_ble_eq_true rfl, Nat.le_of_ble_eq_true rfl, Nat.le_of_ble_eq_true rfl⟩ rfl (Nat.le_of_ble_eq_true rfl) dX12_topOf_22 ?_
    rintro r_5 M_6 h_r_5 - ⟨rfl, hf⟩
    obtain ⟨q_7, hf⟩ := hf
    refine g_ialdk (r_5.toNat) hC sc113 q_7.1 q_7.2 rfl dX12_topOf_25 ?_
    refine g_nm (fun v3_8 e_v3_8 => ?_)
    replace hf := hf v3_8 e_v3_8
    have h_v3_8 : inR v3_8 := by rw [e_v3_8]; exact (hM _ _)
    refine g_istore_n hC [(3, J v3_8), (0, .ref (B + 95)), (2, J v2)] dX12_topOf_26 rfl (by decide) rfl ?_
    refine g_goto hC 2 dX12_topOf_27 rfl ?_
    refine g_sub [(0, .ref (B + 95)), (2, J v2), (3, J v3_8)] [1, 2, 0] rfl ?_
    exact ih2 v3_8 hf h_v3_8
set_option maxHeartbeats 4000000 in
set_option maxRecDepth 100000 in
theorem c_X12_laysCrowns (l : Launch) (B : Nat) (D : va_G) (K : Nat → ClassId) (v1 : Int) (i_v1 : inR v1) (M : Mem) (hM : MR M) (Q : Mem → Prop) (hf : f_X12_laysCrowns v1 M Q) : CtV l yX12_laysCrowns cX12_laysCrowns 5 2 44 B D K [.ref (B + 95), J v1] M Q := by
  refine ct_v (by decide) (Nat.le_of_ble_eq_true rfl) ?_
  intro p e s m args below meth c hC
  have hC : Cx p s m args meth c D K cX12_laysCrowns 5 RX12 none := hC
  unfold f_X12_laysCrowns at hf
  refine (show G p l e (rmF 2 44) s m args below meth c B D K 5 0 0 (ZV below args s B D K Q) M 0 [(0, .ref (B + 95)), (1, J v1)] [] from ?_)
  refine g_iconst hC dX12_laysCrowns_0 ?_
  refine g_istore_n hC [(2, J 0), (0, .ref (B + 95)), (1, J v1)] dX12_laysCrowns_1 rfl (by decide) rfl ?_
  refine g_sub [(0, .ref (B + 95)), (1, J v1), (2, J 0)] [1, 2, 0] rfl ?_
  refine wl2_elim (fun (v2_1 : Int) (M_2 : Mem) => inR v2_1 → MR M_2 → G p l e (rmF 2 44) s m args below meth c B D K 5 0 0 (ZV below args s B D K Q) M_2 2 [(0, .ref (B + 95)), (1, J v1), (2, J v2_1)] []) ?_ 5000 0 M hf (by unfold inR; omega) hM
  intro rec2 ih2 v2_1 M_2 hf h_v2_1 h_M_2
  unfold X12_laysCrowns_b2 at hf
  refine g_iload_n hC 2 dX12_laysCrowns_2 rfl rfl ?_
  refine g_aload_n hC 0 dX12_laysCrowns_3 rfl rfl ?_
  refine g_callVI hC (sk := [J v2_1]) [] (c_X12_reaches l B D K   M_2 h_M_2 _ hf) yv_X12_reaches wm_X12_249 okX12.1 sc95 rfl ⟨Nat.le_of_ble_eq_true rfl, Nat.le_of_ble_eq_true rfl, Nat.le_of_ble_eq_true rfl, Nat.le_of_ble_eq_true rfl⟩ rfl (Nat.le_of_ble_eq_true rfl) dX12_laysCrowns_4 ?_
  rintro r_3 M_4 h_r_3 - ⟨rfl, hf⟩
  refine g_icmp_ge hC 78 h_v2_1 h_r_3 dX12_laysCrowns_7 rfl (fun c_25 => ?_) (fun c_25 => ?_)
  · replace hf := hf.1 c_25
    exact g_retv hC h_M_2 hf dX12_laysCrowns_78
  · replace hf := hf.2 c_25
    refine g_iconst hC dX12_laysCrowns_10 ?_
    refine g_istore_n hC [(3, J 0), (0, .ref (B + 95)), (1, J v1), (2, J v2_1)] dX12_laysCrowns_11 rfl (by decide) rfl ?_
    refine g_aload_n hC 1 dX12_laysCrowns_12 rfl rfl ?_
    refine g_iload_n hC 3 dX12_laysCrowns_13 rfl rfl ?_
    refine g_iload_n hC 2 dX12_laysCrowns_14 rfl rfl ?_
    refine g_callVI hC (sk := []) [J v2_1, J v1] (c_X12_topOf l B D K v2_1 v1 h_v2_1 i_v1 M_2 h_M_2 _ hf) yv_X12_topOf wm_X12_299 okX12.1 sc95 rfl ⟨Nat.le_of_ble_eq_true rfl, Nat.le_of_ble_eq_true rfl, Nat.le_of_ble_eq_true rfl, Nat.le_of_ble_eq_true rfl⟩ rfl (Nat.le_of_ble_eq_true rfl) dX12_laysCrowns_15 ?_
    rintro r_5 M_6 h_r_5 - ⟨rfl, hf⟩
    refine g_istore hC [(4, J r_5), (3, J 0), (0, .ref (B + 95)), (1, J v1), (2, J v2_1)] dX12_laysCrowns_18 (by decide) rfl ?_
    refine jn_elim (fun (k : Int → Prop) => ∀ (v3_7 : Int), k v3_7 → (inR v3_7) → G p l e (rmF 2 44) s m args below meth c B D K 5 0 0 (ZV below args s B D K Q) M_2 61 [(0, .ref (B + 95)), (1, J v1), (2, J v2_1), (3, J v3_7)] []) hf ?_ ?_
    · intro v3_7 hf h_v3_7
      refine g_aload_n hC 0 dX12_laysCrowns_61 rfl rfl ?_
      refine g_getr hC okX12 sc95 30 (by decide) rfl wf_X12_72 dX12_laysCrowns_62 ?_
      refine g_iload_n hC 1 dX12_laysCrowns_65 rfl rfl ?_
      refine g_iload_n hC 2 dX12_laysCrowns_66 rfl rfl ?_
      refine g_callSI hC (sk := [.ref (B + 115)]) [J v1, J v2_1] (c_X12_by l B D K v1 v2_1 i_v1 h_v2_1 M_2 h_M_2 _ hf) yv_X12_by wm_X12_282 rfl ⟨Nat.le_of_ble_eq_true rfl, Nat.le_of_ble_eq_true rfl, Nat.le_of_ble_eq_true rfl, Nat.le_of_ble_eq_true rfl⟩ rfl (Nat.le_of_ble_eq_true rfl) dX12_laysCrowns_67 ?_
      rintro r_8 M_9 h_r_8 - ⟨rfl, hf⟩
      refine g_iload_n hC 3 dX12_laysCrowns_70 rfl rfl ?_
      obtain ⟨q_10, hf⟩ := hf
      refine g_iastk (r_8.toNat) hC sc115 q_10.1 q_10.2 rfl dX12_laysCrowns_71 ?_
      refine g_nmM (fun M_11 e_M_11 => ?_)
      replace hf := hf M_11 e_M_11
      have h_M_11 : MR M_11 := by rw [e_M_11]; exact MR_st h_M_2 h_v3_7
      obtain ⟨q_13, hf⟩ := hf
      obtain ⟨v2_12, e_v2_12⟩ : ∃ z : Int, z = v2_1 + 1 := ⟨_, rfl⟩
      replace hf := hf v2_12 e_v2_12
      have h_v2_12 : inR v2_12 := by rw [e_v2_12]; exact q_13
      refine g_iincv hC 2 e_v2_12 [(2, J v2_12), (0, .ref (B + 95)), (1, J v1), (3, J v3_7)] dX12_laysCrowns_72 rfl (by decide) rfl ?_
      refine g_goto hC 2 dX12_laysCrowns_75 rfl ?_
      refine g_sub [(0, .ref (B + 95)), (1, J v1), (2, J v2_12)] [1, 2, 0] rfl ?_
      exact ih2 v2_12 M_11 hf h_v2_12 h_M_11
    · intro J61 hJ61 hf
      refine g_sub [(0, .ref (B + 95)), (1, J v1), (2, J v2_1), (3, J 0), (4, J r_5)] [2, 3, 4, 1, 0] rfl ?_
      refine wl2_elim (fun (v3_14 : Int) (v4_15 : Int) => inR v3_14 → inR v4_15 → G p l e (rmF 2 44) s m args below meth c B D K 5 0 0 (ZV below args s B D K Q) M_2 20 [(0, .ref (B + 95)), (1, J v1), (2, J v2_1), (3, J v3_14), (4, J v4_15)] []) ?_ 5000 0 r_5 hf (by unfold inR; omega) h_r_5
      intro rec20 ih20 v3_14 v4_15 hf h_v3_14 h_v4_15
      unfold X12_laysCrowns_b20 at hf
      refine g_iload hC 4 dX12_laysCrowns_20 rfl ?_
      refine g_iconst hC dX12_laysCrowns_22 ?_
      refine g_icmp_eq hC 61 h_v4_15 (by unfold inR; omega) dX12_laysCrowns_23 rfl (fun c_24 => ?_) (fun c_24 => ?_)
      · replace hf := hf.1 c_24
        refine g_sub [(0, .ref (B + 95)), (1, J v1), (2, J v2_1), (3, J v3_14)] [0, 1, 2, 3] rfl ?_
        exact hJ61 v3_14 hf h_v3_14
      · replace hf := hf.2 c_24
        refine g_aload_n hC 0 dX12_laysCrowns_26 rfl rfl ?_
        refine g_getr hC okX12 sc95 26 (by decide) rfl wf_X12_60 dX12_laysCrowns_27 ?_
        refine g_iload hC 4 dX12_laysCrowns_30 rfl ?_
        obtain ⟨q_16, hf⟩ := hf
        refine g_ialdk (v4_15.toNat) hC sc111 q_16.1 q_16.2 rfl dX12_laysCrowns_32 ?_
        refine g_iload_n hC 3 dX12_laysCrowns_33 rfl rfl ?_
        refine jn_elim (fun (k : Int → Prop) => ∀ (v3_17 : Int), k v3_17 → (inR v3_17) → G p l e (rmF 2 44) s m args below meth c B D K 5 0 0 (ZV below args s B D K Q) M_2 45 [(0, .ref (B + 95)), (1, J v1), (2, J v2_1), (3, J v3_17), (4, J v4_15)] []) hf ?_ ?_
        · intro v3_17 hf h_v3_17
          refine g_aload_n hC 0 dX12_laysCrowns_45 rfl rfl ?_
          refine g_getr hC okX12 sc95 27 (by decide) rfl wf_X12_63 dX12_laysCrowns_46 ?_
          refine g_iload_n hC 1 dX12_laysCrowns_49 rfl rfl ?_
          refine g_iload hC 4 dX12_laysCrowns_50 rfl ?_
          refine g_callSI hC (sk := [.ref (B + 112)]) [J v1, J v4_15] (c_X12_by l B D K v1 v4_15 i_v1 h_v4_15 M_2 h_M_2 _ hf) yv_X12_by wm_X12_282 rfl ⟨Nat.le_of_ble_eq_true rfl, Nat.le_of_ble_eq_true rfl, Nat.le_of_ble_eq_true rfl, Nat.le_of_ble_eq_true rfl⟩ rfl (Nat.le_of_ble_eq_true rfl) dX12_laysCrowns_52 ?_
          rintro r_18 M_19 h_r_18 - ⟨rfl, hf⟩
          obtain ⟨q_20, hf⟩ := hf
          refine g_ialdk (r_18.toNat) hC sc112 q_20.1 q_20.2 rfl dX12_laysCrowns_55 ?_
          refine g_nm (fun v4_21 e_v4_21 => ?_)
          replace hf := hf v4_21 e_v4_21
          have h_v4_21 : inR v4_21 := by rw [e_v4_21]; exact (h_M_2 _ _)
          refine g_istore hC [(4, J v4_21), (0, .ref (B + 95)), (1, J v1), (2, J v2_1), (3, J v3_17)] dX12_laysCrowns_56 (by decide) rfl ?_
          refine g_goto hC 20 dX12_laysCrowns_58 rfl ?_
          refine g_sub [(0, .ref (B + 95)), (1, J v1), (2, J v2_1), (3, J v3_17), (4, J v4_21)] [1, 2, 3, 4, 0] rfl ?_
          exact ih20 v3_17 v4_21 hf h_v3_17 h_v4_21
        · intro J45 hJ45 hf
          refine g_icmp_le hC 45 (h_M_2 _ _) h_v3_14 dX12_laysCrowns_34 rfl (fun c_23 => ?_) (fun c_23 => ?_)
          · replace hf := hf.1 c_23
            refine g_sub [(0, .ref (B + 95)), (1, J v1), (2, J v2_1), (3, J v3_14), (4, J v4_15)] [0, 1, 2, 3, 4] rfl ?_
            exact hJ45 v3_14 hf h_v3_14
          · replace hf := hf.2 c_23
            refine g_aload_n hC 0 dX12_laysCrowns_37 rfl rfl ?_
            refine g_getr hC okX12 sc95 26 (by decide) rfl wf_X12_60 dX12_laysCrowns_38 ?_
            refine g_iload hC 4 dX12_laysCrowns_41 rfl ?_
            refine g_ialdk (v4_15.toNat) hC sc111 q_16.1 q_16.2 rfl dX12_laysCrowns_43 ?_
            refine g_nm (fun v3_22 e_v3_22 => ?_)
            replace hf := hf v3_22 e_v3_22
            have h_v3_22 : inR v3_22 := by rw [e_v3_22]; exact (h_M_2 _ _)
            refine g_istore_n hC [(3, J v3_22), (0, .ref (B + 95)), (1, J v1), (2, J v2_1), (4, J v4_15)] dX12_laysCrowns_44 rfl (by decide) rfl ?_
            refine g_sub [(0, .ref (B + 95)), (1, J v1), (2, J v2_1), (3, J v3_22), (4, J v4_15)] [1, 2, 3, 0, 4] rfl ?_
            exact hJ45 v3_22 hf h_v3_22
set_option maxHeartbeats 4000000 in
set_option maxRecDepth 100000 in
theorem c_X12_laysStems (l : Launch) (B : Nat) (D : va_G) (K : Nat → ClassId) (v1 : Int) (i_v1 : inR v1) (M : Mem) (hM : MR M) (Q : Mem → Prop) (hf : f_X12_laysStems v1 M Q) : CtV l yX12_laysStems cX12_laysStems 5 5 114 B D K [.ref (B + 95), J v1] M Q := by
  refine ct_v (by decide) (Nat.le_of_ble_eq_true rfl) ?_
  intro p e s m args below meth c hC
  have hC : Cx p s m args meth c D K cX12_laysStems 5 RX12 none := hC
  unfold f_X12_laysStems at hf
  refine (show G p l e (rmF 5 114) s m args below meth c B D K 5 0 0 (ZV below args s B D K Q) M 0 [(0, .ref (B + 95)), (1, J v1)] [] from ?_)
  refine g_iconst hC dX12_laysStems_0 ?_
  refine g_istore_n hC [(2, J 0), (0, .ref (B + 95)), (1, J v1)] dX12_laysStems_1 rfl (by decide) rfl ?_
  refine jn_elim (fun (k : Mem → Prop) => ∀ (M_1 : Mem), k M_1 → (MR M_1) → G p l e (rmF 5 114) s m args below meth c B D K 5 0 0 (ZV below args s B D K Q) M_1 38 [(0, .ref (B + 95)), (1, J v1)] []) hf ?_ ?_
  · intro M_1 hf h_M_1
    refine g_iconst hC dX12_laysStems_38 ?_
    refine g_istore_n hC [(2, J 0), (0, .ref (B + 95)), (1, J v1)] dX12_laysStems_39 rfl (by decide) rfl ?_
    refine jn_elim (fun (k : Mem → Prop) => ∀ (M_2 : Mem), k M_2 → (MR M_2) → G p l e (rmF 5 114) s m args below meth c B D K 5 0 0 (ZV below args s B D K Q) M_2 107 [(0, .ref (B + 95)), (1, J v1)] []) hf ?_ ?_
    · intro M_2 hf h_M_2
      refine g_aload_n hC 0 dX12_laysStems_107 rfl rfl ?_
      refine g_iload_n hC 1 dX12_laysStems_108 rfl rfl ?_
      refine g_callVV hC (sk := []) [J v1] (c_X12_laysBranches l B D K v1 i_v1 M_2 h_M_2 _ hf) yv_X12_laysBranches wm_X12_290 okX12.1 sc95 rfl ⟨Nat.le_of_ble_eq_true rfl, Nat.le_of_ble_eq_true rfl, Nat.le_of_ble_eq_true rfl, Nat.le_of_ble_eq_true rfl⟩ rfl (Nat.le_of_ble_eq_true rfl) dX12_laysStems_109 ?_
      intro M_3 h_M_3 hf
      refine g_aload_n hC 0 dX12_laysStems_112 rfl rfl ?_
      refine g_iload_n hC 1 dX12_laysStems_113 rfl rfl ?_
      refine g_callVV hC (sk := []) [J v1] (c_X12_laysCrowns l B D K v1 i_v1 M_3 h_M_3 _ hf) yv_X12_laysCrowns wm_X12_293 okX12.1 sc95 rfl ⟨Nat.le_of_ble_eq_true rfl, Nat.le_of_ble_eq_true rfl, Nat.le_of_ble_eq_true rfl, Nat.le_of_ble_eq_true rfl⟩ rfl (Nat.le_of_ble_eq_true rfl) dX12_laysStems_114 ?_
      intro M_4 h_M_4 hf
      exact g_retv hC h_M_4 hf dX12_laysStems_117
    · intro J107 hJ107 hf
      refine g_sub [(0, .ref (B + 95)), (1, J v1), (2, J 0)] [1, 2, 0] rfl ?_
      refine wl2_elim (fun (v2_5 : Int) (M_6 : Mem) => inR v2_5 → MR M_6 → G p l e (rmF 5 114) s m args below meth c B D K 5 0 0 (ZV below args s B D K Q) M_6 40 [(0, .ref (B + 95)), (1, J v1), (2, J v2_5)] []) ?_ 5000 0 M_1 hf (by unfold inR; omega) h_M_1
      intro rec40 ih40 v2_5 M_6 hf h_v2_5 h_M_6
      unfold X12_laysStems_b40 at hf
      refine g_iload_n hC 2 dX12_laysStems_40 rfl rfl ?_
      refine g_aload_n hC 0 dX12_laysStems_41 rfl rfl ?_
      refine g_callVI hC (sk := [J v2_5]) [] (c_X12_places l B D K   M_6 h_M_6 _ hf) yv_X12_places wm_X12_246 okX12.1 sc95 rfl ⟨Nat.le_of_ble_eq_true rfl, Nat.le_of_ble_eq_true rfl, Nat.le_of_ble_eq_true rfl, Nat.le_of_ble_eq_true rfl⟩ rfl (Nat.le_of_ble_eq_true rfl) dX12_laysStems_42 ?_
      rintro r_7 M_8 h_r_7 - ⟨rfl, hf⟩
      refine g_icmp_ge hC 107 h_v2_5 h_r_7 dX12_laysStems_45 rfl (fun c_29 => ?_) (fun c_29 => ?_)
      · replace hf := hf.1 c_29
        refine g_sub [(0, .ref (B + 95)), (1, J v1)] [0, 1] rfl ?_
        exact hJ107 M_6 hf h_M_6
      · replace hf := hf.2 c_29
        refine g_aload_n hC 0 dX12_laysStems_48 rfl rfl ?_
        refine g_iload_n hC 2 dX12_laysStems_49 rfl rfl ?_
        refine g_iload_n hC 1 dX12_laysStems_50 rfl rfl ?_
        refine g_callVI hC (sk := []) [J v2_5, J v1] (c_X12_mainIn l B D K v2_5 v1 h_v2_5 i_v1 M_6 h_M_6 _ hf) yv_X12_mainIn wm_X12_284 okX12.1 sc95 rfl ⟨Nat.le_of_ble_eq_true rfl, Nat.le_of_ble_eq_true rfl, Nat.le_of_ble_eq_true rfl, Nat.le_of_ble_eq_true rfl⟩ rfl (Nat.le_of_ble_eq_true rfl) dX12_laysStems_51 ?_
        rintro r_9 M_10 h_r_9 - ⟨rfl, hf⟩
        refine g_istore_n hC [(3, J r_9), (0, .ref (B + 95)), (1, J v1), (2, J v2_5)] dX12_laysStems_54 rfl (by decide) rfl ?_
        refine g_aload_n hC 1 dX12_laysStems_55 rfl rfl ?_
        refine g_iload_n hC 3 dX12_laysStems_56 rfl rfl ?_
        refine g_iload_n hC 2 dX12_laysStems_57 rfl rfl ?_
        refine g_callVI hC (sk := []) [J v2_5, J v1] (c_X12_mainOut l B D K v2_5 v1 h_v2_5 i_v1 M_6 h_M_6 _ hf) yv_X12_mainOut wm_X12_287 okX12.1 sc95 rfl ⟨Nat.le_of_ble_eq_true rfl, Nat.le_of_ble_eq_true rfl, Nat.le_of_ble_eq_true rfl, Nat.le_of_ble_eq_true rfl⟩ rfl (Nat.le_of_ble_eq_true rfl) dX12_laysStems_58 ?_
        rintro r_11 M_12 h_r_11 - ⟨rfl, hf⟩
        refine g_istore hC [(4, J r_11), (3, J r_9), (0, .ref (B + 95)), (1, J v1), (2, J v2_5)] dX12_laysStems_61 (by decide) rfl ?_
        refine g_iload_n hC 1 dX12_laysStems_63 rfl rfl ?_
        refine g_iconst hC dX12_laysStems_64 ?_
        refine g_icmp_eq hC 101 h_r_9 (by unfold inR; omega) dX12_laysStems_65 rfl (fun c_28 => ?_) (fun c_28 => ?_)
        · replace hf := hf.1 c_28
          obtain ⟨q_14, hf⟩ := hf
          obtain ⟨v2_13, e_v2_13⟩ : ∃ z : Int, z = v2_5 + 1 := ⟨_, rfl⟩
          replace hf := hf v2_13 e_v2_13
          have h_v2_13 : inR v2_13 := by rw [e_v2_13]; exact q_14
          refine g_iincv hC 4 e_v2_13 [(2, J v2_13), (4, J r_11), (3, J r_9), (0, .ref (B + 95)), (1, J v1)] dX12_laysStems_101 rfl (by decide) rfl ?_
          refine g_goto hC 40 dX12_laysStems_104 rfl ?_
          refine g_sub [(0, .ref (B + 95)), (1, J v1), (2, J v2_13)] [3, 4, 0] rfl ?_
          exact ih40 v2_13 M_6 hf h_v2_13 h_M_6
        · replace hf := hf.2 c_28
          refine g_iload hC 0 dX12_laysStems_68 rfl ?_
          refine g_iconst hC dX12_laysStems_70 ?_
          refine g_icmp_ne hC 77 h_r_11 (by unfold inR; omega) dX12_laysStems_71 rfl (fun c_27 => ?_) (fun c_27 => ?_)
          · replace hf := hf.1 c_27
            refine g_aload_n hC 2 dX12_laysStems_77 rfl rfl ?_
            refine g_getr hC okX12 sc95 27 (by decide) rfl wf_X12_63 dX12_laysStems_78 ?_
            refine g_iload_n hC 3 dX12_laysStems_81 rfl rfl ?_
            refine g_iload_n hC 1 dX12_laysStems_82 rfl rfl ?_
            refine g_callSI hC (sk := [.ref (B + 112)]) [J v1, J r_9] (c_X12_by l B D K v1 r_9 i_v1 h_r_9 M_6 h_M_6 _ hf) yv_X12_by wm_X12_282 rfl ⟨Nat.le_of_ble_eq_true rfl, Nat.le_of_ble_eq_true rfl, Nat.le_of_ble_eq_true rfl, Nat.le_of_ble_eq_true rfl⟩ rfl (Nat.le_of_ble_eq_true rfl) dX12_laysStems_83 ?_
            rintro r_15 M_16 h_r_15 - ⟨rfl, hf⟩
            refine g_iload hC 0 dX12_laysStems_86 rfl ?_
            obtain ⟨q_17, hf⟩ := hf
            refine g_iastk (r_15.toNat) hC sc112 q_17.1 q_17.2 rfl dX12_laysStems_88 ?_
            refine g_nmM (fun M_18 e_M_18 => ?_)
            replace hf := hf M_18 e_M_18
            have h_M_18 : MR M_18 := by rw [e_M_18]; exact MR_st h_M_6 h_r_11
            refine g_aload_n hC 2 dX12_laysStems_89 rfl rfl ?_
            refine g_getr hC okX12 sc95 28 (by decide) rfl wf_X12_66 dX12_laysStems_90 ?_
            refine g_iload_n hC 3 dX12_laysStems_93 rfl rfl ?_
            refine g_iload hC 0 dX12_laysStems_94 rfl ?_
            refine g_callSI hC (sk := [.ref (B + 113)]) [J v1, J r_11] (c_X12_by l B D K v1 r_11 i_v1 h_r_11 M_18 h_M_18 _ hf) yv_X12_by wm_X12_282 rfl ⟨Nat.le_of_ble_eq_true rfl, Nat.le_of_ble_eq_true rfl, Nat.le_of_ble_eq_true rfl, Nat.le_of_ble_eq_true rfl⟩ rfl (Nat.le_of_ble_eq_true rfl) dX12_laysStems_96 ?_
            rintro r_19 M_20 h_r_19 - ⟨rfl, hf⟩
            refine g_iload_n hC 1 dX12_laysStems_99 rfl rfl ?_
            obtain ⟨q_21, hf⟩ := hf
            refine g_iastk (r_19.toNat) hC sc113 q_21.1 q_21.2 rfl dX12_laysStems_100 ?_
            refine g_nmM (fun M_22 e_M_22 => ?_)
            replace hf := hf M_22 e_M_22
            have h_M_22 : MR M_22 := by rw [e_M_22]; exact MR_st h_M_18 h_r_9
            obtain ⟨q_24, hf⟩ := hf
            obtain ⟨v2_23, e_v2_23⟩ : ∃ z : Int, z = v2_5 + 1 := ⟨_, rfl⟩
            replace hf := hf v2_23 e_v2_23
            have h_v2_23 : inR v2_23 := by rw [e_v2_23]; exact q_24
            refine g_iincv hC 4 e_v2_23 [(2, J v2_23), (4, J r_11), (3, J r_9), (0, .ref (B + 95)), (1, J v1)] dX12_laysStems_101 rfl (by decide) rfl ?_
            refine g_goto hC 40 dX12_laysStems_104 rfl ?_
            refine g_sub [(0, .ref (B + 95)), (1, J v1), (2, J v2_23)] [3, 4, 0] rfl ?_
            exact ih40 v2_23 M_22 hf h_v2_23 h_M_22
          · replace hf := hf.2 c_27
            refine g_goto hC 101 dX12_laysStems_74 rfl ?_
            obtain ⟨q_26, hf⟩ := hf
            obtain ⟨v2_25, e_v2_25⟩ : ∃ z : Int, z = v2_5 + 1 := ⟨_, rfl⟩
            replace hf := hf v2_25 e_v2_25
            have h_v2_25 : inR v2_25 := by rw [e_v2_25]; exact q_26
            refine g_iincv hC 4 e_v2_25 [(2, J v2_25), (4, J r_11), (3, J r_9), (0, .ref (B + 95)), (1, J v1)] dX12_laysStems_101 rfl (by decide) rfl ?_
            refine g_goto hC 40 dX12_laysStems_104 rfl ?_
            refine g_sub [(0, .ref (B + 95)), (1, J v1), (2, J v2_25)] [3, 4, 0] rfl ?_
            exact ih40 v2_25 M_6 hf h_v2_25 h_M_6
  · intro J38 hJ38 hf
    refine g_sub [(0, .ref (B + 95)), (1, J v1), (2, J 0)] [1, 2, 0] rfl ?_
    refine wl2_elim (fun (v2_30 : Int) (M_31 : Mem) => inR v2_30 → MR M_31 → G p l e (rmF 5 114) s m args below meth c B D K 5 0 0 (ZV below args s B D K Q) M_31 2 [(0, .ref (B + 95)), (1, J v1), (2, J v2_30)] []) ?_ 5000 0 M hf (by unfold inR; omega) hM
    intro rec2 ih2 v2_30 M_31 hf h_v2_30 h_M_31
    unfold X12_laysStems_b2 at hf
    refine g_iload_n hC 2 dX12_laysStems_2 rfl rfl ?_
    refine g_aload_n hC 0 dX12_laysStems_3 rfl rfl ?_
    refine g_callVI hC (sk := [J v2_30]) [] (c_X12_reaches l B D K   M_31 h_M_31 _ hf) yv_X12_reaches wm_X12_249 okX12.1 sc95 rfl ⟨Nat.le_of_ble_eq_true rfl, Nat.le_of_ble_eq_true rfl, Nat.le_of_ble_eq_true rfl, Nat.le_of_ble_eq_true rfl⟩ rfl (Nat.le_of_ble_eq_true rfl) dX12_laysStems_4 ?_
    rintro r_32 M_33 h_r_32 - ⟨rfl, hf⟩
    refine g_icmp_ge hC 38 h_v2_30 h_r_32 dX12_laysStems_7 rfl (fun c_44 => ?_) (fun c_44 => ?_)
    · replace hf := hf.1 c_44
      refine g_sub [(0, .ref (B + 95)), (1, J v1)] [0, 1] rfl ?_
      exact hJ38 M_31 hf h_M_31
    · replace hf := hf.2 c_44
      refine g_aload_n hC 0 dX12_laysStems_10 rfl rfl ?_
      refine g_getr hC okX12 sc95 27 (by decide) rfl wf_X12_63 dX12_laysStems_11 ?_
      refine g_iload_n hC 1 dX12_laysStems_14 rfl rfl ?_
      refine g_iload_n hC 2 dX12_laysStems_15 rfl rfl ?_
      refine g_callSI hC (sk := [.ref (B + 112)]) [J v1, J v2_30] (c_X12_by l B D K v1 v2_30 i_v1 h_v2_30 M_31 h_M_31 _ hf) yv_X12_by wm_X12_282 rfl ⟨Nat.le_of_ble_eq_true rfl, Nat.le_of_ble_eq_true rfl, Nat.le_of_ble_eq_true rfl, Nat.le_of_ble_eq_true rfl⟩ rfl (Nat.le_of_ble_eq_true rfl) dX12_laysStems_16 ?_
      rintro r_34 M_35 h_r_34 - ⟨rfl, hf⟩
      refine g_iconst hC dX12_laysStems_19 ?_
      obtain ⟨q_36, hf⟩ := hf
      refine g_iastk (r_34.toNat) hC sc112 q_36.1 q_36.2 rfl dX12_laysStems_20 ?_
      refine g_nmM (fun M_37 e_M_37 => ?_)
      replace hf := hf M_37 e_M_37
      have h_M_37 : MR M_37 := by rw [e_M_37]; exact MR_st h_M_31 (by unfold inR; omega)
      refine g_aload_n hC 0 dX12_laysStems_21 rfl rfl ?_
      refine g_getr hC okX12 sc95 28 (by decide) rfl wf_X12_66 dX12_laysStems_22 ?_
      refine g_iload_n hC 1 dX12_laysStems_25 rfl rfl ?_
      refine g_iload_n hC 2 dX12_laysStems_26 rfl rfl ?_
      refine g_callSI hC (sk := [.ref (B + 113)]) [J v1, J v2_30] (c_X12_by l B D K v1 v2_30 i_v1 h_v2_30 M_37 h_M_37 _ hf) yv_X12_by wm_X12_282 rfl ⟨Nat.le_of_ble_eq_true rfl, Nat.le_of_ble_eq_true rfl, Nat.le_of_ble_eq_true rfl, Nat.le_of_ble_eq_true rfl⟩ rfl (Nat.le_of_ble_eq_true rfl) dX12_laysStems_27 ?_
      rintro r_38 M_39 h_r_38 - ⟨rfl, hf⟩
      refine g_iconst hC dX12_laysStems_30 ?_
      obtain ⟨q_40, hf⟩ := hf
      refine g_iastk (r_38.toNat) hC sc113 q_40.1 q_40.2 rfl dX12_laysStems_31 ?_
      refine g_nmM (fun M_41 e_M_41 => ?_)
      replace hf := hf M_41 e_M_41
      have h_M_41 : MR M_41 := by rw [e_M_41]; exact MR_st h_M_37 (by unfold inR; omega)
      obtain ⟨q_43, hf⟩ := hf
      obtain ⟨v2_42, e_v2_42⟩ : ∃ z : Int, z = v2_30 + 1 := ⟨_, rfl⟩
      replace hf := hf v2_42 e_v2_42
      have h_v2_42 : inR v2_42 := by rw [e_v2_42]; exact q_43
      refine g_iincv hC 2 e_v2_42 [(2, J v2_42), (0, .ref (B + 95)), (1, J v1)] dX12_laysStems_32 rfl (by decide) rfl ?_
      refine g_goto hC 2 dX12_laysStems_35 rfl ?_
      refine g_sub [(0, .ref (B + 95)), (1, J v1), (2, J v2_42)] [1, 2, 0] rfl ?_
      exact ih2 v2_42 M_41 hf h_v2_42 h_M_41
set_option maxHeartbeats 4000000 in
set_option maxRecDepth 100000 in
theorem c_X12_lays (l : Launch) (B : Nat) (D : va_G) (K : Nat → ClassId)   (M : Mem) (hM : MR M) (Q : Mem → Prop) (hf : f_X12_lays  M Q) : CtV l yX12_lays cX12_lays 2 6 138 B D K [.ref (B + 95)] M Q := by
  refine ct_v (by decide) (Nat.le_of_ble_eq_true rfl) ?_
  intro p e s m args below meth c hC
  have hC : Cx p s m args meth c D K cX12_lays 2 RX12 none := hC
  unfold f_X12_lays at hf
  refine (show G p l e (rmF 6 138) s m args below meth c B D K 2 0 0 (ZV below args s B D K Q) M 0 [(0, .ref (B + 95))] [] from ?_)
  refine g_aload_n hC 0 dX12_lays_0 rfl rfl ?_
  refine g_geti hC okX12 sc95 15 (by decide) rfl wf_X12_233 dX12_lays_1 ?_
  refine g_if_eq hC 8 (hM _ _) dX12_lays_4 rfl (fun c_12 => ?_) (fun c_12 => ?_)
  · replace hf := hf.1 c_12
    refine g_aload_n hC 0 dX12_lays_8 rfl rfl ?_
    refine g_iconst hC dX12_lays_9 ?_
    refine g_putz hC okX12 tnX12 sc95 15 (by decide) rfl rfl (by decide) wf_X12_233 (Or.inr rfl) dX12_lays_10 ?_
    refine g_nmM (fun M_1 e_M_1 => ?_)
    replace hf := hf M_1 e_M_1
    have h_M_1 : MR M_1 := by rw [e_M_1]; exact MR_st hM (by unfold inR; omega)
    refine g_aload_n hC 0 dX12_lays_13 rfl rfl ?_
    refine g_callVV hC (sk := []) [] (c_X12_laysOrder l B D K   M_1 h_M_1 _ hf) yv_X12_laysOrder wm_X12_302 okX12.1 sc95 rfl ⟨Nat.le_of_ble_eq_true rfl, Nat.le_of_ble_eq_true rfl, Nat.le_of_ble_eq_true rfl, Nat.le_of_ble_eq_true rfl⟩ rfl (Nat.le_of_ble_eq_true rfl) dX12_lays_14 ?_
    intro M_2 h_M_2 hf
    refine g_aload_n hC 0 dX12_lays_17 rfl rfl ?_
    refine g_callVV hC (sk := []) [] (c_X12_laysBeyond l B D K   M_2 h_M_2 _ hf) yv_X12_laysBeyond wm_X12_305 okX12.1 sc95 rfl ⟨Nat.le_of_ble_eq_true rfl, Nat.le_of_ble_eq_true rfl, Nat.le_of_ble_eq_true rfl, Nat.le_of_ble_eq_true rfl⟩ rfl (Nat.le_of_ble_eq_true rfl) dX12_lays_18 ?_
    intro M_3 h_M_3 hf
    refine g_aload_n hC 0 dX12_lays_21 rfl rfl ?_
    refine g_callVV hC (sk := []) [] (c_X12_laysFlow l B D K   M_3 h_M_3 _ hf) yv_X12_laysFlow wm_X12_308 okX12.1 sc95 rfl ⟨Nat.le_of_ble_eq_true rfl, Nat.le_of_ble_eq_true rfl, Nat.le_of_ble_eq_true rfl, Nat.le_of_ble_eq_true rfl⟩ rfl (Nat.le_of_ble_eq_true rfl) dX12_lays_22 ?_
    intro M_4 h_M_4 hf
    refine g_aload_n hC 0 dX12_lays_25 rfl rfl ?_
    refine g_callVV hC (sk := []) [] (c_X12_laysMet l B D K   M_4 h_M_4 _ hf) yv_X12_laysMet wm_X12_311 okX12.1 sc95 rfl ⟨Nat.le_of_ble_eq_true rfl, Nat.le_of_ble_eq_true rfl, Nat.le_of_ble_eq_true rfl, Nat.le_of_ble_eq_true rfl⟩ rfl (Nat.le_of_ble_eq_true rfl) dX12_lays_26 ?_
    intro M_5 h_M_5 hf
    refine g_iconst hC dX12_lays_29 ?_
    refine g_istore_n hC [(1, J 0), (0, .ref (B + 95))] dX12_lays_30 rfl (by decide) rfl ?_
    refine g_sub [(0, .ref (B + 95)), (1, J 0)] [1, 0] rfl ?_
    refine wl2_elim (fun (v1_6 : Int) (M_7 : Mem) => inR v1_6 → MR M_7 → G p l e (rmF 6 138) s m args below meth c B D K 2 0 0 (ZV below args s B D K Q) M_7 31 [(0, .ref (B + 95)), (1, J v1_6)] []) ?_ 5000 0 M_5 hf (by unfold inR; omega) h_M_5
    intro rec31 ih31 v1_6 M_7 hf h_v1_6 h_M_7
    unfold X12_lays_b31 at hf
    refine g_iload_n hC 1 dX12_lays_31 rfl rfl ?_
    refine g_iconst hC dX12_lays_32 ?_
    refine g_icmp_ge hC 47 h_v1_6 (by unfold inR; omega) dX12_lays_33 rfl (fun c_11 => ?_) (fun c_11 => ?_)
    · replace hf := hf.1 c_11
      exact g_retv hC h_M_7 hf dX12_lays_47
    · replace hf := hf.2 c_11
      refine g_aload_n hC 0 dX12_lays_36 rfl rfl ?_
      refine g_iload_n hC 1 dX12_lays_37 rfl rfl ?_
      refine g_callVV hC (sk := []) [J v1_6] (c_X12_laysStems l B D K v1_6 h_v1_6 M_7 h_M_7 _ hf) yv_X12_laysStems wm_X12_314 okX12.1 sc95 rfl ⟨Nat.le_of_ble_eq_true rfl, Nat.le_of_ble_eq_true rfl, Nat.le_of_ble_eq_true rfl, Nat.le_of_ble_eq_true rfl⟩ rfl (Nat.le_of_ble_eq_true rfl) dX12_lays_38 ?_
      intro M_8 h_M_8 hf
      obtain ⟨q_10, hf⟩ := hf
      obtain ⟨v1_9, e_v1_9⟩ : ∃ z : Int, z = v1_6 + 1 := ⟨_, rfl⟩
      replace hf := hf v1_9 e_v1_9
      have h_v1_9 : inR v1_9 := by rw [e_v1_9]; exact q_10
      refine g_iincv hC 1 e_v1_9 [(1, J v1_9), (0, .ref (B + 95))] dX12_lays_41 rfl (by decide) rfl ?_
      refine g_goto hC 31 dX12_lays_44 rfl ?_
      refine g_sub [(0, .ref (B + 95)), (1, J v1_9)] [1, 0] rfl ?_
      exact ih31 v1_9 M_8 hf h_v1_9 h_M_8
  · replace hf := hf.2 c_12
    exact g_retv hC hM hf dX12_lays_7
set_option maxHeartbeats 4000000 in
set_option maxRecDepth 100000 in
theorem c_X12_mouthFlow (l : Launch) (B : Nat) (D : va_G) (K : Nat → ClassId)   (M : Mem) (hM : MR M) (Q : Int → Prop) (hf : f_X12_mouthFlow  M Q) : CtI l yX12_mouthFlow cX12_mouthFlow 3 1 21 B D K [.ref (B + 95)] M (fun r M1 => M = M1 ∧ Q r) := by
  refine ct_i (by decide) (Nat.le_of_ble_eq_true rfl) ?_
  intro p e s m args below meth c hC
  have hC : Cx p s m args meth c D K cX12_mouthFlow 3 RX12 (some .int) := hC
  unfold f_X12_mouthFlow at hf
  refine (show G p l e (rmF 1 21) s m args below meth c B D K 3 0 0 (ZI below args s B D K (fun r M1 => M = M1 ∧ Q r)) M 0 [(0, .ref (B + 95))] [] from ?_)
  refine g_iconst hC dX12_mouthFlow_0 ?_
  refine g_istore_n hC [(1, J 0), (0, .ref (B + 95))] dX12_mouthFlow_1 rfl (by decide) rfl ?_
  refine g_iconst hC dX12_mouthFlow_2 ?_
  refine g_istore_n hC [(2, J 0), (1, J 0), (0, .ref (B + 95))] dX12_mouthFlow_3 rfl (by decide) rfl ?_
  refine g_sub [(0, .ref (B + 95)), (1, J 0), (2, J 0)] [2, 1, 0] rfl ?_
  refine wl2_elim (fun (v1_1 : Int) (v2_2 : Int) => inR v1_1 → inR v2_2 → G p l e (rmF 1 21) s m args below meth c B D K 3 0 0 (ZI below args s B D K (fun r M1 => M = M1 ∧ Q r)) M 4 [(0, .ref (B + 95)), (1, J v1_1), (2, J v2_2)] []) ?_ 5000 0 0 hf (by unfold inR; omega) (by unfold inR; omega)
  intro rec4 ih4 v1_1 v2_2 hf h_v1_1 h_v2_2
  unfold X12_mouthFlow_b4 at hf
  refine g_iload_n hC 2 dX12_mouthFlow_4 rfl rfl ?_
  refine g_aload_n hC 0 dX12_mouthFlow_5 rfl rfl ?_
  refine g_callVI hC (sk := [J v2_2]) [] (c_X12_places l B D K   M hM _ hf) yv_X12_places wm_X12_246 okX12.1 sc95 rfl ⟨Nat.le_of_ble_eq_true rfl, Nat.le_of_ble_eq_true rfl, Nat.le_of_ble_eq_true rfl, Nat.le_of_ble_eq_true rfl⟩ rfl (Nat.le_of_ble_eq_true rfl) dX12_mouthFlow_6 ?_
  rintro r_3 M_4 h_r_3 - ⟨rfl, hf⟩
  refine g_icmp_ge hC 35 h_v2_2 h_r_3 dX12_mouthFlow_9 rfl (fun c_12 => ?_) (fun c_12 => ?_)
  · replace hf := hf.1 c_12
    refine g_iload_n hC 1 dX12_mouthFlow_35 rfl rfl ?_
    exact g_reti hC h_v1_1 hM ⟨rfl, hf⟩ dX12_mouthFlow_36
  · replace hf := hf.2 c_12
    refine g_aload_n hC 0 dX12_mouthFlow_12 rfl rfl ?_
    refine g_iload_n hC 2 dX12_mouthFlow_13 rfl rfl ?_
    refine g_callVZ hC (sk := []) [J v2_2] (c_X12_isMouth l B D K v2_2 h_v2_2 M hM _ hf) yv_X12_isMouth wm_X12_317 okX12.1 sc95 rfl ⟨Nat.le_of_ble_eq_true rfl, Nat.le_of_ble_eq_true rfl, Nat.le_of_ble_eq_true rfl, Nat.le_of_ble_eq_true rfl⟩ rfl (Nat.le_of_ble_eq_true rfl) dX12_mouthFlow_14 ?_
    rintro r_5 M_6 h_r_5 - ⟨rfl, hf⟩
    refine g_if_eq hC 29 (zi_ h_r_5) dX12_mouthFlow_17 rfl (fun c_11 => ?_) (fun c_11 => ?_)
    · replace hf := hf.1 c_11
      obtain ⟨v2_7, e_v2_7⟩ : ∃ z : Int, z = nz (v2_2 + 1) := ⟨_, rfl⟩
      replace hf := hf v2_7 e_v2_7
      have h_v2_7 : inR v2_7 := by rw [e_v2_7]; exact (nz_in _)
      refine g_iincz hC 2 e_v2_7 [(2, J v2_7), (0, .ref (B + 95)), (1, J v1_1)] dX12_mouthFlow_29 rfl (by decide) rfl ?_
      refine g_goto hC 4 dX12_mouthFlow_32 rfl ?_
      refine g_sub [(0, .ref (B + 95)), (1, J v1_1), (2, J v2_7)] [1, 2, 0] rfl ?_
      exact ih4 v1_1 v2_7 hf h_v1_1 h_v2_7
    · replace hf := hf.2 c_11
      refine g_iload_n hC 1 dX12_mouthFlow_20 rfl rfl ?_
      refine g_aload_n hC 0 dX12_mouthFlow_21 rfl rfl ?_
      refine g_getr hC okX12 sc95 21 (by decide) rfl wf_X12_45 dX12_mouthFlow_22 ?_
      refine g_iload_n hC 2 dX12_mouthFlow_25 rfl rfl ?_
      obtain ⟨q_8, hf⟩ := hf
      refine g_ialdk (v2_2.toNat) hC sc106 q_8.1 q_8.2 rfl dX12_mouthFlow_26 ?_
      refine g_iadd hC dX12_mouthFlow_27 ?_
      refine g_nz ?_
      refine g_nm (fun v1_9 e_v1_9 => ?_)
      replace hf := hf v1_9 e_v1_9
      have h_v1_9 : inR v1_9 := by rw [e_v1_9]; exact (nz_in _)
      refine g_istore_n hC [(1, J v1_9), (0, .ref (B + 95)), (2, J v2_2)] dX12_mouthFlow_28 rfl (by decide) rfl ?_
      obtain ⟨v2_10, e_v2_10⟩ : ∃ z : Int, z = nz (v2_2 + 1) := ⟨_, rfl⟩
      replace hf := hf v2_10 e_v2_10
      have h_v2_10 : inR v2_10 := by rw [e_v2_10]; exact (nz_in _)
      refine g_iincz hC 2 e_v2_10 [(2, J v2_10), (1, J v1_9), (0, .ref (B + 95))] dX12_mouthFlow_29 rfl (by decide) rfl ?_
      refine g_goto hC 4 dX12_mouthFlow_32 rfl ?_
      refine g_sub [(0, .ref (B + 95)), (1, J v1_9), (2, J v2_10)] [2, 1, 0] rfl ?_
      exact ih4 v1_9 v2_10 hf h_v1_9 h_v2_10
set_option maxHeartbeats 4000000 in
set_option maxRecDepth 100000 in
theorem c_X12_greatestMet (l : Launch) (B : Nat) (D : va_G) (K : Nat → ClassId)   (M : Mem) (hM : MR M) (Q : Int → Prop) (hf : f_X12_greatestMet  M Q) : CtI l yX12_greatestMet cX12_greatestMet 3 1 20 B D K [.ref (B + 95)] M (fun r M1 => M = M1 ∧ Q r) := by
  refine ct_i (by decide) (Nat.le_of_ble_eq_true rfl) ?_
  intro p e s m args below meth c hC
  have hC : Cx p s m args meth c D K cX12_greatestMet 3 RX12 (some .int) := hC
  unfold f_X12_greatestMet at hf
  refine (show G p l e (rmF 1 20) s m args below meth c B D K 3 0 0 (ZI below args s B D K (fun r M1 => M = M1 ∧ Q r)) M 0 [(0, .ref (B + 95))] [] from ?_)
  refine g_iconst hC dX12_greatestMet_0 ?_
  refine g_istore_n hC [(1, J 0), (0, .ref (B + 95))] dX12_greatestMet_1 rfl (by decide) rfl ?_
  refine g_iconst hC dX12_greatestMet_2 ?_
  refine g_istore_n hC [(2, J 0), (1, J 0), (0, .ref (B + 95))] dX12_greatestMet_3 rfl (by decide) rfl ?_
  refine g_sub [(0, .ref (B + 95)), (1, J 0), (2, J 0)] [2, 1, 0] rfl ?_
  refine wl2_elim (fun (v1_1 : Int) (v2_2 : Int) => inR v1_1 → inR v2_2 → G p l e (rmF 1 20) s m args below meth c B D K 3 0 0 (ZI below args s B D K (fun r M1 => M = M1 ∧ Q r)) M 4 [(0, .ref (B + 95)), (1, J v1_1), (2, J v2_2)] []) ?_ 5000 0 0 hf (by unfold inR; omega) (by unfold inR; omega)
  intro rec4 ih4 v1_1 v2_2 hf h_v1_1 h_v2_2
  unfold X12_greatestMet_b4 at hf
  refine g_iload_n hC 2 dX12_greatestMet_4 rfl rfl ?_
  refine g_aload_n hC 0 dX12_greatestMet_5 rfl rfl ?_
  refine g_callVI hC (sk := [J v2_2]) [] (c_X12_reaches l B D K   M hM _ hf) yv_X12_reaches wm_X12_249 okX12.1 sc95 rfl ⟨Nat.le_of_ble_eq_true rfl, Nat.le_of_ble_eq_true rfl, Nat.le_of_ble_eq_true rfl, Nat.le_of_ble_eq_true rfl⟩ rfl (Nat.le_of_ble_eq_true rfl) dX12_greatestMet_6 ?_
  rintro r_3 M_4 h_r_3 - ⟨rfl, hf⟩
  refine g_icmp_ge hC 35 h_v2_2 h_r_3 dX12_greatestMet_9 rfl (fun c_12 => ?_) (fun c_12 => ?_)
  · replace hf := hf.1 c_12
    refine g_iload_n hC 1 dX12_greatestMet_35 rfl rfl ?_
    exact g_reti hC h_v1_1 hM ⟨rfl, hf⟩ dX12_greatestMet_36
  · replace hf := hf.2 c_12
    refine g_aload_n hC 0 dX12_greatestMet_12 rfl rfl ?_
    refine g_getr hC okX12 sc95 26 (by decide) rfl wf_X12_60 dX12_greatestMet_13 ?_
    refine g_iload_n hC 2 dX12_greatestMet_16 rfl rfl ?_
    obtain ⟨q_5, hf⟩ := hf
    refine g_ialdk (v2_2.toNat) hC sc111 q_5.1 q_5.2 rfl dX12_greatestMet_17 ?_
    refine g_iload_n hC 1 dX12_greatestMet_18 rfl rfl ?_
    refine g_icmp_le hC 29 (hM _ _) h_v1_1 dX12_greatestMet_19 rfl (fun c_11 => ?_) (fun c_11 => ?_)
    · replace hf := hf.1 c_11
      obtain ⟨q_7, hf⟩ := hf
      obtain ⟨v2_6, e_v2_6⟩ : ∃ z : Int, z = v2_2 + 1 := ⟨_, rfl⟩
      replace hf := hf v2_6 e_v2_6
      have h_v2_6 : inR v2_6 := by rw [e_v2_6]; exact q_7
      refine g_iincv hC 2 e_v2_6 [(2, J v2_6), (0, .ref (B + 95)), (1, J v1_1)] dX12_greatestMet_29 rfl (by decide) rfl ?_
      refine g_goto hC 4 dX12_greatestMet_32 rfl ?_
      refine g_sub [(0, .ref (B + 95)), (1, J v1_1), (2, J v2_6)] [1, 2, 0] rfl ?_
      exact ih4 v1_1 v2_6 hf h_v1_1 h_v2_6
    · replace hf := hf.2 c_11
      refine g_aload_n hC 0 dX12_greatestMet_22 rfl rfl ?_
      refine g_getr hC okX12 sc95 26 (by decide) rfl wf_X12_60 dX12_greatestMet_23 ?_
      refine g_iload_n hC 2 dX12_greatestMet_26 rfl rfl ?_
      refine g_ialdk (v2_2.toNat) hC sc111 q_5.1 q_5.2 rfl dX12_greatestMet_27 ?_
      refine g_nm (fun v1_8 e_v1_8 => ?_)
      replace hf := hf v1_8 e_v1_8
      have h_v1_8 : inR v1_8 := by rw [e_v1_8]; exact (hM _ _)
      refine g_istore_n hC [(1, J v1_8), (0, .ref (B + 95)), (2, J v2_2)] dX12_greatestMet_28 rfl (by decide) rfl ?_
      obtain ⟨q_10, hf⟩ := hf
      obtain ⟨v2_9, e_v2_9⟩ : ∃ z : Int, z = v2_2 + 1 := ⟨_, rfl⟩
      replace hf := hf v2_9 e_v2_9
      have h_v2_9 : inR v2_9 := by rw [e_v2_9]; exact q_10
      refine g_iincv hC 2 e_v2_9 [(2, J v2_9), (1, J v1_8), (0, .ref (B + 95))] dX12_greatestMet_29 rfl (by decide) rfl ?_
      refine g_goto hC 4 dX12_greatestMet_32 rfl ?_
      refine g_sub [(0, .ref (B + 95)), (1, J v1_8), (2, J v2_9)] [2, 1, 0] rfl ?_
      exact ih4 v1_8 v2_9 hf h_v1_8 h_v2_9
set_option maxHeartbeats 4000000 in
set_option maxRecDepth 100000 in
theorem c_X12_mouths (l : Launch) (B : Nat) (D : va_G) (K : Nat → ClassId)   (M : Mem) (hM : MR M) (Q : Int → Prop) (hf : f_X12_mouths  M Q) : CtI l yX12_mouths cX12_mouths 3 1 21 B D K [.ref (B + 95)] M (fun r M1 => M = M1 ∧ Q r) := by
  refine ct_i (by decide) (Nat.le_of_ble_eq_true rfl) ?_
  intro p e s m args below meth c hC
  have hC : Cx p s m args meth c D K cX12_mouths 3 RX12 (some .int) := hC
  unfold f_X12_mouths at hf
  refine (show G p l e (rmF 1 21) s m args below meth c B D K 3 0 0 (ZI below args s B D K (fun r M1 => M = M1 ∧ Q r)) M 0 [(0, .ref (B + 95))] [] from ?_)
  refine g_iconst hC dX12_mouths_0 ?_
  refine g_istore_n hC [(1, J 0), (0, .ref (B + 95))] dX12_mouths_1 rfl (by decide) rfl ?_
  refine g_iconst hC dX12_mouths_2 ?_
  refine g_istore_n hC [(2, J 0), (1, J 0), (0, .ref (B + 95))] dX12_mouths_3 rfl (by decide) rfl ?_
  refine g_sub [(0, .ref (B + 95)), (1, J 0), (2, J 0)] [2, 1, 0] rfl ?_
  refine wl2_elim (fun (v1_1 : Int) (v2_2 : Int) => inR v1_1 → inR v2_2 → G p l e (rmF 1 21) s m args below meth c B D K 3 0 0 (ZI below args s B D K (fun r M1 => M = M1 ∧ Q r)) M 4 [(0, .ref (B + 95)), (1, J v1_1), (2, J v2_2)] []) ?_ 5000 0 0 hf (by unfold inR; omega) (by unfold inR; omega)
  intro rec4 ih4 v1_1 v2_2 hf h_v1_1 h_v2_2
  unfold X12_mouths_b4 at hf
  refine g_iload_n hC 2 dX12_mouths_4 rfl rfl ?_
  refine g_aload_n hC 0 dX12_mouths_5 rfl rfl ?_
  refine g_callVI hC (sk := [J v2_2]) [] (c_X12_places l B D K   M hM _ hf) yv_X12_places wm_X12_246 okX12.1 sc95 rfl ⟨Nat.le_of_ble_eq_true rfl, Nat.le_of_ble_eq_true rfl, Nat.le_of_ble_eq_true rfl, Nat.le_of_ble_eq_true rfl⟩ rfl (Nat.le_of_ble_eq_true rfl) dX12_mouths_6 ?_
  rintro r_3 M_4 h_r_3 - ⟨rfl, hf⟩
  refine g_icmp_ge hC 29 h_v2_2 h_r_3 dX12_mouths_9 rfl (fun c_13 => ?_) (fun c_13 => ?_)
  · replace hf := hf.1 c_13
    refine g_iload_n hC 1 dX12_mouths_29 rfl rfl ?_
    exact g_reti hC h_v1_1 hM ⟨rfl, hf⟩ dX12_mouths_30
  · replace hf := hf.2 c_13
    refine g_iload_n hC 1 dX12_mouths_12 rfl rfl ?_
    refine g_aload_n hC 0 dX12_mouths_13 rfl rfl ?_
    refine g_iload_n hC 2 dX12_mouths_14 rfl rfl ?_
    refine g_callVZ hC (sk := [J v1_1]) [J v2_2] (c_X12_isMouth l B D K v2_2 h_v2_2 M hM _ hf) yv_X12_isMouth wm_X12_317 okX12.1 sc95 rfl ⟨Nat.le_of_ble_eq_true rfl, Nat.le_of_ble_eq_true rfl, Nat.le_of_ble_eq_true rfl, Nat.le_of_ble_eq_true rfl⟩ rfl (Nat.le_of_ble_eq_true rfl) dX12_mouths_15 ?_
    rintro r_5 M_6 h_r_5 - ⟨rfl, hf⟩
    refine g_callSI hC (sk := [J v1_1]) [J r_5] (c_X12_flag l B D K r_5 (zi_ h_r_5) M hM _ hf) yv_X12_flag wm_X12_255 rfl ⟨Nat.le_of_ble_eq_true rfl, Nat.le_of_ble_eq_true rfl, Nat.le_of_ble_eq_true rfl, Nat.le_of_ble_eq_true rfl⟩ rfl (Nat.le_of_ble_eq_true rfl) dX12_mouths_18 ?_
    rintro r_7 M_8 h_r_7 - ⟨rfl, hf⟩
    refine g_iadd hC dX12_mouths_21 ?_
    obtain ⟨q_9, hf⟩ := hf
    refine g_nm (fun v1_10 e_v1_10 => ?_)
    replace hf := hf v1_10 e_v1_10
    have h_v1_10 : inR v1_10 := by rw [e_v1_10]; exact q_9
    refine g_istore_n hC [(1, J v1_10), (0, .ref (B + 95)), (2, J v2_2)] dX12_mouths_22 rfl (by decide) rfl ?_
    obtain ⟨q_12, hf⟩ := hf
    obtain ⟨v2_11, e_v2_11⟩ : ∃ z : Int, z = v2_2 + 1 := ⟨_, rfl⟩
    replace hf := hf v2_11 e_v2_11
    have h_v2_11 : inR v2_11 := by rw [e_v2_11]; exact q_12
    refine g_iincv hC 2 e_v2_11 [(2, J v2_11), (1, J v1_10), (0, .ref (B + 95))] dX12_mouths_23 rfl (by decide) rfl ?_
    refine g_goto hC 4 dX12_mouths_26 rfl ?_
    refine g_sub [(0, .ref (B + 95)), (1, J v1_10), (2, J v2_11)] [2, 1, 0] rfl ?_
    exact ih4 v1_10 v2_11 hf h_v1_10 h_v2_11
set_option maxHeartbeats 4000000 in
set_option maxRecDepth 100000 in
theorem c_X12_partings (l : Launch) (B : Nat) (D : va_G) (K : Nat → ClassId)   (M : Mem) (hM : MR M) (Q : Int → Prop) (hf : f_X12_partings  M Q) : CtI l yX12_partings cX12_partings 3 1 20 B D K [.ref (B + 95)] M (fun r M1 => M = M1 ∧ Q r) := by
  refine ct_i (by decide) (Nat.le_of_ble_eq_true rfl) ?_
  intro p e s m args below meth c hC
  have hC : Cx p s m args meth c D K cX12_partings 3 RX12 (some .int) := hC
  unfold f_X12_partings at hf
  refine (show G p l e (rmF 1 20) s m args below meth c B D K 3 0 0 (ZI below args s B D K (fun r M1 => M = M1 ∧ Q r)) M 0 [(0, .ref (B + 95))] [] from ?_)
  refine g_iconst hC dX12_partings_0 ?_
  refine g_istore_n hC [(1, J 0), (0, .ref (B + 95))] dX12_partings_1 rfl (by decide) rfl ?_
  refine g_iconst hC dX12_partings_2 ?_
  refine g_istore_n hC [(2, J 0), (1, J 0), (0, .ref (B + 95))] dX12_partings_3 rfl (by decide) rfl ?_
  refine g_sub [(0, .ref (B + 95)), (1, J 0), (2, J 0)] [2, 1, 0] rfl ?_
  refine wl2_elim (fun (v1_1 : Int) (v2_2 : Int) => inR v1_1 → inR v2_2 → G p l e (rmF 1 20) s m args below meth c B D K 3 0 0 (ZI below args s B D K (fun r M1 => M = M1 ∧ Q r)) M 4 [(0, .ref (B + 95)), (1, J v1_1), (2, J v2_2)] []) ?_ 5000 0 0 hf (by unfold inR; omega) (by unfold inR; omega)
  intro rec4 ih4 v1_1 v2_2 hf h_v1_1 h_v2_2
  unfold X12_partings_b4 at hf
  refine g_iload_n hC 2 dX12_partings_4 rfl rfl ?_
  refine g_aload_n hC 0 dX12_partings_5 rfl rfl ?_
  refine g_callVI hC (sk := [J v2_2]) [] (c_X12_places l B D K   M hM _ hf) yv_X12_places wm_X12_246 okX12.1 sc95 rfl ⟨Nat.le_of_ble_eq_true rfl, Nat.le_of_ble_eq_true rfl, Nat.le_of_ble_eq_true rfl, Nat.le_of_ble_eq_true rfl⟩ rfl (Nat.le_of_ble_eq_true rfl) dX12_partings_6 ?_
  rintro r_3 M_4 h_r_3 - ⟨rfl, hf⟩
  refine g_icmp_ge hC 39 h_v2_2 h_r_3 dX12_partings_9 rfl (fun c_14 => ?_) (fun c_14 => ?_)
  · replace hf := hf.1 c_14
    refine g_iload_n hC 1 dX12_partings_39 rfl rfl ?_
    exact g_reti hC h_v1_1 hM ⟨rfl, hf⟩ dX12_partings_40
  · replace hf := hf.2 c_14
    refine g_iload_n hC 1 dX12_partings_12 rfl rfl ?_
    refine g_aload_n hC 0 dX12_partings_13 rfl rfl ?_
    refine g_getr hC okX12 sc95 18 (by decide) rfl wf_X12_36 dX12_partings_14 ?_
    refine g_iload_n hC 2 dX12_partings_17 rfl rfl ?_
    obtain ⟨q_5, hf⟩ := hf
    refine g_ialdk (v2_2.toNat) hC sc103 q_5.1 q_5.2 rfl dX12_partings_18 ?_
    refine g_iconst hC dX12_partings_19 ?_
    refine jn_elim (fun (k : Int → Prop) => ∀ (s1_6 : Int), k s1_6 → ((s1_6 = 0 ∨ s1_6 = 1)) → G p l e (rmF 1 20) s m args below meth c B D K 3 0 0 (ZI below args s B D K (fun r M1 => M = M1 ∧ Q r)) M 28 [(0, .ref (B + 95)), (2, J v2_2)] [J s1_6, J v1_1]) hf ?_ ?_
    · intro s1_6 hf h_s1_6
      refine g_callSI hC (sk := [J v1_1]) [J s1_6] (c_X12_flag l B D K s1_6 (zi_ h_s1_6) M hM _ hf) yv_X12_flag wm_X12_255 rfl ⟨Nat.le_of_ble_eq_true rfl, Nat.le_of_ble_eq_true rfl, Nat.le_of_ble_eq_true rfl, Nat.le_of_ble_eq_true rfl⟩ rfl (Nat.le_of_ble_eq_true rfl) dX12_partings_28 ?_
      rintro r_7 M_8 h_r_7 - ⟨rfl, hf⟩
      refine g_iadd hC dX12_partings_31 ?_
      obtain ⟨q_9, hf⟩ := hf
      refine g_nm (fun v1_10 e_v1_10 => ?_)
      replace hf := hf v1_10 e_v1_10
      have h_v1_10 : inR v1_10 := by rw [e_v1_10]; exact q_9
      refine g_istore_n hC [(1, J v1_10), (0, .ref (B + 95)), (2, J v2_2)] dX12_partings_32 rfl (by decide) rfl ?_
      obtain ⟨q_12, hf⟩ := hf
      obtain ⟨v2_11, e_v2_11⟩ : ∃ z : Int, z = v2_2 + 1 := ⟨_, rfl⟩
      replace hf := hf v2_11 e_v2_11
      have h_v2_11 : inR v2_11 := by rw [e_v2_11]; exact q_12
      refine g_iincv hC 2 e_v2_11 [(2, J v2_11), (1, J v1_10), (0, .ref (B + 95))] dX12_partings_33 rfl (by decide) rfl ?_
      refine g_goto hC 4 dX12_partings_36 rfl ?_
      refine g_sub [(0, .ref (B + 95)), (1, J v1_10), (2, J v2_11)] [2, 1, 0] rfl ?_
      exact ih4 v1_10 v2_11 hf h_v1_10 h_v2_11
    · intro J28 hJ28 hf
      refine g_icmp_le hC 27 (hM _ _) (by unfold inR; omega) dX12_partings_20 rfl (fun c_13 => ?_) (fun c_13 => ?_)
      · replace hf := hf.1 c_13
        refine g_iconst hC dX12_partings_27 ?_
        refine g_sub [(0, .ref (B + 95)), (2, J v2_2)] [0, 2] rfl ?_
        exact hJ28 0 hf (Or.inl rfl)
      · replace hf := hf.2 c_13
        refine g_iconst hC dX12_partings_23 ?_
        refine g_goto hC 28 dX12_partings_24 rfl ?_
        refine g_sub [(0, .ref (B + 95)), (2, J v2_2)] [0, 2] rfl ?_
        exact hJ28 1 hf (Or.inr rfl)
set_option maxHeartbeats 4000000 in
set_option maxRecDepth 100000 in
theorem c_X12_has (l : Launch) (B : Nat) (D : va_G) (K : Nat → ClassId) (v1 : Int) (i_v1 : inR v1) (M : Mem) (hM : MR M) (Q : Int → Mem → Prop) (hf : f_X12_has v1 M Q) : CtI l yX12_has cX12_has 2 7 159 B D K [.ref (B + 95), J v1] M Q := by
  refine ct_i (by decide) (Nat.le_of_ble_eq_true rfl) ?_
  intro p e s m args below meth c hC
  have hC : Cx p s m args meth c D K cX12_has 2 RX12 (some .int) := hC
  unfold f_X12_has at hf
  refine (show G p l e (rmF 7 159) s m args below meth c B D K 2 0 0 (ZI below args s B D K Q) M 0 [(0, .ref (B + 95)), (1, J v1)] [] from ?_)
  refine g_aload_n hC 0 dX12_has_0 rfl rfl ?_
  refine g_callVV hC (sk := []) [] (c_X12_lays l B D K   M hM _ hf) yv_X12_lays wm_X12_320 okX12.1 sc95 rfl ⟨Nat.le_of_ble_eq_true rfl, Nat.le_of_ble_eq_true rfl, Nat.le_of_ble_eq_true rfl, Nat.le_of_ble_eq_true rfl⟩ rfl (Nat.le_of_ble_eq_true rfl) dX12_has_1 ?_
  intro M_1 h_M_1 hf
  refine g_iload_n hC 1 dX12_has_4 rfl rfl ?_
  by_cases c_4 : v1 = 0
  · replace hf := hf.1 c_4
    refine g_tabIn hC 0 60 i_v1 c_4 dX12_has_5 (by decide) (by decide) rfl rfl ?_
    refine g_aload_n hC 0 dX12_has_60 rfl rfl ?_
    refine g_callVI hC (sk := []) [] (c_X12_places l B D K   M_1 h_M_1 _ hf) yv_X12_places wm_X12_246 okX12.1 sc95 rfl ⟨Nat.le_of_ble_eq_true rfl, Nat.le_of_ble_eq_true rfl, Nat.le_of_ble_eq_true rfl, Nat.le_of_ble_eq_true rfl⟩ rfl (Nat.le_of_ble_eq_true rfl) dX12_has_61 ?_
    rintro r_2 M_3 h_r_2 - ⟨rfl, hf⟩
    exact g_reti hC h_r_2 h_M_1 hf dX12_has_64
  · replace hf := hf.2
    by_cases c_7 : v1 = 1
    · replace hf := hf.1 c_7
      refine g_tabIn hC 1 65 i_v1 c_7 dX12_has_5 (by decide) (by decide) rfl rfl ?_
      refine g_aload_n hC 0 dX12_has_65 rfl rfl ?_
      refine g_callVI hC (sk := []) [] (c_X12_reaches l B D K   M_1 h_M_1 _ hf) yv_X12_reaches wm_X12_249 okX12.1 sc95 rfl ⟨Nat.le_of_ble_eq_true rfl, Nat.le_of_ble_eq_true rfl, Nat.le_of_ble_eq_true rfl, Nat.le_of_ble_eq_true rfl⟩ rfl (Nat.le_of_ble_eq_true rfl) dX12_has_66 ?_
      rintro r_5 M_6 h_r_5 - ⟨rfl, hf⟩
      exact g_reti hC h_r_5 h_M_1 hf dX12_has_69
    · replace hf := hf.2
      by_cases c_8 : v1 = 2
      · replace hf := hf.1 c_8
        refine g_tabIn hC 2 70 i_v1 c_8 dX12_has_5 (by decide) (by decide) rfl rfl ?_
        refine g_aload_n hC 0 dX12_has_70 rfl rfl ?_
        refine g_getr hC okX12 sc95 13 (by decide) rfl wf_X12_27 dX12_has_71 ?_
        refine g_iconst hC dX12_has_74 ?_
        refine g_ialdk 2 hC sc100 (by decide) (by decide) rfl dX12_has_75 ?_
        exact g_reti hC (h_M_1 _ _) h_M_1 hf dX12_has_76
      · replace hf := hf.2
        by_cases c_13 : v1 = 3
        · replace hf := hf.1 c_13
          refine g_tabIn hC 3 77 i_v1 c_13 dX12_has_5 (by decide) (by decide) rfl rfl ?_
          refine g_aload_n hC 0 dX12_has_77 rfl rfl ?_
          refine g_callVI hC (sk := []) [] (c_X12_sources l B D K   M_1 h_M_1 _ hf) yv_X12_sources wm_X12_268 okX12.1 sc95 rfl ⟨Nat.le_of_ble_eq_true rfl, Nat.le_of_ble_eq_true rfl, Nat.le_of_ble_eq_true rfl, Nat.le_of_ble_eq_true rfl⟩ rfl (Nat.le_of_ble_eq_true rfl) dX12_has_78 ?_
          rintro r_9 M_10 h_r_9 - ⟨rfl, hf⟩
          refine g_callSI hC (sk := []) [J r_9] (c_X12_count l B D K r_9 h_r_9 M_1 h_M_1 _ hf) yv_X12_count wm_X12_323 rfl ⟨Nat.le_of_ble_eq_true rfl, Nat.le_of_ble_eq_true rfl, Nat.le_of_ble_eq_true rfl, Nat.le_of_ble_eq_true rfl⟩ rfl (Nat.le_of_ble_eq_true rfl) dX12_has_81 ?_
          rintro r_11 M_12 h_r_11 - ⟨rfl, hf⟩
          exact g_reti hC h_r_11 h_M_1 hf dX12_has_84
        · replace hf := hf.2
          by_cases c_16 : v1 = 4
          · replace hf := hf.1 c_16
            refine g_tabIn hC 4 85 i_v1 c_16 dX12_has_5 (by decide) (by decide) rfl rfl ?_
            refine g_aload_n hC 0 dX12_has_85 rfl rfl ?_
            refine g_callVI hC (sk := []) [] (c_X12_mouths l B D K   M_1 h_M_1 _ hf) yv_X12_mouths wm_X12_326 okX12.1 sc95 rfl ⟨Nat.le_of_ble_eq_true rfl, Nat.le_of_ble_eq_true rfl, Nat.le_of_ble_eq_true rfl, Nat.le_of_ble_eq_true rfl⟩ rfl (Nat.le_of_ble_eq_true rfl) dX12_has_86 ?_
            rintro r_14 M_15 h_r_14 - ⟨rfl, hf⟩
            exact g_reti hC h_r_14 h_M_1 hf dX12_has_89
          · replace hf := hf.2
            by_cases c_19 : v1 = 5
            · replace hf := hf.1 c_19
              refine g_tabIn hC 5 90 i_v1 c_19 dX12_has_5 (by decide) (by decide) rfl rfl ?_
              refine g_aload_n hC 0 dX12_has_90 rfl rfl ?_
              refine g_callVI hC (sk := []) [] (c_X12_partings l B D K   M_1 h_M_1 _ hf) yv_X12_partings wm_X12_329 okX12.1 sc95 rfl ⟨Nat.le_of_ble_eq_true rfl, Nat.le_of_ble_eq_true rfl, Nat.le_of_ble_eq_true rfl, Nat.le_of_ble_eq_true rfl⟩ rfl (Nat.le_of_ble_eq_true rfl) dX12_has_91 ?_
              rintro r_17 M_18 h_r_17 - ⟨rfl, hf⟩
              exact g_reti hC h_r_17 h_M_1 hf dX12_has_94
            · replace hf := hf.2
              by_cases c_20 : v1 = 6
              · replace hf := hf.1 c_20
                refine g_tabIn hC 6 95 i_v1 c_20 dX12_has_5 (by decide) (by decide) rfl rfl ?_
                refine g_aload_n hC 0 dX12_has_95 rfl rfl ?_
                refine g_geti hC okX12 sc95 41 (by decide) rfl wf_X12_237 dX12_has_96 ?_
                exact g_reti hC (h_M_1 _ _) h_M_1 hf dX12_has_99
              · replace hf := hf.2
                by_cases c_21 : v1 = 7
                · replace hf := hf.1 c_21
                  refine g_tabIn hC 7 100 i_v1 c_21 dX12_has_5 (by decide) (by decide) rfl rfl ?_
                  refine g_aload_n hC 0 dX12_has_100 rfl rfl ?_
                  refine g_geti hC okX12 sc95 38 (by decide) rfl wf_X12_240 dX12_has_101 ?_
                  exact g_reti hC (h_M_1 _ _) h_M_1 hf dX12_has_104
                · replace hf := hf.2
                  by_cases c_24 : v1 = 8
                  · replace hf := hf.1 c_24
                    refine g_tabIn hC 8 105 i_v1 c_24 dX12_has_5 (by decide) (by decide) rfl rfl ?_
                    refine g_aload_n hC 0 dX12_has_105 rfl rfl ?_
                    refine g_callVI hC (sk := []) [] (c_X12_mouthFlow l B D K   M_1 h_M_1 _ hf) yv_X12_mouthFlow wm_X12_332 okX12.1 sc95 rfl ⟨Nat.le_of_ble_eq_true rfl, Nat.le_of_ble_eq_true rfl, Nat.le_of_ble_eq_true rfl, Nat.le_of_ble_eq_true rfl⟩ rfl (Nat.le_of_ble_eq_true rfl) dX12_has_106 ?_
                    rintro r_22 M_23 h_r_22 - ⟨rfl, hf⟩
                    exact g_reti hC h_r_22 h_M_1 hf dX12_has_109
                  · replace hf := hf.2
                    by_cases c_27 : v1 = 9
                    · replace hf := hf.1 c_27
                      refine g_tabIn hC 9 110 i_v1 c_27 dX12_has_5 (by decide) (by decide) rfl rfl ?_
                      refine g_aload_n hC 0 dX12_has_110 rfl rfl ?_
                      refine g_callVI hC (sk := []) [] (c_X12_greatestMet l B D K   M_1 h_M_1 _ hf) yv_X12_greatestMet wm_X12_335 okX12.1 sc95 rfl ⟨Nat.le_of_ble_eq_true rfl, Nat.le_of_ble_eq_true rfl, Nat.le_of_ble_eq_true rfl, Nat.le_of_ble_eq_true rfl⟩ rfl (Nat.le_of_ble_eq_true rfl) dX12_has_111 ?_
                      rintro r_25 M_26 h_r_25 - ⟨rfl, hf⟩
                      exact g_reti hC h_r_25 h_M_1 hf dX12_has_114
                    · replace hf := hf.2
                      have c_28 : v1 < 0 ∨ 9 < v1 := by omega
                      replace hf := hf c_28
                      refine g_tabOut hC 115 i_v1 dX12_has_5 c_28 rfl ?_
                      refine g_iconst hC dX12_has_115 ?_
                      exact g_reti hC (by unfold inR; omega) h_M_1 hf dX12_has_116
set_option maxHeartbeats 4000000 in
set_option maxRecDepth 100000 in
theorem c_X12_isRiver (l : Launch) (B : Nat) (D : va_G) (K : Nat → ClassId) (v1 : Int) (i_v1 : inR v1) (M : Mem) (hM : MR M) (Q : Int → Prop) (hf : f_X12_isRiver v1 M Q) : CtZ l yX12_isRiver cX12_isRiver 2 1 25 B D K [.ref (B + 95), J v1] M (fun r M1 => M = M1 ∧ Q r) := by
  refine ct_z (by decide) (Nat.le_of_ble_eq_true rfl) ?_
  intro p e s m args below meth c hC
  have hC : Cx p s m args meth c D K cX12_isRiver 2 RX12 (some .boolean) := hC
  unfold f_X12_isRiver at hf
  refine (show G p l e (rmF 1 25) s m args below meth c B D K 2 0 0 (ZZ below args s B D K (fun r M1 => M = M1 ∧ Q r)) M 0 [(0, .ref (B + 95)), (1, J v1)] [] from ?_)
  refine g_iload_n hC 1 dX12_isRiver_0 rfl rfl ?_
  refine g_i2l hC i_v1 dX12_isRiver_1 ?_
  refine g_lconst (n := 0) hC dX12_isRiver_2 (by decide) ?_
  refine g_aload_n hC 0 dX12_isRiver_3 rfl rfl ?_
  refine g_getr hC okX12 sc95 13 (by decide) rfl wf_X12_27 dX12_isRiver_4 ?_
  refine g_iconst hC dX12_isRiver_7 ?_
  refine g_ialdk 2 hC sc100 (by decide) (by decide) rfl dX12_isRiver_8 ?_
  refine g_iconst hC dX12_isRiver_9 ?_
  refine g_isub hC dX12_isRiver_10 ?_
  obtain ⟨q_1, hf⟩ := hf
  refine g_i2l hC q_1 dX12_isRiver_11 ?_
  refine g_callSZ hC (sk := []) [JL v1, JL 0, JL ((M 100 2) - 1)] (c_X12_isIn l B D K v1 0 ((M 100 2) - 1) (inL_of i_v1) (by unfold inL; omega) (inL_of q_1) M hM _ hf) yv_X12_isIn wm_X12_127 rfl ⟨Nat.le_of_ble_eq_true rfl, Nat.le_of_ble_eq_true rfl, Nat.le_of_ble_eq_true rfl, Nat.le_of_ble_eq_true rfl⟩ rfl (Nat.le_of_ble_eq_true rfl) dX12_isRiver_12 ?_
  rintro r_2 M_3 h_r_2 - ⟨rfl, hf⟩
  exact g_retz hC h_r_2 hM ⟨rfl, hf⟩ dX12_isRiver_15
set_option maxHeartbeats 4000000 in
set_option maxRecDepth 100000 in
theorem c_X12_letter (l : Launch) (B : Nat) (D : va_G) (K : Nat → ClassId) (v1 : Int) (v2 : Int) (v3 : Int) (i_v1 : inR v1) (i_v2 : inR v2) (i_v3 : inR v3) (M : Mem) (hM : MR M) (Q : Int → Prop) (hf : f_X12_letter v1 v2 v3 M Q) : CtI l yX12_letter cX12_letter 7 2 46 B D K [.ref (B + 95), J v1, J v2, J v3] M (fun r M1 => M = M1 ∧ Q r) := by
  refine ct_i (by decide) (Nat.le_of_ble_eq_true rfl) ?_
  intro p e s m args below meth c hC
  have hC : Cx p s m args meth c D K cX12_letter 7 RX12 (some .int) := hC
  unfold f_X12_letter at hf
  refine (show G p l e (rmF 2 46) s m args below meth c B D K 7 0 0 (ZI below args s B D K (fun r M1 => M = M1 ∧ Q r)) M 0 [(0, .ref (B + 95)), (1, J v1), (2, J v2), (3, J v3)] [] from ?_)
  refine g_iload_n hC 1 dX12_letter_0 rfl rfl ?_
  refine g_i2l hC i_v1 dX12_letter_1 ?_
  refine g_lconst (n := 0) hC dX12_letter_2 (by decide) ?_
  refine g_lconst (n := 1) hC dX12_letter_3 (by decide) ?_
  refine g_callSZ hC (sk := []) [JL v1, JL 0, JL 1] (c_X12_isIn l B D K v1 0 1 (inL_of i_v1) (by unfold inL; omega) (by unfold inL; omega) M hM _ hf) yv_X12_isIn wm_X12_127 rfl ⟨Nat.le_of_ble_eq_true rfl, Nat.le_of_ble_eq_true rfl, Nat.le_of_ble_eq_true rfl, Nat.le_of_ble_eq_true rfl⟩ rfl (Nat.le_of_ble_eq_true rfl) dX12_letter_4 ?_
  rintro r_1 M_2 h_r_1 - ⟨rfl, hf⟩
  refine g_if_eq hC 45 (zi_ h_r_1) dX12_letter_7 rfl (fun c_34 => ?_) (fun c_34 => ?_)
  · replace hf := hf.1 c_34
    refine g_iconst hC dX12_letter_45 ?_
    exact g_reti hC (by unfold inR; omega) hM ⟨rfl, hf⟩ dX12_letter_46
  · replace hf := hf.2 c_34
    refine g_iload_n hC 3 dX12_letter_10 rfl rfl ?_
    refine g_i2l hC i_v3 dX12_letter_11 ?_
    refine g_lconst (n := 0) hC dX12_letter_12 (by decide) ?_
    refine g_ldc2 (n := 5) hC wc_X12_125 (by decide) dX12_letter_13 ?_
    refine g_callSZ hC (sk := []) [JL v3, JL 0, JL 5] (c_X12_isIn l B D K v3 0 5 (inL_of i_v3) (by unfold inL; omega) (by unfold inL; omega) M hM _ hf) yv_X12_isIn wm_X12_127 rfl ⟨Nat.le_of_ble_eq_true rfl, Nat.le_of_ble_eq_true rfl, Nat.le_of_ble_eq_true rfl, Nat.le_of_ble_eq_true rfl⟩ rfl (Nat.le_of_ble_eq_true rfl) dX12_letter_16 ?_
    rintro r_3 M_4 h_r_3 - ⟨rfl, hf⟩
    refine g_if_eq hC 45 (zi_ h_r_3) dX12_letter_19 rfl (fun c_33 => ?_) (fun c_33 => ?_)
    · replace hf := hf.1 c_33
      refine g_iconst hC dX12_letter_45 ?_
      exact g_reti hC (by unfold inR; omega) hM ⟨rfl, hf⟩ dX12_letter_46
    · replace hf := hf.2 c_33
      refine g_iload_n hC 1 dX12_letter_22 rfl rfl ?_
      refine jn_elim (fun (k : Prop) => k → G p l e (rmF 2 46) s m args below meth c B D K 7 0 0 (ZI below args s B D K (fun r M1 => M = M1 ∧ Q r)) M 47 [(0, .ref (B + 95)), (1, J v1), (2, J v2), (3, J v3)] []) hf ?_ ?_
      · intro hf
        refine g_aload_n hC 0 dX12_letter_47 rfl rfl ?_
        refine g_getr hC okX12 sc95 13 (by decide) rfl wf_X12_27 dX12_letter_48 ?_
        refine g_iload_n hC 1 dX12_letter_51 rfl rfl ?_
        refine jn_elim (fun (k : Int → Prop) => ∀ (s1_5 : Int), k s1_5 → (inR s1_5) → G p l e (rmF 2 46) s m args below meth c B D K 7 0 0 (ZI below args s B D K (fun r M1 => M = M1 ∧ Q r)) M 61 [(2, J v2), (3, J v3)] [J s1_5, .ref (B + 100)]) hf ?_ ?_
        · intro s1_5 hf h_s1_5
          refine g_iload_n hC 0 dX12_letter_61 rfl rfl ?_
          refine g_iadd hC dX12_letter_62 ?_
          obtain ⟨q_6, hf⟩ := hf
          refine g_ialdk ((s1_5 + v2).toNat) hC sc100 q_6.1 q_6.2 rfl dX12_letter_63 ?_
          refine g_nm (fun v4_7 e_v4_7 => ?_)
          replace hf := hf v4_7 e_v4_7
          have h_v4_7 : inR v4_7 := by rw [e_v4_7]; exact (hM _ _)
          refine g_istore hC [(4, J v4_7), (2, J v2), (3, J v3)] dX12_letter_64 (by decide) rfl ?_
          refine g_iconst hC dX12_letter_66 ?_
          refine g_istore hC [(5, J 0), (4, J v4_7), (2, J v2), (3, J v3)] dX12_letter_67 (by decide) rfl ?_
          refine g_iload hC 1 dX12_letter_69 rfl ?_
          refine g_istore hC [(6, J v4_7), (5, J 0), (4, J v4_7), (2, J v2), (3, J v3)] dX12_letter_71 (by decide) rfl ?_
          refine jn_elim (fun (k : Int → Prop) => ∀ (v5_8 : Int), k v5_8 → (inR v5_8) → G p l e (rmF 2 46) s m args below meth c B D K 7 0 0 (ZI below args s B D K (fun r M1 => M = M1 ∧ Q r)) M 91 [(3, J v3), (4, J v4_7), (5, J v5_8)] []) hf ?_ ?_
          · intro v5_8 hf h_v5_8
            refine g_iload hC 2 dX12_letter_91 rfl ?_
            refine g_iconst hC dX12_letter_93 ?_
            refine g_isub hC dX12_letter_94 ?_
            obtain ⟨q_9, hf⟩ := hf
            refine g_nm (fun v6_10 e_v6_10 => ?_)
            replace hf := hf v6_10 e_v6_10
            have h_v6_10 : inR v6_10 := by rw [e_v6_10]; exact q_9
            refine g_istore hC [(6, J v6_10), (3, J v3), (4, J v4_7), (5, J v5_8)] dX12_letter_95 (by decide) rfl ?_
            refine jn_elim (fun (k : Int → Prop) => ∀ (v4_11 : Int), k v4_11 → (inR v4_11) → G p l e (rmF 2 46) s m args below meth c B D K 7 0 0 (ZI below args s B D K (fun r M1 => M = M1 ∧ Q r)) M 116 [(3, J v3), (4, J v4_11), (5, J v5_8)] []) hf ?_ ?_
            · intro v4_11 hf h_v4_11
              refine g_iload_n hC 0 dX12_letter_116 rfl rfl ?_
              refine g_iload hC 2 dX12_letter_117 rfl ?_
              refine g_icmp_ge hC 130 i_v3 h_v5_8 dX12_letter_119 rfl (fun c_12 => ?_) (fun c_12 => ?_)
              · replace hf := hf.1 c_12
                refine g_iconst hC dX12_letter_130 ?_
                exact g_reti hC (by unfold inR; omega) hM ⟨rfl, hf⟩ dX12_letter_131
              · replace hf := hf.2 c_12
                refine g_iload hC 1 dX12_letter_122 rfl ?_
                refine g_bipush hC dX12_letter_124 (by decide) ?_
                refine g_irem hC h_v4_11 (by unfold inR; omega) (by decide) dX12_letter_126 ?_
                refine g_goto hC 131 dX12_letter_127 rfl ?_
                exact g_reti hC (tmod_in h_v4_11 (by decide)) hM ⟨rfl, hf⟩ dX12_letter_131
            · intro J116 hJ116 hf
              refine g_sub [(3, J v3), (4, J v4_7), (5, J v5_8), (6, J v6_10)] [1, 2, 3, 0] rfl ?_
              refine wl2_elim (fun (v4_13 : Int) (v6_14 : Int) => inR v4_13 → inR v6_14 → G p l e (rmF 2 46) s m args below meth c B D K 7 0 0 (ZI below args s B D K (fun r M1 => M = M1 ∧ Q r)) M 97 [(3, J v3), (4, J v4_13), (5, J v5_8), (6, J v6_14)] []) ?_ 5000 v4_7 v6_10 hf h_v4_7 h_v6_10
              intro rec97 ih97 v4_13 v6_14 hf h_v4_13 h_v6_14
              unfold X12_letter_b97 at hf
              refine g_iload hC 3 dX12_letter_97 rfl ?_
              refine g_iload_n hC 0 dX12_letter_99 rfl rfl ?_
              refine g_icmp_le hC 116 h_v6_14 i_v3 dX12_letter_100 rfl (fun c_18 => ?_) (fun c_18 => ?_)
              · replace hf := hf.1 c_18
                refine g_sub [(3, J v3), (4, J v4_13), (5, J v5_8)] [0, 1, 2] rfl ?_
                exact hJ116 v4_13 hf h_v4_13
              · replace hf := hf.2 c_18
                refine g_iload hC 1 dX12_letter_103 rfl ?_
                refine g_bipush hC dX12_letter_105 (by decide) ?_
                refine g_idiv hC h_v4_13 (by unfold inR; omega) (by decide) dX12_letter_107 ?_
                refine g_nm (fun v4_15 e_v4_15 => ?_)
                replace hf := hf v4_15 e_v4_15
                have h_v4_15 : inR v4_15 := by rw [e_v4_15]; exact (tdiv_in h_v4_13 (by decide))
                refine g_istore hC [(4, J v4_15), (3, J v3), (5, J v5_8), (6, J v6_14)] dX12_letter_108 (by decide) rfl ?_
                obtain ⟨q_17, hf⟩ := hf
                obtain ⟨v6_16, e_v6_16⟩ : ∃ z : Int, z = v6_14 + (-1) := ⟨_, rfl⟩
                replace hf := hf v6_16 e_v6_16
                have h_v6_16 : inR v6_16 := by rw [e_v6_16]; exact q_17
                refine g_iincv hC 3 e_v6_16 [(6, J v6_16), (4, J v4_15), (3, J v3), (5, J v5_8)] dX12_letter_110 rfl (by decide) rfl ?_
                refine g_goto hC 97 dX12_letter_113 rfl ?_
                refine g_sub [(3, J v3), (4, J v4_15), (5, J v5_8), (6, J v6_16)] [2, 1, 3, 0] rfl ?_
                exact ih97 v4_15 v6_16 hf h_v4_15 h_v6_16
          · intro J91 hJ91 hf
            refine g_sub [(3, J v3), (4, J v4_7), (5, J 0), (6, J v4_7)] [4, 2, 1, 0] rfl ?_
            refine wl2_elim (fun (v5_19 : Int) (v6_20 : Int) => inR v5_19 → inR v6_20 → G p l e (rmF 2 46) s m args below meth c B D K 7 0 0 (ZI below args s B D K (fun r M1 => M = M1 ∧ Q r)) M 73 [(3, J v3), (4, J v4_7), (5, J v5_19), (6, J v6_20)] []) ?_ 5000 0 v4_7 hf (by unfold inR; omega) h_v4_7
            intro rec73 ih73 v5_19 v6_20 hf h_v5_19 h_v6_20
            unfold X12_letter_b73 at hf
            refine g_iload hC 3 dX12_letter_73 rfl ?_
            refine g_if_le hC 91 h_v6_20 dX12_letter_75 rfl (fun c_24 => ?_) (fun c_24 => ?_)
            · replace hf := hf.1 c_24
              refine g_sub [(3, J v3), (4, J v4_7), (5, J v5_19)] [0, 1, 2] rfl ?_
              exact hJ91 v5_19 hf h_v5_19
            · replace hf := hf.2 c_24
              obtain ⟨q_22, hf⟩ := hf
              obtain ⟨v5_21, e_v5_21⟩ : ∃ z : Int, z = v5_19 + 1 := ⟨_, rfl⟩
              replace hf := hf v5_21 e_v5_21
              have h_v5_21 : inR v5_21 := by rw [e_v5_21]; exact q_22
              refine g_iincv hC 2 e_v5_21 [(5, J v5_21), (3, J v3), (4, J v4_7), (6, J v6_20)] dX12_letter_78 rfl (by decide) rfl ?_
              refine g_iload hC 3 dX12_letter_81 rfl ?_
              refine g_bipush hC dX12_letter_83 (by decide) ?_
              refine g_idiv hC h_v6_20 (by unfold inR; omega) (by decide) dX12_letter_85 ?_
              refine g_nm (fun v6_23 e_v6_23 => ?_)
              replace hf := hf v6_23 e_v6_23
              have h_v6_23 : inR v6_23 := by rw [e_v6_23]; exact (tdiv_in h_v6_20 (by decide))
              refine g_istore hC [(6, J v6_23), (5, J v5_21), (3, J v3), (4, J v4_7)] dX12_letter_86 (by decide) rfl ?_
              refine g_goto hC 73 dX12_letter_88 rfl ?_
              refine g_sub [(3, J v3), (4, J v4_7), (5, J v5_21), (6, J v6_23)] [2, 3, 1, 0] rfl ?_
              exact ih73 v5_21 v6_23 hf h_v5_21 h_v6_23
        · intro J61 hJ61 hf
          refine g_if_ne hC 59 i_v1 dX12_letter_52 rfl (fun c_25 => ?_) (fun c_25 => ?_)
          · replace hf := hf.1 c_25
            refine g_bipush hC dX12_letter_59 (by decide) ?_
            refine g_sub [(2, J v2), (3, J v3)] [2, 3] rfl ?_
            exact hJ61 23 hf (by unfold inR; omega)
          · replace hf := hf.2 c_25
            refine g_iconst hC dX12_letter_55 ?_
            refine g_goto hC 61 dX12_letter_56 rfl ?_
            refine g_sub [(2, J v2), (3, J v3)] [2, 3] rfl ?_
            exact hJ61 3 hf (by unfold inR; omega)
      · intro J47 hJ47 hf
        refine g_if_ne hC 37 i_v1 dX12_letter_23 rfl (fun c_32 => ?_) (fun c_32 => ?_)
        · replace hf := hf.1 c_32
          refine g_aload_n hC 0 dX12_letter_37 rfl rfl ?_
          refine g_iload_n hC 2 dX12_letter_38 rfl rfl ?_
          refine g_callVZ hC (sk := []) [J v2] (c_X12_isRiver l B D K v2 i_v2 M hM _ hf) yv_X12_isRiver wm_X12_341 okX12.1 sc95 rfl ⟨Nat.le_of_ble_eq_true rfl, Nat.le_of_ble_eq_true rfl, Nat.le_of_ble_eq_true rfl, Nat.le_of_ble_eq_true rfl⟩ rfl (Nat.le_of_ble_eq_true rfl) dX12_letter_39 ?_
          rintro r_26 M_27 h_r_26 - ⟨rfl, hf⟩
          refine g_if_ne hC 47 (zi_ h_r_26) dX12_letter_42 rfl (fun c_28 => ?_) (fun c_28 => ?_)
          · replace hf := hf.1 c_28
            refine g_sub [(0, .ref (B + 95)), (1, J v1), (2, J v2), (3, J v3)] [0, 1, 2, 3] rfl ?_
            exact hJ47 hf
          · replace hf := hf.2 c_28
            refine g_iconst hC dX12_letter_45 ?_
            exact g_reti hC (by unfold inR; omega) hM ⟨rfl, hf⟩ dX12_letter_46
        · replace hf := hf.2 c_32
          refine g_aload_n hC 0 dX12_letter_26 rfl rfl ?_
          refine g_iload_n hC 2 dX12_letter_27 rfl rfl ?_
          refine g_callVZ hC (sk := []) [J v2] (c_X12_isPlace l B D K v2 i_v2 M hM _ hf) yv_X12_isPlace wm_X12_338 okX12.1 sc95 rfl ⟨Nat.le_of_ble_eq_true rfl, Nat.le_of_ble_eq_true rfl, Nat.le_of_ble_eq_true rfl, Nat.le_of_ble_eq_true rfl⟩ rfl (Nat.le_of_ble_eq_true rfl) dX12_letter_28 ?_
          rintro r_29 M_30 h_r_29 - ⟨rfl, hf⟩
          refine g_if_eq hC 45 (zi_ h_r_29) dX12_letter_31 rfl (fun c_31 => ?_) (fun c_31 => ?_)
          · replace hf := hf.1 c_31
            refine g_iconst hC dX12_letter_45 ?_
            exact g_reti hC (by unfold inR; omega) hM ⟨rfl, hf⟩ dX12_letter_46
          · replace hf := hf.2 c_31
            refine g_goto hC 47 dX12_letter_34 rfl ?_
            refine g_sub [(0, .ref (B + 95)), (1, J v1), (2, J v2), (3, J v3)] [0, 1, 2, 3] rfl ?_
            exact hJ47 hf
set_option maxHeartbeats 4000000 in
set_option maxRecDepth 100000 in
theorem c_X12_reach (l : Launch) (B : Nat) (D : va_G) (K : Nat → ClassId) (v1 : Int) (v2 : Int) (i_v1 : inR v1) (i_v2 : inR v2) (M : Mem) (hM : MR M) (Q : Int → Mem → Prop) (hf : f_X12_reach v1 v2 M Q) : CtI l yX12_reach cX12_reach 3 7 159 B D K [.ref (B + 95), J v1, J v2] M Q := by
  refine ct_i (by decide) (Nat.le_of_ble_eq_true rfl) ?_
  intro p e s m args below meth c hC
  have hC : Cx p s m args meth c D K cX12_reach 3 RX12 (some .int) := hC
  unfold f_X12_reach at hf
  refine (show G p l e (rmF 7 159) s m args below meth c B D K 3 0 0 (ZI below args s B D K Q) M 0 [(0, .ref (B + 95)), (1, J v1), (2, J v2)] [] from ?_)
  refine g_aload_n hC 0 dX12_reach_0 rfl rfl ?_
  refine g_iload_n hC 1 dX12_reach_1 rfl rfl ?_
  refine g_callVZ hC (sk := []) [J v1] (c_X12_isReach l B D K v1 i_v1 M hM _ hf) yv_X12_isReach wm_X12_344 okX12.1 sc95 rfl ⟨Nat.le_of_ble_eq_true rfl, Nat.le_of_ble_eq_true rfl, Nat.le_of_ble_eq_true rfl, Nat.le_of_ble_eq_true rfl⟩ rfl (Nat.le_of_ble_eq_true rfl) dX12_reach_2 ?_
  rintro r_1 M_2 h_r_1 - ⟨rfl, hf⟩
  refine g_if_ne hC 10 (zi_ h_r_1) dX12_reach_5 rfl (fun c_15 => ?_) (fun c_15 => ?_)
  · replace hf := hf.1 c_15
    refine g_aload_n hC 0 dX12_reach_10 rfl rfl ?_
    refine g_callVV hC (sk := []) [] (c_X12_lays l B D K   M hM _ hf) yv_X12_lays wm_X12_320 okX12.1 sc95 rfl ⟨Nat.le_of_ble_eq_true rfl, Nat.le_of_ble_eq_true rfl, Nat.le_of_ble_eq_true rfl, Nat.le_of_ble_eq_true rfl⟩ rfl (Nat.le_of_ble_eq_true rfl) dX12_reach_11 ?_
    intro M_3 h_M_3 hf
    refine g_iload_n hC 2 dX12_reach_14 rfl rfl ?_
    refine g_i2l hC i_v2 dX12_reach_15 ?_
    refine g_lconst (n := 0) hC dX12_reach_16 (by decide) ?_
    refine g_ldc2 (n := 4) hC wc_X12_347 (by decide) dX12_reach_17 ?_
    refine g_callSZ hC (sk := []) [JL v2, JL 0, JL 4] (c_X12_isIn l B D K v2 0 4 (inL_of i_v2) (by unfold inL; omega) (by unfold inL; omega) M_3 h_M_3 _ hf) yv_X12_isIn wm_X12_127 rfl ⟨Nat.le_of_ble_eq_true rfl, Nat.le_of_ble_eq_true rfl, Nat.le_of_ble_eq_true rfl, Nat.le_of_ble_eq_true rfl⟩ rfl (Nat.le_of_ble_eq_true rfl) dX12_reach_20 ?_
    rintro r_4 M_5 h_r_4 - ⟨rfl, hf⟩
    refine g_if_eq hC 35 (zi_ h_r_4) dX12_reach_23 rfl (fun c_14 => ?_) (fun c_14 => ?_)
    · replace hf := hf.1 c_14
      refine g_iload_n hC 2 dX12_reach_35 rfl rfl ?_
      refine g_iconst hC dX12_reach_36 ?_
      refine g_icmp_ne hC 49 i_v2 (by unfold inR; omega) dX12_reach_37 rfl (fun c_11 => ?_) (fun c_11 => ?_)
      · replace hf := hf.1 c_11
        refine g_iload_n hC 2 dX12_reach_49 rfl rfl ?_
        refine g_bipush hC dX12_reach_50 (by decide) ?_
        refine g_icmp_ne hC 67 i_v2 (by unfold inR; omega) dX12_reach_52 rfl (fun c_9 => ?_) (fun c_9 => ?_)
        · replace hf := hf.1 c_9
          refine g_iconst hC dX12_reach_67 ?_
          exact g_reti hC (by unfold inR; omega) h_M_3 hf dX12_reach_68
        · replace hf := hf.2 c_9
          refine g_aload_n hC 0 dX12_reach_55 rfl rfl ?_
          refine g_getr hC okX12 sc95 25 (by decide) rfl wf_X12_57 dX12_reach_56 ?_
          refine g_iload_n hC 1 dX12_reach_59 rfl rfl ?_
          obtain ⟨q_6, hf⟩ := hf
          refine g_ialdk (v1.toNat) hC sc110 q_6.1 q_6.2 rfl dX12_reach_60 ?_
          refine g_callSI hC (sk := []) [J (M_3 110 (v1.toNat))] (c_X12_count l B D K (M_3 110 (v1.toNat)) (h_M_3 _ _) M_3 h_M_3 _ hf) yv_X12_count wm_X12_323 rfl ⟨Nat.le_of_ble_eq_true rfl, Nat.le_of_ble_eq_true rfl, Nat.le_of_ble_eq_true rfl, Nat.le_of_ble_eq_true rfl⟩ rfl (Nat.le_of_ble_eq_true rfl) dX12_reach_61 ?_
          rintro r_7 M_8 h_r_7 - ⟨rfl, hf⟩
          refine g_goto hC 68 dX12_reach_64 rfl ?_
          exact g_reti hC h_r_7 h_M_3 hf dX12_reach_68
      · replace hf := hf.2 c_11
        refine g_aload_n hC 0 dX12_reach_40 rfl rfl ?_
        refine g_getr hC okX12 sc95 22 (by decide) rfl wf_X12_48 dX12_reach_41 ?_
        refine g_iload_n hC 1 dX12_reach_44 rfl rfl ?_
        obtain ⟨q_10, hf⟩ := hf
        refine g_ialdk (v1.toNat) hC sc107 q_10.1 q_10.2 rfl dX12_reach_45 ?_
        refine g_goto hC 68 dX12_reach_46 rfl ?_
        exact g_reti hC (h_M_3 _ _) h_M_3 hf dX12_reach_68
    · replace hf := hf.2 c_14
      refine g_aload_n hC 0 dX12_reach_26 rfl rfl ?_
      refine g_iload_n hC 1 dX12_reach_27 rfl rfl ?_
      refine g_iload_n hC 2 dX12_reach_28 rfl rfl ?_
      refine g_callVI hC (sk := []) [J v1, J v2] (c_X12_its l B D K v1 v2 i_v1 i_v2 M_3 h_M_3 _ hf) yv_X12_its wm_X12_252 okX12.1 sc95 rfl ⟨Nat.le_of_ble_eq_true rfl, Nat.le_of_ble_eq_true rfl, Nat.le_of_ble_eq_true rfl, Nat.le_of_ble_eq_true rfl⟩ rfl (Nat.le_of_ble_eq_true rfl) dX12_reach_29 ?_
      rintro r_12 M_13 h_r_12 - ⟨rfl, hf⟩
      refine g_goto hC 68 dX12_reach_32 rfl ?_
      exact g_reti hC h_r_12 h_M_3 hf dX12_reach_68
  · replace hf := hf.2 c_15
    refine g_iconst hC dX12_reach_8 ?_
    exact g_reti hC (by unfold inR; omega) hM hf dX12_reach_9
set_option maxHeartbeats 4000000 in
set_option maxRecDepth 100000 in
theorem c_X12_place (l : Launch) (B : Nat) (D : va_G) (K : Nat → ClassId) (v1 : Int) (v2 : Int) (i_v1 : inR v1) (i_v2 : inR v2) (M : Mem) (hM : MR M) (Q : Int → Mem → Prop) (hf : f_X12_place v1 v2 M Q) : CtI l yX12_place cX12_place 3 7 159 B D K [.ref (B + 95), J v1, J v2] M Q := by
  refine ct_i (by decide) (Nat.le_of_ble_eq_true rfl) ?_
  intro p e s m args below meth c hC
  have hC : Cx p s m args meth c D K cX12_place 3 RX12 (some .int) := hC
  unfold f_X12_place at hf
  refine (show G p l e (rmF 7 159) s m args below meth c B D K 3 0 0 (ZI below args s B D K Q) M 0 [(0, .ref (B + 95)), (1, J v1), (2, J v2)] [] from ?_)
  refine g_aload_n hC 0 dX12_place_0 rfl rfl ?_
  refine g_iload_n hC 1 dX12_place_1 rfl rfl ?_
  refine g_callVZ hC (sk := []) [J v1] (c_X12_isPlace l B D K v1 i_v1 M hM _ hf) yv_X12_isPlace wm_X12_338 okX12.1 sc95 rfl ⟨Nat.le_of_ble_eq_true rfl, Nat.le_of_ble_eq_true rfl, Nat.le_of_ble_eq_true rfl, Nat.le_of_ble_eq_true rfl⟩ rfl (Nat.le_of_ble_eq_true rfl) dX12_place_2 ?_
  rintro r_1 M_2 h_r_1 - ⟨rfl, hf⟩
  refine g_if_ne hC 10 (zi_ h_r_1) dX12_place_5 rfl (fun c_25 => ?_) (fun c_25 => ?_)
  · replace hf := hf.1 c_25
    refine g_aload_n hC 0 dX12_place_10 rfl rfl ?_
    refine g_callVV hC (sk := []) [] (c_X12_lays l B D K   M hM _ hf) yv_X12_lays wm_X12_320 okX12.1 sc95 rfl ⟨Nat.le_of_ble_eq_true rfl, Nat.le_of_ble_eq_true rfl, Nat.le_of_ble_eq_true rfl, Nat.le_of_ble_eq_true rfl⟩ rfl (Nat.le_of_ble_eq_true rfl) dX12_place_11 ?_
    intro M_3 h_M_3 hf
    refine g_iload_n hC 2 dX12_place_14 rfl rfl ?_
    by_cases c_5 : v2 = 0
    · replace hf := hf.1 c_5
      refine g_tabIn hC 0 56 i_v2 c_5 dX12_place_15 (by decide) (by decide) rfl rfl ?_
      refine g_aload_n hC 0 dX12_place_56 rfl rfl ?_
      refine g_getr hC okX12 sc95 17 (by decide) rfl wf_X12_33 dX12_place_57 ?_
      refine g_iload_n hC 1 dX12_place_60 rfl rfl ?_
      obtain ⟨q_4, hf⟩ := hf
      refine g_ialdk (v1.toNat) hC sc102 q_4.1 q_4.2 rfl dX12_place_61 ?_
      exact g_reti hC (h_M_3 _ _) h_M_3 hf dX12_place_62
    · replace hf := hf.2
      by_cases c_7 : v2 = 1
      · replace hf := hf.1 c_7
        refine g_tabIn hC 1 63 i_v2 c_7 dX12_place_15 (by decide) (by decide) rfl rfl ?_
        refine g_aload_n hC 0 dX12_place_63 rfl rfl ?_
        refine g_getr hC okX12 sc95 18 (by decide) rfl wf_X12_36 dX12_place_64 ?_
        refine g_iload_n hC 1 dX12_place_67 rfl rfl ?_
        obtain ⟨q_6, hf⟩ := hf
        refine g_ialdk (v1.toNat) hC sc103 q_6.1 q_6.2 rfl dX12_place_68 ?_
        exact g_reti hC (h_M_3 _ _) h_M_3 hf dX12_place_69
      · replace hf := hf.2
        by_cases c_12 : v2 = 2
        · replace hf := hf.1 c_12
          refine g_tabIn hC 2 70 i_v2 c_12 dX12_place_15 (by decide) (by decide) rfl rfl ?_
          refine g_aload_n hC 0 dX12_place_70 rfl rfl ?_
          refine g_iload_n hC 1 dX12_place_71 rfl rfl ?_
          refine g_callVZ hC (sk := []) [J v1] (c_X12_isSource l B D K v1 i_v1 M_3 h_M_3 _ hf) yv_X12_isSource wm_X12_262 okX12.1 sc95 rfl ⟨Nat.le_of_ble_eq_true rfl, Nat.le_of_ble_eq_true rfl, Nat.le_of_ble_eq_true rfl, Nat.le_of_ble_eq_true rfl⟩ rfl (Nat.le_of_ble_eq_true rfl) dX12_place_72 ?_
          rintro r_8 M_9 h_r_8 - ⟨rfl, hf⟩
          refine g_callSI hC (sk := []) [J r_8] (c_X12_flag l B D K r_8 (zi_ h_r_8) M_3 h_M_3 _ hf) yv_X12_flag wm_X12_255 rfl ⟨Nat.le_of_ble_eq_true rfl, Nat.le_of_ble_eq_true rfl, Nat.le_of_ble_eq_true rfl, Nat.le_of_ble_eq_true rfl⟩ rfl (Nat.le_of_ble_eq_true rfl) dX12_place_75 ?_
          rintro r_10 M_11 h_r_10 - ⟨rfl, hf⟩
          exact g_reti hC h_r_10 h_M_3 hf dX12_place_78
        · replace hf := hf.2
          by_cases c_17 : v2 = 3
          · replace hf := hf.1 c_17
            refine g_tabIn hC 3 79 i_v2 c_17 dX12_place_15 (by decide) (by decide) rfl rfl ?_
            refine g_aload_n hC 0 dX12_place_79 rfl rfl ?_
            refine g_iload_n hC 1 dX12_place_80 rfl rfl ?_
            refine g_callVZ hC (sk := []) [J v1] (c_X12_isMouth l B D K v1 i_v1 M_3 h_M_3 _ hf) yv_X12_isMouth wm_X12_317 okX12.1 sc95 rfl ⟨Nat.le_of_ble_eq_true rfl, Nat.le_of_ble_eq_true rfl, Nat.le_of_ble_eq_true rfl, Nat.le_of_ble_eq_true rfl⟩ rfl (Nat.le_of_ble_eq_true rfl) dX12_place_81 ?_
            rintro r_13 M_14 h_r_13 - ⟨rfl, hf⟩
            refine g_callSI hC (sk := []) [J r_13] (c_X12_flag l B D K r_13 (zi_ h_r_13) M_3 h_M_3 _ hf) yv_X12_flag wm_X12_255 rfl ⟨Nat.le_of_ble_eq_true rfl, Nat.le_of_ble_eq_true rfl, Nat.le_of_ble_eq_true rfl, Nat.le_of_ble_eq_true rfl⟩ rfl (Nat.le_of_ble_eq_true rfl) dX12_place_84 ?_
            rintro r_15 M_16 h_r_15 - ⟨rfl, hf⟩
            exact g_reti hC h_r_15 h_M_3 hf dX12_place_87
          · replace hf := hf.2
            by_cases c_19 : v2 = 4
            · replace hf := hf.1 c_19
              refine g_tabIn hC 4 88 i_v2 c_19 dX12_place_15 (by decide) (by decide) rfl rfl ?_
              refine g_aload_n hC 0 dX12_place_88 rfl rfl ?_
              refine g_getr hC okX12 sc95 21 (by decide) rfl wf_X12_45 dX12_place_89 ?_
              refine g_iload_n hC 1 dX12_place_92 rfl rfl ?_
              obtain ⟨q_18, hf⟩ := hf
              refine g_ialdk (v1.toNat) hC sc106 q_18.1 q_18.2 rfl dX12_place_93 ?_
              exact g_reti hC (h_M_3 _ _) h_M_3 hf dX12_place_94
            · replace hf := hf.2
              by_cases c_21 : v2 = 5
              · replace hf := hf.1 c_21
                refine g_tabIn hC 5 95 i_v2 c_21 dX12_place_15 (by decide) (by decide) rfl rfl ?_
                refine g_aload_n hC 0 dX12_place_95 rfl rfl ?_
                refine g_getr hC okX12 sc95 23 (by decide) rfl wf_X12_51 dX12_place_96 ?_
                refine g_iload_n hC 1 dX12_place_99 rfl rfl ?_
                obtain ⟨q_20, hf⟩ := hf
                refine g_ialdk (v1.toNat) hC sc108 q_20.1 q_20.2 rfl dX12_place_100 ?_
                exact g_reti hC (h_M_3 _ _) h_M_3 hf dX12_place_101
              · replace hf := hf.2
                by_cases c_23 : v2 = 6
                · replace hf := hf.1 c_23
                  refine g_tabIn hC 6 102 i_v2 c_23 dX12_place_15 (by decide) (by decide) rfl rfl ?_
                  refine g_aload_n hC 0 dX12_place_102 rfl rfl ?_
                  refine g_getr hC okX12 sc95 24 (by decide) rfl wf_X12_54 dX12_place_103 ?_
                  refine g_iload_n hC 1 dX12_place_106 rfl rfl ?_
                  obtain ⟨q_22, hf⟩ := hf
                  refine g_ialdk (v1.toNat) hC sc109 q_22.1 q_22.2 rfl dX12_place_107 ?_
                  exact g_reti hC (h_M_3 _ _) h_M_3 hf dX12_place_108
                · replace hf := hf.2
                  have c_24 : v2 < 0 ∨ 6 < v2 := by omega
                  replace hf := hf c_24
                  refine g_tabOut hC 109 i_v2 dX12_place_15 c_24 rfl ?_
                  refine g_iconst hC dX12_place_109 ?_
                  exact g_reti hC (by unfold inR; omega) h_M_3 hf dX12_place_110
  · replace hf := hf.2 c_25
    refine g_iconst hC dX12_place_8 ?_
    exact g_reti hC (by unfold inR; omega) hM hf dX12_place_9
set_option maxHeartbeats 4000000 in
set_option maxRecDepth 100000 in
theorem c_X12_rankOf (l : Launch) (B : Nat) (D : va_G) (K : Nat → ClassId) (v1 : Int) (v2 : Int) (v3 : Int) (i_v1 : inR v1) (i_v2 : inR v2) (i_v3 : inR v3) (M : Mem) (hM : MR M) (Q : Int → Prop) (hf : f_X12_rankOf v1 v2 v3 M Q) : CtI l yX12_rankOf cX12_rankOf 4 1 22 B D K [.ref (B + 95), J v1, J v2, J v3] M (fun r M1 => M = M1 ∧ Q r) := by
  refine ct_i (by decide) (Nat.le_of_ble_eq_true rfl) ?_
  intro p e s m args below meth c hC
  have hC : Cx p s m args meth c D K cX12_rankOf 4 RX12 (some .int) := hC
  unfold f_X12_rankOf at hf
  refine (show G p l e (rmF 1 22) s m args below meth c B D K 4 0 0 (ZI below args s B D K (fun r M1 => M = M1 ∧ Q r)) M 0 [(0, .ref (B + 95)), (1, J v1), (2, J v2), (3, J v3)] [] from ?_)
  refine g_iload_n hC 2 dX12_rankOf_0 rfl rfl ?_
  refine g_if_ne hC 13 i_v2 dX12_rankOf_1 rfl (fun c_13 => ?_) (fun c_13 => ?_)
  · replace hf := hf.1 c_13
    refine g_iload_n hC 2 dX12_rankOf_13 rfl rfl ?_
    refine g_iconst hC dX12_rankOf_14 ?_
    refine g_icmp_ne hC 30 i_v2 (by unfold inR; omega) dX12_rankOf_15 rfl (fun c_11 => ?_) (fun c_11 => ?_)
    · replace hf := hf.1 c_11
      refine g_iload_n hC 2 dX12_rankOf_30 rfl rfl ?_
      refine g_iconst hC dX12_rankOf_31 ?_
      refine g_icmp_ne hC 48 i_v2 (by unfold inR; omega) dX12_rankOf_32 rfl (fun c_7 => ?_) (fun c_7 => ?_)
      · replace hf := hf.1 c_7
        refine g_aload_n hC 0 dX12_rankOf_48 rfl rfl ?_
        refine g_getr hC okX12 sc95 30 (by decide) rfl wf_X12_72 dX12_rankOf_49 ?_
        refine g_iload_n hC 3 dX12_rankOf_52 rfl rfl ?_
        refine g_iload_n hC 1 dX12_rankOf_53 rfl rfl ?_
        refine g_callSI hC (sk := [.ref (B + 115)]) [J v3, J v1] (c_X12_by l B D K v3 v1 i_v3 i_v1 M hM _ hf) yv_X12_by wm_X12_282 rfl ⟨Nat.le_of_ble_eq_true rfl, Nat.le_of_ble_eq_true rfl, Nat.le_of_ble_eq_true rfl, Nat.le_of_ble_eq_true rfl⟩ rfl (Nat.le_of_ble_eq_true rfl) dX12_rankOf_54 ?_
        rintro r_1 M_2 h_r_1 - ⟨rfl, hf⟩
        obtain ⟨q_3, hf⟩ := hf
        refine g_ialdk (r_1.toNat) hC sc115 q_3.1 q_3.2 rfl dX12_rankOf_57 ?_
        exact g_reti hC (hM _ _) hM ⟨rfl, hf⟩ dX12_rankOf_58
      · replace hf := hf.2 c_7
        refine g_aload_n hC 0 dX12_rankOf_35 rfl rfl ?_
        refine g_getr hC okX12 sc95 29 (by decide) rfl wf_X12_69 dX12_rankOf_36 ?_
        refine g_iload_n hC 3 dX12_rankOf_39 rfl rfl ?_
        refine g_iload_n hC 1 dX12_rankOf_40 rfl rfl ?_
        refine g_callSI hC (sk := [.ref (B + 114)]) [J v3, J v1] (c_X12_by l B D K v3 v1 i_v3 i_v1 M hM _ hf) yv_X12_by wm_X12_282 rfl ⟨Nat.le_of_ble_eq_true rfl, Nat.le_of_ble_eq_true rfl, Nat.le_of_ble_eq_true rfl, Nat.le_of_ble_eq_true rfl⟩ rfl (Nat.le_of_ble_eq_true rfl) dX12_rankOf_41 ?_
        rintro r_4 M_5 h_r_4 - ⟨rfl, hf⟩
        obtain ⟨q_6, hf⟩ := hf
        refine g_ialdk (r_4.toNat) hC sc114 q_6.1 q_6.2 rfl dX12_rankOf_44 ?_
        refine g_goto hC 58 dX12_rankOf_45 rfl ?_
        exact g_reti hC (hM _ _) hM ⟨rfl, hf⟩ dX12_rankOf_58
    · replace hf := hf.2 c_11
      refine g_aload_n hC 0 dX12_rankOf_18 rfl rfl ?_
      refine g_getr hC okX12 sc95 25 (by decide) rfl wf_X12_57 dX12_rankOf_19 ?_
      refine g_iload_n hC 1 dX12_rankOf_22 rfl rfl ?_
      obtain ⟨q_8, hf⟩ := hf
      refine g_ialdk (v1.toNat) hC sc110 q_8.1 q_8.2 rfl dX12_rankOf_23 ?_
      refine g_callSI hC (sk := []) [J (M 110 (v1.toNat))] (c_X12_count l B D K (M 110 (v1.toNat)) (hM _ _) M hM _ hf) yv_X12_count wm_X12_323 rfl ⟨Nat.le_of_ble_eq_true rfl, Nat.le_of_ble_eq_true rfl, Nat.le_of_ble_eq_true rfl, Nat.le_of_ble_eq_true rfl⟩ rfl (Nat.le_of_ble_eq_true rfl) dX12_rankOf_24 ?_
      rintro r_9 M_10 h_r_9 - ⟨rfl, hf⟩
      refine g_goto hC 58 dX12_rankOf_27 rfl ?_
      exact g_reti hC h_r_9 hM ⟨rfl, hf⟩ dX12_rankOf_58
  · replace hf := hf.2 c_13
    refine g_aload_n hC 0 dX12_rankOf_4 rfl rfl ?_
    refine g_getr hC okX12 sc95 26 (by decide) rfl wf_X12_60 dX12_rankOf_5 ?_
    refine g_iload_n hC 1 dX12_rankOf_8 rfl rfl ?_
    obtain ⟨q_12, hf⟩ := hf
    refine g_ialdk (v1.toNat) hC sc111 q_12.1 q_12.2 rfl dX12_rankOf_9 ?_
    refine g_goto hC 58 dX12_rankOf_10 rfl ?_
    exact g_reti hC (hM _ _) hM ⟨rfl, hf⟩ dX12_rankOf_58
set_option maxHeartbeats 4000000 in
set_option maxRecDepth 100000 in
theorem c_X12_rank (l : Launch) (B : Nat) (D : va_G) (K : Nat → ClassId) (v1 : Int) (v2 : Int) (v3 : Int) (i_v1 : inR v1) (i_v2 : inR v2) (i_v3 : inR v3) (M : Mem) (hM : MR M) (Q : Int → Mem → Prop) (hf : f_X12_rank v1 v2 v3 M Q) : CtI l yX12_rank cX12_rank 4 7 159 B D K [.ref (B + 95), J v1, J v2, J v3] M Q := by
  refine ct_i (by decide) (Nat.le_of_ble_eq_true rfl) ?_
  intro p e s m args below meth c hC
  have hC : Cx p s m args meth c D K cX12_rank 4 RX12 (some .int) := hC
  unfold f_X12_rank at hf
  refine (show G p l e (rmF 7 159) s m args below meth c B D K 4 0 0 (ZI below args s B D K Q) M 0 [(0, .ref (B + 95)), (1, J v1), (2, J v2), (3, J v3)] [] from ?_)
  refine g_aload_n hC 0 dX12_rank_0 rfl rfl ?_
  refine g_iload_n hC 1 dX12_rank_1 rfl rfl ?_
  refine g_callVZ hC (sk := []) [J v1] (c_X12_isReach l B D K v1 i_v1 M hM _ hf) yv_X12_isReach wm_X12_344 okX12.1 sc95 rfl ⟨Nat.le_of_ble_eq_true rfl, Nat.le_of_ble_eq_true rfl, Nat.le_of_ble_eq_true rfl, Nat.le_of_ble_eq_true rfl⟩ rfl (Nat.le_of_ble_eq_true rfl) dX12_rank_2 ?_
  rintro r_1 M_2 h_r_1 - ⟨rfl, hf⟩
  refine g_if_eq hC 37 (zi_ h_r_1) dX12_rank_5 rfl (fun c_13 => ?_) (fun c_13 => ?_)
  · replace hf := hf.1 c_13
    refine g_iconst hC dX12_rank_37 ?_
    exact g_reti hC (by unfold inR; omega) hM hf dX12_rank_38
  · replace hf := hf.2 c_13
    refine g_iload_n hC 2 dX12_rank_8 rfl rfl ?_
    refine g_i2l hC i_v2 dX12_rank_9 ?_
    refine g_lconst (n := 0) hC dX12_rank_10 (by decide) ?_
    refine g_ldc2 (n := 3) hC wc_X12_349 (by decide) dX12_rank_11 ?_
    refine g_callSZ hC (sk := []) [JL v2, JL 0, JL 3] (c_X12_isIn l B D K v2 0 3 (inL_of i_v2) (by unfold inL; omega) (by unfold inL; omega) M hM _ hf) yv_X12_isIn wm_X12_127 rfl ⟨Nat.le_of_ble_eq_true rfl, Nat.le_of_ble_eq_true rfl, Nat.le_of_ble_eq_true rfl, Nat.le_of_ble_eq_true rfl⟩ rfl (Nat.le_of_ble_eq_true rfl) dX12_rank_14 ?_
    rintro r_3 M_4 h_r_3 - ⟨rfl, hf⟩
    refine g_if_eq hC 37 (zi_ h_r_3) dX12_rank_17 rfl (fun c_12 => ?_) (fun c_12 => ?_)
    · replace hf := hf.1 c_12
      refine g_iconst hC dX12_rank_37 ?_
      exact g_reti hC (by unfold inR; omega) hM hf dX12_rank_38
    · replace hf := hf.2 c_12
      refine g_iload_n hC 2 dX12_rank_20 rfl rfl ?_
      refine g_iconst hC dX12_rank_21 ?_
      refine jn_elim (fun (k : Prop) => k → G p l e (rmF 7 159) s m args below meth c B D K 4 0 0 (ZI below args s B D K Q) M 39 [(0, .ref (B + 95)), (1, J v1), (2, J v2), (3, J v3)] []) hf ?_ ?_
      · intro hf
        refine g_aload_n hC 0 dX12_rank_39 rfl rfl ?_
        refine g_callVV hC (sk := []) [] (c_X12_lays l B D K   M hM _ hf) yv_X12_lays wm_X12_320 okX12.1 sc95 rfl ⟨Nat.le_of_ble_eq_true rfl, Nat.le_of_ble_eq_true rfl, Nat.le_of_ble_eq_true rfl, Nat.le_of_ble_eq_true rfl⟩ rfl (Nat.le_of_ble_eq_true rfl) dX12_rank_40 ?_
        intro M_5 h_M_5 hf
        refine g_aload_n hC 0 dX12_rank_43 rfl rfl ?_
        refine g_iload_n hC 1 dX12_rank_44 rfl rfl ?_
        refine g_iload_n hC 2 dX12_rank_45 rfl rfl ?_
        refine g_iload_n hC 3 dX12_rank_46 rfl rfl ?_
        refine g_callVI hC (sk := []) [J v1, J v2, J v3] (c_X12_rankOf l B D K v1 v2 v3 i_v1 i_v2 i_v3 M_5 h_M_5 _ hf) yv_X12_rankOf wm_X12_353 okX12.1 sc95 rfl ⟨Nat.le_of_ble_eq_true rfl, Nat.le_of_ble_eq_true rfl, Nat.le_of_ble_eq_true rfl, Nat.le_of_ble_eq_true rfl⟩ rfl (Nat.le_of_ble_eq_true rfl) dX12_rank_47 ?_
        rintro r_6 M_7 h_r_6 - ⟨rfl, hf⟩
        exact g_reti hC h_r_6 h_M_5 hf dX12_rank_50
      · intro J39 hJ39 hf
        refine g_icmp_le hC 39 i_v2 (by unfold inR; omega) dX12_rank_22 rfl (fun c_11 => ?_) (fun c_11 => ?_)
        · replace hf := hf.1 c_11
          refine g_sub [(0, .ref (B + 95)), (1, J v1), (2, J v2), (3, J v3)] [0, 1, 2, 3] rfl ?_
          exact hJ39 hf
        · replace hf := hf.2 c_11
          refine g_iload_n hC 3 dX12_rank_25 rfl rfl ?_
          refine g_i2l hC i_v3 dX12_rank_26 ?_
          refine g_lconst (n := 0) hC dX12_rank_27 (by decide) ?_
          refine g_ldc2 (n := 2) hC wc_X12_351 (by decide) dX12_rank_28 ?_
          refine g_callSZ hC (sk := []) [JL v3, JL 0, JL 2] (c_X12_isIn l B D K v3 0 2 (inL_of i_v3) (by unfold inL; omega) (by unfold inL; omega) M hM _ hf) yv_X12_isIn wm_X12_127 rfl ⟨Nat.le_of_ble_eq_true rfl, Nat.le_of_ble_eq_true rfl, Nat.le_of_ble_eq_true rfl, Nat.le_of_ble_eq_true rfl⟩ rfl (Nat.le_of_ble_eq_true rfl) dX12_rank_31 ?_
          rintro r_8 M_9 h_r_8 - ⟨rfl, hf⟩
          refine g_if_ne hC 39 (zi_ h_r_8) dX12_rank_34 rfl (fun c_10 => ?_) (fun c_10 => ?_)
          · replace hf := hf.1 c_10
            refine g_sub [(0, .ref (B + 95)), (1, J v1), (2, J v2), (3, J v3)] [0, 1, 2, 3] rfl ?_
            exact hJ39 hf
          · replace hf := hf.2 c_10
            refine g_iconst hC dX12_rank_37 ?_
            exact g_reti hC (by unfold inR; omega) hM hf dX12_rank_38
set_option maxHeartbeats 4000000 in
set_option maxRecDepth 100000 in
theorem c_X12_goes (l : Launch) (B : Nat) (D : va_G) (K : Nat → ClassId) (v1 : Int) (v2 : Int) (v3 : Int) (i_v1 : inR v1) (i_v2 : inR v2) (i_v3 : inR v3) (M : Mem) (hM : MR M) (Q : Int → Mem → Prop) (hf : f_X12_goes v1 v2 v3 M Q) : CtI l yX12_goes cX12_goes 4 7 159 B D K [.ref (B + 95), J v1, J v2, J v3] M Q := by
  refine ct_i (by decide) (Nat.le_of_ble_eq_true rfl) ?_
  intro p e s m args below meth c hC
  have hC : Cx p s m args meth c D K cX12_goes 4 RX12 (some .int) := hC
  unfold f_X12_goes at hf
  refine (show G p l e (rmF 7 159) s m args below meth c B D K 4 0 0 (ZI below args s B D K Q) M 0 [(0, .ref (B + 95)), (1, J v1), (2, J v2), (3, J v3)] [] from ?_)
  refine g_aload_n hC 0 dX12_goes_0 rfl rfl ?_
  refine g_iload_n hC 1 dX12_goes_1 rfl rfl ?_
  refine g_callVZ hC (sk := []) [J v1] (c_X12_isReach l B D K v1 i_v1 M hM _ hf) yv_X12_isReach wm_X12_344 okX12.1 sc95 rfl ⟨Nat.le_of_ble_eq_true rfl, Nat.le_of_ble_eq_true rfl, Nat.le_of_ble_eq_true rfl, Nat.le_of_ble_eq_true rfl⟩ rfl (Nat.le_of_ble_eq_true rfl) dX12_goes_2 ?_
  rintro r_1 M_2 h_r_1 - ⟨rfl, hf⟩
  refine g_if_eq hC 30 (zi_ h_r_1) dX12_goes_5 rfl (fun c_17 => ?_) (fun c_17 => ?_)
  · replace hf := hf.1 c_17
    refine g_iconst hC dX12_goes_30 ?_
    exact g_reti hC (by unfold inR; omega) hM hf dX12_goes_31
  · replace hf := hf.2 c_17
    refine g_iload_n hC 2 dX12_goes_8 rfl rfl ?_
    refine g_i2l hC i_v2 dX12_goes_9 ?_
    refine g_lconst (n := 0) hC dX12_goes_10 (by decide) ?_
    refine g_ldc2 (n := 2) hC wc_X12_351 (by decide) dX12_goes_11 ?_
    refine g_callSZ hC (sk := []) [JL v2, JL 0, JL 2] (c_X12_isIn l B D K v2 0 2 (inL_of i_v2) (by unfold inL; omega) (by unfold inL; omega) M hM _ hf) yv_X12_isIn wm_X12_127 rfl ⟨Nat.le_of_ble_eq_true rfl, Nat.le_of_ble_eq_true rfl, Nat.le_of_ble_eq_true rfl, Nat.le_of_ble_eq_true rfl⟩ rfl (Nat.le_of_ble_eq_true rfl) dX12_goes_14 ?_
    rintro r_3 M_4 h_r_3 - ⟨rfl, hf⟩
    refine g_if_eq hC 30 (zi_ h_r_3) dX12_goes_17 rfl (fun c_16 => ?_) (fun c_16 => ?_)
    · replace hf := hf.1 c_16
      refine g_iconst hC dX12_goes_30 ?_
      exact g_reti hC (by unfold inR; omega) hM hf dX12_goes_31
    · replace hf := hf.2 c_16
      refine g_iload_n hC 3 dX12_goes_20 rfl rfl ?_
      refine g_i2l hC i_v3 dX12_goes_21 ?_
      refine g_lconst (n := 0) hC dX12_goes_22 (by decide) ?_
      refine g_lconst (n := 1) hC dX12_goes_23 (by decide) ?_
      refine g_callSZ hC (sk := []) [JL v3, JL 0, JL 1] (c_X12_isIn l B D K v3 0 1 (inL_of i_v3) (by unfold inL; omega) (by unfold inL; omega) M hM _ hf) yv_X12_isIn wm_X12_127 rfl ⟨Nat.le_of_ble_eq_true rfl, Nat.le_of_ble_eq_true rfl, Nat.le_of_ble_eq_true rfl, Nat.le_of_ble_eq_true rfl⟩ rfl (Nat.le_of_ble_eq_true rfl) dX12_goes_24 ?_
      rintro r_5 M_6 h_r_5 - ⟨rfl, hf⟩
      refine g_if_ne hC 32 (zi_ h_r_5) dX12_goes_27 rfl (fun c_15 => ?_) (fun c_15 => ?_)
      · replace hf := hf.1 c_15
        refine g_aload_n hC 0 dX12_goes_32 rfl rfl ?_
        refine g_callVV hC (sk := []) [] (c_X12_lays l B D K   M hM _ hf) yv_X12_lays wm_X12_320 okX12.1 sc95 rfl ⟨Nat.le_of_ble_eq_true rfl, Nat.le_of_ble_eq_true rfl, Nat.le_of_ble_eq_true rfl, Nat.le_of_ble_eq_true rfl⟩ rfl (Nat.le_of_ble_eq_true rfl) dX12_goes_33 ?_
        intro M_7 h_M_7 hf
        refine g_iload_n hC 3 dX12_goes_36 rfl rfl ?_
        refine g_if_ne hC 53 i_v3 dX12_goes_37 rfl (fun c_14 => ?_) (fun c_14 => ?_)
        · replace hf := hf.1 c_14
          refine g_aload_n hC 0 dX12_goes_53 rfl rfl ?_
          refine g_getr hC okX12 sc95 28 (by decide) rfl wf_X12_66 dX12_goes_54 ?_
          refine g_iload_n hC 2 dX12_goes_57 rfl rfl ?_
          refine g_iload_n hC 1 dX12_goes_58 rfl rfl ?_
          refine g_callSI hC (sk := [.ref (B + 113)]) [J v2, J v1] (c_X12_by l B D K v2 v1 i_v2 i_v1 M_7 h_M_7 _ hf) yv_X12_by wm_X12_282 rfl ⟨Nat.le_of_ble_eq_true rfl, Nat.le_of_ble_eq_true rfl, Nat.le_of_ble_eq_true rfl, Nat.le_of_ble_eq_true rfl⟩ rfl (Nat.le_of_ble_eq_true rfl) dX12_goes_59 ?_
          rintro r_8 M_9 h_r_8 - ⟨rfl, hf⟩
          obtain ⟨q_10, hf⟩ := hf
          refine g_ialdk (r_8.toNat) hC sc113 q_10.1 q_10.2 rfl dX12_goes_62 ?_
          exact g_reti hC (h_M_7 _ _) h_M_7 hf dX12_goes_63
        · replace hf := hf.2 c_14
          refine g_aload_n hC 0 dX12_goes_40 rfl rfl ?_
          refine g_getr hC okX12 sc95 27 (by decide) rfl wf_X12_63 dX12_goes_41 ?_
          refine g_iload_n hC 2 dX12_goes_44 rfl rfl ?_
          refine g_iload_n hC 1 dX12_goes_45 rfl rfl ?_
          refine g_callSI hC (sk := [.ref (B + 112)]) [J v2, J v1] (c_X12_by l B D K v2 v1 i_v2 i_v1 M_7 h_M_7 _ hf) yv_X12_by wm_X12_282 rfl ⟨Nat.le_of_ble_eq_true rfl, Nat.le_of_ble_eq_true rfl, Nat.le_of_ble_eq_true rfl, Nat.le_of_ble_eq_true rfl⟩ rfl (Nat.le_of_ble_eq_true rfl) dX12_goes_46 ?_
          rintro r_11 M_12 h_r_11 - ⟨rfl, hf⟩
          obtain ⟨q_13, hf⟩ := hf
          refine g_ialdk (r_11.toNat) hC sc112 q_13.1 q_13.2 rfl dX12_goes_49 ?_
          refine g_goto hC 63 dX12_goes_50 rfl ?_
          exact g_reti hC (h_M_7 _ _) h_M_7 hf dX12_goes_63
      · replace hf := hf.2 c_15
        refine g_iconst hC dX12_goes_30 ?_
        exact g_reti hC (by unfold inR; omega) hM hf dX12_goes_31
set_option maxHeartbeats 4000000 in
set_option maxRecDepth 100000 in
theorem c_X12_stem (l : Launch) (B : Nat) (D : va_G) (K : Nat → ClassId) (v1 : Int) (v2 : Int) (v3 : Int) (i_v1 : inR v1) (i_v2 : inR v2) (i_v3 : inR v3) (M : Mem) (hM : MR M) (Q : Int → Mem → Prop) (hf : f_X12_stem v1 v2 v3 M Q) : CtI l yX12_stem cX12_stem 6 7 159 B D K [.ref (B + 95), J v1, J v2, J v3] M Q := by
  refine ct_i (by decide) (Nat.le_of_ble_eq_true rfl) ?_
  intro p e s m args below meth c hC
  have hC : Cx p s m args meth c D K cX12_stem 6 RX12 (some .int) := hC
  unfold f_X12_stem at hf
  refine (show G p l e (rmF 7 159) s m args below meth c B D K 6 0 0 (ZI below args s B D K Q) M 0 [(0, .ref (B + 95)), (1, J v1), (2, J v2), (3, J v3)] [] from ?_)
  refine g_aload_n hC 0 dX12_stem_0 rfl rfl ?_
  refine g_iload_n hC 1 dX12_stem_1 rfl rfl ?_
  refine g_callVZ hC (sk := []) [J v1] (c_X12_isReach l B D K v1 i_v1 M hM _ hf) yv_X12_isReach wm_X12_344 okX12.1 sc95 rfl ⟨Nat.le_of_ble_eq_true rfl, Nat.le_of_ble_eq_true rfl, Nat.le_of_ble_eq_true rfl, Nat.le_of_ble_eq_true rfl⟩ rfl (Nat.le_of_ble_eq_true rfl) dX12_stem_2 ?_
  rintro r_1 M_2 h_r_1 - ⟨rfl, hf⟩
  refine g_if_eq hC 25 (zi_ h_r_1) dX12_stem_5 rfl (fun c_22 => ?_) (fun c_22 => ?_)
  · replace hf := hf.1 c_22
    refine g_iconst hC dX12_stem_25 ?_
    exact g_reti hC (by unfold inR; omega) hM hf dX12_stem_26
  · replace hf := hf.2 c_22
    refine g_iload_n hC 2 dX12_stem_8 rfl rfl ?_
    refine g_i2l hC i_v2 dX12_stem_9 ?_
    refine g_lconst (n := 0) hC dX12_stem_10 (by decide) ?_
    refine g_ldc2 (n := 2) hC wc_X12_351 (by decide) dX12_stem_11 ?_
    refine g_callSZ hC (sk := []) [JL v2, JL 0, JL 2] (c_X12_isIn l B D K v2 0 2 (inL_of i_v2) (by unfold inL; omega) (by unfold inL; omega) M hM _ hf) yv_X12_isIn wm_X12_127 rfl ⟨Nat.le_of_ble_eq_true rfl, Nat.le_of_ble_eq_true rfl, Nat.le_of_ble_eq_true rfl, Nat.le_of_ble_eq_true rfl⟩ rfl (Nat.le_of_ble_eq_true rfl) dX12_stem_14 ?_
    rintro r_3 M_4 h_r_3 - ⟨rfl, hf⟩
    refine g_if_eq hC 25 (zi_ h_r_3) dX12_stem_17 rfl (fun c_21 => ?_) (fun c_21 => ?_)
    · replace hf := hf.1 c_21
      refine g_iconst hC dX12_stem_25 ?_
      exact g_reti hC (by unfold inR; omega) hM hf dX12_stem_26
    · replace hf := hf.2 c_21
      refine g_iload_n hC 3 dX12_stem_20 rfl rfl ?_
      refine g_iconst hC dX12_stem_21 ?_
      refine g_icmp_ge hC 27 i_v3 (by unfold inR; omega) dX12_stem_22 rfl (fun c_20 => ?_) (fun c_20 => ?_)
      · replace hf := hf.1 c_20
        refine g_aload_n hC 0 dX12_stem_27 rfl rfl ?_
        refine g_callVV hC (sk := []) [] (c_X12_lays l B D K   M hM _ hf) yv_X12_lays wm_X12_320 okX12.1 sc95 rfl ⟨Nat.le_of_ble_eq_true rfl, Nat.le_of_ble_eq_true rfl, Nat.le_of_ble_eq_true rfl, Nat.le_of_ble_eq_true rfl⟩ rfl (Nat.le_of_ble_eq_true rfl) dX12_stem_28 ?_
        intro M_5 h_M_5 hf
        refine g_iconst hC dX12_stem_31 ?_
        refine g_istore hC [(4, J 0), (0, .ref (B + 95)), (1, J v1), (2, J v2), (3, J v3)] dX12_stem_32 (by decide) rfl ?_
        refine g_aload_n hC 1 dX12_stem_34 rfl rfl ?_
        refine g_iload_n hC 2 dX12_stem_35 rfl rfl ?_
        refine g_iload_n hC 3 dX12_stem_36 rfl rfl ?_
        refine g_callVI hC (sk := []) [J v1, J v2] (c_X12_topOf l B D K v1 v2 i_v1 i_v2 M_5 h_M_5 _ hf) yv_X12_topOf wm_X12_299 okX12.1 sc95 rfl ⟨Nat.le_of_ble_eq_true rfl, Nat.le_of_ble_eq_true rfl, Nat.le_of_ble_eq_true rfl, Nat.le_of_ble_eq_true rfl⟩ rfl (Nat.le_of_ble_eq_true rfl) dX12_stem_37 ?_
        rintro r_6 M_7 h_r_6 - ⟨rfl, hf⟩
        refine g_istore hC [(5, J r_6), (4, J 0), (0, .ref (B + 95)), (1, J v1), (2, J v2), (3, J v3)] dX12_stem_40 (by decide) rfl ?_
        refine jn_elim (fun (k : Int → Prop) => ∀ (v4_8 : Int), k v4_8 → (inR v4_8) → G p l e (rmF 7 159) s m args below meth c B D K 6 0 0 (ZI below args s B D K Q) M_5 76 [(3, J v3), (4, J v4_8)] []) hf ?_ ?_
        · intro v4_8 hf h_v4_8
          refine g_iload_n hC 0 dX12_stem_76 rfl rfl ?_
          refine g_iconst hC dX12_stem_77 ?_
          refine g_icmp_ne hC 86 i_v3 (by unfold inR; omega) dX12_stem_78 rfl (fun c_9 => ?_) (fun c_9 => ?_)
          · replace hf := hf.1 c_9
            refine g_iconst hC dX12_stem_86 ?_
            exact g_reti hC (by unfold inR; omega) h_M_5 hf dX12_stem_87
          · replace hf := hf.2 c_9
            refine g_iload hC 1 dX12_stem_81 rfl ?_
            refine g_goto hC 87 dX12_stem_83 rfl ?_
            exact g_reti hC h_v4_8 h_M_5 hf dX12_stem_87
        · intro J76 hJ76 hf
          refine g_sub [(0, .ref (B + 95)), (2, J v2), (3, J v3), (4, J 0), (5, J r_6)] [2, 4, 5, 1, 0] rfl ?_
          refine wl2_elim (fun (v4_10 : Int) (v5_11 : Int) => inR v4_10 → inR v5_11 → G p l e (rmF 7 159) s m args below meth c B D K 6 0 0 (ZI below args s B D K Q) M_5 42 [(0, .ref (B + 95)), (2, J v2), (3, J v3), (4, J v4_10), (5, J v5_11)] []) ?_ 5000 0 r_6 hf (by unfold inR; omega) h_r_6
          intro rec42 ih42 v4_10 v5_11 hf h_v4_10 h_v5_11
          unfold X12_stem_b42 at hf
          refine g_iload hC 4 dX12_stem_42 rfl ?_
          refine g_iconst hC dX12_stem_44 ?_
          refine g_icmp_eq hC 76 h_v5_11 (by unfold inR; omega) dX12_stem_45 rfl (fun c_19 => ?_) (fun c_19 => ?_)
          · replace hf := hf.1 c_19
            refine g_sub [(3, J v3), (4, J v4_10)] [2, 3] rfl ?_
            exact hJ76 v4_10 hf h_v4_10
          · replace hf := hf.2 c_19
            refine g_iload hC 3 dX12_stem_48 rfl ?_
            refine g_iload_n hC 2 dX12_stem_50 rfl rfl ?_
            refine g_icmp_ne hC 57 h_v4_10 i_v3 dX12_stem_51 rfl (fun c_18 => ?_) (fun c_18 => ?_)
            · replace hf := hf.1 c_18
              obtain ⟨q_13, hf⟩ := hf
              obtain ⟨v4_12, e_v4_12⟩ : ∃ z : Int, z = v4_10 + 1 := ⟨_, rfl⟩
              replace hf := hf v4_12 e_v4_12
              have h_v4_12 : inR v4_12 := by rw [e_v4_12]; exact q_13
              refine g_iincv hC 3 e_v4_12 [(4, J v4_12), (0, .ref (B + 95)), (2, J v2), (3, J v3), (5, J v5_11)] dX12_stem_57 rfl (by decide) rfl ?_
              refine g_aload_n hC 1 dX12_stem_60 rfl rfl ?_
              refine g_getr hC okX12 sc95 27 (by decide) rfl wf_X12_63 dX12_stem_61 ?_
              refine g_iload_n hC 2 dX12_stem_64 rfl rfl ?_
              refine g_iload hC 4 dX12_stem_65 rfl ?_
              refine g_callSI hC (sk := [.ref (B + 112)]) [J v2, J v5_11] (c_X12_by l B D K v2 v5_11 i_v2 h_v5_11 M_5 h_M_5 _ hf) yv_X12_by wm_X12_282 rfl ⟨Nat.le_of_ble_eq_true rfl, Nat.le_of_ble_eq_true rfl, Nat.le_of_ble_eq_true rfl, Nat.le_of_ble_eq_true rfl⟩ rfl (Nat.le_of_ble_eq_true rfl) dX12_stem_67 ?_
              rintro r_14 M_15 h_r_14 - ⟨rfl, hf⟩
              obtain ⟨q_16, hf⟩ := hf
              refine g_ialdk (r_14.toNat) hC sc112 q_16.1 q_16.2 rfl dX12_stem_70 ?_
              refine g_nm (fun v5_17 e_v5_17 => ?_)
              replace hf := hf v5_17 e_v5_17
              have h_v5_17 : inR v5_17 := by rw [e_v5_17]; exact (h_M_5 _ _)
              refine g_istore hC [(5, J v5_17), (4, J v4_12), (0, .ref (B + 95)), (2, J v2), (3, J v3)] dX12_stem_71 (by decide) rfl ?_
              refine g_goto hC 42 dX12_stem_73 rfl ?_
              refine g_sub [(0, .ref (B + 95)), (2, J v2), (3, J v3), (4, J v4_12), (5, J v5_17)] [2, 3, 4, 1, 0] rfl ?_
              exact ih42 v4_12 v5_17 hf h_v4_12 h_v5_17
            · replace hf := hf.2 c_18
              refine g_iload hC 4 dX12_stem_54 rfl ?_
              exact g_reti hC h_v5_11 h_M_5 hf dX12_stem_56
      · replace hf := hf.2 c_20
        refine g_iconst hC dX12_stem_25 ?_
        exact g_reti hC (by unfold inR; omega) hM hf dX12_stem_26
set_option maxHeartbeats 4000000 in
set_option maxRecDepth 100000 in
theorem c_X12_stemOf (l : Launch) (B : Nat) (D : va_G) (K : Nat → ClassId) (v1 : Int) (v2 : Int) (v3 : Int) (i_v1 : inR v1) (i_v2 : inR v2) (i_v3 : inR v3) (M : Mem) (hM : MR M) (Q : Int → Prop) (hf : f_X12_stemOf v1 v2 v3 M Q) : CtI l yX12_stemOf cX12_stemOf 6 2 43 B D K [.ref (B + 95), J v1, J v2, J v3] M (fun r M1 => M = M1 ∧ Q r) := by
  refine ct_i (by decide) (Nat.le_of_ble_eq_true rfl) ?_
  intro p e s m args below meth c hC
  have hC : Cx p s m args meth c D K cX12_stemOf 6 RX12 (some .int) := hC
  unfold f_X12_stemOf at hf
  refine (show G p l e (rmF 2 43) s m args below meth c B D K 6 0 0 (ZI below args s B D K (fun r M1 => M = M1 ∧ Q r)) M 0 [(0, .ref (B + 95)), (1, J v1), (2, J v2), (3, J v3)] [] from ?_)
  refine g_iconst hC dX12_stemOf_0 ?_
  refine g_istore hC [(4, J 0), (0, .ref (B + 95)), (1, J v1), (2, J v2), (3, J v3)] dX12_stemOf_1 (by decide) rfl ?_
  refine g_iload_n hC 2 dX12_stemOf_3 rfl rfl ?_
  refine g_istore hC [(5, J v1), (4, J 0), (0, .ref (B + 95)), (1, J v1), (2, J v2), (3, J v3)] dX12_stemOf_4 (by decide) rfl ?_
  refine g_sub [(0, .ref (B + 95)), (2, J v2), (3, J v3), (4, J 0), (5, J v1)] [2, 4, 5, 1, 0] rfl ?_
  refine wl2_elim (fun (v4_1 : Int) (v5_2 : Int) => inR v4_1 → inR v5_2 → G p l e (rmF 2 43) s m args below meth c B D K 6 0 0 (ZI below args s B D K (fun r M1 => M = M1 ∧ Q r)) M 6 [(0, .ref (B + 95)), (2, J v2), (3, J v3), (4, J v4_1), (5, J v5_2)] []) ?_ 5000 0 v1 hf (by unfold inR; omega) i_v1
  intro rec6 ih6 v4_1 v5_2 hf h_v4_1 h_v5_2
  unfold X12_stemOf_b6 at hf
  refine g_iload hC 4 dX12_stemOf_6 rfl ?_
  refine g_iconst hC dX12_stemOf_8 ?_
  refine g_icmp_eq hC 48 h_v5_2 (by unfold inR; omega) dX12_stemOf_9 rfl (fun c_13 => ?_) (fun c_13 => ?_)
  · replace hf := hf.1 c_13
    refine g_iload hC 3 dX12_stemOf_48 rfl ?_
    exact g_reti hC h_v4_1 hM ⟨rfl, hf⟩ dX12_stemOf_50
  · replace hf := hf.2 c_13
    refine g_iload hC 3 dX12_stemOf_12 rfl ?_
    refine g_iload_n hC 2 dX12_stemOf_14 rfl rfl ?_
    refine jn_elim (fun (k : Int → Prop) => ∀ (s1_3 : Int), k s1_3 → (inR s1_3) → G p l e (rmF 2 43) s m args below meth c B D K 6 0 0 (ZI below args s B D K (fun r M1 => M = M1 ∧ Q r)) M 29 [(0, .ref (B + 95)), (2, J v2), (3, J v3), (5, J v5_2)] [J s1_3, J v4_1]) hf ?_ ?_
    · intro s1_3 hf h_s1_3
      refine g_iadd hC dX12_stemOf_29 ?_
      obtain ⟨q_4, hf⟩ := hf
      refine g_nm (fun v4_5 e_v4_5 => ?_)
      replace hf := hf v4_5 e_v4_5
      have h_v4_5 : inR v4_5 := by rw [e_v4_5]; exact q_4
      refine g_istore hC [(4, J v4_5), (0, .ref (B + 95)), (2, J v2), (3, J v3), (5, J v5_2)] dX12_stemOf_30 (by decide) rfl ?_
      refine g_aload_n hC 1 dX12_stemOf_32 rfl rfl ?_
      refine g_getr hC okX12 sc95 27 (by decide) rfl wf_X12_63 dX12_stemOf_33 ?_
      refine g_iload_n hC 2 dX12_stemOf_36 rfl rfl ?_
      refine g_iload hC 4 dX12_stemOf_37 rfl ?_
      refine g_callSI hC (sk := [.ref (B + 112)]) [J v2, J v5_2] (c_X12_by l B D K v2 v5_2 i_v2 h_v5_2 M hM _ hf) yv_X12_by wm_X12_282 rfl ⟨Nat.le_of_ble_eq_true rfl, Nat.le_of_ble_eq_true rfl, Nat.le_of_ble_eq_true rfl, Nat.le_of_ble_eq_true rfl⟩ rfl (Nat.le_of_ble_eq_true rfl) dX12_stemOf_39 ?_
      rintro r_6 M_7 h_r_6 - ⟨rfl, hf⟩
      obtain ⟨q_8, hf⟩ := hf
      refine g_ialdk (r_6.toNat) hC sc112 q_8.1 q_8.2 rfl dX12_stemOf_42 ?_
      refine g_nm (fun v5_9 e_v5_9 => ?_)
      replace hf := hf v5_9 e_v5_9
      have h_v5_9 : inR v5_9 := by rw [e_v5_9]; exact (hM _ _)
      refine g_istore hC [(5, J v5_9), (4, J v4_5), (0, .ref (B + 95)), (2, J v2), (3, J v3)] dX12_stemOf_43 (by decide) rfl ?_
      refine g_goto hC 6 dX12_stemOf_45 rfl ?_
      refine g_sub [(0, .ref (B + 95)), (2, J v2), (3, J v3), (4, J v4_5), (5, J v5_9)] [2, 3, 4, 1, 0] rfl ?_
      exact ih6 v4_5 v5_9 hf h_v4_5 h_v5_9
    · intro J29 hJ29 hf
      refine g_if_eq hC 28 i_v3 dX12_stemOf_15 rfl (fun c_12 => ?_) (fun c_12 => ?_)
      · replace hf := hf.1 c_12
        refine g_iconst hC dX12_stemOf_28 ?_
        refine g_sub [(0, .ref (B + 95)), (2, J v2), (3, J v3), (5, J v5_2)] [0, 1, 2, 4] rfl ?_
        exact hJ29 1 hf (by unfold inR; omega)
      · replace hf := hf.2 c_12
        refine g_aload_n hC 0 dX12_stemOf_18 rfl rfl ?_
        refine g_iload hC 4 dX12_stemOf_19 rfl ?_
        refine g_iconst hC dX12_stemOf_21 ?_
        refine g_callVI hC (sk := [J v4_1]) [J v5_2, J 2] (c_X12_its l B D K v5_2 2 h_v5_2 (by unfold inR; omega) M hM _ hf) yv_X12_its wm_X12_252 okX12.1 sc95 rfl ⟨Nat.le_of_ble_eq_true rfl, Nat.le_of_ble_eq_true rfl, Nat.le_of_ble_eq_true rfl, Nat.le_of_ble_eq_true rfl⟩ rfl (Nat.le_of_ble_eq_true rfl) dX12_stemOf_22 ?_
        rintro r_10 M_11 h_r_10 - ⟨rfl, hf⟩
        refine g_goto hC 29 dX12_stemOf_25 rfl ?_
        refine g_sub [(0, .ref (B + 95)), (2, J v2), (3, J v3), (5, J v5_2)] [0, 1, 2, 4] rfl ?_
        exact hJ29 r_10 hf h_r_10
set_option maxHeartbeats 4000000 in
set_option maxRecDepth 100000 in
theorem c_X12_stems (l : Launch) (B : Nat) (D : va_G) (K : Nat → ClassId) (v1 : Int) (v2 : Int) (i_v1 : inR v1) (i_v2 : inR v2) (M : Mem) (hM : MR M) (Q : Int → Mem → Prop) (hf : f_X12_stems v1 v2 M Q) : CtI l yX12_stems cX12_stems 6 7 159 B D K [.ref (B + 95), J v1, J v2] M Q := by
  refine ct_i (by decide) (Nat.le_of_ble_eq_true rfl) ?_
  intro p e s m args below meth c hC
  have hC : Cx p s m args meth c D K cX12_stems 6 RX12 (some .int) := hC
  unfold f_X12_stems at hf
  refine (show G p l e (rmF 7 159) s m args below meth c B D K 6 0 0 (ZI below args s B D K Q) M 0 [(0, .ref (B + 95)), (1, J v1), (2, J v2)] [] from ?_)
  refine g_iload_n hC 1 dX12_stems_0 rfl rfl ?_
  refine g_i2l hC i_v1 dX12_stems_1 ?_
  refine g_lconst (n := 0) hC dX12_stems_2 (by decide) ?_
  refine g_ldc2 (n := 2) hC wc_X12_351 (by decide) dX12_stems_3 ?_
  refine g_callSZ hC (sk := []) [JL v1, JL 0, JL 2] (c_X12_isIn l B D K v1 0 2 (inL_of i_v1) (by unfold inL; omega) (by unfold inL; omega) M hM _ hf) yv_X12_isIn wm_X12_127 rfl ⟨Nat.le_of_ble_eq_true rfl, Nat.le_of_ble_eq_true rfl, Nat.le_of_ble_eq_true rfl, Nat.le_of_ble_eq_true rfl⟩ rfl (Nat.le_of_ble_eq_true rfl) dX12_stems_6 ?_
  rintro r_1 M_2 h_r_1 - ⟨rfl, hf⟩
  refine g_if_eq hC 24 (zi_ h_r_1) dX12_stems_9 rfl (fun c_42 => ?_) (fun c_42 => ?_)
  · replace hf := hf.1 c_42
    refine g_iconst hC dX12_stems_24 ?_
    exact g_reti hC (by unfold inR; omega) hM hf dX12_stems_25
  · replace hf := hf.2 c_42
    refine g_iload_n hC 2 dX12_stems_12 rfl rfl ?_
    refine g_i2l hC i_v2 dX12_stems_13 ?_
    refine g_lconst (n := 0) hC dX12_stems_14 (by decide) ?_
    refine g_ldc2 (n := 3) hC wc_X12_349 (by decide) dX12_stems_15 ?_
    refine g_callSZ hC (sk := []) [JL v2, JL 0, JL 3] (c_X12_isIn l B D K v2 0 3 (inL_of i_v2) (by unfold inL; omega) (by unfold inL; omega) M hM _ hf) yv_X12_isIn wm_X12_127 rfl ⟨Nat.le_of_ble_eq_true rfl, Nat.le_of_ble_eq_true rfl, Nat.le_of_ble_eq_true rfl, Nat.le_of_ble_eq_true rfl⟩ rfl (Nat.le_of_ble_eq_true rfl) dX12_stems_18 ?_
    rintro r_3 M_4 h_r_3 - ⟨rfl, hf⟩
    refine g_if_ne hC 26 (zi_ h_r_3) dX12_stems_21 rfl (fun c_41 => ?_) (fun c_41 => ?_)
    · replace hf := hf.1 c_41
      refine g_aload_n hC 0 dX12_stems_26 rfl rfl ?_
      refine g_callVV hC (sk := []) [] (c_X12_lays l B D K   M hM _ hf) yv_X12_lays wm_X12_320 okX12.1 sc95 rfl ⟨Nat.le_of_ble_eq_true rfl, Nat.le_of_ble_eq_true rfl, Nat.le_of_ble_eq_true rfl, Nat.le_of_ble_eq_true rfl⟩ rfl (Nat.le_of_ble_eq_true rfl) dX12_stems_27 ?_
      intro M_5 h_M_5 hf
      refine g_iconst hC dX12_stems_30 ?_
      refine g_istore_n hC [(3, J (-1)), (0, .ref (B + 95)), (1, J v1), (2, J v2)] dX12_stems_31 rfl (by decide) rfl ?_
      refine g_iconst hC dX12_stems_32 ?_
      refine g_istore hC [(4, J 0), (3, J (-1)), (0, .ref (B + 95)), (1, J v1), (2, J v2)] dX12_stems_33 (by decide) rfl ?_
      refine g_iconst hC dX12_stems_35 ?_
      refine g_istore hC [(5, J 0), (4, J 0), (3, J (-1)), (0, .ref (B + 95)), (1, J v1), (2, J v2)] dX12_stems_36 (by decide) rfl ?_
      refine jn_elim (fun (k : Int → Int → Prop) => ∀ (v3_6 : Int) (v4_7 : Int), k v3_6 v4_7 → (inR v3_6) → (inR v4_7) → G p l e (rmF 7 159) s m args below meth c B D K 6 0 0 (ZI below args s B D K Q) M_5 97 [(0, .ref (B + 95)), (1, J v1), (2, J v2), (3, J v3_6), (4, J v4_7)] []) hf ?_ ?_
      · intro v3_6 v4_7 hf h_v3_6 h_v4_7
        refine g_iload_n hC 2 dX12_stems_97 rfl rfl ?_
        refine g_if_ne hC 104 i_v2 dX12_stems_98 rfl (fun c_14 => ?_) (fun c_14 => ?_)
        · replace hf := hf.1 c_14
          refine g_iload_n hC 3 dX12_stems_104 rfl rfl ?_
          refine g_iconst hC dX12_stems_105 ?_
          refine g_icmp_eq hC 114 h_v3_6 (by unfold inR; omega) dX12_stems_106 rfl (fun c_13 => ?_) (fun c_13 => ?_)
          · replace hf := hf.1 c_13
            refine g_iload_n hC 3 dX12_stems_114 rfl rfl ?_
            refine g_goto hC 134 dX12_stems_115 rfl ?_
            exact g_reti hC h_v3_6 h_M_5 hf dX12_stems_134
          · replace hf := hf.2 c_13
            refine g_iload_n hC 2 dX12_stems_109 rfl rfl ?_
            refine g_iconst hC dX12_stems_110 ?_
            refine g_icmp_ne hC 118 i_v2 (by unfold inR; omega) dX12_stems_111 rfl (fun c_12 => ?_) (fun c_12 => ?_)
            · replace hf := hf.1 c_12
              refine g_aload_n hC 0 dX12_stems_118 rfl rfl ?_
              refine g_iload_n hC 3 dX12_stems_119 rfl rfl ?_
              refine g_iload_n hC 1 dX12_stems_120 rfl rfl ?_
              refine g_iload_n hC 2 dX12_stems_121 rfl rfl ?_
              refine g_iconst hC dX12_stems_122 ?_
              refine jn_elim (fun (k : Int → Prop) => ∀ (s3_8 : Int), k s3_8 → ((s3_8 = 0 ∨ s3_8 = 1)) → G p l e (rmF 7 159) s m args below meth c B D K 6 0 0 (ZI below args s B D K Q) M_5 131 [] [J s3_8, J v1, J v3_6, .ref (B + 95)]) hf ?_ ?_
              · intro s3_8 hf h_s3_8
                refine g_callVI hC (sk := []) [J v3_6, J v1, J s3_8] (c_X12_stemOf l B D K v3_6 v1 s3_8 h_v3_6 i_v1 (zi_ h_s3_8) M_5 h_M_5 _ hf) yv_X12_stemOf wm_X12_356 okX12.1 sc95 rfl ⟨Nat.le_of_ble_eq_true rfl, Nat.le_of_ble_eq_true rfl, Nat.le_of_ble_eq_true rfl, Nat.le_of_ble_eq_true rfl⟩ rfl (Nat.le_of_ble_eq_true rfl) dX12_stems_131 ?_
                rintro r_9 M_10 h_r_9 - ⟨rfl, hf⟩
                exact g_reti hC h_r_9 h_M_5 hf dX12_stems_134
              · intro J131 hJ131 hf
                refine g_icmp_ne hC 130 i_v2 (by unfold inR; omega) dX12_stems_123 rfl (fun c_11 => ?_) (fun c_11 => ?_)
                · replace hf := hf.1 c_11
                  refine g_iconst hC dX12_stems_130 ?_
                  refine g_sub [] [] rfl ?_
                  exact hJ131 0 hf (Or.inl rfl)
                · replace hf := hf.2 c_11
                  refine g_iconst hC dX12_stems_126 ?_
                  refine g_goto hC 131 dX12_stems_127 rfl ?_
                  refine g_sub [] [] rfl ?_
                  exact hJ131 1 hf (Or.inr rfl)
            · replace hf := hf.2 c_12
              refine g_iload_n hC 3 dX12_stems_114 rfl rfl ?_
              refine g_goto hC 134 dX12_stems_115 rfl ?_
              exact g_reti hC h_v3_6 h_M_5 hf dX12_stems_134
        · replace hf := hf.2 c_14
          refine g_iload hC 4 dX12_stems_101 rfl ?_
          exact g_reti hC h_v4_7 h_M_5 hf dX12_stems_103
      · intro J97 hJ97 hf
        refine g_sub [(0, .ref (B + 95)), (1, J v1), (2, J v2), (3, J (-1)), (4, J 0), (5, J 0)] [3, 4, 5, 2, 1, 0] rfl ?_
        refine wl3_elim (fun (v3_15 : Int) (v4_16 : Int) (v5_17 : Int) => inR v3_15 → inR v4_16 → inR v5_17 → G p l e (rmF 7 159) s m args below meth c B D K 6 0 0 (ZI below args s B D K Q) M_5 38 [(0, .ref (B + 95)), (1, J v1), (2, J v2), (3, J v3_15), (4, J v4_16), (5, J v5_17)] []) ?_ 5000 (-1) 0 0 hf (by unfold inR; omega) (by unfold inR; omega) (by unfold inR; omega)
        intro rec38 ih38 v3_15 v4_16 v5_17 hf h_v3_15 h_v4_16 h_v5_17
        unfold X12_stems_b38 at hf
        refine g_iload hC 5 dX12_stems_38 rfl ?_
        refine g_aload_n hC 0 dX12_stems_40 rfl rfl ?_
        refine g_callVI hC (sk := [J v5_17]) [] (c_X12_reaches l B D K   M_5 h_M_5 _ hf) yv_X12_reaches wm_X12_249 okX12.1 sc95 rfl ⟨Nat.le_of_ble_eq_true rfl, Nat.le_of_ble_eq_true rfl, Nat.le_of_ble_eq_true rfl, Nat.le_of_ble_eq_true rfl⟩ rfl (Nat.le_of_ble_eq_true rfl) dX12_stems_41 ?_
        rintro r_18 M_19 h_r_18 - ⟨rfl, hf⟩
        refine g_icmp_ge hC 97 h_v5_17 h_r_18 dX12_stems_44 rfl (fun c_40 => ?_) (fun c_40 => ?_)
        · replace hf := hf.1 c_40
          refine g_sub [(0, .ref (B + 95)), (1, J v1), (2, J v2), (3, J v3_15), (4, J v4_16)] [0, 1, 2, 3, 4] rfl ?_
          exact hJ97 v3_15 v4_16 hf h_v3_15 h_v4_16
        · replace hf := hf.2 c_40
          refine g_aload_n hC 0 dX12_stems_47 rfl rfl ?_
          refine g_getr hC okX12 sc95 28 (by decide) rfl wf_X12_66 dX12_stems_48 ?_
          refine g_iload_n hC 1 dX12_stems_51 rfl rfl ?_
          refine g_iload hC 5 dX12_stems_52 rfl ?_
          refine g_callSI hC (sk := [.ref (B + 113)]) [J v1, J v5_17] (c_X12_by l B D K v1 v5_17 i_v1 h_v5_17 M_5 h_M_5 _ hf) yv_X12_by wm_X12_282 rfl ⟨Nat.le_of_ble_eq_true rfl, Nat.le_of_ble_eq_true rfl, Nat.le_of_ble_eq_true rfl, Nat.le_of_ble_eq_true rfl⟩ rfl (Nat.le_of_ble_eq_true rfl) dX12_stems_54 ?_
          rintro r_20 M_21 h_r_20 - ⟨rfl, hf⟩
          obtain ⟨q_22, hf⟩ := hf
          refine g_ialdk (r_20.toNat) hC sc113 q_22.1 q_22.2 rfl dX12_stems_57 ?_
          refine g_iconst hC dX12_stems_58 ?_
          refine g_icmp_ne hC 91 (h_M_5 _ _) (by unfold inR; omega) dX12_stems_59 rfl (fun c_39 => ?_) (fun c_39 => ?_)
          · replace hf := hf.1 c_39
            obtain ⟨q_24, hf⟩ := hf
            obtain ⟨v5_23, e_v5_23⟩ : ∃ z : Int, z = v5_17 + 1 := ⟨_, rfl⟩
            replace hf := hf v5_23 e_v5_23
            have h_v5_23 : inR v5_23 := by rw [e_v5_23]; exact q_24
            refine g_iincv hC 5 e_v5_23 [(5, J v5_23), (0, .ref (B + 95)), (1, J v1), (2, J v2), (3, J v3_15), (4, J v4_16)] dX12_stems_91 rfl (by decide) rfl ?_
            refine g_goto hC 38 dX12_stems_94 rfl ?_
            refine g_sub [(0, .ref (B + 95)), (1, J v1), (2, J v2), (3, J v3_15), (4, J v4_16), (5, J v5_23)] [1, 2, 3, 4, 5, 0] rfl ?_
            exact ih38 v3_15 v4_16 v5_23 hf h_v3_15 h_v4_16 h_v5_23
          · replace hf := hf.2 c_39
            obtain ⟨q_26, hf⟩ := hf
            obtain ⟨v4_25, e_v4_25⟩ : ∃ z : Int, z = v4_16 + 1 := ⟨_, rfl⟩
            replace hf := hf v4_25 e_v4_25
            have h_v4_25 : inR v4_25 := by rw [e_v4_25]; exact q_26
            refine g_iincv hC 4 e_v4_25 [(4, J v4_25), (0, .ref (B + 95)), (1, J v1), (2, J v2), (3, J v3_15), (5, J v5_17)] dX12_stems_62 rfl (by decide) rfl ?_
            refine g_iload_n hC 4 dX12_stems_65 rfl rfl ?_
            refine g_iconst hC dX12_stems_66 ?_
            refine g_icmp_eq hC 88 h_v3_15 (by unfold inR; omega) dX12_stems_67 rfl (fun c_38 => ?_) (fun c_38 => ?_)
            · replace hf := hf.1 c_38
              refine g_iload hC 5 dX12_stems_88 rfl ?_
              refine g_istore_n hC [(3, J v5_17), (4, J v4_25), (0, .ref (B + 95)), (1, J v1), (2, J v2), (5, J v5_17)] dX12_stems_90 rfl (by decide) rfl ?_
              obtain ⟨q_28, hf⟩ := hf
              obtain ⟨v5_27, e_v5_27⟩ : ∃ z : Int, z = v5_17 + 1 := ⟨_, rfl⟩
              replace hf := hf v5_27 e_v5_27
              have h_v5_27 : inR v5_27 := by rw [e_v5_27]; exact q_28
              refine g_iincv hC 5 e_v5_27 [(5, J v5_27), (3, J v5_17), (4, J v4_25), (0, .ref (B + 95)), (1, J v1), (2, J v2)] dX12_stems_91 rfl (by decide) rfl ?_
              refine g_goto hC 38 dX12_stems_94 rfl ?_
              refine g_sub [(0, .ref (B + 95)), (1, J v1), (2, J v2), (3, J v5_17), (4, J v4_25), (5, J v5_27)] [3, 4, 5, 1, 2, 0] rfl ?_
              exact ih38 v5_17 v4_25 v5_27 hf h_v5_17 h_v4_25 h_v5_27
            · replace hf := hf.2 c_38
              refine g_aload_n hC 1 dX12_stems_70 rfl rfl ?_
              refine g_iload hC 5 dX12_stems_71 rfl ?_
              refine g_iload_n hC 2 dX12_stems_73 rfl rfl ?_
              refine g_iconst hC dX12_stems_74 ?_
              refine g_callVI hC (sk := []) [J v5_17, J v1, J 1] (c_X12_stemOf l B D K v5_17 v1 1 h_v5_17 i_v1 (by unfold inR; omega) M_5 h_M_5 _ hf) yv_X12_stemOf wm_X12_356 okX12.1 sc95 rfl ⟨Nat.le_of_ble_eq_true rfl, Nat.le_of_ble_eq_true rfl, Nat.le_of_ble_eq_true rfl, Nat.le_of_ble_eq_true rfl⟩ rfl (Nat.le_of_ble_eq_true rfl) dX12_stems_75 ?_
              rintro r_29 M_30 h_r_29 - ⟨rfl, hf⟩
              refine g_aload_n hC 1 dX12_stems_78 rfl rfl ?_
              refine g_iload_n hC 4 dX12_stems_79 rfl rfl ?_
              refine g_iload_n hC 2 dX12_stems_80 rfl rfl ?_
              refine g_iconst hC dX12_stems_81 ?_
              refine g_callVI hC (sk := [J r_29]) [J v3_15, J v1, J 1] (c_X12_stemOf l B D K v3_15 v1 1 h_v3_15 i_v1 (by unfold inR; omega) M_5 h_M_5 _ hf) yv_X12_stemOf wm_X12_356 okX12.1 sc95 rfl ⟨Nat.le_of_ble_eq_true rfl, Nat.le_of_ble_eq_true rfl, Nat.le_of_ble_eq_true rfl, Nat.le_of_ble_eq_true rfl⟩ rfl (Nat.le_of_ble_eq_true rfl) dX12_stems_82 ?_
              rintro r_31 M_32 h_r_31 - ⟨rfl, hf⟩
              refine g_icmp_le hC 91 h_r_29 h_r_31 dX12_stems_85 rfl (fun c_37 => ?_) (fun c_37 => ?_)
              · replace hf := hf.1 c_37
                obtain ⟨q_34, hf⟩ := hf
                obtain ⟨v5_33, e_v5_33⟩ : ∃ z : Int, z = v5_17 + 1 := ⟨_, rfl⟩
                replace hf := hf v5_33 e_v5_33
                have h_v5_33 : inR v5_33 := by rw [e_v5_33]; exact q_34
                refine g_iincv hC 5 e_v5_33 [(5, J v5_33), (4, J v4_25), (0, .ref (B + 95)), (1, J v1), (2, J v2), (3, J v3_15)] dX12_stems_91 rfl (by decide) rfl ?_
                refine g_goto hC 38 dX12_stems_94 rfl ?_
                refine g_sub [(0, .ref (B + 95)), (1, J v1), (2, J v2), (3, J v3_15), (4, J v4_25), (5, J v5_33)] [2, 3, 4, 5, 1, 0] rfl ?_
                exact ih38 v3_15 v4_25 v5_33 hf h_v3_15 h_v4_25 h_v5_33
              · replace hf := hf.2 c_37
                refine g_iload hC 5 dX12_stems_88 rfl ?_
                refine g_istore_n hC [(3, J v5_17), (4, J v4_25), (0, .ref (B + 95)), (1, J v1), (2, J v2), (5, J v5_17)] dX12_stems_90 rfl (by decide) rfl ?_
                obtain ⟨q_36, hf⟩ := hf
                obtain ⟨v5_35, e_v5_35⟩ : ∃ z : Int, z = v5_17 + 1 := ⟨_, rfl⟩
                replace hf := hf v5_35 e_v5_35
                have h_v5_35 : inR v5_35 := by rw [e_v5_35]; exact q_36
                refine g_iincv hC 5 e_v5_35 [(5, J v5_35), (3, J v5_17), (4, J v4_25), (0, .ref (B + 95)), (1, J v1), (2, J v2)] dX12_stems_91 rfl (by decide) rfl ?_
                refine g_goto hC 38 dX12_stems_94 rfl ?_
                refine g_sub [(0, .ref (B + 95)), (1, J v1), (2, J v2), (3, J v5_17), (4, J v4_25), (5, J v5_35)] [3, 4, 5, 1, 2, 0] rfl ?_
                exact ih38 v5_17 v4_25 v5_35 hf h_v5_17 h_v4_25 h_v5_35
    · replace hf := hf.2 c_41
      refine g_iconst hC dX12_stems_24 ?_
      exact g_reti hC (by unfold inR; omega) hM hf dX12_stems_25
set_option maxHeartbeats 4000000 in
set_option maxRecDepth 100000 in
theorem c_X12_beyond (l : Launch) (B : Nat) (D : va_G) (K : Nat → ClassId) (v1 : Int) (v2 : Int) (i_v1 : inR v1) (i_v2 : inR v2) (M : Mem) (hM : MR M) (Q : Int → Mem → Prop) (hf : f_X12_beyond v1 v2 M Q) : CtI l yX12_beyond cX12_beyond 3 7 159 B D K [.ref (B + 95), J v1, J v2] M Q := by
  refine ct_i (by decide) (Nat.le_of_ble_eq_true rfl) ?_
  intro p e s m args below meth c hC
  have hC : Cx p s m args meth c D K cX12_beyond 3 RX12 (some .int) := hC
  unfold f_X12_beyond at hf
  refine (show G p l e (rmF 7 159) s m args below meth c B D K 3 0 0 (ZI below args s B D K Q) M 0 [(0, .ref (B + 95)), (1, J v1), (2, J v2)] [] from ?_)
  refine g_aload_n hC 0 dX12_beyond_0 rfl rfl ?_
  refine g_iload_n hC 1 dX12_beyond_1 rfl rfl ?_
  refine g_callVZ hC (sk := []) [J v1] (c_X12_isPlace l B D K v1 i_v1 M hM _ hf) yv_X12_isPlace wm_X12_338 okX12.1 sc95 rfl ⟨Nat.le_of_ble_eq_true rfl, Nat.le_of_ble_eq_true rfl, Nat.le_of_ble_eq_true rfl, Nat.le_of_ble_eq_true rfl⟩ rfl (Nat.le_of_ble_eq_true rfl) dX12_beyond_2 ?_
  rintro r_1 M_2 h_r_1 - ⟨rfl, hf⟩
  refine g_if_eq hC 18 (zi_ h_r_1) dX12_beyond_5 rfl (fun c_10 => ?_) (fun c_10 => ?_)
  · replace hf := hf.1 c_10
    refine g_iconst hC dX12_beyond_18 ?_
    exact g_reti hC (by unfold inR; omega) hM hf dX12_beyond_19
  · replace hf := hf.2 c_10
    refine g_iload_n hC 2 dX12_beyond_8 rfl rfl ?_
    refine g_i2l hC i_v2 dX12_beyond_9 ?_
    refine g_lconst (n := 0) hC dX12_beyond_10 (by decide) ?_
    refine g_lconst (n := 1) hC dX12_beyond_11 (by decide) ?_
    refine g_callSZ hC (sk := []) [JL v2, JL 0, JL 1] (c_X12_isIn l B D K v2 0 1 (inL_of i_v2) (by unfold inL; omega) (by unfold inL; omega) M hM _ hf) yv_X12_isIn wm_X12_127 rfl ⟨Nat.le_of_ble_eq_true rfl, Nat.le_of_ble_eq_true rfl, Nat.le_of_ble_eq_true rfl, Nat.le_of_ble_eq_true rfl⟩ rfl (Nat.le_of_ble_eq_true rfl) dX12_beyond_12 ?_
    rintro r_3 M_4 h_r_3 - ⟨rfl, hf⟩
    refine g_if_ne hC 20 (zi_ h_r_3) dX12_beyond_15 rfl (fun c_9 => ?_) (fun c_9 => ?_)
    · replace hf := hf.1 c_9
      refine g_aload_n hC 0 dX12_beyond_20 rfl rfl ?_
      refine g_callVV hC (sk := []) [] (c_X12_lays l B D K   M hM _ hf) yv_X12_lays wm_X12_320 okX12.1 sc95 rfl ⟨Nat.le_of_ble_eq_true rfl, Nat.le_of_ble_eq_true rfl, Nat.le_of_ble_eq_true rfl, Nat.le_of_ble_eq_true rfl⟩ rfl (Nat.le_of_ble_eq_true rfl) dX12_beyond_21 ?_
      intro M_5 h_M_5 hf
      refine g_iload_n hC 2 dX12_beyond_24 rfl rfl ?_
      refine g_if_ne hC 37 i_v2 dX12_beyond_25 rfl (fun c_8 => ?_) (fun c_8 => ?_)
      · replace hf := hf.1 c_8
        refine g_aload_n hC 0 dX12_beyond_37 rfl rfl ?_
        refine g_getr hC okX12 sc95 19 (by decide) rfl wf_X12_39 dX12_beyond_38 ?_
        refine g_iload_n hC 1 dX12_beyond_41 rfl rfl ?_
        obtain ⟨q_6, hf⟩ := hf
        refine g_ialdk (v1.toNat) hC sc104 q_6.1 q_6.2 rfl dX12_beyond_42 ?_
        exact g_reti hC (h_M_5 _ _) h_M_5 hf dX12_beyond_43
      · replace hf := hf.2 c_8
        refine g_aload_n hC 0 dX12_beyond_28 rfl rfl ?_
        refine g_getr hC okX12 sc95 20 (by decide) rfl wf_X12_42 dX12_beyond_29 ?_
        refine g_iload_n hC 1 dX12_beyond_32 rfl rfl ?_
        obtain ⟨q_7, hf⟩ := hf
        refine g_ialdk (v1.toNat) hC sc105 q_7.1 q_7.2 rfl dX12_beyond_33 ?_
        refine g_goto hC 43 dX12_beyond_34 rfl ?_
        exact g_reti hC (h_M_5 _ _) h_M_5 hf dX12_beyond_43
    · replace hf := hf.2 c_9
      refine g_iconst hC dX12_beyond_18 ?_
      exact g_reti hC (by unfold inR; omega) hM hf dX12_beyond_19
set_option maxHeartbeats 4000000 in
set_option maxRecDepth 100000 in
theorem c_X12_springs (l : Launch) (B : Nat) (D : va_G) (K : Nat → ClassId) (v1 : Int) (i_v1 : inR v1) (M : Mem) (hM : MR M) (Q : Int → Mem → Prop) (hf : f_X12_springs v1 M Q) : CtI l yX12_springs cX12_springs 2 7 159 B D K [.ref (B + 95), J v1] M Q := by
  refine ct_i (by decide) (Nat.le_of_ble_eq_true rfl) ?_
  intro p e s m args below meth c hC
  have hC : Cx p s m args meth c D K cX12_springs 2 RX12 (some .int) := hC
  unfold f_X12_springs at hf
  refine (show G p l e (rmF 7 159) s m args below meth c B D K 2 0 0 (ZI below args s B D K Q) M 0 [(0, .ref (B + 95)), (1, J v1)] [] from ?_)
  refine g_aload_n hC 0 dX12_springs_0 rfl rfl ?_
  refine g_iload_n hC 1 dX12_springs_1 rfl rfl ?_
  refine g_callVZ hC (sk := []) [J v1] (c_X12_isReach l B D K v1 i_v1 M hM _ hf) yv_X12_isReach wm_X12_344 okX12.1 sc95 rfl ⟨Nat.le_of_ble_eq_true rfl, Nat.le_of_ble_eq_true rfl, Nat.le_of_ble_eq_true rfl, Nat.le_of_ble_eq_true rfl⟩ rfl (Nat.le_of_ble_eq_true rfl) dX12_springs_2 ?_
  rintro r_1 M_2 h_r_1 - ⟨rfl, hf⟩
  refine g_if_ne hC 10 (zi_ h_r_1) dX12_springs_5 rfl (fun c_5 => ?_) (fun c_5 => ?_)
  · replace hf := hf.1 c_5
    refine g_aload_n hC 0 dX12_springs_10 rfl rfl ?_
    refine g_callVV hC (sk := []) [] (c_X12_lays l B D K   M hM _ hf) yv_X12_lays wm_X12_320 okX12.1 sc95 rfl ⟨Nat.le_of_ble_eq_true rfl, Nat.le_of_ble_eq_true rfl, Nat.le_of_ble_eq_true rfl, Nat.le_of_ble_eq_true rfl⟩ rfl (Nat.le_of_ble_eq_true rfl) dX12_springs_11 ?_
    intro M_3 h_M_3 hf
    refine g_aload_n hC 0 dX12_springs_14 rfl rfl ?_
    refine g_getr hC okX12 sc95 25 (by decide) rfl wf_X12_57 dX12_springs_15 ?_
    refine g_iload_n hC 1 dX12_springs_18 rfl rfl ?_
    obtain ⟨q_4, hf⟩ := hf
    refine g_ialdk (v1.toNat) hC sc110 q_4.1 q_4.2 rfl dX12_springs_19 ?_
    exact g_reti hC (h_M_3 _ _) h_M_3 hf dX12_springs_20
  · replace hf := hf.2 c_5
    refine g_iconst hC dX12_springs_8 ?_
    exact g_reti hC (by unfold inR; omega) hM hf dX12_springs_9
set_option maxHeartbeats 4000000 in
set_option maxRecDepth 100000 in
theorem c_X12_laysWays (l : Launch) (B : Nat) (D : va_G) (K : Nat → ClassId) (v1 : Int) (i_v1 : inR v1) (M : Mem) (hM : MR M) (Q : Mem → Prop) (hf : f_X12_laysWays v1 M Q) : CtV l yX12_laysWays cX12_laysWays 6 2 43 B D K [.ref (B + 95), J v1] M Q := by
  refine ct_v (by decide) (Nat.le_of_ble_eq_true rfl) ?_
  intro p e s m args below meth c hC
  have hC : Cx p s m args meth c D K cX12_laysWays 6 RX12 none := hC
  unfold f_X12_laysWays at hf
  refine (show G p l e (rmF 2 43) s m args below meth c B D K 6 0 0 (ZV below args s B D K Q) M 0 [(0, .ref (B + 95)), (1, J v1)] [] from ?_)
  refine g_iconst hC dX12_laysWays_0 ?_
  refine g_istore_n hC [(2, J 0), (0, .ref (B + 95)), (1, J v1)] dX12_laysWays_1 rfl (by decide) rfl ?_
  refine jn_elim (fun (k : Mem → Prop) => ∀ (M_1 : Mem), k M_1 → (MR M_1) → G p l e (rmF 2 43) s m args below meth c B D K 6 0 0 (ZV below args s B D K Q) M_1 36 [(0, .ref (B + 95))] []) hf ?_ ?_
  · intro M_1 hf h_M_1
    refine g_iconst hC dX12_laysWays_36 ?_
    refine g_istore_n hC [(2, J 0), (0, .ref (B + 95))] dX12_laysWays_37 rfl (by decide) rfl ?_
    refine g_sub [(0, .ref (B + 95)), (2, J 0)] [1, 0] rfl ?_
    refine wl2_elim (fun (v2_2 : Int) (M_3 : Mem) => inR v2_2 → MR M_3 → G p l e (rmF 2 43) s m args below meth c B D K 6 0 0 (ZV below args s B D K Q) M_3 38 [(0, .ref (B + 95)), (2, J v2_2)] []) ?_ 5000 0 M_1 hf (by unfold inR; omega) h_M_1
    intro rec38 ih38 v2_2 M_3 hf h_v2_2 h_M_3
    unfold X12_laysWays_b38 at hf
    refine g_iload_n hC 1 dX12_laysWays_38 rfl rfl ?_
    refine g_aload_n hC 0 dX12_laysWays_39 rfl rfl ?_
    refine g_callVI hC (sk := [J v2_2]) [] (c_X12_places l B D K   M_3 h_M_3 _ hf) yv_X12_places wm_X12_246 okX12.1 sc95 rfl ⟨Nat.le_of_ble_eq_true rfl, Nat.le_of_ble_eq_true rfl, Nat.le_of_ble_eq_true rfl, Nat.le_of_ble_eq_true rfl⟩ rfl (Nat.le_of_ble_eq_true rfl) dX12_laysWays_40 ?_
    rintro r_4 M_5 h_r_4 - ⟨rfl, hf⟩
    refine g_icmp_ge hC 136 h_v2_2 h_r_4 dX12_laysWays_43 rfl (fun c_33 => ?_) (fun c_33 => ?_)
    · replace hf := hf.1 c_33
      exact g_retv hC h_M_3 hf dX12_laysWays_136
    · replace hf := hf.2 c_33
      refine g_iconst hC dX12_laysWays_46 ?_
      refine g_istore_n hC [(3, J 0), (0, .ref (B + 95)), (2, J v2_2)] dX12_laysWays_47 rfl (by decide) rfl ?_
      refine g_sub [(0, .ref (B + 95)), (2, J v2_2), (3, J 0)] [1, 2, 0] rfl ?_
      refine wl2_elim (fun (v3_6 : Int) (M_7 : Mem) => inR v3_6 → MR M_7 → G p l e (rmF 2 43) s m args below meth c B D K 6 0 0 (ZV below args s B D K Q) M_7 48 [(0, .ref (B + 95)), (2, J v2_2), (3, J v3_6)] []) ?_ 5000 0 M_3 hf (by unfold inR; omega) h_M_3
      intro rec48 ih48 v3_6 M_7 hf h_v3_6 h_M_7
      unfold X12_laysWays_b48 at hf
      refine g_iload_n hC 2 dX12_laysWays_48 rfl rfl ?_
      refine g_aload_n hC 0 dX12_laysWays_49 rfl rfl ?_
      refine g_callVI hC (sk := [J v3_6]) [] (c_X12_reaches l B D K   M_7 h_M_7 _ hf) yv_X12_reaches wm_X12_249 okX12.1 sc95 rfl ⟨Nat.le_of_ble_eq_true rfl, Nat.le_of_ble_eq_true rfl, Nat.le_of_ble_eq_true rfl, Nat.le_of_ble_eq_true rfl⟩ rfl (Nat.le_of_ble_eq_true rfl) dX12_laysWays_50 ?_
      rintro r_8 M_9 h_r_8 - ⟨rfl, hf⟩
      refine g_icmp_ge hC 130 h_v3_6 h_r_8 dX12_laysWays_53 rfl (fun c_32 => ?_) (fun c_32 => ?_)
      · replace hf := hf.1 c_32
        obtain ⟨q_11, hf⟩ := hf
        obtain ⟨v2_10, e_v2_10⟩ : ∃ z : Int, z = v2_2 + 1 := ⟨_, rfl⟩
        replace hf := hf v2_10 e_v2_10
        have h_v2_10 : inR v2_10 := by rw [e_v2_10]; exact q_11
        refine g_iincv hC 1 e_v2_10 [(2, J v2_10), (0, .ref (B + 95)), (3, J v3_6)] dX12_laysWays_130 rfl (by decide) rfl ?_
        refine g_goto hC 38 dX12_laysWays_133 rfl ?_
        refine g_sub [(0, .ref (B + 95)), (2, J v2_10)] [1, 0] rfl ?_
        exact ih38 v2_10 M_7 hf h_v2_10 h_M_7
      · replace hf := hf.2 c_32
        refine g_aload_n hC 0 dX12_laysWays_56 rfl rfl ?_
        refine g_iload_n hC 2 dX12_laysWays_57 rfl rfl ?_
        refine g_iconst hC dX12_laysWays_58 ?_
        refine g_callVI hC (sk := []) [J v3_6, J 1] (c_X12_its l B D K v3_6 1 h_v3_6 (by unfold inR; omega) M_7 h_M_7 _ hf) yv_X12_its wm_X12_252 okX12.1 sc95 rfl ⟨Nat.le_of_ble_eq_true rfl, Nat.le_of_ble_eq_true rfl, Nat.le_of_ble_eq_true rfl, Nat.le_of_ble_eq_true rfl⟩ rfl (Nat.le_of_ble_eq_true rfl) dX12_laysWays_59 ?_
        rintro r_12 M_13 h_r_12 - ⟨rfl, hf⟩
        refine g_aload_n hC 0 dX12_laysWays_62 rfl rfl ?_
        refine g_getr hC okX12 sc95 16 (by decide) rfl wf_X12_30 dX12_laysWays_63 ?_
        refine g_iload_n hC 1 dX12_laysWays_66 rfl rfl ?_
        obtain ⟨q_14, hf⟩ := hf
        refine g_ialdk (v2_2.toNat) hC sc101 q_14.1 q_14.2 rfl dX12_laysWays_67 ?_
        refine g_icmp_ne hC 124 h_r_12 (h_M_7 _ _) dX12_laysWays_68 rfl (fun c_31 => ?_) (fun c_31 => ?_)
        · replace hf := hf.1 c_31
          obtain ⟨q_16, hf⟩ := hf
          obtain ⟨v3_15, e_v3_15⟩ : ∃ z : Int, z = v3_6 + 1 := ⟨_, rfl⟩
          replace hf := hf v3_15 e_v3_15
          have h_v3_15 : inR v3_15 := by rw [e_v3_15]; exact q_16
          refine g_iincv hC 2 e_v3_15 [(3, J v3_15), (0, .ref (B + 95)), (2, J v2_2)] dX12_laysWays_124 rfl (by decide) rfl ?_
          refine g_goto hC 48 dX12_laysWays_127 rfl ?_
          refine g_sub [(0, .ref (B + 95)), (2, J v2_2), (3, J v3_15)] [1, 2, 0] rfl ?_
          exact ih48 v3_15 M_7 hf h_v3_15 h_M_7
        · replace hf := hf.2 c_31
          refine g_aload_n hC 0 dX12_laysWays_71 rfl rfl ?_
          refine g_getr hC okX12 sc95 31 (by decide) rfl wf_X12_75 dX12_laysWays_72 ?_
          refine g_aload_n hC 0 dX12_laysWays_75 rfl rfl ?_
          refine g_getr hC okX12 sc95 16 (by decide) rfl wf_X12_30 dX12_laysWays_76 ?_
          refine g_iload_n hC 1 dX12_laysWays_79 rfl rfl ?_
          refine g_ialdk (v2_2.toNat) hC sc101 q_14.1 q_14.2 rfl dX12_laysWays_80 ?_
          obtain ⟨q_17, hf⟩ := hf
          refine g_laldk ((M_7 101 (v2_2.toNat)).toNat) hC sc116 q_17.1 q_17.2 rfl dX12_laysWays_81 ?_
          refine g_aload_n hC 0 dX12_laysWays_82 rfl rfl ?_
          refine g_getr hC okX12 sc95 31 (by decide) rfl wf_X12_75 dX12_laysWays_83 ?_
          refine g_aload_n hC 0 dX12_laysWays_86 rfl rfl ?_
          refine g_iload_n hC 2 dX12_laysWays_87 rfl rfl ?_
          refine g_iconst hC dX12_laysWays_88 ?_
          refine g_callVI hC (sk := [.ref (B + 116), JL (M_7 116 ((M_7 101 (v2_2.toNat)).toNat))]) [J v3_6, J 0] (c_X12_its l B D K v3_6 0 h_v3_6 (by unfold inR; omega) M_7 h_M_7 _ hf) yv_X12_its wm_X12_252 okX12.1 sc95 rfl ⟨Nat.le_of_ble_eq_true rfl, Nat.le_of_ble_eq_true rfl, Nat.le_of_ble_eq_true rfl, Nat.le_of_ble_eq_true rfl⟩ rfl (Nat.le_of_ble_eq_true rfl) dX12_laysWays_89 ?_
          rintro r_18 M_19 h_r_18 - ⟨rfl, hf⟩
          obtain ⟨q_20, hf⟩ := hf
          refine g_laldk (r_18.toNat) hC sc116 q_20.1 q_20.2 rfl dX12_laysWays_92 ?_
          refine g_ladd hC dX12_laysWays_93 ?_
          obtain ⟨q_21, hf⟩ := hf
          refine g_nml (fun v4_22 e_v4_22 => ?_)
          replace hf := hf v4_22 e_v4_22
          have h_v4_22 : inL v4_22 := by rw [e_v4_22]; exact q_21
          refine g_lstore hC [(4, JL v4_22), (0, .ref (B + 95)), (2, J v2_2), (3, J v3_6)] dX12_laysWays_94 (by decide) rfl ?_
          refine g_aload_n hC 1 dX12_laysWays_96 rfl rfl ?_
          refine g_getr hC okX12 sc95 31 (by decide) rfl wf_X12_75 dX12_laysWays_97 ?_
          refine g_aload_n hC 1 dX12_laysWays_100 rfl rfl ?_
          refine g_getr hC okX12 sc95 16 (by decide) rfl wf_X12_30 dX12_laysWays_101 ?_
          refine g_iload_n hC 2 dX12_laysWays_104 rfl rfl ?_
          refine g_ialdk (v2_2.toNat) hC sc101 q_14.1 q_14.2 rfl dX12_laysWays_105 ?_
          refine g_lload hC 0 dX12_laysWays_106 rfl ?_
          refine g_ldc2 (n := 1000000000) hC wc_X12_359 (by decide) dX12_laysWays_108 ?_
          refine g_lcmp hC h_v4_22 (by unfold inL; omega) dX12_laysWays_111 ?_
          refine g_if_le hC 121 (cmpI_in _ _) dX12_laysWays_112 rfl (fun c_30 => ?_) (fun c_30 => ?_)
          · replace hf := hf.1 c_30
            refine g_lload hC 0 dX12_laysWays_121 rfl ?_
            obtain ⟨q_23, hf⟩ := hf
            refine g_lastk ((M_7 101 (v2_2.toNat)).toNat) hC sc116 q_17.1 q_17.2 rfl dX12_laysWays_123 ?_
            refine g_nmM (fun M_24 e_M_24 => ?_)
            replace hf := hf M_24 e_M_24
            have h_M_24 : MR M_24 := by rw [e_M_24]; exact MR_st h_M_7 q_23
            obtain ⟨q_26, hf⟩ := hf
            obtain ⟨v3_25, e_v3_25⟩ : ∃ z : Int, z = v3_6 + 1 := ⟨_, rfl⟩
            replace hf := hf v3_25 e_v3_25
            have h_v3_25 : inR v3_25 := by rw [e_v3_25]; exact q_26
            refine g_iincv hC 3 e_v3_25 [(3, J v3_25), (4, JL v4_22), (0, .ref (B + 95)), (2, J v2_2)] dX12_laysWays_124 rfl (by decide) rfl ?_
            refine g_goto hC 48 dX12_laysWays_127 rfl ?_
            refine g_sub [(0, .ref (B + 95)), (2, J v2_2), (3, J v3_25)] [2, 3, 0] rfl ?_
            exact ih48 v3_25 M_24 hf h_v3_25 h_M_24
          · replace hf := hf.2 c_30
            refine g_ldc2 (n := 1000000000) hC wc_X12_359 (by decide) dX12_laysWays_115 ?_
            refine g_goto hC 123 dX12_laysWays_118 rfl ?_
            refine g_lastk ((M_7 101 (v2_2.toNat)).toNat) hC sc116 q_17.1 q_17.2 rfl dX12_laysWays_123 ?_
            refine g_nmM (fun M_27 e_M_27 => ?_)
            replace hf := hf M_27 e_M_27
            have h_M_27 : MR M_27 := by rw [e_M_27]; exact MR_st h_M_7 (by unfold inR; omega)
            obtain ⟨q_29, hf⟩ := hf
            obtain ⟨v3_28, e_v3_28⟩ : ∃ z : Int, z = v3_6 + 1 := ⟨_, rfl⟩
            replace hf := hf v3_28 e_v3_28
            have h_v3_28 : inR v3_28 := by rw [e_v3_28]; exact q_29
            refine g_iincv hC 3 e_v3_28 [(3, J v3_28), (4, JL v4_22), (0, .ref (B + 95)), (2, J v2_2)] dX12_laysWays_124 rfl (by decide) rfl ?_
            refine g_goto hC 48 dX12_laysWays_127 rfl ?_
            refine g_sub [(0, .ref (B + 95)), (2, J v2_2), (3, J v3_28)] [2, 3, 0] rfl ?_
            exact ih48 v3_28 M_27 hf h_v3_28 h_M_27
  · intro J36 hJ36 hf
    refine g_sub [(0, .ref (B + 95)), (1, J v1), (2, J 0)] [1, 2, 0] rfl ?_
    refine wl2_elim (fun (v2_34 : Int) (M_35 : Mem) => inR v2_34 → MR M_35 → G p l e (rmF 2 43) s m args below meth c B D K 6 0 0 (ZV below args s B D K Q) M_35 2 [(0, .ref (B + 95)), (1, J v1), (2, J v2_34)] []) ?_ 5000 0 M hf (by unfold inR; omega) hM
    intro rec2 ih2 v2_34 M_35 hf h_v2_34 h_M_35
    unfold X12_laysWays_b2 at hf
    refine g_iload_n hC 2 dX12_laysWays_2 rfl rfl ?_
    refine g_aload_n hC 0 dX12_laysWays_3 rfl rfl ?_
    refine g_callVI hC (sk := [J v2_34]) [] (c_X12_places l B D K   M_35 h_M_35 _ hf) yv_X12_places wm_X12_246 okX12.1 sc95 rfl ⟨Nat.le_of_ble_eq_true rfl, Nat.le_of_ble_eq_true rfl, Nat.le_of_ble_eq_true rfl, Nat.le_of_ble_eq_true rfl⟩ rfl (Nat.le_of_ble_eq_true rfl) dX12_laysWays_4 ?_
    rintro r_36 M_37 h_r_36 - ⟨rfl, hf⟩
    refine g_icmp_ge hC 36 h_v2_34 h_r_36 dX12_laysWays_7 rfl (fun c_46 => ?_) (fun c_46 => ?_)
    · replace hf := hf.1 c_46
      refine g_sub [(0, .ref (B + 95))] [0] rfl ?_
      exact hJ36 M_35 hf h_M_35
    · replace hf := hf.2 c_46
      refine g_aload_n hC 0 dX12_laysWays_10 rfl rfl ?_
      refine g_getr hC okX12 sc95 31 (by decide) rfl wf_X12_75 dX12_laysWays_11 ?_
      refine g_iload_n hC 2 dX12_laysWays_14 rfl rfl ?_
      refine g_iload_n hC 2 dX12_laysWays_15 rfl rfl ?_
      refine g_iload_n hC 1 dX12_laysWays_16 rfl rfl ?_
      refine jn_elim (fun (k : Int → Prop) => ∀ (s2_38 : Int), k s2_38 → ((s2_38 = 0 ∨ s2_38 = 1)) → G p l e (rmF 2 43) s m args below meth c B D K 6 0 0 (ZV below args s B D K Q) M_35 25 [(0, .ref (B + 95)), (1, J v1), (2, J v2_34)] [J s2_38, J v2_34, .ref (B + 116)]) hf ?_ ?_
      · intro s2_38 hf h_s2_38
        refine g_callSI hC (sk := [J v2_34, .ref (B + 116)]) [J s2_38] (c_X12_flag l B D K s2_38 (zi_ h_s2_38) M_35 h_M_35 _ hf) yv_X12_flag wm_X12_255 rfl ⟨Nat.le_of_ble_eq_true rfl, Nat.le_of_ble_eq_true rfl, Nat.le_of_ble_eq_true rfl, Nat.le_of_ble_eq_true rfl⟩ rfl (Nat.le_of_ble_eq_true rfl) dX12_laysWays_25 ?_
        rintro r_39 M_40 h_r_39 - ⟨rfl, hf⟩
        refine g_i2l hC h_r_39 dX12_laysWays_28 ?_
        obtain ⟨q_41, hf⟩ := hf
        refine g_lastk (v2_34.toNat) hC sc116 q_41.1 q_41.2 rfl dX12_laysWays_29 ?_
        refine g_nmM (fun M_42 e_M_42 => ?_)
        replace hf := hf M_42 e_M_42
        have h_M_42 : MR M_42 := by rw [e_M_42]; exact MR_st h_M_35 h_r_39
        obtain ⟨q_44, hf⟩ := hf
        obtain ⟨v2_43, e_v2_43⟩ : ∃ z : Int, z = v2_34 + 1 := ⟨_, rfl⟩
        replace hf := hf v2_43 e_v2_43
        have h_v2_43 : inR v2_43 := by rw [e_v2_43]; exact q_44
        refine g_iincv hC 2 e_v2_43 [(2, J v2_43), (0, .ref (B + 95)), (1, J v1)] dX12_laysWays_30 rfl (by decide) rfl ?_
        refine g_goto hC 2 dX12_laysWays_33 rfl ?_
        refine g_sub [(0, .ref (B + 95)), (1, J v1), (2, J v2_43)] [1, 2, 0] rfl ?_
        exact ih2 v2_43 M_42 hf h_v2_43 h_M_42
      · intro J25 hJ25 hf
        refine g_icmp_ne hC 24 h_v2_34 i_v1 dX12_laysWays_17 rfl (fun c_45 => ?_) (fun c_45 => ?_)
        · replace hf := hf.1 c_45
          refine g_iconst hC dX12_laysWays_24 ?_
          refine g_sub [(0, .ref (B + 95)), (1, J v1), (2, J v2_34)] [0, 1, 2] rfl ?_
          exact hJ25 0 hf (Or.inl rfl)
        · replace hf := hf.2 c_45
          refine g_iconst hC dX12_laysWays_20 ?_
          refine g_goto hC 25 dX12_laysWays_21 rfl ?_
          refine g_sub [(0, .ref (B + 95)), (1, J v1), (2, J v2_34)] [0, 1, 2] rfl ?_
          exact hJ25 1 hf (Or.inr rfl)
