set_option maxHeartbeats 4000000 in
set_option maxRecDepth 100000 in
theorem c_X12_isDyed (l : Launch) (B : Nat) (D : va_G) (K : Nat → ClassId) (v1 : Int) (v2 : Int) (i_v1 : inR v1) (i_v2 : inR v2) (M : Mem) (hM : MR M) (Q : Int → Prop) (hf : f_X12_isDyed v1 v2 M Q) : CtZ l yX12_isDyed cX12_isDyed 3 2 43 B D K [.ref (B + 95), J v1, J v2] M (fun r M1 => M = M1 ∧ Q r) := by
  refine ct_z (by decide) (Nat.le_of_ble_eq_true rfl) ?_
  intro p e s m args below meth c hC
  have hC : Cx p s m args meth c D K cX12_isDyed 3 RX12 (some .boolean) := hC
  unfold f_X12_isDyed at hf
  refine (show G p l e (rmF 2 43) s m args below meth c B D K 3 0 0 (ZZ below args s B D K (fun r M1 => M = M1 ∧ Q r)) M 0 [(0, .ref (B + 95)), (1, J v1), (2, J v2)] [] from ?_)
  refine g_aload_n hC 0 dX12_isDyed_0 rfl rfl ?_
  refine g_iload_n hC 1 dX12_isDyed_1 rfl rfl ?_
  refine g_iconst hC dX12_isDyed_2 ?_
  refine g_callVI hC (sk := []) [J v1, J 0] (c_X12_its l B D K v1 0 i_v1 (by unfold inR; omega) M hM _ hf) yv_X12_its wm_X12_252 okX12.1 sc95 rfl ⟨Nat.le_of_ble_eq_true rfl, Nat.le_of_ble_eq_true rfl, Nat.le_of_ble_eq_true rfl, Nat.le_of_ble_eq_true rfl⟩ rfl (Nat.le_of_ble_eq_true rfl) dX12_isDyed_3 ?_
  rintro r_1 M_2 h_r_1 - ⟨rfl, hf⟩
  refine g_iload_n hC 2 dX12_isDyed_6 rfl rfl ?_
  refine g_icmp_eq hC 28 h_r_1 i_v2 dX12_isDyed_7 rfl (fun c_9 => ?_) (fun c_9 => ?_)
  · replace hf := hf.1 c_9
    refine g_iconst hC dX12_isDyed_28 ?_
    refine g_goto hC 33 dX12_isDyed_29 rfl ?_
    exact g_retz hC (Or.inr rfl) hM ⟨rfl, hf⟩ dX12_isDyed_33
  · replace hf := hf.2 c_9
    refine g_aload_n hC 0 dX12_isDyed_10 rfl rfl ?_
    refine g_getr hC okX12 sc95 19 (by decide) rfl wf_X12_39 dX12_isDyed_11 ?_
    refine g_iload_n hC 2 dX12_isDyed_14 rfl rfl ?_
    obtain ⟨q_3, hf⟩ := hf
    refine g_ialdk (v2.toNat) hC sc104 q_3.1 q_3.2 rfl dX12_isDyed_15 ?_
    refine g_aload_n hC 0 dX12_isDyed_16 rfl rfl ?_
    refine g_iload_n hC 1 dX12_isDyed_17 rfl rfl ?_
    refine g_iconst hC dX12_isDyed_18 ?_
    refine g_callVI hC (sk := [J (M 104 (v2.toNat))]) [J v1, J 0] (c_X12_its l B D K v1 0 i_v1 (by unfold inR; omega) M hM _ hf) yv_X12_its wm_X12_252 okX12.1 sc95 rfl ⟨Nat.le_of_ble_eq_true rfl, Nat.le_of_ble_eq_true rfl, Nat.le_of_ble_eq_true rfl, Nat.le_of_ble_eq_true rfl⟩ rfl (Nat.le_of_ble_eq_true rfl) dX12_isDyed_19 ?_
    rintro r_4 M_5 h_r_4 - ⟨rfl, hf⟩
    refine g_callSZ hC (sk := []) [J (M 104 (v2.toNat)), J r_4] (c_X12_isOf l B D K (M 104 (v2.toNat)) r_4 (hM _ _) h_r_4 M hM _ hf) yv_X12_isOf wm_X12_187 rfl ⟨Nat.le_of_ble_eq_true rfl, Nat.le_of_ble_eq_true rfl, Nat.le_of_ble_eq_true rfl, Nat.le_of_ble_eq_true rfl⟩ rfl (Nat.le_of_ble_eq_true rfl) dX12_isDyed_22 ?_
    rintro r_6 M_7 h_r_6 - ⟨rfl, hf⟩
    refine g_if_eq hC 32 (zi_ h_r_6) dX12_isDyed_25 rfl (fun c_8 => ?_) (fun c_8 => ?_)
    · replace hf := hf.1 c_8
      refine g_iconst hC dX12_isDyed_32 ?_
      exact g_retz hC (Or.inl rfl) hM ⟨rfl, hf⟩ dX12_isDyed_33
    · replace hf := hf.2 c_8
      refine g_iconst hC dX12_isDyed_28 ?_
      refine g_goto hC 33 dX12_isDyed_29 rfl ?_
      exact g_retz hC (Or.inr rfl) hM ⟨rfl, hf⟩ dX12_isDyed_33
set_option maxHeartbeats 4000000 in
set_option maxRecDepth 100000 in
theorem c_X12_canFit (l : Launch) (B : Nat) (D : va_G) (K : Nat → ClassId)   (M : Mem) (hM : MR M) (Q : Int → Prop) (hf : f_X12_canFit  M Q) : CtZ l yX12_canFit cX12_canFit 2 2 46 B D K [.ref (B + 95)] M (fun r M1 => M = M1 ∧ Q r) := by
  refine ct_z (by decide) (Nat.le_of_ble_eq_true rfl) ?_
  intro p e s m args below meth c hC
  have hC : Cx p s m args meth c D K cX12_canFit 2 RX12 (some .boolean) := hC
  unfold f_X12_canFit at hf
  refine (show G p l e (rmF 2 46) s m args below meth c B D K 2 0 0 (ZZ below args s B D K (fun r M1 => M = M1 ∧ Q r)) M 0 [(0, .ref (B + 95))] [] from ?_)
  refine g_iconst hC dX12_canFit_0 ?_
  refine g_istore_n hC [(1, J 0), (0, .ref (B + 95))] dX12_canFit_1 rfl (by decide) rfl ?_
  refine jn_elim (fun (k : Prop) => k → G p l e (rmF 2 46) s m args below meth c B D K 2 0 0 (ZZ below args s B D K (fun r M1 => M = M1 ∧ Q r)) M 33 [(0, .ref (B + 95))] []) hf ?_ ?_
  · intro hf
    refine g_aload_n hC 0 dX12_canFit_33 rfl rfl ?_
    refine g_geti hC okX12 sc95 38 (by decide) rfl wf_X12_240 dX12_canFit_34 ?_
    refine g_if_le hC 44 (hM _ _) dX12_canFit_37 rfl (fun c_1 => ?_) (fun c_1 => ?_)
    · replace hf := hf.1 c_1
      refine g_iconst hC dX12_canFit_44 ?_
      exact g_retz hC (Or.inl rfl) hM ⟨rfl, hf⟩ dX12_canFit_45
    · replace hf := hf.2 c_1
      refine g_iconst hC dX12_canFit_40 ?_
      refine g_goto hC 45 dX12_canFit_41 rfl ?_
      exact g_retz hC (Or.inr rfl) hM ⟨rfl, hf⟩ dX12_canFit_45
  · intro J33 hJ33 hf
    refine g_sub [(0, .ref (B + 95)), (1, J 0)] [1, 0] rfl ?_
    refine wl1_elim (fun (v1_2 : Int) => inR v1_2 → G p l e (rmF 2 46) s m args below meth c B D K 2 0 0 (ZZ below args s B D K (fun r M1 => M = M1 ∧ Q r)) M 2 [(0, .ref (B + 95)), (1, J v1_2)] []) ?_ 5000 0 hf (by unfold inR; omega)
    intro rec2 ih2 v1_2 hf h_v1_2
    unfold X12_canFit_b2 at hf
    refine g_iload_n hC 1 dX12_canFit_2 rfl rfl ?_
    refine g_aload_n hC 0 dX12_canFit_3 rfl rfl ?_
    refine g_geti hC okX12 sc95 38 (by decide) rfl wf_X12_240 dX12_canFit_4 ?_
    refine g_icmp_ge hC 33 h_v1_2 (hM _ _) dX12_canFit_7 rfl (fun c_9 => ?_) (fun c_9 => ?_)
    · replace hf := hf.1 c_9
      refine g_sub [(0, .ref (B + 95))] [0] rfl ?_
      exact hJ33 hf
    · replace hf := hf.2 c_9
      refine g_aload_n hC 0 dX12_canFit_10 rfl rfl ?_
      refine g_aload_n hC 0 dX12_canFit_11 rfl rfl ?_
      refine g_getr hC okX12 sc95 39 (by decide) rfl wf_X12_98 dX12_canFit_12 ?_
      refine g_iconst hC dX12_canFit_15 ?_
      refine g_iload_n hC 1 dX12_canFit_16 rfl rfl ?_
      refine g_imul hC dX12_canFit_17 ?_
      obtain ⟨q_3, hf⟩ := hf
      refine g_ialdk ((2 * v1_2).toNat) hC sc123 q_3.1 q_3.2 rfl dX12_canFit_18 ?_
      refine g_callVZ hC (sk := []) [J (M 123 ((2 * v1_2).toNat))] (c_X12_isReach l B D K (M 123 ((2 * v1_2).toNat)) (hM _ _) M hM _ hf) yv_X12_isReach wm_X12_344 okX12.1 sc95 rfl ⟨Nat.le_of_ble_eq_true rfl, Nat.le_of_ble_eq_true rfl, Nat.le_of_ble_eq_true rfl, Nat.le_of_ble_eq_true rfl⟩ rfl (Nat.le_of_ble_eq_true rfl) dX12_canFit_19 ?_
      rintro r_4 M_5 h_r_4 - ⟨rfl, hf⟩
      refine g_if_ne hC 27 (zi_ h_r_4) dX12_canFit_22 rfl (fun c_8 => ?_) (fun c_8 => ?_)
      · replace hf := hf.1 c_8
        obtain ⟨q_7, hf⟩ := hf
        obtain ⟨v1_6, e_v1_6⟩ : ∃ z : Int, z = v1_2 + 1 := ⟨_, rfl⟩
        replace hf := hf v1_6 e_v1_6
        have h_v1_6 : inR v1_6 := by rw [e_v1_6]; exact q_7
        refine g_iincv hC 1 e_v1_6 [(1, J v1_6), (0, .ref (B + 95))] dX12_canFit_27 rfl (by decide) rfl ?_
        refine g_goto hC 2 dX12_canFit_30 rfl ?_
        refine g_sub [(0, .ref (B + 95)), (1, J v1_6)] [1, 0] rfl ?_
        exact ih2 v1_6 hf h_v1_6
      · replace hf := hf.2 c_8
        refine g_iconst hC dX12_canFit_25 ?_
        exact g_retz hC (Or.inl rfl) hM ⟨rfl, hf⟩ dX12_canFit_26
set_option maxHeartbeats 4000000 in
set_option maxRecDepth 100000 in
theorem c_X12_fitting (l : Launch) (B : Nat) (D : va_G) (K : Nat → ClassId)   (M : Mem) (hM : MR M) (Q : Int → Mem → Prop) (hf : f_X12_fitting  M Q) : CtI l yX12_fitting cX12_fitting 5 7 159 B D K [.ref (B + 95)] M Q := by
  refine ct_i (by decide) (Nat.le_of_ble_eq_true rfl) ?_
  intro p e s m args below meth c hC
  have hC : Cx p s m args meth c D K cX12_fitting 5 RX12 (some .int) := hC
  unfold f_X12_fitting at hf
  refine (show G p l e (rmF 7 159) s m args below meth c B D K 5 0 0 (ZI below args s B D K Q) M 0 [(0, .ref (B + 95))] [] from ?_)
  refine g_iconst hC dX12_fitting_0 ?_
  refine g_istore_n hC [(1, J 0), (0, .ref (B + 95))] dX12_fitting_1 rfl (by decide) rfl ?_
  refine g_aload_n hC 1 dX12_fitting_2 rfl rfl ?_
  refine g_callVV hC (sk := []) [] (c_X12_lays l B D K   M hM _ hf) yv_X12_lays wm_X12_320 okX12.1 sc95 rfl ⟨Nat.le_of_ble_eq_true rfl, Nat.le_of_ble_eq_true rfl, Nat.le_of_ble_eq_true rfl, Nat.le_of_ble_eq_true rfl⟩ rfl (Nat.le_of_ble_eq_true rfl) dX12_fitting_3 ?_
  intro M_1 h_M_1 hf
  refine g_iconst hC dX12_fitting_6 ?_
  refine g_istore_n hC [(2, J 0), (1, J 0), (0, .ref (B + 95))] dX12_fitting_7 rfl (by decide) rfl ?_
  refine g_sub [(0, .ref (B + 95)), (1, J 0), (2, J 0)] [2, 1, 0] rfl ?_
  refine wl2_elim (fun (v1_2 : Int) (v2_3 : Int) => inR v1_2 → inR v2_3 → G p l e (rmF 7 159) s m args below meth c B D K 5 0 0 (ZI below args s B D K Q) M_1 8 [(0, .ref (B + 95)), (1, J v1_2), (2, J v2_3)] []) ?_ 5000 0 0 hf (by unfold inR; omega) (by unfold inR; omega)
  intro rec8 ih8 v1_2 v2_3 hf h_v1_2 h_v2_3
  unfold X12_fitting_b8 at hf
  refine g_iload_n hC 2 dX12_fitting_8 rfl rfl ?_
  refine g_aload_n hC 0 dX12_fitting_9 rfl rfl ?_
  refine g_callVI hC (sk := [J v2_3]) [] (c_X12_places l B D K   M_1 h_M_1 _ hf) yv_X12_places wm_X12_246 okX12.1 sc95 rfl ⟨Nat.le_of_ble_eq_true rfl, Nat.le_of_ble_eq_true rfl, Nat.le_of_ble_eq_true rfl, Nat.le_of_ble_eq_true rfl⟩ rfl (Nat.le_of_ble_eq_true rfl) dX12_fitting_10 ?_
  rintro r_4 M_5 h_r_4 - ⟨rfl, hf⟩
  refine g_icmp_ge hC 92 h_v2_3 h_r_4 dX12_fitting_13 rfl (fun c_29 => ?_) (fun c_29 => ?_)
  · replace hf := hf.1 c_29
    refine g_iload_n hC 1 dX12_fitting_92 rfl rfl ?_
    exact g_reti hC h_v1_2 h_M_1 hf dX12_fitting_93
  · replace hf := hf.2 c_29
    refine g_iconst hC dX12_fitting_16 ?_
    refine g_istore_n hC [(3, J 1), (0, .ref (B + 95)), (1, J v1_2), (2, J v2_3)] dX12_fitting_17 rfl (by decide) rfl ?_
    refine g_iconst hC dX12_fitting_18 ?_
    refine g_istore hC [(4, J 0), (3, J 1), (0, .ref (B + 95)), (1, J v1_2), (2, J v2_3)] dX12_fitting_19 (by decide) rfl ?_
    refine jn_elim (fun (k : Int → Prop) => ∀ (v3_6 : Int), k v3_6 → (v3_6 = 0 ∨ v3_6 = 1) → G p l e (rmF 7 159) s m args below meth c B D K 5 0 0 (ZI below args s B D K Q) M_1 77 [(0, .ref (B + 95)), (1, J v1_2), (2, J v2_3), (3, J v3_6)] []) hf ?_ ?_
    · intro v3_6 hf h_v3_6
      refine g_iload_n hC 1 dX12_fitting_77 rfl rfl ?_
      refine g_iload_n hC 3 dX12_fitting_78 rfl rfl ?_
      refine g_callSI hC (sk := [J v1_2]) [J v3_6] (c_X12_flag l B D K v3_6 (zi_ h_v3_6) M_1 h_M_1 _ hf) yv_X12_flag wm_X12_255 rfl ⟨Nat.le_of_ble_eq_true rfl, Nat.le_of_ble_eq_true rfl, Nat.le_of_ble_eq_true rfl, Nat.le_of_ble_eq_true rfl⟩ rfl (Nat.le_of_ble_eq_true rfl) dX12_fitting_79 ?_
      rintro r_7 M_8 h_r_7 - ⟨rfl, hf⟩
      refine g_iload_n hC 2 dX12_fitting_82 rfl rfl ?_
      refine g_ishl hC dX12_fitting_83 ?_
      refine g_ior hC dX12_fitting_84 ?_
      refine g_nm (fun v1_9 e_v1_9 => ?_)
      replace hf := hf v1_9 e_v1_9
      have h_v1_9 : inR v1_9 := by rw [e_v1_9]; exact (bOr_in _ _)
      refine g_istore_n hC [(1, J v1_9), (0, .ref (B + 95)), (2, J v2_3), (3, J v3_6)] dX12_fitting_85 rfl (by decide) rfl ?_
      obtain ⟨q_11, hf⟩ := hf
      obtain ⟨v2_10, e_v2_10⟩ : ∃ z : Int, z = v2_3 + 1 := ⟨_, rfl⟩
      replace hf := hf v2_10 e_v2_10
      have h_v2_10 : inR v2_10 := by rw [e_v2_10]; exact q_11
      refine g_iincv hC 2 e_v2_10 [(2, J v2_10), (1, J v1_9), (0, .ref (B + 95)), (3, J v3_6)] dX12_fitting_86 rfl (by decide) rfl ?_
      refine g_goto hC 8 dX12_fitting_89 rfl ?_
      refine g_sub [(0, .ref (B + 95)), (1, J v1_9), (2, J v2_10)] [2, 1, 0] rfl ?_
      exact ih8 v1_9 v2_10 hf h_v1_9 h_v2_10
    · intro J77 hJ77 hf
      refine g_sub [(0, .ref (B + 95)), (1, J v1_2), (2, J v2_3), (3, J 1), (4, J 0)] [2, 3, 4, 1, 0] rfl ?_
      refine wl2_elim (fun (v3_12 : Int) (v4_13 : Int) => (v3_12 = 0 ∨ v3_12 = 1) → inR v4_13 → G p l e (rmF 7 159) s m args below meth c B D K 5 0 0 (ZI below args s B D K Q) M_1 21 [(0, .ref (B + 95)), (1, J v1_2), (2, J v2_3), (3, J v3_12), (4, J v4_13)] []) ?_ 5000 1 0 hf (Or.inr rfl) (by unfold inR; omega)
      intro rec21 ih21 v3_12 v4_13 hf h_v3_12 h_v4_13
      unfold X12_fitting_b21 at hf
      refine g_iload hC 4 dX12_fitting_21 rfl ?_
      refine g_aload_n hC 0 dX12_fitting_23 rfl rfl ?_
      refine g_geti hC okX12 sc95 38 (by decide) rfl wf_X12_240 dX12_fitting_24 ?_
      refine g_icmp_ge hC 77 h_v4_13 (h_M_1 _ _) dX12_fitting_27 rfl (fun c_28 => ?_) (fun c_28 => ?_)
      · replace hf := hf.1 c_28
        refine g_sub [(0, .ref (B + 95)), (1, J v1_2), (2, J v2_3), (3, J v3_12)] [0, 1, 2, 3] rfl ?_
        exact hJ77 v3_12 hf h_v3_12
      · replace hf := hf.2 c_28
        refine g_iload_n hC 3 dX12_fitting_30 rfl rfl ?_
        refine g_if_eq hC 69 (zi_ h_v3_12) dX12_fitting_31 rfl (fun c_27 => ?_) (fun c_27 => ?_)
        · replace hf := hf.1 c_27
          refine g_iconst hC dX12_fitting_69 ?_
          refine g_istore_n hC [(3, J 0), (0, .ref (B + 95)), (1, J v1_2), (2, J v2_3), (4, J v4_13)] dX12_fitting_70 rfl (by decide) rfl ?_
          obtain ⟨q_15, hf⟩ := hf
          obtain ⟨v4_14, e_v4_14⟩ : ∃ z : Int, z = v4_13 + 1 := ⟨_, rfl⟩
          replace hf := hf v4_14 e_v4_14
          have h_v4_14 : inR v4_14 := by rw [e_v4_14]; exact q_15
          refine g_iincv hC 4 e_v4_14 [(4, J v4_14), (3, J 0), (0, .ref (B + 95)), (1, J v1_2), (2, J v2_3)] dX12_fitting_71 rfl (by decide) rfl ?_
          refine g_goto hC 21 dX12_fitting_74 rfl ?_
          refine g_sub [(0, .ref (B + 95)), (1, J v1_2), (2, J v2_3), (3, J 0), (4, J v4_14)] [2, 3, 4, 1, 0] rfl ?_
          exact ih21 0 v4_14 hf (Or.inl rfl) h_v4_14
        · replace hf := hf.2 c_27
          refine g_aload_n hC 0 dX12_fitting_34 rfl rfl ?_
          refine g_aload_n hC 0 dX12_fitting_35 rfl rfl ?_
          refine g_getr hC okX12 sc95 39 (by decide) rfl wf_X12_98 dX12_fitting_36 ?_
          refine g_iconst hC dX12_fitting_39 ?_
          refine g_iload hC 4 dX12_fitting_40 rfl ?_
          refine g_imul hC dX12_fitting_42 ?_
          obtain ⟨q_16, hf⟩ := hf
          refine g_ialdk ((2 * v4_13).toNat) hC sc123 q_16.1 q_16.2 rfl dX12_fitting_43 ?_
          refine g_iload_n hC 2 dX12_fitting_44 rfl rfl ?_
          refine g_callVZ hC (sk := []) [J (M_1 123 ((2 * v4_13).toNat)), J v2_3] (c_X12_isDyed l B D K (M_1 123 ((2 * v4_13).toNat)) v2_3 (h_M_1 _ _) h_v2_3 M_1 h_M_1 _ hf) yv_X12_isDyed wm_X12_409 okX12.1 sc95 rfl ⟨Nat.le_of_ble_eq_true rfl, Nat.le_of_ble_eq_true rfl, Nat.le_of_ble_eq_true rfl, Nat.le_of_ble_eq_true rfl⟩ rfl (Nat.le_of_ble_eq_true rfl) dX12_fitting_45 ?_
          rintro r_17 M_18 h_r_17 - ⟨rfl, hf⟩
          refine g_callSI hC (sk := []) [J r_17] (c_X12_flag l B D K r_17 (zi_ h_r_17) M_1 h_M_1 _ hf) yv_X12_flag wm_X12_255 rfl ⟨Nat.le_of_ble_eq_true rfl, Nat.le_of_ble_eq_true rfl, Nat.le_of_ble_eq_true rfl, Nat.le_of_ble_eq_true rfl⟩ rfl (Nat.le_of_ble_eq_true rfl) dX12_fitting_48 ?_
          rintro r_19 M_20 h_r_19 - ⟨rfl, hf⟩
          refine g_aload_n hC 0 dX12_fitting_51 rfl rfl ?_
          refine g_getr hC okX12 sc95 39 (by decide) rfl wf_X12_98 dX12_fitting_52 ?_
          refine g_iconst hC dX12_fitting_55 ?_
          refine g_iload hC 4 dX12_fitting_56 rfl ?_
          refine g_imul hC dX12_fitting_58 ?_
          refine g_iconst hC dX12_fitting_59 ?_
          refine g_iadd hC dX12_fitting_60 ?_
          obtain ⟨q_21, hf⟩ := hf
          refine g_ialdk (((2 * v4_13) + 1).toNat) hC sc123 q_21.1 q_21.2 rfl dX12_fitting_61 ?_
          refine g_icmp_ne hC 69 h_r_19 (h_M_1 _ _) dX12_fitting_62 rfl (fun c_26 => ?_) (fun c_26 => ?_)
          · replace hf := hf.1 c_26
            refine g_iconst hC dX12_fitting_69 ?_
            refine g_istore_n hC [(3, J 0), (0, .ref (B + 95)), (1, J v1_2), (2, J v2_3), (4, J v4_13)] dX12_fitting_70 rfl (by decide) rfl ?_
            obtain ⟨q_23, hf⟩ := hf
            obtain ⟨v4_22, e_v4_22⟩ : ∃ z : Int, z = v4_13 + 1 := ⟨_, rfl⟩
            replace hf := hf v4_22 e_v4_22
            have h_v4_22 : inR v4_22 := by rw [e_v4_22]; exact q_23
            refine g_iincv hC 4 e_v4_22 [(4, J v4_22), (3, J 0), (0, .ref (B + 95)), (1, J v1_2), (2, J v2_3)] dX12_fitting_71 rfl (by decide) rfl ?_
            refine g_goto hC 21 dX12_fitting_74 rfl ?_
            refine g_sub [(0, .ref (B + 95)), (1, J v1_2), (2, J v2_3), (3, J 0), (4, J v4_22)] [2, 3, 4, 1, 0] rfl ?_
            exact ih21 0 v4_22 hf (Or.inl rfl) h_v4_22
          · replace hf := hf.2 c_26
            refine g_iconst hC dX12_fitting_65 ?_
            refine g_goto hC 70 dX12_fitting_66 rfl ?_
            refine g_istore_n hC [(3, J 1), (0, .ref (B + 95)), (1, J v1_2), (2, J v2_3), (4, J v4_13)] dX12_fitting_70 rfl (by decide) rfl ?_
            obtain ⟨q_25, hf⟩ := hf
            obtain ⟨v4_24, e_v4_24⟩ : ∃ z : Int, z = v4_13 + 1 := ⟨_, rfl⟩
            replace hf := hf v4_24 e_v4_24
            have h_v4_24 : inR v4_24 := by rw [e_v4_24]; exact q_25
            refine g_iincv hC 4 e_v4_24 [(4, J v4_24), (3, J 1), (0, .ref (B + 95)), (1, J v1_2), (2, J v2_3)] dX12_fitting_71 rfl (by decide) rfl ?_
            refine g_goto hC 21 dX12_fitting_74 rfl ?_
            refine g_sub [(0, .ref (B + 95)), (1, J v1_2), (2, J v2_3), (3, J 1), (4, J v4_24)] [2, 3, 4, 1, 0] rfl ?_
            exact ih21 1 v4_24 hf (Or.inr rfl) h_v4_24
set_option maxHeartbeats 4000000 in
set_option maxRecDepth 100000 in
theorem c_X12_fits (l : Launch) (B : Nat) (D : va_G) (K : Nat → ClassId)   (M : Mem) (hM : MR M) (Q : Int → Mem → Prop) (hf : f_X12_fits  M Q) : CtI l yX12_fits cX12_fits 1 8 183 B D K [.ref (B + 95)] M Q := by
  refine ct_i (by decide) (Nat.le_of_ble_eq_true rfl) ?_
  intro p e s m args below meth c hC
  have hC : Cx p s m args meth c D K cX12_fits 1 RX12 (some .int) := hC
  unfold f_X12_fits at hf
  refine (show G p l e (rmF 8 183) s m args below meth c B D K 1 0 0 (ZI below args s B D K Q) M 0 [(0, .ref (B + 95))] [] from ?_)
  refine g_aload_n hC 0 dX12_fits_0 rfl rfl ?_
  refine g_callVZ hC (sk := []) [] (c_X12_canFit l B D K   M hM _ hf) yv_X12_canFit wm_X12_412 okX12.1 sc95 rfl ⟨Nat.le_of_ble_eq_true rfl, Nat.le_of_ble_eq_true rfl, Nat.le_of_ble_eq_true rfl, Nat.le_of_ble_eq_true rfl⟩ rfl (Nat.le_of_ble_eq_true rfl) dX12_fits_1 ?_
  rintro r_1 M_2 h_r_1 - ⟨rfl, hf⟩
  refine g_if_eq hC 14 (zi_ h_r_1) dX12_fits_4 rfl (fun c_5 => ?_) (fun c_5 => ?_)
  · replace hf := hf.1 c_5
    refine g_iconst hC dX12_fits_14 ?_
    exact g_reti hC (by unfold inR; omega) hM hf dX12_fits_15
  · replace hf := hf.2 c_5
    refine g_aload_n hC 0 dX12_fits_7 rfl rfl ?_
    refine g_callVI hC (sk := []) [] (c_X12_fitting l B D K   M hM _ hf) yv_X12_fitting wm_X12_415 okX12.1 sc95 rfl ⟨Nat.le_of_ble_eq_true rfl, Nat.le_of_ble_eq_true rfl, Nat.le_of_ble_eq_true rfl, Nat.le_of_ble_eq_true rfl⟩ rfl (Nat.le_of_ble_eq_true rfl) dX12_fits_8 ?_
    intro r_3 M_4 h_r_3 h_M_4 hf
    refine g_goto hC 15 dX12_fits_11 rfl ?_
    exact g_reti hC h_r_3 h_M_4 hf dX12_fits_15
set_option maxHeartbeats 4000000 in
set_option maxRecDepth 100000 in
theorem c_X12_mostBy (l : Launch) (B : Nat) (D : va_G) (K : Nat → ClassId) (v1 : Int) (v2 : Int) (i_v1 : inR v1) (i_v2 : inR v2) (M : Mem) (hM : MR M) (Q : Int → Prop) (hf : f_X12_mostBy v1 v2 M Q) : CtI l yX12_mostBy cX12_mostBy 5 3 65 B D K [.ref (B + 95), J v1, J v2] M (fun r M1 => M = M1 ∧ Q r) := by
  refine ct_i (by decide) (Nat.le_of_ble_eq_true rfl) ?_
  intro p e s m args below meth c hC
  have hC : Cx p s m args meth c D K cX12_mostBy 5 RX12 (some .int) := hC
  unfold f_X12_mostBy at hf
  refine (show G p l e (rmF 3 65) s m args below meth c B D K 5 0 0 (ZI below args s B D K (fun r M1 => M = M1 ∧ Q r)) M 0 [(0, .ref (B + 95)), (1, J v1), (2, J v2)] [] from ?_)
  refine g_iconst hC dX12_mostBy_0 ?_
  refine g_istore_n hC [(3, J 0), (0, .ref (B + 95)), (1, J v1), (2, J v2)] dX12_mostBy_1 rfl (by decide) rfl ?_
  refine g_iconst hC dX12_mostBy_2 ?_
  refine g_istore hC [(4, J 0), (3, J 0), (0, .ref (B + 95)), (1, J v1), (2, J v2)] dX12_mostBy_3 (by decide) rfl ?_
  refine jn_elim (fun (k : Int → Prop) => ∀ (v3_1 : Int), k v3_1 → (inR v3_1) → G p l e (rmF 3 65) s m args below meth c B D K 5 0 0 (ZI below args s B D K (fun r M1 => M = M1 ∧ Q r)) M 50 [(2, J v2), (3, J v3_1)] []) hf ?_ ?_
  · intro v3_1 hf h_v3_1
    refine g_iload_n hC 0 dX12_mostBy_50 rfl rfl ?_
    refine g_callSI hC (sk := []) [J v2] (c_X12_count l B D K v2 i_v2 M hM _ hf) yv_X12_count wm_X12_323 rfl ⟨Nat.le_of_ble_eq_true rfl, Nat.le_of_ble_eq_true rfl, Nat.le_of_ble_eq_true rfl, Nat.le_of_ble_eq_true rfl⟩ rfl (Nat.le_of_ble_eq_true rfl) dX12_mostBy_51 ?_
    rintro r_2 M_3 h_r_2 - ⟨rfl, hf⟩
    refine g_iload_n hC 1 dX12_mostBy_54 rfl rfl ?_
    refine g_isub hC dX12_mostBy_55 ?_
    obtain ⟨q_4, hf⟩ := hf
    refine g_nm (fun v4_5 e_v4_5 => ?_)
    replace hf := hf v4_5 e_v4_5
    have h_v4_5 : inR v4_5 := by rw [e_v4_5]; exact q_4
    refine g_istore hC [(4, J v4_5), (2, J v2), (3, J v3_1)] dX12_mostBy_56 (by decide) rfl ?_
    refine g_iload_n hC 2 dX12_mostBy_58 rfl rfl ?_
    refine g_iload hC 0 dX12_mostBy_59 rfl ?_
    refine g_icmp_le hC 68 h_v3_1 h_v4_5 dX12_mostBy_61 rfl (fun c_6 => ?_) (fun c_6 => ?_)
    · replace hf := hf.1 c_6
      refine g_iload hC 0 dX12_mostBy_68 rfl ?_
      exact g_reti hC h_v4_5 hM ⟨rfl, hf⟩ dX12_mostBy_70
    · replace hf := hf.2 c_6
      refine g_iload_n hC 2 dX12_mostBy_64 rfl rfl ?_
      refine g_goto hC 70 dX12_mostBy_65 rfl ?_
      exact g_reti hC h_v3_1 hM ⟨rfl, hf⟩ dX12_mostBy_70
  · intro J50 hJ50 hf
    refine g_sub [(0, .ref (B + 95)), (1, J v1), (2, J v2), (3, J 0), (4, J 0)] [2, 3, 4, 1, 0] rfl ?_
    refine wl2_elim (fun (v3_7 : Int) (v4_8 : Int) => inR v3_7 → inR v4_8 → G p l e (rmF 3 65) s m args below meth c B D K 5 0 0 (ZI below args s B D K (fun r M1 => M = M1 ∧ Q r)) M 5 [(0, .ref (B + 95)), (1, J v1), (2, J v2), (3, J v3_7), (4, J v4_8)] []) ?_ 5000 0 0 hf (by unfold inR; omega) (by unfold inR; omega)
    intro rec5 ih5 v3_7 v4_8 hf h_v3_7 h_v4_8
    unfold X12_mostBy_b5 at hf
    refine g_iload hC 4 dX12_mostBy_5 rfl ?_
    refine g_aload_n hC 0 dX12_mostBy_7 rfl rfl ?_
    refine g_callVI hC (sk := [J v4_8]) [] (c_X12_places l B D K   M hM _ hf) yv_X12_places wm_X12_246 okX12.1 sc95 rfl ⟨Nat.le_of_ble_eq_true rfl, Nat.le_of_ble_eq_true rfl, Nat.le_of_ble_eq_true rfl, Nat.le_of_ble_eq_true rfl⟩ rfl (Nat.le_of_ble_eq_true rfl) dX12_mostBy_8 ?_
    rintro r_9 M_10 h_r_9 - ⟨rfl, hf⟩
    refine g_icmp_ge hC 50 h_v4_8 h_r_9 dX12_mostBy_11 rfl (fun c_24 => ?_) (fun c_24 => ?_)
    · replace hf := hf.1 c_24
      refine g_sub [(2, J v2), (3, J v3_7)] [2, 3] rfl ?_
      exact hJ50 v3_7 hf h_v3_7
    · replace hf := hf.2 c_24
      refine g_iload_n hC 3 dX12_mostBy_14 rfl rfl ?_
      refine g_iload_n hC 2 dX12_mostBy_15 rfl rfl ?_
      refine g_iload hC 4 dX12_mostBy_16 rfl ?_
      refine g_callSZ hC (sk := [J v3_7]) [J v2, J v4_8] (c_X12_isOf l B D K v2 v4_8 i_v2 h_v4_8 M hM _ hf) yv_X12_isOf wm_X12_187 rfl ⟨Nat.le_of_ble_eq_true rfl, Nat.le_of_ble_eq_true rfl, Nat.le_of_ble_eq_true rfl, Nat.le_of_ble_eq_true rfl⟩ rfl (Nat.le_of_ble_eq_true rfl) dX12_mostBy_18 ?_
      rintro r_11 M_12 h_r_11 - ⟨rfl, hf⟩
      refine jn_elim (fun (k : Int → Prop) => ∀ (s1_13 : Int), k s1_13 → ((s1_13 = 0 ∨ s1_13 = 1)) → G p l e (rmF 3 65) s m args below meth c B D K 5 0 0 (ZI below args s B D K (fun r M1 => M = M1 ∧ Q r)) M 39 [(0, .ref (B + 95)), (1, J v1), (2, J v2), (4, J v4_8)] [J s1_13, J v3_7]) hf ?_ ?_
      · intro s1_13 hf h_s1_13
        refine g_callSI hC (sk := [J v3_7]) [J s1_13] (c_X12_flag l B D K s1_13 (zi_ h_s1_13) M hM _ hf) yv_X12_flag wm_X12_255 rfl ⟨Nat.le_of_ble_eq_true rfl, Nat.le_of_ble_eq_true rfl, Nat.le_of_ble_eq_true rfl, Nat.le_of_ble_eq_true rfl⟩ rfl (Nat.le_of_ble_eq_true rfl) dX12_mostBy_39 ?_
        rintro r_14 M_15 h_r_14 - ⟨rfl, hf⟩
        refine g_iadd hC dX12_mostBy_42 ?_
        obtain ⟨q_16, hf⟩ := hf
        refine g_nm (fun v3_17 e_v3_17 => ?_)
        replace hf := hf v3_17 e_v3_17
        have h_v3_17 : inR v3_17 := by rw [e_v3_17]; exact q_16
        refine g_istore_n hC [(3, J v3_17), (0, .ref (B + 95)), (1, J v1), (2, J v2), (4, J v4_8)] dX12_mostBy_43 rfl (by decide) rfl ?_
        obtain ⟨q_19, hf⟩ := hf
        obtain ⟨v4_18, e_v4_18⟩ : ∃ z : Int, z = v4_8 + 1 := ⟨_, rfl⟩
        replace hf := hf v4_18 e_v4_18
        have h_v4_18 : inR v4_18 := by rw [e_v4_18]; exact q_19
        refine g_iincv hC 4 e_v4_18 [(4, J v4_18), (3, J v3_17), (0, .ref (B + 95)), (1, J v1), (2, J v2)] dX12_mostBy_44 rfl (by decide) rfl ?_
        refine g_goto hC 5 dX12_mostBy_47 rfl ?_
        refine g_sub [(0, .ref (B + 95)), (1, J v1), (2, J v2), (3, J v3_17), (4, J v4_18)] [2, 3, 4, 1, 0] rfl ?_
        exact ih5 v3_17 v4_18 hf h_v3_17 h_v4_18
      · intro J39 hJ39 hf
        refine g_if_eq hC 38 (zi_ h_r_11) dX12_mostBy_21 rfl (fun c_23 => ?_) (fun c_23 => ?_)
        · replace hf := hf.1 c_23
          refine g_iconst hC dX12_mostBy_38 ?_
          refine g_sub [(0, .ref (B + 95)), (1, J v1), (2, J v2), (4, J v4_8)] [0, 1, 2, 4] rfl ?_
          exact hJ39 0 hf (Or.inl rfl)
        · replace hf := hf.2 c_23
          refine g_aload_n hC 0 dX12_mostBy_24 rfl rfl ?_
          refine g_iload_n hC 1 dX12_mostBy_25 rfl rfl ?_
          refine g_iload hC 4 dX12_mostBy_26 rfl ?_
          refine g_callVZ hC (sk := [J v3_7]) [J v1, J v4_8] (c_X12_isDyed l B D K v1 v4_8 i_v1 h_v4_8 M hM _ hf) yv_X12_isDyed wm_X12_409 okX12.1 sc95 rfl ⟨Nat.le_of_ble_eq_true rfl, Nat.le_of_ble_eq_true rfl, Nat.le_of_ble_eq_true rfl, Nat.le_of_ble_eq_true rfl⟩ rfl (Nat.le_of_ble_eq_true rfl) dX12_mostBy_28 ?_
          rintro r_20 M_21 h_r_20 - ⟨rfl, hf⟩
          refine g_if_eq hC 38 (zi_ h_r_20) dX12_mostBy_31 rfl (fun c_22 => ?_) (fun c_22 => ?_)
          · replace hf := hf.1 c_22
            refine g_iconst hC dX12_mostBy_38 ?_
            refine g_sub [(0, .ref (B + 95)), (1, J v1), (2, J v2), (4, J v4_8)] [0, 1, 2, 4] rfl ?_
            exact hJ39 0 hf (Or.inl rfl)
          · replace hf := hf.2 c_22
            refine g_iconst hC dX12_mostBy_34 ?_
            refine g_goto hC 39 dX12_mostBy_35 rfl ?_
            refine g_sub [(0, .ref (B + 95)), (1, J v1), (2, J v2), (4, J v4_8)] [0, 1, 2, 4] rfl ?_
            exact hJ39 1 hf (Or.inr rfl)
set_option maxHeartbeats 4000000 in
set_option maxRecDepth 100000 in
theorem c_X12_tells (l : Launch) (B : Nat) (D : va_G) (K : Nat → ClassId) (v1 : Int) (i_v1 : inR v1) (M : Mem) (hM : MR M) (Q : Int → Mem → Prop) (hf : f_X12_tells v1 M Q) : CtI l yX12_tells cX12_tells 5 8 183 B D K [.ref (B + 95), J v1] M Q := by
  refine ct_i (by decide) (Nat.le_of_ble_eq_true rfl) ?_
  intro p e s m args below meth c hC
  have hC : Cx p s m args meth c D K cX12_tells 5 RX12 (some .int) := hC
  unfold f_X12_tells at hf
  refine (show G p l e (rmF 8 183) s m args below meth c B D K 5 0 0 (ZI below args s B D K Q) M 0 [(0, .ref (B + 95)), (1, J v1)] [] from ?_)
  refine g_aload_n hC 0 dX12_tells_0 rfl rfl ?_
  refine g_callVZ hC (sk := []) [] (c_X12_canFit l B D K   M hM _ hf) yv_X12_canFit wm_X12_412 okX12.1 sc95 rfl ⟨Nat.le_of_ble_eq_true rfl, Nat.le_of_ble_eq_true rfl, Nat.le_of_ble_eq_true rfl, Nat.le_of_ble_eq_true rfl⟩ rfl (Nat.le_of_ble_eq_true rfl) dX12_tells_1 ?_
  rintro r_1 M_2 h_r_1 - ⟨rfl, hf⟩
  refine g_if_eq hC 17 (zi_ h_r_1) dX12_tells_4 rfl (fun c_27 => ?_) (fun c_27 => ?_)
  · replace hf := hf.1 c_27
    refine g_iconst hC dX12_tells_17 ?_
    exact g_reti hC (by unfold inR; omega) hM hf dX12_tells_18
  · replace hf := hf.2 c_27
    refine g_iload_n hC 1 dX12_tells_7 rfl rfl ?_
    refine g_i2l hC i_v1 dX12_tells_8 ?_
    refine g_lconst (n := 0) hC dX12_tells_9 (by decide) ?_
    refine g_lconst (n := 1) hC dX12_tells_10 (by decide) ?_
    refine g_callSZ hC (sk := []) [JL v1, JL 0, JL 1] (c_X12_isIn l B D K v1 0 1 (inL_of i_v1) (by unfold inL; omega) (by unfold inL; omega) M hM _ hf) yv_X12_isIn wm_X12_127 rfl ⟨Nat.le_of_ble_eq_true rfl, Nat.le_of_ble_eq_true rfl, Nat.le_of_ble_eq_true rfl, Nat.le_of_ble_eq_true rfl⟩ rfl (Nat.le_of_ble_eq_true rfl) dX12_tells_11 ?_
    rintro r_3 M_4 h_r_3 - ⟨rfl, hf⟩
    refine g_if_ne hC 19 (zi_ h_r_3) dX12_tells_14 rfl (fun c_26 => ?_) (fun c_26 => ?_)
    · replace hf := hf.1 c_26
      refine g_aload_n hC 0 dX12_tells_19 rfl rfl ?_
      refine g_callVI hC (sk := []) [] (c_X12_fitting l B D K   M hM _ hf) yv_X12_fitting wm_X12_415 okX12.1 sc95 rfl ⟨Nat.le_of_ble_eq_true rfl, Nat.le_of_ble_eq_true rfl, Nat.le_of_ble_eq_true rfl, Nat.le_of_ble_eq_true rfl⟩ rfl (Nat.le_of_ble_eq_true rfl) dX12_tells_20 ?_
      intro r_5 M_6 h_r_5 h_M_6 hf
      refine g_istore_n hC [(2, J r_5), (0, .ref (B + 95)), (1, J v1)] dX12_tells_23 rfl (by decide) rfl ?_
      refine g_iload_n hC 0 dX12_tells_24 rfl rfl ?_
      refine g_if_ne hC 30 h_r_5 dX12_tells_25 rfl (fun c_25 => ?_) (fun c_25 => ?_)
      · replace hf := hf.1 c_25
        refine g_iconst hC dX12_tells_30 ?_
        refine g_istore_n hC [(3, J 0), (2, J r_5), (0, .ref (B + 95)), (1, J v1)] dX12_tells_31 rfl (by decide) rfl ?_
        refine g_iconst hC dX12_tells_32 ?_
        refine g_istore hC [(4, J 1), (3, J 0), (2, J r_5), (0, .ref (B + 95)), (1, J v1)] dX12_tells_33 (by decide) rfl ?_
        refine jn_elim (fun (k : Int → Prop) => ∀ (v3_7 : Int), k v3_7 → (inR v3_7) → G p l e (rmF 8 183) s m args below meth c B D K 5 0 0 (ZI below args s B D K Q) M_6 69 [(0, .ref (B + 95)), (1, J v1), (2, J r_5), (3, J v3_7)] []) hf ?_ ?_
        · intro v3_7 hf h_v3_7
          refine g_iload_n hC 1 dX12_tells_69 rfl rfl ?_
          refine g_if_ne hC 77 i_v1 dX12_tells_70 rfl (fun c_10 => ?_) (fun c_10 => ?_)
          · replace hf := hf.1 c_10
            refine g_aload_n hC 0 dX12_tells_77 rfl rfl ?_
            refine g_iload_n hC 3 dX12_tells_78 rfl rfl ?_
            refine g_iload_n hC 2 dX12_tells_79 rfl rfl ?_
            refine g_callVI hC (sk := []) [J v3_7, J r_5] (c_X12_mostBy l B D K v3_7 r_5 h_v3_7 h_r_5 M_6 h_M_6 _ hf) yv_X12_mostBy wm_X12_418 okX12.1 sc95 rfl ⟨Nat.le_of_ble_eq_true rfl, Nat.le_of_ble_eq_true rfl, Nat.le_of_ble_eq_true rfl, Nat.le_of_ble_eq_true rfl⟩ rfl (Nat.le_of_ble_eq_true rfl) dX12_tells_80 ?_
            rintro r_8 M_9 h_r_8 - ⟨rfl, hf⟩
            exact g_reti hC h_r_8 h_M_6 hf dX12_tells_83
          · replace hf := hf.2 c_10
            refine g_iload_n hC 3 dX12_tells_73 rfl rfl ?_
            refine g_goto hC 83 dX12_tells_74 rfl ?_
            exact g_reti hC h_v3_7 h_M_6 hf dX12_tells_83
        · intro J69 hJ69 hf
          refine g_sub [(0, .ref (B + 95)), (1, J v1), (2, J r_5), (3, J 0), (4, J 1)] [3, 4, 2, 1, 0] rfl ?_
          refine wl2_elim (fun (v3_11 : Int) (v4_12 : Int) => inR v3_11 → inR v4_12 → G p l e (rmF 8 183) s m args below meth c B D K 5 0 0 (ZI below args s B D K Q) M_6 35 [(0, .ref (B + 95)), (1, J v1), (2, J r_5), (3, J v3_11), (4, J v4_12)] []) ?_ 5000 0 1 hf (by unfold inR; omega) (by unfold inR; omega)
          intro rec35 ih35 v3_11 v4_12 hf h_v3_11 h_v4_12
          unfold X12_tells_b35 at hf
          refine g_iload hC 4 dX12_tells_35 rfl ?_
          refine g_aload_n hC 0 dX12_tells_37 rfl rfl ?_
          refine g_callVI hC (sk := [J v4_12]) [] (c_X12_reaches l B D K   M_6 h_M_6 _ hf) yv_X12_reaches wm_X12_249 okX12.1 sc95 rfl ⟨Nat.le_of_ble_eq_true rfl, Nat.le_of_ble_eq_true rfl, Nat.le_of_ble_eq_true rfl, Nat.le_of_ble_eq_true rfl⟩ rfl (Nat.le_of_ble_eq_true rfl) dX12_tells_38 ?_
          rintro r_13 M_14 h_r_13 - ⟨rfl, hf⟩
          refine g_icmp_ge hC 69 h_v4_12 h_r_13 dX12_tells_41 rfl (fun c_24 => ?_) (fun c_24 => ?_)
          · replace hf := hf.1 c_24
            refine g_sub [(0, .ref (B + 95)), (1, J v1), (2, J r_5), (3, J v3_11)] [0, 1, 2, 3] rfl ?_
            exact hJ69 v3_11 hf h_v3_11
          · replace hf := hf.2 c_24
            refine g_aload_n hC 0 dX12_tells_44 rfl rfl ?_
            refine g_iload hC 4 dX12_tells_45 rfl ?_
            refine g_iload_n hC 2 dX12_tells_47 rfl rfl ?_
            refine g_callVI hC (sk := []) [J v4_12, J r_5] (c_X12_mostBy l B D K v4_12 r_5 h_v4_12 h_r_5 M_6 h_M_6 _ hf) yv_X12_mostBy wm_X12_418 okX12.1 sc95 rfl ⟨Nat.le_of_ble_eq_true rfl, Nat.le_of_ble_eq_true rfl, Nat.le_of_ble_eq_true rfl, Nat.le_of_ble_eq_true rfl⟩ rfl (Nat.le_of_ble_eq_true rfl) dX12_tells_48 ?_
            rintro r_15 M_16 h_r_15 - ⟨rfl, hf⟩
            refine g_aload_n hC 0 dX12_tells_51 rfl rfl ?_
            refine g_iload_n hC 3 dX12_tells_52 rfl rfl ?_
            refine g_iload_n hC 2 dX12_tells_53 rfl rfl ?_
            refine g_callVI hC (sk := [J r_15]) [J v3_11, J r_5] (c_X12_mostBy l B D K v3_11 r_5 h_v3_11 h_r_5 M_6 h_M_6 _ hf) yv_X12_mostBy wm_X12_418 okX12.1 sc95 rfl ⟨Nat.le_of_ble_eq_true rfl, Nat.le_of_ble_eq_true rfl, Nat.le_of_ble_eq_true rfl, Nat.le_of_ble_eq_true rfl⟩ rfl (Nat.le_of_ble_eq_true rfl) dX12_tells_54 ?_
            rintro r_17 M_18 h_r_17 - ⟨rfl, hf⟩
            refine g_icmp_ge hC 63 h_r_15 h_r_17 dX12_tells_57 rfl (fun c_23 => ?_) (fun c_23 => ?_)
            · replace hf := hf.1 c_23
              obtain ⟨q_20, hf⟩ := hf
              obtain ⟨v4_19, e_v4_19⟩ : ∃ z : Int, z = v4_12 + 1 := ⟨_, rfl⟩
              replace hf := hf v4_19 e_v4_19
              have h_v4_19 : inR v4_19 := by rw [e_v4_19]; exact q_20
              refine g_iincv hC 4 e_v4_19 [(4, J v4_19), (0, .ref (B + 95)), (1, J v1), (2, J r_5), (3, J v3_11)] dX12_tells_63 rfl (by decide) rfl ?_
              refine g_goto hC 35 dX12_tells_66 rfl ?_
              refine g_sub [(0, .ref (B + 95)), (1, J v1), (2, J r_5), (3, J v3_11), (4, J v4_19)] [1, 2, 3, 4, 0] rfl ?_
              exact ih35 v3_11 v4_19 hf h_v3_11 h_v4_19
            · replace hf := hf.2 c_23
              refine g_iload hC 4 dX12_tells_60 rfl ?_
              refine g_istore_n hC [(3, J v4_12), (0, .ref (B + 95)), (1, J v1), (2, J r_5), (4, J v4_12)] dX12_tells_62 rfl (by decide) rfl ?_
              obtain ⟨q_22, hf⟩ := hf
              obtain ⟨v4_21, e_v4_21⟩ : ∃ z : Int, z = v4_12 + 1 := ⟨_, rfl⟩
              replace hf := hf v4_21 e_v4_21
              have h_v4_21 : inR v4_21 := by rw [e_v4_21]; exact q_22
              refine g_iincv hC 4 e_v4_21 [(4, J v4_21), (3, J v4_12), (0, .ref (B + 95)), (1, J v1), (2, J r_5)] dX12_tells_63 rfl (by decide) rfl ?_
              refine g_goto hC 35 dX12_tells_66 rfl ?_
              refine g_sub [(0, .ref (B + 95)), (1, J v1), (2, J r_5), (3, J v4_12), (4, J v4_21)] [2, 3, 4, 1, 0] rfl ?_
              exact ih35 v4_12 v4_21 hf h_v4_12 h_v4_21
      · replace hf := hf.2 c_25
        refine g_iconst hC dX12_tells_28 ?_
        exact g_reti hC (by unfold inR; omega) h_M_6 hf dX12_tells_29
    · replace hf := hf.2 c_26
      refine g_iconst hC dX12_tells_17 ?_
      exact g_reti hC (by unfold inR; omega) hM hf dX12_tells_18
set_option maxHeartbeats 4000000 in
set_option maxRecDepth 100000 in
theorem c_X12_keeps (l : Launch) (B : Nat) (D : va_G) (K : Nat → ClassId)   (M : Mem) (hM : MR M) (Q : Mem → Prop) (hf : f_X12_keeps  M Q) : CtV l yX12_keeps cX12_keeps 3 7 159 B D K [.ref (B + 95)] M Q := by
  refine ct_v (by decide) (Nat.le_of_ble_eq_true rfl) ?_
  intro p e s m args below meth c hC
  have hC : Cx p s m args meth c D K cX12_keeps 3 RX12 none := hC
  unfold f_X12_keeps at hf
  refine (show G p l e (rmF 7 159) s m args below meth c B D K 3 0 0 (ZV below args s B D K Q) M 0 [(0, .ref (B + 95))] [] from ?_)
  refine g_aload_n hC 0 dX12_keeps_0 rfl rfl ?_
  refine g_aload_n hC 0 dX12_keeps_1 rfl rfl ?_
  refine g_geti hC okX12 sc95 42 (by decide) rfl wf_X12_421 dX12_keeps_2 ?_
  refine g_iconst hC dX12_keeps_5 ?_
  refine g_iadd hC dX12_keeps_6 ?_
  refine g_bipush hC dX12_keeps_7 (by decide) ?_
  obtain ⟨q_1, hf⟩ := hf
  refine g_irem hC q_1 (by unfold inR; omega) (by decide) dX12_keeps_9 ?_
  refine g_puti hC okX12 tnX12 sc95 42 (by decide) rfl rfl (by decide) wf_X12_421 dX12_keeps_10 ?_
  refine g_nmM (fun M_2 e_M_2 => ?_)
  replace hf := hf M_2 e_M_2
  have h_M_2 : MR M_2 := by rw [e_M_2]; exact MR_st hM (tmod_in q_1 (by decide))
  refine g_iconst hC dX12_keeps_13 ?_
  refine g_istore_n hC [(1, J 0), (0, .ref (B + 95))] dX12_keeps_14 rfl (by decide) rfl ?_
  refine jn_elim (fun (k : Mem → Prop) => ∀ (M_3 : Mem), k M_3 → (MR M_3) → G p l e (rmF 7 159) s m args below meth c B D K 3 0 0 (ZV below args s B D K Q) M_3 49 [(0, .ref (B + 95))] []) hf ?_ ?_
  · intro M_3 hf h_M_3
    refine g_aload_n hC 0 dX12_keeps_49 rfl rfl ?_
    refine g_geti hC okX12 sc95 41 (by decide) rfl wf_X12_237 dX12_keeps_50 ?_
    refine g_bipush hC dX12_keeps_53 (by decide) ?_
    refine jn_elim (fun (k : Mem → Prop) => ∀ (M_4 : Mem), k M_4 → (MR M_4) → G p l e (rmF 7 159) s m args below meth c B D K 3 0 0 (ZV below args s B D K Q) M_4 68 [(0, .ref (B + 95))] []) hf ?_ ?_
    · intro M_4 hf h_M_4
      refine g_aload_n hC 0 dX12_keeps_68 rfl rfl ?_
      refine g_callVV hC (sk := []) [] (c_X12_lays l B D K   M_4 h_M_4 _ hf) yv_X12_lays wm_X12_320 okX12.1 sc95 rfl ⟨Nat.le_of_ble_eq_true rfl, Nat.le_of_ble_eq_true rfl, Nat.le_of_ble_eq_true rfl, Nat.le_of_ble_eq_true rfl⟩ rfl (Nat.le_of_ble_eq_true rfl) dX12_keeps_69 ?_
      intro M_5 h_M_5 hf
      refine g_aload_n hC 0 dX12_keeps_72 rfl rfl ?_
      refine g_iconst hC dX12_keeps_73 ?_
      refine g_putz hC okX12 tnX12 sc95 43 (by decide) rfl rfl (by decide) wf_X12_243 (Or.inr rfl) dX12_keeps_74 ?_
      refine g_nmM (fun M_6 e_M_6 => ?_)
      replace hf := hf M_6 e_M_6
      have h_M_6 : MR M_6 := by rw [e_M_6]; exact MR_st h_M_5 (by unfold inR; omega)
      refine g_aload_n hC 0 dX12_keeps_77 rfl rfl ?_
      refine g_aload_n hC 0 dX12_keeps_78 rfl rfl ?_
      refine g_callVI hC (sk := [.ref (B + 95)]) [] (c_X12_reaches l B D K   M_6 h_M_6 _ hf) yv_X12_reaches wm_X12_249 okX12.1 sc95 rfl ⟨Nat.le_of_ble_eq_true rfl, Nat.le_of_ble_eq_true rfl, Nat.le_of_ble_eq_true rfl, Nat.le_of_ble_eq_true rfl⟩ rfl (Nat.le_of_ble_eq_true rfl) dX12_keeps_79 ?_
      rintro r_7 M_8 h_r_7 - ⟨rfl, hf⟩
      refine g_puti hC okX12 tnX12 sc95 44 (by decide) rfl rfl (by decide) wf_X12_424 dX12_keeps_82 ?_
      refine g_nmM (fun M_9 e_M_9 => ?_)
      replace hf := hf M_9 e_M_9
      have h_M_9 : MR M_9 := by rw [e_M_9]; exact MR_st h_M_6 h_r_7
      refine g_iconst hC dX12_keeps_85 ?_
      refine g_istore_n hC [(1, J 0), (0, .ref (B + 95))] dX12_keeps_86 rfl (by decide) rfl ?_
      refine g_sub [(0, .ref (B + 95)), (1, J 0)] [1, 0] rfl ?_
      refine wl2_elim (fun (v1_10 : Int) (M_11 : Mem) => inR v1_10 → MR M_11 → G p l e (rmF 7 159) s m args below meth c B D K 3 0 0 (ZV below args s B D K Q) M_11 87 [(0, .ref (B + 95)), (1, J v1_10)] []) ?_ 5000 0 M_9 hf (by unfold inR; omega) h_M_9
      intro rec87 ih87 v1_10 M_11 hf h_v1_10 h_M_11
      unfold X12_keeps_b87 at hf
      refine g_iload_n hC 1 dX12_keeps_87 rfl rfl ?_
      refine g_iconst hC dX12_keeps_88 ?_
      refine g_icmp_ge hC 132 h_v1_10 (by unfold inR; omega) dX12_keeps_89 rfl (fun c_25 => ?_) (fun c_25 => ?_)
      · replace hf := hf.1 c_25
        exact g_retv hC h_M_11 hf dX12_keeps_132
      · replace hf := hf.2 c_25
        refine g_iconst hC dX12_keeps_92 ?_
        refine g_istore_n hC [(2, J 0), (0, .ref (B + 95)), (1, J v1_10)] dX12_keeps_93 rfl (by decide) rfl ?_
        refine g_sub [(0, .ref (B + 95)), (1, J v1_10), (2, J 0)] [1, 2, 0] rfl ?_
        refine wl2_elim (fun (v2_12 : Int) (M_13 : Mem) => inR v2_12 → MR M_13 → G p l e (rmF 7 159) s m args below meth c B D K 3 0 0 (ZV below args s B D K Q) M_13 94 [(0, .ref (B + 95)), (1, J v1_10), (2, J v2_12)] []) ?_ 5000 0 M_11 hf (by unfold inR; omega) h_M_11
        intro rec94 ih94 v2_12 M_13 hf h_v2_12 h_M_13
        unfold X12_keeps_b94 at hf
        refine g_iload_n hC 2 dX12_keeps_94 rfl rfl ?_
        refine g_aload_n hC 0 dX12_keeps_95 rfl rfl ?_
        refine g_callVI hC (sk := [J v2_12]) [] (c_X12_reaches l B D K   M_13 h_M_13 _ hf) yv_X12_reaches wm_X12_249 okX12.1 sc95 rfl ⟨Nat.le_of_ble_eq_true rfl, Nat.le_of_ble_eq_true rfl, Nat.le_of_ble_eq_true rfl, Nat.le_of_ble_eq_true rfl⟩ rfl (Nat.le_of_ble_eq_true rfl) dX12_keeps_96 ?_
        rintro r_14 M_15 h_r_14 - ⟨rfl, hf⟩
        refine g_icmp_ge hC 126 h_v2_12 h_r_14 dX12_keeps_99 rfl (fun c_24 => ?_) (fun c_24 => ?_)
        · replace hf := hf.1 c_24
          obtain ⟨q_17, hf⟩ := hf
          obtain ⟨v1_16, e_v1_16⟩ : ∃ z : Int, z = v1_10 + 1 := ⟨_, rfl⟩
          replace hf := hf v1_16 e_v1_16
          have h_v1_16 : inR v1_16 := by rw [e_v1_16]; exact q_17
          refine g_iincv hC 1 e_v1_16 [(1, J v1_16), (0, .ref (B + 95)), (2, J v2_12)] dX12_keeps_126 rfl (by decide) rfl ?_
          refine g_goto hC 87 dX12_keeps_129 rfl ?_
          refine g_sub [(0, .ref (B + 95)), (1, J v1_16)] [1, 0] rfl ?_
          exact ih87 v1_16 M_13 hf h_v1_16 h_M_13
        · replace hf := hf.2 c_24
          refine g_aload_n hC 0 dX12_keeps_102 rfl rfl ?_
          refine g_getr hC okX12 sc95 45 (by decide) rfl wf_X12_104 dX12_keeps_103 ?_
          refine g_bipush hC dX12_keeps_106 (by decide) ?_
          refine g_iload_n hC 1 dX12_keeps_108 rfl rfl ?_
          refine g_imul hC dX12_keeps_109 ?_
          refine g_iload_n hC 2 dX12_keeps_110 rfl rfl ?_
          refine g_iadd hC dX12_keeps_111 ?_
          refine g_aload_n hC 0 dX12_keeps_112 rfl rfl ?_
          refine g_iload_n hC 2 dX12_keeps_113 rfl rfl ?_
          refine g_iload_n hC 1 dX12_keeps_114 rfl rfl ?_
          refine g_iconst hC dX12_keeps_115 ?_
          refine g_callVI hC (sk := [J ((30 * v1_10) + v2_12), .ref (B + 125)]) [J v2_12, J v1_10, J 0] (c_X12_rankOf l B D K v2_12 v1_10 0 h_v2_12 h_v1_10 (by unfold inR; omega) M_13 h_M_13 _ hf) yv_X12_rankOf wm_X12_353 okX12.1 sc95 rfl ⟨Nat.le_of_ble_eq_true rfl, Nat.le_of_ble_eq_true rfl, Nat.le_of_ble_eq_true rfl, Nat.le_of_ble_eq_true rfl⟩ rfl (Nat.le_of_ble_eq_true rfl) dX12_keeps_116 ?_
          rintro r_18 M_19 h_r_18 - ⟨rfl, hf⟩
          obtain ⟨q_20, hf⟩ := hf
          refine g_iastk (((30 * v1_10) + v2_12).toNat) hC sc125 q_20.1 q_20.2 rfl dX12_keeps_119 ?_
          refine g_nmM (fun M_21 e_M_21 => ?_)
          replace hf := hf M_21 e_M_21
          have h_M_21 : MR M_21 := by rw [e_M_21]; exact MR_st h_M_13 h_r_18
          obtain ⟨q_23, hf⟩ := hf
          obtain ⟨v2_22, e_v2_22⟩ : ∃ z : Int, z = v2_12 + 1 := ⟨_, rfl⟩
          replace hf := hf v2_22 e_v2_22
          have h_v2_22 : inR v2_22 := by rw [e_v2_22]; exact q_23
          refine g_iincv hC 2 e_v2_22 [(2, J v2_22), (0, .ref (B + 95)), (1, J v1_10)] dX12_keeps_120 rfl (by decide) rfl ?_
          refine g_goto hC 94 dX12_keeps_123 rfl ?_
          refine g_sub [(0, .ref (B + 95)), (1, J v1_10), (2, J v2_22)] [1, 2, 0] rfl ?_
          exact ih94 v2_22 M_21 hf h_v2_22 h_M_21
    · intro J68 hJ68 hf
      refine g_icmp_ge hC 68 (h_M_3 _ _) (by unfold inR; omega) dX12_keeps_55 rfl (fun c_28 => ?_) (fun c_28 => ?_)
      · replace hf := hf.1 c_28
        refine g_sub [(0, .ref (B + 95))] [0] rfl ?_
        exact hJ68 M_3 hf h_M_3
      · replace hf := hf.2 c_28
        refine g_aload_n hC 0 dX12_keeps_58 rfl rfl ?_
        refine g_dup hC dX12_keeps_59 rfl ?_
        refine g_geti hC okX12 sc95 41 (by decide) rfl wf_X12_237 dX12_keeps_60 ?_
        refine g_iconst hC dX12_keeps_63 ?_
        refine g_iadd hC dX12_keeps_64 ?_
        obtain ⟨q_26, hf⟩ := hf
        refine g_puti hC okX12 tnX12 sc95 41 (by decide) rfl rfl (by decide) wf_X12_237 dX12_keeps_65 ?_
        refine g_nmM (fun M_27 e_M_27 => ?_)
        replace hf := hf M_27 e_M_27
        have h_M_27 : MR M_27 := by rw [e_M_27]; exact MR_st h_M_3 q_26
        refine g_sub [(0, .ref (B + 95))] [0] rfl ?_
        exact hJ68 M_27 hf h_M_27
  · intro J49 hJ49 hf
    refine g_sub [(0, .ref (B + 95)), (1, J 0)] [1, 0] rfl ?_
    refine wl2_elim (fun (v1_29 : Int) (M_30 : Mem) => inR v1_29 → MR M_30 → G p l e (rmF 7 159) s m args below meth c B D K 3 0 0 (ZV below args s B D K Q) M_30 15 [(0, .ref (B + 95)), (1, J v1_29)] []) ?_ 5000 0 M_2 hf (by unfold inR; omega) h_M_2
    intro rec15 ih15 v1_29 M_30 hf h_v1_29 h_M_30
    unfold X12_keeps_b15 at hf
    refine g_iload_n hC 1 dX12_keeps_15 rfl rfl ?_
    refine g_sipush hC dX12_keeps_16 (by decide) ?_
    refine g_icmp_ge hC 49 h_v1_29 (by unfold inR; omega) dX12_keeps_19 rfl (fun c_36 => ?_) (fun c_36 => ?_)
    · replace hf := hf.1 c_36
      refine g_sub [(0, .ref (B + 95))] [0] rfl ?_
      exact hJ49 M_30 hf h_M_30
    · replace hf := hf.2 c_36
      refine g_aload_n hC 0 dX12_keeps_22 rfl rfl ?_
      refine g_getr hC okX12 sc95 40 (by decide) rfl wf_X12_101 dX12_keeps_23 ?_
      refine g_sipush hC dX12_keeps_26 (by decide) ?_
      refine g_aload_n hC 0 dX12_keeps_29 rfl rfl ?_
      refine g_geti hC okX12 sc95 42 (by decide) rfl wf_X12_421 dX12_keeps_30 ?_
      refine g_imul hC dX12_keeps_33 ?_
      refine g_iload_n hC 1 dX12_keeps_34 rfl rfl ?_
      refine g_iadd hC dX12_keeps_35 ?_
      refine g_aload_n hC 0 dX12_keeps_36 rfl rfl ?_
      refine g_getr hC okX12 sc95 13 (by decide) rfl wf_X12_27 dX12_keeps_37 ?_
      refine g_iload_n hC 1 dX12_keeps_40 rfl rfl ?_
      obtain ⟨q_31, hf⟩ := hf
      refine g_ialdk (v1_29.toNat) hC sc100 q_31.1 q_31.2 rfl dX12_keeps_41 ?_
      obtain ⟨q_32, hf⟩ := hf
      refine g_iastk (((183 * (M_30 95 42)) + v1_29).toNat) hC sc124 q_32.1 q_32.2 rfl dX12_keeps_42 ?_
      refine g_nmM (fun M_33 e_M_33 => ?_)
      replace hf := hf M_33 e_M_33
      have h_M_33 : MR M_33 := by rw [e_M_33]; exact MR_st h_M_30 (h_M_30 _ _)
      obtain ⟨q_35, hf⟩ := hf
      obtain ⟨v1_34, e_v1_34⟩ : ∃ z : Int, z = v1_29 + 1 := ⟨_, rfl⟩
      replace hf := hf v1_34 e_v1_34
      have h_v1_34 : inR v1_34 := by rw [e_v1_34]; exact q_35
      refine g_iincv hC 1 e_v1_34 [(1, J v1_34), (0, .ref (B + 95))] dX12_keeps_43 rfl (by decide) rfl ?_
      refine g_goto hC 15 dX12_keeps_46 rfl ?_
      refine g_sub [(0, .ref (B + 95)), (1, J v1_34)] [1, 0] rfl ?_
      exact ih15 v1_34 M_33 hf h_v1_34 h_M_33
set_option maxHeartbeats 4000000 in
set_option maxRecDepth 100000 in
theorem c_X12_changed (l : Launch) (B : Nat) (D : va_G) (K : Nat → ClassId) (v1 : Int) (i_v1 : inR v1) (M : Mem) (hM : MR M) (Q : Int → Mem → Prop) (hf : f_X12_changed v1 M Q) : CtI l yX12_changed cX12_changed 4 7 159 B D K [.ref (B + 95), J v1] M Q := by
  refine ct_i (by decide) (Nat.le_of_ble_eq_true rfl) ?_
  intro p e s m args below meth c hC
  have hC : Cx p s m args meth c D K cX12_changed 4 RX12 (some .int) := hC
  unfold f_X12_changed at hf
  refine (show G p l e (rmF 7 159) s m args below meth c B D K 4 0 0 (ZI below args s B D K Q) M 0 [(0, .ref (B + 95)), (1, J v1)] [] from ?_)
  refine g_aload_n hC 0 dX12_changed_0 rfl rfl ?_
  refine g_geti hC okX12 sc95 43 (by decide) rfl wf_X12_243 dX12_changed_1 ?_
  refine g_if_eq hC 19 (hM _ _) dX12_changed_4 rfl (fun c_22 => ?_) (fun c_22 => ?_)
  · replace hf := hf.1 c_22
    refine g_iconst hC dX12_changed_19 ?_
    exact g_reti hC (by unfold inR; omega) hM hf dX12_changed_20
  · replace hf := hf.2 c_22
    refine g_iload_n hC 1 dX12_changed_7 rfl rfl ?_
    refine g_i2l hC i_v1 dX12_changed_8 ?_
    refine g_lconst (n := 0) hC dX12_changed_9 (by decide) ?_
    refine g_ldc2 (n := 3) hC wc_X12_349 (by decide) dX12_changed_10 ?_
    refine g_callSZ hC (sk := []) [JL v1, JL 0, JL 3] (c_X12_isIn l B D K v1 0 3 (inL_of i_v1) (by unfold inL; omega) (by unfold inL; omega) M hM _ hf) yv_X12_isIn wm_X12_127 rfl ⟨Nat.le_of_ble_eq_true rfl, Nat.le_of_ble_eq_true rfl, Nat.le_of_ble_eq_true rfl, Nat.le_of_ble_eq_true rfl⟩ rfl (Nat.le_of_ble_eq_true rfl) dX12_changed_13 ?_
    rintro r_1 M_2 h_r_1 - ⟨rfl, hf⟩
    refine g_if_ne hC 21 (zi_ h_r_1) dX12_changed_16 rfl (fun c_21 => ?_) (fun c_21 => ?_)
    · replace hf := hf.1 c_21
      refine g_aload_n hC 0 dX12_changed_21 rfl rfl ?_
      refine g_callVV hC (sk := []) [] (c_X12_lays l B D K   M hM _ hf) yv_X12_lays wm_X12_320 okX12.1 sc95 rfl ⟨Nat.le_of_ble_eq_true rfl, Nat.le_of_ble_eq_true rfl, Nat.le_of_ble_eq_true rfl, Nat.le_of_ble_eq_true rfl⟩ rfl (Nat.le_of_ble_eq_true rfl) dX12_changed_22 ?_
      intro M_3 h_M_3 hf
      refine g_iconst hC dX12_changed_25 ?_
      refine g_istore_n hC [(2, J 0), (0, .ref (B + 95)), (1, J v1)] dX12_changed_26 rfl (by decide) rfl ?_
      refine g_iconst hC dX12_changed_27 ?_
      refine g_istore_n hC [(3, J 0), (2, J 0), (0, .ref (B + 95)), (1, J v1)] dX12_changed_28 rfl (by decide) rfl ?_
      refine g_sub [(0, .ref (B + 95)), (1, J v1), (2, J 0), (3, J 0)] [2, 3, 1, 0] rfl ?_
      refine wl2_elim (fun (v2_4 : Int) (v3_5 : Int) => inR v2_4 → inR v3_5 → G p l e (rmF 7 159) s m args below meth c B D K 4 0 0 (ZI below args s B D K Q) M_3 29 [(0, .ref (B + 95)), (1, J v1), (2, J v2_4), (3, J v3_5)] []) ?_ 5000 0 0 hf (by unfold inR; omega) (by unfold inR; omega)
      intro rec29 ih29 v2_4 v3_5 hf h_v2_4 h_v3_5
      unfold X12_changed_b29 at hf
      refine g_iload_n hC 3 dX12_changed_29 rfl rfl ?_
      refine g_aload_n hC 0 dX12_changed_30 rfl rfl ?_
      refine g_callVI hC (sk := [J v3_5]) [] (c_X12_reaches l B D K   M_3 h_M_3 _ hf) yv_X12_reaches wm_X12_249 okX12.1 sc95 rfl ⟨Nat.le_of_ble_eq_true rfl, Nat.le_of_ble_eq_true rfl, Nat.le_of_ble_eq_true rfl, Nat.le_of_ble_eq_true rfl⟩ rfl (Nat.le_of_ble_eq_true rfl) dX12_changed_31 ?_
      rintro r_6 M_7 h_r_6 - ⟨rfl, hf⟩
      refine g_icmp_ge hC 83 h_v3_5 h_r_6 dX12_changed_34 rfl (fun c_20 => ?_) (fun c_20 => ?_)
      · replace hf := hf.1 c_20
        refine g_iload_n hC 2 dX12_changed_83 rfl rfl ?_
        exact g_reti hC h_v2_4 h_M_3 hf dX12_changed_84
      · replace hf := hf.2 c_20
        refine g_iload_n hC 3 dX12_changed_37 rfl rfl ?_
        refine g_aload_n hC 0 dX12_changed_38 rfl rfl ?_
        refine g_geti hC okX12 sc95 44 (by decide) rfl wf_X12_424 dX12_changed_39 ?_
        refine g_icmp_ge hC 83 h_v3_5 (h_M_3 _ _) dX12_changed_42 rfl (fun c_19 => ?_) (fun c_19 => ?_)
        · replace hf := hf.1 c_19
          refine g_iload_n hC 2 dX12_changed_83 rfl rfl ?_
          exact g_reti hC h_v2_4 h_M_3 hf dX12_changed_84
        · replace hf := hf.2 c_19
          refine g_iload_n hC 2 dX12_changed_45 rfl rfl ?_
          refine g_aload_n hC 0 dX12_changed_46 rfl rfl ?_
          refine g_iload_n hC 3 dX12_changed_47 rfl rfl ?_
          refine g_iload_n hC 1 dX12_changed_48 rfl rfl ?_
          refine g_iconst hC dX12_changed_49 ?_
          refine g_callVI hC (sk := [J v2_4]) [J v3_5, J v1, J 0] (c_X12_rankOf l B D K v3_5 v1 0 h_v3_5 i_v1 (by unfold inR; omega) M_3 h_M_3 _ hf) yv_X12_rankOf wm_X12_353 okX12.1 sc95 rfl ⟨Nat.le_of_ble_eq_true rfl, Nat.le_of_ble_eq_true rfl, Nat.le_of_ble_eq_true rfl, Nat.le_of_ble_eq_true rfl⟩ rfl (Nat.le_of_ble_eq_true rfl) dX12_changed_50 ?_
          rintro r_8 M_9 h_r_8 - ⟨rfl, hf⟩
          refine g_aload_n hC 0 dX12_changed_53 rfl rfl ?_
          refine g_getr hC okX12 sc95 45 (by decide) rfl wf_X12_104 dX12_changed_54 ?_
          refine g_bipush hC dX12_changed_57 (by decide) ?_
          refine g_iload_n hC 1 dX12_changed_59 rfl rfl ?_
          refine g_imul hC dX12_changed_60 ?_
          refine g_iload_n hC 3 dX12_changed_61 rfl rfl ?_
          refine g_iadd hC dX12_changed_62 ?_
          obtain ⟨q_10, hf⟩ := hf
          refine g_ialdk (((30 * v1) + v3_5).toNat) hC sc125 q_10.1 q_10.2 rfl dX12_changed_63 ?_
          refine jn_elim (fun (k : Int → Prop) => ∀ (s1_11 : Int), k s1_11 → ((s1_11 = 0 ∨ s1_11 = 1)) → G p l e (rmF 7 159) s m args below meth c B D K 4 0 0 (ZI below args s B D K Q) M_3 72 [(0, .ref (B + 95)), (1, J v1), (3, J v3_5)] [J s1_11, J v2_4]) hf ?_ ?_
          · intro s1_11 hf h_s1_11
            refine g_callSI hC (sk := [J v2_4]) [J s1_11] (c_X12_flag l B D K s1_11 (zi_ h_s1_11) M_3 h_M_3 _ hf) yv_X12_flag wm_X12_255 rfl ⟨Nat.le_of_ble_eq_true rfl, Nat.le_of_ble_eq_true rfl, Nat.le_of_ble_eq_true rfl, Nat.le_of_ble_eq_true rfl⟩ rfl (Nat.le_of_ble_eq_true rfl) dX12_changed_72 ?_
            rintro r_12 M_13 h_r_12 - ⟨rfl, hf⟩
            refine g_iadd hC dX12_changed_75 ?_
            obtain ⟨q_14, hf⟩ := hf
            refine g_nm (fun v2_15 e_v2_15 => ?_)
            replace hf := hf v2_15 e_v2_15
            have h_v2_15 : inR v2_15 := by rw [e_v2_15]; exact q_14
            refine g_istore_n hC [(2, J v2_15), (0, .ref (B + 95)), (1, J v1), (3, J v3_5)] dX12_changed_76 rfl (by decide) rfl ?_
            obtain ⟨q_17, hf⟩ := hf
            obtain ⟨v3_16, e_v3_16⟩ : ∃ z : Int, z = v3_5 + 1 := ⟨_, rfl⟩
            replace hf := hf v3_16 e_v3_16
            have h_v3_16 : inR v3_16 := by rw [e_v3_16]; exact q_17
            refine g_iincv hC 3 e_v3_16 [(3, J v3_16), (2, J v2_15), (0, .ref (B + 95)), (1, J v1)] dX12_changed_77 rfl (by decide) rfl ?_
            refine g_goto hC 29 dX12_changed_80 rfl ?_
            refine g_sub [(0, .ref (B + 95)), (1, J v1), (2, J v2_15), (3, J v3_16)] [2, 3, 1, 0] rfl ?_
            exact ih29 v2_15 v3_16 hf h_v2_15 h_v3_16
          · intro J72 hJ72 hf
            refine g_icmp_eq hC 71 h_r_8 (h_M_3 _ _) dX12_changed_64 rfl (fun c_18 => ?_) (fun c_18 => ?_)
            · replace hf := hf.1 c_18
              refine g_iconst hC dX12_changed_71 ?_
              refine g_sub [(0, .ref (B + 95)), (1, J v1), (3, J v3_5)] [0, 1, 3] rfl ?_
              exact hJ72 0 hf (Or.inl rfl)
            · replace hf := hf.2 c_18
              refine g_iconst hC dX12_changed_67 ?_
              refine g_goto hC 72 dX12_changed_68 rfl ?_
              refine g_sub [(0, .ref (B + 95)), (1, J v1), (3, J v3_5)] [0, 1, 3] rfl ?_
              exact hJ72 1 hf (Or.inr rfl)
    · replace hf := hf.2 c_21
      refine g_iconst hC dX12_changed_19 ?_
      exact g_reti hC (by unfold inR; omega) hM hf dX12_changed_20
set_option maxHeartbeats 4000000 in
set_option maxRecDepth 100000 in
theorem c_X12_undo (l : Launch) (B : Nat) (D : va_G) (K : Nat → ClassId)   (M : Mem) (hM : MR M) (Q : Int → Mem → Prop) (hf : f_X12_undo  M Q) : CtZ l yX12_undo cX12_undo 2 1 21 B D K [.ref (B + 95)] M Q := by
  refine ct_z (by decide) (Nat.le_of_ble_eq_true rfl) ?_
  intro p e s m args below meth c hC
  have hC : Cx p s m args meth c D K cX12_undo 2 RX12 (some .boolean) := hC
  unfold f_X12_undo at hf
  refine (show G p l e (rmF 1 21) s m args below meth c B D K 2 0 0 (ZZ below args s B D K Q) M 0 [(0, .ref (B + 95))] [] from ?_)
  refine g_aload_n hC 0 dX12_undo_0 rfl rfl ?_
  refine g_geti hC okX12 sc95 41 (by decide) rfl wf_X12_237 dX12_undo_1 ?_
  refine g_if_ne hC 13 (hM _ _) dX12_undo_4 rfl (fun c_18 => ?_) (fun c_18 => ?_)
  · replace hf := hf.1 c_18
    refine g_iconst hC dX12_undo_13 ?_
    refine g_istore_n hC [(1, J 0), (0, .ref (B + 95))] dX12_undo_14 rfl (by decide) rfl ?_
    refine jn_elim (fun (k : Mem → Prop) => ∀ (M_1 : Mem), k M_1 → (MR M_1) → G p l e (rmF 1 21) s m args below meth c B D K 2 0 0 (ZZ below args s B D K Q) M_1 49 [(0, .ref (B + 95))] []) hf ?_ ?_
    · intro M_1 hf h_M_1
      refine g_aload_n hC 0 dX12_undo_49 rfl rfl ?_
      refine g_aload_n hC 0 dX12_undo_50 rfl rfl ?_
      refine g_geti hC okX12 sc95 42 (by decide) rfl wf_X12_421 dX12_undo_51 ?_
      refine g_bipush hC dX12_undo_54 (by decide) ?_
      refine g_iadd hC dX12_undo_56 ?_
      refine g_iconst hC dX12_undo_57 ?_
      refine g_isub hC dX12_undo_58 ?_
      refine g_bipush hC dX12_undo_59 (by decide) ?_
      obtain ⟨q_2, hf⟩ := hf
      refine g_irem hC q_2 (by unfold inR; omega) (by decide) dX12_undo_61 ?_
      refine g_puti hC okX12 tnX12 sc95 42 (by decide) rfl rfl (by decide) wf_X12_421 dX12_undo_62 ?_
      refine g_nmM (fun M_3 e_M_3 => ?_)
      replace hf := hf M_3 e_M_3
      have h_M_3 : MR M_3 := by rw [e_M_3]; exact MR_st h_M_1 (tmod_in q_2 (by decide))
      refine g_aload_n hC 0 dX12_undo_65 rfl rfl ?_
      refine g_dup hC dX12_undo_66 rfl ?_
      refine g_geti hC okX12 sc95 41 (by decide) rfl wf_X12_237 dX12_undo_67 ?_
      refine g_iconst hC dX12_undo_70 ?_
      refine g_isub hC dX12_undo_71 ?_
      obtain ⟨q_4, hf⟩ := hf
      refine g_puti hC okX12 tnX12 sc95 41 (by decide) rfl rfl (by decide) wf_X12_237 dX12_undo_72 ?_
      refine g_nmM (fun M_5 e_M_5 => ?_)
      replace hf := hf M_5 e_M_5
      have h_M_5 : MR M_5 := by rw [e_M_5]; exact MR_st h_M_3 q_4
      refine g_aload_n hC 0 dX12_undo_75 rfl rfl ?_
      refine g_iconst hC dX12_undo_76 ?_
      refine g_putz hC okX12 tnX12 sc95 43 (by decide) rfl rfl (by decide) wf_X12_243 (Or.inl rfl) dX12_undo_77 ?_
      refine g_nmM (fun M_6 e_M_6 => ?_)
      replace hf := hf M_6 e_M_6
      have h_M_6 : MR M_6 := by rw [e_M_6]; exact MR_st h_M_5 (by unfold inR; omega)
      refine g_aload_n hC 0 dX12_undo_80 rfl rfl ?_
      refine g_callVV hC (sk := []) [] (c_X12_isOther l B D K   M_6 h_M_6 _ hf) yv_X12_isOther wm_X12_379 okX12.1 sc95 rfl ⟨Nat.le_of_ble_eq_true rfl, Nat.le_of_ble_eq_true rfl, Nat.le_of_ble_eq_true rfl, Nat.le_of_ble_eq_true rfl⟩ rfl (Nat.le_of_ble_eq_true rfl) dX12_undo_81 ?_
      intro M_7 h_M_7 hf
      refine g_iconst hC dX12_undo_84 ?_
      exact g_retz hC (Or.inr rfl) h_M_7 hf dX12_undo_85
    · intro J49 hJ49 hf
      refine g_sub [(0, .ref (B + 95)), (1, J 0)] [1, 0] rfl ?_
      refine wl2_elim (fun (v1_8 : Int) (M_9 : Mem) => inR v1_8 → MR M_9 → G p l e (rmF 1 21) s m args below meth c B D K 2 0 0 (ZZ below args s B D K Q) M_9 15 [(0, .ref (B + 95)), (1, J v1_8)] []) ?_ 5000 0 M hf (by unfold inR; omega) hM
      intro rec15 ih15 v1_8 M_9 hf h_v1_8 h_M_9
      unfold X12_undo_b15 at hf
      refine g_iload_n hC 1 dX12_undo_15 rfl rfl ?_
      refine g_sipush hC dX12_undo_16 (by decide) ?_
      refine g_icmp_ge hC 49 h_v1_8 (by unfold inR; omega) dX12_undo_19 rfl (fun c_15 => ?_) (fun c_15 => ?_)
      · replace hf := hf.1 c_15
        refine g_sub [(0, .ref (B + 95))] [0] rfl ?_
        exact hJ49 M_9 hf h_M_9
      · replace hf := hf.2 c_15
        refine g_aload_n hC 0 dX12_undo_22 rfl rfl ?_
        refine g_getr hC okX12 sc95 13 (by decide) rfl wf_X12_27 dX12_undo_23 ?_
        refine g_iload_n hC 1 dX12_undo_26 rfl rfl ?_
        refine g_aload_n hC 0 dX12_undo_27 rfl rfl ?_
        refine g_getr hC okX12 sc95 40 (by decide) rfl wf_X12_101 dX12_undo_28 ?_
        refine g_sipush hC dX12_undo_31 (by decide) ?_
        refine g_aload_n hC 0 dX12_undo_34 rfl rfl ?_
        refine g_geti hC okX12 sc95 42 (by decide) rfl wf_X12_421 dX12_undo_35 ?_
        refine g_imul hC dX12_undo_38 ?_
        refine g_iload_n hC 1 dX12_undo_39 rfl rfl ?_
        refine g_iadd hC dX12_undo_40 ?_
        obtain ⟨q_10, hf⟩ := hf
        refine g_ialdk (((183 * (M_9 95 42)) + v1_8).toNat) hC sc124 q_10.1 q_10.2 rfl dX12_undo_41 ?_
        obtain ⟨q_11, hf⟩ := hf
        refine g_iastk (v1_8.toNat) hC sc100 q_11.1 q_11.2 rfl dX12_undo_42 ?_
        refine g_nmM (fun M_12 e_M_12 => ?_)
        replace hf := hf M_12 e_M_12
        have h_M_12 : MR M_12 := by rw [e_M_12]; exact MR_st h_M_9 (h_M_9 _ _)
        obtain ⟨q_14, hf⟩ := hf
        obtain ⟨v1_13, e_v1_13⟩ : ∃ z : Int, z = v1_8 + 1 := ⟨_, rfl⟩
        replace hf := hf v1_13 e_v1_13
        have h_v1_13 : inR v1_13 := by rw [e_v1_13]; exact q_14
        refine g_iincv hC 1 e_v1_13 [(1, J v1_13), (0, .ref (B + 95))] dX12_undo_43 rfl (by decide) rfl ?_
        refine g_goto hC 15 dX12_undo_46 rfl ?_
        refine g_sub [(0, .ref (B + 95)), (1, J v1_13)] [1, 0] rfl ?_
        exact ih15 v1_13 M_12 hf h_v1_13 h_M_12
  · replace hf := hf.2 c_18
    refine g_aload_n hC 0 dX12_undo_7 rfl rfl ?_
    refine g_iconst hC dX12_undo_8 ?_
    refine g_callVZ hC (sk := []) [J 4] (c_X12_isRefused l B D K 4 (by unfold inR; omega) M hM _ hf) yv_X12_isRefused wm_X12_121 okX12.1 sc95 rfl ⟨Nat.le_of_ble_eq_true rfl, Nat.le_of_ble_eq_true rfl, Nat.le_of_ble_eq_true rfl, Nat.le_of_ble_eq_true rfl⟩ rfl (Nat.le_of_ble_eq_true rfl) dX12_undo_9 ?_
    intro r_16 M_17 h_r_16 h_M_17 hf
    exact g_retz hC h_r_16 h_M_17 hf dX12_undo_12
set_option maxHeartbeats 4000000 in
set_option maxRecDepth 100000 in
theorem c_X12_canAdd (l : Launch) (B : Nat) (D : va_G) (K : Nat → ClassId) (v1 : Int) (v2 : Int) (i_v1 : inR v1) (i_v2 : inR v2) (M : Mem) (hM : MR M) (Q : Int → Prop) (hf : f_X12_canAdd v1 v2 M Q) : CtZ l yX12_canAdd cX12_canAdd 3 2 47 B D K [.ref (B + 95), J v1, J v2] M (fun r M1 => M = M1 ∧ Q r) := by
  refine ct_z (by decide) (Nat.le_of_ble_eq_true rfl) ?_
  intro p e s m args below meth c hC
  have hC : Cx p s m args meth c D K cX12_canAdd 3 RX12 (some .boolean) := hC
  unfold f_X12_canAdd at hf
  refine (show G p l e (rmF 2 47) s m args below meth c B D K 3 0 0 (ZZ below args s B D K (fun r M1 => M = M1 ∧ Q r)) M 0 [(0, .ref (B + 95)), (1, J v1), (2, J v2)] [] from ?_)
  refine g_aload_n hC 0 dX12_canAdd_0 rfl rfl ?_
  refine g_iload_n hC 1 dX12_canAdd_1 rfl rfl ?_
  refine g_callVZ hC (sk := []) [J v1] (c_X12_isPlace l B D K v1 i_v1 M hM _ hf) yv_X12_isPlace wm_X12_338 okX12.1 sc95 rfl ⟨Nat.le_of_ble_eq_true rfl, Nat.le_of_ble_eq_true rfl, Nat.le_of_ble_eq_true rfl, Nat.le_of_ble_eq_true rfl⟩ rfl (Nat.le_of_ble_eq_true rfl) dX12_canAdd_2 ?_
  rintro r_1 M_2 h_r_1 - ⟨rfl, hf⟩
  refine g_if_eq hC 42 (zi_ h_r_1) dX12_canAdd_5 rfl (fun c_12 => ?_) (fun c_12 => ?_)
  · replace hf := hf.1 c_12
    refine g_iconst hC dX12_canAdd_42 ?_
    exact g_retz hC (Or.inl rfl) hM ⟨rfl, hf⟩ dX12_canAdd_43
  · replace hf := hf.2 c_12
    refine g_aload_n hC 0 dX12_canAdd_8 rfl rfl ?_
    refine g_iload_n hC 2 dX12_canAdd_9 rfl rfl ?_
    refine g_callVZ hC (sk := []) [J v2] (c_X12_isPlace l B D K v2 i_v2 M hM _ hf) yv_X12_isPlace wm_X12_338 okX12.1 sc95 rfl ⟨Nat.le_of_ble_eq_true rfl, Nat.le_of_ble_eq_true rfl, Nat.le_of_ble_eq_true rfl, Nat.le_of_ble_eq_true rfl⟩ rfl (Nat.le_of_ble_eq_true rfl) dX12_canAdd_10 ?_
    rintro r_3 M_4 h_r_3 - ⟨rfl, hf⟩
    refine g_if_eq hC 42 (zi_ h_r_3) dX12_canAdd_13 rfl (fun c_11 => ?_) (fun c_11 => ?_)
    · replace hf := hf.1 c_11
      refine g_iconst hC dX12_canAdd_42 ?_
      exact g_retz hC (Or.inl rfl) hM ⟨rfl, hf⟩ dX12_canAdd_43
    · replace hf := hf.2 c_11
      refine g_aload_n hC 0 dX12_canAdd_16 rfl rfl ?_
      refine g_callVI hC (sk := []) [] (c_X12_reaches l B D K   M hM _ hf) yv_X12_reaches wm_X12_249 okX12.1 sc95 rfl ⟨Nat.le_of_ble_eq_true rfl, Nat.le_of_ble_eq_true rfl, Nat.le_of_ble_eq_true rfl, Nat.le_of_ble_eq_true rfl⟩ rfl (Nat.le_of_ble_eq_true rfl) dX12_canAdd_17 ?_
      rintro r_5 M_6 h_r_5 - ⟨rfl, hf⟩
      refine g_bipush hC dX12_canAdd_20 (by decide) ?_
      refine g_icmp_ge hC 42 h_r_5 (by unfold inR; omega) dX12_canAdd_22 rfl (fun c_10 => ?_) (fun c_10 => ?_)
      · replace hf := hf.1 c_10
        refine g_iconst hC dX12_canAdd_42 ?_
        exact g_retz hC (Or.inl rfl) hM ⟨rfl, hf⟩ dX12_canAdd_43
      · replace hf := hf.2 c_10
        refine g_aload_n hC 0 dX12_canAdd_25 rfl rfl ?_
        refine g_getr hC okX12 sc95 13 (by decide) rfl wf_X12_27 dX12_canAdd_26 ?_
        refine g_iload_n hC 2 dX12_canAdd_29 rfl rfl ?_
        refine g_iload_n hC 1 dX12_canAdd_30 rfl rfl ?_
        refine g_iconst hC dX12_canAdd_31 ?_
        refine g_callSZ hC (sk := []) [.ref (B + 100), J v2, J v1, J (-1)] (c_X12_comes l B D K 100 v2 v1 (-1) (isIA_of sc100) i_v2 i_v1 (by unfold inR; omega) M hM _ hf) yv_X12_comes wm_X12_204 rfl ⟨Nat.le_of_ble_eq_true rfl, Nat.le_of_ble_eq_true rfl, Nat.le_of_ble_eq_true rfl, Nat.le_of_ble_eq_true rfl⟩ rfl (Nat.le_of_ble_eq_true rfl) dX12_canAdd_32 ?_
        rintro r_7 M_8 h_r_7 - ⟨rfl, hf⟩
        refine g_if_ne hC 42 (zi_ h_r_7) dX12_canAdd_35 rfl (fun c_9 => ?_) (fun c_9 => ?_)
        · replace hf := hf.1 c_9
          refine g_iconst hC dX12_canAdd_42 ?_
          exact g_retz hC (Or.inl rfl) hM ⟨rfl, hf⟩ dX12_canAdd_43
        · replace hf := hf.2 c_9
          refine g_iconst hC dX12_canAdd_38 ?_
          refine g_goto hC 43 dX12_canAdd_39 rfl ?_
          exact g_retz hC (Or.inr rfl) hM ⟨rfl, hf⟩ dX12_canAdd_43
set_option maxHeartbeats 4000000 in
set_option maxRecDepth 100000 in
theorem c_X12_add (l : Launch) (B : Nat) (D : va_G) (K : Nat → ClassId) (v1 : Int) (v2 : Int) (v3 : Int) (v4 : Int) (i_v1 : inR v1) (i_v2 : inR v2) (i_v3 : inR v3) (i_v4 : inR v4) (M : Mem) (hM : MR M) (Q : Int → Mem → Prop) (hf : f_X12_add v1 v2 v3 v4 M Q) : CtI l yX12_add cX12_add 5 8 181 B D K [.ref (B + 95), J v1, J v2, J v3, J v4] M Q := by
  refine ct_i (by decide) (Nat.le_of_ble_eq_true rfl) ?_
  intro p e s m args below meth c hC
  have hC : Cx p s m args meth c D K cX12_add 5 RX12 (some .int) := hC
  unfold f_X12_add at hf
  refine (show G p l e (rmF 8 181) s m args below meth c B D K 5 0 0 (ZI below args s B D K Q) M 0 [(0, .ref (B + 95)), (1, J v1), (2, J v2), (3, J v3), (4, J v4)] [] from ?_)
  refine g_aload_n hC 0 dX12_add_0 rfl rfl ?_
  refine g_iload_n hC 1 dX12_add_1 rfl rfl ?_
  refine g_iload_n hC 2 dX12_add_2 rfl rfl ?_
  refine g_callVZ hC (sk := []) [J v1, J v2] (c_X12_canAdd l B D K v1 v2 i_v1 i_v2 M hM _ hf) yv_X12_canAdd wm_X12_427 okX12.1 sc95 rfl ⟨Nat.le_of_ble_eq_true rfl, Nat.le_of_ble_eq_true rfl, Nat.le_of_ble_eq_true rfl, Nat.le_of_ble_eq_true rfl⟩ rfl (Nat.le_of_ble_eq_true rfl) dX12_add_3 ?_
  rintro r_1 M_2 h_r_1 - ⟨rfl, hf⟩
  refine jn_elim (fun (k : Mem → Prop) => ∀ (M_3 : Mem), k M_3 → (MR M_3) → G p l e (rmF 8 181) s m args below meth c B D K 5 0 0 (ZI below args s B D K Q) M_3 34 [(0, .ref (B + 95))] []) hf ?_ ?_
  · intro M_3 hf h_M_3
    refine g_aload_n hC 0 dX12_add_34 rfl rfl ?_
    refine g_iconst hC dX12_add_35 ?_
    refine g_callVI hC (sk := []) [J 2] (c_X12_refuses l B D K 2 (by unfold inR; omega) M_3 h_M_3 _ hf) yv_X12_refuses wm_X12_117 okX12.1 sc95 rfl ⟨Nat.le_of_ble_eq_true rfl, Nat.le_of_ble_eq_true rfl, Nat.le_of_ble_eq_true rfl, Nat.le_of_ble_eq_true rfl⟩ rfl (Nat.le_of_ble_eq_true rfl) dX12_add_36 ?_
    intro r_4 M_5 h_r_4 h_M_5 hf
    exact g_reti hC h_r_4 h_M_5 hf dX12_add_39
  · intro J34 hJ34 hf
    refine g_if_eq hC 34 (zi_ h_r_1) dX12_add_6 rfl (fun c_18 => ?_) (fun c_18 => ?_)
    · replace hf := hf.1 c_18
      refine g_sub [(0, .ref (B + 95))] [0] rfl ?_
      exact hJ34 M hf hM
    · replace hf := hf.2 c_18
      refine g_iload_n hC 3 dX12_add_9 rfl rfl ?_
      refine g_i2l hC i_v3 dX12_add_10 ?_
      refine g_lconst (n := 1) hC dX12_add_11 (by decide) ?_
      refine g_ldc2 (n := 99) hC wc_X12_430 (by decide) dX12_add_12 ?_
      refine g_callSZ hC (sk := []) [JL v3, JL 1, JL 99] (c_X12_isIn l B D K v3 1 99 (inL_of i_v3) (by unfold inL; omega) (by unfold inL; omega) M hM _ hf) yv_X12_isIn wm_X12_127 rfl ⟨Nat.le_of_ble_eq_true rfl, Nat.le_of_ble_eq_true rfl, Nat.le_of_ble_eq_true rfl, Nat.le_of_ble_eq_true rfl⟩ rfl (Nat.le_of_ble_eq_true rfl) dX12_add_15 ?_
      rintro r_6 M_7 h_r_6 - ⟨rfl, hf⟩
      refine g_if_eq hC 34 (zi_ h_r_6) dX12_add_18 rfl (fun c_17 => ?_) (fun c_17 => ?_)
      · replace hf := hf.1 c_17
        refine g_sub [(0, .ref (B + 95))] [0] rfl ?_
        exact hJ34 M hf hM
      · replace hf := hf.2 c_17
        refine g_iload hC 4 dX12_add_21 rfl ?_
        refine g_i2l hC i_v4 dX12_add_23 ?_
        refine g_lconst (n := 0) hC dX12_add_24 (by decide) ?_
        refine g_ldc2 (n := 99) hC wc_X12_430 (by decide) dX12_add_25 ?_
        refine g_callSZ hC (sk := []) [JL v4, JL 0, JL 99] (c_X12_isIn l B D K v4 0 99 (inL_of i_v4) (by unfold inL; omega) (by unfold inL; omega) M hM _ hf) yv_X12_isIn wm_X12_127 rfl ⟨Nat.le_of_ble_eq_true rfl, Nat.le_of_ble_eq_true rfl, Nat.le_of_ble_eq_true rfl, Nat.le_of_ble_eq_true rfl⟩ rfl (Nat.le_of_ble_eq_true rfl) dX12_add_28 ?_
        rintro r_8 M_9 h_r_8 - ⟨rfl, hf⟩
        refine g_if_ne hC 40 (zi_ h_r_8) dX12_add_31 rfl (fun c_16 => ?_) (fun c_16 => ?_)
        · replace hf := hf.1 c_16
          refine g_aload_n hC 0 dX12_add_40 rfl rfl ?_
          refine g_callVV hC (sk := []) [] (c_X12_keeps l B D K   M hM _ hf) yv_X12_keeps wm_X12_432 okX12.1 sc95 rfl ⟨Nat.le_of_ble_eq_true rfl, Nat.le_of_ble_eq_true rfl, Nat.le_of_ble_eq_true rfl, Nat.le_of_ble_eq_true rfl⟩ rfl (Nat.le_of_ble_eq_true rfl) dX12_add_41 ?_
          intro M_10 h_M_10 hf
          refine g_aload_n hC 0 dX12_add_44 rfl rfl ?_
          refine g_getr hC okX12 sc95 13 (by decide) rfl wf_X12_27 dX12_add_45 ?_
          refine g_iload_n hC 1 dX12_add_48 rfl rfl ?_
          refine g_iload_n hC 2 dX12_add_49 rfl rfl ?_
          refine g_iload_n hC 3 dX12_add_50 rfl rfl ?_
          refine g_iload hC 4 dX12_add_51 rfl ?_
          refine g_iconst hC dX12_add_53 ?_
          refine g_callSV hC (sk := []) [.ref (B + 100), J v1, J v2, J v3, J v4, J (-1)] (c_X12_laysReach l B D K 100 v1 v2 v3 v4 (-1) (isIA_of sc100) i_v1 i_v2 i_v3 i_v4 (by unfold inR; omega) M_10 h_M_10 _ hf) yv_X12_laysReach wm_X12_214 rfl ⟨Nat.le_of_ble_eq_true rfl, Nat.le_of_ble_eq_true rfl, Nat.le_of_ble_eq_true rfl, Nat.le_of_ble_eq_true rfl⟩ rfl (Nat.le_of_ble_eq_true rfl) dX12_add_54 ?_
          intro M_11 h_M_11 hf
          refine g_aload_n hC 0 dX12_add_57 rfl rfl ?_
          refine g_callVV hC (sk := []) [] (c_X12_isOther l B D K   M_11 h_M_11 _ hf) yv_X12_isOther wm_X12_379 okX12.1 sc95 rfl ⟨Nat.le_of_ble_eq_true rfl, Nat.le_of_ble_eq_true rfl, Nat.le_of_ble_eq_true rfl, Nat.le_of_ble_eq_true rfl⟩ rfl (Nat.le_of_ble_eq_true rfl) dX12_add_58 ?_
          intro M_12 h_M_12 hf
          refine g_aload_n hC 0 dX12_add_61 rfl rfl ?_
          refine g_callVI hC (sk := []) [] (c_X12_reaches l B D K   M_12 h_M_12 _ hf) yv_X12_reaches wm_X12_249 okX12.1 sc95 rfl ⟨Nat.le_of_ble_eq_true rfl, Nat.le_of_ble_eq_true rfl, Nat.le_of_ble_eq_true rfl, Nat.le_of_ble_eq_true rfl⟩ rfl (Nat.le_of_ble_eq_true rfl) dX12_add_62 ?_
          rintro r_13 M_14 h_r_13 - ⟨rfl, hf⟩
          refine g_iconst hC dX12_add_65 ?_
          refine g_isub hC dX12_add_66 ?_
          obtain ⟨q_15, hf⟩ := hf
          exact g_reti hC q_15 h_M_12 hf dX12_add_67
        · replace hf := hf.2 c_16
          refine g_sub [(0, .ref (B + 95))] [0] rfl ?_
          exact hJ34 M hf hM
set_option maxHeartbeats 4000000 in
set_option maxRecDepth 100000 in
theorem c_X12_drop (l : Launch) (B : Nat) (D : va_G) (K : Nat → ClassId) (v1 : Int) (i_v1 : inR v1) (M : Mem) (hM : MR M) (Q : Int → Mem → Prop) (hf : f_X12_drop v1 M Q) : CtZ l yX12_drop cX12_drop 2 8 181 B D K [.ref (B + 95), J v1] M Q := by
  refine ct_z (by decide) (Nat.le_of_ble_eq_true rfl) ?_
  intro p e s m args below meth c hC
  have hC : Cx p s m args meth c D K cX12_drop 2 RX12 (some .boolean) := hC
  unfold f_X12_drop at hf
  refine (show G p l e (rmF 8 181) s m args below meth c B D K 2 0 0 (ZZ below args s B D K Q) M 0 [(0, .ref (B + 95)), (1, J v1)] [] from ?_)
  refine g_aload_n hC 0 dX12_drop_0 rfl rfl ?_
  refine g_iload_n hC 1 dX12_drop_1 rfl rfl ?_
  refine g_callVZ hC (sk := []) [J v1] (c_X12_isReach l B D K v1 i_v1 M hM _ hf) yv_X12_isReach wm_X12_344 okX12.1 sc95 rfl ⟨Nat.le_of_ble_eq_true rfl, Nat.le_of_ble_eq_true rfl, Nat.le_of_ble_eq_true rfl, Nat.le_of_ble_eq_true rfl⟩ rfl (Nat.le_of_ble_eq_true rfl) dX12_drop_2 ?_
  rintro r_1 M_2 h_r_1 - ⟨rfl, hf⟩
  refine g_if_ne hC 14 (zi_ h_r_1) dX12_drop_5 rfl (fun c_7 => ?_) (fun c_7 => ?_)
  · replace hf := hf.1 c_7
    refine g_aload_n hC 0 dX12_drop_14 rfl rfl ?_
    refine g_callVV hC (sk := []) [] (c_X12_keeps l B D K   M hM _ hf) yv_X12_keeps wm_X12_432 okX12.1 sc95 rfl ⟨Nat.le_of_ble_eq_true rfl, Nat.le_of_ble_eq_true rfl, Nat.le_of_ble_eq_true rfl, Nat.le_of_ble_eq_true rfl⟩ rfl (Nat.le_of_ble_eq_true rfl) dX12_drop_15 ?_
    intro M_3 h_M_3 hf
    refine g_aload_n hC 0 dX12_drop_18 rfl rfl ?_
    refine g_iload_n hC 1 dX12_drop_19 rfl rfl ?_
    refine g_callVV hC (sk := []) [J v1] (c_X12_removes l B D K v1 i_v1 M_3 h_M_3 _ hf) yv_X12_removes wm_X12_394 okX12.1 sc95 rfl ⟨Nat.le_of_ble_eq_true rfl, Nat.le_of_ble_eq_true rfl, Nat.le_of_ble_eq_true rfl, Nat.le_of_ble_eq_true rfl⟩ rfl (Nat.le_of_ble_eq_true rfl) dX12_drop_20 ?_
    intro M_4 h_M_4 hf
    refine g_iconst hC dX12_drop_23 ?_
    exact g_retz hC (Or.inr rfl) h_M_4 hf dX12_drop_24
  · replace hf := hf.2 c_7
    refine g_aload_n hC 0 dX12_drop_8 rfl rfl ?_
    refine g_iconst hC dX12_drop_9 ?_
    refine g_callVZ hC (sk := []) [J 2] (c_X12_isRefused l B D K 2 (by unfold inR; omega) M hM _ hf) yv_X12_isRefused wm_X12_121 okX12.1 sc95 rfl ⟨Nat.le_of_ble_eq_true rfl, Nat.le_of_ble_eq_true rfl, Nat.le_of_ble_eq_true rfl, Nat.le_of_ble_eq_true rfl⟩ rfl (Nat.le_of_ble_eq_true rfl) dX12_drop_10 ?_
    intro r_5 M_6 h_r_5 h_M_6 hf
    exact g_retz hC h_r_5 h_M_6 hf dX12_drop_13
set_option maxHeartbeats 4000000 in
set_option maxRecDepth 100000 in
theorem c_X12_canCut (l : Launch) (B : Nat) (D : va_G) (K : Nat → ClassId) (v1 : Int) (v2 : Int) (i_v1 : inR v1) (i_v2 : inR v2) (M : Mem) (hM : MR M) (Q : Int → Prop) (hf : f_X12_canCut v1 v2 M Q) : CtZ l yX12_canCut cX12_canCut 3 2 46 B D K [.ref (B + 95), J v1, J v2] M (fun r M1 => M = M1 ∧ Q r) := by
  refine ct_z (by decide) (Nat.le_of_ble_eq_true rfl) ?_
  intro p e s m args below meth c hC
  have hC : Cx p s m args meth c D K cX12_canCut 3 RX12 (some .boolean) := hC
  unfold f_X12_canCut at hf
  refine (show G p l e (rmF 2 46) s m args below meth c B D K 3 0 0 (ZZ below args s B D K (fun r M1 => M = M1 ∧ Q r)) M 0 [(0, .ref (B + 95)), (1, J v1), (2, J v2)] [] from ?_)
  refine g_aload_n hC 0 dX12_canCut_0 rfl rfl ?_
  refine g_iload_n hC 1 dX12_canCut_1 rfl rfl ?_
  refine g_callVZ hC (sk := []) [J v1] (c_X12_isReach l B D K v1 i_v1 M hM _ hf) yv_X12_isReach wm_X12_344 okX12.1 sc95 rfl ⟨Nat.le_of_ble_eq_true rfl, Nat.le_of_ble_eq_true rfl, Nat.le_of_ble_eq_true rfl, Nat.le_of_ble_eq_true rfl⟩ rfl (Nat.le_of_ble_eq_true rfl) dX12_canCut_2 ?_
  rintro r_1 M_2 h_r_1 - ⟨rfl, hf⟩
  refine g_if_eq hC 48 (zi_ h_r_1) dX12_canCut_5 rfl (fun c_15 => ?_) (fun c_15 => ?_)
  · replace hf := hf.1 c_15
    refine g_iconst hC dX12_canCut_48 ?_
    exact g_retz hC (Or.inl rfl) hM ⟨rfl, hf⟩ dX12_canCut_49
  · replace hf := hf.2 c_15
    refine g_iload_n hC 2 dX12_canCut_8 rfl rfl ?_
    refine g_i2l hC i_v2 dX12_canCut_9 ?_
    refine g_lconst (n := 1) hC dX12_canCut_10 (by decide) ?_
    refine g_aload_n hC 0 dX12_canCut_11 rfl rfl ?_
    refine g_iload_n hC 1 dX12_canCut_12 rfl rfl ?_
    refine g_iconst hC dX12_canCut_13 ?_
    refine g_callVI hC (sk := [JL 1, JL v2]) [J v1, J 2] (c_X12_its l B D K v1 2 i_v1 (by unfold inR; omega) M hM _ hf) yv_X12_its wm_X12_252 okX12.1 sc95 rfl ⟨Nat.le_of_ble_eq_true rfl, Nat.le_of_ble_eq_true rfl, Nat.le_of_ble_eq_true rfl, Nat.le_of_ble_eq_true rfl⟩ rfl (Nat.le_of_ble_eq_true rfl) dX12_canCut_14 ?_
    rintro r_3 M_4 h_r_3 - ⟨rfl, hf⟩
    refine g_iconst hC dX12_canCut_17 ?_
    refine g_isub hC dX12_canCut_18 ?_
    obtain ⟨q_5, hf⟩ := hf
    refine g_i2l hC q_5 dX12_canCut_19 ?_
    refine g_callSZ hC (sk := []) [JL v2, JL 1, JL (r_3 - 1)] (c_X12_isIn l B D K v2 1 (r_3 - 1) (inL_of i_v2) (by unfold inL; omega) (inL_of q_5) M hM _ hf) yv_X12_isIn wm_X12_127 rfl ⟨Nat.le_of_ble_eq_true rfl, Nat.le_of_ble_eq_true rfl, Nat.le_of_ble_eq_true rfl, Nat.le_of_ble_eq_true rfl⟩ rfl (Nat.le_of_ble_eq_true rfl) dX12_canCut_20 ?_
    rintro r_6 M_7 h_r_6 - ⟨rfl, hf⟩
    refine g_if_eq hC 48 (zi_ h_r_6) dX12_canCut_23 rfl (fun c_14 => ?_) (fun c_14 => ?_)
    · replace hf := hf.1 c_14
      refine g_iconst hC dX12_canCut_48 ?_
      exact g_retz hC (Or.inl rfl) hM ⟨rfl, hf⟩ dX12_canCut_49
    · replace hf := hf.2 c_14
      refine g_aload_n hC 0 dX12_canCut_26 rfl rfl ?_
      refine g_callVI hC (sk := []) [] (c_X12_places l B D K   M hM _ hf) yv_X12_places wm_X12_246 okX12.1 sc95 rfl ⟨Nat.le_of_ble_eq_true rfl, Nat.le_of_ble_eq_true rfl, Nat.le_of_ble_eq_true rfl, Nat.le_of_ble_eq_true rfl⟩ rfl (Nat.le_of_ble_eq_true rfl) dX12_canCut_27 ?_
      rintro r_8 M_9 h_r_8 - ⟨rfl, hf⟩
      refine g_bipush hC dX12_canCut_30 (by decide) ?_
      refine g_icmp_ge hC 48 h_r_8 (by unfold inR; omega) dX12_canCut_32 rfl (fun c_13 => ?_) (fun c_13 => ?_)
      · replace hf := hf.1 c_13
        refine g_iconst hC dX12_canCut_48 ?_
        exact g_retz hC (Or.inl rfl) hM ⟨rfl, hf⟩ dX12_canCut_49
      · replace hf := hf.2 c_13
        refine g_aload_n hC 0 dX12_canCut_35 rfl rfl ?_
        refine g_callVI hC (sk := []) [] (c_X12_reaches l B D K   M hM _ hf) yv_X12_reaches wm_X12_249 okX12.1 sc95 rfl ⟨Nat.le_of_ble_eq_true rfl, Nat.le_of_ble_eq_true rfl, Nat.le_of_ble_eq_true rfl, Nat.le_of_ble_eq_true rfl⟩ rfl (Nat.le_of_ble_eq_true rfl) dX12_canCut_36 ?_
        rintro r_10 M_11 h_r_10 - ⟨rfl, hf⟩
        refine g_bipush hC dX12_canCut_39 (by decide) ?_
        refine g_icmp_ge hC 48 h_r_10 (by unfold inR; omega) dX12_canCut_41 rfl (fun c_12 => ?_) (fun c_12 => ?_)
        · replace hf := hf.1 c_12
          refine g_iconst hC dX12_canCut_48 ?_
          exact g_retz hC (Or.inl rfl) hM ⟨rfl, hf⟩ dX12_canCut_49
        · replace hf := hf.2 c_12
          refine g_iconst hC dX12_canCut_44 ?_
          refine g_goto hC 49 dX12_canCut_45 rfl ?_
          exact g_retz hC (Or.inr rfl) hM ⟨rfl, hf⟩ dX12_canCut_49
set_option maxHeartbeats 4000000 in
set_option maxRecDepth 100000 in
theorem c_X12_cuts (l : Launch) (B : Nat) (D : va_G) (K : Nat → ClassId) (v1 : Int) (v2 : Int) (i_v1 : inR v1) (i_v2 : inR v2) (M : Mem) (hM : MR M) (Q : Mem → Prop) (hf : f_X12_cuts v1 v2 M Q) : CtV l yX12_cuts cX12_cuts 4 2 47 B D K [.ref (B + 95), J v1, J v2] M Q := by
  refine ct_v (by decide) (Nat.le_of_ble_eq_true rfl) ?_
  intro p e s m args below meth c hC
  have hC : Cx p s m args meth c D K cX12_cuts 4 RX12 none := hC
  unfold f_X12_cuts at hf
  refine (show G p l e (rmF 2 47) s m args below meth c B D K 4 0 0 (ZV below args s B D K Q) M 0 [(0, .ref (B + 95)), (1, J v1), (2, J v2)] [] from ?_)
  refine g_aload_n hC 0 dX12_cuts_0 rfl rfl ?_
  refine g_callVI hC (sk := []) [] (c_X12_places l B D K   M hM _ hf) yv_X12_places wm_X12_246 okX12.1 sc95 rfl ⟨Nat.le_of_ble_eq_true rfl, Nat.le_of_ble_eq_true rfl, Nat.le_of_ble_eq_true rfl, Nat.le_of_ble_eq_true rfl⟩ rfl (Nat.le_of_ble_eq_true rfl) dX12_cuts_1 ?_
  rintro r_1 M_2 h_r_1 - ⟨rfl, hf⟩
  refine g_istore_n hC [(3, J r_1), (0, .ref (B + 95)), (1, J v1), (2, J v2)] dX12_cuts_4 rfl (by decide) rfl ?_
  refine g_aload_n hC 1 dX12_cuts_5 rfl rfl ?_
  refine g_getr hC okX12 sc95 13 (by decide) rfl wf_X12_27 dX12_cuts_6 ?_
  refine g_iconst hC dX12_cuts_9 ?_
  refine g_iload_n hC 0 dX12_cuts_10 rfl rfl ?_
  refine g_iadd hC dX12_cuts_11 ?_
  refine g_iconst hC dX12_cuts_12 ?_
  obtain ⟨q_3, hf⟩ := hf
  refine g_iastk ((3 + r_1).toNat) hC sc100 q_3.1 q_3.2 rfl dX12_cuts_13 ?_
  refine g_nmM (fun M_4 e_M_4 => ?_)
  replace hf := hf M_4 e_M_4
  have h_M_4 : MR M_4 := by rw [e_M_4]; exact MR_st hM (by unfold inR; omega)
  refine g_aload_n hC 1 dX12_cuts_14 rfl rfl ?_
  refine g_getr hC okX12 sc95 13 (by decide) rfl wf_X12_27 dX12_cuts_15 ?_
  refine g_iconst hC dX12_cuts_18 ?_
  refine g_dup2 hC dX12_cuts_19 rfl rfl ?_
  refine g_ialdk 0 hC sc100 (by decide) (by decide) rfl dX12_cuts_20 ?_
  refine g_iconst hC dX12_cuts_21 ?_
  refine g_iadd hC dX12_cuts_22 ?_
  obtain ⟨q_5, hf⟩ := hf
  refine g_iastk 0 hC sc100 (by decide) (by decide) rfl dX12_cuts_23 ?_
  refine g_nmM (fun M_6 e_M_6 => ?_)
  replace hf := hf M_6 e_M_6
  have h_M_6 : MR M_6 := by rw [e_M_6]; exact MR_st h_M_4 q_5
  refine g_aload_n hC 1 dX12_cuts_24 rfl rfl ?_
  refine g_getr hC okX12 sc95 13 (by decide) rfl wf_X12_27 dX12_cuts_25 ?_
  refine g_iload_n hC 0 dX12_cuts_28 rfl rfl ?_
  refine g_aload_n hC 1 dX12_cuts_29 rfl rfl ?_
  refine g_iload_n hC 2 dX12_cuts_30 rfl rfl ?_
  refine g_iconst hC dX12_cuts_31 ?_
  refine g_callVI hC (sk := [J r_1, .ref (B + 100)]) [J v1, J 1] (c_X12_its l B D K v1 1 i_v1 (by unfold inR; omega) M_6 h_M_6 _ hf) yv_X12_its wm_X12_252 okX12.1 sc95 rfl ⟨Nat.le_of_ble_eq_true rfl, Nat.le_of_ble_eq_true rfl, Nat.le_of_ble_eq_true rfl, Nat.le_of_ble_eq_true rfl⟩ rfl (Nat.le_of_ble_eq_true rfl) dX12_cuts_32 ?_
  rintro r_7 M_8 h_r_7 - ⟨rfl, hf⟩
  refine g_aload_n hC 1 dX12_cuts_35 rfl rfl ?_
  refine g_iload_n hC 2 dX12_cuts_36 rfl rfl ?_
  refine g_iconst hC dX12_cuts_37 ?_
  refine g_callVI hC (sk := [J r_7, J r_1, .ref (B + 100)]) [J v1, J 2] (c_X12_its l B D K v1 2 i_v1 (by unfold inR; omega) M_6 h_M_6 _ hf) yv_X12_its wm_X12_252 okX12.1 sc95 rfl ⟨Nat.le_of_ble_eq_true rfl, Nat.le_of_ble_eq_true rfl, Nat.le_of_ble_eq_true rfl, Nat.le_of_ble_eq_true rfl⟩ rfl (Nat.le_of_ble_eq_true rfl) dX12_cuts_38 ?_
  rintro r_9 M_10 h_r_9 - ⟨rfl, hf⟩
  refine g_iload_n hC 3 dX12_cuts_41 rfl rfl ?_
  refine g_isub hC dX12_cuts_42 ?_
  refine g_iconst hC dX12_cuts_43 ?_
  refine g_aload_n hC 1 dX12_cuts_44 rfl rfl ?_
  refine g_iload_n hC 2 dX12_cuts_45 rfl rfl ?_
  refine g_iconst hC dX12_cuts_46 ?_
  refine g_callVI hC (sk := [J 0, J (r_9 - v2), J r_7, J r_1, .ref (B + 100)]) [J v1, J 4] (c_X12_its l B D K v1 4 i_v1 (by unfold inR; omega) M_6 h_M_6 _ hf) yv_X12_its wm_X12_252 okX12.1 sc95 rfl ⟨Nat.le_of_ble_eq_true rfl, Nat.le_of_ble_eq_true rfl, Nat.le_of_ble_eq_true rfl, Nat.le_of_ble_eq_true rfl⟩ rfl (Nat.le_of_ble_eq_true rfl) dX12_cuts_47 ?_
  rintro r_11 M_12 h_r_11 - ⟨rfl, hf⟩
  obtain ⟨q_13, hf⟩ := hf
  refine g_callSV hC (sk := []) [.ref (B + 100), J r_1, J r_7, J (r_9 - v2), J 0, J r_11] (c_X12_laysReach l B D K 100 r_1 r_7 (r_9 - v2) 0 r_11 (isIA_of sc100) h_r_1 h_r_7 q_13 (by unfold inR; omega) h_r_11 M_6 h_M_6 _ hf) yv_X12_laysReach wm_X12_214 rfl ⟨Nat.le_of_ble_eq_true rfl, Nat.le_of_ble_eq_true rfl, Nat.le_of_ble_eq_true rfl, Nat.le_of_ble_eq_true rfl⟩ rfl (Nat.le_of_ble_eq_true rfl) dX12_cuts_50 ?_
  intro M_14 h_M_14 hf
  refine g_aload_n hC 1 dX12_cuts_53 rfl rfl ?_
  refine g_getr hC okX12 sc95 13 (by decide) rfl wf_X12_27 dX12_cuts_54 ?_
  refine g_iload_n hC 2 dX12_cuts_57 rfl rfl ?_
  refine g_iconst hC dX12_cuts_58 ?_
  refine g_callSI hC (sk := [.ref (B + 100)]) [J v1, J 1] (c_X12_reachAt l B D K v1 1 i_v1 (by unfold inR; omega) M_14 h_M_14 _ hf) yv_X12_reachAt wm_X12_183 rfl ⟨Nat.le_of_ble_eq_true rfl, Nat.le_of_ble_eq_true rfl, Nat.le_of_ble_eq_true rfl, Nat.le_of_ble_eq_true rfl⟩ rfl (Nat.le_of_ble_eq_true rfl) dX12_cuts_59 ?_
  rintro r_15 M_16 h_r_15 - ⟨rfl, hf⟩
  refine g_iload_n hC 0 dX12_cuts_62 rfl rfl ?_
  obtain ⟨q_17, hf⟩ := hf
  refine g_iastk (r_15.toNat) hC sc100 q_17.1 q_17.2 rfl dX12_cuts_63 ?_
  refine g_nmM (fun M_18 e_M_18 => ?_)
  replace hf := hf M_18 e_M_18
  have h_M_18 : MR M_18 := by rw [e_M_18]; exact MR_st h_M_14 h_r_1
  refine g_aload_n hC 1 dX12_cuts_64 rfl rfl ?_
  refine g_getr hC okX12 sc95 13 (by decide) rfl wf_X12_27 dX12_cuts_65 ?_
  refine g_iload_n hC 2 dX12_cuts_68 rfl rfl ?_
  refine g_iconst hC dX12_cuts_69 ?_
  refine g_callSI hC (sk := [.ref (B + 100)]) [J v1, J 2] (c_X12_reachAt l B D K v1 2 i_v1 (by unfold inR; omega) M_18 h_M_18 _ hf) yv_X12_reachAt wm_X12_183 rfl ⟨Nat.le_of_ble_eq_true rfl, Nat.le_of_ble_eq_true rfl, Nat.le_of_ble_eq_true rfl, Nat.le_of_ble_eq_true rfl⟩ rfl (Nat.le_of_ble_eq_true rfl) dX12_cuts_70 ?_
  rintro r_19 M_20 h_r_19 - ⟨rfl, hf⟩
  refine g_iload_n hC 3 dX12_cuts_73 rfl rfl ?_
  obtain ⟨q_21, hf⟩ := hf
  refine g_iastk (r_19.toNat) hC sc100 q_21.1 q_21.2 rfl dX12_cuts_74 ?_
  refine g_nmM (fun M_22 e_M_22 => ?_)
  replace hf := hf M_22 e_M_22
  have h_M_22 : MR M_22 := by rw [e_M_22]; exact MR_st h_M_18 i_v2
  refine g_aload_n hC 1 dX12_cuts_75 rfl rfl ?_
  refine g_callVV hC (sk := []) [] (c_X12_isOther l B D K   M_22 h_M_22 _ hf) yv_X12_isOther wm_X12_379 okX12.1 sc95 rfl ⟨Nat.le_of_ble_eq_true rfl, Nat.le_of_ble_eq_true rfl, Nat.le_of_ble_eq_true rfl, Nat.le_of_ble_eq_true rfl⟩ rfl (Nat.le_of_ble_eq_true rfl) dX12_cuts_76 ?_
  intro M_23 h_M_23 hf
  exact g_retv hC h_M_23 hf dX12_cuts_79
set_option maxHeartbeats 4000000 in
set_option maxRecDepth 100000 in
theorem c_X12_cut (l : Launch) (B : Nat) (D : va_G) (K : Nat → ClassId) (v1 : Int) (v2 : Int) (i_v1 : inR v1) (i_v2 : inR v2) (M : Mem) (hM : MR M) (Q : Int → Mem → Prop) (hf : f_X12_cut v1 v2 M Q) : CtI l yX12_cut cX12_cut 3 8 181 B D K [.ref (B + 95), J v1, J v2] M Q := by
  refine ct_i (by decide) (Nat.le_of_ble_eq_true rfl) ?_
  intro p e s m args below meth c hC
  have hC : Cx p s m args meth c D K cX12_cut 3 RX12 (some .int) := hC
  unfold f_X12_cut at hf
  refine (show G p l e (rmF 8 181) s m args below meth c B D K 3 0 0 (ZI below args s B D K Q) M 0 [(0, .ref (B + 95)), (1, J v1), (2, J v2)] [] from ?_)
  refine g_aload_n hC 0 dX12_cut_0 rfl rfl ?_
  refine g_iload_n hC 1 dX12_cut_1 rfl rfl ?_
  refine g_iload_n hC 2 dX12_cut_2 rfl rfl ?_
  refine g_callVZ hC (sk := []) [J v1, J v2] (c_X12_canCut l B D K v1 v2 i_v1 i_v2 M hM _ hf) yv_X12_canCut wm_X12_435 okX12.1 sc95 rfl ⟨Nat.le_of_ble_eq_true rfl, Nat.le_of_ble_eq_true rfl, Nat.le_of_ble_eq_true rfl, Nat.le_of_ble_eq_true rfl⟩ rfl (Nat.le_of_ble_eq_true rfl) dX12_cut_3 ?_
  rintro r_1 M_2 h_r_1 - ⟨rfl, hf⟩
  refine g_if_ne hC 15 (zi_ h_r_1) dX12_cut_6 rfl (fun c_10 => ?_) (fun c_10 => ?_)
  · replace hf := hf.1 c_10
    refine g_aload_n hC 0 dX12_cut_15 rfl rfl ?_
    refine g_callVV hC (sk := []) [] (c_X12_keeps l B D K   M hM _ hf) yv_X12_keeps wm_X12_432 okX12.1 sc95 rfl ⟨Nat.le_of_ble_eq_true rfl, Nat.le_of_ble_eq_true rfl, Nat.le_of_ble_eq_true rfl, Nat.le_of_ble_eq_true rfl⟩ rfl (Nat.le_of_ble_eq_true rfl) dX12_cut_16 ?_
    intro M_3 h_M_3 hf
    refine g_aload_n hC 0 dX12_cut_19 rfl rfl ?_
    refine g_iload_n hC 1 dX12_cut_20 rfl rfl ?_
    refine g_iload_n hC 2 dX12_cut_21 rfl rfl ?_
    refine g_callVV hC (sk := []) [J v1, J v2] (c_X12_cuts l B D K v1 v2 i_v1 i_v2 M_3 h_M_3 _ hf) yv_X12_cuts wm_X12_438 okX12.1 sc95 rfl ⟨Nat.le_of_ble_eq_true rfl, Nat.le_of_ble_eq_true rfl, Nat.le_of_ble_eq_true rfl, Nat.le_of_ble_eq_true rfl⟩ rfl (Nat.le_of_ble_eq_true rfl) dX12_cut_22 ?_
    intro M_4 h_M_4 hf
    refine g_aload_n hC 0 dX12_cut_25 rfl rfl ?_
    refine g_callVI hC (sk := []) [] (c_X12_places l B D K   M_4 h_M_4 _ hf) yv_X12_places wm_X12_246 okX12.1 sc95 rfl ⟨Nat.le_of_ble_eq_true rfl, Nat.le_of_ble_eq_true rfl, Nat.le_of_ble_eq_true rfl, Nat.le_of_ble_eq_true rfl⟩ rfl (Nat.le_of_ble_eq_true rfl) dX12_cut_26 ?_
    rintro r_5 M_6 h_r_5 - ⟨rfl, hf⟩
    refine g_iconst hC dX12_cut_29 ?_
    refine g_isub hC dX12_cut_30 ?_
    obtain ⟨q_7, hf⟩ := hf
    exact g_reti hC q_7 h_M_4 hf dX12_cut_31
  · replace hf := hf.2 c_10
    refine g_aload_n hC 0 dX12_cut_9 rfl rfl ?_
    refine g_iconst hC dX12_cut_10 ?_
    refine g_callVI hC (sk := []) [J 2] (c_X12_refuses l B D K 2 (by unfold inR; omega) M hM _ hf) yv_X12_refuses wm_X12_117 okX12.1 sc95 rfl ⟨Nat.le_of_ble_eq_true rfl, Nat.le_of_ble_eq_true rfl, Nat.le_of_ble_eq_true rfl, Nat.le_of_ble_eq_true rfl⟩ rfl (Nat.le_of_ble_eq_true rfl) dX12_cut_11 ?_
    intro r_8 M_9 h_r_8 h_M_9 hf
    exact g_reti hC h_r_8 h_M_9 hf dX12_cut_14
set_option maxHeartbeats 4000000 in
set_option maxRecDepth 100000 in
theorem c_X12_turn (l : Launch) (B : Nat) (D : va_G) (K : Nat → ClassId) (v1 : Int) (i_v1 : inR v1) (M : Mem) (hM : MR M) (Q : Int → Mem → Prop) (hf : f_X12_turn v1 M Q) : CtZ l yX12_turn cX12_turn 2 8 181 B D K [.ref (B + 95), J v1] M Q := by
  refine ct_z (by decide) (Nat.le_of_ble_eq_true rfl) ?_
  intro p e s m args below meth c hC
  have hC : Cx p s m args meth c D K cX12_turn 2 RX12 (some .boolean) := hC
  unfold f_X12_turn at hf
  refine (show G p l e (rmF 8 181) s m args below meth c B D K 2 0 0 (ZZ below args s B D K Q) M 0 [(0, .ref (B + 95)), (1, J v1)] [] from ?_)
  refine g_aload_n hC 0 dX12_turn_0 rfl rfl ?_
  refine g_iload_n hC 1 dX12_turn_1 rfl rfl ?_
  refine g_callVZ hC (sk := []) [J v1] (c_X12_canTurnIt l B D K v1 i_v1 M hM _ hf) yv_X12_canTurnIt wm_X12_382 okX12.1 sc95 rfl ⟨Nat.le_of_ble_eq_true rfl, Nat.le_of_ble_eq_true rfl, Nat.le_of_ble_eq_true rfl, Nat.le_of_ble_eq_true rfl⟩ rfl (Nat.le_of_ble_eq_true rfl) dX12_turn_2 ?_
  rintro r_1 M_2 h_r_1 - ⟨rfl, hf⟩
  refine g_if_ne hC 14 (zi_ h_r_1) dX12_turn_5 rfl (fun c_7 => ?_) (fun c_7 => ?_)
  · replace hf := hf.1 c_7
    refine g_aload_n hC 0 dX12_turn_14 rfl rfl ?_
    refine g_callVV hC (sk := []) [] (c_X12_keeps l B D K   M hM _ hf) yv_X12_keeps wm_X12_432 okX12.1 sc95 rfl ⟨Nat.le_of_ble_eq_true rfl, Nat.le_of_ble_eq_true rfl, Nat.le_of_ble_eq_true rfl, Nat.le_of_ble_eq_true rfl⟩ rfl (Nat.le_of_ble_eq_true rfl) dX12_turn_15 ?_
    intro M_3 h_M_3 hf
    refine g_aload_n hC 0 dX12_turn_18 rfl rfl ?_
    refine g_iload_n hC 1 dX12_turn_19 rfl rfl ?_
    refine g_callVV hC (sk := []) [J v1] (c_X12_turns l B D K v1 i_v1 M_3 h_M_3 _ hf) yv_X12_turns wm_X12_388 okX12.1 sc95 rfl ⟨Nat.le_of_ble_eq_true rfl, Nat.le_of_ble_eq_true rfl, Nat.le_of_ble_eq_true rfl, Nat.le_of_ble_eq_true rfl⟩ rfl (Nat.le_of_ble_eq_true rfl) dX12_turn_20 ?_
    intro M_4 h_M_4 hf
    refine g_iconst hC dX12_turn_23 ?_
    exact g_retz hC (Or.inr rfl) h_M_4 hf dX12_turn_24
  · replace hf := hf.2 c_7
    refine g_aload_n hC 0 dX12_turn_8 rfl rfl ?_
    refine g_iconst hC dX12_turn_9 ?_
    refine g_callVZ hC (sk := []) [J 3] (c_X12_isRefused l B D K 3 (by unfold inR; omega) M hM _ hf) yv_X12_isRefused wm_X12_121 okX12.1 sc95 rfl ⟨Nat.le_of_ble_eq_true rfl, Nat.le_of_ble_eq_true rfl, Nat.le_of_ble_eq_true rfl, Nat.le_of_ble_eq_true rfl⟩ rfl (Nat.le_of_ble_eq_true rfl) dX12_turn_10 ?_
    intro r_5 M_6 h_r_5 h_M_6 hf
    exact g_retz hC h_r_5 h_M_6 hf dX12_turn_13
set_option maxHeartbeats 4000000 in
set_option maxRecDepth 100000 in
theorem c_X12_gives (l : Launch) (B : Nat) (D : va_G) (K : Nat → ClassId) (v1 : Int) (v2 : Int) (i_v1 : inR v1) (i_v2 : inR v2) (M : Mem) (hM : MR M) (Q : Int → Mem → Prop) (hf : f_X12_gives v1 v2 M Q) : CtZ l yX12_gives cX12_gives 3 8 181 B D K [.ref (B + 95), J v1, J v2] M Q := by
  refine ct_z (by decide) (Nat.le_of_ble_eq_true rfl) ?_
  intro p e s m args below meth c hC
  have hC : Cx p s m args meth c D K cX12_gives 3 RX12 (some .boolean) := hC
  unfold f_X12_gives at hf
  refine (show G p l e (rmF 8 181) s m args below meth c B D K 3 0 0 (ZZ below args s B D K Q) M 0 [(0, .ref (B + 95)), (1, J v1), (2, J v2)] [] from ?_)
  refine g_aload_n hC 0 dX12_gives_0 rfl rfl ?_
  refine g_iload_n hC 1 dX12_gives_1 rfl rfl ?_
  refine g_callVZ hC (sk := []) [J v1] (c_X12_isReach l B D K v1 i_v1 M hM _ hf) yv_X12_isReach wm_X12_344 okX12.1 sc95 rfl ⟨Nat.le_of_ble_eq_true rfl, Nat.le_of_ble_eq_true rfl, Nat.le_of_ble_eq_true rfl, Nat.le_of_ble_eq_true rfl⟩ rfl (Nat.le_of_ble_eq_true rfl) dX12_gives_2 ?_
  rintro r_1 M_2 h_r_1 - ⟨rfl, hf⟩
  refine jn_elim (fun (k : Mem → Prop) => ∀ (M_3 : Mem), k M_3 → (MR M_3) → G p l e (rmF 8 181) s m args below meth c B D K 3 0 0 (ZZ below args s B D K Q) M_3 30 [(0, .ref (B + 95))] []) hf ?_ ?_
  · intro M_3 hf h_M_3
    refine g_aload_n hC 0 dX12_gives_30 rfl rfl ?_
    refine g_iconst hC dX12_gives_31 ?_
    refine g_callVZ hC (sk := []) [J 3] (c_X12_isRefused l B D K 3 (by unfold inR; omega) M_3 h_M_3 _ hf) yv_X12_isRefused wm_X12_121 okX12.1 sc95 rfl ⟨Nat.le_of_ble_eq_true rfl, Nat.le_of_ble_eq_true rfl, Nat.le_of_ble_eq_true rfl, Nat.le_of_ble_eq_true rfl⟩ rfl (Nat.le_of_ble_eq_true rfl) dX12_gives_32 ?_
    intro r_4 M_5 h_r_4 h_M_5 hf
    exact g_retz hC h_r_4 h_M_5 hf dX12_gives_35
  · intro J30 hJ30 hf
    refine g_if_eq hC 30 (zi_ h_r_1) dX12_gives_5 rfl (fun c_18 => ?_) (fun c_18 => ?_)
    · replace hf := hf.1 c_18
      refine g_sub [(0, .ref (B + 95))] [0] rfl ?_
      exact hJ30 M hf hM
    · replace hf := hf.2 c_18
      refine g_iload_n hC 2 dX12_gives_8 rfl rfl ?_
      refine g_i2l hC i_v2 dX12_gives_9 ?_
      refine g_lconst (n := 0) hC dX12_gives_10 (by decide) ?_
      refine g_ldc2 (n := 99) hC wc_X12_430 (by decide) dX12_gives_11 ?_
      refine g_callSZ hC (sk := []) [JL v2, JL 0, JL 99] (c_X12_isIn l B D K v2 0 99 (inL_of i_v2) (by unfold inL; omega) (by unfold inL; omega) M hM _ hf) yv_X12_isIn wm_X12_127 rfl ⟨Nat.le_of_ble_eq_true rfl, Nat.le_of_ble_eq_true rfl, Nat.le_of_ble_eq_true rfl, Nat.le_of_ble_eq_true rfl⟩ rfl (Nat.le_of_ble_eq_true rfl) dX12_gives_14 ?_
      rintro r_6 M_7 h_r_6 - ⟨rfl, hf⟩
      refine g_if_eq hC 30 (zi_ h_r_6) dX12_gives_17 rfl (fun c_17 => ?_) (fun c_17 => ?_)
      · replace hf := hf.1 c_17
        refine g_sub [(0, .ref (B + 95))] [0] rfl ?_
        exact hJ30 M hf hM
      · replace hf := hf.2 c_17
        refine g_aload_n hC 0 dX12_gives_20 rfl rfl ?_
        refine g_iload_n hC 1 dX12_gives_21 rfl rfl ?_
        refine g_iconst hC dX12_gives_22 ?_
        refine g_callVI hC (sk := []) [J v1, J 3] (c_X12_its l B D K v1 3 i_v1 (by unfold inR; omega) M hM _ hf) yv_X12_its wm_X12_252 okX12.1 sc95 rfl ⟨Nat.le_of_ble_eq_true rfl, Nat.le_of_ble_eq_true rfl, Nat.le_of_ble_eq_true rfl, Nat.le_of_ble_eq_true rfl⟩ rfl (Nat.le_of_ble_eq_true rfl) dX12_gives_23 ?_
        rintro r_8 M_9 h_r_8 - ⟨rfl, hf⟩
        refine g_iload_n hC 2 dX12_gives_26 rfl rfl ?_
        refine g_icmp_ne hC 36 h_r_8 i_v2 dX12_gives_27 rfl (fun c_16 => ?_) (fun c_16 => ?_)
        · replace hf := hf.1 c_16
          refine g_aload_n hC 0 dX12_gives_36 rfl rfl ?_
          refine g_callVV hC (sk := []) [] (c_X12_keeps l B D K   M hM _ hf) yv_X12_keeps wm_X12_432 okX12.1 sc95 rfl ⟨Nat.le_of_ble_eq_true rfl, Nat.le_of_ble_eq_true rfl, Nat.le_of_ble_eq_true rfl, Nat.le_of_ble_eq_true rfl⟩ rfl (Nat.le_of_ble_eq_true rfl) dX12_gives_37 ?_
          intro M_10 h_M_10 hf
          refine g_aload_n hC 0 dX12_gives_40 rfl rfl ?_
          refine g_getr hC okX12 sc95 13 (by decide) rfl wf_X12_27 dX12_gives_41 ?_
          refine g_iload_n hC 1 dX12_gives_44 rfl rfl ?_
          refine g_iconst hC dX12_gives_45 ?_
          refine g_callSI hC (sk := [.ref (B + 100)]) [J v1, J 3] (c_X12_reachAt l B D K v1 3 i_v1 (by unfold inR; omega) M_10 h_M_10 _ hf) yv_X12_reachAt wm_X12_183 rfl ⟨Nat.le_of_ble_eq_true rfl, Nat.le_of_ble_eq_true rfl, Nat.le_of_ble_eq_true rfl, Nat.le_of_ble_eq_true rfl⟩ rfl (Nat.le_of_ble_eq_true rfl) dX12_gives_46 ?_
          rintro r_11 M_12 h_r_11 - ⟨rfl, hf⟩
          refine g_iload_n hC 2 dX12_gives_49 rfl rfl ?_
          obtain ⟨q_13, hf⟩ := hf
          refine g_iastk (r_11.toNat) hC sc100 q_13.1 q_13.2 rfl dX12_gives_50 ?_
          refine g_nmM (fun M_14 e_M_14 => ?_)
          replace hf := hf M_14 e_M_14
          have h_M_14 : MR M_14 := by rw [e_M_14]; exact MR_st h_M_10 i_v2
          refine g_aload_n hC 0 dX12_gives_51 rfl rfl ?_
          refine g_callVV hC (sk := []) [] (c_X12_isOther l B D K   M_14 h_M_14 _ hf) yv_X12_isOther wm_X12_379 okX12.1 sc95 rfl ⟨Nat.le_of_ble_eq_true rfl, Nat.le_of_ble_eq_true rfl, Nat.le_of_ble_eq_true rfl, Nat.le_of_ble_eq_true rfl⟩ rfl (Nat.le_of_ble_eq_true rfl) dX12_gives_52 ?_
          intro M_15 h_M_15 hf
          refine g_iconst hC dX12_gives_55 ?_
          exact g_retz hC (Or.inr rfl) h_M_15 hf dX12_gives_56
        · replace hf := hf.2 c_16
          refine g_sub [(0, .ref (B + 95))] [0] rfl ?_
          exact hJ30 M hf hM
set_option maxHeartbeats 4000000 in
set_option maxRecDepth 100000 in
theorem c_X12_call (l : Launch) (B : Nat) (D : va_G) (K : Nat → ClassId) (v1 : Int) (v2 : Int) (i_v1 : inR v1) (i_v2 : inR v2) (M : Mem) (hM : MR M) (Q : Int → Mem → Prop) (hf : f_X12_call v1 v2 M Q) : CtZ l yX12_call cX12_call 3 8 181 B D K [.ref (B + 95), J v1, J v2] M Q := by
  refine ct_z (by decide) (Nat.le_of_ble_eq_true rfl) ?_
  intro p e s m args below meth c hC
  have hC : Cx p s m args meth c D K cX12_call 3 RX12 (some .boolean) := hC
  unfold f_X12_call at hf
  refine (show G p l e (rmF 8 181) s m args below meth c B D K 3 0 0 (ZZ below args s B D K Q) M 0 [(0, .ref (B + 95)), (1, J v1), (2, J v2)] [] from ?_)
  refine g_aload_n hC 0 dX12_call_0 rfl rfl ?_
  refine g_iload_n hC 1 dX12_call_1 rfl rfl ?_
  refine g_callVZ hC (sk := []) [J v1] (c_X12_isReach l B D K v1 i_v1 M hM _ hf) yv_X12_isReach wm_X12_344 okX12.1 sc95 rfl ⟨Nat.le_of_ble_eq_true rfl, Nat.le_of_ble_eq_true rfl, Nat.le_of_ble_eq_true rfl, Nat.le_of_ble_eq_true rfl⟩ rfl (Nat.le_of_ble_eq_true rfl) dX12_call_2 ?_
  rintro r_1 M_2 h_r_1 - ⟨rfl, hf⟩
  refine jn_elim (fun (k : Mem → Prop) => ∀ (M_3 : Mem), k M_3 → (MR M_3) → G p l e (rmF 8 181) s m args below meth c B D K 3 0 0 (ZZ below args s B D K Q) M_3 31 [(0, .ref (B + 95))] []) hf ?_ ?_
  · intro M_3 hf h_M_3
    refine g_aload_n hC 0 dX12_call_31 rfl rfl ?_
    refine g_iconst hC dX12_call_32 ?_
    refine g_callVZ hC (sk := []) [J 3] (c_X12_isRefused l B D K 3 (by unfold inR; omega) M_3 h_M_3 _ hf) yv_X12_isRefused wm_X12_121 okX12.1 sc95 rfl ⟨Nat.le_of_ble_eq_true rfl, Nat.le_of_ble_eq_true rfl, Nat.le_of_ble_eq_true rfl, Nat.le_of_ble_eq_true rfl⟩ rfl (Nat.le_of_ble_eq_true rfl) dX12_call_33 ?_
    intro r_4 M_5 h_r_4 h_M_5 hf
    exact g_retz hC h_r_4 h_M_5 hf dX12_call_36
  · intro J31 hJ31 hf
    refine g_if_eq hC 31 (zi_ h_r_1) dX12_call_5 rfl (fun c_19 => ?_) (fun c_19 => ?_)
    · replace hf := hf.1 c_19
      refine g_sub [(0, .ref (B + 95))] [0] rfl ?_
      exact hJ31 M hf hM
    · replace hf := hf.2 c_19
      refine g_iload_n hC 2 dX12_call_8 rfl rfl ?_
      refine g_iconst hC dX12_call_9 ?_
      refine jn_elim (fun (k : Prop) => k → G p l e (rmF 8 181) s m args below meth c B D K 3 0 0 (ZZ below args s B D K Q) M 21 [(0, .ref (B + 95)), (1, J v1), (2, J v2)] []) hf ?_ ?_
      · intro hf
        refine g_aload_n hC 0 dX12_call_21 rfl rfl ?_
        refine g_iload_n hC 1 dX12_call_22 rfl rfl ?_
        refine g_iconst hC dX12_call_23 ?_
        refine g_callVI hC (sk := []) [J v1, J 4] (c_X12_its l B D K v1 4 i_v1 (by unfold inR; omega) M hM _ hf) yv_X12_its wm_X12_252 okX12.1 sc95 rfl ⟨Nat.le_of_ble_eq_true rfl, Nat.le_of_ble_eq_true rfl, Nat.le_of_ble_eq_true rfl, Nat.le_of_ble_eq_true rfl⟩ rfl (Nat.le_of_ble_eq_true rfl) dX12_call_24 ?_
        rintro r_6 M_7 h_r_6 - ⟨rfl, hf⟩
        refine g_iload_n hC 2 dX12_call_27 rfl rfl ?_
        refine g_icmp_ne hC 37 h_r_6 i_v2 dX12_call_28 rfl (fun c_14 => ?_) (fun c_14 => ?_)
        · replace hf := hf.1 c_14
          refine g_aload_n hC 0 dX12_call_37 rfl rfl ?_
          refine g_callVV hC (sk := []) [] (c_X12_keeps l B D K   M hM _ hf) yv_X12_keeps wm_X12_432 okX12.1 sc95 rfl ⟨Nat.le_of_ble_eq_true rfl, Nat.le_of_ble_eq_true rfl, Nat.le_of_ble_eq_true rfl, Nat.le_of_ble_eq_true rfl⟩ rfl (Nat.le_of_ble_eq_true rfl) dX12_call_38 ?_
          intro M_8 h_M_8 hf
          refine g_aload_n hC 0 dX12_call_41 rfl rfl ?_
          refine g_getr hC okX12 sc95 13 (by decide) rfl wf_X12_27 dX12_call_42 ?_
          refine g_iload_n hC 1 dX12_call_45 rfl rfl ?_
          refine g_iconst hC dX12_call_46 ?_
          refine g_callSI hC (sk := [.ref (B + 100)]) [J v1, J 4] (c_X12_reachAt l B D K v1 4 i_v1 (by unfold inR; omega) M_8 h_M_8 _ hf) yv_X12_reachAt wm_X12_183 rfl ⟨Nat.le_of_ble_eq_true rfl, Nat.le_of_ble_eq_true rfl, Nat.le_of_ble_eq_true rfl, Nat.le_of_ble_eq_true rfl⟩ rfl (Nat.le_of_ble_eq_true rfl) dX12_call_47 ?_
          rintro r_9 M_10 h_r_9 - ⟨rfl, hf⟩
          refine g_iload_n hC 2 dX12_call_50 rfl rfl ?_
          obtain ⟨q_11, hf⟩ := hf
          refine g_iastk (r_9.toNat) hC sc100 q_11.1 q_11.2 rfl dX12_call_51 ?_
          refine g_nmM (fun M_12 e_M_12 => ?_)
          replace hf := hf M_12 e_M_12
          have h_M_12 : MR M_12 := by rw [e_M_12]; exact MR_st h_M_8 i_v2
          refine g_aload_n hC 0 dX12_call_52 rfl rfl ?_
          refine g_callVV hC (sk := []) [] (c_X12_isOther l B D K   M_12 h_M_12 _ hf) yv_X12_isOther wm_X12_379 okX12.1 sc95 rfl ⟨Nat.le_of_ble_eq_true rfl, Nat.le_of_ble_eq_true rfl, Nat.le_of_ble_eq_true rfl, Nat.le_of_ble_eq_true rfl⟩ rfl (Nat.le_of_ble_eq_true rfl) dX12_call_53 ?_
          intro M_13 h_M_13 hf
          refine g_iconst hC dX12_call_56 ?_
          exact g_retz hC (Or.inr rfl) h_M_13 hf dX12_call_57
        · replace hf := hf.2 c_14
          refine g_sub [(0, .ref (B + 95))] [0] rfl ?_
          exact hJ31 M hf hM
      · intro J21 hJ21 hf
        refine g_icmp_eq hC 21 i_v2 (by unfold inR; omega) dX12_call_10 rfl (fun c_18 => ?_) (fun c_18 => ?_)
        · replace hf := hf.1 c_18
          refine g_sub [(0, .ref (B + 95)), (1, J v1), (2, J v2)] [0, 1, 2] rfl ?_
          exact hJ21 hf
        · replace hf := hf.2 c_18
          refine g_aload_n hC 0 dX12_call_13 rfl rfl ?_
          refine g_iload_n hC 2 dX12_call_14 rfl rfl ?_
          refine g_callVZ hC (sk := []) [J v2] (c_X12_isRiver l B D K v2 i_v2 M hM _ hf) yv_X12_isRiver wm_X12_341 okX12.1 sc95 rfl ⟨Nat.le_of_ble_eq_true rfl, Nat.le_of_ble_eq_true rfl, Nat.le_of_ble_eq_true rfl, Nat.le_of_ble_eq_true rfl⟩ rfl (Nat.le_of_ble_eq_true rfl) dX12_call_15 ?_
          rintro r_15 M_16 h_r_15 - ⟨rfl, hf⟩
          refine g_if_eq hC 31 (zi_ h_r_15) dX12_call_18 rfl (fun c_17 => ?_) (fun c_17 => ?_)
          · replace hf := hf.1 c_17
            refine g_sub [(0, .ref (B + 95))] [0] rfl ?_
            exact hJ31 M hf hM
          · replace hf := hf.2 c_17
            refine g_sub [(0, .ref (B + 95)), (1, J v1), (2, J v2)] [0, 1, 2] rfl ?_
            exact hJ21 hf
set_option maxHeartbeats 4000000 in
set_option maxRecDepth 100000 in
theorem c_X12_seed (l : Launch) (B : Nat) (D : va_G) (K : Nat → ClassId) (v1 : Int) (i_v1 : inR v1) (M : Mem) (hM : MR M) (Q : Int → Mem → Prop) (hf : f_X12_seed v1 M Q) : CtZ l yX12_seed cX12_seed 2 1 21 B D K [.ref (B + 95), J v1] M Q := by
  refine ct_z (by decide) (Nat.le_of_ble_eq_true rfl) ?_
  intro p e s m args below meth c hC
  have hC : Cx p s m args meth c D K cX12_seed 2 RX12 (some .boolean) := hC
  unfold f_X12_seed at hf
  refine (show G p l e (rmF 1 21) s m args below meth c B D K 2 0 0 (ZZ below args s B D K Q) M 0 [(0, .ref (B + 95)), (1, J v1)] [] from ?_)
  refine g_iload_n hC 1 dX12_seed_0 rfl rfl ?_
  refine g_if_ge hC 10 i_v1 dX12_seed_1 rfl (fun c_4 => ?_) (fun c_4 => ?_)
  · replace hf := hf.1 c_4
    refine g_aload_n hC 0 dX12_seed_10 rfl rfl ?_
    refine g_iload_n hC 1 dX12_seed_11 rfl rfl ?_
    refine g_i2l hC i_v1 dX12_seed_12 ?_
    refine g_putl hC okX12 tnX12 sc95 46 (by decide) rfl rfl (by decide) wf_X12_107 dX12_seed_13 ?_
    refine g_nmM (fun M_1 e_M_1 => ?_)
    replace hf := hf M_1 e_M_1
    have h_M_1 : MR M_1 := by rw [e_M_1]; exact MR_st hM i_v1
    refine g_iconst hC dX12_seed_16 ?_
    exact g_retz hC (Or.inr rfl) h_M_1 hf dX12_seed_17
  · replace hf := hf.2 c_4
    refine g_aload_n hC 0 dX12_seed_4 rfl rfl ?_
    refine g_iconst hC dX12_seed_5 ?_
    refine g_callVZ hC (sk := []) [J 5] (c_X12_isRefused l B D K 5 (by unfold inR; omega) M hM _ hf) yv_X12_isRefused wm_X12_121 okX12.1 sc95 rfl ⟨Nat.le_of_ble_eq_true rfl, Nat.le_of_ble_eq_true rfl, Nat.le_of_ble_eq_true rfl, Nat.le_of_ble_eq_true rfl⟩ rfl (Nat.le_of_ble_eq_true rfl) dX12_seed_6 ?_
    intro r_2 M_3 h_r_2 h_M_3 hf
    exact g_retz hC h_r_2 h_M_3 hf dX12_seed_9
set_option maxHeartbeats 4000000 in
set_option maxRecDepth 100000 in
theorem c_X12_drawOf (l : Launch) (B : Nat) (D : va_G) (K : Nat → ClassId) (v1 : Int) (i_v1 : inR v1) (M : Mem) (hM : MR M) (Q : Int → Mem → Prop) (hf : f_X12_drawOf v1 M Q) : CtI l yX12_drawOf cX12_drawOf 2 0 0 B D K [.ref (B + 95), J v1] M Q := by
  refine ct_i (by decide) (Nat.le_of_ble_eq_true rfl) ?_
  intro p e s m args below meth c hC
  have hC : Cx p s m args meth c D K cX12_drawOf 2 RX12 (some .int) := hC
  unfold f_X12_drawOf at hf
  refine (show G p l e (rmF 0 0) s m args below meth c B D K 2 0 0 (ZI below args s B D K Q) M 0 [(0, .ref (B + 95)), (1, J v1)] [] from ?_)
  refine g_aload_n hC 0 dX12_drawOf_0 rfl rfl ?_
  refine g_ldc2 (n := 1103515245) hC wc_X12_441 (by decide) dX12_drawOf_1 ?_
  refine g_aload_n hC 0 dX12_drawOf_4 rfl rfl ?_
  refine g_getl hC okX12 sc95 46 (by decide) rfl wf_X12_107 dX12_drawOf_5 ?_
  refine g_lmul hC dX12_drawOf_8 ?_
  refine g_ldc2 (n := 12345) hC wc_X12_443 (by decide) dX12_drawOf_9 ?_
  refine g_ladd hC dX12_drawOf_12 ?_
  refine g_ldc2 (n := 2147483648) hC wc_X12_445 (by decide) dX12_drawOf_13 ?_
  obtain ⟨q_1, hf⟩ := hf
  refine g_lrem hC q_1 (by unfold inL; omega) (by decide) dX12_drawOf_16 ?_
  obtain ⟨q_2, hf⟩ := hf
  refine g_putl hC okX12 tnX12 sc95 46 (by decide) rfl rfl (by decide) wf_X12_107 dX12_drawOf_17 ?_
  refine g_nmM (fun M_3 e_M_3 => ?_)
  replace hf := hf M_3 e_M_3
  have h_M_3 : MR M_3 := by rw [e_M_3]; exact MR_st hM q_2
  refine g_aload_n hC 0 dX12_drawOf_20 rfl rfl ?_
  refine g_getl hC okX12 sc95 46 (by decide) rfl wf_X12_107 dX12_drawOf_21 ?_
  refine g_ldc2 (n := 64) hC wc_X12_447 (by decide) dX12_drawOf_24 ?_
  refine g_ldiv hC (inL_of (h_M_3 _ _)) (by unfold inL; omega) (by decide) dX12_drawOf_27 ?_
  refine g_iload_n hC 1 dX12_drawOf_28 rfl rfl ?_
  refine g_i2l hC i_v1 dX12_drawOf_29 ?_
  obtain ⟨q_4, hf⟩ := hf
  obtain ⟨q_5, hf⟩ := hf
  refine g_lrem hC q_4 (inL_of i_v1) q_5 dX12_drawOf_30 ?_
  refine g_l2i hC dX12_drawOf_31 ?_
  obtain ⟨q_6, hf⟩ := hf
  exact g_reti hC q_6 h_M_3 hf dX12_drawOf_32
set_option maxHeartbeats 4000000 in
set_option maxRecDepth 100000 in
theorem c_X12_stirs (l : Launch) (B : Nat) (D : va_G) (K : Nat → ClassId)   (M : Mem) (hM : MR M) (Q : Mem → Prop) (hf : f_X12_stirs  M Q) : CtV l yX12_stirs cX12_stirs 4 3 70 B D K [.ref (B + 95)] M Q := by
  refine ct_v (by decide) (Nat.le_of_ble_eq_true rfl) ?_
  intro p e s m args below meth c hC
  have hC : Cx p s m args meth c D K cX12_stirs 4 RX12 none := hC
  unfold f_X12_stirs at hf
  refine (show G p l e (rmF 3 70) s m args below meth c B D K 4 0 0 (ZV below args s B D K Q) M 0 [(0, .ref (B + 95))] [] from ?_)
  refine g_aload_n hC 0 dX12_stirs_0 rfl rfl ?_
  refine g_iconst hC dX12_stirs_1 ?_
  refine g_callVI hC (sk := []) [J 4] (c_X12_drawOf l B D K 4 (by unfold inR; omega) M hM _ hf) yv_X12_drawOf wm_X12_449 okX12.1 sc95 rfl ⟨Nat.le_of_ble_eq_true rfl, Nat.le_of_ble_eq_true rfl, Nat.le_of_ble_eq_true rfl, Nat.le_of_ble_eq_true rfl⟩ rfl (Nat.le_of_ble_eq_true rfl) dX12_stirs_2 ?_
  intro r_1 M_2 h_r_1 h_M_2 hf
  refine g_istore_n hC [(1, J r_1), (0, .ref (B + 95))] dX12_stirs_5 rfl (by decide) rfl ?_
  refine g_aload_n hC 1 dX12_stirs_6 rfl rfl ?_
  refine g_aload_n hC 1 dX12_stirs_7 rfl rfl ?_
  refine g_callVI hC (sk := [.ref (B + 95)]) [] (c_X12_reaches l B D K   M_2 h_M_2 _ hf) yv_X12_reaches wm_X12_249 okX12.1 sc95 rfl ⟨Nat.le_of_ble_eq_true rfl, Nat.le_of_ble_eq_true rfl, Nat.le_of_ble_eq_true rfl, Nat.le_of_ble_eq_true rfl⟩ rfl (Nat.le_of_ble_eq_true rfl) dX12_stirs_8 ?_
  rintro r_3 M_4 h_r_3 - ⟨rfl, hf⟩
  refine g_callVI hC (sk := []) [J r_3] (c_X12_drawOf l B D K r_3 h_r_3 M_2 h_M_2 _ hf) yv_X12_drawOf wm_X12_449 okX12.1 sc95 rfl ⟨Nat.le_of_ble_eq_true rfl, Nat.le_of_ble_eq_true rfl, Nat.le_of_ble_eq_true rfl, Nat.le_of_ble_eq_true rfl⟩ rfl (Nat.le_of_ble_eq_true rfl) dX12_stirs_11 ?_
  intro r_5 M_6 h_r_5 h_M_6 hf
  refine g_istore_n hC [(2, J r_5), (1, J r_1), (0, .ref (B + 95))] dX12_stirs_14 rfl (by decide) rfl ?_
  refine g_iload_n hC 1 dX12_stirs_15 rfl rfl ?_
  refine jn_elim (fun (k : Mem → Prop) => ∀ (M_7 : Mem), k M_7 → (MR M_7) → G p l e (rmF 3 70) s m args below meth c B D K 4 0 0 (ZV below args s B D K Q) M_7 152 [(0, .ref (B + 95))] []) hf ?_ ?_
  · intro M_7 hf h_M_7
    refine g_aload_n hC 0 dX12_stirs_152 rfl rfl ?_
    refine g_callVV hC (sk := []) [] (c_X12_isOther l B D K   M_7 h_M_7 _ hf) yv_X12_isOther wm_X12_379 okX12.1 sc95 rfl ⟨Nat.le_of_ble_eq_true rfl, Nat.le_of_ble_eq_true rfl, Nat.le_of_ble_eq_true rfl, Nat.le_of_ble_eq_true rfl⟩ rfl (Nat.le_of_ble_eq_true rfl) dX12_stirs_153 ?_
    intro M_8 h_M_8 hf
    exact g_retv hC h_M_8 hf dX12_stirs_156
  · intro J152 hJ152 hf
    by_cases c_13 : r_1 = 0
    · replace hf := hf.1 c_13
      refine g_tabIn hC 0 44 h_r_1 c_13 dX12_stirs_16 (by decide) (by decide) rfl rfl ?_
      refine g_aload_n hC 2 dX12_stirs_44 rfl rfl ?_
      refine g_iload_n hC 0 dX12_stirs_45 rfl rfl ?_
      refine g_callVZ hC (sk := []) [J r_5] (c_X12_canTurnIt l B D K r_5 h_r_5 M_6 h_M_6 _ hf) yv_X12_canTurnIt wm_X12_382 okX12.1 sc95 rfl ⟨Nat.le_of_ble_eq_true rfl, Nat.le_of_ble_eq_true rfl, Nat.le_of_ble_eq_true rfl, Nat.le_of_ble_eq_true rfl⟩ rfl (Nat.le_of_ble_eq_true rfl) dX12_stirs_46 ?_
      rintro r_9 M_10 h_r_9 - ⟨rfl, hf⟩
      refine g_if_eq hC 152 (zi_ h_r_9) dX12_stirs_49 rfl (fun c_12 => ?_) (fun c_12 => ?_)
      · replace hf := hf.1 c_12
        refine g_sub [(0, .ref (B + 95))] [2] rfl ?_
        exact hJ152 M_6 hf h_M_6
      · replace hf := hf.2 c_12
        refine g_aload_n hC 2 dX12_stirs_52 rfl rfl ?_
        refine g_iload_n hC 0 dX12_stirs_53 rfl rfl ?_
        refine g_callVV hC (sk := []) [J r_5] (c_X12_turns l B D K r_5 h_r_5 M_6 h_M_6 _ hf) yv_X12_turns wm_X12_388 okX12.1 sc95 rfl ⟨Nat.le_of_ble_eq_true rfl, Nat.le_of_ble_eq_true rfl, Nat.le_of_ble_eq_true rfl, Nat.le_of_ble_eq_true rfl⟩ rfl (Nat.le_of_ble_eq_true rfl) dX12_stirs_54 ?_
        intro M_11 h_M_11 hf
        refine g_goto hC 152 dX12_stirs_57 rfl ?_
        refine g_sub [(0, .ref (B + 95))] [2] rfl ?_
        exact hJ152 M_11 hf h_M_11
    · replace hf := hf.2
      by_cases c_20 : r_1 = 1
      · replace hf := hf.1 c_20
        refine g_tabIn hC 1 60 h_r_1 c_20 dX12_stirs_16 (by decide) (by decide) rfl rfl ?_
        refine g_aload_n hC 2 dX12_stirs_60 rfl rfl ?_
        refine g_getr hC okX12 sc95 13 (by decide) rfl wf_X12_27 dX12_stirs_61 ?_
        refine g_iload_n hC 0 dX12_stirs_64 rfl rfl ?_
        refine g_iconst hC dX12_stirs_65 ?_
        refine g_callSI hC (sk := [.ref (B + 100)]) [J r_5, J 3] (c_X12_reachAt l B D K r_5 3 h_r_5 (by unfold inR; omega) M_6 h_M_6 _ hf) yv_X12_reachAt wm_X12_183 rfl ⟨Nat.le_of_ble_eq_true rfl, Nat.le_of_ble_eq_true rfl, Nat.le_of_ble_eq_true rfl, Nat.le_of_ble_eq_true rfl⟩ rfl (Nat.le_of_ble_eq_true rfl) dX12_stirs_66 ?_
        rintro r_14 M_15 h_r_14 - ⟨rfl, hf⟩
        refine g_aload_n hC 2 dX12_stirs_69 rfl rfl ?_
        refine g_bipush hC dX12_stirs_70 (by decide) ?_
        refine g_callVI hC (sk := [J r_14, .ref (B + 100)]) [J 100] (c_X12_drawOf l B D K 100 (by unfold inR; omega) M_6 h_M_6 _ hf) yv_X12_drawOf wm_X12_449 okX12.1 sc95 rfl ⟨Nat.le_of_ble_eq_true rfl, Nat.le_of_ble_eq_true rfl, Nat.le_of_ble_eq_true rfl, Nat.le_of_ble_eq_true rfl⟩ rfl (Nat.le_of_ble_eq_true rfl) dX12_stirs_72 ?_
        intro r_16 M_17 h_r_16 h_M_17 hf
        obtain ⟨q_18, hf⟩ := hf
        refine g_iastk (r_14.toNat) hC sc100 q_18.1 q_18.2 rfl dX12_stirs_75 ?_
        refine g_nmM (fun M_19 e_M_19 => ?_)
        replace hf := hf M_19 e_M_19
        have h_M_19 : MR M_19 := by rw [e_M_19]; exact MR_st h_M_17 h_r_16
        refine g_goto hC 152 dX12_stirs_76 rfl ?_
        refine g_sub [(0, .ref (B + 95))] [2] rfl ?_
        exact hJ152 M_19 hf h_M_19
      · replace hf := hf.2
        by_cases c_29 : r_1 = 2
        · replace hf := hf.1 c_29
          refine g_tabIn hC 2 79 h_r_1 c_29 dX12_stirs_16 (by decide) (by decide) rfl rfl ?_
          refine g_aload_n hC 2 dX12_stirs_79 rfl rfl ?_
          refine g_iload_n hC 0 dX12_stirs_80 rfl rfl ?_
          refine g_aload_n hC 2 dX12_stirs_81 rfl rfl ?_
          refine g_iload_n hC 0 dX12_stirs_82 rfl rfl ?_
          refine g_iconst hC dX12_stirs_83 ?_
          refine g_callVI hC (sk := [J r_5, .ref (B + 95)]) [J r_5, J 2] (c_X12_its l B D K r_5 2 h_r_5 (by unfold inR; omega) M_6 h_M_6 _ hf) yv_X12_its wm_X12_252 okX12.1 sc95 rfl ⟨Nat.le_of_ble_eq_true rfl, Nat.le_of_ble_eq_true rfl, Nat.le_of_ble_eq_true rfl, Nat.le_of_ble_eq_true rfl⟩ rfl (Nat.le_of_ble_eq_true rfl) dX12_stirs_84 ?_
          rintro r_21 M_22 h_r_21 - ⟨rfl, hf⟩
          refine g_iconst hC dX12_stirs_87 ?_
          refine g_idiv hC h_r_21 (by unfold inR; omega) (by decide) dX12_stirs_88 ?_
          refine g_callVZ hC (sk := []) [J r_5, J (Int.tdiv r_21 2)] (c_X12_canCut l B D K r_5 (Int.tdiv r_21 2) h_r_5 (tdiv_in h_r_21 (by decide)) M_6 h_M_6 _ hf) yv_X12_canCut wm_X12_435 okX12.1 sc95 rfl ⟨Nat.le_of_ble_eq_true rfl, Nat.le_of_ble_eq_true rfl, Nat.le_of_ble_eq_true rfl, Nat.le_of_ble_eq_true rfl⟩ rfl (Nat.le_of_ble_eq_true rfl) dX12_stirs_89 ?_
          rintro r_23 M_24 h_r_23 - ⟨rfl, hf⟩
          refine g_if_eq hC 152 (zi_ h_r_23) dX12_stirs_92 rfl (fun c_28 => ?_) (fun c_28 => ?_)
          · replace hf := hf.1 c_28
            refine g_sub [(0, .ref (B + 95))] [2] rfl ?_
            exact hJ152 M_6 hf h_M_6
          · replace hf := hf.2 c_28
            refine g_aload_n hC 2 dX12_stirs_95 rfl rfl ?_
            refine g_iload_n hC 0 dX12_stirs_96 rfl rfl ?_
            refine g_aload_n hC 2 dX12_stirs_97 rfl rfl ?_
            refine g_iload_n hC 0 dX12_stirs_98 rfl rfl ?_
            refine g_iconst hC dX12_stirs_99 ?_
            refine g_callVI hC (sk := [J r_5, .ref (B + 95)]) [J r_5, J 2] (c_X12_its l B D K r_5 2 h_r_5 (by unfold inR; omega) M_6 h_M_6 _ hf) yv_X12_its wm_X12_252 okX12.1 sc95 rfl ⟨Nat.le_of_ble_eq_true rfl, Nat.le_of_ble_eq_true rfl, Nat.le_of_ble_eq_true rfl, Nat.le_of_ble_eq_true rfl⟩ rfl (Nat.le_of_ble_eq_true rfl) dX12_stirs_100 ?_
            rintro r_25 M_26 h_r_25 - ⟨rfl, hf⟩
            refine g_iconst hC dX12_stirs_103 ?_
            refine g_idiv hC h_r_25 (by unfold inR; omega) (by decide) dX12_stirs_104 ?_
            refine g_callVV hC (sk := []) [J r_5, J (Int.tdiv r_25 2)] (c_X12_cuts l B D K r_5 (Int.tdiv r_25 2) h_r_5 (tdiv_in h_r_25 (by decide)) M_6 h_M_6 _ hf) yv_X12_cuts wm_X12_438 okX12.1 sc95 rfl ⟨Nat.le_of_ble_eq_true rfl, Nat.le_of_ble_eq_true rfl, Nat.le_of_ble_eq_true rfl, Nat.le_of_ble_eq_true rfl⟩ rfl (Nat.le_of_ble_eq_true rfl) dX12_stirs_105 ?_
            intro M_27 h_M_27 hf
            refine g_goto hC 152 dX12_stirs_108 rfl ?_
            refine g_sub [(0, .ref (B + 95))] [2] rfl ?_
            exact hJ152 M_27 hf h_M_27
        · replace hf := hf.2
          have c_42 : r_1 < 0 ∨ 2 < r_1 := by omega
          replace hf := hf c_42
          refine g_tabOut hC 111 h_r_1 dX12_stirs_16 c_42 rfl ?_
          refine g_aload_n hC 2 dX12_stirs_111 rfl rfl ?_
          refine g_aload_n hC 2 dX12_stirs_112 rfl rfl ?_
          refine g_callVI hC (sk := [.ref (B + 95)]) [] (c_X12_places l B D K   M_6 h_M_6 _ hf) yv_X12_places wm_X12_246 okX12.1 sc95 rfl ⟨Nat.le_of_ble_eq_true rfl, Nat.le_of_ble_eq_true rfl, Nat.le_of_ble_eq_true rfl, Nat.le_of_ble_eq_true rfl⟩ rfl (Nat.le_of_ble_eq_true rfl) dX12_stirs_113 ?_
          rintro r_30 M_31 h_r_30 - ⟨rfl, hf⟩
          refine g_callVI hC (sk := []) [J r_30] (c_X12_drawOf l B D K r_30 h_r_30 M_6 h_M_6 _ hf) yv_X12_drawOf wm_X12_449 okX12.1 sc95 rfl ⟨Nat.le_of_ble_eq_true rfl, Nat.le_of_ble_eq_true rfl, Nat.le_of_ble_eq_true rfl, Nat.le_of_ble_eq_true rfl⟩ rfl (Nat.le_of_ble_eq_true rfl) dX12_stirs_116 ?_
          intro r_32 M_33 h_r_32 h_M_33 hf
          refine g_istore_n hC [(3, J r_32), (2, J r_5), (1, J r_1), (0, .ref (B + 95))] dX12_stirs_119 rfl (by decide) rfl ?_
          refine g_aload_n hC 3 dX12_stirs_120 rfl rfl ?_
          refine g_aload_n hC 3 dX12_stirs_121 rfl rfl ?_
          refine g_iload_n hC 1 dX12_stirs_122 rfl rfl ?_
          refine g_iconst hC dX12_stirs_123 ?_
          refine g_callVI hC (sk := [.ref (B + 95)]) [J r_5, J 1] (c_X12_its l B D K r_5 1 h_r_5 (by unfold inR; omega) M_33 h_M_33 _ hf) yv_X12_its wm_X12_252 okX12.1 sc95 rfl ⟨Nat.le_of_ble_eq_true rfl, Nat.le_of_ble_eq_true rfl, Nat.le_of_ble_eq_true rfl, Nat.le_of_ble_eq_true rfl⟩ rfl (Nat.le_of_ble_eq_true rfl) dX12_stirs_124 ?_
          rintro r_34 M_35 h_r_34 - ⟨rfl, hf⟩
          refine g_iload_n hC 0 dX12_stirs_127 rfl rfl ?_
          refine g_callVZ hC (sk := []) [J r_34, J r_32] (c_X12_canAdd l B D K r_34 r_32 h_r_34 h_r_32 M_33 h_M_33 _ hf) yv_X12_canAdd wm_X12_427 okX12.1 sc95 rfl ⟨Nat.le_of_ble_eq_true rfl, Nat.le_of_ble_eq_true rfl, Nat.le_of_ble_eq_true rfl, Nat.le_of_ble_eq_true rfl⟩ rfl (Nat.le_of_ble_eq_true rfl) dX12_stirs_128 ?_
          rintro r_36 M_37 h_r_36 - ⟨rfl, hf⟩
          refine g_if_eq hC 152 (zi_ h_r_36) dX12_stirs_131 rfl (fun c_41 => ?_) (fun c_41 => ?_)
          · replace hf := hf.1 c_41
            refine g_sub [(0, .ref (B + 95))] [3] rfl ?_
            exact hJ152 M_33 hf h_M_33
          · replace hf := hf.2 c_41
            refine g_aload_n hC 3 dX12_stirs_134 rfl rfl ?_
            refine g_getr hC okX12 sc95 13 (by decide) rfl wf_X12_27 dX12_stirs_135 ?_
            refine g_aload_n hC 3 dX12_stirs_138 rfl rfl ?_
            refine g_iload_n hC 1 dX12_stirs_139 rfl rfl ?_
            refine g_iconst hC dX12_stirs_140 ?_
            refine g_callVI hC (sk := [.ref (B + 100)]) [J r_5, J 1] (c_X12_its l B D K r_5 1 h_r_5 (by unfold inR; omega) M_33 h_M_33 _ hf) yv_X12_its wm_X12_252 okX12.1 sc95 rfl ⟨Nat.le_of_ble_eq_true rfl, Nat.le_of_ble_eq_true rfl, Nat.le_of_ble_eq_true rfl, Nat.le_of_ble_eq_true rfl⟩ rfl (Nat.le_of_ble_eq_true rfl) dX12_stirs_141 ?_
            rintro r_38 M_39 h_r_38 - ⟨rfl, hf⟩
            refine g_iload_n hC 0 dX12_stirs_144 rfl rfl ?_
            refine g_bipush hC dX12_stirs_145 (by decide) ?_
            refine g_iconst hC dX12_stirs_147 ?_
            refine g_iconst hC dX12_stirs_148 ?_
            refine g_callSV hC (sk := []) [.ref (B + 100), J r_38, J r_32, J 10, J 0, J (-1)] (c_X12_laysReach l B D K 100 r_38 r_32 10 0 (-1) (isIA_of sc100) h_r_38 h_r_32 (by unfold inR; omega) (by unfold inR; omega) (by unfold inR; omega) M_33 h_M_33 _ hf) yv_X12_laysReach wm_X12_214 rfl ⟨Nat.le_of_ble_eq_true rfl, Nat.le_of_ble_eq_true rfl, Nat.le_of_ble_eq_true rfl, Nat.le_of_ble_eq_true rfl⟩ rfl (Nat.le_of_ble_eq_true rfl) dX12_stirs_149 ?_
            intro M_40 h_M_40 hf
            refine g_sub [(0, .ref (B + 95))] [3] rfl ?_
            exact hJ152 M_40 hf h_M_40
set_option maxHeartbeats 4000000 in
set_option maxRecDepth 100000 in
theorem c_X12_chance (l : Launch) (B : Nat) (D : va_G) (K : Nat → ClassId) (v1 : Int) (i_v1 : inR v1) (M : Mem) (hM : MR M) (Q : Int → Mem → Prop) (hf : f_X12_chance v1 M Q) : CtI l yX12_chance cX12_chance 3 8 181 B D K [.ref (B + 95), J v1] M Q := by
  refine ct_i (by decide) (Nat.le_of_ble_eq_true rfl) ?_
  intro p e s m args below meth c hC
  have hC : Cx p s m args meth c D K cX12_chance 3 RX12 (some .int) := hC
  unfold f_X12_chance at hf
  refine (show G p l e (rmF 8 181) s m args below meth c B D K 3 0 0 (ZI below args s B D K Q) M 0 [(0, .ref (B + 95)), (1, J v1)] [] from ?_)
  refine g_iload_n hC 1 dX12_chance_0 rfl rfl ?_
  refine g_i2l hC i_v1 dX12_chance_1 ?_
  refine g_lconst (n := 1) hC dX12_chance_2 (by decide) ?_
  refine g_ldc2 (n := 40) hC wc_X12_452 (by decide) dX12_chance_3 ?_
  refine g_callSZ hC (sk := []) [JL v1, JL 1, JL 40] (c_X12_isIn l B D K v1 1 40 (inL_of i_v1) (by unfold inL; omega) (by unfold inL; omega) M hM _ hf) yv_X12_isIn wm_X12_127 rfl ⟨Nat.le_of_ble_eq_true rfl, Nat.le_of_ble_eq_true rfl, Nat.le_of_ble_eq_true rfl, Nat.le_of_ble_eq_true rfl⟩ rfl (Nat.le_of_ble_eq_true rfl) dX12_chance_6 ?_
  rintro r_1 M_2 h_r_1 - ⟨rfl, hf⟩
  refine jn_elim (fun (k : Mem → Prop) => ∀ (M_3 : Mem), k M_3 → (MR M_3) → G p l e (rmF 8 181) s m args below meth c B D K 3 0 0 (ZI below args s B D K Q) M_3 19 [(0, .ref (B + 95))] []) hf ?_ ?_
  · intro M_3 hf h_M_3
    refine g_aload_n hC 0 dX12_chance_19 rfl rfl ?_
    refine g_iconst hC dX12_chance_20 ?_
    refine g_callVI hC (sk := []) [J 3] (c_X12_refuses l B D K 3 (by unfold inR; omega) M_3 h_M_3 _ hf) yv_X12_refuses wm_X12_117 okX12.1 sc95 rfl ⟨Nat.le_of_ble_eq_true rfl, Nat.le_of_ble_eq_true rfl, Nat.le_of_ble_eq_true rfl, Nat.le_of_ble_eq_true rfl⟩ rfl (Nat.le_of_ble_eq_true rfl) dX12_chance_21 ?_
    intro r_4 M_5 h_r_4 h_M_5 hf
    exact g_reti hC h_r_4 h_M_5 hf dX12_chance_24
  · intro J19 hJ19 hf
    refine g_if_eq hC 19 (zi_ h_r_1) dX12_chance_9 rfl (fun c_19 => ?_) (fun c_19 => ?_)
    · replace hf := hf.1 c_19
      refine g_sub [(0, .ref (B + 95))] [0] rfl ?_
      exact hJ19 M hf hM
    · replace hf := hf.2 c_19
      refine g_aload_n hC 0 dX12_chance_12 rfl rfl ?_
      refine g_callVI hC (sk := []) [] (c_X12_reaches l B D K   M hM _ hf) yv_X12_reaches wm_X12_249 okX12.1 sc95 rfl ⟨Nat.le_of_ble_eq_true rfl, Nat.le_of_ble_eq_true rfl, Nat.le_of_ble_eq_true rfl, Nat.le_of_ble_eq_true rfl⟩ rfl (Nat.le_of_ble_eq_true rfl) dX12_chance_13 ?_
      rintro r_6 M_7 h_r_6 - ⟨rfl, hf⟩
      refine g_if_ne hC 25 h_r_6 dX12_chance_16 rfl (fun c_18 => ?_) (fun c_18 => ?_)
      · replace hf := hf.1 c_18
        refine g_aload_n hC 0 dX12_chance_25 rfl rfl ?_
        refine g_callVV hC (sk := []) [] (c_X12_keeps l B D K   M hM _ hf) yv_X12_keeps wm_X12_432 okX12.1 sc95 rfl ⟨Nat.le_of_ble_eq_true rfl, Nat.le_of_ble_eq_true rfl, Nat.le_of_ble_eq_true rfl, Nat.le_of_ble_eq_true rfl⟩ rfl (Nat.le_of_ble_eq_true rfl) dX12_chance_26 ?_
        intro M_8 h_M_8 hf
        refine g_iconst hC dX12_chance_29 ?_
        refine g_istore_n hC [(2, J 0), (0, .ref (B + 95)), (1, J v1)] dX12_chance_30 rfl (by decide) rfl ?_
        refine jn_elim (fun (k : Mem → Prop) => ∀ (M_9 : Mem), k M_9 → (MR M_9) → G p l e (rmF 8 181) s m args below meth c B D K 3 0 0 (ZI below args s B D K Q) M_9 46 [(0, .ref (B + 95))] []) hf ?_ ?_
        · intro M_9 hf h_M_9
          refine g_aload_n hC 0 dX12_chance_46 rfl rfl ?_
          refine g_callVI hC (sk := []) [] (c_X12_reaches l B D K   M_9 h_M_9 _ hf) yv_X12_reaches wm_X12_249 okX12.1 sc95 rfl ⟨Nat.le_of_ble_eq_true rfl, Nat.le_of_ble_eq_true rfl, Nat.le_of_ble_eq_true rfl, Nat.le_of_ble_eq_true rfl⟩ rfl (Nat.le_of_ble_eq_true rfl) dX12_chance_47 ?_
          rintro r_10 M_11 h_r_10 - ⟨rfl, hf⟩
          exact g_reti hC h_r_10 h_M_9 hf dX12_chance_50
        · intro J46 hJ46 hf
          refine g_sub [(0, .ref (B + 95)), (1, J v1), (2, J 0)] [1, 2, 0] rfl ?_
          refine wl2_elim (fun (v2_12 : Int) (M_13 : Mem) => inR v2_12 → MR M_13 → G p l e (rmF 8 181) s m args below meth c B D K 3 0 0 (ZI below args s B D K Q) M_13 31 [(0, .ref (B + 95)), (1, J v1), (2, J v2_12)] []) ?_ 5000 0 M_8 hf (by unfold inR; omega) h_M_8
          intro rec31 ih31 v2_12 M_13 hf h_v2_12 h_M_13
          unfold X12_chance_b31 at hf
          refine g_iload_n hC 2 dX12_chance_31 rfl rfl ?_
          refine g_iload_n hC 1 dX12_chance_32 rfl rfl ?_
          refine g_icmp_ge hC 46 h_v2_12 i_v1 dX12_chance_33 rfl (fun c_17 => ?_) (fun c_17 => ?_)
          · replace hf := hf.1 c_17
            refine g_sub [(0, .ref (B + 95))] [0] rfl ?_
            exact hJ46 M_13 hf h_M_13
          · replace hf := hf.2 c_17
            refine g_aload_n hC 0 dX12_chance_36 rfl rfl ?_
            refine g_callVV hC (sk := []) [] (c_X12_stirs l B D K   M_13 h_M_13 _ hf) yv_X12_stirs wm_X12_454 okX12.1 sc95 rfl ⟨Nat.le_of_ble_eq_true rfl, Nat.le_of_ble_eq_true rfl, Nat.le_of_ble_eq_true rfl, Nat.le_of_ble_eq_true rfl⟩ rfl (Nat.le_of_ble_eq_true rfl) dX12_chance_37 ?_
            intro M_14 h_M_14 hf
            obtain ⟨q_16, hf⟩ := hf
            obtain ⟨v2_15, e_v2_15⟩ : ∃ z : Int, z = v2_12 + 1 := ⟨_, rfl⟩
            replace hf := hf v2_15 e_v2_15
            have h_v2_15 : inR v2_15 := by rw [e_v2_15]; exact q_16
            refine g_iincv hC 2 e_v2_15 [(2, J v2_15), (0, .ref (B + 95)), (1, J v1)] dX12_chance_40 rfl (by decide) rfl ?_
            refine g_goto hC 31 dX12_chance_43 rfl ?_
            refine g_sub [(0, .ref (B + 95)), (1, J v1), (2, J v2_15)] [1, 2, 0] rfl ?_
            exact ih31 v2_15 M_14 hf h_v2_15 h_M_14
      · replace hf := hf.2 c_18
        refine g_sub [(0, .ref (B + 95))] [0] rfl ?_
        exact hJ19 M hf hM
set_option maxHeartbeats 4000000 in
set_option maxRecDepth 100000 in
theorem c_X12_last (l : Launch) (B : Nat) (D : va_G) (K : Nat → ClassId) (a0 : Nat) (v1 : Int) (h_a0 : isIA a0) (i_v1 : inR v1) (M : Mem) (hM : MR M) (Q : Int → Prop) (hf : f_X12_last a0 v1 M Q) : CtI l yX12_last cX12_last 4 0 0 B D K [.ref (B + a0), J v1] M (fun r M1 => M = M1 ∧ Q r) := by
  refine ct_i (by decide) (Nat.le_of_ble_eq_true rfl) ?_
  intro p e s m args below meth c hC
  have hC : Cx p s m args meth c D K cX12_last 4 RX12 (some .int) := hC
  unfold f_X12_last at hf
  refine (show G p l e (rmF 0 0) s m args below meth c B D K 4 0 0 (ZI below args s B D K (fun r M1 => M = M1 ∧ Q r)) M 0 [(0, .ref (B + a0)), (1, J v1)] [] from ?_)
  refine g_sipush hC dX12_last_0 (by decide) ?_
  refine g_istore_n hC [(2, J 191), (0, .ref (B + a0)), (1, J v1)] dX12_last_3 rfl (by decide) rfl ?_
  refine g_iconst hC dX12_last_4 ?_
  refine g_istore_n hC [(3, J 0), (2, J 191), (0, .ref (B + a0)), (1, J v1)] dX12_last_5 rfl (by decide) rfl ?_
  refine g_sub [(0, .ref (B + a0)), (1, J v1), (2, J 191), (3, J 0)] [2, 3, 1, 0] rfl ?_
  refine wl2_elim (fun (v2_1 : Int) (v3_2 : Int) => inR v2_1 → inR v3_2 → G p l e (rmF 0 0) s m args below meth c B D K 4 0 0 (ZI below args s B D K (fun r M1 => M = M1 ∧ Q r)) M 6 [(0, .ref (B + a0)), (1, J v1), (2, J v2_1), (3, J v3_2)] []) ?_ 5000 191 0 hf (by unfold inR; omega) (by unfold inR; omega)
  intro rec6 ih6 v2_1 v3_2 hf h_v2_1 h_v3_2
  unfold X12_last_b6 at hf
  refine g_iload_n hC 3 dX12_last_6 rfl rfl ?_
  refine g_iload_n hC 1 dX12_last_7 rfl rfl ?_
  refine g_icmp_ge hC 29 h_v3_2 i_v1 dX12_last_8 rfl (fun c_8 => ?_) (fun c_8 => ?_)
  · replace hf := hf.1 c_8
    refine g_iload_n hC 2 dX12_last_29 rfl rfl ?_
    exact g_reti hC h_v2_1 hM ⟨rfl, hf⟩ dX12_last_30
  · replace hf := hf.2 c_8
    refine g_iconst hC dX12_last_11 ?_
    refine g_iload_n hC 2 dX12_last_12 rfl rfl ?_
    refine g_imul hC dX12_last_13 ?_
    refine g_aload_n hC 0 dX12_last_14 rfl rfl ?_
    refine g_iload_n hC 3 dX12_last_15 rfl rfl ?_
    obtain ⟨q_3, hf⟩ := hf
    refine g_ialdk (v3_2.toNat) hC h_a0 q_3.1 q_3.2 rfl dX12_last_16 ?_
    refine g_iadd hC dX12_last_17 ?_
    refine g_sipush hC dX12_last_18 (by decide) ?_
    obtain ⟨q_4, hf⟩ := hf
    refine g_irem hC q_4 (by unfold inR; omega) (by decide) dX12_last_21 ?_
    refine g_nm (fun v2_5 e_v2_5 => ?_)
    replace hf := hf v2_5 e_v2_5
    have h_v2_5 : inR v2_5 := by rw [e_v2_5]; exact (tmod_in q_4 (by decide))
    refine g_istore_n hC [(2, J v2_5), (0, .ref (B + a0)), (1, J v1), (3, J v3_2)] dX12_last_22 rfl (by decide) rfl ?_
    obtain ⟨q_7, hf⟩ := hf
    obtain ⟨v3_6, e_v3_6⟩ : ∃ z : Int, z = v3_2 + 1 := ⟨_, rfl⟩
    replace hf := hf v3_6 e_v3_6
    have h_v3_6 : inR v3_6 := by rw [e_v3_6]; exact q_7
    refine g_iincv hC 3 e_v3_6 [(3, J v3_6), (2, J v2_5), (0, .ref (B + a0)), (1, J v1)] dX12_last_23 rfl (by decide) rfl ?_
    refine g_goto hC 6 dX12_last_26 rfl ?_
    refine g_sub [(0, .ref (B + a0)), (1, J v1), (2, J v2_5), (3, J v3_6)] [2, 3, 1, 0] rfl ?_
    exact ih6 v2_5 v3_6 hf h_v2_5 h_v3_6
set_option maxHeartbeats 4000000 in
set_option maxRecDepth 100000 in
theorem c_X12_image (l : Launch) (B : Nat) (D : va_G) (K : Nat → ClassId)   (M : Mem) (hM : MR M) (Q : Int → Mem → Prop) (hf : f_X12_image  M Q) : CtI l yX12_image cX12_image 2 1 23 B D K [.ref (B + 95)] M Q := by
  refine ct_i (by decide) (Nat.le_of_ble_eq_true rfl) ?_
  intro p e s m args below meth c hC
  have hC : Cx p s m args meth c D K cX12_image 2 RX12 (some .int) := hC
  unfold f_X12_image at hf
  refine (show G p l e (rmF 1 23) s m args below meth c B D K 2 0 0 (ZI below args s B D K Q) M 0 [(0, .ref (B + 95))] [] from ?_)
  refine g_aload_n hC 0 dX12_image_0 rfl rfl ?_
  refine g_getr hC okX12 sc95 47 (by decide) rfl wf_X12_111 dX12_image_1 ?_
  refine g_iconst hC dX12_image_4 ?_
  refine g_aload_n hC 0 dX12_image_5 rfl rfl ?_
  refine g_callVI hC (sk := [J 0, .ref (B + 126)]) [] (c_X12_places l B D K   M hM _ hf) yv_X12_places wm_X12_246 okX12.1 sc95 rfl ⟨Nat.le_of_ble_eq_true rfl, Nat.le_of_ble_eq_true rfl, Nat.le_of_ble_eq_true rfl, Nat.le_of_ble_eq_true rfl⟩ rfl (Nat.le_of_ble_eq_true rfl) dX12_image_6 ?_
  rintro r_1 M_2 h_r_1 - ⟨rfl, hf⟩
  refine g_iastk 0 hC sc126 (by decide) (by decide) rfl dX12_image_9 ?_
  refine g_nmM (fun M_3 e_M_3 => ?_)
  replace hf := hf M_3 e_M_3
  have h_M_3 : MR M_3 := by rw [e_M_3]; exact MR_st hM h_r_1
  refine g_aload_n hC 0 dX12_image_10 rfl rfl ?_
  refine g_getr hC okX12 sc95 47 (by decide) rfl wf_X12_111 dX12_image_11 ?_
  refine g_iconst hC dX12_image_14 ?_
  refine g_aload_n hC 0 dX12_image_15 rfl rfl ?_
  refine g_callVI hC (sk := [J 1, .ref (B + 126)]) [] (c_X12_reaches l B D K   M_3 h_M_3 _ hf) yv_X12_reaches wm_X12_249 okX12.1 sc95 rfl ⟨Nat.le_of_ble_eq_true rfl, Nat.le_of_ble_eq_true rfl, Nat.le_of_ble_eq_true rfl, Nat.le_of_ble_eq_true rfl⟩ rfl (Nat.le_of_ble_eq_true rfl) dX12_image_16 ?_
  rintro r_4 M_5 h_r_4 - ⟨rfl, hf⟩
  refine g_iastk 1 hC sc126 (by decide) (by decide) rfl dX12_image_19 ?_
  refine g_nmM (fun M_6 e_M_6 => ?_)
  replace hf := hf M_6 e_M_6
  have h_M_6 : MR M_6 := by rw [e_M_6]; exact MR_st h_M_3 h_r_4
  refine g_aload_n hC 0 dX12_image_20 rfl rfl ?_
  refine g_iconst hC dX12_image_21 ?_
  refine g_iconst hC dX12_image_22 ?_
  refine g_aload_n hC 0 dX12_image_23 rfl rfl ?_
  refine g_callVI hC (sk := [J 5, J 2, .ref (B + 95)]) [] (c_X12_reaches l B D K   M_6 h_M_6 _ hf) yv_X12_reaches wm_X12_249 okX12.1 sc95 rfl ⟨Nat.le_of_ble_eq_true rfl, Nat.le_of_ble_eq_true rfl, Nat.le_of_ble_eq_true rfl, Nat.le_of_ble_eq_true rfl⟩ rfl (Nat.le_of_ble_eq_true rfl) dX12_image_24 ?_
  rintro r_7 M_8 h_r_7 - ⟨rfl, hf⟩
  refine g_imul hC dX12_image_27 ?_
  refine g_iadd hC dX12_image_28 ?_
  obtain ⟨q_9, hf⟩ := hf
  refine g_puti hC okX12 tnX12 sc95 48 (by decide) rfl rfl (by decide) wf_X12_457 dX12_image_29 ?_
  refine g_nmM (fun M_10 e_M_10 => ?_)
  replace hf := hf M_10 e_M_10
  have h_M_10 : MR M_10 := by rw [e_M_10]; exact MR_st h_M_6 q_9
  refine g_iconst hC dX12_image_32 ?_
  refine g_istore_n hC [(1, J 0), (0, .ref (B + 95))] dX12_image_33 rfl (by decide) rfl ?_
  refine jn_elim (fun (k : Mem → Prop) => ∀ (M_11 : Mem), k M_11 → (MR M_11) → G p l e (rmF 1 23) s m args below meth c B D K 2 0 0 (ZI below args s B D K Q) M_11 71 [(0, .ref (B + 95))] []) hf ?_ ?_
  · intro M_11 hf h_M_11
    refine g_aload_n hC 0 dX12_image_71 rfl rfl ?_
    refine g_getr hC okX12 sc95 47 (by decide) rfl wf_X12_111 dX12_image_72 ?_
    refine g_aload_n hC 0 dX12_image_75 rfl rfl ?_
    refine g_geti hC okX12 sc95 48 (by decide) rfl wf_X12_457 dX12_image_76 ?_
    refine g_aload_n hC 0 dX12_image_79 rfl rfl ?_
    refine g_getr hC okX12 sc95 47 (by decide) rfl wf_X12_111 dX12_image_80 ?_
    refine g_aload_n hC 0 dX12_image_83 rfl rfl ?_
    refine g_geti hC okX12 sc95 48 (by decide) rfl wf_X12_457 dX12_image_84 ?_
    refine g_callSI hC (sk := [J (M_11 95 48), .ref (B + 126)]) [.ref (B + 126), J (M_11 95 48)] (c_X12_last l B D K 126 (M_11 95 48) (isIA_of sc126) (h_M_11 _ _) M_11 h_M_11 _ hf) yv_X12_last wm_X12_460 rfl ⟨Nat.le_of_ble_eq_true rfl, Nat.le_of_ble_eq_true rfl, Nat.le_of_ble_eq_true rfl, Nat.le_of_ble_eq_true rfl⟩ rfl (Nat.le_of_ble_eq_true rfl) dX12_image_87 ?_
    rintro r_12 M_13 h_r_12 - ⟨rfl, hf⟩
    obtain ⟨q_14, hf⟩ := hf
    refine g_iastk ((M_11 95 48).toNat) hC sc126 q_14.1 q_14.2 rfl dX12_image_90 ?_
    refine g_nmM (fun M_15 e_M_15 => ?_)
    replace hf := hf M_15 e_M_15
    have h_M_15 : MR M_15 := by rw [e_M_15]; exact MR_st h_M_11 h_r_12
    refine g_aload_n hC 0 dX12_image_91 rfl rfl ?_
    refine g_dup hC dX12_image_92 rfl ?_
    refine g_geti hC okX12 sc95 48 (by decide) rfl wf_X12_457 dX12_image_93 ?_
    refine g_iconst hC dX12_image_96 ?_
    refine g_iadd hC dX12_image_97 ?_
    obtain ⟨q_16, hf⟩ := hf
    refine g_puti hC okX12 tnX12 sc95 48 (by decide) rfl rfl (by decide) wf_X12_457 dX12_image_98 ?_
    refine g_nmM (fun M_17 e_M_17 => ?_)
    replace hf := hf M_17 e_M_17
    have h_M_17 : MR M_17 := by rw [e_M_17]; exact MR_st h_M_15 q_16
    refine g_aload_n hC 0 dX12_image_101 rfl rfl ?_
    refine g_geti hC okX12 sc95 48 (by decide) rfl wf_X12_457 dX12_image_102 ?_
    exact g_reti hC (h_M_17 _ _) h_M_17 hf dX12_image_105
  · intro J71 hJ71 hf
    refine g_sub [(0, .ref (B + 95)), (1, J 0)] [1, 0] rfl ?_
    refine wl2_elim (fun (v1_18 : Int) (M_19 : Mem) => inR v1_18 → MR M_19 → G p l e (rmF 1 23) s m args below meth c B D K 2 0 0 (ZI below args s B D K Q) M_19 34 [(0, .ref (B + 95)), (1, J v1_18)] []) ?_ 5000 0 M_10 hf (by unfold inR; omega) h_M_10
    intro rec34 ih34 v1_18 M_19 hf h_v1_18 h_M_19
    unfold X12_image_b34 at hf
    refine g_iload_n hC 1 dX12_image_34 rfl rfl ?_
    refine g_iconst hC dX12_image_35 ?_
    refine g_aload_n hC 0 dX12_image_36 rfl rfl ?_
    refine g_callVI hC (sk := [J 5, J v1_18]) [] (c_X12_reaches l B D K   M_19 h_M_19 _ hf) yv_X12_reaches wm_X12_249 okX12.1 sc95 rfl ⟨Nat.le_of_ble_eq_true rfl, Nat.le_of_ble_eq_true rfl, Nat.le_of_ble_eq_true rfl, Nat.le_of_ble_eq_true rfl⟩ rfl (Nat.le_of_ble_eq_true rfl) dX12_image_37 ?_
    rintro r_20 M_21 h_r_20 - ⟨rfl, hf⟩
    refine g_imul hC dX12_image_40 ?_
    obtain ⟨q_22, hf⟩ := hf
    refine g_icmp_ge hC 71 h_v1_18 q_22 dX12_image_41 rfl (fun c_28 => ?_) (fun c_28 => ?_)
    · replace hf := hf.1 c_28
      refine g_sub [(0, .ref (B + 95))] [0] rfl ?_
      exact hJ71 M_19 hf h_M_19
    · replace hf := hf.2 c_28
      refine g_aload_n hC 0 dX12_image_44 rfl rfl ?_
      refine g_getr hC okX12 sc95 47 (by decide) rfl wf_X12_111 dX12_image_45 ?_
      refine g_iconst hC dX12_image_48 ?_
      refine g_iload_n hC 1 dX12_image_49 rfl rfl ?_
      refine g_iadd hC dX12_image_50 ?_
      refine g_aload_n hC 0 dX12_image_51 rfl rfl ?_
      refine g_getr hC okX12 sc95 13 (by decide) rfl wf_X12_27 dX12_image_52 ?_
      refine g_bipush hC dX12_image_55 (by decide) ?_
      refine g_iload_n hC 1 dX12_image_57 rfl rfl ?_
      refine g_iadd hC dX12_image_58 ?_
      obtain ⟨q_23, hf⟩ := hf
      refine g_ialdk ((33 + v1_18).toNat) hC sc100 q_23.1 q_23.2 rfl dX12_image_59 ?_
      refine g_sipush hC dX12_image_60 (by decide) ?_
      refine g_iand hC dX12_image_63 ?_
      obtain ⟨q_24, hf⟩ := hf
      refine g_iastk ((2 + v1_18).toNat) hC sc126 q_24.1 q_24.2 rfl dX12_image_64 ?_
      refine g_nmM (fun M_25 e_M_25 => ?_)
      replace hf := hf M_25 e_M_25
      have h_M_25 : MR M_25 := by rw [e_M_25]; exact MR_st h_M_19 (bAnd_in _ _)
      obtain ⟨q_27, hf⟩ := hf
      obtain ⟨v1_26, e_v1_26⟩ : ∃ z : Int, z = v1_18 + 1 := ⟨_, rfl⟩
      replace hf := hf v1_26 e_v1_26
      have h_v1_26 : inR v1_26 := by rw [e_v1_26]; exact q_27
      refine g_iincv hC 1 e_v1_26 [(1, J v1_26), (0, .ref (B + 95))] dX12_image_65 rfl (by decide) rfl ?_
      refine g_goto hC 34 dX12_image_68 rfl ?_
      refine g_sub [(0, .ref (B + 95)), (1, J v1_26)] [1, 0] rfl ?_
      exact ih34 v1_26 M_25 hf h_v1_26 h_M_25
set_option maxHeartbeats 4000000 in
set_option maxRecDepth 100000 in
theorem c_X12_octet (l : Launch) (B : Nat) (D : va_G) (K : Nat → ClassId) (v1 : Int) (i_v1 : inR v1) (M : Mem) (hM : MR M) (Q : Int → Prop) (hf : f_X12_octet v1 M Q) : CtI l yX12_octet cX12_octet 2 1 25 B D K [.ref (B + 95), J v1] M (fun r M1 => M = M1 ∧ Q r) := by
  refine ct_i (by decide) (Nat.le_of_ble_eq_true rfl) ?_
  intro p e s m args below meth c hC
  have hC : Cx p s m args meth c D K cX12_octet 2 RX12 (some .int) := hC
  unfold f_X12_octet at hf
  refine (show G p l e (rmF 1 25) s m args below meth c B D K 2 0 0 (ZI below args s B D K (fun r M1 => M = M1 ∧ Q r)) M 0 [(0, .ref (B + 95)), (1, J v1)] [] from ?_)
  refine g_iload_n hC 1 dX12_octet_0 rfl rfl ?_
  refine g_i2l hC i_v1 dX12_octet_1 ?_
  refine g_lconst (n := 0) hC dX12_octet_2 (by decide) ?_
  refine g_aload_n hC 0 dX12_octet_3 rfl rfl ?_
  refine g_geti hC okX12 sc95 48 (by decide) rfl wf_X12_457 dX12_octet_4 ?_
  refine g_iconst hC dX12_octet_7 ?_
  refine g_isub hC dX12_octet_8 ?_
  obtain ⟨q_1, hf⟩ := hf
  refine g_i2l hC q_1 dX12_octet_9 ?_
  refine g_callSZ hC (sk := []) [JL v1, JL 0, JL ((M 95 48) - 1)] (c_X12_isIn l B D K v1 0 ((M 95 48) - 1) (inL_of i_v1) (by unfold inL; omega) (inL_of q_1) M hM _ hf) yv_X12_isIn wm_X12_127 rfl ⟨Nat.le_of_ble_eq_true rfl, Nat.le_of_ble_eq_true rfl, Nat.le_of_ble_eq_true rfl, Nat.le_of_ble_eq_true rfl⟩ rfl (Nat.le_of_ble_eq_true rfl) dX12_octet_10 ?_
  rintro r_2 M_3 h_r_2 - ⟨rfl, hf⟩
  refine g_if_eq hC 25 (zi_ h_r_2) dX12_octet_13 rfl (fun c_5 => ?_) (fun c_5 => ?_)
  · replace hf := hf.1 c_5
    refine g_iconst hC dX12_octet_25 ?_
    exact g_reti hC (by unfold inR; omega) hM ⟨rfl, hf⟩ dX12_octet_26
  · replace hf := hf.2 c_5
    refine g_aload_n hC 0 dX12_octet_16 rfl rfl ?_
    refine g_getr hC okX12 sc95 47 (by decide) rfl wf_X12_111 dX12_octet_17 ?_
    refine g_iload_n hC 1 dX12_octet_20 rfl rfl ?_
    obtain ⟨q_4, hf⟩ := hf
    refine g_ialdk (v1.toNat) hC sc126 q_4.1 q_4.2 rfl dX12_octet_21 ?_
    refine g_goto hC 26 dX12_octet_22 rfl ?_
    exact g_reti hC (hM _ _) hM ⟨rfl, hf⟩ dX12_octet_26
set_option maxHeartbeats 4000000 in
set_option maxRecDepth 100000 in
theorem c_X12_isReachAt (l : Launch) (B : Nat) (D : va_G) (K : Nat → ClassId) (v1 : Int) (i_v1 : inR v1) (M : Mem) (hM : MR M) (Q : Int → Prop) (hf : f_X12_isReachAt v1 M Q) : CtZ l yX12_isReachAt cX12_isReachAt 4 2 47 B D K [.ref (B + 95), J v1] M (fun r M1 => M = M1 ∧ Q r) := by
  refine ct_z (by decide) (Nat.le_of_ble_eq_true rfl) ?_
  intro p e s m args below meth c hC
  have hC : Cx p s m args meth c D K cX12_isReachAt 4 RX12 (some .boolean) := hC
  unfold f_X12_isReachAt at hf
  refine (show G p l e (rmF 2 47) s m args below meth c B D K 4 0 0 (ZZ below args s B D K (fun r M1 => M = M1 ∧ Q r)) M 0 [(0, .ref (B + 95)), (1, J v1)] [] from ?_)
  refine g_aload_n hC 0 dX12_isReachAt_0 rfl rfl ?_
  refine g_getr hC okX12 sc95 0 (by decide) rfl wf_X12_7 dX12_isReachAt_1 ?_
  refine g_iload_n hC 1 dX12_isReachAt_4 rfl rfl ?_
  obtain ⟨q_1, hf⟩ := hf
  refine g_ialdk (v1.toNat) hC sc96 q_1.1 q_1.2 rfl dX12_isReachAt_5 ?_
  refine g_nm (fun v2_2 e_v2_2 => ?_)
  replace hf := hf v2_2 e_v2_2
  have h_v2_2 : inR v2_2 := by rw [e_v2_2]; exact (hM _ _)
  refine g_istore_n hC [(2, J v2_2), (0, .ref (B + 95)), (1, J v1)] dX12_isReachAt_6 rfl (by decide) rfl ?_
  refine g_aload_n hC 1 dX12_isReachAt_7 rfl rfl ?_
  refine g_getr hC okX12 sc95 0 (by decide) rfl wf_X12_7 dX12_isReachAt_8 ?_
  refine g_iload_n hC 2 dX12_isReachAt_11 rfl rfl ?_
  refine g_iconst hC dX12_isReachAt_12 ?_
  refine g_iadd hC dX12_isReachAt_13 ?_
  obtain ⟨q_3, hf⟩ := hf
  refine g_ialdk ((v1 + 1).toNat) hC sc96 q_3.1 q_3.2 rfl dX12_isReachAt_14 ?_
  refine g_nm (fun v3_4 e_v3_4 => ?_)
  replace hf := hf v3_4 e_v3_4
  have h_v3_4 : inR v3_4 := by rw [e_v3_4]; exact (hM _ _)
  refine g_istore_n hC [(3, J v3_4), (2, J v2_2), (0, .ref (B + 95)), (1, J v1)] dX12_isReachAt_15 rfl (by decide) rfl ?_
  refine g_iload_n hC 1 dX12_isReachAt_16 rfl rfl ?_
  refine g_aload_n hC 2 dX12_isReachAt_17 rfl rfl ?_
  refine g_getr hC okX12 sc95 0 (by decide) rfl wf_X12_7 dX12_isReachAt_18 ?_
  refine g_iconst hC dX12_isReachAt_21 ?_
  refine g_ialdk 0 hC sc96 (by decide) (by decide) rfl dX12_isReachAt_22 ?_
  refine g_icmp_ge hC 49 h_v2_2 (hM _ _) dX12_isReachAt_23 rfl (fun c_20 => ?_) (fun c_20 => ?_)
  · replace hf := hf.1 c_20
    refine g_iconst hC dX12_isReachAt_49 ?_
    exact g_retz hC (Or.inl rfl) hM ⟨rfl, hf⟩ dX12_isReachAt_50
  · replace hf := hf.2 c_20
    refine g_iload_n hC 0 dX12_isReachAt_26 rfl rfl ?_
    refine g_aload_n hC 2 dX12_isReachAt_27 rfl rfl ?_
    refine g_getr hC okX12 sc95 0 (by decide) rfl wf_X12_7 dX12_isReachAt_28 ?_
    refine g_iconst hC dX12_isReachAt_31 ?_
    refine g_ialdk 0 hC sc96 (by decide) (by decide) rfl dX12_isReachAt_32 ?_
    refine g_icmp_ge hC 49 h_v3_4 (hM _ _) dX12_isReachAt_33 rfl (fun c_19 => ?_) (fun c_19 => ?_)
    · replace hf := hf.1 c_19
      refine g_iconst hC dX12_isReachAt_49 ?_
      exact g_retz hC (Or.inl rfl) hM ⟨rfl, hf⟩ dX12_isReachAt_50
    · replace hf := hf.2 c_19
      refine g_aload_n hC 2 dX12_isReachAt_36 rfl rfl ?_
      refine g_getr hC okX12 sc95 12 (by decide) rfl wf_X12_24 dX12_isReachAt_37 ?_
      refine g_iload_n hC 0 dX12_isReachAt_40 rfl rfl ?_
      refine g_iload_n hC 1 dX12_isReachAt_41 rfl rfl ?_
      refine g_iconst hC dX12_isReachAt_42 ?_
      refine g_callSZ hC (sk := []) [.ref (B + 99), J v3_4, J v2_2, J (-1)] (c_X12_comes l B D K 99 v3_4 v2_2 (-1) (isIA_of sc99) h_v3_4 h_v2_2 (by unfold inR; omega) M hM _ hf) yv_X12_comes wm_X12_204 rfl ⟨Nat.le_of_ble_eq_true rfl, Nat.le_of_ble_eq_true rfl, Nat.le_of_ble_eq_true rfl, Nat.le_of_ble_eq_true rfl⟩ rfl (Nat.le_of_ble_eq_true rfl) dX12_isReachAt_43 ?_
      rintro r_5 M_6 h_r_5 - ⟨rfl, hf⟩
      refine g_if_eq hC 51 (zi_ h_r_5) dX12_isReachAt_46 rfl (fun c_18 => ?_) (fun c_18 => ?_)
      · replace hf := hf.1 c_18
        refine g_aload_n hC 2 dX12_isReachAt_51 rfl rfl ?_
        refine g_getr hC okX12 sc95 0 (by decide) rfl wf_X12_7 dX12_isReachAt_52 ?_
        refine g_iload_n hC 3 dX12_isReachAt_55 rfl rfl ?_
        refine g_iconst hC dX12_isReachAt_56 ?_
        refine g_iadd hC dX12_isReachAt_57 ?_
        obtain ⟨q_7, hf⟩ := hf
        refine g_ialdk ((v1 + 2).toNat) hC sc96 q_7.1 q_7.2 rfl dX12_isReachAt_58 ?_
        refine g_i2l hC (hM _ _) dX12_isReachAt_59 ?_
        refine g_lconst (n := 1) hC dX12_isReachAt_60 (by decide) ?_
        refine g_ldc2 (n := 99) hC wc_X12_430 (by decide) dX12_isReachAt_61 ?_
        refine g_callSZ hC (sk := []) [JL (M 96 ((v1 + 2).toNat)), JL 1, JL 99] (c_X12_isIn l B D K (M 96 ((v1 + 2).toNat)) 1 99 (inL_of (hM _ _)) (by unfold inL; omega) (by unfold inL; omega) M hM _ hf) yv_X12_isIn wm_X12_127 rfl ⟨Nat.le_of_ble_eq_true rfl, Nat.le_of_ble_eq_true rfl, Nat.le_of_ble_eq_true rfl, Nat.le_of_ble_eq_true rfl⟩ rfl (Nat.le_of_ble_eq_true rfl) dX12_isReachAt_64 ?_
        rintro r_8 M_9 h_r_8 - ⟨rfl, hf⟩
        refine g_if_eq hC 116 (zi_ h_r_8) dX12_isReachAt_67 rfl (fun c_17 => ?_) (fun c_17 => ?_)
        · replace hf := hf.1 c_17
          refine g_iconst hC dX12_isReachAt_116 ?_
          exact g_retz hC (Or.inl rfl) hM ⟨rfl, hf⟩ dX12_isReachAt_117
        · replace hf := hf.2 c_17
          refine g_aload_n hC 2 dX12_isReachAt_70 rfl rfl ?_
          refine g_getr hC okX12 sc95 0 (by decide) rfl wf_X12_7 dX12_isReachAt_71 ?_
          refine g_iload_n hC 3 dX12_isReachAt_74 rfl rfl ?_
          refine g_iconst hC dX12_isReachAt_75 ?_
          refine g_iadd hC dX12_isReachAt_76 ?_
          obtain ⟨q_10, hf⟩ := hf
          refine g_ialdk ((v1 + 3).toNat) hC sc96 q_10.1 q_10.2 rfl dX12_isReachAt_77 ?_
          refine g_bipush hC dX12_isReachAt_78 (by decide) ?_
          refine g_icmp_gt hC 116 (hM _ _) (by unfold inR; omega) dX12_isReachAt_80 rfl (fun c_16 => ?_) (fun c_16 => ?_)
          · replace hf := hf.1 c_16
            refine g_iconst hC dX12_isReachAt_116 ?_
            exact g_retz hC (Or.inl rfl) hM ⟨rfl, hf⟩ dX12_isReachAt_117
          · replace hf := hf.2 c_16
            refine g_aload_n hC 2 dX12_isReachAt_83 rfl rfl ?_
            refine g_getr hC okX12 sc95 0 (by decide) rfl wf_X12_7 dX12_isReachAt_84 ?_
            refine g_iload_n hC 3 dX12_isReachAt_87 rfl rfl ?_
            refine g_iconst hC dX12_isReachAt_88 ?_
            refine g_iadd hC dX12_isReachAt_89 ?_
            obtain ⟨q_11, hf⟩ := hf
            refine g_ialdk ((v1 + 4).toNat) hC sc96 q_11.1 q_11.2 rfl dX12_isReachAt_90 ?_
            refine g_sipush hC dX12_isReachAt_91 (by decide) ?_
            refine g_icmp_eq hC 112 (hM _ _) (by unfold inR; omega) dX12_isReachAt_94 rfl (fun c_15 => ?_) (fun c_15 => ?_)
            · replace hf := hf.1 c_15
              refine g_iconst hC dX12_isReachAt_112 ?_
              refine g_goto hC 117 dX12_isReachAt_113 rfl ?_
              exact g_retz hC (Or.inr rfl) hM ⟨rfl, hf⟩ dX12_isReachAt_117
            · replace hf := hf.2 c_15
              refine g_aload_n hC 2 dX12_isReachAt_97 rfl rfl ?_
              refine g_aload_n hC 2 dX12_isReachAt_98 rfl rfl ?_
              refine g_getr hC okX12 sc95 0 (by decide) rfl wf_X12_7 dX12_isReachAt_99 ?_
              refine g_iload_n hC 3 dX12_isReachAt_102 rfl rfl ?_
              refine g_iconst hC dX12_isReachAt_103 ?_
              refine g_iadd hC dX12_isReachAt_104 ?_
              refine g_ialdk ((v1 + 4).toNat) hC sc96 q_11.1 q_11.2 rfl dX12_isReachAt_105 ?_
              refine g_callVZ hC (sk := []) [J (M 96 ((v1 + 4).toNat))] (c_X12_isRiver l B D K (M 96 ((v1 + 4).toNat)) (hM _ _) M hM _ hf) yv_X12_isRiver wm_X12_341 okX12.1 sc95 rfl ⟨Nat.le_of_ble_eq_true rfl, Nat.le_of_ble_eq_true rfl, Nat.le_of_ble_eq_true rfl, Nat.le_of_ble_eq_true rfl⟩ rfl (Nat.le_of_ble_eq_true rfl) dX12_isReachAt_106 ?_
              rintro r_12 M_13 h_r_12 - ⟨rfl, hf⟩
              refine g_if_eq hC 116 (zi_ h_r_12) dX12_isReachAt_109 rfl (fun c_14 => ?_) (fun c_14 => ?_)
              · replace hf := hf.1 c_14
                refine g_iconst hC dX12_isReachAt_116 ?_
                exact g_retz hC (Or.inl rfl) hM ⟨rfl, hf⟩ dX12_isReachAt_117
              · replace hf := hf.2 c_14
                refine g_iconst hC dX12_isReachAt_112 ?_
                refine g_goto hC 117 dX12_isReachAt_113 rfl ?_
                exact g_retz hC (Or.inr rfl) hM ⟨rfl, hf⟩ dX12_isReachAt_117
      · replace hf := hf.2 c_18
        refine g_iconst hC dX12_isReachAt_49 ?_
        exact g_retz hC (Or.inl rfl) hM ⟨rfl, hf⟩ dX12_isReachAt_50
set_option maxHeartbeats 4000000 in
set_option maxRecDepth 100000 in
theorem c_X12_isImage (l : Launch) (B : Nat) (D : va_G) (K : Nat → ClassId) (v1 : Int) (i_v1 : inR v1) (M : Mem) (hM : MR M) (Q : Int → Mem → Prop) (hf : f_X12_isImage v1 M Q) : CtZ l yX12_isImage cX12_isImage 3 3 70 B D K [.ref (B + 95), J v1] M Q := by
  refine ct_z (by decide) (Nat.le_of_ble_eq_true rfl) ?_
  intro p e s m args below meth c hC
  have hC : Cx p s m args meth c D K cX12_isImage 3 RX12 (some .boolean) := hC
  unfold f_X12_isImage at hf
  refine (show G p l e (rmF 3 70) s m args below meth c B D K 3 0 0 (ZZ below args s B D K Q) M 0 [(0, .ref (B + 95)), (1, J v1)] [] from ?_)
  refine g_iload_n hC 1 dX12_isImage_0 rfl rfl ?_
  refine g_iconst hC dX12_isImage_1 ?_
  refine g_icmp_lt hC 68 i_v1 (by unfold inR; omega) dX12_isImage_2 rfl (fun c_51 => ?_) (fun c_51 => ?_)
  · replace hf := hf.1 c_51
    refine g_iconst hC dX12_isImage_68 ?_
    exact g_retz hC (Or.inl rfl) hM hf dX12_isImage_69
  · replace hf := hf.2 c_51
    refine g_aload_n hC 0 dX12_isImage_5 rfl rfl ?_
    refine g_getr hC okX12 sc95 0 (by decide) rfl wf_X12_7 dX12_isImage_6 ?_
    refine g_iconst hC dX12_isImage_9 ?_
    refine g_ialdk 0 hC sc96 (by decide) (by decide) rfl dX12_isImage_10 ?_
    refine g_i2l hC (hM _ _) dX12_isImage_11 ?_
    refine g_lconst (n := 1) hC dX12_isImage_12 (by decide) ?_
    refine g_ldc2 (n := 20) hC wc_X12_464 (by decide) dX12_isImage_13 ?_
    refine g_callSZ hC (sk := []) [JL (M 96 0), JL 1, JL 20] (c_X12_isIn l B D K (M 96 0) 1 20 (inL_of (hM _ _)) (by unfold inL; omega) (by unfold inL; omega) M hM _ hf) yv_X12_isIn wm_X12_127 rfl ⟨Nat.le_of_ble_eq_true rfl, Nat.le_of_ble_eq_true rfl, Nat.le_of_ble_eq_true rfl, Nat.le_of_ble_eq_true rfl⟩ rfl (Nat.le_of_ble_eq_true rfl) dX12_isImage_16 ?_
    rintro r_1 M_2 h_r_1 - ⟨rfl, hf⟩
    refine g_if_eq hC 68 (zi_ h_r_1) dX12_isImage_19 rfl (fun c_50 => ?_) (fun c_50 => ?_)
    · replace hf := hf.1 c_50
      refine g_iconst hC dX12_isImage_68 ?_
      exact g_retz hC (Or.inl rfl) hM hf dX12_isImage_69
    · replace hf := hf.2 c_50
      refine g_aload_n hC 0 dX12_isImage_22 rfl rfl ?_
      refine g_getr hC okX12 sc95 0 (by decide) rfl wf_X12_7 dX12_isImage_23 ?_
      refine g_iconst hC dX12_isImage_26 ?_
      refine g_ialdk 1 hC sc96 (by decide) (by decide) rfl dX12_isImage_27 ?_
      refine g_bipush hC dX12_isImage_28 (by decide) ?_
      refine g_icmp_gt hC 68 (hM _ _) (by unfold inR; omega) dX12_isImage_30 rfl (fun c_49 => ?_) (fun c_49 => ?_)
      · replace hf := hf.1 c_49
        refine g_iconst hC dX12_isImage_68 ?_
        exact g_retz hC (Or.inl rfl) hM hf dX12_isImage_69
      · replace hf := hf.2 c_49
        refine g_iload_n hC 1 dX12_isImage_33 rfl rfl ?_
        refine g_iconst hC dX12_isImage_34 ?_
        refine g_iconst hC dX12_isImage_35 ?_
        refine g_aload_n hC 0 dX12_isImage_36 rfl rfl ?_
        refine g_getr hC okX12 sc95 0 (by decide) rfl wf_X12_7 dX12_isImage_37 ?_
        refine g_iconst hC dX12_isImage_40 ?_
        refine g_ialdk 1 hC sc96 (by decide) (by decide) rfl dX12_isImage_41 ?_
        refine g_imul hC dX12_isImage_42 ?_
        refine g_iadd hC dX12_isImage_43 ?_
        obtain ⟨q_3, hf⟩ := hf
        refine g_icmp_ne hC 68 i_v1 q_3 dX12_isImage_44 rfl (fun c_48 => ?_) (fun c_48 => ?_)
        · replace hf := hf.1 c_48
          refine g_iconst hC dX12_isImage_68 ?_
          exact g_retz hC (Or.inl rfl) hM hf dX12_isImage_69
        · replace hf := hf.2 c_48
          refine g_aload_n hC 0 dX12_isImage_47 rfl rfl ?_
          refine g_getr hC okX12 sc95 0 (by decide) rfl wf_X12_7 dX12_isImage_48 ?_
          refine g_iload_n hC 1 dX12_isImage_51 rfl rfl ?_
          refine g_iconst hC dX12_isImage_52 ?_
          refine g_isub hC dX12_isImage_53 ?_
          obtain ⟨q_4, hf⟩ := hf
          refine g_ialdk ((v1 - 1).toNat) hC sc96 q_4.1 q_4.2 rfl dX12_isImage_54 ?_
          refine g_aload_n hC 0 dX12_isImage_55 rfl rfl ?_
          refine g_getr hC okX12 sc95 0 (by decide) rfl wf_X12_7 dX12_isImage_56 ?_
          refine g_iload_n hC 1 dX12_isImage_59 rfl rfl ?_
          refine g_iconst hC dX12_isImage_60 ?_
          refine g_isub hC dX12_isImage_61 ?_
          obtain ⟨q_5, hf⟩ := hf
          refine g_callSI hC (sk := [J (M 96 ((v1 - 1).toNat))]) [.ref (B + 96), J (v1 - 1)] (c_X12_last l B D K 96 (v1 - 1) (isIA_of sc96) q_5 M hM _ hf) yv_X12_last wm_X12_460 rfl ⟨Nat.le_of_ble_eq_true rfl, Nat.le_of_ble_eq_true rfl, Nat.le_of_ble_eq_true rfl, Nat.le_of_ble_eq_true rfl⟩ rfl (Nat.le_of_ble_eq_true rfl) dX12_isImage_62 ?_
          rintro r_6 M_7 h_r_6 - ⟨rfl, hf⟩
          refine g_icmp_eq hC 70 (hM _ _) h_r_6 dX12_isImage_65 rfl (fun c_47 => ?_) (fun c_47 => ?_)
          · replace hf := hf.1 c_47
            refine g_iconst hC dX12_isImage_70 ?_
            refine g_istore_n hC [(2, J 0), (0, .ref (B + 95)), (1, J v1)] dX12_isImage_71 rfl (by decide) rfl ?_
            refine jn_elim (fun (k : Mem → Prop) => ∀ (M_8 : Mem), k M_8 → (MR M_8) → G p l e (rmF 3 70) s m args below meth c B D K 3 0 0 (ZZ below args s B D K Q) M_8 118 [(0, .ref (B + 95)), (1, J v1)] []) hf ?_ ?_
            · intro M_8 hf h_M_8
              refine g_aload_n hC 0 dX12_isImage_118 rfl rfl ?_
              refine g_getr hC okX12 sc95 12 (by decide) rfl wf_X12_24 dX12_isImage_119 ?_
              refine g_iconst hC dX12_isImage_122 ?_
              refine g_aload_n hC 0 dX12_isImage_123 rfl rfl ?_
              refine g_getr hC okX12 sc95 0 (by decide) rfl wf_X12_7 dX12_isImage_124 ?_
              refine g_iconst hC dX12_isImage_127 ?_
              refine g_ialdk 0 hC sc96 (by decide) (by decide) rfl dX12_isImage_128 ?_
              refine g_iastk 0 hC sc99 (by decide) (by decide) rfl dX12_isImage_129 ?_
              refine g_nmM (fun M_9 e_M_9 => ?_)
              replace hf := hf M_9 e_M_9
              have h_M_9 : MR M_9 := by rw [e_M_9]; exact MR_st h_M_8 (h_M_8 _ _)
              refine g_iconst hC dX12_isImage_130 ?_
              refine g_istore_n hC [(2, J 2), (0, .ref (B + 95)), (1, J v1)] dX12_isImage_131 rfl (by decide) rfl ?_
              refine g_sub [(0, .ref (B + 95)), (1, J v1), (2, J 2)] [1, 2, 0] rfl ?_
              refine wl2_elim (fun (v2_10 : Int) (M_11 : Mem) => inR v2_10 → MR M_11 → G p l e (rmF 3 70) s m args below meth c B D K 3 0 0 (ZZ below args s B D K Q) M_11 132 [(0, .ref (B + 95)), (1, J v1), (2, J v2_10)] []) ?_ 5000 2 M_9 hf (by unfold inR; omega) h_M_9
              intro rec132 ih132 v2_10 M_11 hf h_v2_10 h_M_11
              unfold X12_isImage_b132 at hf
              refine g_iload_n hC 2 dX12_isImage_132 rfl rfl ?_
              refine g_iload_n hC 1 dX12_isImage_133 rfl rfl ?_
              refine g_iconst hC dX12_isImage_134 ?_
              refine g_isub hC dX12_isImage_135 ?_
              refine g_icmp_ge hC 218 h_v2_10 q_5 dX12_isImage_136 rfl (fun c_25 => ?_) (fun c_25 => ?_)
              · replace hf := hf.1 c_25
                refine g_iconst hC dX12_isImage_218 ?_
                exact g_retz hC (Or.inr rfl) h_M_11 hf dX12_isImage_219
              · replace hf := hf.2 c_25
                refine g_aload_n hC 0 dX12_isImage_139 rfl rfl ?_
                refine g_iload_n hC 2 dX12_isImage_140 rfl rfl ?_
                refine g_callVZ hC (sk := []) [J v2_10] (c_X12_isReachAt l B D K v2_10 h_v2_10 M_11 h_M_11 _ hf) yv_X12_isReachAt wm_X12_466 okX12.1 sc95 rfl ⟨Nat.le_of_ble_eq_true rfl, Nat.le_of_ble_eq_true rfl, Nat.le_of_ble_eq_true rfl, Nat.le_of_ble_eq_true rfl⟩ rfl (Nat.le_of_ble_eq_true rfl) dX12_isImage_141 ?_
                rintro r_12 M_13 h_r_12 - ⟨rfl, hf⟩
                refine g_if_ne hC 149 (zi_ h_r_12) dX12_isImage_144 rfl (fun c_24 => ?_) (fun c_24 => ?_)
                · replace hf := hf.1 c_24
                  refine g_aload_n hC 0 dX12_isImage_149 rfl rfl ?_
                  refine g_getr hC okX12 sc95 12 (by decide) rfl wf_X12_24 dX12_isImage_150 ?_
                  refine g_aload_n hC 0 dX12_isImage_153 rfl rfl ?_
                  refine g_getr hC okX12 sc95 0 (by decide) rfl wf_X12_7 dX12_isImage_154 ?_
                  refine g_iload_n hC 2 dX12_isImage_157 rfl rfl ?_
                  obtain ⟨q_14, hf⟩ := hf
                  refine g_ialdk (v2_10.toNat) hC sc96 q_14.1 q_14.2 rfl dX12_isImage_158 ?_
                  refine g_aload_n hC 0 dX12_isImage_159 rfl rfl ?_
                  refine g_getr hC okX12 sc95 0 (by decide) rfl wf_X12_7 dX12_isImage_160 ?_
                  refine g_iload_n hC 2 dX12_isImage_163 rfl rfl ?_
                  refine g_iconst hC dX12_isImage_164 ?_
                  refine g_iadd hC dX12_isImage_165 ?_
                  obtain ⟨q_15, hf⟩ := hf
                  refine g_ialdk ((v2_10 + 1).toNat) hC sc96 q_15.1 q_15.2 rfl dX12_isImage_166 ?_
                  refine g_aload_n hC 0 dX12_isImage_167 rfl rfl ?_
                  refine g_getr hC okX12 sc95 0 (by decide) rfl wf_X12_7 dX12_isImage_168 ?_
                  refine g_iload_n hC 2 dX12_isImage_171 rfl rfl ?_
                  refine g_iconst hC dX12_isImage_172 ?_
                  refine g_iadd hC dX12_isImage_173 ?_
                  obtain ⟨q_16, hf⟩ := hf
                  refine g_ialdk ((v2_10 + 2).toNat) hC sc96 q_16.1 q_16.2 rfl dX12_isImage_174 ?_
                  refine g_aload_n hC 0 dX12_isImage_175 rfl rfl ?_
                  refine g_getr hC okX12 sc95 0 (by decide) rfl wf_X12_7 dX12_isImage_176 ?_
                  refine g_iload_n hC 2 dX12_isImage_179 rfl rfl ?_
                  refine g_iconst hC dX12_isImage_180 ?_
                  refine g_iadd hC dX12_isImage_181 ?_
                  obtain ⟨q_17, hf⟩ := hf
                  refine g_ialdk ((v2_10 + 3).toNat) hC sc96 q_17.1 q_17.2 rfl dX12_isImage_182 ?_
                  refine g_aload_n hC 0 dX12_isImage_183 rfl rfl ?_
                  refine g_getr hC okX12 sc95 0 (by decide) rfl wf_X12_7 dX12_isImage_184 ?_
                  refine g_iload_n hC 2 dX12_isImage_187 rfl rfl ?_
                  refine g_iconst hC dX12_isImage_188 ?_
                  refine g_iadd hC dX12_isImage_189 ?_
                  obtain ⟨q_18, hf⟩ := hf
                  refine g_ialdk ((v2_10 + 4).toNat) hC sc96 q_18.1 q_18.2 rfl dX12_isImage_190 ?_
                  refine g_sipush hC dX12_isImage_191 (by decide) ?_
                  refine jn_elim (fun (k : Int → Prop) => ∀ (s5_19 : Int), k s5_19 → (inR s5_19) → G p l e (rmF 3 70) s m args below meth c B D K 3 0 0 (ZZ below args s B D K Q) M_11 209 [(0, .ref (B + 95)), (1, J v1), (2, J v2_10)] [J s5_19, J (M_11 96 ((v2_10 + 3).toNat)), J (M_11 96 ((v2_10 + 2).toNat)), J (M_11 96 ((v2_10 + 1).toNat)), J (M_11 96 (v2_10.toNat)), .ref (B + 99)]) hf ?_ ?_
                  · intro s5_19 hf h_s5_19
                    refine g_callSV hC (sk := []) [.ref (B + 99), J (M_11 96 (v2_10.toNat)), J (M_11 96 ((v2_10 + 1).toNat)), J (M_11 96 ((v2_10 + 2).toNat)), J (M_11 96 ((v2_10 + 3).toNat)), J s5_19] (c_X12_laysReach l B D K 99 (M_11 96 (v2_10.toNat)) (M_11 96 ((v2_10 + 1).toNat)) (M_11 96 ((v2_10 + 2).toNat)) (M_11 96 ((v2_10 + 3).toNat)) s5_19 (isIA_of sc99) (h_M_11 _ _) (h_M_11 _ _) (h_M_11 _ _) (h_M_11 _ _) h_s5_19 M_11 h_M_11 _ hf) yv_X12_laysReach wm_X12_214 rfl ⟨Nat.le_of_ble_eq_true rfl, Nat.le_of_ble_eq_true rfl, Nat.le_of_ble_eq_true rfl, Nat.le_of_ble_eq_true rfl⟩ rfl (Nat.le_of_ble_eq_true rfl) dX12_isImage_209 ?_
                    intro M_20 h_M_20 hf
                    obtain ⟨q_22, hf⟩ := hf
                    obtain ⟨v2_21, e_v2_21⟩ : ∃ z : Int, z = v2_10 + 5 := ⟨_, rfl⟩
                    replace hf := hf v2_21 e_v2_21
                    have h_v2_21 : inR v2_21 := by rw [e_v2_21]; exact q_22
                    refine g_iincv hC 2 e_v2_21 [(2, J v2_21), (0, .ref (B + 95)), (1, J v1)] dX12_isImage_212 rfl (by decide) rfl ?_
                    refine g_goto hC 132 dX12_isImage_215 rfl ?_
                    refine g_sub [(0, .ref (B + 95)), (1, J v1), (2, J v2_21)] [1, 2, 0] rfl ?_
                    exact ih132 v2_21 M_20 hf h_v2_21 h_M_20
                  · intro J209 hJ209 hf
                    refine g_icmp_ne hC 201 (h_M_11 _ _) (by unfold inR; omega) dX12_isImage_194 rfl (fun c_23 => ?_) (fun c_23 => ?_)
                    · replace hf := hf.1 c_23
                      refine g_aload_n hC 0 dX12_isImage_201 rfl rfl ?_
                      refine g_getr hC okX12 sc95 0 (by decide) rfl wf_X12_7 dX12_isImage_202 ?_
                      refine g_iload_n hC 2 dX12_isImage_205 rfl rfl ?_
                      refine g_iconst hC dX12_isImage_206 ?_
                      refine g_iadd hC dX12_isImage_207 ?_
                      refine g_ialdk ((v2_10 + 4).toNat) hC sc96 q_18.1 q_18.2 rfl dX12_isImage_208 ?_
                      refine g_sub [(0, .ref (B + 95)), (1, J v1), (2, J v2_10)] [0, 1, 2] rfl ?_
                      exact hJ209 (M_11 96 ((v2_10 + 4).toNat)) hf (h_M_11 _ _)
                    · replace hf := hf.2 c_23
                      refine g_iconst hC dX12_isImage_197 ?_
                      refine g_goto hC 209 dX12_isImage_198 rfl ?_
                      refine g_sub [(0, .ref (B + 95)), (1, J v1), (2, J v2_10)] [0, 1, 2] rfl ?_
                      exact hJ209 (-1) hf (by unfold inR; omega)
                · replace hf := hf.2 c_24
                  refine g_iconst hC dX12_isImage_147 ?_
                  exact g_retz hC (Or.inl rfl) h_M_11 hf dX12_isImage_148
            · intro J118 hJ118 hf
              refine g_sub [(0, .ref (B + 95)), (1, J v1), (2, J 0)] [1, 2, 0] rfl ?_
              refine wl2_elim (fun (v2_26 : Int) (M_27 : Mem) => inR v2_26 → MR M_27 → G p l e (rmF 3 70) s m args below meth c B D K 3 0 0 (ZZ below args s B D K Q) M_27 72 [(0, .ref (B + 95)), (1, J v1), (2, J v2_26)] []) ?_ 5000 0 M hf (by unfold inR; omega) hM
              intro rec72 ih72 v2_26 M_27 hf h_v2_26 h_M_27
              unfold X12_isImage_b72 at hf
              refine g_iload_n hC 2 dX12_isImage_72 rfl rfl ?_
              refine g_sipush hC dX12_isImage_73 (by decide) ?_
              refine g_icmp_ge hC 118 h_v2_26 (by unfold inR; omega) dX12_isImage_76 rfl (fun c_46 => ?_) (fun c_46 => ?_)
              · replace hf := hf.1 c_46
                refine g_sub [(0, .ref (B + 95)), (1, J v1)] [0, 1] rfl ?_
                exact hJ118 M_27 hf h_M_27
              · replace hf := hf.2 c_46
                refine g_aload_n hC 0 dX12_isImage_79 rfl rfl ?_
                refine g_getr hC okX12 sc95 12 (by decide) rfl wf_X12_24 dX12_isImage_80 ?_
                refine g_iload_n hC 2 dX12_isImage_83 rfl rfl ?_
                refine g_iload_n hC 2 dX12_isImage_84 rfl rfl ?_
                refine g_bipush hC dX12_isImage_85 (by decide) ?_
                refine jn_elim (fun (k : Int → Mem → Prop) => ∀ (v2_28 : Int) (M_29 : Mem), k v2_28 M_29 → (inR v2_28) → (MR M_29) → G p l e (rmF 3 70) s m args below meth c B D K 3 0 0 (ZZ below args s B D K Q) M_29 96 [(0, .ref (B + 95)), (1, J v1), (2, J v2_28)] [J v2_26, .ref (B + 99)]) hf ?_ ?_
                · intro v2_28 M_29 hf h_v2_28 h_M_29
                  refine g_iload_n hC 2 dX12_isImage_96 rfl rfl ?_
                  refine g_iconst hC dX12_isImage_97 ?_
                  refine g_icmp_ne hC 110 h_v2_28 (by unfold inR; omega) dX12_isImage_98 rfl (fun c_39 => ?_) (fun c_39 => ?_)
                  · replace hf := hf.1 c_39
                    refine g_iconst hC dX12_isImage_110 ?_
                    obtain ⟨q_30, hf⟩ := hf
                    refine g_iastk (v2_26.toNat) hC sc99 q_30.1 q_30.2 rfl dX12_isImage_111 ?_
                    refine g_nmM (fun M_31 e_M_31 => ?_)
                    replace hf := hf M_31 e_M_31
                    have h_M_31 : MR M_31 := by rw [e_M_31]; exact MR_st h_M_29 (by unfold inR; omega)
                    obtain ⟨q_33, hf⟩ := hf
                    obtain ⟨v2_32, e_v2_32⟩ : ∃ z : Int, z = v2_28 + 1 := ⟨_, rfl⟩
                    replace hf := hf v2_32 e_v2_32
                    have h_v2_32 : inR v2_32 := by rw [e_v2_32]; exact q_33
                    refine g_iincv hC 2 e_v2_32 [(2, J v2_32), (0, .ref (B + 95)), (1, J v1)] dX12_isImage_112 rfl (by decide) rfl ?_
                    refine g_goto hC 72 dX12_isImage_115 rfl ?_
                    refine g_sub [(0, .ref (B + 95)), (1, J v1), (2, J v2_32)] [1, 2, 0] rfl ?_
                    exact ih72 v2_32 M_31 hf h_v2_32 h_M_31
                  · replace hf := hf.2 c_39
                    refine g_aload_n hC 0 dX12_isImage_101 rfl rfl ?_
                    refine g_getr hC okX12 sc95 13 (by decide) rfl wf_X12_27 dX12_isImage_102 ?_
                    refine g_iload_n hC 2 dX12_isImage_105 rfl rfl ?_
                    obtain ⟨q_34, hf⟩ := hf
                    refine g_ialdk (v2_28.toNat) hC sc100 q_34.1 q_34.2 rfl dX12_isImage_106 ?_
                    refine g_goto hC 111 dX12_isImage_107 rfl ?_
                    obtain ⟨q_35, hf⟩ := hf
                    refine g_iastk (v2_26.toNat) hC sc99 q_35.1 q_35.2 rfl dX12_isImage_111 ?_
                    refine g_nmM (fun M_36 e_M_36 => ?_)
                    replace hf := hf M_36 e_M_36
                    have h_M_36 : MR M_36 := by rw [e_M_36]; exact MR_st h_M_29 (h_M_29 _ _)
                    obtain ⟨q_38, hf⟩ := hf
                    obtain ⟨v2_37, e_v2_37⟩ : ∃ z : Int, z = v2_28 + 1 := ⟨_, rfl⟩
                    replace hf := hf v2_37 e_v2_37
                    have h_v2_37 : inR v2_37 := by rw [e_v2_37]; exact q_38
                    refine g_iincv hC 2 e_v2_37 [(2, J v2_37), (0, .ref (B + 95)), (1, J v1)] dX12_isImage_112 rfl (by decide) rfl ?_
                    refine g_goto hC 72 dX12_isImage_115 rfl ?_
                    refine g_sub [(0, .ref (B + 95)), (1, J v1), (2, J v2_37)] [1, 2, 0] rfl ?_
                    exact ih72 v2_37 M_36 hf h_v2_37 h_M_36
                · intro J96 hJ96 hf
                  refine g_icmp_lt hC 96 h_v2_26 (by unfold inR; omega) dX12_isImage_87 rfl (fun c_45 => ?_) (fun c_45 => ?_)
                  · replace hf := hf.1 c_45
                    refine g_sub [(0, .ref (B + 95)), (1, J v1), (2, J v2_26)] [0, 1, 2] rfl ?_
                    exact hJ96 v2_26 M_27 hf h_v2_26 h_M_27
                  · replace hf := hf.2 c_45
                    refine g_iload_n hC 2 dX12_isImage_90 rfl rfl ?_
                    refine g_bipush hC dX12_isImage_91 (by decide) ?_
                    refine g_icmp_lt hC 101 h_v2_26 (by unfold inR; omega) dX12_isImage_93 rfl (fun c_44 => ?_) (fun c_44 => ?_)
                    · replace hf := hf.1 c_44
                      refine g_aload_n hC 0 dX12_isImage_101 rfl rfl ?_
                      refine g_getr hC okX12 sc95 13 (by decide) rfl wf_X12_27 dX12_isImage_102 ?_
                      refine g_iload_n hC 2 dX12_isImage_105 rfl rfl ?_
                      obtain ⟨q_40, hf⟩ := hf
                      refine g_ialdk (v2_26.toNat) hC sc100 q_40.1 q_40.2 rfl dX12_isImage_106 ?_
                      refine g_goto hC 111 dX12_isImage_107 rfl ?_
                      refine g_iastk (v2_26.toNat) hC sc99 q_40.1 q_40.2 rfl dX12_isImage_111 ?_
                      refine g_nmM (fun M_41 e_M_41 => ?_)
                      replace hf := hf M_41 e_M_41
                      have h_M_41 : MR M_41 := by rw [e_M_41]; exact MR_st h_M_27 (h_M_27 _ _)
                      obtain ⟨q_43, hf⟩ := hf
                      obtain ⟨v2_42, e_v2_42⟩ : ∃ z : Int, z = v2_26 + 1 := ⟨_, rfl⟩
                      replace hf := hf v2_42 e_v2_42
                      have h_v2_42 : inR v2_42 := by rw [e_v2_42]; exact q_43
                      refine g_iincv hC 2 e_v2_42 [(2, J v2_42), (0, .ref (B + 95)), (1, J v1)] dX12_isImage_112 rfl (by decide) rfl ?_
                      refine g_goto hC 72 dX12_isImage_115 rfl ?_
                      refine g_sub [(0, .ref (B + 95)), (1, J v1), (2, J v2_42)] [1, 2, 0] rfl ?_
                      exact ih72 v2_42 M_41 hf h_v2_42 h_M_41
                    · replace hf := hf.2 c_44
                      refine g_sub [(0, .ref (B + 95)), (1, J v1), (2, J v2_26)] [0, 1, 2] rfl ?_
                      exact hJ96 v2_26 M_27 hf h_v2_26 h_M_27
          · replace hf := hf.2 c_47
            refine g_iconst hC dX12_isImage_68 ?_
            exact g_retz hC (Or.inl rfl) hM hf dX12_isImage_69
set_option maxHeartbeats 4000000 in
set_option maxRecDepth 100000 in
theorem c_X12_on (l : Launch) (B : Nat) (D : va_G) (K : Nat → ClassId)   (M : Mem) (hM : MR M) (Q : Int → Mem → Prop) (hf : f_X12_on  M Q) : CtZ l yX12_on cX12_on 3 4 92 B D K [.ref (B + 95)] M Q := by
  refine ct_z (by decide) (Nat.le_of_ble_eq_true rfl) ?_
  intro p e s m args below meth c hC
  have hC : Cx p s m args meth c D K cX12_on 3 RX12 (some .boolean) := hC
  unfold f_X12_on at hf
  refine (show G p l e (rmF 4 92) s m args below meth c B D K 3 0 0 (ZZ below args s B D K Q) M 0 [(0, .ref (B + 95))] [] from ?_)
  refine g_aload_n hC 0 dX12_on_0 rfl rfl ?_
  refine g_geti hC okX12 sc95 1 (by decide) rfl wf_X12_114 dX12_on_1 ?_
  refine g_nm (fun v1_1 e_v1_1 => ?_)
  replace hf := hf v1_1 e_v1_1
  have h_v1_1 : inR v1_1 := by rw [e_v1_1]; exact (hM _ _)
  refine g_istore_n hC [(1, J v1_1), (0, .ref (B + 95))] dX12_on_4 rfl (by decide) rfl ?_
  refine g_aload_n hC 1 dX12_on_5 rfl rfl ?_
  refine g_iconst hC dX12_on_6 ?_
  refine g_puti hC okX12 tnX12 sc95 1 (by decide) rfl rfl (by decide) wf_X12_114 dX12_on_7 ?_
  refine g_nmM (fun M_2 e_M_2 => ?_)
  replace hf := hf M_2 e_M_2
  have h_M_2 : MR M_2 := by rw [e_M_2]; exact MR_st hM (by unfold inR; omega)
  refine g_aload_n hC 1 dX12_on_10 rfl rfl ?_
  refine g_iload_n hC 0 dX12_on_11 rfl rfl ?_
  refine g_callVZ hC (sk := []) [J v1_1] (c_X12_isImage l B D K v1_1 h_v1_1 M_2 h_M_2 _ hf) yv_X12_isImage wm_X12_469 okX12.1 sc95 rfl ⟨Nat.le_of_ble_eq_true rfl, Nat.le_of_ble_eq_true rfl, Nat.le_of_ble_eq_true rfl, Nat.le_of_ble_eq_true rfl⟩ rfl (Nat.le_of_ble_eq_true rfl) dX12_on_12 ?_
  intro r_3 M_4 h_r_3 h_M_4 hf
  refine g_if_ne hC 24 (zi_ h_r_3) dX12_on_15 rfl (fun c_18 => ?_) (fun c_18 => ?_)
  · replace hf := hf.1 c_18
    refine g_iconst hC dX12_on_24 ?_
    refine g_istore_n hC [(2, J 0), (1, J v1_1), (0, .ref (B + 95))] dX12_on_25 rfl (by decide) rfl ?_
    refine jn_elim (fun (k : Mem → Prop) => ∀ (M_5 : Mem), k M_5 → (MR M_5) → G p l e (rmF 4 92) s m args below meth c B D K 3 0 0 (ZZ below args s B D K Q) M_5 51 [(0, .ref (B + 95))] []) hf ?_ ?_
    · intro M_5 hf h_M_5
      refine g_aload_n hC 0 dX12_on_51 rfl rfl ?_
      refine g_iconst hC dX12_on_52 ?_
      refine g_puti hC okX12 tnX12 sc95 41 (by decide) rfl rfl (by decide) wf_X12_237 dX12_on_53 ?_
      refine g_nmM (fun M_6 e_M_6 => ?_)
      replace hf := hf M_6 e_M_6
      have h_M_6 : MR M_6 := by rw [e_M_6]; exact MR_st h_M_5 (by unfold inR; omega)
      refine g_aload_n hC 0 dX12_on_56 rfl rfl ?_
      refine g_iconst hC dX12_on_57 ?_
      refine g_putz hC okX12 tnX12 sc95 43 (by decide) rfl rfl (by decide) wf_X12_243 (Or.inl rfl) dX12_on_58 ?_
      refine g_nmM (fun M_7 e_M_7 => ?_)
      replace hf := hf M_7 e_M_7
      have h_M_7 : MR M_7 := by rw [e_M_7]; exact MR_st h_M_6 (by unfold inR; omega)
      refine g_aload_n hC 0 dX12_on_61 rfl rfl ?_
      refine g_callVV hC (sk := []) [] (c_X12_isOther l B D K   M_7 h_M_7 _ hf) yv_X12_isOther wm_X12_379 okX12.1 sc95 rfl ⟨Nat.le_of_ble_eq_true rfl, Nat.le_of_ble_eq_true rfl, Nat.le_of_ble_eq_true rfl, Nat.le_of_ble_eq_true rfl⟩ rfl (Nat.le_of_ble_eq_true rfl) dX12_on_62 ?_
      intro M_8 h_M_8 hf
      refine g_iconst hC dX12_on_65 ?_
      exact g_retz hC (Or.inr rfl) h_M_8 hf dX12_on_66
    · intro J51 hJ51 hf
      refine g_sub [(0, .ref (B + 95)), (2, J 0)] [2, 0] rfl ?_
      refine wl2_elim (fun (v2_9 : Int) (M_10 : Mem) => inR v2_9 → MR M_10 → G p l e (rmF 4 92) s m args below meth c B D K 3 0 0 (ZZ below args s B D K Q) M_10 26 [(0, .ref (B + 95)), (2, J v2_9)] []) ?_ 5000 0 M_4 hf (by unfold inR; omega) h_M_4
      intro rec26 ih26 v2_9 M_10 hf h_v2_9 h_M_10
      unfold X12_on_b26 at hf
      refine g_iload_n hC 1 dX12_on_26 rfl rfl ?_
      refine g_sipush hC dX12_on_27 (by decide) ?_
      refine g_icmp_ge hC 51 h_v2_9 (by unfold inR; omega) dX12_on_30 rfl (fun c_15 => ?_) (fun c_15 => ?_)
      · replace hf := hf.1 c_15
        refine g_sub [(0, .ref (B + 95))] [0] rfl ?_
        exact hJ51 M_10 hf h_M_10
      · replace hf := hf.2 c_15
        refine g_aload_n hC 0 dX12_on_33 rfl rfl ?_
        refine g_getr hC okX12 sc95 13 (by decide) rfl wf_X12_27 dX12_on_34 ?_
        refine g_iload_n hC 1 dX12_on_37 rfl rfl ?_
        refine g_aload_n hC 0 dX12_on_38 rfl rfl ?_
        refine g_getr hC okX12 sc95 12 (by decide) rfl wf_X12_24 dX12_on_39 ?_
        refine g_iload_n hC 1 dX12_on_42 rfl rfl ?_
        obtain ⟨q_11, hf⟩ := hf
        refine g_ialdk (v2_9.toNat) hC sc99 q_11.1 q_11.2 rfl dX12_on_43 ?_
        refine g_iastk (v2_9.toNat) hC sc100 q_11.1 q_11.2 rfl dX12_on_44 ?_
        refine g_nmM (fun M_12 e_M_12 => ?_)
        replace hf := hf M_12 e_M_12
        have h_M_12 : MR M_12 := by rw [e_M_12]; exact MR_st h_M_10 (h_M_10 _ _)
        obtain ⟨q_14, hf⟩ := hf
        obtain ⟨v2_13, e_v2_13⟩ : ∃ z : Int, z = v2_9 + 1 := ⟨_, rfl⟩
        replace hf := hf v2_13 e_v2_13
        have h_v2_13 : inR v2_13 := by rw [e_v2_13]; exact q_14
        refine g_iincv hC 1 e_v2_13 [(2, J v2_13), (0, .ref (B + 95))] dX12_on_45 rfl (by decide) rfl ?_
        refine g_goto hC 26 dX12_on_48 rfl ?_
        refine g_sub [(0, .ref (B + 95)), (2, J v2_13)] [1, 0] rfl ?_
        exact ih26 v2_13 M_12 hf h_v2_13 h_M_12
  · replace hf := hf.2 c_18
    refine g_aload_n hC 1 dX12_on_18 rfl rfl ?_
    refine g_iconst hC dX12_on_19 ?_
    refine g_callVZ hC (sk := []) [J 5] (c_X12_isRefused l B D K 5 (by unfold inR; omega) M_4 h_M_4 _ hf) yv_X12_isRefused wm_X12_121 okX12.1 sc95 rfl ⟨Nat.le_of_ble_eq_true rfl, Nat.le_of_ble_eq_true rfl, Nat.le_of_ble_eq_true rfl, Nat.le_of_ble_eq_true rfl⟩ rfl (Nat.le_of_ble_eq_true rfl) dX12_on_20 ?_
    intro r_16 M_17 h_r_16 h_M_17 hf
    exact g_retz hC h_r_16 h_M_17 hf dX12_on_23
