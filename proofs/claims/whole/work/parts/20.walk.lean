set_option maxHeartbeats 4000000 in
set_option maxRecDepth 100000 in
theorem c_X0_note (l : Launch) (B : Nat) (D : va_G) (K : Nat → ClassId) (v1 : Int) (v2 : Int) (v3 : Int) (i_v1 : inR v1) (i_v2 : inR v2) (i_v3 : inR v3) (M : Mem) (hM : MR M) (Q : Mem → Prop) (hf : f_X0_note v1 v2 v3 M Q) : CtV l yX0_note cX0_note 4 0 0 B D K [.ref (B + 60), J v1, J v2, J v3] M Q := by
  refine ct_v (by decide) (Nat.le_of_ble_eq_true rfl) ?_
  intro p e s m args below meth c hC
  have hC : Cx p s m args meth c D K cX0_note 4 RX0 none := hC
  unfold f_X0_note at hf
  refine (show G p l e (rmF 0 0) s m args below meth c B D K 4 0 0 (ZV below args s B D K Q) M 0 [(0, .ref (B + 60)), (1, J v1), (2, J v2), (3, J v3)] [] from ?_)
  refine g_aload_n hC 0 dX0_note_0 rfl rfl ?_
  refine g_getr hC okX0 sc60 3 (by decide) rfl wf_X0_15 dX0_note_1 ?_
  refine g_iload_n hC 1 dX0_note_4 rfl rfl ?_
  refine g_bipush hC dX0_note_5 (by decide) ?_
  refine g_imul hC dX0_note_7 ?_
  refine g_iload_n hC 2 dX0_note_8 rfl rfl ?_
  refine g_iadd hC dX0_note_9 ?_
  refine g_iload_n hC 3 dX0_note_10 rfl rfl ?_
  obtain ⟨q_1, hf⟩ := hf
  refine g_iastk (((v1 * 30) + v2).toNat) hC sc62 q_1.1 q_1.2 rfl dX0_note_11 ?_
  refine g_nmM (fun M_2 e_M_2 => ?_)
  replace hf := hf M_2 e_M_2
  have h_M_2 : MR M_2 := by rw [e_M_2]; exact MR_st hM i_v3
  exact g_retv hC h_M_2 hf dX0_note_12
set_option maxHeartbeats 4000000 in
set_option maxRecDepth 100000 in
theorem c_X0_begin (l : Launch) (B : Nat) (D : va_G) (K : Nat → ClassId)   (M : Mem) (hM : MR M) (Q : Mem → Prop) (hf : f_X0_begin  M Q) : CtV l yX0_begin cX0_begin 1 1 23 B D K [.ref (B + 60)] M Q := by
  refine ct_v (by decide) (Nat.le_of_ble_eq_true rfl) ?_
  intro p e s m args below meth c hC
  have hC : Cx p s m args meth c D K cX0_begin 1 RX0 none := hC
  unfold f_X0_begin at hf
  refine (show G p l e (rmF 1 23) s m args below meth c B D K 1 0 0 (ZV below args s B D K Q) M 0 [(0, .ref (B + 60))] [] from ?_)
  refine g_aload_n hC 0 dX0_begin_0 rfl rfl ?_
  refine g_iconst hC dX0_begin_1 ?_
  refine g_putz hC okX0 tnX0 sc60 0 (by decide) rfl rfl (by decide) wf_X0_18 (Or.inr rfl) dX0_begin_2 ?_
  refine g_nmM (fun M_1 e_M_1 => ?_)
  replace hf := hf M_1 e_M_1
  have h_M_1 : MR M_1 := by rw [e_M_1]; exact MR_st hM (by unfold inR; omega)
  refine g_aload_n hC 0 dX0_begin_5 rfl rfl ?_
  refine g_getr hC okX0 sc60 2 (by decide) rfl wf_X0_9 dX0_begin_6 ?_
  refine g_iconst hC dX0_begin_9 ?_
  refine g_callSV hC (sk := []) [.ref (B + 61), J 0] (c_fill l B D K 61 _ sc61 0 (by unfold inR; omega) M_1 h_M_1) yv_J7_fill_53178 wm_X0_22 rfl ⟨Nat.le_of_ble_eq_true rfl, Nat.le_of_ble_eq_true rfl, Nat.le_of_ble_eq_true rfl, Nat.le_of_ble_eq_true rfl⟩ rfl (Nat.le_of_ble_eq_true rfl) dX0_begin_10 ?_
  intro M_2 h_M_2 e_M_2
  replace hf := hf M_2 e_M_2
  exact g_retv hC h_M_2 hf dX0_begin_13
set_option maxHeartbeats 4000000 in
set_option maxRecDepth 100000 in
theorem c_X0_compare (l : Launch) (B : Nat) (D : va_G) (K : Nat → ClassId) (v1 : Int) (v2 : Int) (v3 : Int) (i_v1 : inR v1) (i_v2 : inR v2) (i_v3 : inR v3) (M : Mem) (hM : MR M) (Q : Mem → Prop) (hf : f_X0_compare v1 v2 v3 M Q) : CtV l yX0_compare cX0_compare 4 0 0 B D K [.ref (B + 60), J v1, J v2, J v3] M Q := by
  refine ct_v (by decide) (Nat.le_of_ble_eq_true rfl) ?_
  intro p e s m args below meth c hC
  have hC : Cx p s m args meth c D K cX0_compare 4 RX0 none := hC
  unfold f_X0_compare at hf
  refine (show G p l e (rmF 0 0) s m args below meth c B D K 4 0 0 (ZV below args s B D K Q) M 0 [(0, .ref (B + 60)), (1, J v1), (2, J v2), (3, J v3)] [] from ?_)
  refine g_aload_n hC 0 dX0_compare_0 rfl rfl ?_
  refine g_getr hC okX0 sc60 3 (by decide) rfl wf_X0_15 dX0_compare_1 ?_
  refine g_iload_n hC 1 dX0_compare_4 rfl rfl ?_
  refine g_bipush hC dX0_compare_5 (by decide) ?_
  refine g_imul hC dX0_compare_7 ?_
  refine g_iload_n hC 2 dX0_compare_8 rfl rfl ?_
  refine g_iadd hC dX0_compare_9 ?_
  obtain ⟨q_1, hf⟩ := hf
  refine g_ialdk (((v1 * 30) + v2).toNat) hC sc62 q_1.1 q_1.2 rfl dX0_compare_10 ?_
  refine g_iload_n hC 3 dX0_compare_11 rfl rfl ?_
  refine g_icmp_eq hC 25 (hM _ _) i_v3 dX0_compare_12 rfl (fun c_5 => ?_) (fun c_5 => ?_)
  · replace hf := hf.1 c_5
    exact g_retv hC hM hf dX0_compare_25
  · replace hf := hf.2 c_5
    refine g_aload_n hC 0 dX0_compare_15 rfl rfl ?_
    refine g_getr hC okX0 sc60 2 (by decide) rfl wf_X0_9 dX0_compare_16 ?_
    refine g_iload_n hC 1 dX0_compare_19 rfl rfl ?_
    refine g_dup2 hC dX0_compare_20 rfl rfl ?_
    obtain ⟨q_2, hf⟩ := hf
    refine g_ialdk (v1.toNat) hC sc61 q_2.1 q_2.2 rfl dX0_compare_21 ?_
    refine g_iconst hC dX0_compare_22 ?_
    refine g_iadd hC dX0_compare_23 ?_
    obtain ⟨q_3, hf⟩ := hf
    refine g_iastk (v1.toNat) hC sc61 q_2.1 q_2.2 rfl dX0_compare_24 ?_
    refine g_nmM (fun M_4 e_M_4 => ?_)
    replace hf := hf M_4 e_M_4
    have h_M_4 : MR M_4 := by rw [e_M_4]; exact MR_st hM q_3
    exact g_retv hC h_M_4 hf dX0_compare_25
set_option maxHeartbeats 4000000 in
set_option maxRecDepth 100000 in
theorem c_X1_countEnds (l : Launch) (B : Nat) (D : va_G) (K : Nat → ClassId) (n : Nat) (a1 : Nat) (h_n : is_X1 n) (h_a1 : is_X5 a1) (M : Mem) (hM : MR M) (Q : Mem → Prop) (hf : f_X1_countEnds n a1 M Q) : CtV l yX1_countEnds cX1_countEnds 3 1 23 B D K [.ref (B + n), .ref (B + a1)] M Q := by
  refine ct_v (by decide) (Nat.le_of_ble_eq_true rfl) ?_
  intro p e s m args below meth c hC
  have hC : Cx p s m args meth c D K cX1_countEnds 3 RX1 none := hC
  unfold f_X1_countEnds at hf
  refine (show G p l e (rmF 1 23) s m args below meth c B D K 3 0 0 (ZV below args s B D K Q) M 0 [(0, .ref (B + n)), (1, .ref (B + a1))] [] from ?_)
  refine g_aload_n hC 0 dX1_countEnds_0 rfl rfl ?_
  refine g_getr hC okX1 (sh_X1 h_n) 2 (by decide) rfl wf_X1_18 dX1_countEnds_1 ?_
  refine g_iconst hC dX1_countEnds_4 ?_
  refine g_callSV hC (sk := []) [.ref (B + (n + 3)), J 0] (c_fill l B D K (n + 3) _ (sh_X1_2 h_n) 0 (by unfold inR; omega) M hM) yv_J7_fill_53178 wm_X1_75 rfl ⟨Nat.le_of_ble_eq_true rfl, Nat.le_of_ble_eq_true rfl, Nat.le_of_ble_eq_true rfl, Nat.le_of_ble_eq_true rfl⟩ rfl (Nat.le_of_ble_eq_true rfl) dX1_countEnds_5 ?_
  intro M_1 h_M_1 e_M_1
  replace hf := hf M_1 e_M_1
  refine g_aload_n hC 0 dX1_countEnds_8 rfl rfl ?_
  refine g_getr hC okX1 (sh_X1 h_n) 3 (by decide) rfl wf_X1_21 dX1_countEnds_9 ?_
  refine g_iconst hC dX1_countEnds_12 ?_
  refine g_callSV hC (sk := []) [.ref (B + (n + 4)), J 0] (c_fill l B D K (n + 4) _ (sh_X1_3 h_n) 0 (by unfold inR; omega) M_1 h_M_1) yv_J7_fill_53178 wm_X1_75 rfl ⟨Nat.le_of_ble_eq_true rfl, Nat.le_of_ble_eq_true rfl, Nat.le_of_ble_eq_true rfl, Nat.le_of_ble_eq_true rfl⟩ rfl (Nat.le_of_ble_eq_true rfl) dX1_countEnds_13 ?_
  intro M_2 h_M_2 e_M_2
  replace hf := hf M_2 e_M_2
  refine g_iconst hC dX1_countEnds_16 ?_
  refine g_istore_n hC [(2, J 0), (0, .ref (B + n)), (1, .ref (B + a1))] dX1_countEnds_17 rfl (by decide) rfl ?_
  refine jn_elim (fun (k : Mem → Prop) => ∀ (M_3 : Mem), k M_3 → (MR M_3) → G p l e (rmF 1 23) s m args below meth c B D K 3 0 0 (ZV below args s B D K Q) M_3 62 [(0, .ref (B + n)), (1, .ref (B + a1))] []) hf ?_ ?_
  · intro M_3 hf h_M_3
    refine g_aload_n hC 0 dX1_countEnds_62 rfl rfl ?_
    refine g_iconst hC dX1_countEnds_63 ?_
    refine g_puti hC okX1 tnX1 (sh_X1 h_n) 11 (by decide) rfl rfl (by decide) wf_X1_93 dX1_countEnds_64 ?_
    refine g_nmM (fun M_4 e_M_4 => ?_)
    replace hf := hf M_4 e_M_4
    have h_M_4 : MR M_4 := by rw [e_M_4]; exact MR_st h_M_3 (by unfold inR; omega)
    refine g_aload_n hC 0 dX1_countEnds_67 rfl rfl ?_
    refine g_iconst hC dX1_countEnds_68 ?_
    refine g_puti hC okX1 tnX1 (sh_X1 h_n) 12 (by decide) rfl rfl (by decide) wf_X1_96 dX1_countEnds_69 ?_
    refine g_nmM (fun M_5 e_M_5 => ?_)
    replace hf := hf M_5 e_M_5
    have h_M_5 : MR M_5 := by rw [e_M_5]; exact MR_st h_M_4 (by unfold inR; omega)
    refine g_iconst hC dX1_countEnds_72 ?_
    refine g_istore_n hC [(2, J 0), (0, .ref (B + n)), (1, .ref (B + a1))] dX1_countEnds_73 rfl (by decide) rfl ?_
    refine g_sub [(0, .ref (B + n)), (1, .ref (B + a1)), (2, J 0)] [1, 2, 0] rfl ?_
    refine wl2_elim (fun (v2_6 : Int) (M_7 : Mem) => inR v2_6 → MR M_7 → G p l e (rmF 1 23) s m args below meth c B D K 3 0 0 (ZV below args s B D K Q) M_7 74 [(0, .ref (B + n)), (1, .ref (B + a1)), (2, J v2_6)] []) ?_ 5000 0 M_5 hf (by unfold inR; omega) h_M_5
    intro rec74 ih74 v2_6 M_7 hf h_v2_6 h_M_7
    unfold X1_countEnds_b74 at hf
    refine g_iload_n hC 2 dX1_countEnds_74 rfl rfl ?_
    refine g_aload_n hC 1 dX1_countEnds_75 rfl rfl ?_
    refine g_geti hC okX5 (sh_X5 h_a1) 0 (by decide) rfl wf_X1_99 dX1_countEnds_76 ?_
    refine g_icmp_ge hC 148 h_v2_6 (h_M_7 _ _) dX1_countEnds_79 rfl (fun c_22 => ?_) (fun c_22 => ?_)
    · replace hf := hf.1 c_22
      exact g_retv hC h_M_7 hf dX1_countEnds_148
    · replace hf := hf.2 c_22
      refine g_aload_n hC 0 dX1_countEnds_82 rfl rfl ?_
      refine g_getr hC okX1 (sh_X1 h_n) 3 (by decide) rfl wf_X1_21 dX1_countEnds_83 ?_
      refine g_iload_n hC 2 dX1_countEnds_86 rfl rfl ?_
      obtain ⟨q_8, hf⟩ := hf
      refine g_ialdk (v2_6.toNat) hC (sh_X1_3 h_n) q_8.1 q_8.2 rfl dX1_countEnds_87 ?_
      refine jn_elim (fun (k : Mem → Prop) => ∀ (M_9 : Mem), k M_9 → (MR M_9) → G p l e (rmF 1 23) s m args below meth c B D K 3 0 0 (ZV below args s B D K Q) M_9 112 [(0, .ref (B + n)), (1, .ref (B + a1)), (2, J v2_6)] []) hf ?_ ?_
      · intro M_9 hf h_M_9
        refine g_aload_n hC 0 dX1_countEnds_112 rfl rfl ?_
        refine g_getr hC okX1 (sh_X1 h_n) 2 (by decide) rfl wf_X1_18 dX1_countEnds_113 ?_
        refine g_iload_n hC 2 dX1_countEnds_116 rfl rfl ?_
        refine g_ialdk (v2_6.toNat) hC (sh_X1_2 h_n) q_8.1 q_8.2 rfl dX1_countEnds_117 ?_
        refine g_if_le hC 142 (h_M_9 _ _) dX1_countEnds_118 rfl (fun c_18 => ?_) (fun c_18 => ?_)
        · replace hf := hf.1 c_18
          obtain ⟨q_11, hf⟩ := hf
          obtain ⟨v2_10, e_v2_10⟩ : ∃ z : Int, z = v2_6 + 1 := ⟨_, rfl⟩
          replace hf := hf v2_10 e_v2_10
          have h_v2_10 : inR v2_10 := by rw [e_v2_10]; exact q_11
          refine g_iincv hC 2 e_v2_10 [(2, J v2_10), (0, .ref (B + n)), (1, .ref (B + a1))] dX1_countEnds_142 rfl (by decide) rfl ?_
          refine g_goto hC 74 dX1_countEnds_145 rfl ?_
          refine g_sub [(0, .ref (B + n)), (1, .ref (B + a1)), (2, J v2_10)] [1, 2, 0] rfl ?_
          exact ih74 v2_10 M_9 hf h_v2_10 h_M_9
        · replace hf := hf.2 c_18
          refine g_aload_n hC 0 dX1_countEnds_121 rfl rfl ?_
          refine g_getr hC okX1 (sh_X1 h_n) 3 (by decide) rfl wf_X1_21 dX1_countEnds_122 ?_
          refine g_iload_n hC 2 dX1_countEnds_125 rfl rfl ?_
          refine g_ialdk (v2_6.toNat) hC (sh_X1_3 h_n) q_8.1 q_8.2 rfl dX1_countEnds_126 ?_
          refine g_if_ne hC 142 (h_M_9 _ _) dX1_countEnds_127 rfl (fun c_17 => ?_) (fun c_17 => ?_)
          · replace hf := hf.1 c_17
            obtain ⟨q_13, hf⟩ := hf
            obtain ⟨v2_12, e_v2_12⟩ : ∃ z : Int, z = v2_6 + 1 := ⟨_, rfl⟩
            replace hf := hf v2_12 e_v2_12
            have h_v2_12 : inR v2_12 := by rw [e_v2_12]; exact q_13
            refine g_iincv hC 2 e_v2_12 [(2, J v2_12), (0, .ref (B + n)), (1, .ref (B + a1))] dX1_countEnds_142 rfl (by decide) rfl ?_
            refine g_goto hC 74 dX1_countEnds_145 rfl ?_
            refine g_sub [(0, .ref (B + n)), (1, .ref (B + a1)), (2, J v2_12)] [1, 2, 0] rfl ?_
            exact ih74 v2_12 M_9 hf h_v2_12 h_M_9
          · replace hf := hf.2 c_17
            refine g_aload_n hC 0 dX1_countEnds_130 rfl rfl ?_
            refine g_dup hC dX1_countEnds_131 rfl ?_
            refine g_geti hC okX1 (sh_X1 h_n) 12 (by decide) rfl wf_X1_96 dX1_countEnds_132 ?_
            refine g_iconst hC dX1_countEnds_135 ?_
            refine g_iload_n hC 2 dX1_countEnds_136 rfl rfl ?_
            refine g_ishl hC dX1_countEnds_137 ?_
            refine g_ior hC dX1_countEnds_138 ?_
            refine g_puti hC okX1 tnX1 (sh_X1 h_n) 12 (by decide) rfl rfl (by decide) wf_X1_96 dX1_countEnds_139 ?_
            refine g_nmM (fun M_14 e_M_14 => ?_)
            replace hf := hf M_14 e_M_14
            have h_M_14 : MR M_14 := by rw [e_M_14]; exact MR_st h_M_9 (bOr_in _ _)
            obtain ⟨q_16, hf⟩ := hf
            obtain ⟨v2_15, e_v2_15⟩ : ∃ z : Int, z = v2_6 + 1 := ⟨_, rfl⟩
            replace hf := hf v2_15 e_v2_15
            have h_v2_15 : inR v2_15 := by rw [e_v2_15]; exact q_16
            refine g_iincv hC 2 e_v2_15 [(2, J v2_15), (0, .ref (B + n)), (1, .ref (B + a1))] dX1_countEnds_142 rfl (by decide) rfl ?_
            refine g_goto hC 74 dX1_countEnds_145 rfl ?_
            refine g_sub [(0, .ref (B + n)), (1, .ref (B + a1)), (2, J v2_15)] [1, 2, 0] rfl ?_
            exact ih74 v2_15 M_14 hf h_v2_15 h_M_14
      · intro J112 hJ112 hf
        refine g_if_le hC 112 (h_M_7 _ _) dX1_countEnds_88 rfl (fun c_21 => ?_) (fun c_21 => ?_)
        · replace hf := hf.1 c_21
          refine g_sub [(0, .ref (B + n)), (1, .ref (B + a1)), (2, J v2_6)] [0, 1, 2] rfl ?_
          exact hJ112 M_7 hf h_M_7
        · replace hf := hf.2 c_21
          refine g_aload_n hC 0 dX1_countEnds_91 rfl rfl ?_
          refine g_getr hC okX1 (sh_X1 h_n) 2 (by decide) rfl wf_X1_18 dX1_countEnds_92 ?_
          refine g_iload_n hC 2 dX1_countEnds_95 rfl rfl ?_
          refine g_ialdk (v2_6.toNat) hC (sh_X1_2 h_n) q_8.1 q_8.2 rfl dX1_countEnds_96 ?_
          refine g_if_ne hC 112 (h_M_7 _ _) dX1_countEnds_97 rfl (fun c_20 => ?_) (fun c_20 => ?_)
          · replace hf := hf.1 c_20
            refine g_sub [(0, .ref (B + n)), (1, .ref (B + a1)), (2, J v2_6)] [0, 1, 2] rfl ?_
            exact hJ112 M_7 hf h_M_7
          · replace hf := hf.2 c_20
            refine g_aload_n hC 0 dX1_countEnds_100 rfl rfl ?_
            refine g_dup hC dX1_countEnds_101 rfl ?_
            refine g_geti hC okX1 (sh_X1 h_n) 11 (by decide) rfl wf_X1_93 dX1_countEnds_102 ?_
            refine g_iconst hC dX1_countEnds_105 ?_
            refine g_iload_n hC 2 dX1_countEnds_106 rfl rfl ?_
            refine g_ishl hC dX1_countEnds_107 ?_
            refine g_ior hC dX1_countEnds_108 ?_
            refine g_puti hC okX1 tnX1 (sh_X1 h_n) 11 (by decide) rfl rfl (by decide) wf_X1_93 dX1_countEnds_109 ?_
            refine g_nmM (fun M_19 e_M_19 => ?_)
            replace hf := hf M_19 e_M_19
            have h_M_19 : MR M_19 := by rw [e_M_19]; exact MR_st h_M_7 (bOr_in _ _)
            refine g_sub [(0, .ref (B + n)), (1, .ref (B + a1)), (2, J v2_6)] [0, 1, 2] rfl ?_
            exact hJ112 M_19 hf h_M_19
  · intro J62 hJ62 hf
    refine g_sub [(0, .ref (B + n)), (1, .ref (B + a1)), (2, J 0)] [1, 2, 0] rfl ?_
    refine wl2_elim (fun (v2_23 : Int) (M_24 : Mem) => inR v2_23 → MR M_24 → G p l e (rmF 1 23) s m args below meth c B D K 3 0 0 (ZV below args s B D K Q) M_24 18 [(0, .ref (B + n)), (1, .ref (B + a1)), (2, J v2_23)] []) ?_ 5000 0 M_2 hf (by unfold inR; omega) h_M_2
    intro rec18 ih18 v2_23 M_24 hf h_v2_23 h_M_24
    unfold X1_countEnds_b18 at hf
    refine g_iload_n hC 2 dX1_countEnds_18 rfl rfl ?_
    refine g_aload_n hC 1 dX1_countEnds_19 rfl rfl ?_
    refine g_geti hC okX5 (sh_X5 h_a1) 1 (by decide) rfl wf_X1_81 dX1_countEnds_20 ?_
    refine g_icmp_ge hC 62 h_v2_23 (h_M_24 _ _) dX1_countEnds_23 rfl (fun c_34 => ?_) (fun c_34 => ?_)
    · replace hf := hf.1 c_34
      refine g_sub [(0, .ref (B + n)), (1, .ref (B + a1))] [0, 1] rfl ?_
      exact hJ62 M_24 hf h_M_24
    · replace hf := hf.2 c_34
      refine g_aload_n hC 0 dX1_countEnds_26 rfl rfl ?_
      refine g_getr hC okX1 (sh_X1 h_n) 3 (by decide) rfl wf_X1_21 dX1_countEnds_27 ?_
      refine g_aload_n hC 1 dX1_countEnds_30 rfl rfl ?_
      refine g_getr hC okX5 (sh_X5 h_a1) 2 (by decide) rfl wf_X1_87 dX1_countEnds_31 ?_
      refine g_iload_n hC 2 dX1_countEnds_34 rfl rfl ?_
      obtain ⟨q_25, hf⟩ := hf
      refine g_ialdk (v2_23.toNat) hC (sh_X5_2 h_a1) q_25.1 q_25.2 rfl dX1_countEnds_35 ?_
      refine g_dup2 hC dX1_countEnds_36 rfl rfl ?_
      obtain ⟨q_26, hf⟩ := hf
      refine g_ialdk ((M_24 (a1 + 1) (v2_23.toNat)).toNat) hC (sh_X1_3 h_n) q_26.1 q_26.2 rfl dX1_countEnds_37 ?_
      refine g_iconst hC dX1_countEnds_38 ?_
      refine g_iadd hC dX1_countEnds_39 ?_
      obtain ⟨q_27, hf⟩ := hf
      refine g_iastk ((M_24 (a1 + 1) (v2_23.toNat)).toNat) hC (sh_X1_3 h_n) q_26.1 q_26.2 rfl dX1_countEnds_40 ?_
      refine g_nmM (fun M_28 e_M_28 => ?_)
      replace hf := hf M_28 e_M_28
      have h_M_28 : MR M_28 := by rw [e_M_28]; exact MR_st h_M_24 q_27
      refine g_aload_n hC 0 dX1_countEnds_41 rfl rfl ?_
      refine g_getr hC okX1 (sh_X1 h_n) 2 (by decide) rfl wf_X1_18 dX1_countEnds_42 ?_
      refine g_aload_n hC 1 dX1_countEnds_45 rfl rfl ?_
      refine g_getr hC okX5 (sh_X5 h_a1) 3 (by decide) rfl wf_X1_90 dX1_countEnds_46 ?_
      refine g_iload_n hC 2 dX1_countEnds_49 rfl rfl ?_
      refine g_ialdk (v2_23.toNat) hC (sh_X5_3 h_a1) q_25.1 q_25.2 rfl dX1_countEnds_50 ?_
      refine g_dup2 hC dX1_countEnds_51 rfl rfl ?_
      obtain ⟨q_29, hf⟩ := hf
      refine g_ialdk ((M_28 (a1 + 2) (v2_23.toNat)).toNat) hC (sh_X1_2 h_n) q_29.1 q_29.2 rfl dX1_countEnds_52 ?_
      refine g_iconst hC dX1_countEnds_53 ?_
      refine g_iadd hC dX1_countEnds_54 ?_
      obtain ⟨q_30, hf⟩ := hf
      refine g_iastk ((M_28 (a1 + 2) (v2_23.toNat)).toNat) hC (sh_X1_2 h_n) q_29.1 q_29.2 rfl dX1_countEnds_55 ?_
      refine g_nmM (fun M_31 e_M_31 => ?_)
      replace hf := hf M_31 e_M_31
      have h_M_31 : MR M_31 := by rw [e_M_31]; exact MR_st h_M_28 q_30
      obtain ⟨q_33, hf⟩ := hf
      obtain ⟨v2_32, e_v2_32⟩ : ∃ z : Int, z = v2_23 + 1 := ⟨_, rfl⟩
      replace hf := hf v2_32 e_v2_32
      have h_v2_32 : inR v2_32 := by rw [e_v2_32]; exact q_33
      refine g_iincv hC 2 e_v2_32 [(2, J v2_32), (0, .ref (B + n)), (1, .ref (B + a1))] dX1_countEnds_56 rfl (by decide) rfl ?_
      refine g_goto hC 18 dX1_countEnds_59 rfl ?_
      refine g_sub [(0, .ref (B + n)), (1, .ref (B + a1)), (2, J v2_32)] [1, 2, 0] rfl ?_
      exact ih18 v2_32 M_31 hf h_v2_32 h_M_31
set_option maxHeartbeats 4000000 in
set_option maxRecDepth 100000 in
theorem c_X1_sortPlaces (l : Launch) (B : Nat) (D : va_G) (K : Nat → ClassId) (n : Nat) (a1 : Nat) (h_n : is_X1 n) (h_a1 : is_X5 a1) (M : Mem) (hM : MR M) (Q : Mem → Prop) (hf : f_X1_sortPlaces n a1 M Q) : CtV l yX1_sortPlaces cX1_sortPlaces 6 1 23 B D K [.ref (B + n), .ref (B + a1)] M Q := by
  refine ct_v (by decide) (Nat.le_of_ble_eq_true rfl) ?_
  intro p e s m args below meth c hC
  have hC : Cx p s m args meth c D K cX1_sortPlaces 6 RX1 none := hC
  unfold f_X1_sortPlaces at hf
  refine (show G p l e (rmF 1 23) s m args below meth c B D K 6 0 0 (ZV below args s B D K Q) M 0 [(0, .ref (B + n)), (1, .ref (B + a1))] [] from ?_)
  refine g_aload_n hC 0 dX1_sortPlaces_0 rfl rfl ?_
  refine g_getr hC okX1 (sh_X1 h_n) 4 (by decide) rfl wf_X1_24 dX1_sortPlaces_1 ?_
  refine g_iconst hC dX1_sortPlaces_4 ?_
  refine g_callSV hC (sk := []) [.ref (B + (n + 5)), J 0] (c_fill l B D K (n + 5) _ (sh_X1_4 h_n) 0 (by unfold inR; omega) M hM) yv_J7_fill_53178 wm_X1_75 rfl ⟨Nat.le_of_ble_eq_true rfl, Nat.le_of_ble_eq_true rfl, Nat.le_of_ble_eq_true rfl, Nat.le_of_ble_eq_true rfl⟩ rfl (Nat.le_of_ble_eq_true rfl) dX1_sortPlaces_5 ?_
  intro M_1 h_M_1 e_M_1
  replace hf := hf M_1 e_M_1
  refine g_iconst hC dX1_sortPlaces_8 ?_
  refine g_istore_n hC [(2, J 0), (0, .ref (B + n)), (1, .ref (B + a1))] dX1_sortPlaces_9 rfl (by decide) rfl ?_
  refine jn_elim (fun (k : Mem → Prop) => ∀ (M_2 : Mem), k M_2 → (MR M_2) → G p l e (rmF 1 23) s m args below meth c B D K 6 0 0 (ZV below args s B D K Q) M_2 46 [(0, .ref (B + n)), (1, .ref (B + a1))] []) hf ?_ ?_
  · intro M_2 hf h_M_2
    refine g_iconst hC dX1_sortPlaces_46 ?_
    refine g_istore_n hC [(2, J 0), (0, .ref (B + n)), (1, .ref (B + a1))] dX1_sortPlaces_47 rfl (by decide) rfl ?_
    refine g_iconst hC dX1_sortPlaces_48 ?_
    refine g_istore_n hC [(3, J 0), (2, J 0), (0, .ref (B + n)), (1, .ref (B + a1))] dX1_sortPlaces_49 rfl (by decide) rfl ?_
    refine g_sub [(0, .ref (B + n)), (1, .ref (B + a1)), (2, J 0), (3, J 0)] [2, 3, 1, 0] rfl ?_
    refine wl3_elim (fun (v2_3 : Int) (v3_4 : Int) (M_5 : Mem) => inR v2_3 → inR v3_4 → MR M_5 → G p l e (rmF 1 23) s m args below meth c B D K 6 0 0 (ZV below args s B D K Q) M_5 50 [(0, .ref (B + n)), (1, .ref (B + a1)), (2, J v2_3), (3, J v3_4)] []) ?_ 5000 0 0 M_2 hf (by unfold inR; omega) (by unfold inR; omega) h_M_2
    intro rec50 ih50 v2_3 v3_4 M_5 hf h_v2_3 h_v3_4 h_M_5
    unfold X1_sortPlaces_b50 at hf
    refine g_iload_n hC 3 dX1_sortPlaces_50 rfl rfl ?_
    refine g_aload_n hC 1 dX1_sortPlaces_51 rfl rfl ?_
    refine g_geti hC okX5 (sh_X5 h_a1) 0 (by decide) rfl wf_X1_99 dX1_sortPlaces_52 ?_
    refine g_icmp_ge hC 130 h_v3_4 (h_M_5 _ _) dX1_sortPlaces_55 rfl (fun c_21 => ?_) (fun c_21 => ?_)
    · replace hf := hf.1 c_21
      exact g_retv hC h_M_5 hf dX1_sortPlaces_130
    · replace hf := hf.2 c_21
      refine g_iconst hC dX1_sortPlaces_58 ?_
      refine g_istore hC [(4, J 0), (0, .ref (B + n)), (1, .ref (B + a1)), (2, J v2_3), (3, J v3_4)] dX1_sortPlaces_59 (by decide) rfl ?_
      refine g_iconst hC dX1_sortPlaces_61 ?_
      refine g_istore hC [(5, J 0), (4, J 0), (0, .ref (B + n)), (1, .ref (B + a1)), (2, J v2_3), (3, J v3_4)] dX1_sortPlaces_62 (by decide) rfl ?_
      refine jn_elim (fun (k : Int → Prop) => ∀ (v4_6 : Int), k v4_6 → (inR v4_6) → G p l e (rmF 1 23) s m args below meth c B D K 6 0 0 (ZV below args s B D K Q) M_5 109 [(0, .ref (B + n)), (1, .ref (B + a1)), (2, J v2_3), (3, J v3_4), (4, J v4_6)] []) hf ?_ ?_
      · intro v4_6 hf h_v4_6
        refine g_aload_n hC 0 dX1_sortPlaces_109 rfl rfl ?_
        refine g_getr hC okX1 (sh_X1 h_n) 0 (by decide) rfl wf_X1_9 dX1_sortPlaces_110 ?_
        refine g_iload_n hC 3 dX1_sortPlaces_113 rfl rfl ?_
        refine g_iload hC 4 dX1_sortPlaces_114 rfl ?_
        obtain ⟨q_7, hf⟩ := hf
        refine g_iastk (v3_4.toNat) hC (sh_X1_0 h_n) q_7.1 q_7.2 rfl dX1_sortPlaces_116 ?_
        refine g_nmM (fun M_8 e_M_8 => ?_)
        replace hf := hf M_8 e_M_8
        have h_M_8 : MR M_8 := by rw [e_M_8]; exact MR_st h_M_5 h_v4_6
        refine g_iload_n hC 2 dX1_sortPlaces_117 rfl rfl ?_
        refine g_iconst hC dX1_sortPlaces_118 ?_
        refine g_iload hC 4 dX1_sortPlaces_119 rfl ?_
        refine g_ishl hC dX1_sortPlaces_121 ?_
        refine g_ior hC dX1_sortPlaces_122 ?_
        refine g_nm (fun v2_9 e_v2_9 => ?_)
        replace hf := hf v2_9 e_v2_9
        have h_v2_9 : inR v2_9 := by rw [e_v2_9]; exact (bOr_in _ _)
        refine g_istore_n hC [(2, J v2_9), (0, .ref (B + n)), (1, .ref (B + a1)), (3, J v3_4), (4, J v4_6)] dX1_sortPlaces_123 rfl (by decide) rfl ?_
        obtain ⟨q_11, hf⟩ := hf
        obtain ⟨v3_10, e_v3_10⟩ : ∃ z : Int, z = v3_4 + 1 := ⟨_, rfl⟩
        replace hf := hf v3_10 e_v3_10
        have h_v3_10 : inR v3_10 := by rw [e_v3_10]; exact q_11
        refine g_iincv hC 3 e_v3_10 [(3, J v3_10), (2, J v2_9), (0, .ref (B + n)), (1, .ref (B + a1)), (4, J v4_6)] dX1_sortPlaces_124 rfl (by decide) rfl ?_
        refine g_goto hC 50 dX1_sortPlaces_127 rfl ?_
        refine g_sub [(0, .ref (B + n)), (1, .ref (B + a1)), (2, J v2_9), (3, J v3_10)] [2, 3, 1, 0] rfl ?_
        exact ih50 v2_9 v3_10 M_8 hf h_v2_9 h_v3_10 h_M_8
      · intro J109 hJ109 hf
        refine g_sub [(0, .ref (B + n)), (1, .ref (B + a1)), (2, J v2_3), (3, J v3_4), (4, J 0), (5, J 0)] [2, 3, 4, 5, 1, 0] rfl ?_
        refine wl1_elim (fun (v5_12 : Int) => inR v5_12 → G p l e (rmF 1 23) s m args below meth c B D K 6 0 0 (ZV below args s B D K Q) M_5 64 [(0, .ref (B + n)), (1, .ref (B + a1)), (2, J v2_3), (3, J v3_4), (4, J 0), (5, J v5_12)] []) ?_ 5000 0 hf (by unfold inR; omega)
        intro rec64 ih64 v5_12 hf h_v5_12
        unfold X1_sortPlaces_b64 at hf
        refine g_iload hC 5 dX1_sortPlaces_64 rfl ?_
        refine g_aload_n hC 1 dX1_sortPlaces_66 rfl rfl ?_
        refine g_geti hC okX5 (sh_X5 h_a1) 0 (by decide) rfl wf_X1_99 dX1_sortPlaces_67 ?_
        refine g_icmp_ge hC 109 h_v5_12 (h_M_5 _ _) dX1_sortPlaces_70 rfl (fun c_20 => ?_) (fun c_20 => ?_)
        · replace hf := hf.1 c_20
          refine g_sub [(0, .ref (B + n)), (1, .ref (B + a1)), (2, J v2_3), (3, J v3_4), (4, J 0)] [0, 1, 2, 3, 4] rfl ?_
          exact hJ109 0 hf (by unfold inR; omega)
        · replace hf := hf.2 c_20
          refine g_iload_n hC 2 dX1_sortPlaces_73 rfl rfl ?_
          refine g_iload hC 5 dX1_sortPlaces_74 rfl ?_
          refine g_ishr hC dX1_sortPlaces_76 ?_
          refine g_iconst hC dX1_sortPlaces_77 ?_
          refine g_iand hC dX1_sortPlaces_78 ?_
          refine g_if_ne hC 103 (bAnd_in _ _) dX1_sortPlaces_79 rfl (fun c_19 => ?_) (fun c_19 => ?_)
          · replace hf := hf.1 c_19
            obtain ⟨q_14, hf⟩ := hf
            obtain ⟨v5_13, e_v5_13⟩ : ∃ z : Int, z = v5_12 + 1 := ⟨_, rfl⟩
            replace hf := hf v5_13 e_v5_13
            have h_v5_13 : inR v5_13 := by rw [e_v5_13]; exact q_14
            refine g_iincv hC 5 e_v5_13 [(5, J v5_13), (0, .ref (B + n)), (1, .ref (B + a1)), (2, J v2_3), (3, J v3_4), (4, J 0)] dX1_sortPlaces_103 rfl (by decide) rfl ?_
            refine g_goto hC 64 dX1_sortPlaces_106 rfl ?_
            refine g_sub [(0, .ref (B + n)), (1, .ref (B + a1)), (2, J v2_3), (3, J v3_4), (4, J 0), (5, J v5_13)] [1, 2, 3, 4, 5, 0] rfl ?_
            exact ih64 v5_13 hf h_v5_13
          · replace hf := hf.2 c_19
            refine g_aload_n hC 0 dX1_sortPlaces_82 rfl rfl ?_
            refine g_getr hC okX1 (sh_X1 h_n) 4 (by decide) rfl wf_X1_24 dX1_sortPlaces_83 ?_
            refine g_iload hC 5 dX1_sortPlaces_86 rfl ?_
            obtain ⟨q_15, hf⟩ := hf
            refine g_ialdk (v5_12.toNat) hC (sh_X1_4 h_n) q_15.1 q_15.2 rfl dX1_sortPlaces_88 ?_
            refine g_iload_n hC 2 dX1_sortPlaces_89 rfl rfl ?_
            refine g_iconst hC dX1_sortPlaces_90 ?_
            refine g_ixor hC dX1_sortPlaces_91 ?_
            refine g_iand hC dX1_sortPlaces_92 ?_
            refine g_if_ne hC 103 (bAnd_in _ _) dX1_sortPlaces_93 rfl (fun c_18 => ?_) (fun c_18 => ?_)
            · replace hf := hf.1 c_18
              obtain ⟨q_17, hf⟩ := hf
              obtain ⟨v5_16, e_v5_16⟩ : ∃ z : Int, z = v5_12 + 1 := ⟨_, rfl⟩
              replace hf := hf v5_16 e_v5_16
              have h_v5_16 : inR v5_16 := by rw [e_v5_16]; exact q_17
              refine g_iincv hC 5 e_v5_16 [(5, J v5_16), (0, .ref (B + n)), (1, .ref (B + a1)), (2, J v2_3), (3, J v3_4), (4, J 0)] dX1_sortPlaces_103 rfl (by decide) rfl ?_
              refine g_goto hC 64 dX1_sortPlaces_106 rfl ?_
              refine g_sub [(0, .ref (B + n)), (1, .ref (B + a1)), (2, J v2_3), (3, J v3_4), (4, J 0), (5, J v5_16)] [1, 2, 3, 4, 5, 0] rfl ?_
              exact ih64 v5_16 hf h_v5_16
            · replace hf := hf.2 c_18
              refine g_iload hC 5 dX1_sortPlaces_96 rfl ?_
              refine g_istore hC [(4, J v5_12), (0, .ref (B + n)), (1, .ref (B + a1)), (2, J v2_3), (3, J v3_4), (5, J v5_12)] dX1_sortPlaces_98 (by decide) rfl ?_
              refine g_goto hC 109 dX1_sortPlaces_100 rfl ?_
              refine g_sub [(0, .ref (B + n)), (1, .ref (B + a1)), (2, J v2_3), (3, J v3_4), (4, J v5_12)] [1, 2, 3, 4, 0] rfl ?_
              exact hJ109 v5_12 hf h_v5_12
  · intro J46 hJ46 hf
    refine g_sub [(0, .ref (B + n)), (1, .ref (B + a1)), (2, J 0)] [1, 2, 0] rfl ?_
    refine wl2_elim (fun (v2_22 : Int) (M_23 : Mem) => inR v2_22 → MR M_23 → G p l e (rmF 1 23) s m args below meth c B D K 6 0 0 (ZV below args s B D K Q) M_23 10 [(0, .ref (B + n)), (1, .ref (B + a1)), (2, J v2_22)] []) ?_ 5000 0 M_1 hf (by unfold inR; omega) h_M_1
    intro rec10 ih10 v2_22 M_23 hf h_v2_22 h_M_23
    unfold X1_sortPlaces_b10 at hf
    refine g_iload_n hC 2 dX1_sortPlaces_10 rfl rfl ?_
    refine g_aload_n hC 1 dX1_sortPlaces_11 rfl rfl ?_
    refine g_geti hC okX5 (sh_X5 h_a1) 1 (by decide) rfl wf_X1_81 dX1_sortPlaces_12 ?_
    refine g_icmp_ge hC 46 h_v2_22 (h_M_23 _ _) dX1_sortPlaces_15 rfl (fun c_29 => ?_) (fun c_29 => ?_)
    · replace hf := hf.1 c_29
      refine g_sub [(0, .ref (B + n)), (1, .ref (B + a1))] [0, 1] rfl ?_
      exact hJ46 M_23 hf h_M_23
    · replace hf := hf.2 c_29
      refine g_aload_n hC 0 dX1_sortPlaces_18 rfl rfl ?_
      refine g_getr hC okX1 (sh_X1 h_n) 4 (by decide) rfl wf_X1_24 dX1_sortPlaces_19 ?_
      refine g_aload_n hC 1 dX1_sortPlaces_22 rfl rfl ?_
      refine g_getr hC okX5 (sh_X5 h_a1) 3 (by decide) rfl wf_X1_90 dX1_sortPlaces_23 ?_
      refine g_iload_n hC 2 dX1_sortPlaces_26 rfl rfl ?_
      obtain ⟨q_24, hf⟩ := hf
      refine g_ialdk (v2_22.toNat) hC (sh_X5_3 h_a1) q_24.1 q_24.2 rfl dX1_sortPlaces_27 ?_
      refine g_dup2 hC dX1_sortPlaces_28 rfl rfl ?_
      obtain ⟨q_25, hf⟩ := hf
      refine g_ialdk ((M_23 (a1 + 2) (v2_22.toNat)).toNat) hC (sh_X1_4 h_n) q_25.1 q_25.2 rfl dX1_sortPlaces_29 ?_
      refine g_iconst hC dX1_sortPlaces_30 ?_
      refine g_aload_n hC 1 dX1_sortPlaces_31 rfl rfl ?_
      refine g_getr hC okX5 (sh_X5 h_a1) 2 (by decide) rfl wf_X1_87 dX1_sortPlaces_32 ?_
      refine g_iload_n hC 2 dX1_sortPlaces_35 rfl rfl ?_
      refine g_ialdk (v2_22.toNat) hC (sh_X5_2 h_a1) q_24.1 q_24.2 rfl dX1_sortPlaces_36 ?_
      refine g_ishl hC dX1_sortPlaces_37 ?_
      refine g_ior hC dX1_sortPlaces_38 ?_
      refine g_iastk ((M_23 (a1 + 2) (v2_22.toNat)).toNat) hC (sh_X1_4 h_n) q_25.1 q_25.2 rfl dX1_sortPlaces_39 ?_
      refine g_nmM (fun M_26 e_M_26 => ?_)
      replace hf := hf M_26 e_M_26
      have h_M_26 : MR M_26 := by rw [e_M_26]; exact MR_st h_M_23 (bOr_in _ _)
      obtain ⟨q_28, hf⟩ := hf
      obtain ⟨v2_27, e_v2_27⟩ : ∃ z : Int, z = v2_22 + 1 := ⟨_, rfl⟩
      replace hf := hf v2_27 e_v2_27
      have h_v2_27 : inR v2_27 := by rw [e_v2_27]; exact q_28
      refine g_iincv hC 2 e_v2_27 [(2, J v2_27), (0, .ref (B + n)), (1, .ref (B + a1))] dX1_sortPlaces_40 rfl (by decide) rfl ?_
      refine g_goto hC 10 dX1_sortPlaces_43 rfl ?_
      refine g_sub [(0, .ref (B + n)), (1, .ref (B + a1)), (2, J v2_27)] [1, 2, 0] rfl ?_
      exact ih10 v2_27 M_26 hf h_v2_27 h_M_26
set_option maxHeartbeats 4000000 in
set_option maxRecDepth 100000 in
theorem c_X1_sortReaches (l : Launch) (B : Nat) (D : va_G) (K : Nat → ClassId) (n : Nat) (a1 : Nat) (h_n : is_X1 n) (h_a1 : is_X5 a1) (M : Mem) (hM : MR M) (Q : Mem → Prop) (hf : f_X1_sortReaches n a1 M Q) : CtV l yX1_sortReaches cX1_sortReaches 5 0 0 B D K [.ref (B + n), .ref (B + a1)] M Q := by
  refine ct_v (by decide) (Nat.le_of_ble_eq_true rfl) ?_
  intro p e s m args below meth c hC
  have hC : Cx p s m args meth c D K cX1_sortReaches 5 RX1 none := hC
  unfold f_X1_sortReaches at hf
  refine (show G p l e (rmF 0 0) s m args below meth c B D K 5 0 0 (ZV below args s B D K Q) M 0 [(0, .ref (B + n)), (1, .ref (B + a1))] [] from ?_)
  refine g_iconst hC dX1_sortReaches_0 ?_
  refine g_istore_n hC [(2, J 0), (0, .ref (B + n)), (1, .ref (B + a1))] dX1_sortReaches_1 rfl (by decide) rfl ?_
  refine g_iconst hC dX1_sortReaches_2 ?_
  refine g_istore_n hC [(3, J 0), (2, J 0), (0, .ref (B + n)), (1, .ref (B + a1))] dX1_sortReaches_3 rfl (by decide) rfl ?_
  refine g_sub [(0, .ref (B + n)), (1, .ref (B + a1)), (2, J 0), (3, J 0)] [2, 3, 1, 0] rfl ?_
  refine wl3_elim (fun (v2_1 : Int) (v3_2 : Int) (M_3 : Mem) => inR v2_1 → inR v3_2 → MR M_3 → G p l e (rmF 0 0) s m args below meth c B D K 5 0 0 (ZV below args s B D K Q) M_3 4 [(0, .ref (B + n)), (1, .ref (B + a1)), (2, J v2_1), (3, J v3_2)] []) ?_ 5000 0 0 M hf (by unfold inR; omega) (by unfold inR; omega) hM
  intro rec4 ih4 v2_1 v3_2 M_3 hf h_v2_1 h_v3_2 h_M_3
  unfold X1_sortReaches_b4 at hf
  refine g_iload_n hC 3 dX1_sortReaches_4 rfl rfl ?_
  refine g_aload_n hC 1 dX1_sortReaches_5 rfl rfl ?_
  refine g_geti hC okX5 (sh_X5 h_a1) 0 (by decide) rfl wf_X1_99 dX1_sortReaches_6 ?_
  refine g_icmp_ge hC 69 h_v3_2 (h_M_3 _ _) dX1_sortReaches_9 rfl (fun c_24 => ?_) (fun c_24 => ?_)
  · replace hf := hf.1 c_24
    exact g_retv hC h_M_3 hf dX1_sortReaches_69
  · replace hf := hf.2 c_24
    refine g_iconst hC dX1_sortReaches_12 ?_
    refine g_istore hC [(4, J 0), (0, .ref (B + n)), (1, .ref (B + a1)), (2, J v2_1), (3, J v3_2)] dX1_sortReaches_13 (by decide) rfl ?_
    refine g_sub [(0, .ref (B + n)), (1, .ref (B + a1)), (2, J v2_1), (3, J v3_2), (4, J 0)] [1, 2, 3, 4, 0] rfl ?_
    refine wl3_elim (fun (v2_4 : Int) (v4_5 : Int) (M_6 : Mem) => inR v2_4 → inR v4_5 → MR M_6 → G p l e (rmF 0 0) s m args below meth c B D K 5 0 0 (ZV below args s B D K Q) M_6 15 [(0, .ref (B + n)), (1, .ref (B + a1)), (2, J v2_4), (3, J v3_2), (4, J v4_5)] []) ?_ 5000 v2_1 0 M_3 hf h_v2_1 (by unfold inR; omega) h_M_3
    intro rec15 ih15 v2_4 v4_5 M_6 hf h_v2_4 h_v4_5 h_M_6
    unfold X1_sortReaches_b15 at hf
    refine g_iload hC 4 dX1_sortReaches_15 rfl ?_
    refine g_aload_n hC 1 dX1_sortReaches_17 rfl rfl ?_
    refine g_geti hC okX5 (sh_X5 h_a1) 1 (by decide) rfl wf_X1_81 dX1_sortReaches_18 ?_
    refine g_icmp_ge hC 63 h_v4_5 (h_M_6 _ _) dX1_sortReaches_21 rfl (fun c_23 => ?_) (fun c_23 => ?_)
    · replace hf := hf.1 c_23
      obtain ⟨q_8, hf⟩ := hf
      obtain ⟨v3_7, e_v3_7⟩ : ∃ z : Int, z = v3_2 + 1 := ⟨_, rfl⟩
      replace hf := hf v3_7 e_v3_7
      have h_v3_7 : inR v3_7 := by rw [e_v3_7]; exact q_8
      refine g_iincv hC 3 e_v3_7 [(3, J v3_7), (0, .ref (B + n)), (1, .ref (B + a1)), (2, J v2_4), (4, J v4_5)] dX1_sortReaches_63 rfl (by decide) rfl ?_
      refine g_goto hC 4 dX1_sortReaches_66 rfl ?_
      refine g_sub [(0, .ref (B + n)), (1, .ref (B + a1)), (2, J v2_4), (3, J v3_7)] [1, 2, 3, 0] rfl ?_
      exact ih4 v2_4 v3_7 M_6 hf h_v2_4 h_v3_7 h_M_6
    · replace hf := hf.2 c_23
      refine g_aload_n hC 1 dX1_sortReaches_24 rfl rfl ?_
      refine g_getr hC okX5 (sh_X5 h_a1) 2 (by decide) rfl wf_X1_87 dX1_sortReaches_25 ?_
      refine g_iload hC 4 dX1_sortReaches_28 rfl ?_
      obtain ⟨q_9, hf⟩ := hf
      refine g_ialdk (v4_5.toNat) hC (sh_X5_2 h_a1) q_9.1 q_9.2 rfl dX1_sortReaches_30 ?_
      refine g_aload_n hC 0 dX1_sortReaches_31 rfl rfl ?_
      refine g_getr hC okX1 (sh_X1 h_n) 0 (by decide) rfl wf_X1_9 dX1_sortReaches_32 ?_
      refine g_iload_n hC 3 dX1_sortReaches_35 rfl rfl ?_
      obtain ⟨q_10, hf⟩ := hf
      refine g_ialdk (v3_2.toNat) hC (sh_X1_0 h_n) q_10.1 q_10.2 rfl dX1_sortReaches_36 ?_
      refine g_icmp_ne hC 57 (h_M_6 _ _) (h_M_6 _ _) dX1_sortReaches_37 rfl (fun c_22 => ?_) (fun c_22 => ?_)
      · replace hf := hf.1 c_22
        obtain ⟨q_12, hf⟩ := hf
        obtain ⟨v4_11, e_v4_11⟩ : ∃ z : Int, z = v4_5 + 1 := ⟨_, rfl⟩
        replace hf := hf v4_11 e_v4_11
        have h_v4_11 : inR v4_11 := by rw [e_v4_11]; exact q_12
        refine g_iincv hC 4 e_v4_11 [(4, J v4_11), (0, .ref (B + n)), (1, .ref (B + a1)), (2, J v2_4), (3, J v3_2)] dX1_sortReaches_57 rfl (by decide) rfl ?_
        refine g_goto hC 15 dX1_sortReaches_60 rfl ?_
        refine g_sub [(0, .ref (B + n)), (1, .ref (B + a1)), (2, J v2_4), (3, J v3_2), (4, J v4_11)] [1, 2, 3, 4, 0] rfl ?_
        exact ih15 v2_4 v4_11 M_6 hf h_v2_4 h_v4_11 h_M_6
      · replace hf := hf.2 c_22
        refine g_iload_n hC 2 dX1_sortReaches_40 rfl rfl ?_
        refine g_bipush hC dX1_sortReaches_41 (by decide) ?_
        refine g_icmp_ge hC 57 h_v2_4 (by unfold inR; omega) dX1_sortReaches_43 rfl (fun c_21 => ?_) (fun c_21 => ?_)
        · replace hf := hf.1 c_21
          obtain ⟨q_14, hf⟩ := hf
          obtain ⟨v4_13, e_v4_13⟩ : ∃ z : Int, z = v4_5 + 1 := ⟨_, rfl⟩
          replace hf := hf v4_13 e_v4_13
          have h_v4_13 : inR v4_13 := by rw [e_v4_13]; exact q_14
          refine g_iincv hC 4 e_v4_13 [(4, J v4_13), (0, .ref (B + n)), (1, .ref (B + a1)), (2, J v2_4), (3, J v3_2)] dX1_sortReaches_57 rfl (by decide) rfl ?_
          refine g_goto hC 15 dX1_sortReaches_60 rfl ?_
          refine g_sub [(0, .ref (B + n)), (1, .ref (B + a1)), (2, J v2_4), (3, J v3_2), (4, J v4_13)] [1, 2, 3, 4, 0] rfl ?_
          exact ih15 v2_4 v4_13 M_6 hf h_v2_4 h_v4_13 h_M_6
        · replace hf := hf.2 c_21
          refine g_aload_n hC 0 dX1_sortReaches_46 rfl rfl ?_
          refine g_getr hC okX1 (sh_X1 h_n) 1 (by decide) rfl wf_X1_15 dX1_sortReaches_47 ?_
          refine g_iload_n hC 2 dX1_sortReaches_50 rfl rfl ?_
          refine g_iload hC 4 dX1_sortReaches_51 rfl ?_
          obtain ⟨q_15, hf⟩ := hf
          refine g_iastk (v2_4.toNat) hC (sh_X1_1 h_n) q_15.1 q_15.2 rfl dX1_sortReaches_53 ?_
          refine g_nmM (fun M_16 e_M_16 => ?_)
          replace hf := hf M_16 e_M_16
          have h_M_16 : MR M_16 := by rw [e_M_16]; exact MR_st h_M_6 h_v4_5
          obtain ⟨q_18, hf⟩ := hf
          obtain ⟨v2_17, e_v2_17⟩ : ∃ z : Int, z = v2_4 + 1 := ⟨_, rfl⟩
          replace hf := hf v2_17 e_v2_17
          have h_v2_17 : inR v2_17 := by rw [e_v2_17]; exact q_18
          refine g_iincv hC 2 e_v2_17 [(2, J v2_17), (0, .ref (B + n)), (1, .ref (B + a1)), (3, J v3_2), (4, J v4_5)] dX1_sortReaches_54 rfl (by decide) rfl ?_
          obtain ⟨q_20, hf⟩ := hf
          obtain ⟨v4_19, e_v4_19⟩ : ∃ z : Int, z = v4_5 + 1 := ⟨_, rfl⟩
          replace hf := hf v4_19 e_v4_19
          have h_v4_19 : inR v4_19 := by rw [e_v4_19]; exact q_20
          refine g_iincv hC 4 e_v4_19 [(4, J v4_19), (2, J v2_17), (0, .ref (B + n)), (1, .ref (B + a1)), (3, J v3_2)] dX1_sortReaches_57 rfl (by decide) rfl ?_
          refine g_goto hC 15 dX1_sortReaches_60 rfl ?_
          refine g_sub [(0, .ref (B + n)), (1, .ref (B + a1)), (2, J v2_17), (3, J v3_2), (4, J v4_19)] [2, 3, 1, 4, 0] rfl ?_
          exact ih15 v2_17 v4_19 M_16 hf h_v2_17 h_v4_19 h_M_16
set_option maxHeartbeats 4000000 in
set_option maxRecDepth 100000 in
theorem c_X1_lookUp (l : Launch) (B : Nat) (D : va_G) (K : Nat → ClassId) (n : Nat) (a1 : Nat) (h_n : is_X1 n) (h_a1 : is_X5 a1) (M : Mem) (hM : MR M) (Q : Mem → Prop) (hf : f_X1_lookUp n a1 M Q) : CtV l yX1_lookUp cX1_lookUp 6 1 40 B D K [.ref (B + n), .ref (B + a1)] M Q := by
  refine ct_v (by decide) (Nat.le_of_ble_eq_true rfl) ?_
  intro p e s m args below meth c hC
  have hC : Cx p s m args meth c D K cX1_lookUp 6 RX1 none := hC
  unfold f_X1_lookUp at hf
  refine (show G p l e (rmF 1 40) s m args below meth c B D K 6 0 0 (ZV below args s B D K Q) M 0 [(0, .ref (B + n)), (1, .ref (B + a1))] [] from ?_)
  refine g_aload_n hC 0 dX1_lookUp_0 rfl rfl ?_
  refine g_getr hC okX1 (sh_X1 h_n) 4 (by decide) rfl wf_X1_24 dX1_lookUp_1 ?_
  refine g_iconst hC dX1_lookUp_4 ?_
  refine g_callSV hC (sk := []) [.ref (B + (n + 5)), J 0] (c_fill l B D K (n + 5) _ (sh_X1_4 h_n) 0 (by unfold inR; omega) M hM) yv_J7_fill_53178 wm_X1_75 rfl ⟨Nat.le_of_ble_eq_true rfl, Nat.le_of_ble_eq_true rfl, Nat.le_of_ble_eq_true rfl, Nat.le_of_ble_eq_true rfl⟩ rfl (Nat.le_of_ble_eq_true rfl) dX1_lookUp_5 ?_
  intro M_1 h_M_1 e_M_1
  replace hf := hf M_1 e_M_1
  refine g_aload_n hC 0 dX1_lookUp_8 rfl rfl ?_
  refine g_getr hC okX1 (sh_X1 h_n) 6 (by decide) rfl wf_X1_30 dX1_lookUp_9 ?_
  refine g_iconst hC dX1_lookUp_12 ?_
  refine g_callSV hC (sk := []) [.ref (B + (n + 7)), J 0] (c_fill l B D K (n + 7) _ (sh_X1_6 h_n) 0 (by unfold inR; omega) M_1 h_M_1) yv_J7_fill_53178 wm_X1_75 rfl ⟨Nat.le_of_ble_eq_true rfl, Nat.le_of_ble_eq_true rfl, Nat.le_of_ble_eq_true rfl, Nat.le_of_ble_eq_true rfl⟩ rfl (Nat.le_of_ble_eq_true rfl) dX1_lookUp_13 ?_
  intro M_2 h_M_2 e_M_2
  replace hf := hf M_2 e_M_2
  refine g_iconst hC dX1_lookUp_16 ?_
  refine g_istore_n hC [(2, J 0), (0, .ref (B + n)), (1, .ref (B + a1))] dX1_lookUp_17 rfl (by decide) rfl ?_
  refine g_sub [(0, .ref (B + n)), (1, .ref (B + a1)), (2, J 0)] [1, 2, 0] rfl ?_
  refine wl2_elim (fun (v2_3 : Int) (M_4 : Mem) => inR v2_3 → MR M_4 → G p l e (rmF 1 40) s m args below meth c B D K 6 0 0 (ZV below args s B D K Q) M_4 18 [(0, .ref (B + n)), (1, .ref (B + a1)), (2, J v2_3)] []) ?_ 5000 0 M_2 hf (by unfold inR; omega) h_M_2
  intro rec18 ih18 v2_3 M_4 hf h_v2_3 h_M_4
  unfold X1_lookUp_b18 at hf
  refine g_iload_n hC 2 dX1_lookUp_18 rfl rfl ?_
  refine g_aload_n hC 1 dX1_lookUp_19 rfl rfl ?_
  refine g_geti hC okX5 (sh_X5 h_a1) 1 (by decide) rfl wf_X1_81 dX1_lookUp_20 ?_
  refine g_icmp_ge hC 108 h_v2_3 (h_M_4 _ _) dX1_lookUp_23 rfl (fun c_17 => ?_) (fun c_17 => ?_)
  · replace hf := hf.1 c_17
    exact g_retv hC h_M_4 hf dX1_lookUp_108
  · replace hf := hf.2 c_17
    refine g_aload_n hC 0 dX1_lookUp_26 rfl rfl ?_
    refine g_getr hC okX1 (sh_X1 h_n) 1 (by decide) rfl wf_X1_15 dX1_lookUp_27 ?_
    refine g_iload_n hC 2 dX1_lookUp_30 rfl rfl ?_
    obtain ⟨q_5, hf⟩ := hf
    refine g_ialdk (v2_3.toNat) hC (sh_X1_1 h_n) q_5.1 q_5.2 rfl dX1_lookUp_31 ?_
    refine g_nm (fun v3_6 e_v3_6 => ?_)
    replace hf := hf v3_6 e_v3_6
    have h_v3_6 : inR v3_6 := by rw [e_v3_6]; exact (h_M_4 _ _)
    refine g_istore_n hC [(3, J v3_6), (0, .ref (B + n)), (1, .ref (B + a1)), (2, J v2_3)] dX1_lookUp_32 rfl (by decide) rfl ?_
    refine g_aload_n hC 2 dX1_lookUp_33 rfl rfl ?_
    refine g_getr hC okX5 (sh_X5 h_a1) 2 (by decide) rfl wf_X1_87 dX1_lookUp_34 ?_
    refine g_iload_n hC 0 dX1_lookUp_37 rfl rfl ?_
    obtain ⟨q_7, hf⟩ := hf
    refine g_ialdk (v3_6.toNat) hC (sh_X5_2 h_a1) q_7.1 q_7.2 rfl dX1_lookUp_38 ?_
    refine g_nm (fun v4_8 e_v4_8 => ?_)
    replace hf := hf v4_8 e_v4_8
    have h_v4_8 : inR v4_8 := by rw [e_v4_8]; exact (h_M_4 _ _)
    refine g_istore hC [(4, J v4_8), (3, J v3_6), (0, .ref (B + n)), (1, .ref (B + a1)), (2, J v2_3)] dX1_lookUp_39 (by decide) rfl ?_
    refine g_aload_n hC 3 dX1_lookUp_41 rfl rfl ?_
    refine g_getr hC okX5 (sh_X5 h_a1) 3 (by decide) rfl wf_X1_90 dX1_lookUp_42 ?_
    refine g_iload_n hC 1 dX1_lookUp_45 rfl rfl ?_
    refine g_ialdk (v3_6.toNat) hC (sh_X5_3 h_a1) q_7.1 q_7.2 rfl dX1_lookUp_46 ?_
    refine g_nm (fun v5_9 e_v5_9 => ?_)
    replace hf := hf v5_9 e_v5_9
    have h_v5_9 : inR v5_9 := by rw [e_v5_9]; exact (h_M_4 _ _)
    refine g_istore hC [(5, J v5_9), (4, J v4_8), (3, J v3_6), (0, .ref (B + n)), (1, .ref (B + a1)), (2, J v2_3)] dX1_lookUp_47 (by decide) rfl ?_
    refine g_aload_n hC 3 dX1_lookUp_49 rfl rfl ?_
    refine g_getr hC okX1 (sh_X1 h_n) 4 (by decide) rfl wf_X1_24 dX1_lookUp_50 ?_
    refine g_iload hC 0 dX1_lookUp_53 rfl ?_
    refine g_dup2 hC dX1_lookUp_55 rfl rfl ?_
    obtain ⟨q_10, hf⟩ := hf
    refine g_ialdk (v5_9.toNat) hC (sh_X1_4 h_n) q_10.1 q_10.2 rfl dX1_lookUp_56 ?_
    refine g_aload_n hC 3 dX1_lookUp_57 rfl rfl ?_
    refine g_getr hC okX1 (sh_X1 h_n) 4 (by decide) rfl wf_X1_24 dX1_lookUp_58 ?_
    refine g_iload hC 1 dX1_lookUp_61 rfl ?_
    obtain ⟨q_11, hf⟩ := hf
    refine g_ialdk (v4_8.toNat) hC (sh_X1_4 h_n) q_11.1 q_11.2 rfl dX1_lookUp_63 ?_
    refine g_iconst hC dX1_lookUp_64 ?_
    refine g_iload hC 1 dX1_lookUp_65 rfl ?_
    refine g_ishl hC dX1_lookUp_67 ?_
    refine g_ior hC dX1_lookUp_68 ?_
    refine g_ior hC dX1_lookUp_69 ?_
    refine g_iastk (v5_9.toNat) hC (sh_X1_4 h_n) q_10.1 q_10.2 rfl dX1_lookUp_70 ?_
    refine g_nmM (fun M_12 e_M_12 => ?_)
    replace hf := hf M_12 e_M_12
    have h_M_12 : MR M_12 := by rw [e_M_12]; exact MR_st h_M_4 (bOr_in _ _)
    refine g_aload_n hC 3 dX1_lookUp_71 rfl rfl ?_
    refine g_getr hC okX1 (sh_X1 h_n) 6 (by decide) rfl wf_X1_30 dX1_lookUp_72 ?_
    refine g_iload hC 0 dX1_lookUp_75 rfl ?_
    refine g_aload_n hC 3 dX1_lookUp_77 rfl rfl ?_
    refine g_getr hC okX1 (sh_X1 h_n) 6 (by decide) rfl wf_X1_30 dX1_lookUp_78 ?_
    refine g_iload hC 0 dX1_lookUp_81 rfl ?_
    refine g_ialdk (v5_9.toNat) hC (sh_X1_6 h_n) q_10.1 q_10.2 rfl dX1_lookUp_83 ?_
    refine g_aload_n hC 3 dX1_lookUp_84 rfl rfl ?_
    refine g_getr hC okX1 (sh_X1 h_n) 6 (by decide) rfl wf_X1_30 dX1_lookUp_85 ?_
    refine g_iload hC 1 dX1_lookUp_88 rfl ?_
    refine g_ialdk (v4_8.toNat) hC (sh_X1_6 h_n) q_11.1 q_11.2 rfl dX1_lookUp_90 ?_
    refine g_aload_n hC 4 dX1_lookUp_91 rfl rfl ?_
    refine g_getr hC okX5 (sh_X5 h_a1) 4 (by decide) rfl wf_X1_102 dX1_lookUp_92 ?_
    refine g_iload_n hC 2 dX1_lookUp_95 rfl rfl ?_
    refine g_ialdk (v3_6.toNat) hC (sh_X5_4 h_a1) q_7.1 q_7.2 rfl dX1_lookUp_96 ?_
    refine g_iadd hC dX1_lookUp_97 ?_
    obtain ⟨q_13, hf⟩ := hf
    refine g_max hC (h_M_12 _ _) q_13 ⟨wm_X1_105, wj_max⟩ (Nat.le_of_ble_eq_true rfl) (Nat.le_of_ble_eq_true rfl) (Nat.zero_le _) (Nat.zero_le _) dX1_lookUp_98 ?_
    refine g_iastk (v5_9.toNat) hC (sh_X1_6 h_n) q_10.1 q_10.2 rfl dX1_lookUp_101 ?_
    refine g_nmM (fun M_14 e_M_14 => ?_)
    replace hf := hf M_14 e_M_14
    have h_M_14 : MR M_14 := by rw [e_M_14]; exact MR_st h_M_12 (max_in (h_M_12 _ _) q_13)
    obtain ⟨q_16, hf⟩ := hf
    obtain ⟨v2_15, e_v2_15⟩ : ∃ z : Int, z = v2_3 + 1 := ⟨_, rfl⟩
    replace hf := hf v2_15 e_v2_15
    have h_v2_15 : inR v2_15 := by rw [e_v2_15]; exact q_16
    refine g_iincv hC 5 e_v2_15 [(2, J v2_15), (5, J v5_9), (4, J v4_8), (3, J v3_6), (0, .ref (B + n)), (1, .ref (B + a1))] dX1_lookUp_102 rfl (by decide) rfl ?_
    refine g_goto hC 18 dX1_lookUp_105 rfl ?_
    refine g_sub [(0, .ref (B + n)), (1, .ref (B + a1)), (2, J v2_15)] [4, 5, 0] rfl ?_
    exact ih18 v2_15 M_14 hf h_v2_15 h_M_14
set_option maxHeartbeats 4000000 in
set_option maxRecDepth 100000 in
theorem c_X1_lookDown (l : Launch) (B : Nat) (D : va_G) (K : Nat → ClassId) (n : Nat) (a1 : Nat) (h_n : is_X1 n) (h_a1 : is_X5 a1) (M : Mem) (hM : MR M) (Q : Mem → Prop) (hf : f_X1_lookDown n a1 M Q) : CtV l yX1_lookDown cX1_lookDown 6 1 40 B D K [.ref (B + n), .ref (B + a1)] M Q := by
  refine ct_v (by decide) (Nat.le_of_ble_eq_true rfl) ?_
  intro p e s m args below meth c hC
  have hC : Cx p s m args meth c D K cX1_lookDown 6 RX1 none := hC
  unfold f_X1_lookDown at hf
  refine (show G p l e (rmF 1 40) s m args below meth c B D K 6 0 0 (ZV below args s B D K Q) M 0 [(0, .ref (B + n)), (1, .ref (B + a1))] [] from ?_)
  refine g_aload_n hC 0 dX1_lookDown_0 rfl rfl ?_
  refine g_getr hC okX1 (sh_X1 h_n) 5 (by decide) rfl wf_X1_27 dX1_lookDown_1 ?_
  refine g_iconst hC dX1_lookDown_4 ?_
  refine g_callSV hC (sk := []) [.ref (B + (n + 6)), J 0] (c_fill l B D K (n + 6) _ (sh_X1_5 h_n) 0 (by unfold inR; omega) M hM) yv_J7_fill_53178 wm_X1_75 rfl ⟨Nat.le_of_ble_eq_true rfl, Nat.le_of_ble_eq_true rfl, Nat.le_of_ble_eq_true rfl, Nat.le_of_ble_eq_true rfl⟩ rfl (Nat.le_of_ble_eq_true rfl) dX1_lookDown_5 ?_
  intro M_1 h_M_1 e_M_1
  replace hf := hf M_1 e_M_1
  refine g_aload_n hC 0 dX1_lookDown_8 rfl rfl ?_
  refine g_getr hC okX1 (sh_X1 h_n) 7 (by decide) rfl wf_X1_33 dX1_lookDown_9 ?_
  refine g_iconst hC dX1_lookDown_12 ?_
  refine g_callSV hC (sk := []) [.ref (B + (n + 8)), J 0] (c_fill l B D K (n + 8) _ (sh_X1_7 h_n) 0 (by unfold inR; omega) M_1 h_M_1) yv_J7_fill_53178 wm_X1_75 rfl ⟨Nat.le_of_ble_eq_true rfl, Nat.le_of_ble_eq_true rfl, Nat.le_of_ble_eq_true rfl, Nat.le_of_ble_eq_true rfl⟩ rfl (Nat.le_of_ble_eq_true rfl) dX1_lookDown_13 ?_
  intro M_2 h_M_2 e_M_2
  replace hf := hf M_2 e_M_2
  refine g_aload_n hC 1 dX1_lookDown_16 rfl rfl ?_
  refine g_geti hC okX5 (sh_X5 h_a1) 1 (by decide) rfl wf_X1_81 dX1_lookDown_17 ?_
  refine g_iconst hC dX1_lookDown_20 ?_
  refine g_isub hC dX1_lookDown_21 ?_
  obtain ⟨q_3, hf⟩ := hf
  refine g_nm (fun v2_4 e_v2_4 => ?_)
  replace hf := hf v2_4 e_v2_4
  have h_v2_4 : inR v2_4 := by rw [e_v2_4]; exact q_3
  refine g_istore_n hC [(2, J v2_4), (0, .ref (B + n)), (1, .ref (B + a1))] dX1_lookDown_22 rfl (by decide) rfl ?_
  refine g_sub [(0, .ref (B + n)), (1, .ref (B + a1)), (2, J v2_4)] [1, 2, 0] rfl ?_
  refine wl2_elim (fun (v2_5 : Int) (M_6 : Mem) => inR v2_5 → MR M_6 → G p l e (rmF 1 40) s m args below meth c B D K 6 0 0 (ZV below args s B D K Q) M_6 23 [(0, .ref (B + n)), (1, .ref (B + a1)), (2, J v2_5)] []) ?_ 5000 v2_4 M_2 hf h_v2_4 h_M_2
  intro rec23 ih23 v2_5 M_6 hf h_v2_5 h_M_6
  unfold X1_lookDown_b23 at hf
  refine g_iload_n hC 2 dX1_lookDown_23 rfl rfl ?_
  refine g_if_lt hC 109 h_v2_5 dX1_lookDown_24 rfl (fun c_19 => ?_) (fun c_19 => ?_)
  · replace hf := hf.1 c_19
    exact g_retv hC h_M_6 hf dX1_lookDown_109
  · replace hf := hf.2 c_19
    refine g_aload_n hC 0 dX1_lookDown_27 rfl rfl ?_
    refine g_getr hC okX1 (sh_X1 h_n) 1 (by decide) rfl wf_X1_15 dX1_lookDown_28 ?_
    refine g_iload_n hC 2 dX1_lookDown_31 rfl rfl ?_
    obtain ⟨q_7, hf⟩ := hf
    refine g_ialdk (v2_5.toNat) hC (sh_X1_1 h_n) q_7.1 q_7.2 rfl dX1_lookDown_32 ?_
    refine g_nm (fun v3_8 e_v3_8 => ?_)
    replace hf := hf v3_8 e_v3_8
    have h_v3_8 : inR v3_8 := by rw [e_v3_8]; exact (h_M_6 _ _)
    refine g_istore_n hC [(3, J v3_8), (0, .ref (B + n)), (1, .ref (B + a1)), (2, J v2_5)] dX1_lookDown_33 rfl (by decide) rfl ?_
    refine g_aload_n hC 2 dX1_lookDown_34 rfl rfl ?_
    refine g_getr hC okX5 (sh_X5 h_a1) 2 (by decide) rfl wf_X1_87 dX1_lookDown_35 ?_
    refine g_iload_n hC 0 dX1_lookDown_38 rfl rfl ?_
    obtain ⟨q_9, hf⟩ := hf
    refine g_ialdk (v3_8.toNat) hC (sh_X5_2 h_a1) q_9.1 q_9.2 rfl dX1_lookDown_39 ?_
    refine g_nm (fun v4_10 e_v4_10 => ?_)
    replace hf := hf v4_10 e_v4_10
    have h_v4_10 : inR v4_10 := by rw [e_v4_10]; exact (h_M_6 _ _)
    refine g_istore hC [(4, J v4_10), (3, J v3_8), (0, .ref (B + n)), (1, .ref (B + a1)), (2, J v2_5)] dX1_lookDown_40 (by decide) rfl ?_
    refine g_aload_n hC 3 dX1_lookDown_42 rfl rfl ?_
    refine g_getr hC okX5 (sh_X5 h_a1) 3 (by decide) rfl wf_X1_90 dX1_lookDown_43 ?_
    refine g_iload_n hC 1 dX1_lookDown_46 rfl rfl ?_
    refine g_ialdk (v3_8.toNat) hC (sh_X5_3 h_a1) q_9.1 q_9.2 rfl dX1_lookDown_47 ?_
    refine g_nm (fun v5_11 e_v5_11 => ?_)
    replace hf := hf v5_11 e_v5_11
    have h_v5_11 : inR v5_11 := by rw [e_v5_11]; exact (h_M_6 _ _)
    refine g_istore hC [(5, J v5_11), (4, J v4_10), (3, J v3_8), (0, .ref (B + n)), (1, .ref (B + a1)), (2, J v2_5)] dX1_lookDown_48 (by decide) rfl ?_
    refine g_aload_n hC 3 dX1_lookDown_50 rfl rfl ?_
    refine g_getr hC okX1 (sh_X1 h_n) 5 (by decide) rfl wf_X1_27 dX1_lookDown_51 ?_
    refine g_iload hC 1 dX1_lookDown_54 rfl ?_
    refine g_dup2 hC dX1_lookDown_56 rfl rfl ?_
    obtain ⟨q_12, hf⟩ := hf
    refine g_ialdk (v4_10.toNat) hC (sh_X1_5 h_n) q_12.1 q_12.2 rfl dX1_lookDown_57 ?_
    refine g_aload_n hC 3 dX1_lookDown_58 rfl rfl ?_
    refine g_getr hC okX1 (sh_X1 h_n) 5 (by decide) rfl wf_X1_27 dX1_lookDown_59 ?_
    refine g_iload hC 0 dX1_lookDown_62 rfl ?_
    obtain ⟨q_13, hf⟩ := hf
    refine g_ialdk (v5_11.toNat) hC (sh_X1_5 h_n) q_13.1 q_13.2 rfl dX1_lookDown_64 ?_
    refine g_iconst hC dX1_lookDown_65 ?_
    refine g_iload hC 0 dX1_lookDown_66 rfl ?_
    refine g_ishl hC dX1_lookDown_68 ?_
    refine g_ior hC dX1_lookDown_69 ?_
    refine g_ior hC dX1_lookDown_70 ?_
    refine g_iastk (v4_10.toNat) hC (sh_X1_5 h_n) q_12.1 q_12.2 rfl dX1_lookDown_71 ?_
    refine g_nmM (fun M_14 e_M_14 => ?_)
    replace hf := hf M_14 e_M_14
    have h_M_14 : MR M_14 := by rw [e_M_14]; exact MR_st h_M_6 (bOr_in _ _)
    refine g_aload_n hC 3 dX1_lookDown_72 rfl rfl ?_
    refine g_getr hC okX1 (sh_X1 h_n) 7 (by decide) rfl wf_X1_33 dX1_lookDown_73 ?_
    refine g_iload hC 1 dX1_lookDown_76 rfl ?_
    refine g_aload_n hC 3 dX1_lookDown_78 rfl rfl ?_
    refine g_getr hC okX1 (sh_X1 h_n) 7 (by decide) rfl wf_X1_33 dX1_lookDown_79 ?_
    refine g_iload hC 1 dX1_lookDown_82 rfl ?_
    refine g_ialdk (v4_10.toNat) hC (sh_X1_7 h_n) q_12.1 q_12.2 rfl dX1_lookDown_84 ?_
    refine g_aload_n hC 3 dX1_lookDown_85 rfl rfl ?_
    refine g_getr hC okX1 (sh_X1 h_n) 7 (by decide) rfl wf_X1_33 dX1_lookDown_86 ?_
    refine g_iload hC 0 dX1_lookDown_89 rfl ?_
    refine g_ialdk (v5_11.toNat) hC (sh_X1_7 h_n) q_13.1 q_13.2 rfl dX1_lookDown_91 ?_
    refine g_aload_n hC 4 dX1_lookDown_92 rfl rfl ?_
    refine g_getr hC okX5 (sh_X5 h_a1) 4 (by decide) rfl wf_X1_102 dX1_lookDown_93 ?_
    refine g_iload_n hC 2 dX1_lookDown_96 rfl rfl ?_
    refine g_ialdk (v3_8.toNat) hC (sh_X5_4 h_a1) q_9.1 q_9.2 rfl dX1_lookDown_97 ?_
    refine g_iadd hC dX1_lookDown_98 ?_
    obtain ⟨q_15, hf⟩ := hf
    refine g_max hC (h_M_14 _ _) q_15 ⟨wm_X1_105, wj_max⟩ (Nat.le_of_ble_eq_true rfl) (Nat.le_of_ble_eq_true rfl) (Nat.zero_le _) (Nat.zero_le _) dX1_lookDown_99 ?_
    refine g_iastk (v4_10.toNat) hC (sh_X1_7 h_n) q_12.1 q_12.2 rfl dX1_lookDown_102 ?_
    refine g_nmM (fun M_16 e_M_16 => ?_)
    replace hf := hf M_16 e_M_16
    have h_M_16 : MR M_16 := by rw [e_M_16]; exact MR_st h_M_14 (max_in (h_M_14 _ _) q_15)
    obtain ⟨q_18, hf⟩ := hf
    obtain ⟨v2_17, e_v2_17⟩ : ∃ z : Int, z = v2_5 + (-1) := ⟨_, rfl⟩
    replace hf := hf v2_17 e_v2_17
    have h_v2_17 : inR v2_17 := by rw [e_v2_17]; exact q_18
    refine g_iincv hC 5 e_v2_17 [(2, J v2_17), (5, J v5_11), (4, J v4_10), (3, J v3_8), (0, .ref (B + n)), (1, .ref (B + a1))] dX1_lookDown_103 rfl (by decide) rfl ?_
    refine g_goto hC 23 dX1_lookDown_106 rfl ?_
    refine g_sub [(0, .ref (B + n)), (1, .ref (B + a1)), (2, J v2_17)] [4, 5, 0] rfl ?_
    exact ih23 v2_17 M_16 hf h_v2_17 h_M_16
set_option maxHeartbeats 4000000 in
set_option maxRecDepth 100000 in
theorem c_X2_share (l : Launch) (B : Nat) (D : va_G) (K : Nat → ClassId) (n : Nat) (v1 : Int) (h_n : is_X2 n) (i_v1 : inR v1) (M : Mem) (hM : MR M) (Q : Int → Mem → Prop) (hf : f_X2_share n v1 M Q) : CtI l yX2_share cX2_share 4 0 0 B D K [.ref (B + n), J v1] M Q := by
  refine ct_i (by decide) (Nat.le_of_ble_eq_true rfl) ?_
  intro p e s m args below meth c hC
  have hC : Cx p s m args meth c D K cX2_share 4 RX2 (some .int) := hC
  unfold f_X2_share at hf
  refine (show G p l e (rmF 0 0) s m args below meth c B D K 4 0 0 (ZI below args s B D K Q) M 0 [(0, .ref (B + n)), (1, J v1)] [] from ?_)
  refine g_aload_n hC 0 dX2_share_0 rfl rfl ?_
  refine g_getr hC okX2 (sh_X2 h_n) 2 (by decide) rfl wf_X2_18 dX2_share_1 ?_
  refine g_iload_n hC 1 dX2_share_4 rfl rfl ?_
  obtain ⟨q_1, hf⟩ := hf
  refine g_ialdk (v1.toNat) hC (sh_X2_2 h_n) q_1.1 q_1.2 rfl dX2_share_5 ?_
  refine g_nm (fun v2_2 e_v2_2 => ?_)
  replace hf := hf v2_2 e_v2_2
  have h_v2_2 : inR v2_2 := by rw [e_v2_2]; exact (hM _ _)
  refine g_istore_n hC [(2, J v2_2), (0, .ref (B + n)), (1, J v1)] dX2_share_6 rfl (by decide) rfl ?_
  refine g_iload_n hC 0 dX2_share_7 rfl rfl ?_
  refine g_if_ne hC 13 h_v2_2 dX2_share_8 rfl (fun c_9 => ?_) (fun c_9 => ?_)
  · replace hf := hf.1 c_9
    refine g_aload_n hC 1 dX2_share_13 rfl rfl ?_
    refine g_getr hC okX2 (sh_X2 h_n) 3 (by decide) rfl wf_X2_21 dX2_share_14 ?_
    refine g_iload_n hC 2 dX2_share_17 rfl rfl ?_
    refine g_ialdk (v1.toNat) hC (sh_X2_3 h_n) q_1.1 q_1.2 rfl dX2_share_18 ?_
    refine g_aload_n hC 1 dX2_share_19 rfl rfl ?_
    refine g_getr hC okX2 (sh_X2 h_n) 1 (by decide) rfl wf_X2_15 dX2_share_20 ?_
    refine g_iload_n hC 2 dX2_share_23 rfl rfl ?_
    refine g_ialdk (v1.toNat) hC (sh_X2_1 h_n) q_1.1 q_1.2 rfl dX2_share_24 ?_
    refine g_iload_n hC 0 dX2_share_25 rfl rfl ?_
    obtain ⟨q_3, hf⟩ := hf
    refine g_irem hC (hM _ _) h_v2_2 q_3 dX2_share_26 ?_
    obtain ⟨q_4, hf⟩ := hf
    refine jn_elim (fun (k : Int → Prop) => ∀ (s0_5 : Int), k s0_5 → ((s0_5 = 0 ∨ s0_5 = 1)) → G p l e (rmF 0 0) s m args below meth c B D K 4 0 0 (ZI below args s B D K Q) M 35 [(0, .ref (B + n)), (1, J v1), (2, J v2_2)] [J s0_5]) hf ?_ ?_
    · intro s0_5 hf h_s0_5
      refine g_istore_n hC [(3, J s0_5), (0, .ref (B + n)), (1, J v1), (2, J v2_2)] dX2_share_35 rfl (by decide) rfl ?_
      refine g_aload_n hC 1 dX2_share_36 rfl rfl ?_
      refine g_getr hC okX2 (sh_X2 h_n) 3 (by decide) rfl wf_X2_21 dX2_share_37 ?_
      refine g_iload_n hC 2 dX2_share_40 rfl rfl ?_
      refine g_dup2 hC dX2_share_41 rfl rfl ?_
      refine g_ialdk (v1.toNat) hC (sh_X2_3 h_n) q_1.1 q_1.2 rfl dX2_share_42 ?_
      refine g_iconst hC dX2_share_43 ?_
      refine g_iadd hC dX2_share_44 ?_
      refine g_nz ?_
      refine g_iastk (v1.toNat) hC (sh_X2_3 h_n) q_1.1 q_1.2 rfl dX2_share_45 ?_
      refine g_nmM (fun M_6 e_M_6 => ?_)
      replace hf := hf M_6 e_M_6
      have h_M_6 : MR M_6 := by rw [e_M_6]; exact MR_st hM (nz_in _)
      refine g_aload_n hC 1 dX2_share_46 rfl rfl ?_
      refine g_getr hC okX2 (sh_X2 h_n) 1 (by decide) rfl wf_X2_15 dX2_share_47 ?_
      refine g_iload_n hC 2 dX2_share_50 rfl rfl ?_
      refine g_ialdk (v1.toNat) hC (sh_X2_1 h_n) q_1.1 q_1.2 rfl dX2_share_51 ?_
      refine g_iload_n hC 3 dX2_share_52 rfl rfl ?_
      obtain ⟨q_7, hf⟩ := hf
      refine g_idiv hC (h_M_6 _ _) h_v2_2 q_7 dX2_share_53 ?_
      refine g_iload_n hC 0 dX2_share_54 rfl rfl ?_
      refine g_iadd hC dX2_share_55 ?_
      refine g_nz ?_
      exact g_reti hC (nz_in _) h_M_6 hf dX2_share_56
    · intro J35 hJ35 hf
      refine g_icmp_ge hC 34 (hM _ _) q_4 dX2_share_27 rfl (fun c_8 => ?_) (fun c_8 => ?_)
      · replace hf := hf.1 c_8
        refine g_iconst hC dX2_share_34 ?_
        refine g_sub [(0, .ref (B + n)), (1, J v1), (2, J v2_2)] [1, 2, 0] rfl ?_
        exact hJ35 0 hf (Or.inl rfl)
      · replace hf := hf.2 c_8
        refine g_iconst hC dX2_share_30 ?_
        refine g_goto hC 35 dX2_share_31 rfl ?_
        refine g_sub [(0, .ref (B + n)), (1, J v1), (2, J v2_2)] [1, 2, 0] rfl ?_
        exact hJ35 1 hf (Or.inr rfl)
  · replace hf := hf.2 c_9
    refine g_iconst hC dX2_share_11 ?_
    exact g_reti hC (by unfold inR; omega) hM hf dX2_share_12
set_option maxHeartbeats 4000000 in
set_option maxRecDepth 100000 in
theorem c_X2_spread (l : Launch) (B : Nat) (D : va_G) (K : Nat → ClassId) (n : Nat) (a1 : Nat) (a2 : Nat) (v3 : Int) (h_n : is_X2 n) (h_a1 : is_X5 a1) (h_a2 : isIA a2) (i_v3 : inR v3) (M : Mem) (hM : MR M) (Q : Mem → Prop) (hf : f_X2_spread n a1 a2 v3 M Q) : CtV l yX2_spread cX2_spread 6 1 23 B D K [.ref (B + n), .ref (B + a1), .ref (B + a2), J v3] M Q := by
  refine ct_v (by decide) (Nat.le_of_ble_eq_true rfl) ?_
  intro p e s m args below meth c hC
  have hC : Cx p s m args meth c D K cX2_spread 6 RX2 none := hC
  unfold f_X2_spread at hf
  refine (show G p l e (rmF 1 23) s m args below meth c B D K 6 0 0 (ZV below args s B D K Q) M 0 [(0, .ref (B + n)), (1, .ref (B + a1)), (2, .ref (B + a2)), (3, J v3)] [] from ?_)
  refine g_aload_n hC 0 dX2_spread_0 rfl rfl ?_
  refine g_getr hC okX2 (sh_X2 h_n) 1 (by decide) rfl wf_X2_15 dX2_spread_1 ?_
  refine g_iconst hC dX2_spread_4 ?_
  refine g_callSV hC (sk := []) [.ref (B + (n + 2)), J 0] (c_fill l B D K (n + 2) _ (sh_X2_1 h_n) 0 (by unfold inR; omega) M hM) yv_J7_fill_53178 wm_X2_24 rfl ⟨Nat.le_of_ble_eq_true rfl, Nat.le_of_ble_eq_true rfl, Nat.le_of_ble_eq_true rfl, Nat.le_of_ble_eq_true rfl⟩ rfl (Nat.le_of_ble_eq_true rfl) dX2_spread_5 ?_
  intro M_1 h_M_1 e_M_1
  replace hf := hf M_1 e_M_1
  refine g_aload_n hC 0 dX2_spread_8 rfl rfl ?_
  refine g_getr hC okX2 (sh_X2 h_n) 2 (by decide) rfl wf_X2_18 dX2_spread_9 ?_
  refine g_iconst hC dX2_spread_12 ?_
  refine g_callSV hC (sk := []) [.ref (B + (n + 3)), J 0] (c_fill l B D K (n + 3) _ (sh_X2_2 h_n) 0 (by unfold inR; omega) M_1 h_M_1) yv_J7_fill_53178 wm_X2_24 rfl ⟨Nat.le_of_ble_eq_true rfl, Nat.le_of_ble_eq_true rfl, Nat.le_of_ble_eq_true rfl, Nat.le_of_ble_eq_true rfl⟩ rfl (Nat.le_of_ble_eq_true rfl) dX2_spread_13 ?_
  intro M_2 h_M_2 e_M_2
  replace hf := hf M_2 e_M_2
  refine g_aload_n hC 0 dX2_spread_16 rfl rfl ?_
  refine g_getr hC okX2 (sh_X2 h_n) 3 (by decide) rfl wf_X2_21 dX2_spread_17 ?_
  refine g_iconst hC dX2_spread_20 ?_
  refine g_callSV hC (sk := []) [.ref (B + (n + 4)), J 0] (c_fill l B D K (n + 4) _ (sh_X2_3 h_n) 0 (by unfold inR; omega) M_2 h_M_2) yv_J7_fill_53178 wm_X2_24 rfl ⟨Nat.le_of_ble_eq_true rfl, Nat.le_of_ble_eq_true rfl, Nat.le_of_ble_eq_true rfl, Nat.le_of_ble_eq_true rfl⟩ rfl (Nat.le_of_ble_eq_true rfl) dX2_spread_21 ?_
  intro M_3 h_M_3 e_M_3
  replace hf := hf M_3 e_M_3
  refine g_iconst hC dX2_spread_24 ?_
  refine g_istore hC [(4, J 0), (0, .ref (B + n)), (1, .ref (B + a1)), (2, .ref (B + a2)), (3, J v3)] dX2_spread_25 (by decide) rfl ?_
  refine jn_elim (fun (k : Mem → Prop) => ∀ (M_4 : Mem), k M_4 → (MR M_4) → G p l e (rmF 1 23) s m args below meth c B D K 6 0 0 (ZV below args s B D K Q) M_4 64 [(0, .ref (B + n)), (1, .ref (B + a1)), (2, .ref (B + a2)), (3, J v3)] []) hf ?_ ?_
  · intro M_4 hf h_M_4
    refine g_iconst hC dX2_spread_64 ?_
    refine g_istore hC [(4, J 0), (0, .ref (B + n)), (1, .ref (B + a1)), (2, .ref (B + a2)), (3, J v3)] dX2_spread_65 (by decide) rfl ?_
    refine g_sub [(0, .ref (B + n)), (1, .ref (B + a1)), (2, .ref (B + a2)), (3, J v3), (4, J 0)] [1, 2, 3, 4, 0] rfl ?_
    refine wl2_elim (fun (v4_5 : Int) (M_6 : Mem) => inR v4_5 → MR M_6 → G p l e (rmF 1 23) s m args below meth c B D K 6 0 0 (ZV below args s B D K Q) M_6 67 [(0, .ref (B + n)), (1, .ref (B + a1)), (2, .ref (B + a2)), (3, J v3), (4, J v4_5)] []) ?_ 5000 0 M_4 hf (by unfold inR; omega) h_M_4
    intro rec67 ih67 v4_5 M_6 hf h_v4_5 h_M_6
    unfold X2_spread_b67 at hf
    refine g_iload hC 4 dX2_spread_67 rfl ?_
    refine g_aload_n hC 1 dX2_spread_69 rfl rfl ?_
    refine g_geti hC okX5 (sh_X5 h_a1) 1 (by decide) rfl wf_X2_30 dX2_spread_70 ?_
    refine g_icmp_ge hC 142 h_v4_5 (h_M_6 _ _) dX2_spread_73 rfl (fun c_18 => ?_) (fun c_18 => ?_)
    · replace hf := hf.1 c_18
      exact g_retv hC h_M_6 hf dX2_spread_142
    · replace hf := hf.2 c_18
      refine g_aload_n hC 2 dX2_spread_76 rfl rfl ?_
      refine g_iload hC 4 dX2_spread_77 rfl ?_
      obtain ⟨q_7, hf⟩ := hf
      refine g_ialdk (v4_5.toNat) hC h_a2 q_7.1 q_7.2 rfl dX2_spread_79 ?_
      refine g_nm (fun v5_8 e_v5_8 => ?_)
      replace hf := hf v5_8 e_v5_8
      have h_v5_8 : inR v5_8 := by rw [e_v5_8]; exact (h_M_6 _ _)
      refine g_istore hC [(5, J v5_8), (0, .ref (B + n)), (1, .ref (B + a1)), (2, .ref (B + a2)), (3, J v3), (4, J v4_5)] dX2_spread_80 (by decide) rfl ?_
      refine g_iload hC 0 dX2_spread_82 rfl ?_
      refine g_iload_n hC 4 dX2_spread_84 rfl rfl ?_
      refine g_icmp_eq hC 136 h_v5_8 i_v3 dX2_spread_85 rfl (fun c_17 => ?_) (fun c_17 => ?_)
      · replace hf := hf.1 c_17
        obtain ⟨v4_9, e_v4_9⟩ : ∃ z : Int, z = nz (v4_5 + 1) := ⟨_, rfl⟩
        replace hf := hf v4_9 e_v4_9
        have h_v4_9 : inR v4_9 := by rw [e_v4_9]; exact (nz_in _)
        refine g_iincz hC 5 e_v4_9 [(4, J v4_9), (5, J v5_8), (0, .ref (B + n)), (1, .ref (B + a1)), (2, .ref (B + a2)), (3, J v3)] dX2_spread_136 rfl (by decide) rfl ?_
        refine g_goto hC 67 dX2_spread_139 rfl ?_
        refine g_sub [(0, .ref (B + n)), (1, .ref (B + a1)), (2, .ref (B + a2)), (3, J v3), (4, J v4_9)] [2, 3, 4, 5, 0] rfl ?_
        exact ih67 v4_9 M_6 hf h_v4_9 h_M_6
      · replace hf := hf.2 c_17
        refine g_aload_n hC 1 dX2_spread_88 rfl rfl ?_
        refine g_getr hC okX2 (sh_X2 h_n) 0 (by decide) rfl wf_X2_9 dX2_spread_89 ?_
        refine g_iload hC 0 dX2_spread_92 rfl ?_
        refine g_aload_n hC 2 dX2_spread_94 rfl rfl ?_
        refine g_getr hC okX5 (sh_X5 h_a1) 5 (by decide) rfl wf_X2_39 dX2_spread_95 ?_
        refine g_iload hC 0 dX2_spread_98 rfl ?_
        obtain ⟨q_10, hf⟩ := hf
        refine g_ialdk (v5_8.toNat) hC (sh_X5_5 h_a1) q_10.1 q_10.2 rfl dX2_spread_100 ?_
        refine g_aload_n hC 1 dX2_spread_101 rfl rfl ?_
        refine g_aload_n hC 2 dX2_spread_102 rfl rfl ?_
        refine g_getr hC okX5 (sh_X5 h_a1) 2 (by decide) rfl wf_X2_36 dX2_spread_103 ?_
        refine g_iload hC 0 dX2_spread_106 rfl ?_
        refine g_ialdk (v5_8.toNat) hC (sh_X5_2 h_a1) q_10.1 q_10.2 rfl dX2_spread_108 ?_
        refine g_callVI hC (sk := [J (M_6 (a1 + 4) (v5_8.toNat)), J v5_8, .ref (B + (n + 1))]) [J (M_6 (a1 + 1) (v5_8.toNat))] (c_X2_share l B D K n (M_6 (a1 + 1) (v5_8.toNat)) h_n (h_M_6 _ _) M_6 h_M_6 _ hf) yv_X2_share wm_X2_42 okX2.1 (sh_X2 h_n) rfl ⟨Nat.le_of_ble_eq_true rfl, Nat.le_of_ble_eq_true rfl, Nat.le_of_ble_eq_true rfl, Nat.le_of_ble_eq_true rfl⟩ rfl (Nat.le_of_ble_eq_true rfl) dX2_spread_109 ?_
        intro r_11 M_12 h_r_11 h_M_12 hf
        refine g_iadd hC dX2_spread_112 ?_
        refine g_nz ?_
        refine g_iastk (v5_8.toNat) hC (sh_X2_0 h_n) q_10.1 q_10.2 rfl dX2_spread_113 ?_
        refine g_nmM (fun M_13 e_M_13 => ?_)
        replace hf := hf M_13 e_M_13
        have h_M_13 : MR M_13 := by rw [e_M_13]; exact MR_st h_M_12 (nz_in _)
        refine g_aload_n hC 1 dX2_spread_114 rfl rfl ?_
        refine g_getr hC okX2 (sh_X2 h_n) 1 (by decide) rfl wf_X2_15 dX2_spread_115 ?_
        refine g_aload_n hC 2 dX2_spread_118 rfl rfl ?_
        refine g_getr hC okX5 (sh_X5 h_a1) 3 (by decide) rfl wf_X2_46 dX2_spread_119 ?_
        refine g_iload hC 0 dX2_spread_122 rfl ?_
        refine g_ialdk (v5_8.toNat) hC (sh_X5_3 h_a1) q_10.1 q_10.2 rfl dX2_spread_124 ?_
        refine g_dup2 hC dX2_spread_125 rfl rfl ?_
        obtain ⟨q_14, hf⟩ := hf
        refine g_ialdk ((M_13 (a1 + 2) (v5_8.toNat)).toNat) hC (sh_X2_1 h_n) q_14.1 q_14.2 rfl dX2_spread_126 ?_
        refine g_aload_n hC 1 dX2_spread_127 rfl rfl ?_
        refine g_getr hC okX2 (sh_X2 h_n) 0 (by decide) rfl wf_X2_9 dX2_spread_128 ?_
        refine g_iload hC 0 dX2_spread_131 rfl ?_
        refine g_ialdk (v5_8.toNat) hC (sh_X2_0 h_n) q_10.1 q_10.2 rfl dX2_spread_133 ?_
        refine g_iadd hC dX2_spread_134 ?_
        refine g_nz ?_
        refine g_iastk ((M_13 (a1 + 2) (v5_8.toNat)).toNat) hC (sh_X2_1 h_n) q_14.1 q_14.2 rfl dX2_spread_135 ?_
        refine g_nmM (fun M_15 e_M_15 => ?_)
        replace hf := hf M_15 e_M_15
        have h_M_15 : MR M_15 := by rw [e_M_15]; exact MR_st h_M_13 (nz_in _)
        obtain ⟨v4_16, e_v4_16⟩ : ∃ z : Int, z = nz (v4_5 + 1) := ⟨_, rfl⟩
        replace hf := hf v4_16 e_v4_16
        have h_v4_16 : inR v4_16 := by rw [e_v4_16]; exact (nz_in _)
        refine g_iincz hC 5 e_v4_16 [(4, J v4_16), (5, J v5_8), (0, .ref (B + n)), (1, .ref (B + a1)), (2, .ref (B + a2)), (3, J v3)] dX2_spread_136 rfl (by decide) rfl ?_
        refine g_goto hC 67 dX2_spread_139 rfl ?_
        refine g_sub [(0, .ref (B + n)), (1, .ref (B + a1)), (2, .ref (B + a2)), (3, J v3), (4, J v4_16)] [2, 3, 4, 5, 0] rfl ?_
        exact ih67 v4_16 M_15 hf h_v4_16 h_M_15
  · intro J64 hJ64 hf
    refine g_sub [(0, .ref (B + n)), (1, .ref (B + a1)), (2, .ref (B + a2)), (3, J v3), (4, J 0)] [1, 2, 3, 4, 0] rfl ?_
    refine wl2_elim (fun (v4_19 : Int) (M_20 : Mem) => inR v4_19 → MR M_20 → G p l e (rmF 1 23) s m args below meth c B D K 6 0 0 (ZV below args s B D K Q) M_20 27 [(0, .ref (B + n)), (1, .ref (B + a1)), (2, .ref (B + a2)), (3, J v3), (4, J v4_19)] []) ?_ 5000 0 M_3 hf (by unfold inR; omega) h_M_3
    intro rec27 ih27 v4_19 M_20 hf h_v4_19 h_M_20
    unfold X2_spread_b27 at hf
    refine g_iload hC 4 dX2_spread_27 rfl ?_
    refine g_aload_n hC 1 dX2_spread_29 rfl rfl ?_
    refine g_geti hC okX5 (sh_X5 h_a1) 1 (by decide) rfl wf_X2_30 dX2_spread_30 ?_
    refine g_icmp_ge hC 64 h_v4_19 (h_M_20 _ _) dX2_spread_33 rfl (fun c_27 => ?_) (fun c_27 => ?_)
    · replace hf := hf.1 c_27
      refine g_sub [(0, .ref (B + n)), (1, .ref (B + a1)), (2, .ref (B + a2)), (3, J v3)] [0, 1, 2, 3] rfl ?_
      exact hJ64 M_20 hf h_M_20
    · replace hf := hf.2 c_27
      refine g_iload hC 4 dX2_spread_36 rfl ?_
      refine g_iload_n hC 3 dX2_spread_38 rfl rfl ?_
      refine g_icmp_eq hC 58 h_v4_19 i_v3 dX2_spread_39 rfl (fun c_26 => ?_) (fun c_26 => ?_)
      · replace hf := hf.1 c_26
        obtain ⟨v4_21, e_v4_21⟩ : ∃ z : Int, z = nz (v4_19 + 1) := ⟨_, rfl⟩
        replace hf := hf v4_21 e_v4_21
        have h_v4_21 : inR v4_21 := by rw [e_v4_21]; exact (nz_in _)
        refine g_iincz hC 4 e_v4_21 [(4, J v4_21), (0, .ref (B + n)), (1, .ref (B + a1)), (2, .ref (B + a2)), (3, J v3)] dX2_spread_58 rfl (by decide) rfl ?_
        refine g_goto hC 27 dX2_spread_61 rfl ?_
        refine g_sub [(0, .ref (B + n)), (1, .ref (B + a1)), (2, .ref (B + a2)), (3, J v3), (4, J v4_21)] [1, 2, 3, 4, 0] rfl ?_
        exact ih27 v4_21 M_20 hf h_v4_21 h_M_20
      · replace hf := hf.2 c_26
        refine g_aload_n hC 0 dX2_spread_42 rfl rfl ?_
        refine g_getr hC okX2 (sh_X2 h_n) 2 (by decide) rfl wf_X2_18 dX2_spread_43 ?_
        refine g_aload_n hC 1 dX2_spread_46 rfl rfl ?_
        refine g_getr hC okX5 (sh_X5 h_a1) 2 (by decide) rfl wf_X2_36 dX2_spread_47 ?_
        refine g_iload hC 4 dX2_spread_50 rfl ?_
        obtain ⟨q_22, hf⟩ := hf
        refine g_ialdk (v4_19.toNat) hC (sh_X5_2 h_a1) q_22.1 q_22.2 rfl dX2_spread_52 ?_
        refine g_dup2 hC dX2_spread_53 rfl rfl ?_
        obtain ⟨q_23, hf⟩ := hf
        refine g_ialdk ((M_20 (a1 + 1) (v4_19.toNat)).toNat) hC (sh_X2_2 h_n) q_23.1 q_23.2 rfl dX2_spread_54 ?_
        refine g_iconst hC dX2_spread_55 ?_
        refine g_iadd hC dX2_spread_56 ?_
        refine g_nz ?_
        refine g_iastk ((M_20 (a1 + 1) (v4_19.toNat)).toNat) hC (sh_X2_2 h_n) q_23.1 q_23.2 rfl dX2_spread_57 ?_
        refine g_nmM (fun M_24 e_M_24 => ?_)
        replace hf := hf M_24 e_M_24
        have h_M_24 : MR M_24 := by rw [e_M_24]; exact MR_st h_M_20 (nz_in _)
        obtain ⟨v4_25, e_v4_25⟩ : ∃ z : Int, z = nz (v4_19 + 1) := ⟨_, rfl⟩
        replace hf := hf v4_25 e_v4_25
        have h_v4_25 : inR v4_25 := by rw [e_v4_25]; exact (nz_in _)
        refine g_iincz hC 4 e_v4_25 [(4, J v4_25), (0, .ref (B + n)), (1, .ref (B + a1)), (2, .ref (B + a2)), (3, J v3)] dX2_spread_58 rfl (by decide) rfl ?_
        refine g_goto hC 27 dX2_spread_61 rfl ?_
        refine g_sub [(0, .ref (B + n)), (1, .ref (B + a1)), (2, .ref (B + a2)), (3, J v3), (4, J v4_25)] [1, 2, 3, 4, 0] rfl ?_
        exact ih27 v4_25 M_24 hf h_v4_25 h_M_24
set_option maxHeartbeats 4000000 in
set_option maxRecDepth 100000 in
theorem c_X1_findSprings (l : Launch) (B : Nat) (D : va_G) (K : Nat → ClassId) (n : Nat) (a1 : Nat) (h_n : is_X1 n) (h_a1 : is_X5 a1) (M : Mem) (hM : MR M) (Q : Mem → Prop) (hf : f_X1_findSprings n a1 M Q) : CtV l yX1_findSprings cX1_findSprings 4 0 0 B D K [.ref (B + n), .ref (B + a1)] M Q := by
  refine ct_v (by decide) (Nat.le_of_ble_eq_true rfl) ?_
  intro p e s m args below meth c hC
  have hC : Cx p s m args meth c D K cX1_findSprings 4 RX1 none := hC
  unfold f_X1_findSprings at hf
  refine (show G p l e (rmF 0 0) s m args below meth c B D K 4 0 0 (ZV below args s B D K Q) M 0 [(0, .ref (B + n)), (1, .ref (B + a1))] [] from ?_)
  refine g_iconst hC dX1_findSprings_0 ?_
  refine g_istore_n hC [(2, J 0), (0, .ref (B + n)), (1, .ref (B + a1))] dX1_findSprings_1 rfl (by decide) rfl ?_
  refine g_sub [(0, .ref (B + n)), (1, .ref (B + a1)), (2, J 0)] [1, 2, 0] rfl ?_
  refine wl2_elim (fun (v2_1 : Int) (M_2 : Mem) => inR v2_1 → MR M_2 → G p l e (rmF 0 0) s m args below meth c B D K 4 0 0 (ZV below args s B D K Q) M_2 2 [(0, .ref (B + n)), (1, .ref (B + a1)), (2, J v2_1)] []) ?_ 5000 0 M hf (by unfold inR; omega) hM
  intro rec2 ih2 v2_1 M_2 hf h_v2_1 h_M_2
  unfold X1_findSprings_b2 at hf
  refine g_iload_n hC 2 dX1_findSprings_2 rfl rfl ?_
  refine g_aload_n hC 1 dX1_findSprings_3 rfl rfl ?_
  refine g_geti hC okX5 (sh_X5 h_a1) 1 (by decide) rfl wf_X1_81 dX1_findSprings_4 ?_
  refine g_icmp_ge hC 44 h_v2_1 (h_M_2 _ _) dX1_findSprings_7 rfl (fun c_9 => ?_) (fun c_9 => ?_)
  · replace hf := hf.1 c_9
    exact g_retv hC h_M_2 hf dX1_findSprings_44
  · replace hf := hf.2 c_9
    refine g_aload_n hC 1 dX1_findSprings_10 rfl rfl ?_
    refine g_getr hC okX5 (sh_X5 h_a1) 2 (by decide) rfl wf_X1_87 dX1_findSprings_11 ?_
    refine g_iload_n hC 2 dX1_findSprings_14 rfl rfl ?_
    obtain ⟨q_3, hf⟩ := hf
    refine g_ialdk (v2_1.toNat) hC (sh_X5_2 h_a1) q_3.1 q_3.2 rfl dX1_findSprings_15 ?_
    refine g_nm (fun v3_4 e_v3_4 => ?_)
    replace hf := hf v3_4 e_v3_4
    have h_v3_4 : inR v3_4 := by rw [e_v3_4]; exact (h_M_2 _ _)
    refine g_istore_n hC [(3, J v3_4), (0, .ref (B + n)), (1, .ref (B + a1)), (2, J v2_1)] dX1_findSprings_16 rfl (by decide) rfl ?_
    refine g_aload_n hC 1 dX1_findSprings_17 rfl rfl ?_
    refine g_getr hC okX1 (sh_X1 h_n) 8 (by decide) rfl wf_X1_36 dX1_findSprings_18 ?_
    refine g_iload_n hC 3 dX1_findSprings_21 rfl rfl ?_
    refine g_aload_n hC 1 dX1_findSprings_22 rfl rfl ?_
    refine g_getr hC okX1 (sh_X1 h_n) 4 (by decide) rfl wf_X1_24 dX1_findSprings_23 ?_
    refine g_iload_n hC 0 dX1_findSprings_26 rfl rfl ?_
    obtain ⟨q_5, hf⟩ := hf
    refine g_ialdk (v3_4.toNat) hC (sh_X1_4 h_n) q_5.1 q_5.2 rfl dX1_findSprings_27 ?_
    refine g_iconst hC dX1_findSprings_28 ?_
    refine g_iload_n hC 0 dX1_findSprings_29 rfl rfl ?_
    refine g_ishl hC dX1_findSprings_30 ?_
    refine g_ior hC dX1_findSprings_31 ?_
    refine g_aload_n hC 1 dX1_findSprings_32 rfl rfl ?_
    refine g_geti hC okX1 (sh_X1 h_n) 11 (by decide) rfl wf_X1_93 dX1_findSprings_33 ?_
    refine g_iand hC dX1_findSprings_36 ?_
    refine g_iastk (v2_1.toNat) hC (sh_X1_8 h_n) q_3.1 q_3.2 rfl dX1_findSprings_37 ?_
    refine g_nmM (fun M_6 e_M_6 => ?_)
    replace hf := hf M_6 e_M_6
    have h_M_6 : MR M_6 := by rw [e_M_6]; exact MR_st h_M_2 (bAnd_in _ _)
    obtain ⟨q_8, hf⟩ := hf
    obtain ⟨v2_7, e_v2_7⟩ : ∃ z : Int, z = v2_1 + 1 := ⟨_, rfl⟩
    replace hf := hf v2_7 e_v2_7
    have h_v2_7 : inR v2_7 := by rw [e_v2_7]; exact q_8
    refine g_iincv hC 3 e_v2_7 [(2, J v2_7), (3, J v3_4), (0, .ref (B + n)), (1, .ref (B + a1))] dX1_findSprings_38 rfl (by decide) rfl ?_
    refine g_goto hC 2 dX1_findSprings_41 rfl ?_
    refine g_sub [(0, .ref (B + n)), (1, .ref (B + a1)), (2, J v2_7)] [2, 3, 0] rfl ?_
    exact ih2 v2_7 M_6 hf h_v2_7 h_M_6
set_option maxHeartbeats 4000000 in
set_option maxRecDepth 100000 in
theorem c_X1_twoApart (l : Launch) (B : Nat) (D : va_G) (K : Nat → ClassId) (n : Nat) (a1 : Nat) (v2 : Int) (v3 : Int) (h_n : is_X1 n) (h_a1 : is_X5 a1) (i_v2 : inR v2) (i_v3 : inR v3) (M : Mem) (hM : MR M) (Q : Int → Prop) (hf : f_X1_twoApart n a1 v2 v3 M Q) : CtZ l yX1_twoApart cX1_twoApart 6 0 0 B D K [.ref (B + n), .ref (B + a1), J v2, J v3] M (fun r M1 => M = M1 ∧ Q r) := by
  refine ct_z (by decide) (Nat.le_of_ble_eq_true rfl) ?_
  intro p e s m args below meth c hC
  have hC : Cx p s m args meth c D K cX1_twoApart 6 RX1 (some .boolean) := hC
  unfold f_X1_twoApart at hf
  refine (show G p l e (rmF 0 0) s m args below meth c B D K 6 0 0 (ZZ below args s B D K (fun r M1 => M = M1 ∧ Q r)) M 0 [(0, .ref (B + n)), (1, .ref (B + a1)), (2, J v2), (3, J v3)] [] from ?_)
  refine g_iconst hC dX1_twoApart_0 ?_
  refine g_istore hC [(4, J 0), (0, .ref (B + n)), (1, .ref (B + a1)), (2, J v2), (3, J v3)] dX1_twoApart_1 (by decide) rfl ?_
  refine g_sub [(0, .ref (B + n)), (1, .ref (B + a1)), (2, J v2), (3, J v3), (4, J 0)] [1, 2, 3, 4, 0] rfl ?_
  refine wl1_elim (fun (v4_1 : Int) => inR v4_1 → G p l e (rmF 0 0) s m args below meth c B D K 6 0 0 (ZZ below args s B D K (fun r M1 => M = M1 ∧ Q r)) M 3 [(0, .ref (B + n)), (1, .ref (B + a1)), (2, J v2), (3, J v3), (4, J v4_1)] []) ?_ 5000 0 hf (by unfold inR; omega)
  intro rec3 ih3 v4_1 hf h_v4_1
  unfold X1_twoApart_b3 at hf
  refine g_iload hC 4 dX1_twoApart_3 rfl ?_
  refine g_aload_n hC 1 dX1_twoApart_5 rfl rfl ?_
  refine g_geti hC okX5 (sh_X5 h_a1) 1 (by decide) rfl wf_X1_81 dX1_twoApart_6 ?_
  refine g_icmp_ge hC 106 h_v4_1 (hM _ _) dX1_twoApart_9 rfl (fun c_24 => ?_) (fun c_24 => ?_)
  · replace hf := hf.1 c_24
    refine g_iconst hC dX1_twoApart_106 ?_
    exact g_retz hC (Or.inl rfl) hM ⟨rfl, hf⟩ dX1_twoApart_107
  · replace hf := hf.2 c_24
    refine g_aload_n hC 1 dX1_twoApart_12 rfl rfl ?_
    refine g_getr hC okX5 (sh_X5 h_a1) 3 (by decide) rfl wf_X1_90 dX1_twoApart_13 ?_
    refine g_iload hC 4 dX1_twoApart_16 rfl ?_
    obtain ⟨q_2, hf⟩ := hf
    refine g_ialdk (v4_1.toNat) hC (sh_X5_3 h_a1) q_2.1 q_2.2 rfl dX1_twoApart_18 ?_
    refine g_iload_n hC 2 dX1_twoApart_19 rfl rfl ?_
    refine g_icmp_ne hC 100 (hM _ _) i_v2 dX1_twoApart_20 rfl (fun c_23 => ?_) (fun c_23 => ?_)
    · replace hf := hf.1 c_23
      obtain ⟨q_4, hf⟩ := hf
      obtain ⟨v4_3, e_v4_3⟩ : ∃ z : Int, z = v4_1 + 1 := ⟨_, rfl⟩
      replace hf := hf v4_3 e_v4_3
      have h_v4_3 : inR v4_3 := by rw [e_v4_3]; exact q_4
      refine g_iincv hC 4 e_v4_3 [(4, J v4_3), (0, .ref (B + n)), (1, .ref (B + a1)), (2, J v2), (3, J v3)] dX1_twoApart_100 rfl (by decide) rfl ?_
      refine g_goto hC 3 dX1_twoApart_103 rfl ?_
      refine g_sub [(0, .ref (B + n)), (1, .ref (B + a1)), (2, J v2), (3, J v3), (4, J v4_3)] [1, 2, 3, 4, 0] rfl ?_
      exact ih3 v4_3 hf h_v4_3
    · replace hf := hf.2 c_23
      refine g_aload_n hC 0 dX1_twoApart_23 rfl rfl ?_
      refine g_getr hC okX1 (sh_X1 h_n) 9 (by decide) rfl wf_X1_39 dX1_twoApart_24 ?_
      refine g_iload hC 4 dX1_twoApart_27 rfl ?_
      refine g_ialdk (v4_1.toNat) hC (sh_X1_9 h_n) q_2.1 q_2.2 rfl dX1_twoApart_29 ?_
      refine g_iload_n hC 3 dX1_twoApart_30 rfl rfl ?_
      refine g_icmp_eq hC 37 (hM _ _) i_v3 dX1_twoApart_31 rfl (fun c_22 => ?_) (fun c_22 => ?_)
      · replace hf := hf.1 c_22
        refine g_iload hC 4 dX1_twoApart_37 rfl ?_
        refine g_iconst hC dX1_twoApart_39 ?_
        refine g_iadd hC dX1_twoApart_40 ?_
        obtain ⟨q_5, hf⟩ := hf
        refine g_nm (fun v5_6 e_v5_6 => ?_)
        replace hf := hf v5_6 e_v5_6
        have h_v5_6 : inR v5_6 := by rw [e_v5_6]; exact q_5
        refine g_istore hC [(5, J v5_6), (0, .ref (B + n)), (1, .ref (B + a1)), (2, J v2), (3, J v3), (4, J v4_1)] dX1_twoApart_41 (by decide) rfl ?_
        refine g_sub [(0, .ref (B + n)), (1, .ref (B + a1)), (2, J v2), (3, J v3), (4, J v4_1), (5, J v5_6)] [1, 2, 3, 4, 5, 0] rfl ?_
        refine wl1_elim (fun (v5_7 : Int) => inR v5_7 → G p l e (rmF 0 0) s m args below meth c B D K 6 0 0 (ZZ below args s B D K (fun r M1 => M = M1 ∧ Q r)) M 43 [(0, .ref (B + n)), (1, .ref (B + a1)), (2, J v2), (3, J v3), (4, J v4_1), (5, J v5_7)] []) ?_ 5000 v5_6 hf h_v5_6
        intro rec43 ih43 v5_7 hf h_v5_7
        unfold X1_twoApart_b43 at hf
        refine g_iload hC 5 dX1_twoApart_43 rfl ?_
        refine g_aload_n hC 1 dX1_twoApart_45 rfl rfl ?_
        refine g_geti hC okX5 (sh_X5 h_a1) 1 (by decide) rfl wf_X1_81 dX1_twoApart_46 ?_
        refine g_icmp_ge hC 100 h_v5_7 (hM _ _) dX1_twoApart_49 rfl (fun c_19 => ?_) (fun c_19 => ?_)
        · replace hf := hf.1 c_19
          obtain ⟨v4_8, e_v4_8⟩ : ∃ z : Int, z = v4_1 + 1 := ⟨_, rfl⟩
          replace hf := hf v4_8 e_v4_8
          have h_v4_8 : inR v4_8 := by rw [e_v4_8]; exact q_5
          refine g_iincv hC 4 e_v4_8 [(4, J v4_8), (0, .ref (B + n)), (1, .ref (B + a1)), (2, J v2), (3, J v3), (5, J v5_7)] dX1_twoApart_100 rfl (by decide) rfl ?_
          refine g_goto hC 3 dX1_twoApart_103 rfl ?_
          refine g_sub [(0, .ref (B + n)), (1, .ref (B + a1)), (2, J v2), (3, J v3), (4, J v4_8)] [1, 2, 3, 4, 0] rfl ?_
          exact ih3 v4_8 hf h_v4_8
        · replace hf := hf.2 c_19
          refine g_aload_n hC 1 dX1_twoApart_52 rfl rfl ?_
          refine g_getr hC okX5 (sh_X5 h_a1) 3 (by decide) rfl wf_X1_90 dX1_twoApart_53 ?_
          refine g_iload hC 5 dX1_twoApart_56 rfl ?_
          obtain ⟨q_9, hf⟩ := hf
          refine g_ialdk (v5_7.toNat) hC (sh_X5_3 h_a1) q_9.1 q_9.2 rfl dX1_twoApart_58 ?_
          refine g_iload_n hC 2 dX1_twoApart_59 rfl rfl ?_
          refine g_icmp_ne hC 94 (hM _ _) i_v2 dX1_twoApart_60 rfl (fun c_18 => ?_) (fun c_18 => ?_)
          · replace hf := hf.1 c_18
            obtain ⟨q_11, hf⟩ := hf
            obtain ⟨v5_10, e_v5_10⟩ : ∃ z : Int, z = v5_7 + 1 := ⟨_, rfl⟩
            replace hf := hf v5_10 e_v5_10
            have h_v5_10 : inR v5_10 := by rw [e_v5_10]; exact q_11
            refine g_iincv hC 5 e_v5_10 [(5, J v5_10), (0, .ref (B + n)), (1, .ref (B + a1)), (2, J v2), (3, J v3), (4, J v4_1)] dX1_twoApart_94 rfl (by decide) rfl ?_
            refine g_goto hC 43 dX1_twoApart_97 rfl ?_
            refine g_sub [(0, .ref (B + n)), (1, .ref (B + a1)), (2, J v2), (3, J v3), (4, J v4_1), (5, J v5_10)] [1, 2, 3, 4, 5, 0] rfl ?_
            exact ih43 v5_10 hf h_v5_10
          · replace hf := hf.2 c_18
            refine g_aload_n hC 0 dX1_twoApart_63 rfl rfl ?_
            refine g_getr hC okX1 (sh_X1 h_n) 9 (by decide) rfl wf_X1_39 dX1_twoApart_64 ?_
            refine g_iload hC 5 dX1_twoApart_67 rfl ?_
            refine g_ialdk (v5_7.toNat) hC (sh_X1_9 h_n) q_9.1 q_9.2 rfl dX1_twoApart_69 ?_
            refine g_iload_n hC 3 dX1_twoApart_70 rfl rfl ?_
            refine g_icmp_ne hC 94 (hM _ _) i_v3 dX1_twoApart_71 rfl (fun c_17 => ?_) (fun c_17 => ?_)
            · replace hf := hf.1 c_17
              obtain ⟨q_13, hf⟩ := hf
              obtain ⟨v5_12, e_v5_12⟩ : ∃ z : Int, z = v5_7 + 1 := ⟨_, rfl⟩
              replace hf := hf v5_12 e_v5_12
              have h_v5_12 : inR v5_12 := by rw [e_v5_12]; exact q_13
              refine g_iincv hC 5 e_v5_12 [(5, J v5_12), (0, .ref (B + n)), (1, .ref (B + a1)), (2, J v2), (3, J v3), (4, J v4_1)] dX1_twoApart_94 rfl (by decide) rfl ?_
              refine g_goto hC 43 dX1_twoApart_97 rfl ?_
              refine g_sub [(0, .ref (B + n)), (1, .ref (B + a1)), (2, J v2), (3, J v3), (4, J v4_1), (5, J v5_12)] [1, 2, 3, 4, 5, 0] rfl ?_
              exact ih43 v5_12 hf h_v5_12
            · replace hf := hf.2 c_17
              refine g_aload_n hC 0 dX1_twoApart_74 rfl rfl ?_
              refine g_getr hC okX1 (sh_X1 h_n) 8 (by decide) rfl wf_X1_36 dX1_twoApart_75 ?_
              refine g_iload hC 4 dX1_twoApart_78 rfl ?_
              refine g_ialdk (v4_1.toNat) hC (sh_X1_8 h_n) q_2.1 q_2.2 rfl dX1_twoApart_80 ?_
              refine g_aload_n hC 0 dX1_twoApart_81 rfl rfl ?_
              refine g_getr hC okX1 (sh_X1 h_n) 8 (by decide) rfl wf_X1_36 dX1_twoApart_82 ?_
              refine g_iload hC 5 dX1_twoApart_85 rfl ?_
              refine g_ialdk (v5_7.toNat) hC (sh_X1_8 h_n) q_9.1 q_9.2 rfl dX1_twoApart_87 ?_
              refine g_iand hC dX1_twoApart_88 ?_
              refine g_if_ne hC 94 (bAnd_in _ _) dX1_twoApart_89 rfl (fun c_16 => ?_) (fun c_16 => ?_)
              · replace hf := hf.1 c_16
                obtain ⟨q_15, hf⟩ := hf
                obtain ⟨v5_14, e_v5_14⟩ : ∃ z : Int, z = v5_7 + 1 := ⟨_, rfl⟩
                replace hf := hf v5_14 e_v5_14
                have h_v5_14 : inR v5_14 := by rw [e_v5_14]; exact q_15
                refine g_iincv hC 5 e_v5_14 [(5, J v5_14), (0, .ref (B + n)), (1, .ref (B + a1)), (2, J v2), (3, J v3), (4, J v4_1)] dX1_twoApart_94 rfl (by decide) rfl ?_
                refine g_goto hC 43 dX1_twoApart_97 rfl ?_
                refine g_sub [(0, .ref (B + n)), (1, .ref (B + a1)), (2, J v2), (3, J v3), (4, J v4_1), (5, J v5_14)] [1, 2, 3, 4, 5, 0] rfl ?_
                exact ih43 v5_14 hf h_v5_14
              · replace hf := hf.2 c_16
                refine g_iconst hC dX1_twoApart_92 ?_
                exact g_retz hC (Or.inr rfl) hM ⟨rfl, hf⟩ dX1_twoApart_93
      · replace hf := hf.2 c_22
        refine g_goto hC 100 dX1_twoApart_34 rfl ?_
        obtain ⟨q_21, hf⟩ := hf
        obtain ⟨v4_20, e_v4_20⟩ : ∃ z : Int, z = v4_1 + 1 := ⟨_, rfl⟩
        replace hf := hf v4_20 e_v4_20
        have h_v4_20 : inR v4_20 := by rw [e_v4_20]; exact q_21
        refine g_iincv hC 4 e_v4_20 [(4, J v4_20), (0, .ref (B + n)), (1, .ref (B + a1)), (2, J v2), (3, J v3)] dX1_twoApart_100 rfl (by decide) rfl ?_
        refine g_goto hC 3 dX1_twoApart_103 rfl ?_
        refine g_sub [(0, .ref (B + n)), (1, .ref (B + a1)), (2, J v2), (3, J v3), (4, J v4_20)] [1, 2, 3, 4, 0] rfl ?_
        exact ih3 v4_20 hf h_v4_20
set_option maxHeartbeats 4000000 in
set_option maxRecDepth 100000 in
theorem c_X1_metFrom (l : Launch) (B : Nat) (D : va_G) (K : Nat → ClassId) (n : Nat) (a1 : Nat) (v2 : Int) (h_n : is_X1 n) (h_a1 : is_X5 a1) (i_v2 : inR v2) (M : Mem) (hM : MR M) (Q : Int → Prop) (hf : f_X1_metFrom n a1 v2 M Q) : CtI l yX1_metFrom cX1_metFrom 5 1 40 B D K [.ref (B + n), .ref (B + a1), J v2] M (fun r M1 => M = M1 ∧ Q r) := by
  refine ct_i (by decide) (Nat.le_of_ble_eq_true rfl) ?_
  intro p e s m args below meth c hC
  have hC : Cx p s m args meth c D K cX1_metFrom 5 RX1 (some .int) := hC
  unfold f_X1_metFrom at hf
  refine (show G p l e (rmF 1 40) s m args below meth c B D K 5 0 0 (ZI below args s B D K (fun r M1 => M = M1 ∧ Q r)) M 0 [(0, .ref (B + n)), (1, .ref (B + a1)), (2, J v2)] [] from ?_)
  refine g_iconst hC dX1_metFrom_0 ?_
  refine g_istore_n hC [(3, J 0), (0, .ref (B + n)), (1, .ref (B + a1)), (2, J v2)] dX1_metFrom_1 rfl (by decide) rfl ?_
  refine g_iconst hC dX1_metFrom_2 ?_
  refine g_istore hC [(4, J 0), (3, J 0), (0, .ref (B + n)), (1, .ref (B + a1)), (2, J v2)] dX1_metFrom_3 (by decide) rfl ?_
  refine jn_elim (fun (k : Int → Prop) => ∀ (v3_1 : Int), k v3_1 → (inR v3_1) → G p l e (rmF 1 40) s m args below meth c B D K 5 0 0 (ZI below args s B D K (fun r M1 => M = M1 ∧ Q r)) M 43 [(0, .ref (B + n)), (1, .ref (B + a1)), (2, J v2), (3, J v3_1)] []) hf ?_ ?_
  · intro v3_1 hf h_v3_1
    refine g_iload_n hC 3 dX1_metFrom_43 rfl rfl ?_
    refine g_if_ne hC 49 h_v3_1 dX1_metFrom_44 rfl (fun c_6 => ?_) (fun c_6 => ?_)
    · replace hf := hf.1 c_6
      refine g_aload_n hC 0 dX1_metFrom_49 rfl rfl ?_
      refine g_aload_n hC 1 dX1_metFrom_50 rfl rfl ?_
      refine g_iload_n hC 2 dX1_metFrom_51 rfl rfl ?_
      refine g_iload_n hC 3 dX1_metFrom_52 rfl rfl ?_
      refine g_callVZ hC (sk := []) [.ref (B + a1), J v2, J v3_1] (c_X1_twoApart l B D K n a1 v2 v3_1 h_n h_a1 i_v2 h_v3_1 M hM _ hf) yv_X1_twoApart wm_X1_115 okX1.1 (sh_X1 h_n) rfl ⟨Nat.le_of_ble_eq_true rfl, Nat.le_of_ble_eq_true rfl, Nat.le_of_ble_eq_true rfl, Nat.le_of_ble_eq_true rfl⟩ rfl (Nat.le_of_ble_eq_true rfl) dX1_metFrom_53 ?_
      rintro r_2 M_3 h_r_2 - ⟨rfl, hf⟩
      refine g_if_eq hC 65 (zi_ h_r_2) dX1_metFrom_56 rfl (fun c_5 => ?_) (fun c_5 => ?_)
      · replace hf := hf.1 c_5
        refine g_iload_n hC 3 dX1_metFrom_65 rfl rfl ?_
        exact g_reti hC h_v3_1 hM ⟨rfl, hf⟩ dX1_metFrom_66
      · replace hf := hf.2 c_5
        refine g_iload_n hC 3 dX1_metFrom_59 rfl rfl ?_
        refine g_iconst hC dX1_metFrom_60 ?_
        refine g_iadd hC dX1_metFrom_61 ?_
        refine g_goto hC 66 dX1_metFrom_62 rfl ?_
        obtain ⟨q_4, hf⟩ := hf
        exact g_reti hC q_4 hM ⟨rfl, hf⟩ dX1_metFrom_66
    · replace hf := hf.2 c_6
      refine g_iconst hC dX1_metFrom_47 ?_
      exact g_reti hC (by unfold inR; omega) hM ⟨rfl, hf⟩ dX1_metFrom_48
  · intro J43 hJ43 hf
    refine g_sub [(0, .ref (B + n)), (1, .ref (B + a1)), (2, J v2), (3, J 0), (4, J 0)] [2, 3, 4, 1, 0] rfl ?_
    refine wl2_elim (fun (v3_7 : Int) (v4_8 : Int) => inR v3_7 → inR v4_8 → G p l e (rmF 1 40) s m args below meth c B D K 5 0 0 (ZI below args s B D K (fun r M1 => M = M1 ∧ Q r)) M 5 [(0, .ref (B + n)), (1, .ref (B + a1)), (2, J v2), (3, J v3_7), (4, J v4_8)] []) ?_ 5000 0 0 hf (by unfold inR; omega) (by unfold inR; omega)
    intro rec5 ih5 v3_7 v4_8 hf h_v3_7 h_v4_8
    unfold X1_metFrom_b5 at hf
    refine g_iload hC 4 dX1_metFrom_5 rfl ?_
    refine g_aload_n hC 1 dX1_metFrom_7 rfl rfl ?_
    refine g_geti hC okX5 (sh_X5 h_a1) 1 (by decide) rfl wf_X1_81 dX1_metFrom_8 ?_
    refine g_icmp_ge hC 43 h_v4_8 (hM _ _) dX1_metFrom_11 rfl (fun c_16 => ?_) (fun c_16 => ?_)
    · replace hf := hf.1 c_16
      refine g_sub [(0, .ref (B + n)), (1, .ref (B + a1)), (2, J v2), (3, J v3_7)] [0, 1, 2, 3] rfl ?_
      exact hJ43 v3_7 hf h_v3_7
    · replace hf := hf.2 c_16
      refine g_aload_n hC 1 dX1_metFrom_14 rfl rfl ?_
      refine g_getr hC okX5 (sh_X5 h_a1) 3 (by decide) rfl wf_X1_90 dX1_metFrom_15 ?_
      refine g_iload hC 4 dX1_metFrom_18 rfl ?_
      obtain ⟨q_9, hf⟩ := hf
      refine g_ialdk (v4_8.toNat) hC (sh_X5_3 h_a1) q_9.1 q_9.2 rfl dX1_metFrom_20 ?_
      refine g_iload_n hC 2 dX1_metFrom_21 rfl rfl ?_
      refine g_icmp_ne hC 37 (hM _ _) i_v2 dX1_metFrom_22 rfl (fun c_15 => ?_) (fun c_15 => ?_)
      · replace hf := hf.1 c_15
        obtain ⟨q_11, hf⟩ := hf
        obtain ⟨v4_10, e_v4_10⟩ : ∃ z : Int, z = v4_8 + 1 := ⟨_, rfl⟩
        replace hf := hf v4_10 e_v4_10
        have h_v4_10 : inR v4_10 := by rw [e_v4_10]; exact q_11
        refine g_iincv hC 4 e_v4_10 [(4, J v4_10), (0, .ref (B + n)), (1, .ref (B + a1)), (2, J v2), (3, J v3_7)] dX1_metFrom_37 rfl (by decide) rfl ?_
        refine g_goto hC 5 dX1_metFrom_40 rfl ?_
        refine g_sub [(0, .ref (B + n)), (1, .ref (B + a1)), (2, J v2), (3, J v3_7), (4, J v4_10)] [1, 2, 3, 4, 0] rfl ?_
        exact ih5 v3_7 v4_10 hf h_v3_7 h_v4_10
      · replace hf := hf.2 c_15
        refine g_iload_n hC 3 dX1_metFrom_25 rfl rfl ?_
        refine g_aload_n hC 0 dX1_metFrom_26 rfl rfl ?_
        refine g_getr hC okX1 (sh_X1 h_n) 9 (by decide) rfl wf_X1_39 dX1_metFrom_27 ?_
        refine g_iload hC 4 dX1_metFrom_30 rfl ?_
        refine g_ialdk (v4_8.toNat) hC (sh_X1_9 h_n) q_9.1 q_9.2 rfl dX1_metFrom_32 ?_
        refine g_max hC h_v3_7 (hM _ _) ⟨wm_X1_105, wj_max⟩ (Nat.le_of_ble_eq_true rfl) (Nat.le_of_ble_eq_true rfl) (Nat.zero_le _) (Nat.zero_le _) dX1_metFrom_33 ?_
        refine g_nm (fun v3_12 e_v3_12 => ?_)
        replace hf := hf v3_12 e_v3_12
        have h_v3_12 : inR v3_12 := by rw [e_v3_12]; exact (max_in h_v3_7 (hM _ _))
        refine g_istore_n hC [(3, J v3_12), (0, .ref (B + n)), (1, .ref (B + a1)), (2, J v2), (4, J v4_8)] dX1_metFrom_36 rfl (by decide) rfl ?_
        obtain ⟨q_14, hf⟩ := hf
        obtain ⟨v4_13, e_v4_13⟩ : ∃ z : Int, z = v4_8 + 1 := ⟨_, rfl⟩
        replace hf := hf v4_13 e_v4_13
        have h_v4_13 : inR v4_13 := by rw [e_v4_13]; exact q_14
        refine g_iincv hC 4 e_v4_13 [(4, J v4_13), (3, J v3_12), (0, .ref (B + n)), (1, .ref (B + a1)), (2, J v2)] dX1_metFrom_37 rfl (by decide) rfl ?_
        refine g_goto hC 5 dX1_metFrom_40 rfl ?_
        refine g_sub [(0, .ref (B + n)), (1, .ref (B + a1)), (2, J v2), (3, J v3_12), (4, J v4_13)] [2, 3, 4, 1, 0] rfl ?_
        exact ih5 v3_12 v4_13 hf h_v3_12 h_v4_13
set_option maxHeartbeats 4000000 in
set_option maxRecDepth 100000 in
theorem c_X1_findMet (l : Launch) (B : Nat) (D : va_G) (K : Nat → ClassId) (n : Nat) (a1 : Nat) (h_n : is_X1 n) (h_a1 : is_X5 a1) (M : Mem) (hM : MR M) (Q : Mem → Prop) (hf : f_X1_findMet n a1 M Q) : CtV l yX1_findMet cX1_findMet 5 2 64 B D K [.ref (B + n), .ref (B + a1)] M Q := by
  refine ct_v (by decide) (Nat.le_of_ble_eq_true rfl) ?_
  intro p e s m args below meth c hC
  have hC : Cx p s m args meth c D K cX1_findMet 5 RX1 none := hC
  unfold f_X1_findMet at hf
  refine (show G p l e (rmF 2 64) s m args below meth c B D K 5 0 0 (ZV below args s B D K Q) M 0 [(0, .ref (B + n)), (1, .ref (B + a1))] [] from ?_)
  refine g_iconst hC dX1_findMet_0 ?_
  refine g_istore_n hC [(2, J 0), (0, .ref (B + n)), (1, .ref (B + a1))] dX1_findMet_1 rfl (by decide) rfl ?_
  refine g_sub [(0, .ref (B + n)), (1, .ref (B + a1)), (2, J 0)] [1, 2, 0] rfl ?_
  refine wl2_elim (fun (v2_1 : Int) (M_2 : Mem) => inR v2_1 → MR M_2 → G p l e (rmF 2 64) s m args below meth c B D K 5 0 0 (ZV below args s B D K Q) M_2 2 [(0, .ref (B + n)), (1, .ref (B + a1)), (2, J v2_1)] []) ?_ 5000 0 M hf (by unfold inR; omega) hM
  intro rec2 ih2 v2_1 M_2 hf h_v2_1 h_M_2
  unfold X1_findMet_b2 at hf
  refine g_iload_n hC 2 dX1_findMet_2 rfl rfl ?_
  refine g_aload_n hC 1 dX1_findMet_3 rfl rfl ?_
  refine g_geti hC okX5 (sh_X5 h_a1) 1 (by decide) rfl wf_X1_81 dX1_findMet_4 ?_
  refine g_icmp_ge hC 96 h_v2_1 (h_M_2 _ _) dX1_findMet_7 rfl (fun c_23 => ?_) (fun c_23 => ?_)
  · replace hf := hf.1 c_23
    exact g_retv hC h_M_2 hf dX1_findMet_96
  · replace hf := hf.2 c_23
    refine g_aload_n hC 0 dX1_findMet_10 rfl rfl ?_
    refine g_getr hC okX1 (sh_X1 h_n) 1 (by decide) rfl wf_X1_15 dX1_findMet_11 ?_
    refine g_iload_n hC 2 dX1_findMet_14 rfl rfl ?_
    obtain ⟨q_3, hf⟩ := hf
    refine g_ialdk (v2_1.toNat) hC (sh_X1_1 h_n) q_3.1 q_3.2 rfl dX1_findMet_15 ?_
    refine g_nm (fun v3_4 e_v3_4 => ?_)
    replace hf := hf v3_4 e_v3_4
    have h_v3_4 : inR v3_4 := by rw [e_v3_4]; exact (h_M_2 _ _)
    refine g_istore_n hC [(3, J v3_4), (0, .ref (B + n)), (1, .ref (B + a1)), (2, J v2_1)] dX1_findMet_16 rfl (by decide) rfl ?_
    refine g_iload_n hC 3 dX1_findMet_17 rfl rfl ?_
    refine jn_elim (fun (k : Int → Prop) => ∀ (s0_5 : Int), k s0_5 → (inR s0_5) → G p l e (rmF 2 64) s m args below meth c B D K 5 0 0 (ZV below args s B D K Q) M_2 33 [(0, .ref (B + n)), (1, .ref (B + a1)), (2, J v2_1), (3, J v3_4)] [J s0_5]) hf ?_ ?_
    · intro s0_5 hf h_s0_5
      refine g_istore hC [(4, J s0_5), (0, .ref (B + n)), (1, .ref (B + a1)), (2, J v2_1), (3, J v3_4)] dX1_findMet_33 (by decide) rfl ?_
      refine g_iload hC 0 dX1_findMet_35 rfl ?_
      refine g_iconst hC dX1_findMet_37 ?_
      refine jn_elim (fun (k : Int → Mem → Prop) => ∀ (v2_6 : Int) (M_7 : Mem), k v2_6 M_7 → (inR v2_6) → (MR M_7) → G p l e (rmF 2 64) s m args below meth c B D K 5 0 0 (ZV below args s B D K Q) M_7 73 [(0, .ref (B + n)), (1, .ref (B + a1)), (2, J v2_6), (3, J v3_4)] []) hf ?_ ?_
      · intro v2_6 M_7 hf h_v2_6 h_M_7
        refine g_aload_n hC 0 dX1_findMet_73 rfl rfl ?_
        refine g_getr hC okX1 (sh_X1 h_n) 9 (by decide) rfl wf_X1_39 dX1_findMet_74 ?_
        refine g_iload_n hC 3 dX1_findMet_77 rfl rfl ?_
        refine g_aload_n hC 0 dX1_findMet_78 rfl rfl ?_
        refine g_aload_n hC 1 dX1_findMet_79 rfl rfl ?_
        refine g_aload_n hC 1 dX1_findMet_80 rfl rfl ?_
        refine g_getr hC okX5 (sh_X5 h_a1) 2 (by decide) rfl wf_X1_87 dX1_findMet_81 ?_
        refine g_iload_n hC 3 dX1_findMet_84 rfl rfl ?_
        obtain ⟨q_8, hf⟩ := hf
        refine g_ialdk (v3_4.toNat) hC (sh_X5_2 h_a1) q_8.1 q_8.2 rfl dX1_findMet_85 ?_
        refine g_callVI hC (sk := [J v3_4, .ref (B + (n + 10))]) [.ref (B + a1), J (M_7 (a1 + 1) (v3_4.toNat))] (c_X1_metFrom l B D K n a1 (M_7 (a1 + 1) (v3_4.toNat)) h_n h_a1 (h_M_7 _ _) M_7 h_M_7 _ hf) yv_X1_metFrom wm_X1_111 okX1.1 (sh_X1 h_n) rfl ⟨Nat.le_of_ble_eq_true rfl, Nat.le_of_ble_eq_true rfl, Nat.le_of_ble_eq_true rfl, Nat.le_of_ble_eq_true rfl⟩ rfl (Nat.le_of_ble_eq_true rfl) dX1_findMet_86 ?_
        rintro r_9 M_10 h_r_9 - ⟨rfl, hf⟩
        refine g_iastk (v3_4.toNat) hC (sh_X1_9 h_n) q_8.1 q_8.2 rfl dX1_findMet_89 ?_
        refine g_nmM (fun M_11 e_M_11 => ?_)
        replace hf := hf M_11 e_M_11
        have h_M_11 : MR M_11 := by rw [e_M_11]; exact MR_st h_M_7 h_r_9
        obtain ⟨q_13, hf⟩ := hf
        obtain ⟨v2_12, e_v2_12⟩ : ∃ z : Int, z = v2_6 + 1 := ⟨_, rfl⟩
        replace hf := hf v2_12 e_v2_12
        have h_v2_12 : inR v2_12 := by rw [e_v2_12]; exact q_13
        refine g_iincv hC 2 e_v2_12 [(2, J v2_12), (0, .ref (B + n)), (1, .ref (B + a1)), (3, J v3_4)] dX1_findMet_90 rfl (by decide) rfl ?_
        refine g_goto hC 2 dX1_findMet_93 rfl ?_
        refine g_sub [(0, .ref (B + n)), (1, .ref (B + a1)), (2, J v2_12)] [1, 2, 0] rfl ?_
        exact ih2 v2_12 M_11 hf h_v2_12 h_M_11
      · intro J73 hJ73 hf
        refine g_icmp_eq hC 73 h_s0_5 (by unfold inR; omega) dX1_findMet_38 rfl (fun c_20 => ?_) (fun c_20 => ?_)
        · replace hf := hf.1 c_20
          refine g_sub [(0, .ref (B + n)), (1, .ref (B + a1)), (2, J v2_1), (3, J v3_4)] [1, 2, 3, 4] rfl ?_
          exact hJ73 v2_1 M_2 hf h_v2_1 h_M_2
        · replace hf := hf.2 c_20
          refine g_aload_n hC 2 dX1_findMet_41 rfl rfl ?_
          refine g_getr hC okX5 (sh_X5 h_a1) 2 (by decide) rfl wf_X1_87 dX1_findMet_42 ?_
          refine g_iload hC 0 dX1_findMet_45 rfl ?_
          obtain ⟨q_14, hf⟩ := hf
          refine g_ialdk (s0_5.toNat) hC (sh_X5_2 h_a1) q_14.1 q_14.2 rfl dX1_findMet_47 ?_
          refine g_aload_n hC 2 dX1_findMet_48 rfl rfl ?_
          refine g_getr hC okX5 (sh_X5 h_a1) 2 (by decide) rfl wf_X1_87 dX1_findMet_49 ?_
          refine g_iload_n hC 4 dX1_findMet_52 rfl rfl ?_
          obtain ⟨q_15, hf⟩ := hf
          refine g_ialdk (v3_4.toNat) hC (sh_X5_2 h_a1) q_15.1 q_15.2 rfl dX1_findMet_53 ?_
          refine g_icmp_ne hC 73 (h_M_2 _ _) (h_M_2 _ _) dX1_findMet_54 rfl (fun c_19 => ?_) (fun c_19 => ?_)
          · replace hf := hf.1 c_19
            refine g_sub [(0, .ref (B + n)), (1, .ref (B + a1)), (2, J v2_1), (3, J v3_4)] [1, 2, 3, 4] rfl ?_
            exact hJ73 v2_1 M_2 hf h_v2_1 h_M_2
          · replace hf := hf.2 c_19
            refine g_aload_n hC 1 dX1_findMet_57 rfl rfl ?_
            refine g_getr hC okX1 (sh_X1 h_n) 9 (by decide) rfl wf_X1_39 dX1_findMet_58 ?_
            refine g_iload_n hC 4 dX1_findMet_61 rfl rfl ?_
            refine g_aload_n hC 1 dX1_findMet_62 rfl rfl ?_
            refine g_getr hC okX1 (sh_X1 h_n) 9 (by decide) rfl wf_X1_39 dX1_findMet_63 ?_
            refine g_iload hC 0 dX1_findMet_66 rfl ?_
            refine g_ialdk (s0_5.toNat) hC (sh_X1_9 h_n) q_14.1 q_14.2 rfl dX1_findMet_68 ?_
            refine g_iastk (v3_4.toNat) hC (sh_X1_9 h_n) q_15.1 q_15.2 rfl dX1_findMet_69 ?_
            refine g_nmM (fun M_16 e_M_16 => ?_)
            replace hf := hf M_16 e_M_16
            have h_M_16 : MR M_16 := by rw [e_M_16]; exact MR_st h_M_2 (h_M_2 _ _)
            refine g_goto hC 90 dX1_findMet_70 rfl ?_
            obtain ⟨q_18, hf⟩ := hf
            obtain ⟨v2_17, e_v2_17⟩ : ∃ z : Int, z = v2_1 + 1 := ⟨_, rfl⟩
            replace hf := hf v2_17 e_v2_17
            have h_v2_17 : inR v2_17 := by rw [e_v2_17]; exact q_18
            refine g_iincv hC 3 e_v2_17 [(2, J v2_17), (4, J s0_5), (0, .ref (B + n)), (1, .ref (B + a1)), (3, J v3_4)] dX1_findMet_90 rfl (by decide) rfl ?_
            refine g_goto hC 2 dX1_findMet_93 rfl ?_
            refine g_sub [(0, .ref (B + n)), (1, .ref (B + a1)), (2, J v2_17)] [2, 3, 0] rfl ?_
            exact ih2 v2_17 M_16 hf h_v2_17 h_M_16
    · intro J33 hJ33 hf
      refine g_if_ne hC 25 h_v2_1 dX1_findMet_18 rfl (fun c_22 => ?_) (fun c_22 => ?_)
      · replace hf := hf.1 c_22
        refine g_aload_n hC 1 dX1_findMet_25 rfl rfl ?_
        refine g_getr hC okX1 (sh_X1 h_n) 1 (by decide) rfl wf_X1_15 dX1_findMet_26 ?_
        refine g_iload_n hC 3 dX1_findMet_29 rfl rfl ?_
        refine g_iconst hC dX1_findMet_30 ?_
        refine g_isub hC dX1_findMet_31 ?_
        obtain ⟨q_21, hf⟩ := hf
        refine g_ialdk ((v2_1 - 1).toNat) hC (sh_X1_1 h_n) q_21.1 q_21.2 rfl dX1_findMet_32 ?_
        refine g_sub [(0, .ref (B + n)), (1, .ref (B + a1)), (2, J v2_1), (3, J v3_4)] [1, 2, 3, 0] rfl ?_
        exact hJ33 (M_2 (n + 2) ((v2_1 - 1).toNat)) hf (h_M_2 _ _)
      · replace hf := hf.2 c_22
        refine g_iconst hC dX1_findMet_21 ?_
        refine g_goto hC 33 dX1_findMet_22 rfl ?_
        refine g_sub [(0, .ref (B + n)), (1, .ref (B + a1)), (2, J v2_1), (3, J v3_4)] [1, 2, 3, 0] rfl ?_
        exact hJ33 (-1) hf (by unfold inR; omega)
set_option maxHeartbeats 4000000 in
set_option maxRecDepth 100000 in
theorem c_X1_figure (l : Launch) (B : Nat) (D : va_G) (K : Nat → ClassId) (n : Nat) (a1 : Nat) (h_n : is_X1 n) (h_a1 : is_X5 a1) (M : Mem) (hM : MR M) (Q : Mem → Prop) (hf : f_X1_figure n a1 M Q) : CtV l yX1_figure cX1_figure 2 3 88 B D K [.ref (B + n), .ref (B + a1)] M Q := by
  refine ct_v (by decide) (Nat.le_of_ble_eq_true rfl) ?_
  intro p e s m args below meth c hC
  have hC : Cx p s m args meth c D K cX1_figure 2 RX1 none := hC
  unfold f_X1_figure at hf
  refine (show G p l e (rmF 3 88) s m args below meth c B D K 2 0 0 (ZV below args s B D K Q) M 0 [(0, .ref (B + n)), (1, .ref (B + a1))] [] from ?_)
  refine g_aload_n hC 0 dX1_figure_0 rfl rfl ?_
  refine g_aload_n hC 1 dX1_figure_1 rfl rfl ?_
  refine g_callVV hC (sk := []) [.ref (B + a1)] (c_X1_countEnds l B D K n a1 h_n h_a1 M hM _ hf) yv_X1_countEnds wm_X1_49 okX1.1 (sh_X1 h_n) rfl ⟨Nat.le_of_ble_eq_true rfl, Nat.le_of_ble_eq_true rfl, Nat.le_of_ble_eq_true rfl, Nat.le_of_ble_eq_true rfl⟩ rfl (Nat.le_of_ble_eq_true rfl) dX1_figure_2 ?_
  intro M_1 h_M_1 hf
  refine g_aload_n hC 0 dX1_figure_5 rfl rfl ?_
  refine g_aload_n hC 1 dX1_figure_6 rfl rfl ?_
  refine g_callVV hC (sk := []) [.ref (B + a1)] (c_X1_sortPlaces l B D K n a1 h_n h_a1 M_1 h_M_1 _ hf) yv_X1_sortPlaces wm_X1_53 okX1.1 (sh_X1 h_n) rfl ⟨Nat.le_of_ble_eq_true rfl, Nat.le_of_ble_eq_true rfl, Nat.le_of_ble_eq_true rfl, Nat.le_of_ble_eq_true rfl⟩ rfl (Nat.le_of_ble_eq_true rfl) dX1_figure_7 ?_
  intro M_2 h_M_2 hf
  refine g_aload_n hC 0 dX1_figure_10 rfl rfl ?_
  refine g_aload_n hC 1 dX1_figure_11 rfl rfl ?_
  refine g_callVV hC (sk := []) [.ref (B + a1)] (c_X1_sortReaches l B D K n a1 h_n h_a1 M_2 h_M_2 _ hf) yv_X1_sortReaches wm_X1_56 okX1.1 (sh_X1 h_n) rfl ⟨Nat.le_of_ble_eq_true rfl, Nat.le_of_ble_eq_true rfl, Nat.le_of_ble_eq_true rfl, Nat.le_of_ble_eq_true rfl⟩ rfl (Nat.le_of_ble_eq_true rfl) dX1_figure_12 ?_
  intro M_3 h_M_3 hf
  refine g_aload_n hC 0 dX1_figure_15 rfl rfl ?_
  refine g_aload_n hC 1 dX1_figure_16 rfl rfl ?_
  refine g_callVV hC (sk := []) [.ref (B + a1)] (c_X1_lookUp l B D K n a1 h_n h_a1 M_3 h_M_3 _ hf) yv_X1_lookUp wm_X1_59 okX1.1 (sh_X1 h_n) rfl ⟨Nat.le_of_ble_eq_true rfl, Nat.le_of_ble_eq_true rfl, Nat.le_of_ble_eq_true rfl, Nat.le_of_ble_eq_true rfl⟩ rfl (Nat.le_of_ble_eq_true rfl) dX1_figure_17 ?_
  intro M_4 h_M_4 hf
  refine g_aload_n hC 0 dX1_figure_20 rfl rfl ?_
  refine g_aload_n hC 1 dX1_figure_21 rfl rfl ?_
  refine g_callVV hC (sk := []) [.ref (B + a1)] (c_X1_lookDown l B D K n a1 h_n h_a1 M_4 h_M_4 _ hf) yv_X1_lookDown wm_X1_62 okX1.1 (sh_X1 h_n) rfl ⟨Nat.le_of_ble_eq_true rfl, Nat.le_of_ble_eq_true rfl, Nat.le_of_ble_eq_true rfl, Nat.le_of_ble_eq_true rfl⟩ rfl (Nat.le_of_ble_eq_true rfl) dX1_figure_22 ?_
  intro M_5 h_M_5 hf
  refine g_aload_n hC 0 dX1_figure_25 rfl rfl ?_
  refine g_getr hC okX1 (sh_X1 h_n) 10 (by decide) rfl wf_X1_45 dX1_figure_26 ?_
  refine g_aload_n hC 1 dX1_figure_29 rfl rfl ?_
  refine g_aload_n hC 0 dX1_figure_30 rfl rfl ?_
  refine g_getr hC okX1 (sh_X1 h_n) 1 (by decide) rfl wf_X1_15 dX1_figure_31 ?_
  refine g_iconst hC dX1_figure_34 ?_
  refine g_callVV hC (sk := []) [.ref (B + a1), .ref (B + (n + 2)), J (-1)] (c_X2_spread l B D K (n + 11) a1 (n + 2) (-1) (fl_X1_10 h_n) h_a1 (isIA_of (sh_X1_1 h_n)) (by unfold inR; omega) M_5 h_M_5 _ hf) yv_X2_spread wm_X1_65 okX2.1 (sh_X2 (fl_X1_10 h_n)) rfl ⟨Nat.le_of_ble_eq_true rfl, Nat.le_of_ble_eq_true rfl, Nat.le_of_ble_eq_true rfl, Nat.le_of_ble_eq_true rfl⟩ rfl (Nat.le_of_ble_eq_true rfl) dX1_figure_35 ?_
  intro M_6 h_M_6 hf
  refine g_aload_n hC 0 dX1_figure_38 rfl rfl ?_
  refine g_aload_n hC 1 dX1_figure_39 rfl rfl ?_
  refine g_callVV hC (sk := []) [.ref (B + a1)] (c_X1_findSprings l B D K n a1 h_n h_a1 M_6 h_M_6 _ hf) yv_X1_findSprings wm_X1_69 okX1.1 (sh_X1 h_n) rfl ⟨Nat.le_of_ble_eq_true rfl, Nat.le_of_ble_eq_true rfl, Nat.le_of_ble_eq_true rfl, Nat.le_of_ble_eq_true rfl⟩ rfl (Nat.le_of_ble_eq_true rfl) dX1_figure_40 ?_
  intro M_7 h_M_7 hf
  refine g_aload_n hC 0 dX1_figure_43 rfl rfl ?_
  refine g_aload_n hC 1 dX1_figure_44 rfl rfl ?_
  refine g_callVV hC (sk := []) [.ref (B + a1)] (c_X1_findMet l B D K n a1 h_n h_a1 M_7 h_M_7 _ hf) yv_X1_findMet wm_X1_72 okX1.1 (sh_X1 h_n) rfl ⟨Nat.le_of_ble_eq_true rfl, Nat.le_of_ble_eq_true rfl, Nat.le_of_ble_eq_true rfl, Nat.le_of_ble_eq_true rfl⟩ rfl (Nat.le_of_ble_eq_true rfl) dX1_figure_45 ?_
  intro M_8 h_M_8 hf
  exact g_retv hC h_M_8 hf dX1_figure_48
set_option maxHeartbeats 4000000 in
set_option maxRecDepth 100000 in
theorem c_X1_howManyPart (l : Launch) (B : Nat) (D : va_G) (K : Nat → ClassId) (n : Nat) (a1 : Nat) (h_n : is_X1 n) (h_a1 : is_X5 a1) (M : Mem) (hM : MR M) (Q : Int → Prop) (hf : f_X1_howManyPart n a1 M Q) : CtI l yX1_howManyPart cX1_howManyPart 4 0 0 B D K [.ref (B + n), .ref (B + a1)] M (fun r M1 => M = M1 ∧ Q r) := by
  refine ct_i (by decide) (Nat.le_of_ble_eq_true rfl) ?_
  intro p e s m args below meth c hC
  have hC : Cx p s m args meth c D K cX1_howManyPart 4 RX1 (some .int) := hC
  unfold f_X1_howManyPart at hf
  refine (show G p l e (rmF 0 0) s m args below meth c B D K 4 0 0 (ZI below args s B D K (fun r M1 => M = M1 ∧ Q r)) M 0 [(0, .ref (B + n)), (1, .ref (B + a1))] [] from ?_)
  refine g_iconst hC dX1_howManyPart_0 ?_
  refine g_istore_n hC [(2, J 0), (0, .ref (B + n)), (1, .ref (B + a1))] dX1_howManyPart_1 rfl (by decide) rfl ?_
  refine g_iconst hC dX1_howManyPart_2 ?_
  refine g_istore_n hC [(3, J 0), (2, J 0), (0, .ref (B + n)), (1, .ref (B + a1))] dX1_howManyPart_3 rfl (by decide) rfl ?_
  refine g_sub [(0, .ref (B + n)), (1, .ref (B + a1)), (2, J 0), (3, J 0)] [2, 3, 1, 0] rfl ?_
  refine wl2_elim (fun (v2_1 : Int) (v3_2 : Int) => inR v2_1 → inR v3_2 → G p l e (rmF 0 0) s m args below meth c B D K 4 0 0 (ZI below args s B D K (fun r M1 => M = M1 ∧ Q r)) M 4 [(0, .ref (B + n)), (1, .ref (B + a1)), (2, J v2_1), (3, J v3_2)] []) ?_ 5000 0 0 hf (by unfold inR; omega) (by unfold inR; omega)
  intro rec4 ih4 v2_1 v3_2 hf h_v2_1 h_v3_2
  unfold X1_howManyPart_b4 at hf
  refine g_iload_n hC 3 dX1_howManyPart_4 rfl rfl ?_
  refine g_aload_n hC 1 dX1_howManyPart_5 rfl rfl ?_
  refine g_geti hC okX5 (sh_X5 h_a1) 0 (by decide) rfl wf_X1_99 dX1_howManyPart_6 ?_
  refine g_icmp_ge hC 31 h_v3_2 (hM _ _) dX1_howManyPart_9 rfl (fun c_11 => ?_) (fun c_11 => ?_)
  · replace hf := hf.1 c_11
    refine g_iload_n hC 2 dX1_howManyPart_31 rfl rfl ?_
    exact g_reti hC h_v2_1 hM ⟨rfl, hf⟩ dX1_howManyPart_32
  · replace hf := hf.2 c_11
    refine g_aload_n hC 0 dX1_howManyPart_12 rfl rfl ?_
    refine g_getr hC okX1 (sh_X1 h_n) 3 (by decide) rfl wf_X1_21 dX1_howManyPart_13 ?_
    refine g_iload_n hC 3 dX1_howManyPart_16 rfl rfl ?_
    obtain ⟨q_3, hf⟩ := hf
    refine g_ialdk (v3_2.toNat) hC (sh_X1_3 h_n) q_3.1 q_3.2 rfl dX1_howManyPart_17 ?_
    refine g_iconst hC dX1_howManyPart_18 ?_
    refine g_icmp_lt hC 25 (hM _ _) (by unfold inR; omega) dX1_howManyPart_19 rfl (fun c_10 => ?_) (fun c_10 => ?_)
    · replace hf := hf.1 c_10
      obtain ⟨q_5, hf⟩ := hf
      obtain ⟨v3_4, e_v3_4⟩ : ∃ z : Int, z = v3_2 + 1 := ⟨_, rfl⟩
      replace hf := hf v3_4 e_v3_4
      have h_v3_4 : inR v3_4 := by rw [e_v3_4]; exact q_5
      refine g_iincv hC 3 e_v3_4 [(3, J v3_4), (0, .ref (B + n)), (1, .ref (B + a1)), (2, J v2_1)] dX1_howManyPart_25 rfl (by decide) rfl ?_
      refine g_goto hC 4 dX1_howManyPart_28 rfl ?_
      refine g_sub [(0, .ref (B + n)), (1, .ref (B + a1)), (2, J v2_1), (3, J v3_4)] [1, 2, 3, 0] rfl ?_
      exact ih4 v2_1 v3_4 hf h_v2_1 h_v3_4
    · replace hf := hf.2 c_10
      obtain ⟨q_7, hf⟩ := hf
      obtain ⟨v2_6, e_v2_6⟩ : ∃ z : Int, z = v2_1 + 1 := ⟨_, rfl⟩
      replace hf := hf v2_6 e_v2_6
      have h_v2_6 : inR v2_6 := by rw [e_v2_6]; exact q_7
      refine g_iincv hC 2 e_v2_6 [(2, J v2_6), (0, .ref (B + n)), (1, .ref (B + a1)), (3, J v3_2)] dX1_howManyPart_22 rfl (by decide) rfl ?_
      obtain ⟨q_9, hf⟩ := hf
      obtain ⟨v3_8, e_v3_8⟩ : ∃ z : Int, z = v3_2 + 1 := ⟨_, rfl⟩
      replace hf := hf v3_8 e_v3_8
      have h_v3_8 : inR v3_8 := by rw [e_v3_8]; exact q_9
      refine g_iincv hC 3 e_v3_8 [(3, J v3_8), (2, J v2_6), (0, .ref (B + n)), (1, .ref (B + a1))] dX1_howManyPart_25 rfl (by decide) rfl ?_
      refine g_goto hC 4 dX1_howManyPart_28 rfl ?_
      refine g_sub [(0, .ref (B + n)), (1, .ref (B + a1)), (2, J v2_6), (3, J v3_8)] [2, 3, 1, 0] rfl ?_
      exact ih4 v2_6 v3_8 hf h_v2_6 h_v3_8
set_option maxHeartbeats 4000000 in
set_option maxRecDepth 100000 in
theorem c_X1_greatestMet (l : Launch) (B : Nat) (D : va_G) (K : Nat → ClassId) (n : Nat) (a1 : Nat) (h_n : is_X1 n) (h_a1 : is_X5 a1) (M : Mem) (hM : MR M) (Q : Int → Prop) (hf : f_X1_greatestMet n a1 M Q) : CtI l yX1_greatestMet cX1_greatestMet 4 1 40 B D K [.ref (B + n), .ref (B + a1)] M (fun r M1 => M = M1 ∧ Q r) := by
  refine ct_i (by decide) (Nat.le_of_ble_eq_true rfl) ?_
  intro p e s m args below meth c hC
  have hC : Cx p s m args meth c D K cX1_greatestMet 4 RX1 (some .int) := hC
  unfold f_X1_greatestMet at hf
  refine (show G p l e (rmF 1 40) s m args below meth c B D K 4 0 0 (ZI below args s B D K (fun r M1 => M = M1 ∧ Q r)) M 0 [(0, .ref (B + n)), (1, .ref (B + a1))] [] from ?_)
  refine g_iconst hC dX1_greatestMet_0 ?_
  refine g_istore_n hC [(2, J 0), (0, .ref (B + n)), (1, .ref (B + a1))] dX1_greatestMet_1 rfl (by decide) rfl ?_
  refine g_iconst hC dX1_greatestMet_2 ?_
  refine g_istore_n hC [(3, J 0), (2, J 0), (0, .ref (B + n)), (1, .ref (B + a1))] dX1_greatestMet_3 rfl (by decide) rfl ?_
  refine g_sub [(0, .ref (B + n)), (1, .ref (B + a1)), (2, J 0), (3, J 0)] [2, 3, 1, 0] rfl ?_
  refine wl2_elim (fun (v2_1 : Int) (v3_2 : Int) => inR v2_1 → inR v3_2 → G p l e (rmF 1 40) s m args below meth c B D K 4 0 0 (ZI below args s B D K (fun r M1 => M = M1 ∧ Q r)) M 4 [(0, .ref (B + n)), (1, .ref (B + a1)), (2, J v2_1), (3, J v3_2)] []) ?_ 5000 0 0 hf (by unfold inR; omega) (by unfold inR; omega)
  intro rec4 ih4 v2_1 v3_2 hf h_v2_1 h_v3_2
  unfold X1_greatestMet_b4 at hf
  refine g_iload_n hC 3 dX1_greatestMet_4 rfl rfl ?_
  refine g_aload_n hC 1 dX1_greatestMet_5 rfl rfl ?_
  refine g_geti hC okX5 (sh_X5 h_a1) 1 (by decide) rfl wf_X1_81 dX1_greatestMet_6 ?_
  refine g_icmp_ge hC 29 h_v3_2 (hM _ _) dX1_greatestMet_9 rfl (fun c_7 => ?_) (fun c_7 => ?_)
  · replace hf := hf.1 c_7
    refine g_iload_n hC 2 dX1_greatestMet_29 rfl rfl ?_
    exact g_reti hC h_v2_1 hM ⟨rfl, hf⟩ dX1_greatestMet_30
  · replace hf := hf.2 c_7
    refine g_iload_n hC 2 dX1_greatestMet_12 rfl rfl ?_
    refine g_aload_n hC 0 dX1_greatestMet_13 rfl rfl ?_
    refine g_getr hC okX1 (sh_X1 h_n) 9 (by decide) rfl wf_X1_39 dX1_greatestMet_14 ?_
    refine g_iload_n hC 3 dX1_greatestMet_17 rfl rfl ?_
    obtain ⟨q_3, hf⟩ := hf
    refine g_ialdk (v3_2.toNat) hC (sh_X1_9 h_n) q_3.1 q_3.2 rfl dX1_greatestMet_18 ?_
    refine g_max hC h_v2_1 (hM _ _) ⟨wm_X1_105, wj_max⟩ (Nat.le_of_ble_eq_true rfl) (Nat.le_of_ble_eq_true rfl) (Nat.zero_le _) (Nat.zero_le _) dX1_greatestMet_19 ?_
    refine g_nm (fun v2_4 e_v2_4 => ?_)
    replace hf := hf v2_4 e_v2_4
    have h_v2_4 : inR v2_4 := by rw [e_v2_4]; exact (max_in h_v2_1 (hM _ _))
    refine g_istore_n hC [(2, J v2_4), (0, .ref (B + n)), (1, .ref (B + a1)), (3, J v3_2)] dX1_greatestMet_22 rfl (by decide) rfl ?_
    obtain ⟨q_6, hf⟩ := hf
    obtain ⟨v3_5, e_v3_5⟩ : ∃ z : Int, z = v3_2 + 1 := ⟨_, rfl⟩
    replace hf := hf v3_5 e_v3_5
    have h_v3_5 : inR v3_5 := by rw [e_v3_5]; exact q_6
    refine g_iincv hC 3 e_v3_5 [(3, J v3_5), (2, J v2_4), (0, .ref (B + n)), (1, .ref (B + a1))] dX1_greatestMet_23 rfl (by decide) rfl ?_
    refine g_goto hC 4 dX1_greatestMet_26 rfl ?_
    refine g_sub [(0, .ref (B + n)), (1, .ref (B + a1)), (2, J v2_4), (3, J v3_5)] [2, 3, 1, 0] rfl ?_
    exact ih4 v2_4 v3_5 hf h_v2_4 h_v3_5
set_option maxHeartbeats 4000000 in
set_option maxRecDepth 100000 in
theorem c_X1_howManyMet (l : Launch) (B : Nat) (D : va_G) (K : Nat → ClassId) (n : Nat) (a1 : Nat) (v2 : Int) (h_n : is_X1 n) (h_a1 : is_X5 a1) (i_v2 : inR v2) (M : Mem) (hM : MR M) (Q : Int → Prop) (hf : f_X1_howManyMet n a1 v2 M Q) : CtI l yX1_howManyMet cX1_howManyMet 5 0 0 B D K [.ref (B + n), .ref (B + a1), J v2] M (fun r M1 => M = M1 ∧ Q r) := by
  refine ct_i (by decide) (Nat.le_of_ble_eq_true rfl) ?_
  intro p e s m args below meth c hC
  have hC : Cx p s m args meth c D K cX1_howManyMet 5 RX1 (some .int) := hC
  unfold f_X1_howManyMet at hf
  refine (show G p l e (rmF 0 0) s m args below meth c B D K 5 0 0 (ZI below args s B D K (fun r M1 => M = M1 ∧ Q r)) M 0 [(0, .ref (B + n)), (1, .ref (B + a1)), (2, J v2)] [] from ?_)
  refine g_iconst hC dX1_howManyMet_0 ?_
  refine g_istore_n hC [(3, J 0), (0, .ref (B + n)), (1, .ref (B + a1)), (2, J v2)] dX1_howManyMet_1 rfl (by decide) rfl ?_
  refine g_iconst hC dX1_howManyMet_2 ?_
  refine g_istore hC [(4, J 0), (3, J 0), (0, .ref (B + n)), (1, .ref (B + a1)), (2, J v2)] dX1_howManyMet_3 (by decide) rfl ?_
  refine g_sub [(0, .ref (B + n)), (1, .ref (B + a1)), (2, J v2), (3, J 0), (4, J 0)] [2, 3, 4, 1, 0] rfl ?_
  refine wl2_elim (fun (v3_1 : Int) (v4_2 : Int) => inR v3_1 → inR v4_2 → G p l e (rmF 0 0) s m args below meth c B D K 5 0 0 (ZI below args s B D K (fun r M1 => M = M1 ∧ Q r)) M 5 [(0, .ref (B + n)), (1, .ref (B + a1)), (2, J v2), (3, J v3_1), (4, J v4_2)] []) ?_ 5000 0 0 hf (by unfold inR; omega) (by unfold inR; omega)
  intro rec5 ih5 v3_1 v4_2 hf h_v3_1 h_v4_2
  unfold X1_howManyMet_b5 at hf
  refine g_iload hC 4 dX1_howManyMet_5 rfl ?_
  refine g_aload_n hC 1 dX1_howManyMet_7 rfl rfl ?_
  refine g_geti hC okX5 (sh_X5 h_a1) 1 (by decide) rfl wf_X1_81 dX1_howManyMet_8 ?_
  refine g_icmp_ge hC 34 h_v4_2 (hM _ _) dX1_howManyMet_11 rfl (fun c_11 => ?_) (fun c_11 => ?_)
  · replace hf := hf.1 c_11
    refine g_iload_n hC 3 dX1_howManyMet_34 rfl rfl ?_
    exact g_reti hC h_v3_1 hM ⟨rfl, hf⟩ dX1_howManyMet_35
  · replace hf := hf.2 c_11
    refine g_aload_n hC 0 dX1_howManyMet_14 rfl rfl ?_
    refine g_getr hC okX1 (sh_X1 h_n) 9 (by decide) rfl wf_X1_39 dX1_howManyMet_15 ?_
    refine g_iload hC 4 dX1_howManyMet_18 rfl ?_
    obtain ⟨q_3, hf⟩ := hf
    refine g_ialdk (v4_2.toNat) hC (sh_X1_9 h_n) q_3.1 q_3.2 rfl dX1_howManyMet_20 ?_
    refine g_iload_n hC 2 dX1_howManyMet_21 rfl rfl ?_
    refine g_icmp_ne hC 28 (hM _ _) i_v2 dX1_howManyMet_22 rfl (fun c_10 => ?_) (fun c_10 => ?_)
    · replace hf := hf.1 c_10
      obtain ⟨q_5, hf⟩ := hf
      obtain ⟨v4_4, e_v4_4⟩ : ∃ z : Int, z = v4_2 + 1 := ⟨_, rfl⟩
      replace hf := hf v4_4 e_v4_4
      have h_v4_4 : inR v4_4 := by rw [e_v4_4]; exact q_5
      refine g_iincv hC 4 e_v4_4 [(4, J v4_4), (0, .ref (B + n)), (1, .ref (B + a1)), (2, J v2), (3, J v3_1)] dX1_howManyMet_28 rfl (by decide) rfl ?_
      refine g_goto hC 5 dX1_howManyMet_31 rfl ?_
      refine g_sub [(0, .ref (B + n)), (1, .ref (B + a1)), (2, J v2), (3, J v3_1), (4, J v4_4)] [1, 2, 3, 4, 0] rfl ?_
      exact ih5 v3_1 v4_4 hf h_v3_1 h_v4_4
    · replace hf := hf.2 c_10
      obtain ⟨q_7, hf⟩ := hf
      obtain ⟨v3_6, e_v3_6⟩ : ∃ z : Int, z = v3_1 + 1 := ⟨_, rfl⟩
      replace hf := hf v3_6 e_v3_6
      have h_v3_6 : inR v3_6 := by rw [e_v3_6]; exact q_7
      refine g_iincv hC 3 e_v3_6 [(3, J v3_6), (0, .ref (B + n)), (1, .ref (B + a1)), (2, J v2), (4, J v4_2)] dX1_howManyMet_25 rfl (by decide) rfl ?_
      obtain ⟨q_9, hf⟩ := hf
      obtain ⟨v4_8, e_v4_8⟩ : ∃ z : Int, z = v4_2 + 1 := ⟨_, rfl⟩
      replace hf := hf v4_8 e_v4_8
      have h_v4_8 : inR v4_8 := by rw [e_v4_8]; exact q_9
      refine g_iincv hC 4 e_v4_8 [(4, J v4_8), (3, J v3_6), (0, .ref (B + n)), (1, .ref (B + a1)), (2, J v2)] dX1_howManyMet_28 rfl (by decide) rfl ?_
      refine g_goto hC 5 dX1_howManyMet_31 rfl ?_
      refine g_sub [(0, .ref (B + n)), (1, .ref (B + a1)), (2, J v2), (3, J v3_6), (4, J v4_8)] [2, 3, 4, 1, 0] rfl ?_
      exact ih5 v3_6 v4_8 hf h_v3_6 h_v4_8
set_option maxHeartbeats 4000000 in
set_option maxRecDepth 100000 in
theorem c_X1_lengthOfMet (l : Launch) (B : Nat) (D : va_G) (K : Nat → ClassId) (n : Nat) (a1 : Nat) (v2 : Int) (h_n : is_X1 n) (h_a1 : is_X5 a1) (i_v2 : inR v2) (M : Mem) (hM : MR M) (Q : Int → Prop) (hf : f_X1_lengthOfMet n a1 v2 M Q) : CtI l yX1_lengthOfMet cX1_lengthOfMet 5 0 0 B D K [.ref (B + n), .ref (B + a1), J v2] M (fun r M1 => M = M1 ∧ Q r) := by
  refine ct_i (by decide) (Nat.le_of_ble_eq_true rfl) ?_
  intro p e s m args below meth c hC
  have hC : Cx p s m args meth c D K cX1_lengthOfMet 5 RX1 (some .int) := hC
  unfold f_X1_lengthOfMet at hf
  refine (show G p l e (rmF 0 0) s m args below meth c B D K 5 0 0 (ZI below args s B D K (fun r M1 => M = M1 ∧ Q r)) M 0 [(0, .ref (B + n)), (1, .ref (B + a1)), (2, J v2)] [] from ?_)
  refine g_iconst hC dX1_lengthOfMet_0 ?_
  refine g_istore_n hC [(3, J 0), (0, .ref (B + n)), (1, .ref (B + a1)), (2, J v2)] dX1_lengthOfMet_1 rfl (by decide) rfl ?_
  refine g_iconst hC dX1_lengthOfMet_2 ?_
  refine g_istore hC [(4, J 0), (3, J 0), (0, .ref (B + n)), (1, .ref (B + a1)), (2, J v2)] dX1_lengthOfMet_3 (by decide) rfl ?_
  refine g_sub [(0, .ref (B + n)), (1, .ref (B + a1)), (2, J v2), (3, J 0), (4, J 0)] [2, 3, 4, 1, 0] rfl ?_
  refine wl2_elim (fun (v3_1 : Int) (v4_2 : Int) => inR v3_1 → inR v4_2 → G p l e (rmF 0 0) s m args below meth c B D K 5 0 0 (ZI below args s B D K (fun r M1 => M = M1 ∧ Q r)) M 5 [(0, .ref (B + n)), (1, .ref (B + a1)), (2, J v2), (3, J v3_1), (4, J v4_2)] []) ?_ 5000 0 0 hf (by unfold inR; omega) (by unfold inR; omega)
  intro rec5 ih5 v3_1 v4_2 hf h_v3_1 h_v4_2
  unfold X1_lengthOfMet_b5 at hf
  refine g_iload hC 4 dX1_lengthOfMet_5 rfl ?_
  refine g_aload_n hC 1 dX1_lengthOfMet_7 rfl rfl ?_
  refine g_geti hC okX5 (sh_X5 h_a1) 1 (by decide) rfl wf_X1_81 dX1_lengthOfMet_8 ?_
  refine g_icmp_ge hC 41 h_v4_2 (hM _ _) dX1_lengthOfMet_11 rfl (fun c_11 => ?_) (fun c_11 => ?_)
  · replace hf := hf.1 c_11
    refine g_iload_n hC 3 dX1_lengthOfMet_41 rfl rfl ?_
    exact g_reti hC h_v3_1 hM ⟨rfl, hf⟩ dX1_lengthOfMet_42
  · replace hf := hf.2 c_11
    refine g_aload_n hC 0 dX1_lengthOfMet_14 rfl rfl ?_
    refine g_getr hC okX1 (sh_X1 h_n) 9 (by decide) rfl wf_X1_39 dX1_lengthOfMet_15 ?_
    refine g_iload hC 4 dX1_lengthOfMet_18 rfl ?_
    obtain ⟨q_3, hf⟩ := hf
    refine g_ialdk (v4_2.toNat) hC (sh_X1_9 h_n) q_3.1 q_3.2 rfl dX1_lengthOfMet_20 ?_
    refine g_iload_n hC 2 dX1_lengthOfMet_21 rfl rfl ?_
    refine g_icmp_ne hC 35 (hM _ _) i_v2 dX1_lengthOfMet_22 rfl (fun c_10 => ?_) (fun c_10 => ?_)
    · replace hf := hf.1 c_10
      obtain ⟨q_5, hf⟩ := hf
      obtain ⟨v4_4, e_v4_4⟩ : ∃ z : Int, z = v4_2 + 1 := ⟨_, rfl⟩
      replace hf := hf v4_4 e_v4_4
      have h_v4_4 : inR v4_4 := by rw [e_v4_4]; exact q_5
      refine g_iincv hC 4 e_v4_4 [(4, J v4_4), (0, .ref (B + n)), (1, .ref (B + a1)), (2, J v2), (3, J v3_1)] dX1_lengthOfMet_35 rfl (by decide) rfl ?_
      refine g_goto hC 5 dX1_lengthOfMet_38 rfl ?_
      refine g_sub [(0, .ref (B + n)), (1, .ref (B + a1)), (2, J v2), (3, J v3_1), (4, J v4_4)] [1, 2, 3, 4, 0] rfl ?_
      exact ih5 v3_1 v4_4 hf h_v3_1 h_v4_4
    · replace hf := hf.2 c_10
      refine g_iload_n hC 3 dX1_lengthOfMet_25 rfl rfl ?_
      refine g_aload_n hC 1 dX1_lengthOfMet_26 rfl rfl ?_
      refine g_getr hC okX5 (sh_X5 h_a1) 4 (by decide) rfl wf_X1_102 dX1_lengthOfMet_27 ?_
      refine g_iload hC 4 dX1_lengthOfMet_30 rfl ?_
      refine g_ialdk (v4_2.toNat) hC (sh_X5_4 h_a1) q_3.1 q_3.2 rfl dX1_lengthOfMet_32 ?_
      refine g_iadd hC dX1_lengthOfMet_33 ?_
      obtain ⟨q_6, hf⟩ := hf
      refine g_nm (fun v3_7 e_v3_7 => ?_)
      replace hf := hf v3_7 e_v3_7
      have h_v3_7 : inR v3_7 := by rw [e_v3_7]; exact q_6
      refine g_istore_n hC [(3, J v3_7), (0, .ref (B + n)), (1, .ref (B + a1)), (2, J v2), (4, J v4_2)] dX1_lengthOfMet_34 rfl (by decide) rfl ?_
      obtain ⟨q_9, hf⟩ := hf
      obtain ⟨v4_8, e_v4_8⟩ : ∃ z : Int, z = v4_2 + 1 := ⟨_, rfl⟩
      replace hf := hf v4_8 e_v4_8
      have h_v4_8 : inR v4_8 := by rw [e_v4_8]; exact q_9
      refine g_iincv hC 4 e_v4_8 [(4, J v4_8), (3, J v3_7), (0, .ref (B + n)), (1, .ref (B + a1)), (2, J v2)] dX1_lengthOfMet_35 rfl (by decide) rfl ?_
      refine g_goto hC 5 dX1_lengthOfMet_38 rfl ?_
      refine g_sub [(0, .ref (B + n)), (1, .ref (B + a1)), (2, J v2), (3, J v3_7), (4, J v4_8)] [2, 3, 4, 1, 0] rfl ?_
      exact ih5 v3_7 v4_8 hf h_v3_7 h_v4_8
set_option maxHeartbeats 4000000 in
set_option maxRecDepth 100000 in
theorem c_X1_meeting (l : Launch) (B : Nat) (D : va_G) (K : Nat → ClassId) (n : Nat) (a1 : Nat) (v2 : Int) (v3 : Int) (h_n : is_X1 n) (h_a1 : is_X5 a1) (i_v2 : inR v2) (i_v3 : inR v3) (M : Mem) (hM : MR M) (Q : Int → Prop) (hf : f_X1_meeting n a1 v2 v3 M Q) : CtI l yX1_meeting cX1_meeting 6 0 0 B D K [.ref (B + n), .ref (B + a1), J v2, J v3] M (fun r M1 => M = M1 ∧ Q r) := by
  refine ct_i (by decide) (Nat.le_of_ble_eq_true rfl) ?_
  intro p e s m args below meth c hC
  have hC : Cx p s m args meth c D K cX1_meeting 6 RX1 (some .int) := hC
  unfold f_X1_meeting at hf
  refine (show G p l e (rmF 0 0) s m args below meth c B D K 6 0 0 (ZI below args s B D K (fun r M1 => M = M1 ∧ Q r)) M 0 [(0, .ref (B + n)), (1, .ref (B + a1)), (2, J v2), (3, J v3)] [] from ?_)
  refine g_aload_n hC 0 dX1_meeting_0 rfl rfl ?_
  refine g_getr hC okX1 (sh_X1 h_n) 5 (by decide) rfl wf_X1_27 dX1_meeting_1 ?_
  refine g_iload_n hC 2 dX1_meeting_4 rfl rfl ?_
  obtain ⟨q_1, hf⟩ := hf
  refine g_ialdk (v2.toNat) hC (sh_X1_5 h_n) q_1.1 q_1.2 rfl dX1_meeting_5 ?_
  refine g_iconst hC dX1_meeting_6 ?_
  refine g_iload_n hC 2 dX1_meeting_7 rfl rfl ?_
  refine g_ishl hC dX1_meeting_8 ?_
  refine g_ior hC dX1_meeting_9 ?_
  refine g_aload_n hC 0 dX1_meeting_10 rfl rfl ?_
  refine g_getr hC okX1 (sh_X1 h_n) 5 (by decide) rfl wf_X1_27 dX1_meeting_11 ?_
  refine g_iload_n hC 3 dX1_meeting_14 rfl rfl ?_
  obtain ⟨q_2, hf⟩ := hf
  refine g_ialdk (v3.toNat) hC (sh_X1_5 h_n) q_2.1 q_2.2 rfl dX1_meeting_15 ?_
  refine g_iconst hC dX1_meeting_16 ?_
  refine g_iload_n hC 3 dX1_meeting_17 rfl rfl ?_
  refine g_ishl hC dX1_meeting_18 ?_
  refine g_ior hC dX1_meeting_19 ?_
  refine g_iand hC dX1_meeting_20 ?_
  refine g_nm (fun v4_3 e_v4_3 => ?_)
  replace hf := hf v4_3 e_v4_3
  have h_v4_3 : inR v4_3 := by rw [e_v4_3]; exact (bAnd_in _ _)
  refine g_istore hC [(4, J v4_3), (0, .ref (B + n)), (1, .ref (B + a1)), (2, J v2), (3, J v3)] dX1_meeting_21 (by decide) rfl ?_
  refine g_iconst hC dX1_meeting_23 ?_
  refine g_istore hC [(5, J 0), (4, J v4_3), (0, .ref (B + n)), (1, .ref (B + a1)), (2, J v2), (3, J v3)] dX1_meeting_24 (by decide) rfl ?_
  refine g_sub [(0, .ref (B + n)), (1, .ref (B + a1)), (4, J v4_3), (5, J 0)] [2, 3, 1, 0] rfl ?_
  refine wl1_elim (fun (v5_4 : Int) => inR v5_4 → G p l e (rmF 0 0) s m args below meth c B D K 6 0 0 (ZI below args s B D K (fun r M1 => M = M1 ∧ Q r)) M 26 [(0, .ref (B + n)), (1, .ref (B + a1)), (4, J v4_3), (5, J v5_4)] []) ?_ 5000 0 hf (by unfold inR; omega)
  intro rec26 ih26 v5_4 hf h_v5_4
  unfold X1_meeting_b26 at hf
  refine g_iload hC 3 dX1_meeting_26 rfl ?_
  refine g_aload_n hC 1 dX1_meeting_28 rfl rfl ?_
  refine g_geti hC okX5 (sh_X5 h_a1) 0 (by decide) rfl wf_X1_99 dX1_meeting_29 ?_
  refine g_icmp_ge hC 68 h_v5_4 (hM _ _) dX1_meeting_32 rfl (fun c_12 => ?_) (fun c_12 => ?_)
  · replace hf := hf.1 c_12
    refine g_iconst hC dX1_meeting_68 ?_
    exact g_reti hC (by unfold inR; omega) hM ⟨rfl, hf⟩ dX1_meeting_69
  · replace hf := hf.2 c_12
    refine g_iload hC 2 dX1_meeting_35 rfl ?_
    refine g_iload hC 3 dX1_meeting_37 rfl ?_
    refine g_ishr hC dX1_meeting_39 ?_
    refine g_iconst hC dX1_meeting_40 ?_
    refine g_iand hC dX1_meeting_41 ?_
    refine g_iconst hC dX1_meeting_42 ?_
    refine g_icmp_ne hC 62 (bAnd_in _ _) (by unfold inR; omega) dX1_meeting_43 rfl (fun c_11 => ?_) (fun c_11 => ?_)
    · replace hf := hf.1 c_11
      obtain ⟨q_6, hf⟩ := hf
      obtain ⟨v5_5, e_v5_5⟩ : ∃ z : Int, z = v5_4 + 1 := ⟨_, rfl⟩
      replace hf := hf v5_5 e_v5_5
      have h_v5_5 : inR v5_5 := by rw [e_v5_5]; exact q_6
      refine g_iincv hC 3 e_v5_5 [(5, J v5_5), (0, .ref (B + n)), (1, .ref (B + a1)), (4, J v4_3)] dX1_meeting_62 rfl (by decide) rfl ?_
      refine g_goto hC 26 dX1_meeting_65 rfl ?_
      refine g_sub [(0, .ref (B + n)), (1, .ref (B + a1)), (4, J v4_3), (5, J v5_5)] [1, 2, 3, 0] rfl ?_
      exact ih26 v5_5 hf h_v5_5
    · replace hf := hf.2 c_11
      refine g_aload_n hC 0 dX1_meeting_46 rfl rfl ?_
      refine g_getr hC okX1 (sh_X1 h_n) 4 (by decide) rfl wf_X1_24 dX1_meeting_47 ?_
      refine g_iload hC 3 dX1_meeting_50 rfl ?_
      obtain ⟨q_7, hf⟩ := hf
      refine g_ialdk (v5_4.toNat) hC (sh_X1_4 h_n) q_7.1 q_7.2 rfl dX1_meeting_52 ?_
      refine g_iload hC 2 dX1_meeting_53 rfl ?_
      refine g_iand hC dX1_meeting_55 ?_
      refine g_if_ne hC 62 (bAnd_in _ _) dX1_meeting_56 rfl (fun c_10 => ?_) (fun c_10 => ?_)
      · replace hf := hf.1 c_10
        obtain ⟨q_9, hf⟩ := hf
        obtain ⟨v5_8, e_v5_8⟩ : ∃ z : Int, z = v5_4 + 1 := ⟨_, rfl⟩
        replace hf := hf v5_8 e_v5_8
        have h_v5_8 : inR v5_8 := by rw [e_v5_8]; exact q_9
        refine g_iincv hC 3 e_v5_8 [(5, J v5_8), (0, .ref (B + n)), (1, .ref (B + a1)), (4, J v4_3)] dX1_meeting_62 rfl (by decide) rfl ?_
        refine g_goto hC 26 dX1_meeting_65 rfl ?_
        refine g_sub [(0, .ref (B + n)), (1, .ref (B + a1)), (4, J v4_3), (5, J v5_8)] [1, 2, 3, 0] rfl ?_
        exact ih26 v5_8 hf h_v5_8
      · replace hf := hf.2 c_10
        refine g_iload hC 3 dX1_meeting_59 rfl ?_
        exact g_reti hC h_v5_4 hM ⟨rfl, hf⟩ dX1_meeting_61
set_option maxHeartbeats 4000000 in
set_option maxRecDepth 100000 in
theorem c_X1_comeBeside (l : Launch) (B : Nat) (D : va_G) (K : Nat → ClassId) (n : Nat) (a1 : Nat) (v2 : Int) (v3 : Int) (h_n : is_X1 n) (h_a1 : is_X5 a1) (i_v2 : inR v2) (i_v3 : inR v3) (M : Mem) (hM : MR M) (Q : Int → Prop) (hf : f_X1_comeBeside n a1 v2 v3 M Q) : CtI l yX1_comeBeside cX1_comeBeside 7 0 0 B D K [.ref (B + n), .ref (B + a1), J v2, J v3] M (fun r M1 => M = M1 ∧ Q r) := by
  refine ct_i (by decide) (Nat.le_of_ble_eq_true rfl) ?_
  intro p e s m args below meth c hC
  have hC : Cx p s m args meth c D K cX1_comeBeside 7 RX1 (some .int) := hC
  unfold f_X1_comeBeside at hf
  refine (show G p l e (rmF 0 0) s m args below meth c B D K 7 0 0 (ZI below args s B D K (fun r M1 => M = M1 ∧ Q r)) M 0 [(0, .ref (B + n)), (1, .ref (B + a1)), (2, J v2), (3, J v3)] [] from ?_)
  refine g_iconst hC dX1_comeBeside_0 ?_
  refine g_iload_n hC 2 dX1_comeBeside_1 rfl rfl ?_
  refine g_ishl hC dX1_comeBeside_2 ?_
  refine g_nm (fun v4_1 e_v4_1 => ?_)
  replace hf := hf v4_1 e_v4_1
  have h_v4_1 : inR v4_1 := by rw [e_v4_1]; exact (bShl_in _ _)
  refine g_istore hC [(4, J v4_1), (0, .ref (B + n)), (1, .ref (B + a1)), (2, J v2), (3, J v3)] dX1_comeBeside_3 (by decide) rfl ?_
  refine g_iconst hC dX1_comeBeside_5 ?_
  refine g_istore hC [(5, J 0), (4, J v4_1), (0, .ref (B + n)), (1, .ref (B + a1)), (2, J v2), (3, J v3)] dX1_comeBeside_6 (by decide) rfl ?_
  refine g_sub [(0, .ref (B + n)), (1, .ref (B + a1)), (3, J v3), (4, J v4_1), (5, J 0)] [2, 3, 5, 1, 0] rfl ?_
  refine wl2_elim (fun (v4_2 : Int) (v5_3 : Int) => inR v4_2 → inR v5_3 → G p l e (rmF 0 0) s m args below meth c B D K 7 0 0 (ZI below args s B D K (fun r M1 => M = M1 ∧ Q r)) M 8 [(0, .ref (B + n)), (1, .ref (B + a1)), (3, J v3), (4, J v4_2), (5, J v5_3)] []) ?_ 5000 v4_1 0 hf h_v4_1 (by unfold inR; omega)
  intro rec8 ih8 v4_2 v5_3 hf h_v4_2 h_v5_3
  unfold X1_comeBeside_b8 at hf
  refine g_iload hC 4 dX1_comeBeside_8 rfl ?_
  refine g_aload_n hC 1 dX1_comeBeside_10 rfl rfl ?_
  refine g_geti hC okX5 (sh_X5 h_a1) 1 (by decide) rfl wf_X1_81 dX1_comeBeside_11 ?_
  refine g_icmp_ge hC 73 h_v5_3 (hM _ _) dX1_comeBeside_14 rfl (fun c_16 => ?_) (fun c_16 => ?_)
  · replace hf := hf.1 c_16
    refine g_iload hC 3 dX1_comeBeside_73 rfl ?_
    exact g_reti hC h_v4_2 hM ⟨rfl, hf⟩ dX1_comeBeside_75
  · replace hf := hf.2 c_16
    refine g_aload_n hC 0 dX1_comeBeside_17 rfl rfl ?_
    refine g_getr hC okX1 (sh_X1 h_n) 1 (by decide) rfl wf_X1_15 dX1_comeBeside_18 ?_
    refine g_iload hC 4 dX1_comeBeside_21 rfl ?_
    obtain ⟨q_4, hf⟩ := hf
    refine g_ialdk (v5_3.toNat) hC (sh_X1_1 h_n) q_4.1 q_4.2 rfl dX1_comeBeside_23 ?_
    refine g_nm (fun v6_5 e_v6_5 => ?_)
    replace hf := hf v6_5 e_v6_5
    have h_v6_5 : inR v6_5 := by rw [e_v6_5]; exact (hM _ _)
    refine g_istore hC [(6, J v6_5), (0, .ref (B + n)), (1, .ref (B + a1)), (3, J v3), (4, J v4_2), (5, J v5_3)] dX1_comeBeside_24 (by decide) rfl ?_
    refine g_aload_n hC 2 dX1_comeBeside_26 rfl rfl ?_
    refine g_getr hC okX5 (sh_X5 h_a1) 3 (by decide) rfl wf_X1_90 dX1_comeBeside_27 ?_
    refine g_iload hC 0 dX1_comeBeside_30 rfl ?_
    obtain ⟨q_6, hf⟩ := hf
    refine g_ialdk (v6_5.toNat) hC (sh_X5_3 h_a1) q_6.1 q_6.2 rfl dX1_comeBeside_32 ?_
    refine g_iload_n hC 3 dX1_comeBeside_33 rfl rfl ?_
    refine g_icmp_eq hC 67 (hM _ _) i_v3 dX1_comeBeside_34 rfl (fun c_15 => ?_) (fun c_15 => ?_)
    · replace hf := hf.1 c_15
      obtain ⟨q_8, hf⟩ := hf
      obtain ⟨v5_7, e_v5_7⟩ : ∃ z : Int, z = v5_3 + 1 := ⟨_, rfl⟩
      replace hf := hf v5_7 e_v5_7
      have h_v5_7 : inR v5_7 := by rw [e_v5_7]; exact q_8
      refine g_iincv hC 5 e_v5_7 [(5, J v5_7), (6, J v6_5), (0, .ref (B + n)), (1, .ref (B + a1)), (3, J v3), (4, J v4_2)] dX1_comeBeside_67 rfl (by decide) rfl ?_
      refine g_goto hC 8 dX1_comeBeside_70 rfl ?_
      refine g_sub [(0, .ref (B + n)), (1, .ref (B + a1)), (3, J v3), (4, J v4_2), (5, J v5_7)] [2, 3, 4, 5, 0] rfl ?_
      exact ih8 v4_2 v5_7 hf h_v4_2 h_v5_7
    · replace hf := hf.2 c_15
      refine g_iload hC 4 dX1_comeBeside_37 rfl ?_
      refine g_aload_n hC 2 dX1_comeBeside_39 rfl rfl ?_
      refine g_getr hC okX5 (sh_X5 h_a1) 2 (by decide) rfl wf_X1_87 dX1_comeBeside_40 ?_
      refine g_iload hC 0 dX1_comeBeside_43 rfl ?_
      refine g_ialdk (v6_5.toNat) hC (sh_X5_2 h_a1) q_6.1 q_6.2 rfl dX1_comeBeside_45 ?_
      refine g_ishr hC dX1_comeBeside_46 ?_
      refine g_iconst hC dX1_comeBeside_47 ?_
      refine g_iand hC dX1_comeBeside_48 ?_
      refine g_iconst hC dX1_comeBeside_49 ?_
      refine g_icmp_ne hC 67 (bAnd_in _ _) (by unfold inR; omega) dX1_comeBeside_50 rfl (fun c_14 => ?_) (fun c_14 => ?_)
      · replace hf := hf.1 c_14
        obtain ⟨q_10, hf⟩ := hf
        obtain ⟨v5_9, e_v5_9⟩ : ∃ z : Int, z = v5_3 + 1 := ⟨_, rfl⟩
        replace hf := hf v5_9 e_v5_9
        have h_v5_9 : inR v5_9 := by rw [e_v5_9]; exact q_10
        refine g_iincv hC 5 e_v5_9 [(5, J v5_9), (6, J v6_5), (0, .ref (B + n)), (1, .ref (B + a1)), (3, J v3), (4, J v4_2)] dX1_comeBeside_67 rfl (by decide) rfl ?_
        refine g_goto hC 8 dX1_comeBeside_70 rfl ?_
        refine g_sub [(0, .ref (B + n)), (1, .ref (B + a1)), (3, J v3), (4, J v4_2), (5, J v5_9)] [2, 3, 4, 5, 0] rfl ?_
        exact ih8 v4_2 v5_9 hf h_v4_2 h_v5_9
      · replace hf := hf.2 c_14
        refine g_iload hC 4 dX1_comeBeside_53 rfl ?_
        refine g_iconst hC dX1_comeBeside_55 ?_
        refine g_aload_n hC 2 dX1_comeBeside_56 rfl rfl ?_
        refine g_getr hC okX5 (sh_X5 h_a1) 3 (by decide) rfl wf_X1_90 dX1_comeBeside_57 ?_
        refine g_iload hC 0 dX1_comeBeside_60 rfl ?_
        refine g_ialdk (v6_5.toNat) hC (sh_X5_3 h_a1) q_6.1 q_6.2 rfl dX1_comeBeside_62 ?_
        refine g_ishl hC dX1_comeBeside_63 ?_
        refine g_ior hC dX1_comeBeside_64 ?_
        refine g_nm (fun v4_11 e_v4_11 => ?_)
        replace hf := hf v4_11 e_v4_11
        have h_v4_11 : inR v4_11 := by rw [e_v4_11]; exact (bOr_in _ _)
        refine g_istore hC [(4, J v4_11), (6, J v6_5), (0, .ref (B + n)), (1, .ref (B + a1)), (3, J v3), (5, J v5_3)] dX1_comeBeside_65 (by decide) rfl ?_
        obtain ⟨q_13, hf⟩ := hf
        obtain ⟨v5_12, e_v5_12⟩ : ∃ z : Int, z = v5_3 + 1 := ⟨_, rfl⟩
        replace hf := hf v5_12 e_v5_12
        have h_v5_12 : inR v5_12 := by rw [e_v5_12]; exact q_13
        refine g_iincv hC 5 e_v5_12 [(5, J v5_12), (4, J v4_11), (6, J v6_5), (0, .ref (B + n)), (1, .ref (B + a1)), (3, J v3)] dX1_comeBeside_67 rfl (by decide) rfl ?_
        refine g_goto hC 8 dX1_comeBeside_70 rfl ?_
        refine g_sub [(0, .ref (B + n)), (1, .ref (B + a1)), (3, J v3), (4, J v4_11), (5, J v5_12)] [3, 4, 5, 1, 0] rfl ?_
        exact ih8 v4_11 v5_12 hf h_v4_11 h_v5_12
set_option maxHeartbeats 4000000 in
set_option maxRecDepth 100000 in
theorem c_X1_joining (l : Launch) (B : Nat) (D : va_G) (K : Nat → ClassId) (n : Nat) (a1 : Nat) (v2 : Int) (h_n : is_X1 n) (h_a1 : is_X5 a1) (i_v2 : inR v2) (M : Mem) (hM : MR M) (Q : Int → Prop) (hf : f_X1_joining n a1 v2 M Q) : CtI l yX1_joining cX1_joining 5 1 26 B D K [.ref (B + n), .ref (B + a1), J v2] M (fun r M1 => M = M1 ∧ Q r) := by
  refine ct_i (by decide) (Nat.le_of_ble_eq_true rfl) ?_
  intro p e s m args below meth c hC
  have hC : Cx p s m args meth c D K cX1_joining 5 RX1 (some .int) := hC
  unfold f_X1_joining at hf
  refine (show G p l e (rmF 1 26) s m args below meth c B D K 5 0 0 (ZI below args s B D K (fun r M1 => M = M1 ∧ Q r)) M 0 [(0, .ref (B + n)), (1, .ref (B + a1)), (2, J v2)] [] from ?_)
  refine g_iconst hC dX1_joining_0 ?_
  refine g_istore_n hC [(3, J 0), (0, .ref (B + n)), (1, .ref (B + a1)), (2, J v2)] dX1_joining_1 rfl (by decide) rfl ?_
  refine g_sub [(0, .ref (B + n)), (1, .ref (B + a1)), (2, J v2), (3, J 0)] [1, 2, 3, 0] rfl ?_
  refine wl1_elim (fun (v3_1 : Int) => inR v3_1 → G p l e (rmF 1 26) s m args below meth c B D K 5 0 0 (ZI below args s B D K (fun r M1 => M = M1 ∧ Q r)) M 2 [(0, .ref (B + n)), (1, .ref (B + a1)), (2, J v2), (3, J v3_1)] []) ?_ 5000 0 hf (by unfold inR; omega)
  intro rec2 ih2 v3_1 hf h_v3_1
  unfold X1_joining_b2 at hf
  refine g_iload_n hC 3 dX1_joining_2 rfl rfl ?_
  refine g_aload_n hC 1 dX1_joining_3 rfl rfl ?_
  refine g_geti hC okX5 (sh_X5 h_a1) 0 (by decide) rfl wf_X1_99 dX1_joining_4 ?_
  refine g_icmp_ge hC 58 h_v3_1 (hM _ _) dX1_joining_7 rfl (fun c_13 => ?_) (fun c_13 => ?_)
  · replace hf := hf.1 c_13
    refine g_iconst hC dX1_joining_58 ?_
    exact g_reti hC (by unfold inR; omega) hM ⟨rfl, hf⟩ dX1_joining_59
  · replace hf := hf.2 c_13
    refine g_aload_n hC 0 dX1_joining_10 rfl rfl ?_
    refine g_getr hC okX1 (sh_X1 h_n) 0 (by decide) rfl wf_X1_9 dX1_joining_11 ?_
    refine g_iload_n hC 3 dX1_joining_14 rfl rfl ?_
    obtain ⟨q_2, hf⟩ := hf
    refine g_ialdk (v3_1.toNat) hC (sh_X1_0 h_n) q_2.1 q_2.2 rfl dX1_joining_15 ?_
    refine g_nm (fun v4_3 e_v4_3 => ?_)
    replace hf := hf v4_3 e_v4_3
    have h_v4_3 : inR v4_3 := by rw [e_v4_3]; exact (hM _ _)
    refine g_istore hC [(4, J v4_3), (0, .ref (B + n)), (1, .ref (B + a1)), (2, J v2), (3, J v3_1)] dX1_joining_16 (by decide) rfl ?_
    refine g_aload_n hC 1 dX1_joining_18 rfl rfl ?_
    refine g_getr hC okX1 (sh_X1 h_n) 5 (by decide) rfl wf_X1_27 dX1_joining_19 ?_
    refine g_iload_n hC 3 dX1_joining_22 rfl rfl ?_
    obtain ⟨q_4, hf⟩ := hf
    refine g_ialdk (v2.toNat) hC (sh_X1_5 h_n) q_4.1 q_4.2 rfl dX1_joining_23 ?_
    refine g_iload hC 0 dX1_joining_24 rfl ?_
    refine g_ishr hC dX1_joining_26 ?_
    refine g_iconst hC dX1_joining_27 ?_
    refine g_iand hC dX1_joining_28 ?_
    refine g_iconst hC dX1_joining_29 ?_
    refine g_icmp_ne hC 52 (bAnd_in _ _) (by unfold inR; omega) dX1_joining_30 rfl (fun c_12 => ?_) (fun c_12 => ?_)
    · replace hf := hf.1 c_12
      obtain ⟨q_6, hf⟩ := hf
      obtain ⟨v3_5, e_v3_5⟩ : ∃ z : Int, z = v3_1 + 1 := ⟨_, rfl⟩
      replace hf := hf v3_5 e_v3_5
      have h_v3_5 : inR v3_5 := by rw [e_v3_5]; exact q_6
      refine g_iincv hC 4 e_v3_5 [(3, J v3_5), (4, J v4_3), (0, .ref (B + n)), (1, .ref (B + a1)), (2, J v2)] dX1_joining_52 rfl (by decide) rfl ?_
      refine g_goto hC 2 dX1_joining_55 rfl ?_
      refine g_sub [(0, .ref (B + n)), (1, .ref (B + a1)), (2, J v2), (3, J v3_5)] [2, 3, 4, 0] rfl ?_
      exact ih2 v3_5 hf h_v3_5
    · replace hf := hf.2 c_12
      refine g_aload_n hC 1 dX1_joining_33 rfl rfl ?_
      refine g_aload_n hC 2 dX1_joining_34 rfl rfl ?_
      refine g_iload_n hC 3 dX1_joining_35 rfl rfl ?_
      refine g_iload hC 0 dX1_joining_36 rfl ?_
      refine g_callVI hC (sk := []) [.ref (B + a1), J v2, J v4_3] (c_X1_comeBeside l B D K n a1 v2 v4_3 h_n h_a1 i_v2 h_v4_3 M hM _ hf) yv_X1_comeBeside wm_X1_119 okX1.1 (sh_X1 h_n) rfl ⟨Nat.le_of_ble_eq_true rfl, Nat.le_of_ble_eq_true rfl, Nat.le_of_ble_eq_true rfl, Nat.le_of_ble_eq_true rfl⟩ rfl (Nat.le_of_ble_eq_true rfl) dX1_joining_38 ?_
      rintro r_7 M_8 h_r_7 - ⟨rfl, hf⟩
      refine g_aload_n hC 1 dX1_joining_41 rfl rfl ?_
      refine g_geti hC okX1 (sh_X1 h_n) 12 (by decide) rfl wf_X1_96 dX1_joining_42 ?_
      refine g_iand hC dX1_joining_45 ?_
      refine g_if_ne hC 52 (bAnd_in _ _) dX1_joining_46 rfl (fun c_11 => ?_) (fun c_11 => ?_)
      · replace hf := hf.1 c_11
        obtain ⟨q_10, hf⟩ := hf
        obtain ⟨v3_9, e_v3_9⟩ : ∃ z : Int, z = v3_1 + 1 := ⟨_, rfl⟩
        replace hf := hf v3_9 e_v3_9
        have h_v3_9 : inR v3_9 := by rw [e_v3_9]; exact q_10
        refine g_iincv hC 4 e_v3_9 [(3, J v3_9), (4, J v4_3), (0, .ref (B + n)), (1, .ref (B + a1)), (2, J v2)] dX1_joining_52 rfl (by decide) rfl ?_
        refine g_goto hC 2 dX1_joining_55 rfl ?_
        refine g_sub [(0, .ref (B + n)), (1, .ref (B + a1)), (2, J v2), (3, J v3_9)] [2, 3, 4, 0] rfl ?_
        exact ih2 v3_9 hf h_v3_9
      · replace hf := hf.2 c_11
        refine g_iload hC 0 dX1_joining_49 rfl ?_
        exact g_reti hC h_v4_3 hM ⟨rfl, hf⟩ dX1_joining_51
set_option maxHeartbeats 4000000 in
set_option maxRecDepth 100000 in
theorem c_J6_bitCount_0f7a4 (l : Launch) (B : Nat) (D : va_G) (K : Nat → ClassId) (v0 : Int) (i_v0 : inR v0) (M : Mem) (hM : MR M) (Q : Int → Prop) (hf : f_J6_bitCount_0f7a4 v0 M Q) : CtI l yJ6_bitCount_0f7a4 cJ6_bitCount_0f7a4 1 0 0 B D K [J v0] M (fun r M1 => M = M1 ∧ Q r) := by
  refine ct_i (by decide) (Nat.le_of_ble_eq_true rfl) ?_
  intro p e s m args below meth c hC
  have hC : Cx p s m args meth c D K cJ6_bitCount_0f7a4 1 RJ6 (some .int) := hC
  unfold f_J6_bitCount_0f7a4 at hf
  refine (show G p l e (rmF 0 0) s m args below meth c B D K 1 0 0 (ZI below args s B D K (fun r M1 => M = M1 ∧ Q r)) M 0 [(0, J v0)] [] from ?_)
  refine g_iload_n hC 0 dJ6_bitCount_0f7a4_0 rfl rfl ?_
  refine g_iload_n hC 0 dJ6_bitCount_0f7a4_1 rfl rfl ?_
  refine g_iconst hC dJ6_bitCount_0f7a4_2 ?_
  refine g_iushr hC dJ6_bitCount_0f7a4_3 ?_
  refine g_ldcw (n := 1431655765) hC wc_J6_265 (by decide) dJ6_bitCount_0f7a4_4 ?_
  refine g_iand hC dJ6_bitCount_0f7a4_7 ?_
  refine g_isub hC dJ6_bitCount_0f7a4_8 ?_
  obtain ⟨q_1, hf⟩ := hf
  refine g_nm (fun v0_2 e_v0_2 => ?_)
  replace hf := hf v0_2 e_v0_2
  have h_v0_2 : inR v0_2 := by rw [e_v0_2]; exact q_1
  refine g_istore_n hC [(0, J v0_2)] dJ6_bitCount_0f7a4_9 rfl (by decide) rfl ?_
  refine g_iload_n hC 0 dJ6_bitCount_0f7a4_10 rfl rfl ?_
  refine g_ldcw (n := 858993459) hC wc_J6_266 (by decide) dJ6_bitCount_0f7a4_11 ?_
  refine g_iand hC dJ6_bitCount_0f7a4_14 ?_
  refine g_iload_n hC 0 dJ6_bitCount_0f7a4_15 rfl rfl ?_
  refine g_iconst hC dJ6_bitCount_0f7a4_16 ?_
  refine g_iushr hC dJ6_bitCount_0f7a4_17 ?_
  refine g_ldcw (n := 858993459) hC wc_J6_266 (by decide) dJ6_bitCount_0f7a4_18 ?_
  refine g_iand hC dJ6_bitCount_0f7a4_21 ?_
  refine g_iadd hC dJ6_bitCount_0f7a4_22 ?_
  obtain ⟨q_3, hf⟩ := hf
  refine g_nm (fun v0_4 e_v0_4 => ?_)
  replace hf := hf v0_4 e_v0_4
  have h_v0_4 : inR v0_4 := by rw [e_v0_4]; exact q_3
  refine g_istore_n hC [(0, J v0_4)] dJ6_bitCount_0f7a4_23 rfl (by decide) rfl ?_
  refine g_iload_n hC 0 dJ6_bitCount_0f7a4_24 rfl rfl ?_
  refine g_iload_n hC 0 dJ6_bitCount_0f7a4_25 rfl rfl ?_
  refine g_iconst hC dJ6_bitCount_0f7a4_26 ?_
  refine g_iushr hC dJ6_bitCount_0f7a4_27 ?_
  refine g_iadd hC dJ6_bitCount_0f7a4_28 ?_
  refine g_ldcw (n := 252645135) hC wc_J6_267 (by decide) dJ6_bitCount_0f7a4_29 ?_
  refine g_iand hC dJ6_bitCount_0f7a4_32 ?_
  refine g_nm (fun v0_5 e_v0_5 => ?_)
  replace hf := hf v0_5 e_v0_5
  have h_v0_5 : inR v0_5 := by rw [e_v0_5]; exact (bAnd_in _ _)
  refine g_istore_n hC [(0, J v0_5)] dJ6_bitCount_0f7a4_33 rfl (by decide) rfl ?_
  refine g_iload_n hC 0 dJ6_bitCount_0f7a4_34 rfl rfl ?_
  refine g_iload_n hC 0 dJ6_bitCount_0f7a4_35 rfl rfl ?_
  refine g_bipush hC dJ6_bitCount_0f7a4_36 (by decide) ?_
  refine g_iushr hC dJ6_bitCount_0f7a4_38 ?_
  refine g_iadd hC dJ6_bitCount_0f7a4_39 ?_
  obtain ⟨q_6, hf⟩ := hf
  refine g_nm (fun v0_7 e_v0_7 => ?_)
  replace hf := hf v0_7 e_v0_7
  have h_v0_7 : inR v0_7 := by rw [e_v0_7]; exact q_6
  refine g_istore_n hC [(0, J v0_7)] dJ6_bitCount_0f7a4_40 rfl (by decide) rfl ?_
  refine g_iload_n hC 0 dJ6_bitCount_0f7a4_41 rfl rfl ?_
  refine g_iload_n hC 0 dJ6_bitCount_0f7a4_42 rfl rfl ?_
  refine g_bipush hC dJ6_bitCount_0f7a4_43 (by decide) ?_
  refine g_iushr hC dJ6_bitCount_0f7a4_45 ?_
  refine g_iadd hC dJ6_bitCount_0f7a4_46 ?_
  obtain ⟨q_8, hf⟩ := hf
  refine g_nm (fun v0_9 e_v0_9 => ?_)
  replace hf := hf v0_9 e_v0_9
  have h_v0_9 : inR v0_9 := by rw [e_v0_9]; exact q_8
  refine g_istore_n hC [(0, J v0_9)] dJ6_bitCount_0f7a4_47 rfl (by decide) rfl ?_
  refine g_iload_n hC 0 dJ6_bitCount_0f7a4_48 rfl rfl ?_
  refine g_bipush hC dJ6_bitCount_0f7a4_49 (by decide) ?_
  refine g_iand hC dJ6_bitCount_0f7a4_51 ?_
  exact g_reti hC (bAnd_in _ _) hM ⟨rfl, hf⟩ dJ6_bitCount_0f7a4_52
set_option maxHeartbeats 4000000 in
set_option maxRecDepth 100000 in
theorem c_X1_leftAtMost (l : Launch) (B : Nat) (D : va_G) (K : Nat → ClassId) (n : Nat) (a1 : Nat) (v2 : Int) (v3 : Int) (h_n : is_X1 n) (h_a1 : is_X5 a1) (i_v2 : inR v2) (i_v3 : inR v3) (M : Mem) (hM : MR M) (Q : Int → Prop) (hf : f_X1_leftAtMost n a1 v2 v3 M Q) : CtI l yX1_leftAtMost cX1_leftAtMost 6 1 40 B D K [.ref (B + n), .ref (B + a1), J v2, J v3] M (fun r M1 => M = M1 ∧ Q r) := by
  refine ct_i (by decide) (Nat.le_of_ble_eq_true rfl) ?_
  intro p e s m args below meth c hC
  have hC : Cx p s m args meth c D K cX1_leftAtMost 6 RX1 (some .int) := hC
  unfold f_X1_leftAtMost at hf
  refine (show G p l e (rmF 1 40) s m args below meth c B D K 6 0 0 (ZI below args s B D K (fun r M1 => M = M1 ∧ Q r)) M 0 [(0, .ref (B + n)), (1, .ref (B + a1)), (2, J v2), (3, J v3)] [] from ?_)
  refine g_aload_n hC 1 dX1_leftAtMost_0 rfl rfl ?_
  refine g_getr hC okX5 (sh_X5 h_a1) 2 (by decide) rfl wf_X1_87 dX1_leftAtMost_1 ?_
  refine g_iload_n hC 3 dX1_leftAtMost_4 rfl rfl ?_
  obtain ⟨q_1, hf⟩ := hf
  refine g_ialdk (v3.toNat) hC (sh_X5_2 h_a1) q_1.1 q_1.2 rfl dX1_leftAtMost_5 ?_
  refine g_nm (fun v4_2 e_v4_2 => ?_)
  replace hf := hf v4_2 e_v4_2
  have h_v4_2 : inR v4_2 := by rw [e_v4_2]; exact (hM _ _)
  refine g_istore hC [(4, J v4_2), (0, .ref (B + n)), (1, .ref (B + a1)), (2, J v2), (3, J v3)] dX1_leftAtMost_6 (by decide) rfl ?_
  refine g_iload_n hC 3 dX1_leftAtMost_8 rfl rfl ?_
  refine g_aload_n hC 1 dX1_leftAtMost_9 rfl rfl ?_
  refine g_getr hC okX1 (sh_X1 h_n) 4 (by decide) rfl wf_X1_24 dX1_leftAtMost_10 ?_
  refine g_iload hC 0 dX1_leftAtMost_13 rfl ?_
  obtain ⟨q_3, hf⟩ := hf
  refine g_ialdk (v4_2.toNat) hC (sh_X1_4 h_n) q_3.1 q_3.2 rfl dX1_leftAtMost_15 ?_
  refine g_iconst hC dX1_leftAtMost_16 ?_
  refine g_iload hC 0 dX1_leftAtMost_17 rfl ?_
  refine g_ishl hC dX1_leftAtMost_19 ?_
  refine g_ior hC dX1_leftAtMost_20 ?_
  refine g_iand hC dX1_leftAtMost_21 ?_
  refine g_callSI hC (sk := []) [J (bAnd v2 (bOr (M (n + 5) (v4_2.toNat)) (bShl 1 v4_2)))] (c_J6_bitCount_0f7a4 l B D K (bAnd v2 (bOr (M (n + 5) (v4_2.toNat)) (bShl 1 v4_2))) (bAnd_in _ _) M hM _ hf) yv_J6_bitCount_0f7a4 wm_X1_126 rfl ⟨Nat.le_of_ble_eq_true rfl, Nat.le_of_ble_eq_true rfl, Nat.le_of_ble_eq_true rfl, Nat.le_of_ble_eq_true rfl⟩ rfl (Nat.le_of_ble_eq_true rfl) dX1_leftAtMost_22 ?_
  rintro r_4 M_5 h_r_4 - ⟨rfl, hf⟩
  refine g_istore hC [(5, J r_4), (4, J v4_2), (0, .ref (B + n)), (1, .ref (B + a1)), (2, J v2), (3, J v3)] dX1_leftAtMost_25 (by decide) rfl ?_
  refine g_iload hC 0 dX1_leftAtMost_27 rfl ?_
  refine g_iload_n hC 4 dX1_leftAtMost_29 rfl rfl ?_
  refine g_callSI hC (sk := [J r_4]) [J v2] (c_J6_bitCount_0f7a4 l B D K v2 i_v2 M hM _ hf) yv_J6_bitCount_0f7a4 wm_X1_126 rfl ⟨Nat.le_of_ble_eq_true rfl, Nat.le_of_ble_eq_true rfl, Nat.le_of_ble_eq_true rfl, Nat.le_of_ble_eq_true rfl⟩ rfl (Nat.le_of_ble_eq_true rfl) dX1_leftAtMost_30 ?_
  rintro r_6 M_7 h_r_6 - ⟨rfl, hf⟩
  refine g_iload hC 0 dX1_leftAtMost_33 rfl ?_
  refine g_isub hC dX1_leftAtMost_35 ?_
  obtain ⟨q_8, hf⟩ := hf
  refine g_max hC h_r_4 q_8 ⟨wm_X1_105, wj_max⟩ (Nat.le_of_ble_eq_true rfl) (Nat.le_of_ble_eq_true rfl) (Nat.zero_le _) (Nat.zero_le _) dX1_leftAtMost_36 ?_
  exact g_reti hC (max_in h_r_4 q_8) hM ⟨rfl, hf⟩ dX1_leftAtMost_39
set_option maxHeartbeats 4000000 in
set_option maxRecDepth 100000 in
theorem c_X1_telling (l : Launch) (B : Nat) (D : va_G) (K : Nat → ClassId) (n : Nat) (a1 : Nat) (v2 : Int) (h_n : is_X1 n) (h_a1 : is_X5 a1) (i_v2 : inR v2) (M : Mem) (hM : MR M) (Q : Int → Prop) (hf : f_X1_telling n a1 v2 M Q) : CtI l yX1_telling cX1_telling 7 2 65 B D K [.ref (B + n), .ref (B + a1), J v2] M (fun r M1 => M = M1 ∧ Q r) := by
  refine ct_i (by decide) (Nat.le_of_ble_eq_true rfl) ?_
  intro p e s m args below meth c hC
  have hC : Cx p s m args meth c D K cX1_telling 7 RX1 (some .int) := hC
  unfold f_X1_telling at hf
  refine (show G p l e (rmF 2 65) s m args below meth c B D K 7 0 0 (ZI below args s B D K (fun r M1 => M = M1 ∧ Q r)) M 0 [(0, .ref (B + n)), (1, .ref (B + a1)), (2, J v2)] [] from ?_)
  refine g_iconst hC dX1_telling_0 ?_
  refine g_istore_n hC [(3, J (-1)), (0, .ref (B + n)), (1, .ref (B + a1)), (2, J v2)] dX1_telling_1 rfl (by decide) rfl ?_
  refine g_iconst hC dX1_telling_2 ?_
  refine g_istore hC [(4, J 0), (3, J (-1)), (0, .ref (B + n)), (1, .ref (B + a1)), (2, J v2)] dX1_telling_3 (by decide) rfl ?_
  refine g_iconst hC dX1_telling_5 ?_
  refine g_istore hC [(5, J 0), (4, J 0), (3, J (-1)), (0, .ref (B + n)), (1, .ref (B + a1)), (2, J v2)] dX1_telling_6 (by decide) rfl ?_
  refine g_sub [(0, .ref (B + n)), (1, .ref (B + a1)), (2, J v2), (3, J (-1)), (4, J 0), (5, J 0)] [3, 4, 5, 2, 1, 0] rfl ?_
  refine wl3_elim (fun (v3_1 : Int) (v4_2 : Int) (v5_3 : Int) => inR v3_1 → inR v4_2 → inR v5_3 → G p l e (rmF 2 65) s m args below meth c B D K 7 0 0 (ZI below args s B D K (fun r M1 => M = M1 ∧ Q r)) M 8 [(0, .ref (B + n)), (1, .ref (B + a1)), (2, J v2), (3, J v3_1), (4, J v4_2), (5, J v5_3)] []) ?_ 5000 (-1) 0 0 hf (by unfold inR; omega) (by unfold inR; omega) (by unfold inR; omega)
  intro rec8 ih8 v3_1 v4_2 v5_3 hf h_v3_1 h_v4_2 h_v5_3
  unfold X1_telling_b8 at hf
  refine g_iload hC 5 dX1_telling_8 rfl ?_
  refine g_aload_n hC 1 dX1_telling_10 rfl rfl ?_
  refine g_geti hC okX5 (sh_X5 h_a1) 1 (by decide) rfl wf_X1_81 dX1_telling_11 ?_
  refine g_icmp_ge hC 52 h_v5_3 (hM _ _) dX1_telling_14 rfl (fun c_14 => ?_) (fun c_14 => ?_)
  · replace hf := hf.1 c_14
    refine g_iload_n hC 3 dX1_telling_52 rfl rfl ?_
    exact g_reti hC h_v3_1 hM ⟨rfl, hf⟩ dX1_telling_53
  · replace hf := hf.2 c_14
    refine g_aload_n hC 0 dX1_telling_17 rfl rfl ?_
    refine g_aload_n hC 1 dX1_telling_18 rfl rfl ?_
    refine g_iload_n hC 2 dX1_telling_19 rfl rfl ?_
    refine g_iload hC 5 dX1_telling_20 rfl ?_
    refine g_callVI hC (sk := []) [.ref (B + a1), J v2, J v5_3] (c_X1_leftAtMost l B D K n a1 v2 v5_3 h_n h_a1 i_v2 h_v5_3 M hM _ hf) yv_X1_leftAtMost wm_X1_123 okX1.1 (sh_X1 h_n) rfl ⟨Nat.le_of_ble_eq_true rfl, Nat.le_of_ble_eq_true rfl, Nat.le_of_ble_eq_true rfl, Nat.le_of_ble_eq_true rfl⟩ rfl (Nat.le_of_ble_eq_true rfl) dX1_telling_22 ?_
    rintro r_4 M_5 h_r_4 - ⟨rfl, hf⟩
    refine g_istore hC [(6, J r_4), (0, .ref (B + n)), (1, .ref (B + a1)), (2, J v2), (3, J v3_1), (4, J v4_2), (5, J v5_3)] dX1_telling_25 (by decide) rfl ?_
    refine g_iload_n hC 4 dX1_telling_27 rfl rfl ?_
    refine g_iconst hC dX1_telling_28 ?_
    refine g_icmp_eq hC 39 h_v3_1 (by unfold inR; omega) dX1_telling_29 rfl (fun c_13 => ?_) (fun c_13 => ?_)
    · replace hf := hf.1 c_13
      refine g_iload hC 6 dX1_telling_39 rfl ?_
      refine g_istore_n hC [(3, J v5_3), (6, J r_4), (0, .ref (B + n)), (1, .ref (B + a1)), (2, J v2), (4, J v4_2), (5, J v5_3)] dX1_telling_41 rfl (by decide) rfl ?_
      refine g_iload hC 1 dX1_telling_42 rfl ?_
      refine g_istore hC [(4, J r_4), (3, J v5_3), (6, J r_4), (0, .ref (B + n)), (1, .ref (B + a1)), (2, J v2), (5, J v5_3)] dX1_telling_44 (by decide) rfl ?_
      obtain ⟨q_7, hf⟩ := hf
      obtain ⟨v5_6, e_v5_6⟩ : ∃ z : Int, z = v5_3 + 1 := ⟨_, rfl⟩
      replace hf := hf v5_6 e_v5_6
      have h_v5_6 : inR v5_6 := by rw [e_v5_6]; exact q_7
      refine g_iincv hC 6 e_v5_6 [(5, J v5_6), (4, J r_4), (3, J v5_3), (6, J r_4), (0, .ref (B + n)), (1, .ref (B + a1)), (2, J v2)] dX1_telling_46 rfl (by decide) rfl ?_
      refine g_goto hC 8 dX1_telling_49 rfl ?_
      refine g_sub [(0, .ref (B + n)), (1, .ref (B + a1)), (2, J v2), (3, J v5_3), (4, J r_4), (5, J v5_6)] [4, 5, 6, 2, 1, 0] rfl ?_
      exact ih8 v5_3 r_4 v5_6 hf h_v5_3 h_r_4 h_v5_6
    · replace hf := hf.2 c_13
      refine g_iload hC 0 dX1_telling_32 rfl ?_
      refine g_iload hC 5 dX1_telling_34 rfl ?_
      refine g_icmp_ge hC 46 h_r_4 h_v4_2 dX1_telling_36 rfl (fun c_12 => ?_) (fun c_12 => ?_)
      · replace hf := hf.1 c_12
        obtain ⟨q_9, hf⟩ := hf
        obtain ⟨v5_8, e_v5_8⟩ : ∃ z : Int, z = v5_3 + 1 := ⟨_, rfl⟩
        replace hf := hf v5_8 e_v5_8
        have h_v5_8 : inR v5_8 := by rw [e_v5_8]; exact q_9
        refine g_iincv hC 6 e_v5_8 [(5, J v5_8), (6, J r_4), (0, .ref (B + n)), (1, .ref (B + a1)), (2, J v2), (3, J v3_1), (4, J v4_2)] dX1_telling_46 rfl (by decide) rfl ?_
        refine g_goto hC 8 dX1_telling_49 rfl ?_
        refine g_sub [(0, .ref (B + n)), (1, .ref (B + a1)), (2, J v2), (3, J v3_1), (4, J v4_2), (5, J v5_8)] [2, 3, 4, 5, 6, 0] rfl ?_
        exact ih8 v3_1 v4_2 v5_8 hf h_v3_1 h_v4_2 h_v5_8
      · replace hf := hf.2 c_12
        refine g_iload hC 6 dX1_telling_39 rfl ?_
        refine g_istore_n hC [(3, J v5_3), (6, J r_4), (0, .ref (B + n)), (1, .ref (B + a1)), (2, J v2), (4, J v4_2), (5, J v5_3)] dX1_telling_41 rfl (by decide) rfl ?_
        refine g_iload hC 1 dX1_telling_42 rfl ?_
        refine g_istore hC [(4, J r_4), (3, J v5_3), (6, J r_4), (0, .ref (B + n)), (1, .ref (B + a1)), (2, J v2), (5, J v5_3)] dX1_telling_44 (by decide) rfl ?_
        obtain ⟨q_11, hf⟩ := hf
        obtain ⟨v5_10, e_v5_10⟩ : ∃ z : Int, z = v5_3 + 1 := ⟨_, rfl⟩
        replace hf := hf v5_10 e_v5_10
        have h_v5_10 : inR v5_10 := by rw [e_v5_10]; exact q_11
        refine g_iincv hC 6 e_v5_10 [(5, J v5_10), (4, J r_4), (3, J v5_3), (6, J r_4), (0, .ref (B + n)), (1, .ref (B + a1)), (2, J v2)] dX1_telling_46 rfl (by decide) rfl ?_
        refine g_goto hC 8 dX1_telling_49 rfl ?_
        refine g_sub [(0, .ref (B + n)), (1, .ref (B + a1)), (2, J v2), (3, J v5_3), (4, J r_4), (5, J v5_10)] [4, 5, 6, 2, 1, 0] rfl ?_
        exact ih8 v5_3 r_4 v5_10 hf h_v5_3 h_r_4 h_v5_10
set_option maxHeartbeats 4000000 in
set_option maxRecDepth 100000 in
theorem c_X2_sumAt (l : Launch) (B : Nat) (D : va_G) (K : Nat → ClassId) (n : Nat) (v1 : Int) (h_n : is_X2 n) (i_v1 : inR v1) (M : Mem) (hM : MR M) (Q : Int → Prop) (hf : f_X2_sumAt n v1 M Q) : CtI l yX2_sumAt cX2_sumAt 4 0 0 B D K [.ref (B + n), J v1] M (fun r M1 => M = M1 ∧ Q r) := by
  refine ct_i (by decide) (Nat.le_of_ble_eq_true rfl) ?_
  intro p e s m args below meth c hC
  have hC : Cx p s m args meth c D K cX2_sumAt 4 RX2 (some .int) := hC
  unfold f_X2_sumAt at hf
  refine (show G p l e (rmF 0 0) s m args below meth c B D K 4 0 0 (ZI below args s B D K (fun r M1 => M = M1 ∧ Q r)) M 0 [(0, .ref (B + n)), (1, J v1)] [] from ?_)
  refine g_iconst hC dX2_sumAt_0 ?_
  refine g_istore_n hC [(2, J 0), (0, .ref (B + n)), (1, J v1)] dX2_sumAt_1 rfl (by decide) rfl ?_
  refine g_iconst hC dX2_sumAt_2 ?_
  refine g_istore_n hC [(3, J 0), (2, J 0), (0, .ref (B + n)), (1, J v1)] dX2_sumAt_3 rfl (by decide) rfl ?_
  refine g_sub [(0, .ref (B + n)), (1, J v1), (2, J 0), (3, J 0)] [2, 3, 1, 0] rfl ?_
  refine wl2_elim (fun (v2_1 : Int) (v3_2 : Int) => inR v2_1 → inR v3_2 → G p l e (rmF 0 0) s m args below meth c B D K 4 0 0 (ZI below args s B D K (fun r M1 => M = M1 ∧ Q r)) M 4 [(0, .ref (B + n)), (1, J v1), (2, J v2_1), (3, J v3_2)] []) ?_ 5000 0 0 hf (by unfold inR; omega) (by unfold inR; omega)
  intro rec4 ih4 v2_1 v3_2 hf h_v2_1 h_v3_2
  unfold X2_sumAt_b4 at hf
  refine g_iload_n hC 3 dX2_sumAt_4 rfl rfl ?_
  refine g_bipush hC dX2_sumAt_5 (by decide) ?_
  refine g_icmp_ge hC 34 h_v3_2 (by unfold inR; omega) dX2_sumAt_7 rfl (fun c_8 => ?_) (fun c_8 => ?_)
  · replace hf := hf.1 c_8
    refine g_iload_n hC 2 dX2_sumAt_34 rfl rfl ?_
    exact g_reti hC h_v2_1 hM ⟨rfl, hf⟩ dX2_sumAt_35
  · replace hf := hf.2 c_8
    refine g_iload_n hC 1 dX2_sumAt_10 rfl rfl ?_
    refine g_iload_n hC 3 dX2_sumAt_11 rfl rfl ?_
    refine g_ishr hC dX2_sumAt_12 ?_
    refine g_iconst hC dX2_sumAt_13 ?_
    refine g_iand hC dX2_sumAt_14 ?_
    refine g_iconst hC dX2_sumAt_15 ?_
    refine g_icmp_ne hC 28 (bAnd_in _ _) (by unfold inR; omega) dX2_sumAt_16 rfl (fun c_7 => ?_) (fun c_7 => ?_)
    · replace hf := hf.1 c_7
      obtain ⟨v3_3, e_v3_3⟩ : ∃ z : Int, z = nz (v3_2 + 1) := ⟨_, rfl⟩
      replace hf := hf v3_3 e_v3_3
      have h_v3_3 : inR v3_3 := by rw [e_v3_3]; exact (nz_in _)
      refine g_iincz hC 3 e_v3_3 [(3, J v3_3), (0, .ref (B + n)), (1, J v1), (2, J v2_1)] dX2_sumAt_28 rfl (by decide) rfl ?_
      refine g_goto hC 4 dX2_sumAt_31 rfl ?_
      refine g_sub [(0, .ref (B + n)), (1, J v1), (2, J v2_1), (3, J v3_3)] [1, 2, 3, 0] rfl ?_
      exact ih4 v2_1 v3_3 hf h_v2_1 h_v3_3
    · replace hf := hf.2 c_7
      refine g_iload_n hC 2 dX2_sumAt_19 rfl rfl ?_
      refine g_aload_n hC 0 dX2_sumAt_20 rfl rfl ?_
      refine g_getr hC okX2 (sh_X2 h_n) 1 (by decide) rfl wf_X2_15 dX2_sumAt_21 ?_
      refine g_iload_n hC 3 dX2_sumAt_24 rfl rfl ?_
      obtain ⟨q_4, hf⟩ := hf
      refine g_ialdk (v3_2.toNat) hC (sh_X2_1 h_n) q_4.1 q_4.2 rfl dX2_sumAt_25 ?_
      refine g_iadd hC dX2_sumAt_26 ?_
      refine g_nz ?_
      refine g_nm (fun v2_5 e_v2_5 => ?_)
      replace hf := hf v2_5 e_v2_5
      have h_v2_5 : inR v2_5 := by rw [e_v2_5]; exact (nz_in _)
      refine g_istore_n hC [(2, J v2_5), (0, .ref (B + n)), (1, J v1), (3, J v3_2)] dX2_sumAt_27 rfl (by decide) rfl ?_
      obtain ⟨v3_6, e_v3_6⟩ : ∃ z : Int, z = nz (v3_2 + 1) := ⟨_, rfl⟩
      replace hf := hf v3_6 e_v3_6
      have h_v3_6 : inR v3_6 := by rw [e_v3_6]; exact (nz_in _)
      refine g_iincz hC 3 e_v3_6 [(3, J v3_6), (2, J v2_5), (0, .ref (B + n)), (1, J v1)] dX2_sumAt_28 rfl (by decide) rfl ?_
      refine g_goto hC 4 dX2_sumAt_31 rfl ?_
      refine g_sub [(0, .ref (B + n)), (1, J v1), (2, J v2_5), (3, J v3_6)] [2, 3, 1, 0] rfl ?_
      exact ih4 v2_5 v3_6 hf h_v2_5 h_v3_6
set_option maxHeartbeats 4000000 in
set_option maxRecDepth 100000 in
theorem c_X5_packed (l : Launch) (B : Nat) (D : va_G) (K : Nat → ClassId) (n : Nat) (v1 : Int) (h_n : is_X5 n) (i_v1 : inR v1) (M : Mem) (hM : MR M) (Q : Int → Prop) (hf : f_X5_packed n v1 M Q) : CtI l yX5_packed cX5_packed 2 0 0 B D K [.ref (B + n), J v1] M (fun r M1 => M = M1 ∧ Q r) := by
  refine ct_i (by decide) (Nat.le_of_ble_eq_true rfl) ?_
  intro p e s m args below meth c hC
  have hC : Cx p s m args meth c D K cX5_packed 2 RX5 (some .int) := hC
  unfold f_X5_packed at hf
  refine (show G p l e (rmF 0 0) s m args below meth c B D K 2 0 0 (ZI below args s B D K (fun r M1 => M = M1 ∧ Q r)) M 0 [(0, .ref (B + n)), (1, J v1)] [] from ?_)
  refine g_aload_n hC 0 dX5_packed_0 rfl rfl ?_
  refine g_getr hC okX5 (sh_X5 h_n) 2 (by decide) rfl wf_X5_9 dX5_packed_1 ?_
  refine g_iload_n hC 1 dX5_packed_4 rfl rfl ?_
  obtain ⟨q_1, hf⟩ := hf
  refine g_ialdk (v1.toNat) hC (sh_X5_2 h_n) q_1.1 q_1.2 rfl dX5_packed_5 ?_
  refine g_aload_n hC 0 dX5_packed_6 rfl rfl ?_
  refine g_getr hC okX5 (sh_X5 h_n) 3 (by decide) rfl wf_X5_15 dX5_packed_7 ?_
  refine g_iload_n hC 1 dX5_packed_10 rfl rfl ?_
  refine g_ialdk (v1.toNat) hC (sh_X5_3 h_n) q_1.1 q_1.2 rfl dX5_packed_11 ?_
  refine g_iconst hC dX5_packed_12 ?_
  refine g_ishl hC dX5_packed_13 ?_
  refine g_ior hC dX5_packed_14 ?_
  refine g_aload_n hC 0 dX5_packed_15 rfl rfl ?_
  refine g_getr hC okX5 (sh_X5 h_n) 4 (by decide) rfl wf_X5_18 dX5_packed_16 ?_
  refine g_iload_n hC 1 dX5_packed_19 rfl rfl ?_
  refine g_ialdk (v1.toNat) hC (sh_X5_4 h_n) q_1.1 q_1.2 rfl dX5_packed_20 ?_
  refine g_bipush hC dX5_packed_21 (by decide) ?_
  refine g_ishl hC dX5_packed_23 ?_
  refine g_ior hC dX5_packed_24 ?_
  refine g_aload_n hC 0 dX5_packed_25 rfl rfl ?_
  refine g_getr hC okX5 (sh_X5 h_n) 5 (by decide) rfl wf_X5_21 dX5_packed_26 ?_
  refine g_iload_n hC 1 dX5_packed_29 rfl rfl ?_
  refine g_ialdk (v1.toNat) hC (sh_X5_5 h_n) q_1.1 q_1.2 rfl dX5_packed_30 ?_
  refine g_bipush hC dX5_packed_31 (by decide) ?_
  refine g_ishl hC dX5_packed_33 ?_
  refine g_ior hC dX5_packed_34 ?_
  refine g_aload_n hC 0 dX5_packed_35 rfl rfl ?_
  refine g_getr hC okX5 (sh_X5 h_n) 6 (by decide) rfl wf_X5_24 dX5_packed_36 ?_
  refine g_iload_n hC 1 dX5_packed_39 rfl rfl ?_
  refine g_ialdk (v1.toNat) hC (sh_X5_6 h_n) q_1.1 q_1.2 rfl dX5_packed_40 ?_
  refine g_iconst hC dX5_packed_41 ?_
  refine g_iadd hC dX5_packed_42 ?_
  refine g_bipush hC dX5_packed_43 (by decide) ?_
  refine g_ishl hC dX5_packed_45 ?_
  refine g_ior hC dX5_packed_46 ?_
  exact g_reti hC (bOr_in _ _) hM ⟨rfl, hf⟩ dX5_packed_47
set_option maxHeartbeats 4000000 in
set_option maxRecDepth 100000 in
theorem c_X3_keep (l : Launch) (B : Nat) (D : va_G) (K : Nat → ClassId) (a1 : Nat) (h_a1 : is_X5 a1) (M : Mem) (hM : MR M) (Q : Mem → Prop) (hf : f_X3_keep a1 M Q) : CtV l yX3_keep cX3_keep 4 1 21 B D K [.ref (B + 58), .ref (B + a1)] M Q := by
  refine ct_v (by decide) (Nat.le_of_ble_eq_true rfl) ?_
  intro p e s m args below meth c hC
  have hC : Cx p s m args meth c D K cX3_keep 4 RX3 none := hC
  unfold f_X3_keep at hf
  refine (show G p l e (rmF 1 21) s m args below meth c B D K 4 0 0 (ZV below args s B D K Q) M 0 [(0, .ref (B + 58)), (1, .ref (B + a1))] [] from ?_)
  refine g_aload_n hC 0 dX3_keep_0 rfl rfl ?_
  refine g_geti hC okX3 sc58 0 (by decide) rfl wf_X3_15 dX3_keep_1 ?_
  refine g_bipush hC dX3_keep_4 (by decide) ?_
  refine jn_elim (fun (k : Mem → Prop) => ∀ (M_1 : Mem), k M_1 → (MR M_1) → G p l e (rmF 1 21) s m args below meth c B D K 4 0 0 (ZV below args s B D K Q) M_1 32 [(0, .ref (B + 58)), (1, .ref (B + a1))] []) hf ?_ ?_
  · intro M_1 hf h_M_1
    refine g_aload_n hC 0 dX3_keep_32 rfl rfl ?_
    refine g_geti hC okX3 sc58 1 (by decide) rfl wf_X3_19 dX3_keep_33 ?_
    refine g_aload_n hC 0 dX3_keep_36 rfl rfl ?_
    refine g_geti hC okX3 sc58 0 (by decide) rfl wf_X3_15 dX3_keep_37 ?_
    refine g_iadd hC dX3_keep_40 ?_
    refine g_bipush hC dX3_keep_41 (by decide) ?_
    obtain ⟨q_2, hf⟩ := hf
    refine g_irem hC q_2 (by unfold inR; omega) (by decide) dX3_keep_43 ?_
    refine g_bipush hC dX3_keep_44 (by decide) ?_
    refine g_imul hC dX3_keep_46 ?_
    obtain ⟨q_3, hf⟩ := hf
    refine g_nm (fun v2_4 e_v2_4 => ?_)
    replace hf := hf v2_4 e_v2_4
    have h_v2_4 : inR v2_4 := by rw [e_v2_4]; exact q_3
    refine g_istore_n hC [(2, J v2_4), (0, .ref (B + 58)), (1, .ref (B + a1))] dX3_keep_47 rfl (by decide) rfl ?_
    refine g_aload_n hC 1 dX3_keep_48 rfl rfl ?_
    refine g_getr hC okX3 sc58 2 (by decide) rfl wf_X3_11 dX3_keep_49 ?_
    refine g_iload_n hC 0 dX3_keep_52 rfl rfl ?_
    refine g_aload_n hC 2 dX3_keep_53 rfl rfl ?_
    refine g_geti hC okX5 (sh_X5 h_a1) 0 (by decide) rfl wf_X3_22 dX3_keep_54 ?_
    obtain ⟨q_5, hf⟩ := hf
    refine g_iastk (v2_4.toNat) hC sc59 q_5.1 q_5.2 rfl dX3_keep_57 ?_
    refine g_nmM (fun M_6 e_M_6 => ?_)
    replace hf := hf M_6 e_M_6
    have h_M_6 : MR M_6 := by rw [e_M_6]; exact MR_st h_M_1 (h_M_1 _ _)
    refine g_aload_n hC 1 dX3_keep_58 rfl rfl ?_
    refine g_getr hC okX3 sc58 2 (by decide) rfl wf_X3_11 dX3_keep_59 ?_
    refine g_iload_n hC 0 dX3_keep_62 rfl rfl ?_
    refine g_iconst hC dX3_keep_63 ?_
    refine g_iadd hC dX3_keep_64 ?_
    refine g_aload_n hC 2 dX3_keep_65 rfl rfl ?_
    refine g_geti hC okX5 (sh_X5 h_a1) 1 (by decide) rfl wf_X3_27 dX3_keep_66 ?_
    obtain ⟨q_7, hf⟩ := hf
    refine g_iastk ((v2_4 + 1).toNat) hC sc59 q_7.1 q_7.2 rfl dX3_keep_69 ?_
    refine g_nmM (fun M_8 e_M_8 => ?_)
    replace hf := hf M_8 e_M_8
    have h_M_8 : MR M_8 := by rw [e_M_8]; exact MR_st h_M_6 (h_M_6 _ _)
    refine g_iconst hC dX3_keep_70 ?_
    refine g_istore_n hC [(3, J 0), (2, J v2_4), (0, .ref (B + 58)), (1, .ref (B + a1))] dX3_keep_71 rfl (by decide) rfl ?_
    refine g_sub [(0, .ref (B + 58)), (1, .ref (B + a1)), (2, J v2_4), (3, J 0)] [2, 3, 1, 0] rfl ?_
    refine wl2_elim (fun (v3_9 : Int) (M_10 : Mem) => inR v3_9 → MR M_10 → G p l e (rmF 1 21) s m args below meth c B D K 4 0 0 (ZV below args s B D K Q) M_10 72 [(0, .ref (B + 58)), (1, .ref (B + a1)), (2, J v2_4), (3, J v3_9)] []) ?_ 5000 0 M_8 hf (by unfold inR; omega) h_M_8
    intro rec72 ih72 v3_9 M_10 hf h_v3_9 h_M_10
    unfold X3_keep_b72 at hf
    refine g_iload_n hC 3 dX3_keep_72 rfl rfl ?_
    refine g_aload_n hC 1 dX3_keep_73 rfl rfl ?_
    refine g_geti hC okX5 (sh_X5 h_a1) 1 (by decide) rfl wf_X3_27 dX3_keep_74 ?_
    refine g_icmp_ge hC 101 h_v3_9 (h_M_10 _ _) dX3_keep_77 rfl (fun c_19 => ?_) (fun c_19 => ?_)
    · replace hf := hf.1 c_19
      refine g_aload_n hC 0 dX3_keep_101 rfl rfl ?_
      refine g_dup hC dX3_keep_102 rfl ?_
      refine g_geti hC okX3 sc58 0 (by decide) rfl wf_X3_15 dX3_keep_103 ?_
      refine g_iconst hC dX3_keep_106 ?_
      refine g_iadd hC dX3_keep_107 ?_
      obtain ⟨q_11, hf⟩ := hf
      refine g_puti hC okX3 tnX3 sc58 0 (by decide) rfl rfl (by decide) wf_X3_15 dX3_keep_108 ?_
      refine g_nmM (fun M_12 e_M_12 => ?_)
      replace hf := hf M_12 e_M_12
      have h_M_12 : MR M_12 := by rw [e_M_12]; exact MR_st h_M_10 q_11
      exact g_retv hC h_M_12 hf dX3_keep_111
    · replace hf := hf.2 c_19
      refine g_aload_n hC 0 dX3_keep_80 rfl rfl ?_
      refine g_getr hC okX3 sc58 2 (by decide) rfl wf_X3_11 dX3_keep_81 ?_
      refine g_iload_n hC 2 dX3_keep_84 rfl rfl ?_
      refine g_iconst hC dX3_keep_85 ?_
      refine g_iadd hC dX3_keep_86 ?_
      refine g_iload_n hC 3 dX3_keep_87 rfl rfl ?_
      refine g_iadd hC dX3_keep_88 ?_
      refine g_aload_n hC 1 dX3_keep_89 rfl rfl ?_
      refine g_iload_n hC 3 dX3_keep_90 rfl rfl ?_
      refine g_callVI hC (sk := [J ((v2_4 + 2) + v3_9), .ref (B + 59)]) [J v3_9] (c_X5_packed l B D K a1 v3_9 h_a1 h_v3_9 M_10 h_M_10 _ hf) yv_X5_packed wm_X3_30 okX5.1 (sh_X5 h_a1) rfl ⟨Nat.le_of_ble_eq_true rfl, Nat.le_of_ble_eq_true rfl, Nat.le_of_ble_eq_true rfl, Nat.le_of_ble_eq_true rfl⟩ rfl (Nat.le_of_ble_eq_true rfl) dX3_keep_91 ?_
      rintro r_13 M_14 h_r_13 - ⟨rfl, hf⟩
      obtain ⟨q_15, hf⟩ := hf
      refine g_iastk (((v2_4 + 2) + v3_9).toNat) hC sc59 q_15.1 q_15.2 rfl dX3_keep_94 ?_
      refine g_nmM (fun M_16 e_M_16 => ?_)
      replace hf := hf M_16 e_M_16
      have h_M_16 : MR M_16 := by rw [e_M_16]; exact MR_st h_M_10 h_r_13
      obtain ⟨q_18, hf⟩ := hf
      obtain ⟨v3_17, e_v3_17⟩ : ∃ z : Int, z = v3_9 + 1 := ⟨_, rfl⟩
      replace hf := hf v3_17 e_v3_17
      have h_v3_17 : inR v3_17 := by rw [e_v3_17]; exact q_18
      refine g_iincv hC 3 e_v3_17 [(3, J v3_17), (0, .ref (B + 58)), (1, .ref (B + a1)), (2, J v2_4)] dX3_keep_95 rfl (by decide) rfl ?_
      refine g_goto hC 72 dX3_keep_98 rfl ?_
      refine g_sub [(0, .ref (B + 58)), (1, .ref (B + a1)), (2, J v2_4), (3, J v3_17)] [1, 2, 3, 0] rfl ?_
      exact ih72 v3_17 M_16 hf h_v3_17 h_M_16
  · intro J32 hJ32 hf
    refine g_icmp_ne hC 32 (hM _ _) (by unfold inR; omega) dX3_keep_6 rfl (fun c_24 => ?_) (fun c_24 => ?_)
    · replace hf := hf.1 c_24
      refine g_sub [(0, .ref (B + 58)), (1, .ref (B + a1))] [0, 1] rfl ?_
      exact hJ32 M hf hM
    · replace hf := hf.2 c_24
      refine g_aload_n hC 0 dX3_keep_9 rfl rfl ?_
      refine g_aload_n hC 0 dX3_keep_10 rfl rfl ?_
      refine g_geti hC okX3 sc58 1 (by decide) rfl wf_X3_19 dX3_keep_11 ?_
      refine g_iconst hC dX3_keep_14 ?_
      refine g_iadd hC dX3_keep_15 ?_
      refine g_bipush hC dX3_keep_16 (by decide) ?_
      obtain ⟨q_20, hf⟩ := hf
      refine g_irem hC q_20 (by unfold inR; omega) (by decide) dX3_keep_18 ?_
      refine g_puti hC okX3 tnX3 sc58 1 (by decide) rfl rfl (by decide) wf_X3_19 dX3_keep_19 ?_
      refine g_nmM (fun M_21 e_M_21 => ?_)
      replace hf := hf M_21 e_M_21
      have h_M_21 : MR M_21 := by rw [e_M_21]; exact MR_st hM (tmod_in q_20 (by decide))
      refine g_aload_n hC 0 dX3_keep_22 rfl rfl ?_
      refine g_dup hC dX3_keep_23 rfl ?_
      refine g_geti hC okX3 sc58 0 (by decide) rfl wf_X3_15 dX3_keep_24 ?_
      refine g_iconst hC dX3_keep_27 ?_
      refine g_isub hC dX3_keep_28 ?_
      obtain ⟨q_22, hf⟩ := hf
      refine g_puti hC okX3 tnX3 sc58 0 (by decide) rfl rfl (by decide) wf_X3_15 dX3_keep_29 ?_
      refine g_nmM (fun M_23 e_M_23 => ?_)
      replace hf := hf M_23 e_M_23
      have h_M_23 : MR M_23 := by rw [e_M_23]; exact MR_st h_M_21 q_22
      refine g_sub [(0, .ref (B + 58)), (1, .ref (B + a1))] [0, 1] rfl ?_
      exact hJ32 M_23 hf h_M_23
set_option maxHeartbeats 4000000 in
set_option maxRecDepth 100000 in
theorem c_X5_unpack (l : Launch) (B : Nat) (D : va_G) (K : Nat → ClassId) (n : Nat) (v1 : Int) (v2 : Int) (h_n : is_X5 n) (i_v1 : inR v1) (i_v2 : inR v2) (M : Mem) (hM : MR M) (Q : Mem → Prop) (hf : f_X5_unpack n v1 v2 M Q) : CtV l yX5_unpack cX5_unpack 3 0 0 B D K [.ref (B + n), J v1, J v2] M Q := by
  refine ct_v (by decide) (Nat.le_of_ble_eq_true rfl) ?_
  intro p e s m args below meth c hC
  have hC : Cx p s m args meth c D K cX5_unpack 3 RX5 none := hC
  unfold f_X5_unpack at hf
  refine (show G p l e (rmF 0 0) s m args below meth c B D K 3 0 0 (ZV below args s B D K Q) M 0 [(0, .ref (B + n)), (1, J v1), (2, J v2)] [] from ?_)
  refine g_aload_n hC 0 dX5_unpack_0 rfl rfl ?_
  refine g_getr hC okX5 (sh_X5 h_n) 2 (by decide) rfl wf_X5_9 dX5_unpack_1 ?_
  refine g_iload_n hC 1 dX5_unpack_4 rfl rfl ?_
  refine g_iload_n hC 2 dX5_unpack_5 rfl rfl ?_
  refine g_bipush hC dX5_unpack_6 (by decide) ?_
  refine g_iand hC dX5_unpack_8 ?_
  obtain ⟨q_1, hf⟩ := hf
  refine g_iastk (v1.toNat) hC (sh_X5_2 h_n) q_1.1 q_1.2 rfl dX5_unpack_9 ?_
  refine g_nmM (fun M_2 e_M_2 => ?_)
  replace hf := hf M_2 e_M_2
  have h_M_2 : MR M_2 := by rw [e_M_2]; exact MR_st hM (bAnd_in _ _)
  refine g_aload_n hC 0 dX5_unpack_10 rfl rfl ?_
  refine g_getr hC okX5 (sh_X5 h_n) 3 (by decide) rfl wf_X5_15 dX5_unpack_11 ?_
  refine g_iload_n hC 1 dX5_unpack_14 rfl rfl ?_
  refine g_iload_n hC 2 dX5_unpack_15 rfl rfl ?_
  refine g_iconst hC dX5_unpack_16 ?_
  refine g_ishr hC dX5_unpack_17 ?_
  refine g_bipush hC dX5_unpack_18 (by decide) ?_
  refine g_iand hC dX5_unpack_20 ?_
  refine g_iastk (v1.toNat) hC (sh_X5_3 h_n) q_1.1 q_1.2 rfl dX5_unpack_21 ?_
  refine g_nmM (fun M_3 e_M_3 => ?_)
  replace hf := hf M_3 e_M_3
  have h_M_3 : MR M_3 := by rw [e_M_3]; exact MR_st h_M_2 (bAnd_in _ _)
  refine g_aload_n hC 0 dX5_unpack_22 rfl rfl ?_
  refine g_getr hC okX5 (sh_X5 h_n) 4 (by decide) rfl wf_X5_18 dX5_unpack_23 ?_
  refine g_iload_n hC 1 dX5_unpack_26 rfl rfl ?_
  refine g_iload_n hC 2 dX5_unpack_27 rfl rfl ?_
  refine g_bipush hC dX5_unpack_28 (by decide) ?_
  refine g_ishr hC dX5_unpack_30 ?_
  refine g_bipush hC dX5_unpack_31 (by decide) ?_
  refine g_iand hC dX5_unpack_33 ?_
  refine g_iastk (v1.toNat) hC (sh_X5_4 h_n) q_1.1 q_1.2 rfl dX5_unpack_34 ?_
  refine g_nmM (fun M_4 e_M_4 => ?_)
  replace hf := hf M_4 e_M_4
  have h_M_4 : MR M_4 := by rw [e_M_4]; exact MR_st h_M_3 (bAnd_in _ _)
  refine g_aload_n hC 0 dX5_unpack_35 rfl rfl ?_
  refine g_getr hC okX5 (sh_X5 h_n) 5 (by decide) rfl wf_X5_21 dX5_unpack_36 ?_
  refine g_iload_n hC 1 dX5_unpack_39 rfl rfl ?_
  refine g_iload_n hC 2 dX5_unpack_40 rfl rfl ?_
  refine g_bipush hC dX5_unpack_41 (by decide) ?_
  refine g_ishr hC dX5_unpack_43 ?_
  refine g_bipush hC dX5_unpack_44 (by decide) ?_
  refine g_iand hC dX5_unpack_46 ?_
  refine g_iastk (v1.toNat) hC (sh_X5_5 h_n) q_1.1 q_1.2 rfl dX5_unpack_47 ?_
  refine g_nmM (fun M_5 e_M_5 => ?_)
  replace hf := hf M_5 e_M_5
  have h_M_5 : MR M_5 := by rw [e_M_5]; exact MR_st h_M_4 (bAnd_in _ _)
  refine g_aload_n hC 0 dX5_unpack_48 rfl rfl ?_
  refine g_getr hC okX5 (sh_X5 h_n) 6 (by decide) rfl wf_X5_24 dX5_unpack_49 ?_
  refine g_iload_n hC 1 dX5_unpack_52 rfl rfl ?_
  refine g_iload_n hC 2 dX5_unpack_53 rfl rfl ?_
  refine g_bipush hC dX5_unpack_54 (by decide) ?_
  refine g_ishr hC dX5_unpack_56 ?_
  refine g_bipush hC dX5_unpack_57 (by decide) ?_
  refine g_iand hC dX5_unpack_59 ?_
  refine g_iconst hC dX5_unpack_60 ?_
  refine g_isub hC dX5_unpack_61 ?_
  obtain ⟨q_6, hf⟩ := hf
  refine g_iastk (v1.toNat) hC (sh_X5_6 h_n) q_1.1 q_1.2 rfl dX5_unpack_62 ?_
  refine g_nmM (fun M_7 e_M_7 => ?_)
  replace hf := hf M_7 e_M_7
  have h_M_7 : MR M_7 := by rw [e_M_7]; exact MR_st h_M_5 q_6
  exact g_retv hC h_M_7 hf dX5_unpack_63
set_option maxHeartbeats 4000000 in
set_option maxRecDepth 100000 in
theorem c_X3_restore (l : Launch) (B : Nat) (D : va_G) (K : Nat → ClassId) (a1 : Nat) (h_a1 : is_X5 a1) (M : Mem) (hM : MR M) (Q : Mem → Prop) (hf : f_X3_restore a1 M Q) : CtV l yX3_restore cX3_restore 4 1 22 B D K [.ref (B + 58), .ref (B + a1)] M Q := by
  refine ct_v (by decide) (Nat.le_of_ble_eq_true rfl) ?_
  intro p e s m args below meth c hC
  have hC : Cx p s m args meth c D K cX3_restore 4 RX3 none := hC
  unfold f_X3_restore at hf
  refine (show G p l e (rmF 1 22) s m args below meth c B D K 4 0 0 (ZV below args s B D K Q) M 0 [(0, .ref (B + 58)), (1, .ref (B + a1))] [] from ?_)
  refine g_aload_n hC 0 dX3_restore_0 rfl rfl ?_
  refine g_dup hC dX3_restore_1 rfl ?_
  refine g_geti hC okX3 sc58 0 (by decide) rfl wf_X3_15 dX3_restore_2 ?_
  refine g_iconst hC dX3_restore_5 ?_
  refine g_isub hC dX3_restore_6 ?_
  obtain ⟨q_1, hf⟩ := hf
  refine g_puti hC okX3 tnX3 sc58 0 (by decide) rfl rfl (by decide) wf_X3_15 dX3_restore_7 ?_
  refine g_nmM (fun M_2 e_M_2 => ?_)
  replace hf := hf M_2 e_M_2
  have h_M_2 : MR M_2 := by rw [e_M_2]; exact MR_st hM q_1
  refine g_aload_n hC 0 dX3_restore_10 rfl rfl ?_
  refine g_geti hC okX3 sc58 1 (by decide) rfl wf_X3_19 dX3_restore_11 ?_
  refine g_aload_n hC 0 dX3_restore_14 rfl rfl ?_
  refine g_geti hC okX3 sc58 0 (by decide) rfl wf_X3_15 dX3_restore_15 ?_
  refine g_iadd hC dX3_restore_18 ?_
  refine g_bipush hC dX3_restore_19 (by decide) ?_
  obtain ⟨q_3, hf⟩ := hf
  refine g_irem hC q_3 (by unfold inR; omega) (by decide) dX3_restore_21 ?_
  refine g_bipush hC dX3_restore_22 (by decide) ?_
  refine g_imul hC dX3_restore_24 ?_
  obtain ⟨q_4, hf⟩ := hf
  refine g_nm (fun v2_5 e_v2_5 => ?_)
  replace hf := hf v2_5 e_v2_5
  have h_v2_5 : inR v2_5 := by rw [e_v2_5]; exact q_4
  refine g_istore_n hC [(2, J v2_5), (0, .ref (B + 58)), (1, .ref (B + a1))] dX3_restore_25 rfl (by decide) rfl ?_
  refine g_aload_n hC 2 dX3_restore_26 rfl rfl ?_
  refine g_aload_n hC 1 dX3_restore_27 rfl rfl ?_
  refine g_getr hC okX3 sc58 2 (by decide) rfl wf_X3_11 dX3_restore_28 ?_
  refine g_iload_n hC 0 dX3_restore_31 rfl rfl ?_
  obtain ⟨q_6, hf⟩ := hf
  refine g_ialdk (v2_5.toNat) hC sc59 q_6.1 q_6.2 rfl dX3_restore_32 ?_
  refine g_puti hC okX5 tnX5 (sh_X5 h_a1) 0 (by decide) rfl rfl (by decide) wf_X3_22 dX3_restore_33 ?_
  refine g_nmM (fun M_7 e_M_7 => ?_)
  replace hf := hf M_7 e_M_7
  have h_M_7 : MR M_7 := by rw [e_M_7]; exact MR_st h_M_2 (h_M_2 _ _)
  refine g_aload_n hC 2 dX3_restore_36 rfl rfl ?_
  refine g_aload_n hC 1 dX3_restore_37 rfl rfl ?_
  refine g_getr hC okX3 sc58 2 (by decide) rfl wf_X3_11 dX3_restore_38 ?_
  refine g_iload_n hC 0 dX3_restore_41 rfl rfl ?_
  refine g_iconst hC dX3_restore_42 ?_
  refine g_iadd hC dX3_restore_43 ?_
  obtain ⟨q_8, hf⟩ := hf
  refine g_ialdk ((v2_5 + 1).toNat) hC sc59 q_8.1 q_8.2 rfl dX3_restore_44 ?_
  refine g_puti hC okX5 tnX5 (sh_X5 h_a1) 1 (by decide) rfl rfl (by decide) wf_X3_27 dX3_restore_45 ?_
  refine g_nmM (fun M_9 e_M_9 => ?_)
  replace hf := hf M_9 e_M_9
  have h_M_9 : MR M_9 := by rw [e_M_9]; exact MR_st h_M_7 (h_M_7 _ _)
  refine g_iconst hC dX3_restore_48 ?_
  refine g_istore_n hC [(3, J 0), (2, J v2_5), (0, .ref (B + 58)), (1, .ref (B + a1))] dX3_restore_49 rfl (by decide) rfl ?_
  refine g_sub [(0, .ref (B + 58)), (1, .ref (B + a1)), (2, J v2_5), (3, J 0)] [2, 3, 1, 0] rfl ?_
  refine wl2_elim (fun (v3_10 : Int) (M_11 : Mem) => inR v3_10 → MR M_11 → G p l e (rmF 1 22) s m args below meth c B D K 4 0 0 (ZV below args s B D K Q) M_11 50 [(0, .ref (B + 58)), (1, .ref (B + a1)), (2, J v2_5), (3, J v3_10)] []) ?_ 5000 0 M_9 hf (by unfold inR; omega) h_M_9
  intro rec50 ih50 v3_10 M_11 hf h_v3_10 h_M_11
  unfold X3_restore_b50 at hf
  refine g_iload_n hC 3 dX3_restore_50 rfl rfl ?_
  refine g_aload_n hC 1 dX3_restore_51 rfl rfl ?_
  refine g_geti hC okX5 (sh_X5 h_a1) 1 (by decide) rfl wf_X3_27 dX3_restore_52 ?_
  refine g_icmp_ge hC 79 h_v3_10 (h_M_11 _ _) dX3_restore_55 rfl (fun c_16 => ?_) (fun c_16 => ?_)
  · replace hf := hf.1 c_16
    exact g_retv hC h_M_11 hf dX3_restore_79
  · replace hf := hf.2 c_16
    refine g_aload_n hC 1 dX3_restore_58 rfl rfl ?_
    refine g_iload_n hC 3 dX3_restore_59 rfl rfl ?_
    refine g_aload_n hC 0 dX3_restore_60 rfl rfl ?_
    refine g_getr hC okX3 sc58 2 (by decide) rfl wf_X3_11 dX3_restore_61 ?_
    refine g_iload_n hC 2 dX3_restore_64 rfl rfl ?_
    refine g_iconst hC dX3_restore_65 ?_
    refine g_iadd hC dX3_restore_66 ?_
    refine g_iload_n hC 3 dX3_restore_67 rfl rfl ?_
    refine g_iadd hC dX3_restore_68 ?_
    obtain ⟨q_12, hf⟩ := hf
    refine g_ialdk (((v2_5 + 2) + v3_10).toNat) hC sc59 q_12.1 q_12.2 rfl dX3_restore_69 ?_
    refine g_callVV hC (sk := []) [J v3_10, J (M_11 59 (((v2_5 + 2) + v3_10).toNat))] (c_X5_unpack l B D K a1 v3_10 (M_11 59 (((v2_5 + 2) + v3_10).toNat)) h_a1 h_v3_10 (h_M_11 _ _) M_11 h_M_11 _ hf) yv_X5_unpack wm_X3_34 okX5.1 (sh_X5 h_a1) rfl ⟨Nat.le_of_ble_eq_true rfl, Nat.le_of_ble_eq_true rfl, Nat.le_of_ble_eq_true rfl, Nat.le_of_ble_eq_true rfl⟩ rfl (Nat.le_of_ble_eq_true rfl) dX3_restore_70 ?_
    intro M_13 h_M_13 hf
    obtain ⟨q_15, hf⟩ := hf
    obtain ⟨v3_14, e_v3_14⟩ : ∃ z : Int, z = v3_10 + 1 := ⟨_, rfl⟩
    replace hf := hf v3_14 e_v3_14
    have h_v3_14 : inR v3_14 := by rw [e_v3_14]; exact q_15
    refine g_iincv hC 3 e_v3_14 [(3, J v3_14), (0, .ref (B + 58)), (1, .ref (B + a1)), (2, J v2_5)] dX3_restore_73 rfl (by decide) rfl ?_
    refine g_goto hC 50 dX3_restore_76 rfl ?_
    refine g_sub [(0, .ref (B + 58)), (1, .ref (B + a1)), (2, J v2_5), (3, J v3_14)] [1, 2, 3, 0] rfl ?_
    exact ih50 v3_14 M_13 hf h_v3_14 h_M_13
set_option maxHeartbeats 4000000 in
set_option maxRecDepth 100000 in
theorem c_X4_write (l : Launch) (B : Nat) (D : va_G) (K : Nat → ClassId) (a1 : Nat) (h_a1 : is_X5 a1) (M : Mem) (hM : MR M) (Q : Mem → Prop) (hf : f_X4_write a1 M Q) : CtV l yX4_write cX4_write 5 0 0 B D K [.ref (B + 66), .ref (B + a1)] M Q := by
  refine ct_v (by decide) (Nat.le_of_ble_eq_true rfl) ?_
  intro p e s m args below meth c hC
  have hC : Cx p s m args meth c D K cX4_write 5 RX4 none := hC
  unfold f_X4_write at hf
  refine (show G p l e (rmF 0 0) s m args below meth c B D K 5 0 0 (ZV below args s B D K Q) M 0 [(0, .ref (B + 66)), (1, .ref (B + a1))] [] from ?_)
  refine g_aload_n hC 0 dX4_write_0 rfl rfl ?_
  refine g_getr hC okX4 sc66 1 (by decide) rfl wf_X4_9 dX4_write_1 ?_
  refine g_iconst hC dX4_write_4 ?_
  refine g_aload_n hC 1 dX4_write_5 rfl rfl ?_
  refine g_geti hC okX5 (sh_X5 h_a1) 0 (by decide) rfl wf_X4_15 dX4_write_6 ?_
  refine g_iastk 0 hC sc67 (by decide) (by decide) rfl dX4_write_9 ?_
  refine g_nmM (fun M_1 e_M_1 => ?_)
  replace hf := hf M_1 e_M_1
  have h_M_1 : MR M_1 := by rw [e_M_1]; exact MR_st hM (hM _ _)
  refine g_aload_n hC 0 dX4_write_10 rfl rfl ?_
  refine g_getr hC okX4 sc66 1 (by decide) rfl wf_X4_9 dX4_write_11 ?_
  refine g_iconst hC dX4_write_14 ?_
  refine g_aload_n hC 1 dX4_write_15 rfl rfl ?_
  refine g_geti hC okX5 (sh_X5 h_a1) 1 (by decide) rfl wf_X4_21 dX4_write_16 ?_
  refine g_iastk 1 hC sc67 (by decide) (by decide) rfl dX4_write_19 ?_
  refine g_nmM (fun M_2 e_M_2 => ?_)
  replace hf := hf M_2 e_M_2
  have h_M_2 : MR M_2 := by rw [e_M_2]; exact MR_st h_M_1 (h_M_1 _ _)
  refine g_iconst hC dX4_write_20 ?_
  refine g_istore_n hC [(2, J 2), (0, .ref (B + 66)), (1, .ref (B + a1))] dX4_write_21 rfl (by decide) rfl ?_
  refine g_iconst hC dX4_write_22 ?_
  refine g_istore_n hC [(3, J 0), (2, J 2), (0, .ref (B + 66)), (1, .ref (B + a1))] dX4_write_23 rfl (by decide) rfl ?_
  refine jn_elim (fun (k : Int → Mem → Prop) => ∀ (v2_3 : Int) (M_4 : Mem), k v2_3 M_4 → (inR v2_3) → (MR M_4) → G p l e (rmF 0 0) s m args below meth c B D K 5 0 0 (ZV below args s B D K Q) M_4 125 [(0, .ref (B + 66)), (2, J v2_3)] []) hf ?_ ?_
  · intro v2_3 M_4 hf h_v2_3 h_M_4
    refine g_sipush hC dX4_write_125 (by decide) ?_
    refine g_istore_n hC [(3, J 191), (0, .ref (B + 66)), (2, J v2_3)] dX4_write_128 rfl (by decide) rfl ?_
    refine g_iconst hC dX4_write_129 ?_
    refine g_istore hC [(4, J 0), (3, J 191), (0, .ref (B + 66)), (2, J v2_3)] dX4_write_130 (by decide) rfl ?_
    refine jn_elim (fun (k : Int → Prop) => ∀ (v3_5 : Int), k v3_5 → (inR v3_5) → G p l e (rmF 0 0) s m args below meth c B D K 5 0 0 (ZV below args s B D K Q) M_4 160 [(0, .ref (B + 66)), (2, J v2_3), (3, J v3_5)] []) hf ?_ ?_
    · intro v3_5 hf h_v3_5
      refine g_aload_n hC 0 dX4_write_160 rfl rfl ?_
      refine g_getr hC okX4 sc66 1 (by decide) rfl wf_X4_9 dX4_write_161 ?_
      refine g_iload_n hC 1 dX4_write_164 rfl rfl ?_
      refine g_iload_n hC 2 dX4_write_165 rfl rfl ?_
      obtain ⟨q_6, hf⟩ := hf
      refine g_iastk (v2_3.toNat) hC sc67 q_6.1 q_6.2 rfl dX4_write_166 ?_
      refine g_nmM (fun M_7 e_M_7 => ?_)
      replace hf := hf M_7 e_M_7
      have h_M_7 : MR M_7 := by rw [e_M_7]; exact MR_st h_M_4 h_v3_5
      refine g_aload_n hC 0 dX4_write_167 rfl rfl ?_
      refine g_iload_n hC 1 dX4_write_168 rfl rfl ?_
      refine g_iconst hC dX4_write_169 ?_
      refine g_iadd hC dX4_write_170 ?_
      obtain ⟨q_8, hf⟩ := hf
      refine g_puti hC okX4 tnX4 sc66 0 (by decide) rfl rfl (by decide) wf_X4_39 dX4_write_171 ?_
      refine g_nmM (fun M_9 e_M_9 => ?_)
      replace hf := hf M_9 e_M_9
      have h_M_9 : MR M_9 := by rw [e_M_9]; exact MR_st h_M_7 q_8
      exact g_retv hC h_M_9 hf dX4_write_174
    · intro J160 hJ160 hf
      refine g_sub [(0, .ref (B + 66)), (2, J v2_3), (3, J 191), (4, J 0)] [2, 3, 1, 0] rfl ?_
      refine wl2_elim (fun (v3_10 : Int) (v4_11 : Int) => inR v3_10 → inR v4_11 → G p l e (rmF 0 0) s m args below meth c B D K 5 0 0 (ZV below args s B D K Q) M_4 132 [(0, .ref (B + 66)), (2, J v2_3), (3, J v3_10), (4, J v4_11)] []) ?_ 5000 191 0 hf (by unfold inR; omega) (by unfold inR; omega)
      intro rec132 ih132 v3_10 v4_11 hf h_v3_10 h_v4_11
      unfold X4_write_b132 at hf
      refine g_iload hC 3 dX4_write_132 rfl ?_
      refine g_iload_n hC 1 dX4_write_134 rfl rfl ?_
      refine g_icmp_ge hC 160 h_v4_11 h_v2_3 dX4_write_135 rfl (fun c_17 => ?_) (fun c_17 => ?_)
      · replace hf := hf.1 c_17
        refine g_sub [(0, .ref (B + 66)), (2, J v2_3), (3, J v3_10)] [0, 1, 2] rfl ?_
        exact hJ160 v3_10 hf h_v3_10
      · replace hf := hf.2 c_17
        refine g_iconst hC dX4_write_138 ?_
        refine g_iload_n hC 2 dX4_write_139 rfl rfl ?_
        refine g_imul hC dX4_write_140 ?_
        refine g_aload_n hC 0 dX4_write_141 rfl rfl ?_
        refine g_getr hC okX4 sc66 1 (by decide) rfl wf_X4_9 dX4_write_142 ?_
        refine g_iload hC 3 dX4_write_145 rfl ?_
        obtain ⟨q_12, hf⟩ := hf
        refine g_ialdk (v4_11.toNat) hC sc67 q_12.1 q_12.2 rfl dX4_write_147 ?_
        refine g_iadd hC dX4_write_148 ?_
        refine g_sipush hC dX4_write_149 (by decide) ?_
        obtain ⟨q_13, hf⟩ := hf
        refine g_irem hC q_13 (by unfold inR; omega) (by decide) dX4_write_152 ?_
        refine g_nm (fun v3_14 e_v3_14 => ?_)
        replace hf := hf v3_14 e_v3_14
        have h_v3_14 : inR v3_14 := by rw [e_v3_14]; exact (tmod_in q_13 (by decide))
        refine g_istore_n hC [(3, J v3_14), (0, .ref (B + 66)), (2, J v2_3), (4, J v4_11)] dX4_write_153 rfl (by decide) rfl ?_
        obtain ⟨q_16, hf⟩ := hf
        obtain ⟨v4_15, e_v4_15⟩ : ∃ z : Int, z = v4_11 + 1 := ⟨_, rfl⟩
        replace hf := hf v4_15 e_v4_15
        have h_v4_15 : inR v4_15 := by rw [e_v4_15]; exact q_16
        refine g_iincv hC 3 e_v4_15 [(4, J v4_15), (3, J v3_14), (0, .ref (B + 66)), (2, J v2_3)] dX4_write_154 rfl (by decide) rfl ?_
        refine g_goto hC 132 dX4_write_157 rfl ?_
        refine g_sub [(0, .ref (B + 66)), (2, J v2_3), (3, J v3_14), (4, J v4_15)] [2, 3, 1, 0] rfl ?_
        exact ih132 v3_14 v4_15 hf h_v3_14 h_v4_15
  · intro J125 hJ125 hf
    refine g_sub [(0, .ref (B + 66)), (1, .ref (B + a1)), (2, J 2), (3, J 0)] [2, 3, 1, 0] rfl ?_
    refine wl3_elim (fun (v2_18 : Int) (v3_19 : Int) (M_20 : Mem) => inR v2_18 → inR v3_19 → MR M_20 → G p l e (rmF 0 0) s m args below meth c B D K 5 0 0 (ZV below args s B D K Q) M_20 24 [(0, .ref (B + 66)), (1, .ref (B + a1)), (2, J v2_18), (3, J v3_19)] []) ?_ 5000 2 0 M_2 hf (by unfold inR; omega) (by unfold inR; omega) h_M_2
    intro rec24 ih24 v2_18 v3_19 M_20 hf h_v2_18 h_v3_19 h_M_20
    unfold X4_write_b24 at hf
    refine g_iload_n hC 3 dX4_write_24 rfl rfl ?_
    refine g_aload_n hC 1 dX4_write_25 rfl rfl ?_
    refine g_geti hC okX5 (sh_X5 h_a1) 1 (by decide) rfl wf_X4_21 dX4_write_26 ?_
    refine g_icmp_ge hC 125 h_v3_19 (h_M_20 _ _) dX4_write_29 rfl (fun c_43 => ?_) (fun c_43 => ?_)
    · replace hf := hf.1 c_43
      refine g_sub [(0, .ref (B + 66)), (2, J v2_18)] [0, 2] rfl ?_
      exact hJ125 v2_18 M_20 hf h_v2_18 h_M_20
    · replace hf := hf.2 c_43
      refine g_aload_n hC 0 dX4_write_32 rfl rfl ?_
      refine g_getr hC okX4 sc66 1 (by decide) rfl wf_X4_9 dX4_write_33 ?_
      refine g_iload_n hC 2 dX4_write_36 rfl rfl ?_
      refine g_aload_n hC 1 dX4_write_37 rfl rfl ?_
      refine g_getr hC okX5 (sh_X5 h_a1) 2 (by decide) rfl wf_X4_24 dX4_write_38 ?_
      refine g_iload_n hC 3 dX4_write_41 rfl rfl ?_
      obtain ⟨q_21, hf⟩ := hf
      refine g_ialdk (v3_19.toNat) hC (sh_X5_2 h_a1) q_21.1 q_21.2 rfl dX4_write_42 ?_
      obtain ⟨q_22, hf⟩ := hf
      refine g_iastk (v2_18.toNat) hC sc67 q_22.1 q_22.2 rfl dX4_write_43 ?_
      refine g_nmM (fun M_23 e_M_23 => ?_)
      replace hf := hf M_23 e_M_23
      have h_M_23 : MR M_23 := by rw [e_M_23]; exact MR_st h_M_20 (h_M_20 _ _)
      refine g_aload_n hC 0 dX4_write_44 rfl rfl ?_
      refine g_getr hC okX4 sc66 1 (by decide) rfl wf_X4_9 dX4_write_45 ?_
      refine g_iload_n hC 2 dX4_write_48 rfl rfl ?_
      refine g_iconst hC dX4_write_49 ?_
      refine g_iadd hC dX4_write_50 ?_
      refine g_aload_n hC 1 dX4_write_51 rfl rfl ?_
      refine g_getr hC okX5 (sh_X5 h_a1) 3 (by decide) rfl wf_X4_27 dX4_write_52 ?_
      refine g_iload_n hC 3 dX4_write_55 rfl rfl ?_
      refine g_ialdk (v3_19.toNat) hC (sh_X5_3 h_a1) q_21.1 q_21.2 rfl dX4_write_56 ?_
      obtain ⟨q_24, hf⟩ := hf
      refine g_iastk ((v2_18 + 1).toNat) hC sc67 q_24.1 q_24.2 rfl dX4_write_57 ?_
      refine g_nmM (fun M_25 e_M_25 => ?_)
      replace hf := hf M_25 e_M_25
      have h_M_25 : MR M_25 := by rw [e_M_25]; exact MR_st h_M_23 (h_M_23 _ _)
      refine g_aload_n hC 0 dX4_write_58 rfl rfl ?_
      refine g_getr hC okX4 sc66 1 (by decide) rfl wf_X4_9 dX4_write_59 ?_
      refine g_iload_n hC 2 dX4_write_62 rfl rfl ?_
      refine g_iconst hC dX4_write_63 ?_
      refine g_iadd hC dX4_write_64 ?_
      refine g_aload_n hC 1 dX4_write_65 rfl rfl ?_
      refine g_getr hC okX5 (sh_X5 h_a1) 4 (by decide) rfl wf_X4_30 dX4_write_66 ?_
      refine g_iload_n hC 3 dX4_write_69 rfl rfl ?_
      refine g_ialdk (v3_19.toNat) hC (sh_X5_4 h_a1) q_21.1 q_21.2 rfl dX4_write_70 ?_
      obtain ⟨q_26, hf⟩ := hf
      refine g_iastk ((v2_18 + 2).toNat) hC sc67 q_26.1 q_26.2 rfl dX4_write_71 ?_
      refine g_nmM (fun M_27 e_M_27 => ?_)
      replace hf := hf M_27 e_M_27
      have h_M_27 : MR M_27 := by rw [e_M_27]; exact MR_st h_M_25 (h_M_25 _ _)
      refine g_aload_n hC 0 dX4_write_72 rfl rfl ?_
      refine g_getr hC okX4 sc66 1 (by decide) rfl wf_X4_9 dX4_write_73 ?_
      refine g_iload_n hC 2 dX4_write_76 rfl rfl ?_
      refine g_iconst hC dX4_write_77 ?_
      refine g_iadd hC dX4_write_78 ?_
      refine g_aload_n hC 1 dX4_write_79 rfl rfl ?_
      refine g_getr hC okX5 (sh_X5 h_a1) 5 (by decide) rfl wf_X4_33 dX4_write_80 ?_
      refine g_iload_n hC 3 dX4_write_83 rfl rfl ?_
      refine g_ialdk (v3_19.toNat) hC (sh_X5_5 h_a1) q_21.1 q_21.2 rfl dX4_write_84 ?_
      obtain ⟨q_28, hf⟩ := hf
      refine g_iastk ((v2_18 + 3).toNat) hC sc67 q_28.1 q_28.2 rfl dX4_write_85 ?_
      refine g_nmM (fun M_29 e_M_29 => ?_)
      replace hf := hf M_29 e_M_29
      have h_M_29 : MR M_29 := by rw [e_M_29]; exact MR_st h_M_27 (h_M_27 _ _)
      refine g_aload_n hC 0 dX4_write_86 rfl rfl ?_
      refine g_getr hC okX4 sc66 1 (by decide) rfl wf_X4_9 dX4_write_87 ?_
      refine g_iload_n hC 2 dX4_write_90 rfl rfl ?_
      refine g_iconst hC dX4_write_91 ?_
      refine g_iadd hC dX4_write_92 ?_
      refine g_aload_n hC 1 dX4_write_93 rfl rfl ?_
      refine g_getr hC okX5 (sh_X5 h_a1) 6 (by decide) rfl wf_X4_36 dX4_write_94 ?_
      refine g_iload_n hC 3 dX4_write_97 rfl rfl ?_
      refine g_ialdk (v3_19.toNat) hC (sh_X5_6 h_a1) q_21.1 q_21.2 rfl dX4_write_98 ?_
      refine g_iconst hC dX4_write_99 ?_
      refine g_icmp_ne hC 109 (h_M_29 _ _) (by unfold inR; omega) dX4_write_100 rfl (fun c_42 => ?_) (fun c_42 => ?_)
      · replace hf := hf.1 c_42
        refine g_aload_n hC 1 dX4_write_109 rfl rfl ?_
        refine g_getr hC okX5 (sh_X5 h_a1) 6 (by decide) rfl wf_X4_36 dX4_write_110 ?_
        refine g_iload_n hC 3 dX4_write_113 rfl rfl ?_
        refine g_ialdk (v3_19.toNat) hC (sh_X5_6 h_a1) q_21.1 q_21.2 rfl dX4_write_114 ?_
        obtain ⟨q_30, hf⟩ := hf
        refine g_iastk ((v2_18 + 4).toNat) hC sc67 q_30.1 q_30.2 rfl dX4_write_115 ?_
        refine g_nmM (fun M_31 e_M_31 => ?_)
        replace hf := hf M_31 e_M_31
        have h_M_31 : MR M_31 := by rw [e_M_31]; exact MR_st h_M_29 (h_M_29 _ _)
        obtain ⟨q_33, hf⟩ := hf
        obtain ⟨v2_32, e_v2_32⟩ : ∃ z : Int, z = v2_18 + 5 := ⟨_, rfl⟩
        replace hf := hf v2_32 e_v2_32
        have h_v2_32 : inR v2_32 := by rw [e_v2_32]; exact q_33
        refine g_iincv hC 2 e_v2_32 [(2, J v2_32), (0, .ref (B + 66)), (1, .ref (B + a1)), (3, J v3_19)] dX4_write_116 rfl (by decide) rfl ?_
        obtain ⟨q_35, hf⟩ := hf
        obtain ⟨v3_34, e_v3_34⟩ : ∃ z : Int, z = v3_19 + 1 := ⟨_, rfl⟩
        replace hf := hf v3_34 e_v3_34
        have h_v3_34 : inR v3_34 := by rw [e_v3_34]; exact q_35
        refine g_iincv hC 3 e_v3_34 [(3, J v3_34), (2, J v2_32), (0, .ref (B + 66)), (1, .ref (B + a1))] dX4_write_119 rfl (by decide) rfl ?_
        refine g_goto hC 24 dX4_write_122 rfl ?_
        refine g_sub [(0, .ref (B + 66)), (1, .ref (B + a1)), (2, J v2_32), (3, J v3_34)] [2, 3, 1, 0] rfl ?_
        exact ih24 v2_32 v3_34 M_31 hf h_v2_32 h_v3_34 h_M_31
      · replace hf := hf.2 c_42
        refine g_sipush hC dX4_write_103 (by decide) ?_
        refine g_goto hC 115 dX4_write_106 rfl ?_
        obtain ⟨q_36, hf⟩ := hf
        refine g_iastk ((v2_18 + 4).toNat) hC sc67 q_36.1 q_36.2 rfl dX4_write_115 ?_
        refine g_nmM (fun M_37 e_M_37 => ?_)
        replace hf := hf M_37 e_M_37
        have h_M_37 : MR M_37 := by rw [e_M_37]; exact MR_st h_M_29 (by unfold inR; omega)
        obtain ⟨q_39, hf⟩ := hf
        obtain ⟨v2_38, e_v2_38⟩ : ∃ z : Int, z = v2_18 + 5 := ⟨_, rfl⟩
        replace hf := hf v2_38 e_v2_38
        have h_v2_38 : inR v2_38 := by rw [e_v2_38]; exact q_39
        refine g_iincv hC 2 e_v2_38 [(2, J v2_38), (0, .ref (B + 66)), (1, .ref (B + a1)), (3, J v3_19)] dX4_write_116 rfl (by decide) rfl ?_
        obtain ⟨q_41, hf⟩ := hf
        obtain ⟨v3_40, e_v3_40⟩ : ∃ z : Int, z = v3_19 + 1 := ⟨_, rfl⟩
        replace hf := hf v3_40 e_v3_40
        have h_v3_40 : inR v3_40 := by rw [e_v3_40]; exact q_41
        refine g_iincv hC 3 e_v3_40 [(3, J v3_40), (2, J v2_38), (0, .ref (B + 66)), (1, .ref (B + a1))] dX4_write_119 rfl (by decide) rfl ?_
        refine g_goto hC 24 dX4_write_122 rfl ?_
        refine g_sub [(0, .ref (B + 66)), (1, .ref (B + a1)), (2, J v2_38), (3, J v3_40)] [2, 3, 1, 0] rfl ?_
        exact ih24 v2_38 v3_40 M_37 hf h_v2_38 h_v3_40 h_M_37
set_option maxHeartbeats 4000000 in
set_option maxRecDepth 100000 in
theorem c_X10_at (l : Launch) (B : Nat) (D : va_G) (K : Nat → ClassId) (v1 : Int) (i_v1 : inR v1) (M : Mem) (hM : MR M) (Q : Int → Prop) (hf : f_X10_at v1 M Q) : CtI l yX10_at cX10_at 2 0 0 B D K [.ref (B + 1), J v1] M (fun r M1 => M = M1 ∧ Q r) := by
  refine ct_i (by decide) (Nat.le_of_ble_eq_true rfl) ?_
  intro p e s m args below meth c hC
  have hC : Cx p s m args meth c D K cX10_at 2 RX10 (some .int) := hC
  unfold f_X10_at at hf
  refine (show G p l e (rmF 0 0) s m args below meth c B D K 2 0 0 (ZI below args s B D K (fun r M1 => M = M1 ∧ Q r)) M 0 [(0, .ref (B + 1)), (1, J v1)] [] from ?_)
  refine g_iload_n hC 1 dX10_at_0 rfl rfl ?_
  refine g_if_lt hC 25 i_v1 dX10_at_1 rfl (fun c_3 => ?_) (fun c_3 => ?_)
  · replace hf := hf.1 c_3
    refine g_iconst hC dX10_at_25 ?_
    exact g_reti hC (by unfold inR; omega) hM ⟨rfl, hf⟩ dX10_at_26
  · replace hf := hf.2 c_3
    refine g_iload_n hC 1 dX10_at_4 rfl rfl ?_
    refine g_aload_n hC 0 dX10_at_5 rfl rfl ?_
    refine g_geti hC okX10 sc1 1 (by decide) rfl wf_X10_15 dX10_at_6 ?_
    refine g_icmp_ge hC 25 i_v1 (hM _ _) dX10_at_9 rfl (fun c_2 => ?_) (fun c_2 => ?_)
    · replace hf := hf.1 c_2
      refine g_iconst hC dX10_at_25 ?_
      exact g_reti hC (by unfold inR; omega) hM ⟨rfl, hf⟩ dX10_at_26
    · replace hf := hf.2 c_2
      refine g_aload_n hC 0 dX10_at_12 rfl rfl ?_
      refine g_getr hC okX10 sc1 0 (by decide) rfl wf_X10_9 dX10_at_13 ?_
      refine g_iload_n hC 1 dX10_at_16 rfl rfl ?_
      obtain ⟨q_1, hf⟩ := hf
      refine g_baldk (v1.toNat) hC sc2 q_1.1 q_1.2 rfl dX10_at_17 ?_
      refine g_sipush hC dX10_at_18 (by decide) ?_
      refine g_iand hC dX10_at_21 ?_
      refine g_goto hC 26 dX10_at_22 rfl ?_
      exact g_reti hC (bAnd_in _ _) hM ⟨rfl, hf⟩ dX10_at_26
set_option maxHeartbeats 4000000 in
set_option maxRecDepth 100000 in
theorem c_X4_isChecked (l : Launch) (B : Nat) (D : va_G) (K : Nat → ClassId)   (M : Mem) (hM : MR M) (Q : Int → Prop) (hf : f_X4_isChecked  M Q) : CtZ l yX4_isChecked cX4_isChecked 3 1 21 B D K [.ref (B + 1)] M (fun r M1 => M = M1 ∧ Q r) := by
  refine ct_z (by decide) (Nat.le_of_ble_eq_true rfl) ?_
  intro p e s m args below meth c hC
  have hC : Cx p s m args meth c D K cX4_isChecked 3 RX4 (some .boolean) := hC
  unfold f_X4_isChecked at hf
  refine (show G p l e (rmF 1 21) s m args below meth c B D K 3 0 0 (ZZ below args s B D K (fun r M1 => M = M1 ∧ Q r)) M 0 [(0, .ref (B + 1))] [] from ?_)
  refine g_sipush hC dX4_isChecked_0 (by decide) ?_
  refine g_istore_n hC [(1, J 191), (0, .ref (B + 1))] dX4_isChecked_3 rfl (by decide) rfl ?_
  refine g_iconst hC dX4_isChecked_4 ?_
  refine g_istore_n hC [(2, J 0), (1, J 191), (0, .ref (B + 1))] dX4_isChecked_5 rfl (by decide) rfl ?_
  refine jn_elim (fun (k : Int → Prop) => ∀ (v1_1 : Int), k v1_1 → (inR v1_1) → G p l e (rmF 1 21) s m args below meth c B D K 3 0 0 (ZZ below args s B D K (fun r M1 => M = M1 ∧ Q r)) M 36 [(0, .ref (B + 1)), (1, J v1_1)] []) hf ?_ ?_
  · intro v1_1 hf h_v1_1
    refine g_aload_n hC 0 dX4_isChecked_36 rfl rfl ?_
    refine g_aload_n hC 0 dX4_isChecked_37 rfl rfl ?_
    refine g_geti hC okX10 sc1 1 (by decide) rfl wf_X4_48 dX4_isChecked_38 ?_
    refine g_iconst hC dX4_isChecked_41 ?_
    refine g_isub hC dX4_isChecked_42 ?_
    obtain ⟨q_2, hf⟩ := hf
    refine g_callVI hC (sk := []) [J ((M 1 1) - 1)] (c_X10_at l B D K ((M 1 1) - 1) q_2 M hM _ hf) yv_X10_at wm_X4_42 okX10.1 sc1 rfl ⟨Nat.le_of_ble_eq_true rfl, Nat.le_of_ble_eq_true rfl, Nat.le_of_ble_eq_true rfl, Nat.le_of_ble_eq_true rfl⟩ rfl (Nat.le_of_ble_eq_true rfl) dX4_isChecked_43 ?_
    rintro r_3 M_4 h_r_3 - ⟨rfl, hf⟩
    refine g_iload_n hC 1 dX4_isChecked_46 rfl rfl ?_
    refine g_icmp_ne hC 54 h_r_3 h_v1_1 dX4_isChecked_47 rfl (fun c_5 => ?_) (fun c_5 => ?_)
    · replace hf := hf.1 c_5
      refine g_iconst hC dX4_isChecked_54 ?_
      exact g_retz hC (Or.inl rfl) hM ⟨rfl, hf⟩ dX4_isChecked_55
    · replace hf := hf.2 c_5
      refine g_iconst hC dX4_isChecked_50 ?_
      refine g_goto hC 55 dX4_isChecked_51 rfl ?_
      exact g_retz hC (Or.inr rfl) hM ⟨rfl, hf⟩ dX4_isChecked_55
  · intro J36 hJ36 hf
    refine g_sub [(0, .ref (B + 1)), (1, J 191), (2, J 0)] [2, 1, 0] rfl ?_
    refine wl2_elim (fun (v1_6 : Int) (v2_7 : Int) => inR v1_6 → inR v2_7 → G p l e (rmF 1 21) s m args below meth c B D K 3 0 0 (ZZ below args s B D K (fun r M1 => M = M1 ∧ Q r)) M 6 [(0, .ref (B + 1)), (1, J v1_6), (2, J v2_7)] []) ?_ 5000 191 0 hf (by unfold inR; omega) (by unfold inR; omega)
    intro rec6 ih6 v1_6 v2_7 hf h_v1_6 h_v2_7
    unfold X4_isChecked_b6 at hf
    refine g_iload_n hC 2 dX4_isChecked_6 rfl rfl ?_
    refine g_aload_n hC 0 dX4_isChecked_7 rfl rfl ?_
    refine g_geti hC okX10 sc1 1 (by decide) rfl wf_X4_48 dX4_isChecked_8 ?_
    refine g_iconst hC dX4_isChecked_11 ?_
    refine g_isub hC dX4_isChecked_12 ?_
    obtain ⟨q_8, hf⟩ := hf
    refine g_icmp_ge hC 36 h_v2_7 q_8 dX4_isChecked_13 rfl (fun c_15 => ?_) (fun c_15 => ?_)
    · replace hf := hf.1 c_15
      refine g_sub [(0, .ref (B + 1)), (1, J v1_6)] [0, 1] rfl ?_
      exact hJ36 v1_6 hf h_v1_6
    · replace hf := hf.2 c_15
      refine g_iconst hC dX4_isChecked_16 ?_
      refine g_iload_n hC 1 dX4_isChecked_17 rfl rfl ?_
      refine g_imul hC dX4_isChecked_18 ?_
      refine g_aload_n hC 0 dX4_isChecked_19 rfl rfl ?_
      refine g_iload_n hC 2 dX4_isChecked_20 rfl rfl ?_
      refine g_callVI hC (sk := [J (3 * v1_6)]) [J v2_7] (c_X10_at l B D K v2_7 h_v2_7 M hM _ hf) yv_X10_at wm_X4_42 okX10.1 sc1 rfl ⟨Nat.le_of_ble_eq_true rfl, Nat.le_of_ble_eq_true rfl, Nat.le_of_ble_eq_true rfl, Nat.le_of_ble_eq_true rfl⟩ rfl (Nat.le_of_ble_eq_true rfl) dX4_isChecked_21 ?_
      rintro r_9 M_10 h_r_9 - ⟨rfl, hf⟩
      refine g_iadd hC dX4_isChecked_24 ?_
      refine g_sipush hC dX4_isChecked_25 (by decide) ?_
      obtain ⟨q_11, hf⟩ := hf
      refine g_irem hC q_11 (by unfold inR; omega) (by decide) dX4_isChecked_28 ?_
      refine g_nm (fun v1_12 e_v1_12 => ?_)
      replace hf := hf v1_12 e_v1_12
      have h_v1_12 : inR v1_12 := by rw [e_v1_12]; exact (tmod_in q_11 (by decide))
      refine g_istore_n hC [(1, J v1_12), (0, .ref (B + 1)), (2, J v2_7)] dX4_isChecked_29 rfl (by decide) rfl ?_
      obtain ⟨q_14, hf⟩ := hf
      obtain ⟨v2_13, e_v2_13⟩ : ∃ z : Int, z = v2_7 + 1 := ⟨_, rfl⟩
      replace hf := hf v2_13 e_v2_13
      have h_v2_13 : inR v2_13 := by rw [e_v2_13]; exact q_14
      refine g_iincv hC 2 e_v2_13 [(2, J v2_13), (1, J v1_12), (0, .ref (B + 1))] dX4_isChecked_30 rfl (by decide) rfl ?_
      refine g_goto hC 6 dX4_isChecked_33 rfl ?_
      refine g_sub [(0, .ref (B + 1)), (1, J v1_12), (2, J v2_13)] [2, 1, 0] rfl ?_
      exact ih6 v1_12 v2_13 hf h_v1_12 h_v2_13
set_option maxHeartbeats 4000000 in
set_option maxRecDepth 100000 in
theorem c_X5_isPlace (l : Launch) (B : Nat) (D : va_G) (K : Nat → ClassId) (n : Nat) (v1 : Int) (h_n : is_X5 n) (i_v1 : inR v1) (M : Mem) (hM : MR M) (Q : Int → Prop) (hf : f_X5_isPlace n v1 M Q) : CtZ l yX5_isPlace cX5_isPlace 2 0 0 B D K [.ref (B + n), J v1] M (fun r M1 => M = M1 ∧ Q r) := by
  refine ct_z (by decide) (Nat.le_of_ble_eq_true rfl) ?_
  intro p e s m args below meth c hC
  have hC : Cx p s m args meth c D K cX5_isPlace 2 RX5 (some .boolean) := hC
  unfold f_X5_isPlace at hf
  refine (show G p l e (rmF 0 0) s m args below meth c B D K 2 0 0 (ZZ below args s B D K (fun r M1 => M = M1 ∧ Q r)) M 0 [(0, .ref (B + n)), (1, J v1)] [] from ?_)
  refine g_iload_n hC 1 dX5_isPlace_0 rfl rfl ?_
  refine g_if_lt hC 16 i_v1 dX5_isPlace_1 rfl (fun c_2 => ?_) (fun c_2 => ?_)
  · replace hf := hf.1 c_2
    refine g_iconst hC dX5_isPlace_16 ?_
    exact g_retz hC (Or.inl rfl) hM ⟨rfl, hf⟩ dX5_isPlace_17
  · replace hf := hf.2 c_2
    refine g_iload_n hC 1 dX5_isPlace_4 rfl rfl ?_
    refine g_aload_n hC 0 dX5_isPlace_5 rfl rfl ?_
    refine g_geti hC okX5 (sh_X5 h_n) 0 (by decide) rfl wf_X5_27 dX5_isPlace_6 ?_
    refine g_icmp_ge hC 16 i_v1 (hM _ _) dX5_isPlace_9 rfl (fun c_1 => ?_) (fun c_1 => ?_)
    · replace hf := hf.1 c_1
      refine g_iconst hC dX5_isPlace_16 ?_
      exact g_retz hC (Or.inl rfl) hM ⟨rfl, hf⟩ dX5_isPlace_17
    · replace hf := hf.2 c_1
      refine g_iconst hC dX5_isPlace_12 ?_
      refine g_goto hC 17 dX5_isPlace_13 rfl ?_
      exact g_retz hC (Or.inr rfl) hM ⟨rfl, hf⟩ dX5_isPlace_17
set_option maxHeartbeats 4000000 in
set_option maxRecDepth 100000 in
theorem c_X5_leads (l : Launch) (B : Nat) (D : va_G) (K : Nat → ClassId) (n : Nat) (v1 : Int) (v2 : Int) (v3 : Int) (h_n : is_X5 n) (i_v1 : inR v1) (i_v2 : inR v2) (i_v3 : inR v3) (M : Mem) (hM : MR M) (Q : Int → Prop) (hf : f_X5_leads n v1 v2 v3 M Q) : CtZ l yX5_leads cX5_leads 8 0 0 B D K [.ref (B + n), J v1, J v2, J v3] M (fun r M1 => M = M1 ∧ Q r) := by
  refine ct_z (by decide) (Nat.le_of_ble_eq_true rfl) ?_
  intro p e s m args below meth c hC
  have hC : Cx p s m args meth c D K cX5_leads 8 RX5 (some .boolean) := hC
  unfold f_X5_leads at hf
  refine (show G p l e (rmF 0 0) s m args below meth c B D K 8 0 0 (ZZ below args s B D K (fun r M1 => M = M1 ∧ Q r)) M 0 [(0, .ref (B + n)), (1, J v1), (2, J v2), (3, J v3)] [] from ?_)
  refine g_iconst hC dX5_leads_0 ?_
  refine g_iload_n hC 1 dX5_leads_1 rfl rfl ?_
  refine g_ishl hC dX5_leads_2 ?_
  refine g_nm (fun v4_1 e_v4_1 => ?_)
  replace hf := hf v4_1 e_v4_1
  have h_v4_1 : inR v4_1 := by rw [e_v4_1]; exact (bShl_in _ _)
  refine g_istore hC [(4, J v4_1), (0, .ref (B + n)), (1, J v1), (2, J v2), (3, J v3)] dX5_leads_3 (by decide) rfl ?_
  refine g_iconst hC dX5_leads_5 ?_
  refine g_istore hC [(5, J 0), (4, J v4_1), (0, .ref (B + n)), (1, J v1), (2, J v2), (3, J v3)] dX5_leads_6 (by decide) rfl ?_
  refine jn_elim (fun (k : Int → Prop) => ∀ (v4_2 : Int), k v4_2 → (inR v4_2) → G p l e (rmF 0 0) s m args below meth c B D K 8 0 0 (ZZ below args s B D K (fun r M1 => M = M1 ∧ Q r)) M 91 [(2, J v2), (4, J v4_2)] []) hf ?_ ?_
  · intro v4_2 hf h_v4_2
    refine g_iload hC 1 dX5_leads_91 rfl ?_
    refine g_iload_n hC 0 dX5_leads_93 rfl rfl ?_
    refine g_ishr hC dX5_leads_94 ?_
    refine g_iconst hC dX5_leads_95 ?_
    refine g_iand hC dX5_leads_96 ?_
    refine g_iconst hC dX5_leads_97 ?_
    refine g_icmp_ne hC 105 (bAnd_in _ _) (by unfold inR; omega) dX5_leads_98 rfl (fun c_3 => ?_) (fun c_3 => ?_)
    · replace hf := hf.1 c_3
      refine g_iconst hC dX5_leads_105 ?_
      exact g_retz hC (Or.inl rfl) hM ⟨rfl, hf⟩ dX5_leads_106
    · replace hf := hf.2 c_3
      refine g_iconst hC dX5_leads_101 ?_
      refine g_goto hC 106 dX5_leads_102 rfl ?_
      exact g_retz hC (Or.inr rfl) hM ⟨rfl, hf⟩ dX5_leads_106
  · intro J91 hJ91 hf
    refine g_sub [(0, .ref (B + n)), (2, J v2), (3, J v3), (4, J v4_1), (5, J 0)] [2, 4, 5, 1, 0] rfl ?_
    refine wl2_elim (fun (v4_4 : Int) (v5_5 : Int) => inR v4_4 → inR v5_5 → G p l e (rmF 0 0) s m args below meth c B D K 8 0 0 (ZZ below args s B D K (fun r M1 => M = M1 ∧ Q r)) M 8 [(0, .ref (B + n)), (2, J v2), (3, J v3), (4, J v4_4), (5, J v5_5)] []) ?_ 5000 v4_1 0 hf h_v4_1 (by unfold inR; omega)
    intro rec8 ih8 v4_4 v5_5 hf h_v4_4 h_v5_5
    unfold X5_leads_b8 at hf
    refine g_iload hC 4 dX5_leads_8 rfl ?_
    refine g_aload_n hC 0 dX5_leads_10 rfl rfl ?_
    refine g_geti hC okX5 (sh_X5 h_n) 0 (by decide) rfl wf_X5_27 dX5_leads_11 ?_
    refine g_icmp_ge hC 91 h_v5_5 (hM _ _) dX5_leads_14 rfl (fun c_23 => ?_) (fun c_23 => ?_)
    · replace hf := hf.1 c_23
      refine g_sub [(2, J v2), (4, J v4_4)] [1, 3] rfl ?_
      exact hJ91 v4_4 hf h_v4_4
    · replace hf := hf.2 c_23
      refine g_iload hC 3 dX5_leads_17 rfl ?_
      refine g_istore hC [(6, J v4_4), (0, .ref (B + n)), (2, J v2), (3, J v3), (4, J v4_4), (5, J v5_5)] dX5_leads_19 (by decide) rfl ?_
      refine g_iconst hC dX5_leads_21 ?_
      refine g_istore hC [(7, J 0), (6, J v4_4), (0, .ref (B + n)), (2, J v2), (3, J v3), (4, J v4_4), (5, J v5_5)] dX5_leads_22 (by decide) rfl ?_
      refine jn_elim (fun (k : Int → Prop) => ∀ (v4_6 : Int), k v4_6 → (inR v4_6) → G p l e (rmF 0 0) s m args below meth c B D K 8 0 0 (ZZ below args s B D K (fun r M1 => M = M1 ∧ Q r)) M 75 [(0, .ref (B + n)), (2, J v2), (3, J v3), (4, J v4_6), (5, J v5_5), (6, J v4_4)] []) hf ?_ ?_
      · intro v4_6 hf h_v4_6
        refine g_iload hC 3 dX5_leads_75 rfl ?_
        refine g_iload hC 5 dX5_leads_77 rfl ?_
        refine g_icmp_ne hC 85 h_v4_6 h_v4_4 dX5_leads_79 rfl (fun c_9 => ?_) (fun c_9 => ?_)
        · replace hf := hf.1 c_9
          obtain ⟨q_8, hf⟩ := hf
          obtain ⟨v5_7, e_v5_7⟩ : ∃ z : Int, z = v5_5 + 1 := ⟨_, rfl⟩
          replace hf := hf v5_7 e_v5_7
          have h_v5_7 : inR v5_7 := by rw [e_v5_7]; exact q_8
          refine g_iincv hC 4 e_v5_7 [(5, J v5_7), (0, .ref (B + n)), (2, J v2), (3, J v3), (4, J v4_6), (6, J v4_4)] dX5_leads_85 rfl (by decide) rfl ?_
          refine g_goto hC 8 dX5_leads_88 rfl ?_
          refine g_sub [(0, .ref (B + n)), (2, J v2), (3, J v3), (4, J v4_6), (5, J v5_7)] [1, 2, 3, 4, 0] rfl ?_
          exact ih8 v4_6 v5_7 hf h_v4_6 h_v5_7
        · replace hf := hf.2 c_9
          refine g_goto hC 91 dX5_leads_82 rfl ?_
          refine g_sub [(2, J v2), (4, J v4_6)] [1, 3] rfl ?_
          exact hJ91 v4_6 hf h_v4_6
      · intro J75 hJ75 hf
        refine g_sub [(0, .ref (B + n)), (2, J v2), (3, J v3), (4, J v4_4), (5, J v5_5), (6, J v4_4), (7, J 0)] [2, 3, 4, 5, 6, 1, 0] rfl ?_
        refine wl2_elim (fun (v4_10 : Int) (v7_11 : Int) => inR v4_10 → inR v7_11 → G p l e (rmF 0 0) s m args below meth c B D K 8 0 0 (ZZ below args s B D K (fun r M1 => M = M1 ∧ Q r)) M 24 [(0, .ref (B + n)), (2, J v2), (3, J v3), (4, J v4_10), (5, J v5_5), (6, J v4_4), (7, J v7_11)] []) ?_ 5000 v4_4 0 hf h_v4_4 (by unfold inR; omega)
        intro rec24 ih24 v4_10 v7_11 hf h_v4_10 h_v7_11
        unfold X5_leads_b24 at hf
        refine g_iload hC 6 dX5_leads_24 rfl ?_
        refine g_aload_n hC 0 dX5_leads_26 rfl rfl ?_
        refine g_geti hC okX5 (sh_X5 h_n) 1 (by decide) rfl wf_X5_31 dX5_leads_27 ?_
        refine g_icmp_ge hC 75 h_v7_11 (hM _ _) dX5_leads_30 rfl (fun c_22 => ?_) (fun c_22 => ?_)
        · replace hf := hf.1 c_22
          refine g_sub [(0, .ref (B + n)), (2, J v2), (3, J v3), (4, J v4_10), (5, J v5_5), (6, J v4_4)] [0, 1, 2, 3, 4, 5] rfl ?_
          exact hJ75 v4_10 hf h_v4_10
        · replace hf := hf.2 c_22
          refine g_iload hC 6 dX5_leads_33 rfl ?_
          refine g_iload_n hC 2 dX5_leads_35 rfl rfl ?_
          refine g_icmp_eq hC 69 h_v7_11 i_v3 dX5_leads_36 rfl (fun c_21 => ?_) (fun c_21 => ?_)
          · replace hf := hf.1 c_21
            obtain ⟨q_13, hf⟩ := hf
            obtain ⟨v7_12, e_v7_12⟩ : ∃ z : Int, z = v7_11 + 1 := ⟨_, rfl⟩
            replace hf := hf v7_12 e_v7_12
            have h_v7_12 : inR v7_12 := by rw [e_v7_12]; exact q_13
            refine g_iincv hC 6 e_v7_12 [(7, J v7_12), (0, .ref (B + n)), (2, J v2), (3, J v3), (4, J v4_10), (5, J v5_5), (6, J v4_4)] dX5_leads_69 rfl (by decide) rfl ?_
            refine g_goto hC 24 dX5_leads_72 rfl ?_
            refine g_sub [(0, .ref (B + n)), (2, J v2), (3, J v3), (4, J v4_10), (5, J v5_5), (6, J v4_4), (7, J v7_12)] [1, 2, 3, 4, 5, 6, 0] rfl ?_
            exact ih24 v4_10 v7_12 hf h_v4_10 h_v7_12
          · replace hf := hf.2 c_21
            refine g_iload hC 3 dX5_leads_39 rfl ?_
            refine g_aload_n hC 0 dX5_leads_41 rfl rfl ?_
            refine g_getr hC okX5 (sh_X5 h_n) 2 (by decide) rfl wf_X5_9 dX5_leads_42 ?_
            refine g_iload hC 6 dX5_leads_45 rfl ?_
            obtain ⟨q_14, hf⟩ := hf
            refine g_ialdk (v7_11.toNat) hC (sh_X5_2 h_n) q_14.1 q_14.2 rfl dX5_leads_47 ?_
            refine g_ishr hC dX5_leads_48 ?_
            refine g_iconst hC dX5_leads_49 ?_
            refine g_iand hC dX5_leads_50 ?_
            refine g_iconst hC dX5_leads_51 ?_
            refine g_icmp_ne hC 69 (bAnd_in _ _) (by unfold inR; omega) dX5_leads_52 rfl (fun c_20 => ?_) (fun c_20 => ?_)
            · replace hf := hf.1 c_20
              obtain ⟨q_16, hf⟩ := hf
              obtain ⟨v7_15, e_v7_15⟩ : ∃ z : Int, z = v7_11 + 1 := ⟨_, rfl⟩
              replace hf := hf v7_15 e_v7_15
              have h_v7_15 : inR v7_15 := by rw [e_v7_15]; exact q_16
              refine g_iincv hC 6 e_v7_15 [(7, J v7_15), (0, .ref (B + n)), (2, J v2), (3, J v3), (4, J v4_10), (5, J v5_5), (6, J v4_4)] dX5_leads_69 rfl (by decide) rfl ?_
              refine g_goto hC 24 dX5_leads_72 rfl ?_
              refine g_sub [(0, .ref (B + n)), (2, J v2), (3, J v3), (4, J v4_10), (5, J v5_5), (6, J v4_4), (7, J v7_15)] [1, 2, 3, 4, 5, 6, 0] rfl ?_
              exact ih24 v4_10 v7_15 hf h_v4_10 h_v7_15
            · replace hf := hf.2 c_20
              refine g_iload hC 3 dX5_leads_55 rfl ?_
              refine g_iconst hC dX5_leads_57 ?_
              refine g_aload_n hC 0 dX5_leads_58 rfl rfl ?_
              refine g_getr hC okX5 (sh_X5 h_n) 3 (by decide) rfl wf_X5_15 dX5_leads_59 ?_
              refine g_iload hC 6 dX5_leads_62 rfl ?_
              refine g_ialdk (v7_11.toNat) hC (sh_X5_3 h_n) q_14.1 q_14.2 rfl dX5_leads_64 ?_
              refine g_ishl hC dX5_leads_65 ?_
              refine g_ior hC dX5_leads_66 ?_
              refine g_nm (fun v4_17 e_v4_17 => ?_)
              replace hf := hf v4_17 e_v4_17
              have h_v4_17 : inR v4_17 := by rw [e_v4_17]; exact (bOr_in _ _)
              refine g_istore hC [(4, J v4_17), (0, .ref (B + n)), (2, J v2), (3, J v3), (5, J v5_5), (6, J v4_4), (7, J v7_11)] dX5_leads_67 (by decide) rfl ?_
              obtain ⟨q_19, hf⟩ := hf
              obtain ⟨v7_18, e_v7_18⟩ : ∃ z : Int, z = v7_11 + 1 := ⟨_, rfl⟩
              replace hf := hf v7_18 e_v7_18
              have h_v7_18 : inR v7_18 := by rw [e_v7_18]; exact q_19
              refine g_iincv hC 6 e_v7_18 [(7, J v7_18), (4, J v4_17), (0, .ref (B + n)), (2, J v2), (3, J v3), (5, J v5_5), (6, J v4_4)] dX5_leads_69 rfl (by decide) rfl ?_
              refine g_goto hC 24 dX5_leads_72 rfl ?_
              refine g_sub [(0, .ref (B + n)), (2, J v2), (3, J v3), (4, J v4_17), (5, J v5_5), (6, J v4_4), (7, J v7_18)] [2, 3, 4, 1, 5, 6, 0] rfl ?_
              exact ih24 v4_17 v7_18 hf h_v4_17 h_v7_18
