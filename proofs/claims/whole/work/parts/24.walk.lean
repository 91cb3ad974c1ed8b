set_option maxHeartbeats 4000000 in
set_option maxRecDepth 100000 in
theorem c_X12_fault (l : Launch) (B : Nat) (D : va_G) (K : Nat → ClassId) (v1 : Int) (i_v1 : inR v1) (M : Mem) (hM : MR M) (Q : Int → Prop) (hf : f_X12_fault v1 M Q) : CtI l yX12_fault cX12_fault 2 0 0 B D K [.ref (B + 95), J v1] M (fun r M1 => M = M1 ∧ Q r) := by
  refine ct_i (by decide) (Nat.le_of_ble_eq_true rfl) ?_
  intro p e s m args below meth c hC
  have hC : Cx p s m args meth c D K cX12_fault 2 RX12 (some .int) := hC
  unfold f_X12_fault at hf
  refine (show G p l e (rmF 0 0) s m args below meth c B D K 2 0 0 (ZI below args s B D K (fun r M1 => M = M1 ∧ Q r)) M 0 [(0, .ref (B + 95)), (1, J v1)] [] from ?_)
  refine g_iload_n hC 1 dX12_fault_0 rfl rfl ?_
  refine g_if_ne hC 11 i_v1 dX12_fault_1 rfl (fun c_2 => ?_) (fun c_2 => ?_)
  · replace hf := hf.1 c_2
    refine g_iload_n hC 1 dX12_fault_11 rfl rfl ?_
    refine g_iconst hC dX12_fault_12 ?_
    refine g_icmp_ne hC 23 i_v1 (by unfold inR; omega) dX12_fault_13 rfl (fun c_1 => ?_) (fun c_1 => ?_)
    · replace hf := hf.1 c_1
      refine g_iconst hC dX12_fault_23 ?_
      exact g_reti hC (by unfold inR; omega) hM ⟨rfl, hf⟩ dX12_fault_24
    · replace hf := hf.2 c_1
      refine g_aload_n hC 0 dX12_fault_16 rfl rfl ?_
      refine g_geti hC okX12 sc95 8 (by decide) rfl wf_X12_13 dX12_fault_17 ?_
      refine g_goto hC 24 dX12_fault_20 rfl ?_
      exact g_reti hC (hM _ _) hM ⟨rfl, hf⟩ dX12_fault_24
  · replace hf := hf.2 c_2
    refine g_aload_n hC 0 dX12_fault_4 rfl rfl ?_
    refine g_geti hC okX12 sc95 7 (by decide) rfl wf_X12_131 dX12_fault_5 ?_
    refine g_goto hC 24 dX12_fault_8 rfl ?_
    exact g_reti hC (hM _ _) hM ⟨rfl, hf⟩ dX12_fault_24
set_option maxHeartbeats 4000000 in
set_option maxRecDepth 100000 in
theorem c_X12_fail (l : Launch) (B : Nat) (D : va_G) (K : Nat → ClassId) (v1 : Int) (v2 : Int) (i_v1 : inR v1) (i_v2 : inR v2) (M : Mem) (hM : MR M) (Q : Mem → Prop) (hf : f_X12_fail v1 v2 M Q) : CtV l yX12_fail cX12_fail 3 0 0 B D K [.ref (B + 95), J v1, J v2] M Q := by
  refine ct_v (by decide) (Nat.le_of_ble_eq_true rfl) ?_
  intro p e s m args below meth c hC
  have hC : Cx p s m args meth c D K cX12_fail 3 RX12 none := hC
  unfold f_X12_fail at hf
  refine (show G p l e (rmF 0 0) s m args below meth c B D K 3 0 0 (ZV below args s B D K Q) M 0 [(0, .ref (B + 95)), (1, J v1), (2, J v2)] [] from ?_)
  refine g_aload_n hC 0 dX12_fail_0 rfl rfl ?_
  refine g_geti hC okX12 sc95 5 (by decide) rfl wf_X12_134 dX12_fail_1 ?_
  refine g_if_eq hC 8 (hM _ _) dX12_fail_4 rfl (fun c_3 => ?_) (fun c_3 => ?_)
  · replace hf := hf.1 c_3
    refine g_aload_n hC 0 dX12_fail_8 rfl rfl ?_
    refine g_iload_n hC 1 dX12_fail_9 rfl rfl ?_
    refine g_puti hC okX12 tnX12 sc95 5 (by decide) rfl rfl (by decide) wf_X12_134 dX12_fail_10 ?_
    refine g_nmM (fun M_1 e_M_1 => ?_)
    replace hf := hf M_1 e_M_1
    have h_M_1 : MR M_1 := by rw [e_M_1]; exact MR_st hM i_v1
    refine g_aload_n hC 0 dX12_fail_13 rfl rfl ?_
    refine g_iload_n hC 2 dX12_fail_14 rfl rfl ?_
    refine g_puti hC okX12 tnX12 sc95 6 (by decide) rfl rfl (by decide) wf_X12_137 dX12_fail_15 ?_
    refine g_nmM (fun M_2 e_M_2 => ?_)
    replace hf := hf M_2 e_M_2
    have h_M_2 : MR M_2 := by rw [e_M_2]; exact MR_st h_M_1 i_v2
    exact g_retv hC h_M_2 hf dX12_fail_18
  · replace hf := hf.2 c_3
    exact g_retv hC hM hf dX12_fail_7
set_option maxHeartbeats 4000000 in
set_option maxRecDepth 100000 in
theorem c_X12_isLetter (l : Launch) (B : Nat) (D : va_G) (K : Nat → ClassId) (v0 : Int) (i_v0 : inR v0) (M : Mem) (hM : MR M) (Q : Int → Prop) (hf : f_X12_isLetter v0 M Q) : CtZ l yX12_isLetter cX12_isLetter 1 0 0 B D K [J v0] M (fun r M1 => M = M1 ∧ Q r) := by
  refine ct_z (by decide) (Nat.le_of_ble_eq_true rfl) ?_
  intro p e s m args below meth c hC
  have hC : Cx p s m args meth c D K cX12_isLetter 1 RX12 (some .boolean) := hC
  unfold f_X12_isLetter at hf
  refine (show G p l e (rmF 0 0) s m args below meth c B D K 1 0 0 (ZZ below args s B D K (fun r M1 => M = M1 ∧ Q r)) M 0 [(0, J v0)] [] from ?_)
  refine g_iload_n hC 0 dX12_isLetter_0 rfl rfl ?_
  refine g_bipush hC dX12_isLetter_1 (by decide) ?_
  refine g_icmp_lt hC 16 i_v0 (by unfold inR; omega) dX12_isLetter_3 rfl (fun c_2 => ?_) (fun c_2 => ?_)
  · replace hf := hf.1 c_2
    refine g_iconst hC dX12_isLetter_16 ?_
    exact g_retz hC (Or.inl rfl) hM ⟨rfl, hf⟩ dX12_isLetter_17
  · replace hf := hf.2 c_2
    refine g_iload_n hC 0 dX12_isLetter_6 rfl rfl ?_
    refine g_bipush hC dX12_isLetter_7 (by decide) ?_
    refine g_icmp_gt hC 16 i_v0 (by unfold inR; omega) dX12_isLetter_9 rfl (fun c_1 => ?_) (fun c_1 => ?_)
    · replace hf := hf.1 c_1
      refine g_iconst hC dX12_isLetter_16 ?_
      exact g_retz hC (Or.inl rfl) hM ⟨rfl, hf⟩ dX12_isLetter_17
    · replace hf := hf.2 c_1
      refine g_iconst hC dX12_isLetter_12 ?_
      refine g_goto hC 17 dX12_isLetter_13 rfl ?_
      exact g_retz hC (Or.inr rfl) hM ⟨rfl, hf⟩ dX12_isLetter_17
set_option maxHeartbeats 4000000 in
set_option maxRecDepth 100000 in
theorem c_X12_isDigit (l : Launch) (B : Nat) (D : va_G) (K : Nat → ClassId) (v0 : Int) (i_v0 : inR v0) (M : Mem) (hM : MR M) (Q : Int → Prop) (hf : f_X12_isDigit v0 M Q) : CtZ l yX12_isDigit cX12_isDigit 1 0 0 B D K [J v0] M (fun r M1 => M = M1 ∧ Q r) := by
  refine ct_z (by decide) (Nat.le_of_ble_eq_true rfl) ?_
  intro p e s m args below meth c hC
  have hC : Cx p s m args meth c D K cX12_isDigit 1 RX12 (some .boolean) := hC
  unfold f_X12_isDigit at hf
  refine (show G p l e (rmF 0 0) s m args below meth c B D K 1 0 0 (ZZ below args s B D K (fun r M1 => M = M1 ∧ Q r)) M 0 [(0, J v0)] [] from ?_)
  refine g_iload_n hC 0 dX12_isDigit_0 rfl rfl ?_
  refine g_bipush hC dX12_isDigit_1 (by decide) ?_
  refine g_icmp_lt hC 16 i_v0 (by unfold inR; omega) dX12_isDigit_3 rfl (fun c_2 => ?_) (fun c_2 => ?_)
  · replace hf := hf.1 c_2
    refine g_iconst hC dX12_isDigit_16 ?_
    exact g_retz hC (Or.inl rfl) hM ⟨rfl, hf⟩ dX12_isDigit_17
  · replace hf := hf.2 c_2
    refine g_iload_n hC 0 dX12_isDigit_6 rfl rfl ?_
    refine g_bipush hC dX12_isDigit_7 (by decide) ?_
    refine g_icmp_gt hC 16 i_v0 (by unfold inR; omega) dX12_isDigit_9 rfl (fun c_1 => ?_) (fun c_1 => ?_)
    · replace hf := hf.1 c_1
      refine g_iconst hC dX12_isDigit_16 ?_
      exact g_retz hC (Or.inl rfl) hM ⟨rfl, hf⟩ dX12_isDigit_17
    · replace hf := hf.2 c_1
      refine g_iconst hC dX12_isDigit_12 ?_
      refine g_goto hC 17 dX12_isDigit_13 rfl ?_
      exact g_retz hC (Or.inr rfl) hM ⟨rfl, hf⟩ dX12_isDigit_17
set_option maxHeartbeats 4000000 in
set_option maxRecDepth 100000 in
theorem c_X12_look (l : Launch) (B : Nat) (D : va_G) (K : Nat → ClassId)   (M : Mem) (hM : MR M) (Q : Int → Mem → Prop) (hf : f_X12_look  M Q) : CtI l yX12_look cX12_look 1 0 0 B D K [.ref (B + 95)] M Q := by
  refine ct_i (by decide) (Nat.le_of_ble_eq_true rfl) ?_
  intro p e s m args below meth c hC
  have hC : Cx p s m args meth c D K cX12_look 1 RX12 (some .int) := hC
  unfold f_X12_look at hf
  refine (show G p l e (rmF 0 0) s m args below meth c B D K 1 0 0 (ZI below args s B D K Q) M 0 [(0, .ref (B + 95))] [] from ?_)
  refine jn_elim (fun (k : Mem → Prop) => ∀ (M_1 : Mem), k M_1 → (MR M_1) → G p l e (rmF 0 0) s m args below meth c B D K 1 0 0 (ZI below args s B D K Q) M_1 52 [(0, .ref (B + 95))] []) hf ?_ ?_
  · intro M_1 hf h_M_1
    refine g_aload_n hC 0 dX12_look_52 rfl rfl ?_
    refine g_geti hC okX12 sc95 2 (by decide) rfl wf_X12_140 dX12_look_53 ?_
    refine g_aload_n hC 0 dX12_look_56 rfl rfl ?_
    refine g_geti hC okX12 sc95 3 (by decide) rfl wf_X12_143 dX12_look_57 ?_
    refine g_icmp_ge hC 75 (h_M_1 _ _) (h_M_1 _ _) dX12_look_60 rfl (fun c_3 => ?_) (fun c_3 => ?_)
    · replace hf := hf.1 c_3
      refine g_iconst hC dX12_look_75 ?_
      exact g_reti hC (by unfold inR; omega) h_M_1 hf dX12_look_76
    · replace hf := hf.2 c_3
      refine g_aload_n hC 0 dX12_look_63 rfl rfl ?_
      refine g_getr hC okX12 sc95 0 (by decide) rfl wf_X12_7 dX12_look_64 ?_
      refine g_aload_n hC 0 dX12_look_67 rfl rfl ?_
      refine g_geti hC okX12 sc95 2 (by decide) rfl wf_X12_140 dX12_look_68 ?_
      obtain ⟨q_2, hf⟩ := hf
      refine g_ialdk ((M_1 95 2).toNat) hC sc96 q_2.1 q_2.2 rfl dX12_look_71 ?_
      refine g_goto hC 76 dX12_look_72 rfl ?_
      exact g_reti hC (h_M_1 _ _) h_M_1 hf dX12_look_76
  · intro J52 hJ52 hf
    refine g_sub [(0, .ref (B + 95))] [0] rfl ?_
    refine wl1_elim (fun (M_4 : Mem) => MR M_4 → G p l e (rmF 0 0) s m args below meth c B D K 1 0 0 (ZI below args s B D K Q) M_4 0 [(0, .ref (B + 95))] []) ?_ 5000 M hf hM
    intro rec0 ih0 M_4 hf h_M_4
    unfold X12_look_b0 at hf
    refine g_aload_n hC 0 dX12_look_0 rfl rfl ?_
    refine g_geti hC okX12 sc95 2 (by decide) rfl wf_X12_140 dX12_look_1 ?_
    refine g_aload_n hC 0 dX12_look_4 rfl rfl ?_
    refine g_geti hC okX12 sc95 3 (by decide) rfl wf_X12_143 dX12_look_5 ?_
    refine g_icmp_ge hC 52 (h_M_4 _ _) (h_M_4 _ _) dX12_look_8 rfl (fun c_12 => ?_) (fun c_12 => ?_)
    · replace hf := hf.1 c_12
      refine g_sub [(0, .ref (B + 95))] [0] rfl ?_
      exact hJ52 M_4 hf h_M_4
    · replace hf := hf.2 c_12
      refine g_aload_n hC 0 dX12_look_11 rfl rfl ?_
      refine g_getr hC okX12 sc95 0 (by decide) rfl wf_X12_7 dX12_look_12 ?_
      refine g_aload_n hC 0 dX12_look_15 rfl rfl ?_
      refine g_geti hC okX12 sc95 2 (by decide) rfl wf_X12_140 dX12_look_16 ?_
      obtain ⟨q_5, hf⟩ := hf
      refine g_ialdk ((M_4 95 2).toNat) hC sc96 q_5.1 q_5.2 rfl dX12_look_19 ?_
      refine g_bipush hC dX12_look_20 (by decide) ?_
      refine g_icmp_eq hC 39 (h_M_4 _ _) (by unfold inR; omega) dX12_look_22 rfl (fun c_11 => ?_) (fun c_11 => ?_)
      · replace hf := hf.1 c_11
        refine g_aload_n hC 0 dX12_look_39 rfl rfl ?_
        refine g_dup hC dX12_look_40 rfl ?_
        refine g_geti hC okX12 sc95 2 (by decide) rfl wf_X12_140 dX12_look_41 ?_
        refine g_iconst hC dX12_look_44 ?_
        refine g_iadd hC dX12_look_45 ?_
        obtain ⟨q_6, hf⟩ := hf
        refine g_puti hC okX12 tnX12 sc95 2 (by decide) rfl rfl (by decide) wf_X12_140 dX12_look_46 ?_
        refine g_nmM (fun M_7 e_M_7 => ?_)
        replace hf := hf M_7 e_M_7
        have h_M_7 : MR M_7 := by rw [e_M_7]; exact MR_st h_M_4 q_6
        refine g_goto hC 0 dX12_look_49 rfl ?_
        refine g_sub [(0, .ref (B + 95))] [0] rfl ?_
        exact ih0 M_7 hf h_M_7
      · replace hf := hf.2 c_11
        refine g_aload_n hC 0 dX12_look_25 rfl rfl ?_
        refine g_getr hC okX12 sc95 0 (by decide) rfl wf_X12_7 dX12_look_26 ?_
        refine g_aload_n hC 0 dX12_look_29 rfl rfl ?_
        refine g_geti hC okX12 sc95 2 (by decide) rfl wf_X12_140 dX12_look_30 ?_
        refine g_ialdk ((M_4 95 2).toNat) hC sc96 q_5.1 q_5.2 rfl dX12_look_33 ?_
        refine g_bipush hC dX12_look_34 (by decide) ?_
        refine g_icmp_ne hC 52 (h_M_4 _ _) (by unfold inR; omega) dX12_look_36 rfl (fun c_10 => ?_) (fun c_10 => ?_)
        · replace hf := hf.1 c_10
          refine g_sub [(0, .ref (B + 95))] [0] rfl ?_
          exact hJ52 M_4 hf h_M_4
        · replace hf := hf.2 c_10
          refine g_aload_n hC 0 dX12_look_39 rfl rfl ?_
          refine g_dup hC dX12_look_40 rfl ?_
          refine g_geti hC okX12 sc95 2 (by decide) rfl wf_X12_140 dX12_look_41 ?_
          refine g_iconst hC dX12_look_44 ?_
          refine g_iadd hC dX12_look_45 ?_
          obtain ⟨q_8, hf⟩ := hf
          refine g_puti hC okX12 tnX12 sc95 2 (by decide) rfl rfl (by decide) wf_X12_140 dX12_look_46 ?_
          refine g_nmM (fun M_9 e_M_9 => ?_)
          replace hf := hf M_9 e_M_9
          have h_M_9 : MR M_9 := by rw [e_M_9]; exact MR_st h_M_4 q_8
          refine g_goto hC 0 dX12_look_49 rfl ?_
          refine g_sub [(0, .ref (B + 95))] [0] rfl ?_
          exact ih0 M_9 hf h_M_9
set_option maxHeartbeats 4000000 in
set_option maxRecDepth 100000 in
theorem c_X12_isWordHere (l : Launch) (B : Nat) (D : va_G) (K : Nat → ClassId)   (M : Mem) (hM : MR M) (Q : Int → Mem → Prop) (hf : f_X12_isWordHere  M Q) : CtZ l yX12_isWordHere cX12_isWordHere 1 1 20 B D K [.ref (B + 95)] M Q := by
  refine ct_z (by decide) (Nat.le_of_ble_eq_true rfl) ?_
  intro p e s m args below meth c hC
  have hC : Cx p s m args meth c D K cX12_isWordHere 1 RX12 (some .boolean) := hC
  unfold f_X12_isWordHere at hf
  refine (show G p l e (rmF 1 20) s m args below meth c B D K 1 0 0 (ZZ below args s B D K Q) M 0 [(0, .ref (B + 95))] [] from ?_)
  refine g_aload_n hC 0 dX12_isWordHere_0 rfl rfl ?_
  refine g_geti hC okX12 sc95 5 (by decide) rfl wf_X12_134 dX12_isWordHere_1 ?_
  refine g_if_ne hC 32 (hM _ _) dX12_isWordHere_4 rfl (fun c_7 => ?_) (fun c_7 => ?_)
  · replace hf := hf.1 c_7
    refine g_iconst hC dX12_isWordHere_32 ?_
    exact g_retz hC (Or.inl rfl) hM hf dX12_isWordHere_33
  · replace hf := hf.2 c_7
    refine g_aload_n hC 0 dX12_isWordHere_7 rfl rfl ?_
    refine g_callVI hC (sk := []) [] (c_X12_look l B D K   M hM _ hf) yv_X12_look wm_X12_146 okX12.1 sc95 rfl ⟨Nat.le_of_ble_eq_true rfl, Nat.le_of_ble_eq_true rfl, Nat.le_of_ble_eq_true rfl, Nat.le_of_ble_eq_true rfl⟩ rfl (Nat.le_of_ble_eq_true rfl) dX12_isWordHere_8 ?_
    intro r_1 M_2 h_r_1 h_M_2 hf
    refine g_callSZ hC (sk := []) [J r_1] (c_X12_isLetter l B D K r_1 h_r_1 M_2 h_M_2 _ hf) yv_X12_isLetter wm_X12_150 rfl ⟨Nat.le_of_ble_eq_true rfl, Nat.le_of_ble_eq_true rfl, Nat.le_of_ble_eq_true rfl, Nat.le_of_ble_eq_true rfl⟩ rfl (Nat.le_of_ble_eq_true rfl) dX12_isWordHere_11 ?_
    rintro r_3 M_4 h_r_3 - ⟨rfl, hf⟩
    refine g_if_eq hC 32 (zi_ h_r_3) dX12_isWordHere_14 rfl (fun c_6 => ?_) (fun c_6 => ?_)
    · replace hf := hf.1 c_6
      refine g_iconst hC dX12_isWordHere_32 ?_
      exact g_retz hC (Or.inl rfl) h_M_2 hf dX12_isWordHere_33
    · replace hf := hf.2 c_6
      refine g_aload_n hC 0 dX12_isWordHere_17 rfl rfl ?_
      refine g_geti hC okX12 sc95 2 (by decide) rfl wf_X12_140 dX12_isWordHere_18 ?_
      refine g_aload_n hC 0 dX12_isWordHere_21 rfl rfl ?_
      refine g_geti hC okX12 sc95 4 (by decide) rfl wf_X12_153 dX12_isWordHere_22 ?_
      refine g_icmp_eq hC 32 (h_M_2 _ _) (h_M_2 _ _) dX12_isWordHere_25 rfl (fun c_5 => ?_) (fun c_5 => ?_)
      · replace hf := hf.1 c_5
        refine g_iconst hC dX12_isWordHere_32 ?_
        exact g_retz hC (Or.inl rfl) h_M_2 hf dX12_isWordHere_33
      · replace hf := hf.2 c_5
        refine g_iconst hC dX12_isWordHere_28 ?_
        refine g_goto hC 33 dX12_isWordHere_29 rfl ?_
        exact g_retz hC (Or.inr rfl) h_M_2 hf dX12_isWordHere_33
set_option maxHeartbeats 4000000 in
set_option maxRecDepth 100000 in
theorem c_X12_takesSign (l : Launch) (B : Nat) (D : va_G) (K : Nat → ClassId) (v1 : Int) (i_v1 : inR v1) (M : Mem) (hM : MR M) (Q : Int → Mem → Prop) (hf : f_X12_takesSign v1 M Q) : CtZ l yX12_takesSign cX12_takesSign 2 1 20 B D K [.ref (B + 95), J v1] M Q := by
  refine ct_z (by decide) (Nat.le_of_ble_eq_true rfl) ?_
  intro p e s m args below meth c hC
  have hC : Cx p s m args meth c D K cX12_takesSign 2 RX12 (some .boolean) := hC
  unfold f_X12_takesSign at hf
  refine (show G p l e (rmF 1 20) s m args below meth c B D K 2 0 0 (ZZ below args s B D K Q) M 0 [(0, .ref (B + 95)), (1, J v1)] [] from ?_)
  refine g_aload_n hC 0 dX12_takesSign_0 rfl rfl ?_
  refine g_geti hC okX12 sc95 5 (by decide) rfl wf_X12_134 dX12_takesSign_1 ?_
  refine g_if_ne hC 15 (hM _ _) dX12_takesSign_4 rfl (fun c_6 => ?_) (fun c_6 => ?_)
  · replace hf := hf.1 c_6
    refine g_iconst hC dX12_takesSign_15 ?_
    exact g_retz hC (Or.inl rfl) hM hf dX12_takesSign_16
  · replace hf := hf.2 c_6
    refine g_aload_n hC 0 dX12_takesSign_7 rfl rfl ?_
    refine g_callVI hC (sk := []) [] (c_X12_look l B D K   M hM _ hf) yv_X12_look wm_X12_146 okX12.1 sc95 rfl ⟨Nat.le_of_ble_eq_true rfl, Nat.le_of_ble_eq_true rfl, Nat.le_of_ble_eq_true rfl, Nat.le_of_ble_eq_true rfl⟩ rfl (Nat.le_of_ble_eq_true rfl) dX12_takesSign_8 ?_
    intro r_1 M_2 h_r_1 h_M_2 hf
    refine g_iload_n hC 1 dX12_takesSign_11 rfl rfl ?_
    refine g_icmp_eq hC 17 h_r_1 i_v1 dX12_takesSign_12 rfl (fun c_5 => ?_) (fun c_5 => ?_)
    · replace hf := hf.1 c_5
      refine g_aload_n hC 0 dX12_takesSign_17 rfl rfl ?_
      refine g_dup hC dX12_takesSign_18 rfl ?_
      refine g_geti hC okX12 sc95 2 (by decide) rfl wf_X12_140 dX12_takesSign_19 ?_
      refine g_iconst hC dX12_takesSign_22 ?_
      refine g_iadd hC dX12_takesSign_23 ?_
      obtain ⟨q_3, hf⟩ := hf
      refine g_puti hC okX12 tnX12 sc95 2 (by decide) rfl rfl (by decide) wf_X12_140 dX12_takesSign_24 ?_
      refine g_nmM (fun M_4 e_M_4 => ?_)
      replace hf := hf M_4 e_M_4
      have h_M_4 : MR M_4 := by rw [e_M_4]; exact MR_st h_M_2 q_3
      refine g_iconst hC dX12_takesSign_27 ?_
      exact g_retz hC (Or.inr rfl) h_M_4 hf dX12_takesSign_28
    · replace hf := hf.2 c_5
      refine g_iconst hC dX12_takesSign_15 ?_
      exact g_retz hC (Or.inl rfl) h_M_2 hf dX12_takesSign_16
set_option maxHeartbeats 4000000 in
set_option maxRecDepth 100000 in
theorem c_X12_asksSign (l : Launch) (B : Nat) (D : va_G) (K : Nat → ClassId) (v1 : Int) (i_v1 : inR v1) (M : Mem) (hM : MR M) (Q : Mem → Prop) (hf : f_X12_asksSign v1 M Q) : CtV l yX12_asksSign cX12_asksSign 2 2 41 B D K [.ref (B + 95), J v1] M Q := by
  refine ct_v (by decide) (Nat.le_of_ble_eq_true rfl) ?_
  intro p e s m args below meth c hC
  have hC : Cx p s m args meth c D K cX12_asksSign 2 RX12 none := hC
  unfold f_X12_asksSign at hf
  refine (show G p l e (rmF 2 41) s m args below meth c B D K 2 0 0 (ZV below args s B D K Q) M 0 [(0, .ref (B + 95)), (1, J v1)] [] from ?_)
  refine g_aload_n hC 0 dX12_asksSign_0 rfl rfl ?_
  refine g_geti hC okX12 sc95 5 (by decide) rfl wf_X12_134 dX12_asksSign_1 ?_
  refine g_if_ne hC 24 (hM _ _) dX12_asksSign_4 rfl (fun c_5 => ?_) (fun c_5 => ?_)
  · replace hf := hf.1 c_5
    exact g_retv hC hM hf dX12_asksSign_24
  · replace hf := hf.2 c_5
    refine g_aload_n hC 0 dX12_asksSign_7 rfl rfl ?_
    refine g_iload_n hC 1 dX12_asksSign_8 rfl rfl ?_
    refine g_callVZ hC (sk := []) [J v1] (c_X12_takesSign l B D K v1 i_v1 M hM _ hf) yv_X12_takesSign wm_X12_156 okX12.1 sc95 rfl ⟨Nat.le_of_ble_eq_true rfl, Nat.le_of_ble_eq_true rfl, Nat.le_of_ble_eq_true rfl, Nat.le_of_ble_eq_true rfl⟩ rfl (Nat.le_of_ble_eq_true rfl) dX12_asksSign_9 ?_
    intro r_1 M_2 h_r_1 h_M_2 hf
    refine g_if_ne hC 24 (zi_ h_r_1) dX12_asksSign_12 rfl (fun c_4 => ?_) (fun c_4 => ?_)
    · replace hf := hf.1 c_4
      exact g_retv hC h_M_2 hf dX12_asksSign_24
    · replace hf := hf.2 c_4
      refine g_aload_n hC 0 dX12_asksSign_15 rfl rfl ?_
      refine g_iconst hC dX12_asksSign_16 ?_
      refine g_aload_n hC 0 dX12_asksSign_17 rfl rfl ?_
      refine g_geti hC okX12 sc95 2 (by decide) rfl wf_X12_140 dX12_asksSign_18 ?_
      refine g_callVV hC (sk := []) [J 1, J (M_2 95 2)] (c_X12_fail l B D K 1 (M_2 95 2) (by unfold inR; omega) (h_M_2 _ _) M_2 h_M_2 _ hf) yv_X12_fail wm_X12_159 okX12.1 sc95 rfl ⟨Nat.le_of_ble_eq_true rfl, Nat.le_of_ble_eq_true rfl, Nat.le_of_ble_eq_true rfl, Nat.le_of_ble_eq_true rfl⟩ rfl (Nat.le_of_ble_eq_true rfl) dX12_asksSign_21 ?_
      intro M_3 h_M_3 hf
      exact g_retv hC h_M_3 hf dX12_asksSign_24
set_option maxHeartbeats 4000000 in
set_option maxRecDepth 100000 in
theorem c_X12_number (l : Launch) (B : Nat) (D : va_G) (K : Nat → ClassId) (v1 : Int) (v2 : Int) (i_v1 : inR v1) (i_v2 : inR v2) (M : Mem) (hM : MR M) (Q : Int → Mem → Prop) (hf : f_X12_number v1 v2 M Q) : CtI l yX12_number cX12_number 5 1 25 B D K [.ref (B + 95), J v1, J v2] M Q := by
  refine ct_i (by decide) (Nat.le_of_ble_eq_true rfl) ?_
  intro p e s m args below meth c hC
  have hC : Cx p s m args meth c D K cX12_number 5 RX12 (some .int) := hC
  unfold f_X12_number at hf
  refine (show G p l e (rmF 1 25) s m args below meth c B D K 5 0 0 (ZI below args s B D K Q) M 0 [(0, .ref (B + 95)), (1, J v1), (2, J v2)] [] from ?_)
  refine g_aload_n hC 0 dX12_number_0 rfl rfl ?_
  refine g_geti hC okX12 sc95 5 (by decide) rfl wf_X12_134 dX12_number_1 ?_
  refine g_if_eq hC 9 (hM _ _) dX12_number_4 rfl (fun c_32 => ?_) (fun c_32 => ?_)
  · replace hf := hf.1 c_32
    refine g_aload_n hC 0 dX12_number_9 rfl rfl ?_
    refine g_callVI hC (sk := []) [] (c_X12_look l B D K   M hM _ hf) yv_X12_look wm_X12_146 okX12.1 sc95 rfl ⟨Nat.le_of_ble_eq_true rfl, Nat.le_of_ble_eq_true rfl, Nat.le_of_ble_eq_true rfl, Nat.le_of_ble_eq_true rfl⟩ rfl (Nat.le_of_ble_eq_true rfl) dX12_number_10 ?_
    intro r_1 M_2 h_r_1 h_M_2 hf
    refine g_callSZ hC (sk := []) [J r_1] (c_X12_isDigit l B D K r_1 h_r_1 M_2 h_M_2 _ hf) yv_X12_isDigit wm_X12_163 rfl ⟨Nat.le_of_ble_eq_true rfl, Nat.le_of_ble_eq_true rfl, Nat.le_of_ble_eq_true rfl, Nat.le_of_ble_eq_true rfl⟩ rfl (Nat.le_of_ble_eq_true rfl) dX12_number_13 ?_
    rintro r_3 M_4 h_r_3 - ⟨rfl, hf⟩
    refine jn_elim (fun (k : Mem → Prop) => ∀ (M_5 : Mem), k M_5 → (MR M_5) → G p l e (rmF 1 25) s m args below meth c B D K 5 0 0 (ZI below args s B D K Q) M_5 30 [(0, .ref (B + 95)), (1, J v1)] []) hf ?_ ?_
    · intro M_5 hf h_M_5
      refine g_aload_n hC 0 dX12_number_30 rfl rfl ?_
      refine g_iconst hC dX12_number_31 ?_
      refine g_aload_n hC 0 dX12_number_32 rfl rfl ?_
      refine g_geti hC okX12 sc95 2 (by decide) rfl wf_X12_140 dX12_number_33 ?_
      refine g_callVV hC (sk := []) [J 1, J (M_5 95 2)] (c_X12_fail l B D K 1 (M_5 95 2) (by unfold inR; omega) (h_M_5 _ _) M_5 h_M_5 _ hf) yv_X12_fail wm_X12_159 okX12.1 sc95 rfl ⟨Nat.le_of_ble_eq_true rfl, Nat.le_of_ble_eq_true rfl, Nat.le_of_ble_eq_true rfl, Nat.le_of_ble_eq_true rfl⟩ rfl (Nat.le_of_ble_eq_true rfl) dX12_number_36 ?_
      intro M_6 h_M_6 hf
      refine g_iload_n hC 1 dX12_number_39 rfl rfl ?_
      exact g_reti hC i_v1 h_M_6 hf dX12_number_40
    · intro J30 hJ30 hf
      refine g_if_eq hC 30 (zi_ h_r_3) dX12_number_16 rfl (fun c_31 => ?_) (fun c_31 => ?_)
      · replace hf := hf.1 c_31
        refine g_sub [(0, .ref (B + 95)), (1, J v1)] [0, 1] rfl ?_
        exact hJ30 M_2 hf h_M_2
      · replace hf := hf.2 c_31
        refine g_aload_n hC 0 dX12_number_19 rfl rfl ?_
        refine g_geti hC okX12 sc95 2 (by decide) rfl wf_X12_140 dX12_number_20 ?_
        refine g_aload_n hC 0 dX12_number_23 rfl rfl ?_
        refine g_geti hC okX12 sc95 4 (by decide) rfl wf_X12_153 dX12_number_24 ?_
        refine g_icmp_ne hC 41 (h_M_2 _ _) (h_M_2 _ _) dX12_number_27 rfl (fun c_30 => ?_) (fun c_30 => ?_)
        · replace hf := hf.1 c_30
          refine g_aload_n hC 0 dX12_number_41 rfl rfl ?_
          refine g_geti hC okX12 sc95 2 (by decide) rfl wf_X12_140 dX12_number_42 ?_
          refine g_nm (fun v3_7 e_v3_7 => ?_)
          replace hf := hf v3_7 e_v3_7
          have h_v3_7 : inR v3_7 := by rw [e_v3_7]; exact (h_M_2 _ _)
          refine g_istore_n hC [(3, J v3_7), (0, .ref (B + 95)), (1, J v1), (2, J v2)] dX12_number_45 rfl (by decide) rfl ?_
          refine g_iconst hC dX12_number_46 ?_
          refine g_istore hC [(4, J 0), (3, J v3_7), (0, .ref (B + 95)), (1, J v1), (2, J v2)] dX12_number_47 (by decide) rfl ?_
          refine jn_elim (fun (k : Int → Mem → Prop) => ∀ (v4_8 : Int) (M_9 : Mem), k v4_8 M_9 → (inR v4_8) → (MR M_9) → G p l e (rmF 1 25) s m args below meth c B D K 5 0 0 (ZI below args s B D K Q) M_9 129 [(0, .ref (B + 95)), (1, J v1), (2, J v2), (3, J v3_7), (4, J v4_8)] []) hf ?_ ?_
          · intro v4_8 M_9 hf h_v4_8 h_M_9
            refine g_aload_n hC 0 dX12_number_129 rfl rfl ?_
            refine g_aload_n hC 0 dX12_number_130 rfl rfl ?_
            refine g_geti hC okX12 sc95 2 (by decide) rfl wf_X12_140 dX12_number_131 ?_
            refine g_puti hC okX12 tnX12 sc95 4 (by decide) rfl rfl (by decide) wf_X12_153 dX12_number_134 ?_
            refine g_nmM (fun M_10 e_M_10 => ?_)
            replace hf := hf M_10 e_M_10
            have h_M_10 : MR M_10 := by rw [e_M_10]; exact MR_st h_M_9 (h_M_9 _ _)
            refine g_iload hC 4 dX12_number_137 rfl ?_
            refine g_i2l hC h_v4_8 dX12_number_139 ?_
            refine g_iload_n hC 1 dX12_number_140 rfl rfl ?_
            refine g_i2l hC i_v1 dX12_number_141 ?_
            refine g_iload_n hC 2 dX12_number_142 rfl rfl ?_
            refine g_i2l hC i_v2 dX12_number_143 ?_
            refine g_callSZ hC (sk := []) [JL v4_8, JL v1, JL v2] (c_X12_isIn l B D K v4_8 v1 v2 (inL_of h_v4_8) (inL_of i_v1) (inL_of i_v2) M_10 h_M_10 _ hf) yv_X12_isIn wm_X12_127 rfl ⟨Nat.le_of_ble_eq_true rfl, Nat.le_of_ble_eq_true rfl, Nat.le_of_ble_eq_true rfl, Nat.le_of_ble_eq_true rfl⟩ rfl (Nat.le_of_ble_eq_true rfl) dX12_number_144 ?_
            rintro r_11 M_12 h_r_11 - ⟨rfl, hf⟩
            refine g_if_ne hC 156 (zi_ h_r_11) dX12_number_147 rfl (fun c_14 => ?_) (fun c_14 => ?_)
            · replace hf := hf.1 c_14
              refine g_iload hC 4 dX12_number_156 rfl ?_
              exact g_reti hC h_v4_8 h_M_10 hf dX12_number_158
            · replace hf := hf.2 c_14
              refine g_aload_n hC 0 dX12_number_150 rfl rfl ?_
              refine g_iconst hC dX12_number_151 ?_
              refine g_iload_n hC 3 dX12_number_152 rfl rfl ?_
              refine g_callVV hC (sk := []) [J 2, J v3_7] (c_X12_fail l B D K 2 v3_7 (by unfold inR; omega) h_v3_7 M_10 h_M_10 _ hf) yv_X12_fail wm_X12_159 okX12.1 sc95 rfl ⟨Nat.le_of_ble_eq_true rfl, Nat.le_of_ble_eq_true rfl, Nat.le_of_ble_eq_true rfl, Nat.le_of_ble_eq_true rfl⟩ rfl (Nat.le_of_ble_eq_true rfl) dX12_number_153 ?_
              intro M_13 h_M_13 hf
              refine g_iload hC 4 dX12_number_156 rfl ?_
              exact g_reti hC h_v4_8 h_M_13 hf dX12_number_158
          · intro J129 hJ129 hf
            refine jn_elim (fun (k : Mem → Prop) => ∀ (M_15 : Mem), k M_15 → (MR M_15) → G p l e (rmF 1 25) s m args below meth c B D K 5 0 0 (ZI below args s B D K Q) M_15 85 [(0, .ref (B + 95)), (1, J v1)] []) hf ?_ ?_
            · intro M_15 hf h_M_15
              refine g_aload_n hC 0 dX12_number_85 rfl rfl ?_
              refine g_iconst hC dX12_number_86 ?_
              refine g_aload_n hC 0 dX12_number_87 rfl rfl ?_
              refine g_geti hC okX12 sc95 2 (by decide) rfl wf_X12_140 dX12_number_88 ?_
              refine g_callVV hC (sk := []) [J 1, J (M_15 95 2)] (c_X12_fail l B D K 1 (M_15 95 2) (by unfold inR; omega) (h_M_15 _ _) M_15 h_M_15 _ hf) yv_X12_fail wm_X12_159 okX12.1 sc95 rfl ⟨Nat.le_of_ble_eq_true rfl, Nat.le_of_ble_eq_true rfl, Nat.le_of_ble_eq_true rfl, Nat.le_of_ble_eq_true rfl⟩ rfl (Nat.le_of_ble_eq_true rfl) dX12_number_91 ?_
              intro M_16 h_M_16 hf
              refine g_iload_n hC 1 dX12_number_94 rfl rfl ?_
              exact g_reti hC i_v1 h_M_16 hf dX12_number_95
            · intro J85 hJ85 hf
              refine g_sub [(0, .ref (B + 95)), (1, J v1), (2, J v2), (3, J v3_7), (4, J 0)] [2, 3, 4, 1, 0] rfl ?_
              refine wl2_elim (fun (v4_17 : Int) (M_18 : Mem) => inR v4_17 → MR M_18 → G p l e (rmF 1 25) s m args below meth c B D K 5 0 0 (ZI below args s B D K Q) M_18 49 [(0, .ref (B + 95)), (1, J v1), (2, J v2), (3, J v3_7), (4, J v4_17)] []) ?_ 5000 0 M_2 hf (by unfold inR; omega) h_M_2
              intro rec49 ih49 v4_17 M_18 hf h_v4_17 h_M_18
              unfold X12_number_b49 at hf
              refine g_aload_n hC 0 dX12_number_49 rfl rfl ?_
              refine g_geti hC okX12 sc95 2 (by decide) rfl wf_X12_140 dX12_number_50 ?_
              refine g_aload_n hC 0 dX12_number_53 rfl rfl ?_
              refine g_geti hC okX12 sc95 3 (by decide) rfl wf_X12_143 dX12_number_54 ?_
              refine g_icmp_ge hC 129 (h_M_18 _ _) (h_M_18 _ _) dX12_number_57 rfl (fun c_29 => ?_) (fun c_29 => ?_)
              · replace hf := hf.1 c_29
                refine g_sub [(0, .ref (B + 95)), (1, J v1), (2, J v2), (3, J v3_7), (4, J v4_17)] [0, 1, 2, 3, 4] rfl ?_
                exact hJ129 v4_17 M_18 hf h_v4_17 h_M_18
              · replace hf := hf.2 c_29
                refine g_aload_n hC 0 dX12_number_60 rfl rfl ?_
                refine g_getr hC okX12 sc95 0 (by decide) rfl wf_X12_7 dX12_number_61 ?_
                refine g_aload_n hC 0 dX12_number_64 rfl rfl ?_
                refine g_geti hC okX12 sc95 2 (by decide) rfl wf_X12_140 dX12_number_65 ?_
                obtain ⟨q_19, hf⟩ := hf
                refine g_ialdk ((M_18 95 2).toNat) hC sc96 q_19.1 q_19.2 rfl dX12_number_68 ?_
                refine g_callSZ hC (sk := []) [J (M_18 96 ((M_18 95 2).toNat))] (c_X12_isDigit l B D K (M_18 96 ((M_18 95 2).toNat)) (h_M_18 _ _) M_18 h_M_18 _ hf) yv_X12_isDigit wm_X12_163 rfl ⟨Nat.le_of_ble_eq_true rfl, Nat.le_of_ble_eq_true rfl, Nat.le_of_ble_eq_true rfl, Nat.le_of_ble_eq_true rfl⟩ rfl (Nat.le_of_ble_eq_true rfl) dX12_number_69 ?_
                rintro r_20 M_21 h_r_20 - ⟨rfl, hf⟩
                refine g_if_eq hC 129 (zi_ h_r_20) dX12_number_72 rfl (fun c_28 => ?_) (fun c_28 => ?_)
                · replace hf := hf.1 c_28
                  refine g_sub [(0, .ref (B + 95)), (1, J v1), (2, J v2), (3, J v3_7), (4, J v4_17)] [0, 1, 2, 3, 4] rfl ?_
                  exact hJ129 v4_17 M_18 hf h_v4_17 h_M_18
                · replace hf := hf.2 c_28
                  refine g_aload_n hC 0 dX12_number_75 rfl rfl ?_
                  refine g_geti hC okX12 sc95 2 (by decide) rfl wf_X12_140 dX12_number_76 ?_
                  refine g_iload_n hC 3 dX12_number_79 rfl rfl ?_
                  refine g_isub hC dX12_number_80 ?_
                  refine g_iconst hC dX12_number_81 ?_
                  obtain ⟨q_22, hf⟩ := hf
                  refine g_icmp_ne hC 96 q_22 (by unfold inR; omega) dX12_number_82 rfl (fun c_27 => ?_) (fun c_27 => ?_)
                  · replace hf := hf.1 c_27
                    refine g_bipush hC dX12_number_96 (by decide) ?_
                    refine g_iload hC 4 dX12_number_98 rfl ?_
                    refine g_imul hC dX12_number_100 ?_
                    refine g_aload_n hC 0 dX12_number_101 rfl rfl ?_
                    refine g_getr hC okX12 sc95 0 (by decide) rfl wf_X12_7 dX12_number_102 ?_
                    refine g_aload_n hC 0 dX12_number_105 rfl rfl ?_
                    refine g_geti hC okX12 sc95 2 (by decide) rfl wf_X12_140 dX12_number_106 ?_
                    refine g_ialdk ((M_18 95 2).toNat) hC sc96 q_19.1 q_19.2 rfl dX12_number_109 ?_
                    refine g_iadd hC dX12_number_110 ?_
                    refine g_bipush hC dX12_number_111 (by decide) ?_
                    refine g_isub hC dX12_number_113 ?_
                    obtain ⟨q_23, hf⟩ := hf
                    refine g_nm (fun v4_24 e_v4_24 => ?_)
                    replace hf := hf v4_24 e_v4_24
                    have h_v4_24 : inR v4_24 := by rw [e_v4_24]; exact q_23
                    refine g_istore hC [(4, J v4_24), (0, .ref (B + 95)), (1, J v1), (2, J v2), (3, J v3_7)] dX12_number_114 (by decide) rfl ?_
                    refine g_aload_n hC 1 dX12_number_116 rfl rfl ?_
                    refine g_dup hC dX12_number_117 rfl ?_
                    refine g_geti hC okX12 sc95 2 (by decide) rfl wf_X12_140 dX12_number_118 ?_
                    refine g_iconst hC dX12_number_121 ?_
                    refine g_iadd hC dX12_number_122 ?_
                    obtain ⟨q_25, hf⟩ := hf
                    refine g_puti hC okX12 tnX12 sc95 2 (by decide) rfl rfl (by decide) wf_X12_140 dX12_number_123 ?_
                    refine g_nmM (fun M_26 e_M_26 => ?_)
                    replace hf := hf M_26 e_M_26
                    have h_M_26 : MR M_26 := by rw [e_M_26]; exact MR_st h_M_18 q_25
                    refine g_goto hC 49 dX12_number_126 rfl ?_
                    refine g_sub [(0, .ref (B + 95)), (1, J v1), (2, J v2), (3, J v3_7), (4, J v4_24)] [1, 2, 3, 4, 0] rfl ?_
                    exact ih49 v4_24 M_26 hf h_v4_24 h_M_26
                  · replace hf := hf.2 c_27
                    refine g_sub [(0, .ref (B + 95)), (1, J v1)] [0, 1] rfl ?_
                    exact hJ85 M_18 hf h_M_18
        · replace hf := hf.2 c_30
          refine g_sub [(0, .ref (B + 95)), (1, J v1)] [0, 1] rfl ?_
          exact hJ30 M_2 hf h_M_2
  · replace hf := hf.2 c_32
    refine g_iload_n hC 1 dX12_number_7 rfl rfl ?_
    exact g_reti hC i_v1 hM hf dX12_number_8
set_option maxHeartbeats 4000000 in
set_option maxRecDepth 100000 in
theorem c_X12_isLike (l : Launch) (B : Nat) (D : va_G) (K : Nat → ClassId) (v1 : Int) (v2 : Int) (i_v1 : inR v1) (i_v2 : inR v2) (M : Mem) (hM : MR M) (Q : Int → Prop) (hf : f_X12_isLike v1 v2 M Q) : CtZ l yX12_isLike cX12_isLike 4 0 0 B D K [.ref (B + 95), J v1, J v2] M (fun r M1 => M = M1 ∧ Q r) := by
  refine ct_z (by decide) (Nat.le_of_ble_eq_true rfl) ?_
  intro p e s m args below meth c hC
  have hC : Cx p s m args meth c D K cX12_isLike 4 RX12 (some .boolean) := hC
  unfold f_X12_isLike at hf
  refine (show G p l e (rmF 0 0) s m args below meth c B D K 4 0 0 (ZZ below args s B D K (fun r M1 => M = M1 ∧ Q r)) M 0 [(0, .ref (B + 95)), (1, J v1), (2, J v2)] [] from ?_)
  refine g_iconst hC dX12_isLike_0 ?_
  refine g_istore_n hC [(3, J 0), (0, .ref (B + 95)), (1, J v1), (2, J v2)] dX12_isLike_1 rfl (by decide) rfl ?_
  refine g_sub [(0, .ref (B + 95)), (1, J v1), (2, J v2), (3, J 0)] [1, 2, 3, 0] rfl ?_
  refine wl1_elim (fun (v3_1 : Int) => inR v3_1 → G p l e (rmF 0 0) s m args below meth c B D K 4 0 0 (ZZ below args s B D K (fun r M1 => M = M1 ∧ Q r)) M 2 [(0, .ref (B + 95)), (1, J v1), (2, J v2), (3, J v3_1)] []) ?_ 5000 0 hf (by unfold inR; omega)
  intro rec2 ih2 v3_1 hf h_v3_1
  unfold X12_isLike_b2 at hf
  refine g_iload_n hC 3 dX12_isLike_2 rfl rfl ?_
  refine g_iload_n hC 2 dX12_isLike_3 rfl rfl ?_
  refine g_icmp_ge hC 37 h_v3_1 i_v2 dX12_isLike_4 rfl (fun c_7 => ?_) (fun c_7 => ?_)
  · replace hf := hf.1 c_7
    refine g_iconst hC dX12_isLike_37 ?_
    exact g_retz hC (Or.inr rfl) hM ⟨rfl, hf⟩ dX12_isLike_38
  · replace hf := hf.2 c_7
    refine g_aload_n hC 0 dX12_isLike_7 rfl rfl ?_
    refine g_getr hC okX12 sc95 10 (by decide) rfl wf_X12_20 dX12_isLike_8 ?_
    refine g_iload_n hC 1 dX12_isLike_11 rfl rfl ?_
    refine g_iload_n hC 3 dX12_isLike_12 rfl rfl ?_
    refine g_iadd hC dX12_isLike_13 ?_
    obtain ⟨q_2, hf⟩ := hf
    refine g_caldk ((v1 + v3_1).toNat) hC sc98 q_2.1 q_2.2 rfl dX12_isLike_14 ?_
    refine g_aload_n hC 0 dX12_isLike_15 rfl rfl ?_
    refine g_getr hC okX12 sc95 0 (by decide) rfl wf_X12_7 dX12_isLike_16 ?_
    refine g_aload_n hC 0 dX12_isLike_19 rfl rfl ?_
    refine g_geti hC okX12 sc95 2 (by decide) rfl wf_X12_140 dX12_isLike_20 ?_
    refine g_iload_n hC 3 dX12_isLike_23 rfl rfl ?_
    refine g_iadd hC dX12_isLike_24 ?_
    obtain ⟨q_3, hf⟩ := hf
    refine g_ialdk (((M 95 2) + v3_1).toNat) hC sc96 q_3.1 q_3.2 rfl dX12_isLike_25 ?_
    refine g_icmp_eq hC 31 (hM _ _) (hM _ _) dX12_isLike_26 rfl (fun c_6 => ?_) (fun c_6 => ?_)
    · replace hf := hf.1 c_6
      obtain ⟨q_5, hf⟩ := hf
      obtain ⟨v3_4, e_v3_4⟩ : ∃ z : Int, z = v3_1 + 1 := ⟨_, rfl⟩
      replace hf := hf v3_4 e_v3_4
      have h_v3_4 : inR v3_4 := by rw [e_v3_4]; exact q_5
      refine g_iincv hC 3 e_v3_4 [(3, J v3_4), (0, .ref (B + 95)), (1, J v1), (2, J v2)] dX12_isLike_31 rfl (by decide) rfl ?_
      refine g_goto hC 2 dX12_isLike_34 rfl ?_
      refine g_sub [(0, .ref (B + 95)), (1, J v1), (2, J v2), (3, J v3_4)] [1, 2, 3, 0] rfl ?_
      exact ih2 v3_4 hf h_v3_4
    · replace hf := hf.2 c_6
      refine g_iconst hC dX12_isLike_29 ?_
      exact g_retz hC (Or.inl rfl) hM ⟨rfl, hf⟩ dX12_isLike_30
set_option maxHeartbeats 4000000 in
set_option maxRecDepth 100000 in
theorem c_X12_ownHere (l : Launch) (B : Nat) (D : va_G) (K : Nat → ClassId)   (M : Mem) (hM : MR M) (Q : Int → Mem → Prop) (hf : f_X12_ownHere  M Q) : CtI l yX12_ownHere cX12_ownHere 5 2 40 B D K [.ref (B + 95)] M Q := by
  refine ct_i (by decide) (Nat.le_of_ble_eq_true rfl) ?_
  intro p e s m args below meth c hC
  have hC : Cx p s m args meth c D K cX12_ownHere 5 RX12 (some .int) := hC
  unfold f_X12_ownHere at hf
  refine (show G p l e (rmF 2 40) s m args below meth c B D K 5 0 0 (ZI below args s B D K Q) M 0 [(0, .ref (B + 95))] [] from ?_)
  refine g_aload_n hC 0 dX12_ownHere_0 rfl rfl ?_
  refine g_callVZ hC (sk := []) [] (c_X12_isWordHere l B D K   M hM _ hf) yv_X12_isWordHere wm_X12_166 okX12.1 sc95 rfl ⟨Nat.le_of_ble_eq_true rfl, Nat.le_of_ble_eq_true rfl, Nat.le_of_ble_eq_true rfl, Nat.le_of_ble_eq_true rfl⟩ rfl (Nat.le_of_ble_eq_true rfl) dX12_ownHere_1 ?_
  intro r_1 M_2 h_r_1 h_M_2 hf
  refine g_if_ne hC 9 (zi_ h_r_1) dX12_ownHere_4 rfl (fun c_36 => ?_) (fun c_36 => ?_)
  · replace hf := hf.1 c_36
    refine g_iconst hC dX12_ownHere_9 ?_
    refine g_istore_n hC [(1, J 0), (0, .ref (B + 95))] dX12_ownHere_10 rfl (by decide) rfl ?_
    refine jn_elim (fun (k : Int → Prop) => ∀ (v1_3 : Int), k v1_3 → (inR v1_3) → G p l e (rmF 2 40) s m args below meth c B D K 5 0 0 (ZI below args s B D K Q) M_2 47 [(0, .ref (B + 95)), (1, J v1_3)] []) hf ?_ ?_
    · intro v1_3 hf h_v1_3
      refine g_iconst hC dX12_ownHere_47 ?_
      refine g_istore_n hC [(2, J 0), (0, .ref (B + 95)), (1, J v1_3)] dX12_ownHere_48 rfl (by decide) rfl ?_
      refine g_iconst hC dX12_ownHere_49 ?_
      refine g_istore_n hC [(3, J 0), (2, J 0), (0, .ref (B + 95)), (1, J v1_3)] dX12_ownHere_50 rfl (by decide) rfl ?_
      refine g_iconst hC dX12_ownHere_51 ?_
      refine g_istore hC [(4, J 0), (3, J 0), (2, J 0), (0, .ref (B + 95)), (1, J v1_3)] dX12_ownHere_52 (by decide) rfl ?_
      refine g_sub [(0, .ref (B + 95)), (1, J v1_3), (2, J 0), (3, J 0), (4, J 0)] [3, 4, 2, 1, 0] rfl ?_
      refine wl3_elim (fun (v2_4 : Int) (v3_5 : Int) (v4_6 : Int) => inR v2_4 → inR v3_5 → inR v4_6 → G p l e (rmF 2 40) s m args below meth c B D K 5 0 0 (ZI below args s B D K Q) M_2 54 [(0, .ref (B + 95)), (1, J v1_3), (2, J v2_4), (3, J v3_5), (4, J v4_6)] []) ?_ 5000 0 0 0 hf (by unfold inR; omega) (by unfold inR; omega) (by unfold inR; omega)
      intro rec54 ih54 v2_4 v3_5 v4_6 hf h_v2_4 h_v3_5 h_v4_6
      unfold X12_ownHere_b54 at hf
      refine g_iload hC 4 dX12_ownHere_54 rfl ?_
      refine g_aload_n hC 0 dX12_ownHere_56 rfl rfl ?_
      refine g_getr hC okX12 sc95 10 (by decide) rfl wf_X12_20 dX12_ownHere_57 ?_
      refine g_alen hC sc98 (by decide) dX12_ownHere_60 ?_
      refine g_icmp_ge hC 109 h_v4_6 (by unfold inR; omega) dX12_ownHere_61 rfl (fun c_26 => ?_) (fun c_26 => ?_)
      · replace hf := hf.1 c_26
        refine g_iconst hC dX12_ownHere_109 ?_
        exact g_reti hC (by unfold inR; omega) h_M_2 hf dX12_ownHere_110
      · replace hf := hf.2 c_26
        refine g_aload_n hC 0 dX12_ownHere_64 rfl rfl ?_
        refine g_getr hC okX12 sc95 10 (by decide) rfl wf_X12_20 dX12_ownHere_65 ?_
        refine g_iload hC 4 dX12_ownHere_68 rfl ?_
        obtain ⟨q_7, hf⟩ := hf
        refine g_caldk (v4_6.toNat) hC sc98 q_7.1 q_7.2 rfl dX12_ownHere_70 ?_
        refine g_bipush hC dX12_ownHere_71 (by decide) ?_
        refine g_icmp_ne hC 103 (h_M_2 _ _) (by unfold inR; omega) dX12_ownHere_73 rfl (fun c_25 => ?_) (fun c_25 => ?_)
        · replace hf := hf.1 c_25
          obtain ⟨q_9, hf⟩ := hf
          obtain ⟨v4_8, e_v4_8⟩ : ∃ z : Int, z = v4_6 + 1 := ⟨_, rfl⟩
          replace hf := hf v4_8 e_v4_8
          have h_v4_8 : inR v4_8 := by rw [e_v4_8]; exact q_9
          refine g_iincv hC 4 e_v4_8 [(4, J v4_8), (0, .ref (B + 95)), (1, J v1_3), (2, J v2_4), (3, J v3_5)] dX12_ownHere_103 rfl (by decide) rfl ?_
          refine g_goto hC 54 dX12_ownHere_106 rfl ?_
          refine g_sub [(0, .ref (B + 95)), (1, J v1_3), (2, J v2_4), (3, J v3_5), (4, J v4_8)] [1, 2, 3, 4, 0] rfl ?_
          exact ih54 v2_4 v3_5 v4_8 hf h_v2_4 h_v3_5 h_v4_8
        · replace hf := hf.2 c_25
          refine g_iload hC 4 dX12_ownHere_76 rfl ?_
          refine g_iload_n hC 3 dX12_ownHere_78 rfl rfl ?_
          refine g_isub hC dX12_ownHere_79 ?_
          refine g_iload_n hC 1 dX12_ownHere_80 rfl rfl ?_
          obtain ⟨q_10, hf⟩ := hf
          refine g_icmp_ne hC 95 q_10 h_v1_3 dX12_ownHere_81 rfl (fun c_24 => ?_) (fun c_24 => ?_)
          · replace hf := hf.1 c_24
            obtain ⟨q_12, hf⟩ := hf
            obtain ⟨v2_11, e_v2_11⟩ : ∃ z : Int, z = v2_4 + 1 := ⟨_, rfl⟩
            replace hf := hf v2_11 e_v2_11
            have h_v2_11 : inR v2_11 := by rw [e_v2_11]; exact q_12
            refine g_iincv hC 2 e_v2_11 [(2, J v2_11), (0, .ref (B + 95)), (1, J v1_3), (3, J v3_5), (4, J v4_6)] dX12_ownHere_95 rfl (by decide) rfl ?_
            refine g_iload hC 4 dX12_ownHere_98 rfl ?_
            refine g_iconst hC dX12_ownHere_100 ?_
            refine g_iadd hC dX12_ownHere_101 ?_
            obtain ⟨q_13, hf⟩ := hf
            refine g_nm (fun v3_14 e_v3_14 => ?_)
            replace hf := hf v3_14 e_v3_14
            have h_v3_14 : inR v3_14 := by rw [e_v3_14]; exact q_13
            refine g_istore_n hC [(3, J v3_14), (2, J v2_11), (0, .ref (B + 95)), (1, J v1_3), (4, J v4_6)] dX12_ownHere_102 rfl (by decide) rfl ?_
            obtain ⟨v4_15, e_v4_15⟩ : ∃ z : Int, z = v4_6 + 1 := ⟨_, rfl⟩
            replace hf := hf v4_15 e_v4_15
            have h_v4_15 : inR v4_15 := by rw [e_v4_15]; exact q_13
            refine g_iincv hC 4 e_v4_15 [(4, J v4_15), (3, J v3_14), (2, J v2_11), (0, .ref (B + 95)), (1, J v1_3)] dX12_ownHere_103 rfl (by decide) rfl ?_
            refine g_goto hC 54 dX12_ownHere_106 rfl ?_
            refine g_sub [(0, .ref (B + 95)), (1, J v1_3), (2, J v2_11), (3, J v3_14), (4, J v4_15)] [3, 4, 2, 1, 0] rfl ?_
            exact ih54 v2_11 v3_14 v4_15 hf h_v2_11 h_v3_14 h_v4_15
          · replace hf := hf.2 c_24
            refine g_aload_n hC 0 dX12_ownHere_84 rfl rfl ?_
            refine g_iload_n hC 3 dX12_ownHere_85 rfl rfl ?_
            refine g_iload_n hC 1 dX12_ownHere_86 rfl rfl ?_
            refine g_callVZ hC (sk := []) [J v3_5, J v1_3] (c_X12_isLike l B D K v3_5 v1_3 h_v3_5 h_v1_3 M_2 h_M_2 _ hf) yv_X12_isLike wm_X12_170 okX12.1 sc95 rfl ⟨Nat.le_of_ble_eq_true rfl, Nat.le_of_ble_eq_true rfl, Nat.le_of_ble_eq_true rfl, Nat.le_of_ble_eq_true rfl⟩ rfl (Nat.le_of_ble_eq_true rfl) dX12_ownHere_87 ?_
            rintro r_16 M_17 h_r_16 - ⟨rfl, hf⟩
            refine g_if_eq hC 95 (zi_ h_r_16) dX12_ownHere_90 rfl (fun c_23 => ?_) (fun c_23 => ?_)
            · replace hf := hf.1 c_23
              obtain ⟨q_19, hf⟩ := hf
              obtain ⟨v2_18, e_v2_18⟩ : ∃ z : Int, z = v2_4 + 1 := ⟨_, rfl⟩
              replace hf := hf v2_18 e_v2_18
              have h_v2_18 : inR v2_18 := by rw [e_v2_18]; exact q_19
              refine g_iincv hC 2 e_v2_18 [(2, J v2_18), (0, .ref (B + 95)), (1, J v1_3), (3, J v3_5), (4, J v4_6)] dX12_ownHere_95 rfl (by decide) rfl ?_
              refine g_iload hC 4 dX12_ownHere_98 rfl ?_
              refine g_iconst hC dX12_ownHere_100 ?_
              refine g_iadd hC dX12_ownHere_101 ?_
              obtain ⟨q_20, hf⟩ := hf
              refine g_nm (fun v3_21 e_v3_21 => ?_)
              replace hf := hf v3_21 e_v3_21
              have h_v3_21 : inR v3_21 := by rw [e_v3_21]; exact q_20
              refine g_istore_n hC [(3, J v3_21), (2, J v2_18), (0, .ref (B + 95)), (1, J v1_3), (4, J v4_6)] dX12_ownHere_102 rfl (by decide) rfl ?_
              obtain ⟨v4_22, e_v4_22⟩ : ∃ z : Int, z = v4_6 + 1 := ⟨_, rfl⟩
              replace hf := hf v4_22 e_v4_22
              have h_v4_22 : inR v4_22 := by rw [e_v4_22]; exact q_20
              refine g_iincv hC 4 e_v4_22 [(4, J v4_22), (3, J v3_21), (2, J v2_18), (0, .ref (B + 95)), (1, J v1_3)] dX12_ownHere_103 rfl (by decide) rfl ?_
              refine g_goto hC 54 dX12_ownHere_106 rfl ?_
              refine g_sub [(0, .ref (B + 95)), (1, J v1_3), (2, J v2_18), (3, J v3_21), (4, J v4_22)] [3, 4, 2, 1, 0] rfl ?_
              exact ih54 v2_18 v3_21 v4_22 hf h_v2_18 h_v3_21 h_v4_22
            · replace hf := hf.2 c_23
              refine g_iload_n hC 2 dX12_ownHere_93 rfl rfl ?_
              exact g_reti hC h_v2_4 h_M_2 hf dX12_ownHere_94
    · intro J47 hJ47 hf
      refine g_sub [(0, .ref (B + 95)), (1, J 0)] [1, 0] rfl ?_
      refine wl1_elim (fun (v1_27 : Int) => inR v1_27 → G p l e (rmF 2 40) s m args below meth c B D K 5 0 0 (ZI below args s B D K Q) M_2 11 [(0, .ref (B + 95)), (1, J v1_27)] []) ?_ 5000 0 hf (by unfold inR; omega)
      intro rec11 ih11 v1_27 hf h_v1_27
      unfold X12_ownHere_b11 at hf
      refine g_aload_n hC 0 dX12_ownHere_11 rfl rfl ?_
      refine g_geti hC okX12 sc95 2 (by decide) rfl wf_X12_140 dX12_ownHere_12 ?_
      refine g_iload_n hC 1 dX12_ownHere_15 rfl rfl ?_
      refine g_iadd hC dX12_ownHere_16 ?_
      refine g_aload_n hC 0 dX12_ownHere_17 rfl rfl ?_
      refine g_geti hC okX12 sc95 3 (by decide) rfl wf_X12_143 dX12_ownHere_18 ?_
      obtain ⟨q_28, hf⟩ := hf
      refine g_icmp_ge hC 47 q_28 (h_M_2 _ _) dX12_ownHere_21 rfl (fun c_35 => ?_) (fun c_35 => ?_)
      · replace hf := hf.1 c_35
        refine g_sub [(0, .ref (B + 95)), (1, J v1_27)] [0, 1] rfl ?_
        exact hJ47 v1_27 hf h_v1_27
      · replace hf := hf.2 c_35
        refine g_aload_n hC 0 dX12_ownHere_24 rfl rfl ?_
        refine g_getr hC okX12 sc95 0 (by decide) rfl wf_X12_7 dX12_ownHere_25 ?_
        refine g_aload_n hC 0 dX12_ownHere_28 rfl rfl ?_
        refine g_geti hC okX12 sc95 2 (by decide) rfl wf_X12_140 dX12_ownHere_29 ?_
        refine g_iload_n hC 1 dX12_ownHere_32 rfl rfl ?_
        refine g_iadd hC dX12_ownHere_33 ?_
        obtain ⟨q_29, hf⟩ := hf
        refine g_ialdk (((M_2 95 2) + v1_27).toNat) hC sc96 q_29.1 q_29.2 rfl dX12_ownHere_34 ?_
        refine g_callSZ hC (sk := []) [J (M_2 96 (((M_2 95 2) + v1_27).toNat))] (c_X12_isLetter l B D K (M_2 96 (((M_2 95 2) + v1_27).toNat)) (h_M_2 _ _) M_2 h_M_2 _ hf) yv_X12_isLetter wm_X12_150 rfl ⟨Nat.le_of_ble_eq_true rfl, Nat.le_of_ble_eq_true rfl, Nat.le_of_ble_eq_true rfl, Nat.le_of_ble_eq_true rfl⟩ rfl (Nat.le_of_ble_eq_true rfl) dX12_ownHere_35 ?_
        rintro r_30 M_31 h_r_30 - ⟨rfl, hf⟩
        refine g_if_eq hC 47 (zi_ h_r_30) dX12_ownHere_38 rfl (fun c_34 => ?_) (fun c_34 => ?_)
        · replace hf := hf.1 c_34
          refine g_sub [(0, .ref (B + 95)), (1, J v1_27)] [0, 1] rfl ?_
          exact hJ47 v1_27 hf h_v1_27
        · replace hf := hf.2 c_34
          obtain ⟨q_33, hf⟩ := hf
          obtain ⟨v1_32, e_v1_32⟩ : ∃ z : Int, z = v1_27 + 1 := ⟨_, rfl⟩
          replace hf := hf v1_32 e_v1_32
          have h_v1_32 : inR v1_32 := by rw [e_v1_32]; exact q_33
          refine g_iincv hC 1 e_v1_32 [(1, J v1_32), (0, .ref (B + 95))] dX12_ownHere_41 rfl (by decide) rfl ?_
          refine g_goto hC 11 dX12_ownHere_44 rfl ?_
          refine g_sub [(0, .ref (B + 95)), (1, J v1_32)] [1, 0] rfl ?_
          exact ih11 v1_32 hf h_v1_32
  · replace hf := hf.2 c_36
    refine g_iconst hC dX12_ownHere_7 ?_
    exact g_reti hC (by unfold inR; omega) h_M_2 hf dX12_ownHere_8
set_option maxHeartbeats 4000000 in
set_option maxRecDepth 100000 in
theorem c_X12_takes (l : Launch) (B : Nat) (D : va_G) (K : Nat → ClassId) (v1 : Int) (i_v1 : inR v1) (M : Mem) (hM : MR M) (Q : Int → Mem → Prop) (hf : f_X12_takes v1 M Q) : CtZ l yX12_takes cX12_takes 2 3 64 B D K [.ref (B + 95), J v1] M Q := by
  refine ct_z (by decide) (Nat.le_of_ble_eq_true rfl) ?_
  intro p e s m args below meth c hC
  have hC : Cx p s m args meth c D K cX12_takes 2 RX12 (some .boolean) := hC
  unfold f_X12_takes at hf
  refine (show G p l e (rmF 3 64) s m args below meth c B D K 2 0 0 (ZZ below args s B D K Q) M 0 [(0, .ref (B + 95)), (1, J v1)] [] from ?_)
  refine g_aload_n hC 0 dX12_takes_0 rfl rfl ?_
  refine g_callVI hC (sk := []) [] (c_X12_ownHere l B D K   M hM _ hf) yv_X12_ownHere wm_X12_174 okX12.1 sc95 rfl ⟨Nat.le_of_ble_eq_true rfl, Nat.le_of_ble_eq_true rfl, Nat.le_of_ble_eq_true rfl, Nat.le_of_ble_eq_true rfl⟩ rfl (Nat.le_of_ble_eq_true rfl) dX12_takes_1 ?_
  intro r_1 M_2 h_r_1 h_M_2 hf
  refine g_iload_n hC 1 dX12_takes_4 rfl rfl ?_
  refine g_icmp_eq hC 10 h_r_1 i_v1 dX12_takes_5 rfl (fun c_13 => ?_) (fun c_13 => ?_)
  · replace hf := hf.1 c_13
    refine g_sub [(0, .ref (B + 95))] [0] rfl ?_
    refine wl1_elim (fun (M_3 : Mem) => MR M_3 → G p l e (rmF 3 64) s m args below meth c B D K 2 0 0 (ZZ below args s B D K Q) M_3 10 [(0, .ref (B + 95))] []) ?_ 5000 M_2 hf h_M_2
    intro rec10 ih10 M_3 hf h_M_3
    unfold X12_takes_b10 at hf
    refine g_aload_n hC 0 dX12_takes_10 rfl rfl ?_
    refine g_geti hC okX12 sc95 2 (by decide) rfl wf_X12_140 dX12_takes_11 ?_
    refine g_aload_n hC 0 dX12_takes_14 rfl rfl ?_
    refine g_geti hC okX12 sc95 3 (by decide) rfl wf_X12_143 dX12_takes_15 ?_
    refine g_icmp_ge hC 49 (h_M_3 _ _) (h_M_3 _ _) dX12_takes_18 rfl (fun c_12 => ?_) (fun c_12 => ?_)
    · replace hf := hf.1 c_12
      refine g_aload_n hC 0 dX12_takes_49 rfl rfl ?_
      refine g_aload_n hC 0 dX12_takes_50 rfl rfl ?_
      refine g_geti hC okX12 sc95 2 (by decide) rfl wf_X12_140 dX12_takes_51 ?_
      refine g_puti hC okX12 tnX12 sc95 4 (by decide) rfl rfl (by decide) wf_X12_153 dX12_takes_54 ?_
      refine g_nmM (fun M_4 e_M_4 => ?_)
      replace hf := hf M_4 e_M_4
      have h_M_4 : MR M_4 := by rw [e_M_4]; exact MR_st h_M_3 (h_M_3 _ _)
      refine g_iconst hC dX12_takes_57 ?_
      exact g_retz hC (Or.inr rfl) h_M_4 hf dX12_takes_58
    · replace hf := hf.2 c_12
      refine g_aload_n hC 0 dX12_takes_21 rfl rfl ?_
      refine g_getr hC okX12 sc95 0 (by decide) rfl wf_X12_7 dX12_takes_22 ?_
      refine g_aload_n hC 0 dX12_takes_25 rfl rfl ?_
      refine g_geti hC okX12 sc95 2 (by decide) rfl wf_X12_140 dX12_takes_26 ?_
      obtain ⟨q_5, hf⟩ := hf
      refine g_ialdk ((M_3 95 2).toNat) hC sc96 q_5.1 q_5.2 rfl dX12_takes_29 ?_
      refine g_callSZ hC (sk := []) [J (M_3 96 ((M_3 95 2).toNat))] (c_X12_isLetter l B D K (M_3 96 ((M_3 95 2).toNat)) (h_M_3 _ _) M_3 h_M_3 _ hf) yv_X12_isLetter wm_X12_150 rfl ⟨Nat.le_of_ble_eq_true rfl, Nat.le_of_ble_eq_true rfl, Nat.le_of_ble_eq_true rfl, Nat.le_of_ble_eq_true rfl⟩ rfl (Nat.le_of_ble_eq_true rfl) dX12_takes_30 ?_
      rintro r_6 M_7 h_r_6 - ⟨rfl, hf⟩
      refine g_if_eq hC 49 (zi_ h_r_6) dX12_takes_33 rfl (fun c_11 => ?_) (fun c_11 => ?_)
      · replace hf := hf.1 c_11
        refine g_aload_n hC 0 dX12_takes_49 rfl rfl ?_
        refine g_aload_n hC 0 dX12_takes_50 rfl rfl ?_
        refine g_geti hC okX12 sc95 2 (by decide) rfl wf_X12_140 dX12_takes_51 ?_
        refine g_puti hC okX12 tnX12 sc95 4 (by decide) rfl rfl (by decide) wf_X12_153 dX12_takes_54 ?_
        refine g_nmM (fun M_8 e_M_8 => ?_)
        replace hf := hf M_8 e_M_8
        have h_M_8 : MR M_8 := by rw [e_M_8]; exact MR_st h_M_3 (h_M_3 _ _)
        refine g_iconst hC dX12_takes_57 ?_
        exact g_retz hC (Or.inr rfl) h_M_8 hf dX12_takes_58
      · replace hf := hf.2 c_11
        refine g_aload_n hC 0 dX12_takes_36 rfl rfl ?_
        refine g_dup hC dX12_takes_37 rfl ?_
        refine g_geti hC okX12 sc95 2 (by decide) rfl wf_X12_140 dX12_takes_38 ?_
        refine g_iconst hC dX12_takes_41 ?_
        refine g_iadd hC dX12_takes_42 ?_
        obtain ⟨q_9, hf⟩ := hf
        refine g_puti hC okX12 tnX12 sc95 2 (by decide) rfl rfl (by decide) wf_X12_140 dX12_takes_43 ?_
        refine g_nmM (fun M_10 e_M_10 => ?_)
        replace hf := hf M_10 e_M_10
        have h_M_10 : MR M_10 := by rw [e_M_10]; exact MR_st h_M_3 q_9
        refine g_goto hC 10 dX12_takes_46 rfl ?_
        refine g_sub [(0, .ref (B + 95))] [0] rfl ?_
        exact ih10 M_10 hf h_M_10
  · replace hf := hf.2 c_13
    refine g_iconst hC dX12_takes_8 ?_
    exact g_retz hC (Or.inl rfl) h_M_2 hf dX12_takes_9
set_option maxHeartbeats 4000000 in
set_option maxRecDepth 100000 in
theorem c_X12_asks (l : Launch) (B : Nat) (D : va_G) (K : Nat → ClassId) (v1 : Int) (i_v1 : inR v1) (M : Mem) (hM : MR M) (Q : Mem → Prop) (hf : f_X12_asks v1 M Q) : CtV l yX12_asks cX12_asks 2 4 85 B D K [.ref (B + 95), J v1] M Q := by
  refine ct_v (by decide) (Nat.le_of_ble_eq_true rfl) ?_
  intro p e s m args below meth c hC
  have hC : Cx p s m args meth c D K cX12_asks 2 RX12 none := hC
  unfold f_X12_asks at hf
  refine (show G p l e (rmF 4 85) s m args below meth c B D K 2 0 0 (ZV below args s B D K Q) M 0 [(0, .ref (B + 95)), (1, J v1)] [] from ?_)
  refine g_aload_n hC 0 dX12_asks_0 rfl rfl ?_
  refine g_geti hC okX12 sc95 5 (by decide) rfl wf_X12_134 dX12_asks_1 ?_
  refine g_if_ne hC 24 (hM _ _) dX12_asks_4 rfl (fun c_5 => ?_) (fun c_5 => ?_)
  · replace hf := hf.1 c_5
    exact g_retv hC hM hf dX12_asks_24
  · replace hf := hf.2 c_5
    refine g_aload_n hC 0 dX12_asks_7 rfl rfl ?_
    refine g_iload_n hC 1 dX12_asks_8 rfl rfl ?_
    refine g_callVZ hC (sk := []) [J v1] (c_X12_takes l B D K v1 i_v1 M hM _ hf) yv_X12_takes wm_X12_177 okX12.1 sc95 rfl ⟨Nat.le_of_ble_eq_true rfl, Nat.le_of_ble_eq_true rfl, Nat.le_of_ble_eq_true rfl, Nat.le_of_ble_eq_true rfl⟩ rfl (Nat.le_of_ble_eq_true rfl) dX12_asks_9 ?_
    intro r_1 M_2 h_r_1 h_M_2 hf
    refine g_if_ne hC 24 (zi_ h_r_1) dX12_asks_12 rfl (fun c_4 => ?_) (fun c_4 => ?_)
    · replace hf := hf.1 c_4
      exact g_retv hC h_M_2 hf dX12_asks_24
    · replace hf := hf.2 c_4
      refine g_aload_n hC 0 dX12_asks_15 rfl rfl ?_
      refine g_iconst hC dX12_asks_16 ?_
      refine g_aload_n hC 0 dX12_asks_17 rfl rfl ?_
      refine g_geti hC okX12 sc95 2 (by decide) rfl wf_X12_140 dX12_asks_18 ?_
      refine g_callVV hC (sk := []) [J 1, J (M_2 95 2)] (c_X12_fail l B D K 1 (M_2 95 2) (by unfold inR; omega) (h_M_2 _ _) M_2 h_M_2 _ hf) yv_X12_fail wm_X12_159 okX12.1 sc95 rfl ⟨Nat.le_of_ble_eq_true rfl, Nat.le_of_ble_eq_true rfl, Nat.le_of_ble_eq_true rfl, Nat.le_of_ble_eq_true rfl⟩ rfl (Nat.le_of_ble_eq_true rfl) dX12_asks_21 ?_
      intro M_3 h_M_3 hf
      exact g_retv hC h_M_3 hf dX12_asks_24
set_option maxHeartbeats 4000000 in
set_option maxRecDepth 100000 in
theorem c_X12_name (l : Launch) (B : Nat) (D : va_G) (K : Nat → ClassId)   (M : Mem) (hM : MR M) (Q : Int → Mem → Prop) (hf : f_X12_name  M Q) : CtI l yX12_name cX12_name 2 3 64 B D K [.ref (B + 95)] M Q := by
  refine ct_i (by decide) (Nat.le_of_ble_eq_true rfl) ?_
  intro p e s m args below meth c hC
  have hC : Cx p s m args meth c D K cX12_name 2 RX12 (some .int) := hC
  unfold f_X12_name at hf
  refine (show G p l e (rmF 3 64) s m args below meth c B D K 2 0 0 (ZI below args s B D K Q) M 0 [(0, .ref (B + 95))] [] from ?_)
  refine g_aload_n hC 0 dX12_name_0 rfl rfl ?_
  refine g_geti hC okX12 sc95 5 (by decide) rfl wf_X12_134 dX12_name_1 ?_
  refine g_if_eq hC 9 (hM _ _) dX12_name_4 rfl (fun c_31 => ?_) (fun c_31 => ?_)
  · replace hf := hf.1 c_31
    refine g_aload_n hC 0 dX12_name_9 rfl rfl ?_
    refine g_callVZ hC (sk := []) [] (c_X12_isWordHere l B D K   M hM _ hf) yv_X12_isWordHere wm_X12_166 okX12.1 sc95 rfl ⟨Nat.le_of_ble_eq_true rfl, Nat.le_of_ble_eq_true rfl, Nat.le_of_ble_eq_true rfl, Nat.le_of_ble_eq_true rfl⟩ rfl (Nat.le_of_ble_eq_true rfl) dX12_name_10 ?_
    intro r_1 M_2 h_r_1 h_M_2 hf
    refine jn_elim (fun (k : Mem → Prop) => ∀ (M_3 : Mem), k M_3 → (MR M_3) → G p l e (rmF 3 64) s m args below meth c B D K 2 0 0 (ZI below args s B D K Q) M_3 24 [(0, .ref (B + 95))] []) hf ?_ ?_
    · intro M_3 hf h_M_3
      refine g_aload_n hC 0 dX12_name_24 rfl rfl ?_
      refine g_iconst hC dX12_name_25 ?_
      refine g_aload_n hC 0 dX12_name_26 rfl rfl ?_
      refine g_callVI hC (sk := [J 1, .ref (B + 95)]) [] (c_X12_look l B D K   M_3 h_M_3 _ hf) yv_X12_look wm_X12_146 okX12.1 sc95 rfl ⟨Nat.le_of_ble_eq_true rfl, Nat.le_of_ble_eq_true rfl, Nat.le_of_ble_eq_true rfl, Nat.le_of_ble_eq_true rfl⟩ rfl (Nat.le_of_ble_eq_true rfl) dX12_name_27 ?_
      intro r_4 M_5 h_r_4 h_M_5 hf
      refine g_iconst hC dX12_name_30 ?_
      refine jn_elim (fun (k : Int → Prop) => ∀ (s2_6 : Int), k s2_6 → (inR s2_6) → G p l e (rmF 3 64) s m args below meth c B D K 2 0 0 (ZI below args s B D K Q) M_5 45 [] [J s2_6, J 1, .ref (B + 95)]) hf ?_ ?_
      · intro s2_6 hf h_s2_6
        refine g_callVV hC (sk := []) [J 1, J s2_6] (c_X12_fail l B D K 1 s2_6 (by unfold inR; omega) h_s2_6 M_5 h_M_5 _ hf) yv_X12_fail wm_X12_159 okX12.1 sc95 rfl ⟨Nat.le_of_ble_eq_true rfl, Nat.le_of_ble_eq_true rfl, Nat.le_of_ble_eq_true rfl, Nat.le_of_ble_eq_true rfl⟩ rfl (Nat.le_of_ble_eq_true rfl) dX12_name_45 ?_
        intro M_7 h_M_7 hf
        refine g_iconst hC dX12_name_48 ?_
        exact g_reti hC (by unfold inR; omega) h_M_7 hf dX12_name_49
      · intro J45 hJ45 hf
        refine g_icmp_ne hC 41 h_r_4 (by unfold inR; omega) dX12_name_31 rfl (fun c_8 => ?_) (fun c_8 => ?_)
        · replace hf := hf.1 c_8
          refine g_aload_n hC 0 dX12_name_41 rfl rfl ?_
          refine g_geti hC okX12 sc95 2 (by decide) rfl wf_X12_140 dX12_name_42 ?_
          refine g_sub [] [] rfl ?_
          exact hJ45 (M_5 95 2) hf (h_M_5 _ _)
        · replace hf := hf.2 c_8
          refine g_aload_n hC 0 dX12_name_34 rfl rfl ?_
          refine g_geti hC okX12 sc95 3 (by decide) rfl wf_X12_143 dX12_name_35 ?_
          refine g_goto hC 45 dX12_name_38 rfl ?_
          refine g_sub [] [] rfl ?_
          exact hJ45 (M_5 95 3) hf (h_M_5 _ _)
    · intro J24 hJ24 hf
      refine g_if_eq hC 24 (zi_ h_r_1) dX12_name_13 rfl (fun c_30 => ?_) (fun c_30 => ?_)
      · replace hf := hf.1 c_30
        refine g_sub [(0, .ref (B + 95))] [0] rfl ?_
        exact hJ24 M_2 hf h_M_2
      · replace hf := hf.2 c_30
        refine g_aload_n hC 0 dX12_name_16 rfl rfl ?_
        refine g_callVI hC (sk := []) [] (c_X12_ownHere l B D K   M_2 h_M_2 _ hf) yv_X12_ownHere wm_X12_174 okX12.1 sc95 rfl ⟨Nat.le_of_ble_eq_true rfl, Nat.le_of_ble_eq_true rfl, Nat.le_of_ble_eq_true rfl, Nat.le_of_ble_eq_true rfl⟩ rfl (Nat.le_of_ble_eq_true rfl) dX12_name_17 ?_
        intro r_9 M_10 h_r_9 h_M_10 hf
        refine g_iconst hC dX12_name_20 ?_
        refine g_icmp_eq hC 50 h_r_9 (by unfold inR; omega) dX12_name_21 rfl (fun c_29 => ?_) (fun c_29 => ?_)
        · replace hf := hf.1 c_29
          refine g_aload_n hC 0 dX12_name_50 rfl rfl ?_
          refine g_aload_n hC 0 dX12_name_51 rfl rfl ?_
          refine g_geti hC okX12 sc95 2 (by decide) rfl wf_X12_140 dX12_name_52 ?_
          refine g_puti hC okX12 tnX12 sc95 11 (by decide) rfl rfl (by decide) wf_X12_180 dX12_name_55 ?_
          refine g_nmM (fun M_11 e_M_11 => ?_)
          replace hf := hf M_11 e_M_11
          have h_M_11 : MR M_11 := by rw [e_M_11]; exact MR_st h_M_10 (h_M_10 _ _)
          refine g_iconst hC dX12_name_58 ?_
          refine g_istore_n hC [(1, J 0), (0, .ref (B + 95))] dX12_name_59 rfl (by decide) rfl ?_
          refine jn_elim (fun (k : Mem → Prop) => ∀ (M_12 : Mem), k M_12 → (MR M_12) → G p l e (rmF 3 64) s m args below meth c B D K 2 0 0 (ZI below args s B D K Q) M_12 100 [(0, .ref (B + 95))] []) hf ?_ ?_
          · intro M_12 hf h_M_12
            refine g_aload_n hC 0 dX12_name_100 rfl rfl ?_
            refine g_iconst hC dX12_name_101 ?_
            refine g_aload_n hC 0 dX12_name_102 rfl rfl ?_
            refine g_geti hC okX12 sc95 2 (by decide) rfl wf_X12_140 dX12_name_103 ?_
            refine g_callVV hC (sk := []) [J 1, J (M_12 95 2)] (c_X12_fail l B D K 1 (M_12 95 2) (by unfold inR; omega) (h_M_12 _ _) M_12 h_M_12 _ hf) yv_X12_fail wm_X12_159 okX12.1 sc95 rfl ⟨Nat.le_of_ble_eq_true rfl, Nat.le_of_ble_eq_true rfl, Nat.le_of_ble_eq_true rfl, Nat.le_of_ble_eq_true rfl⟩ rfl (Nat.le_of_ble_eq_true rfl) dX12_name_106 ?_
            intro M_13 h_M_13 hf
            refine g_iconst hC dX12_name_109 ?_
            exact g_reti hC (by unfold inR; omega) h_M_13 hf dX12_name_110
          · intro J100 hJ100 hf
            refine g_sub [(0, .ref (B + 95)), (1, J 0)] [1, 0] rfl ?_
            refine wl2_elim (fun (v1_14 : Int) (M_15 : Mem) => inR v1_14 → MR M_15 → G p l e (rmF 3 64) s m args below meth c B D K 2 0 0 (ZI below args s B D K Q) M_15 60 [(0, .ref (B + 95)), (1, J v1_14)] []) ?_ 5000 0 M_11 hf (by unfold inR; omega) h_M_11
            intro rec60 ih60 v1_14 M_15 hf h_v1_14 h_M_15
            unfold X12_name_b60 at hf
            refine g_aload_n hC 0 dX12_name_60 rfl rfl ?_
            refine g_geti hC okX12 sc95 2 (by decide) rfl wf_X12_140 dX12_name_61 ?_
            refine g_aload_n hC 0 dX12_name_64 rfl rfl ?_
            refine g_geti hC okX12 sc95 3 (by decide) rfl wf_X12_143 dX12_name_65 ?_
            refine g_icmp_ge hC 144 (h_M_15 _ _) (h_M_15 _ _) dX12_name_68 rfl (fun c_28 => ?_) (fun c_28 => ?_)
            · replace hf := hf.1 c_28
              refine g_aload_n hC 0 dX12_name_144 rfl rfl ?_
              refine g_aload_n hC 0 dX12_name_145 rfl rfl ?_
              refine g_geti hC okX12 sc95 2 (by decide) rfl wf_X12_140 dX12_name_146 ?_
              refine g_puti hC okX12 tnX12 sc95 4 (by decide) rfl rfl (by decide) wf_X12_153 dX12_name_149 ?_
              refine g_nmM (fun M_16 e_M_16 => ?_)
              replace hf := hf M_16 e_M_16
              have h_M_16 : MR M_16 := by rw [e_M_16]; exact MR_st h_M_15 (h_M_15 _ _)
              refine g_iload_n hC 1 dX12_name_152 rfl rfl ?_
              exact g_reti hC h_v1_14 h_M_16 hf dX12_name_153
            · replace hf := hf.2 c_28
              refine g_aload_n hC 0 dX12_name_71 rfl rfl ?_
              refine g_getr hC okX12 sc95 0 (by decide) rfl wf_X12_7 dX12_name_72 ?_
              refine g_aload_n hC 0 dX12_name_75 rfl rfl ?_
              refine g_geti hC okX12 sc95 2 (by decide) rfl wf_X12_140 dX12_name_76 ?_
              obtain ⟨q_17, hf⟩ := hf
              refine g_ialdk ((M_15 95 2).toNat) hC sc96 q_17.1 q_17.2 rfl dX12_name_79 ?_
              refine g_callSZ hC (sk := []) [J (M_15 96 ((M_15 95 2).toNat))] (c_X12_isLetter l B D K (M_15 96 ((M_15 95 2).toNat)) (h_M_15 _ _) M_15 h_M_15 _ hf) yv_X12_isLetter wm_X12_150 rfl ⟨Nat.le_of_ble_eq_true rfl, Nat.le_of_ble_eq_true rfl, Nat.le_of_ble_eq_true rfl, Nat.le_of_ble_eq_true rfl⟩ rfl (Nat.le_of_ble_eq_true rfl) dX12_name_80 ?_
              rintro r_18 M_19 h_r_18 - ⟨rfl, hf⟩
              refine g_if_eq hC 144 (zi_ h_r_18) dX12_name_83 rfl (fun c_27 => ?_) (fun c_27 => ?_)
              · replace hf := hf.1 c_27
                refine g_aload_n hC 0 dX12_name_144 rfl rfl ?_
                refine g_aload_n hC 0 dX12_name_145 rfl rfl ?_
                refine g_geti hC okX12 sc95 2 (by decide) rfl wf_X12_140 dX12_name_146 ?_
                refine g_puti hC okX12 tnX12 sc95 4 (by decide) rfl rfl (by decide) wf_X12_153 dX12_name_149 ?_
                refine g_nmM (fun M_20 e_M_20 => ?_)
                replace hf := hf M_20 e_M_20
                have h_M_20 : MR M_20 := by rw [e_M_20]; exact MR_st h_M_15 (h_M_15 _ _)
                refine g_iload_n hC 1 dX12_name_152 rfl rfl ?_
                exact g_reti hC h_v1_14 h_M_20 hf dX12_name_153
              · replace hf := hf.2 c_27
                refine g_aload_n hC 0 dX12_name_86 rfl rfl ?_
                refine g_geti hC okX12 sc95 2 (by decide) rfl wf_X12_140 dX12_name_87 ?_
                refine g_aload_n hC 0 dX12_name_90 rfl rfl ?_
                refine g_geti hC okX12 sc95 11 (by decide) rfl wf_X12_180 dX12_name_91 ?_
                refine g_isub hC dX12_name_94 ?_
                refine g_bipush hC dX12_name_95 (by decide) ?_
                obtain ⟨q_21, hf⟩ := hf
                refine g_icmp_ne hC 111 q_21 (by unfold inR; omega) dX12_name_97 rfl (fun c_26 => ?_) (fun c_26 => ?_)
                · replace hf := hf.1 c_26
                  refine g_bipush hC dX12_name_111 (by decide) ?_
                  refine g_iload_n hC 1 dX12_name_113 rfl rfl ?_
                  refine g_imul hC dX12_name_114 ?_
                  refine g_aload_n hC 0 dX12_name_115 rfl rfl ?_
                  refine g_getr hC okX12 sc95 0 (by decide) rfl wf_X12_7 dX12_name_116 ?_
                  refine g_aload_n hC 0 dX12_name_119 rfl rfl ?_
                  refine g_geti hC okX12 sc95 2 (by decide) rfl wf_X12_140 dX12_name_120 ?_
                  refine g_ialdk ((M_15 95 2).toNat) hC sc96 q_17.1 q_17.2 rfl dX12_name_123 ?_
                  refine g_iadd hC dX12_name_124 ?_
                  refine g_bipush hC dX12_name_125 (by decide) ?_
                  refine g_isub hC dX12_name_127 ?_
                  refine g_iconst hC dX12_name_128 ?_
                  refine g_iadd hC dX12_name_129 ?_
                  obtain ⟨q_22, hf⟩ := hf
                  refine g_nm (fun v1_23 e_v1_23 => ?_)
                  replace hf := hf v1_23 e_v1_23
                  have h_v1_23 : inR v1_23 := by rw [e_v1_23]; exact q_22
                  refine g_istore_n hC [(1, J v1_23), (0, .ref (B + 95))] dX12_name_130 rfl (by decide) rfl ?_
                  refine g_aload_n hC 1 dX12_name_131 rfl rfl ?_
                  refine g_dup hC dX12_name_132 rfl ?_
                  refine g_geti hC okX12 sc95 2 (by decide) rfl wf_X12_140 dX12_name_133 ?_
                  refine g_iconst hC dX12_name_136 ?_
                  refine g_iadd hC dX12_name_137 ?_
                  obtain ⟨q_24, hf⟩ := hf
                  refine g_puti hC okX12 tnX12 sc95 2 (by decide) rfl rfl (by decide) wf_X12_140 dX12_name_138 ?_
                  refine g_nmM (fun M_25 e_M_25 => ?_)
                  replace hf := hf M_25 e_M_25
                  have h_M_25 : MR M_25 := by rw [e_M_25]; exact MR_st h_M_15 q_24
                  refine g_goto hC 60 dX12_name_141 rfl ?_
                  refine g_sub [(0, .ref (B + 95)), (1, J v1_23)] [1, 0] rfl ?_
                  exact ih60 v1_23 M_25 hf h_v1_23 h_M_25
                · replace hf := hf.2 c_26
                  refine g_sub [(0, .ref (B + 95))] [0] rfl ?_
                  exact hJ100 M_15 hf h_M_15
        · replace hf := hf.2 c_29
          refine g_sub [(0, .ref (B + 95))] [0] rfl ?_
          exact hJ24 M_10 hf h_M_10
  · replace hf := hf.2 c_31
    refine g_iconst hC dX12_name_7 ?_
    exact g_reti hC (by unfold inR; omega) hM hf dX12_name_8
set_option maxHeartbeats 4000000 in
set_option maxRecDepth 100000 in
theorem c_X12_named (l : Launch) (B : Nat) (D : va_G) (K : Nat → ClassId) (a0 : Nat) (v1 : Int) (v2 : Int) (v3 : Int) (h_a0 : isIA a0) (i_v1 : inR v1) (i_v2 : inR v2) (i_v3 : inR v3) (M : Mem) (hM : MR M) (Q : Int → Prop) (hf : f_X12_named a0 v1 v2 v3 M Q) : CtI l yX12_named cX12_named 5 0 0 B D K [.ref (B + a0), J v1, J v2, J v3] M (fun r M1 => M = M1 ∧ Q r) := by
  refine ct_i (by decide) (Nat.le_of_ble_eq_true rfl) ?_
  intro p e s m args below meth c hC
  have hC : Cx p s m args meth c D K cX12_named 5 RX12 (some .int) := hC
  unfold f_X12_named at hf
  refine (show G p l e (rmF 0 0) s m args below meth c B D K 5 0 0 (ZI below args s B D K (fun r M1 => M = M1 ∧ Q r)) M 0 [(0, .ref (B + a0)), (1, J v1), (2, J v2), (3, J v3)] [] from ?_)
  refine g_iconst hC dX12_named_0 ?_
  refine g_istore hC [(4, J 0), (0, .ref (B + a0)), (1, J v1), (2, J v2), (3, J v3)] dX12_named_1 (by decide) rfl ?_
  refine g_sub [(0, .ref (B + a0)), (1, J v1), (2, J v2), (3, J v3), (4, J 0)] [1, 2, 3, 4, 0] rfl ?_
  refine wl1_elim (fun (v4_1 : Int) => inR v4_1 → G p l e (rmF 0 0) s m args below meth c B D K 5 0 0 (ZI below args s B D K (fun r M1 => M = M1 ∧ Q r)) M 3 [(0, .ref (B + a0)), (1, J v1), (2, J v2), (3, J v3), (4, J v4_1)] []) ?_ 5000 0 hf (by unfold inR; omega)
  intro rec3 ih3 v4_1 hf h_v4_1
  unfold X12_named_b3 at hf
  refine g_iload hC 4 dX12_named_3 rfl ?_
  refine g_iload_n hC 2 dX12_named_5 rfl rfl ?_
  refine g_icmp_ge hC 28 h_v4_1 i_v2 dX12_named_6 rfl (fun c_6 => ?_) (fun c_6 => ?_)
  · replace hf := hf.1 c_6
    refine g_iconst hC dX12_named_28 ?_
    exact g_reti hC (by unfold inR; omega) hM ⟨rfl, hf⟩ dX12_named_29
  · replace hf := hf.2 c_6
    refine g_aload_n hC 0 dX12_named_9 rfl rfl ?_
    refine g_iload_n hC 1 dX12_named_10 rfl rfl ?_
    refine g_iload hC 4 dX12_named_11 rfl ?_
    refine g_iadd hC dX12_named_13 ?_
    obtain ⟨q_2, hf⟩ := hf
    refine g_ialdk ((v1 + v4_1).toNat) hC h_a0 q_2.1 q_2.2 rfl dX12_named_14 ?_
    refine g_iload_n hC 3 dX12_named_15 rfl rfl ?_
    refine g_icmp_ne hC 22 (hM _ _) i_v3 dX12_named_16 rfl (fun c_5 => ?_) (fun c_5 => ?_)
    · replace hf := hf.1 c_5
      obtain ⟨q_4, hf⟩ := hf
      obtain ⟨v4_3, e_v4_3⟩ : ∃ z : Int, z = v4_1 + 1 := ⟨_, rfl⟩
      replace hf := hf v4_3 e_v4_3
      have h_v4_3 : inR v4_3 := by rw [e_v4_3]; exact q_4
      refine g_iincv hC 4 e_v4_3 [(4, J v4_3), (0, .ref (B + a0)), (1, J v1), (2, J v2), (3, J v3)] dX12_named_22 rfl (by decide) rfl ?_
      refine g_goto hC 3 dX12_named_25 rfl ?_
      refine g_sub [(0, .ref (B + a0)), (1, J v1), (2, J v2), (3, J v3), (4, J v4_3)] [1, 2, 3, 4, 0] rfl ?_
      exact ih3 v4_3 hf h_v4_3
    · replace hf := hf.2 c_5
      refine g_iload hC 4 dX12_named_19 rfl ?_
      exact g_reti hC h_v4_1 hM ⟨rfl, hf⟩ dX12_named_21
set_option maxHeartbeats 4000000 in
set_option maxRecDepth 100000 in
theorem c_X12_reachAt (l : Launch) (B : Nat) (D : va_G) (K : Nat → ClassId) (v0 : Int) (v1 : Int) (i_v0 : inR v0) (i_v1 : inR v1) (M : Mem) (hM : MR M) (Q : Int → Prop) (hf : f_X12_reachAt v0 v1 M Q) : CtI l yX12_reachAt cX12_reachAt 2 0 0 B D K [J v0, J v1] M (fun r M1 => M = M1 ∧ Q r) := by
  refine ct_i (by decide) (Nat.le_of_ble_eq_true rfl) ?_
  intro p e s m args below meth c hC
  have hC : Cx p s m args meth c D K cX12_reachAt 2 RX12 (some .int) := hC
  unfold f_X12_reachAt at hf
  refine (show G p l e (rmF 0 0) s m args below meth c B D K 2 0 0 (ZI below args s B D K (fun r M1 => M = M1 ∧ Q r)) M 0 [(0, J v0), (1, J v1)] [] from ?_)
  refine g_bipush hC dX12_reachAt_0 (by decide) ?_
  refine g_iconst hC dX12_reachAt_2 ?_
  refine g_iload_n hC 0 dX12_reachAt_3 rfl rfl ?_
  refine g_imul hC dX12_reachAt_4 ?_
  refine g_iadd hC dX12_reachAt_5 ?_
  refine g_iload_n hC 1 dX12_reachAt_6 rfl rfl ?_
  refine g_iadd hC dX12_reachAt_7 ?_
  obtain ⟨q_1, hf⟩ := hf
  exact g_reti hC q_1 hM ⟨rfl, hf⟩ dX12_reachAt_8
set_option maxHeartbeats 4000000 in
set_option maxRecDepth 100000 in
theorem c_X12_comes (l : Launch) (B : Nat) (D : va_G) (K : Nat → ClassId) (a0 : Nat) (v1 : Int) (v2 : Int) (v3 : Int) (h_a0 : isIA a0) (i_v1 : inR v1) (i_v2 : inR v2) (i_v3 : inR v3) (M : Mem) (hM : MR M) (Q : Int → Prop) (hf : f_X12_comes a0 v1 v2 v3 M Q) : CtZ l yX12_comes cX12_comes 7 1 21 B D K [.ref (B + a0), J v1, J v2, J v3] M (fun r M1 => M = M1 ∧ Q r) := by
  refine ct_z (by decide) (Nat.le_of_ble_eq_true rfl) ?_
  intro p e s m args below meth c hC
  have hC : Cx p s m args meth c D K cX12_comes 7 RX12 (some .boolean) := hC
  unfold f_X12_comes at hf
  refine (show G p l e (rmF 1 21) s m args below meth c B D K 7 0 0 (ZZ below args s B D K (fun r M1 => M = M1 ∧ Q r)) M 0 [(0, .ref (B + a0)), (1, J v1), (2, J v2), (3, J v3)] [] from ?_)
  refine g_iconst hC dX12_comes_0 ?_
  refine g_iload_n hC 1 dX12_comes_1 rfl rfl ?_
  refine g_ishl hC dX12_comes_2 ?_
  refine g_nm (fun v4_1 e_v4_1 => ?_)
  replace hf := hf v4_1 e_v4_1
  have h_v4_1 : inR v4_1 := by rw [e_v4_1]; exact (bShl_in _ _)
  refine g_istore hC [(4, J v4_1), (0, .ref (B + a0)), (1, J v1), (2, J v2), (3, J v3)] dX12_comes_3 (by decide) rfl ?_
  refine g_iconst hC dX12_comes_5 ?_
  refine g_istore hC [(5, J 0), (4, J v4_1), (0, .ref (B + a0)), (1, J v1), (2, J v2), (3, J v3)] dX12_comes_6 (by decide) rfl ?_
  refine jn_elim (fun (k : Int → Prop) => ∀ (v4_2 : Int), k v4_2 → (inR v4_2) → G p l e (rmF 1 21) s m args below meth c B D K 7 0 0 (ZZ below args s B D K (fun r M1 => M = M1 ∧ Q r)) M 76 [(2, J v2), (4, J v4_2)] []) hf ?_ ?_
  · intro v4_2 hf h_v4_2
    refine g_iload hC 1 dX12_comes_76 rfl ?_
    refine g_iload_n hC 0 dX12_comes_78 rfl rfl ?_
    refine g_callSZ hC (sk := []) [J v4_2, J v2] (c_X12_isOf l B D K v4_2 v2 h_v4_2 i_v2 M hM _ hf) yv_X12_isOf wm_X12_187 rfl ⟨Nat.le_of_ble_eq_true rfl, Nat.le_of_ble_eq_true rfl, Nat.le_of_ble_eq_true rfl, Nat.le_of_ble_eq_true rfl⟩ rfl (Nat.le_of_ble_eq_true rfl) dX12_comes_79 ?_
    rintro r_3 M_4 h_r_3 - ⟨rfl, hf⟩
    exact g_retz hC h_r_3 hM ⟨rfl, hf⟩ dX12_comes_82
  · intro J76 hJ76 hf
    refine g_sub [(0, .ref (B + a0)), (2, J v2), (3, J v3), (4, J v4_1), (5, J 0)] [2, 4, 5, 1, 0] rfl ?_
    refine wl2_elim (fun (v4_5 : Int) (v5_6 : Int) => inR v4_5 → inR v5_6 → G p l e (rmF 1 21) s m args below meth c B D K 7 0 0 (ZZ below args s B D K (fun r M1 => M = M1 ∧ Q r)) M 8 [(0, .ref (B + a0)), (2, J v2), (3, J v3), (4, J v4_5), (5, J v5_6)] []) ?_ 5000 v4_1 0 hf h_v4_1 (by unfold inR; omega)
    intro rec8 ih8 v4_5 v5_6 hf h_v4_5 h_v5_6
    unfold X12_comes_b8 at hf
    refine g_iload hC 4 dX12_comes_8 rfl ?_
    refine g_iload hC 3 dX12_comes_10 rfl ?_
    refine g_icmp_eq hC 76 h_v5_6 h_v4_5 dX12_comes_12 rfl (fun c_28 => ?_) (fun c_28 => ?_)
    · replace hf := hf.1 c_28
      refine g_sub [(2, J v2), (4, J v4_5)] [1, 3] rfl ?_
      exact hJ76 v4_5 hf h_v4_5
    · replace hf := hf.2 c_28
      refine g_iload hC 3 dX12_comes_15 rfl ?_
      refine g_istore hC [(5, J v4_5), (0, .ref (B + a0)), (2, J v2), (3, J v3), (4, J v4_5)] dX12_comes_17 (by decide) rfl ?_
      refine g_iconst hC dX12_comes_19 ?_
      refine g_istore hC [(6, J 0), (5, J v4_5), (0, .ref (B + a0)), (2, J v2), (3, J v3), (4, J v4_5)] dX12_comes_20 (by decide) rfl ?_
      refine g_sub [(0, .ref (B + a0)), (2, J v2), (3, J v3), (4, J v4_5), (5, J v4_5), (6, J 0)] [2, 3, 4, 5, 1, 0] rfl ?_
      refine wl2_elim (fun (v4_7 : Int) (v6_8 : Int) => inR v4_7 → inR v6_8 → G p l e (rmF 1 21) s m args below meth c B D K 7 0 0 (ZZ below args s B D K (fun r M1 => M = M1 ∧ Q r)) M 22 [(0, .ref (B + a0)), (2, J v2), (3, J v3), (4, J v4_7), (5, J v4_5), (6, J v6_8)] []) ?_ 5000 v4_5 0 hf h_v4_5 (by unfold inR; omega)
      intro rec22 ih22 v4_7 v6_8 hf h_v4_7 h_v6_8
      unfold X12_comes_b22 at hf
      refine g_iload hC 5 dX12_comes_22 rfl ?_
      refine g_aload_n hC 0 dX12_comes_24 rfl rfl ?_
      refine g_iconst hC dX12_comes_25 ?_
      obtain ⟨q_9, hf⟩ := hf
      refine g_ialdk 1 hC h_a0 q_9.1 q_9.2 rfl dX12_comes_26 ?_
      refine g_icmp_ge hC 73 h_v6_8 (hM _ _) dX12_comes_27 rfl (fun c_27 => ?_) (fun c_27 => ?_)
      · replace hf := hf.1 c_27
        refine g_goto hC 8 dX12_comes_73 rfl ?_
        refine g_sub [(0, .ref (B + a0)), (2, J v2), (3, J v3), (4, J v4_7), (5, J v4_5)] [0, 1, 2, 3, 4] rfl ?_
        exact ih8 v4_7 v4_5 hf h_v4_7 h_v4_5
      · replace hf := hf.2 c_27
        refine g_iload hC 5 dX12_comes_30 rfl ?_
        refine g_iload_n hC 2 dX12_comes_32 rfl rfl ?_
        refine g_icmp_eq hC 67 h_v6_8 i_v3 dX12_comes_33 rfl (fun c_26 => ?_) (fun c_26 => ?_)
        · replace hf := hf.1 c_26
          obtain ⟨q_11, hf⟩ := hf
          obtain ⟨v6_10, e_v6_10⟩ : ∃ z : Int, z = v6_8 + 1 := ⟨_, rfl⟩
          replace hf := hf v6_10 e_v6_10
          have h_v6_10 : inR v6_10 := by rw [e_v6_10]; exact q_11
          refine g_iincv hC 5 e_v6_10 [(6, J v6_10), (0, .ref (B + a0)), (2, J v2), (3, J v3), (4, J v4_7), (5, J v4_5)] dX12_comes_67 rfl (by decide) rfl ?_
          refine g_goto hC 22 dX12_comes_70 rfl ?_
          refine g_sub [(0, .ref (B + a0)), (2, J v2), (3, J v3), (4, J v4_7), (5, J v4_5), (6, J v6_10)] [1, 2, 3, 4, 5, 0] rfl ?_
          exact ih22 v4_7 v6_10 hf h_v4_7 h_v6_10
        · replace hf := hf.2 c_26
          refine g_iload hC 3 dX12_comes_36 rfl ?_
          refine g_aload_n hC 0 dX12_comes_38 rfl rfl ?_
          refine g_iload hC 5 dX12_comes_39 rfl ?_
          refine g_iconst hC dX12_comes_41 ?_
          refine g_callSI hC (sk := [.ref (B + a0), J v4_7]) [J v6_8, J 0] (c_X12_reachAt l B D K v6_8 0 h_v6_8 (by unfold inR; omega) M hM _ hf) yv_X12_reachAt wm_X12_183 rfl ⟨Nat.le_of_ble_eq_true rfl, Nat.le_of_ble_eq_true rfl, Nat.le_of_ble_eq_true rfl, Nat.le_of_ble_eq_true rfl⟩ rfl (Nat.le_of_ble_eq_true rfl) dX12_comes_42 ?_
          rintro r_12 M_13 h_r_12 - ⟨rfl, hf⟩
          obtain ⟨q_14, hf⟩ := hf
          refine g_ialdk (r_12.toNat) hC h_a0 q_14.1 q_14.2 rfl dX12_comes_45 ?_
          refine g_callSZ hC (sk := []) [J v4_7, J (M a0 (r_12.toNat))] (c_X12_isOf l B D K v4_7 (M a0 (r_12.toNat)) h_v4_7 (hM _ _) M hM _ hf) yv_X12_isOf wm_X12_187 rfl ⟨Nat.le_of_ble_eq_true rfl, Nat.le_of_ble_eq_true rfl, Nat.le_of_ble_eq_true rfl, Nat.le_of_ble_eq_true rfl⟩ rfl (Nat.le_of_ble_eq_true rfl) dX12_comes_46 ?_
          rintro r_15 M_16 h_r_15 - ⟨rfl, hf⟩
          refine g_if_eq hC 67 (zi_ h_r_15) dX12_comes_49 rfl (fun c_25 => ?_) (fun c_25 => ?_)
          · replace hf := hf.1 c_25
            obtain ⟨q_18, hf⟩ := hf
            obtain ⟨v6_17, e_v6_17⟩ : ∃ z : Int, z = v6_8 + 1 := ⟨_, rfl⟩
            replace hf := hf v6_17 e_v6_17
            have h_v6_17 : inR v6_17 := by rw [e_v6_17]; exact q_18
            refine g_iincv hC 5 e_v6_17 [(6, J v6_17), (0, .ref (B + a0)), (2, J v2), (3, J v3), (4, J v4_7), (5, J v4_5)] dX12_comes_67 rfl (by decide) rfl ?_
            refine g_goto hC 22 dX12_comes_70 rfl ?_
            refine g_sub [(0, .ref (B + a0)), (2, J v2), (3, J v3), (4, J v4_7), (5, J v4_5), (6, J v6_17)] [1, 2, 3, 4, 5, 0] rfl ?_
            exact ih22 v4_7 v6_17 hf h_v4_7 h_v6_17
          · replace hf := hf.2 c_25
            refine g_iload hC 3 dX12_comes_52 rfl ?_
            refine g_iconst hC dX12_comes_54 ?_
            refine g_aload_n hC 0 dX12_comes_55 rfl rfl ?_
            refine g_iload hC 5 dX12_comes_56 rfl ?_
            refine g_iconst hC dX12_comes_58 ?_
            refine g_callSI hC (sk := [.ref (B + a0), J 1, J v4_7]) [J v6_8, J 1] (c_X12_reachAt l B D K v6_8 1 h_v6_8 (by unfold inR; omega) M hM _ hf) yv_X12_reachAt wm_X12_183 rfl ⟨Nat.le_of_ble_eq_true rfl, Nat.le_of_ble_eq_true rfl, Nat.le_of_ble_eq_true rfl, Nat.le_of_ble_eq_true rfl⟩ rfl (Nat.le_of_ble_eq_true rfl) dX12_comes_59 ?_
            rintro r_19 M_20 h_r_19 - ⟨rfl, hf⟩
            obtain ⟨q_21, hf⟩ := hf
            refine g_ialdk (r_19.toNat) hC h_a0 q_21.1 q_21.2 rfl dX12_comes_62 ?_
            refine g_ishl hC dX12_comes_63 ?_
            refine g_ior hC dX12_comes_64 ?_
            refine g_nm (fun v4_22 e_v4_22 => ?_)
            replace hf := hf v4_22 e_v4_22
            have h_v4_22 : inR v4_22 := by rw [e_v4_22]; exact (bOr_in _ _)
            refine g_istore hC [(4, J v4_22), (0, .ref (B + a0)), (2, J v2), (3, J v3), (5, J v4_5), (6, J v6_8)] dX12_comes_65 (by decide) rfl ?_
            obtain ⟨q_24, hf⟩ := hf
            obtain ⟨v6_23, e_v6_23⟩ : ∃ z : Int, z = v6_8 + 1 := ⟨_, rfl⟩
            replace hf := hf v6_23 e_v6_23
            have h_v6_23 : inR v6_23 := by rw [e_v6_23]; exact q_24
            refine g_iincv hC 5 e_v6_23 [(6, J v6_23), (4, J v4_22), (0, .ref (B + a0)), (2, J v2), (3, J v3), (5, J v4_5)] dX12_comes_67 rfl (by decide) rfl ?_
            refine g_goto hC 22 dX12_comes_70 rfl ?_
            refine g_sub [(0, .ref (B + a0)), (2, J v2), (3, J v3), (4, J v4_22), (5, J v4_5), (6, J v6_23)] [2, 3, 4, 1, 5, 0] rfl ?_
            exact ih22 v4_22 v6_23 hf h_v4_22 h_v6_23
set_option maxHeartbeats 4000000 in
set_option maxRecDepth 100000 in
theorem c_X12_laysReach (l : Launch) (B : Nat) (D : va_G) (K : Nat → ClassId) (a0 : Nat) (v1 : Int) (v2 : Int) (v3 : Int) (v4 : Int) (v5 : Int) (h_a0 : isIA a0) (i_v1 : inR v1) (i_v2 : inR v2) (i_v3 : inR v3) (i_v4 : inR v4) (i_v5 : inR v5) (M : Mem) (hM : MR M) (Q : Mem → Prop) (hf : f_X12_laysReach a0 v1 v2 v3 v4 v5 M Q) : CtV l yX12_laysReach cX12_laysReach 7 1 21 B D K [.ref (B + a0), J v1, J v2, J v3, J v4, J v5] M Q := by
  refine ct_v (by decide) (Nat.le_of_ble_eq_true rfl) ?_
  intro p e s m args below meth c hC
  have hC : Cx p s m args meth c D K cX12_laysReach 7 RX12 none := hC
  unfold f_X12_laysReach at hf
  refine (show G p l e (rmF 1 21) s m args below meth c B D K 7 0 0 (ZV below args s B D K Q) M 0 [(0, .ref (B + a0)), (1, J v1), (2, J v2), (3, J v3), (4, J v4), (5, J v5)] [] from ?_)
  refine g_aload_n hC 0 dX12_laysReach_0 rfl rfl ?_
  refine g_iconst hC dX12_laysReach_1 ?_
  obtain ⟨q_1, hf⟩ := hf
  refine g_ialdk 1 hC h_a0 q_1.1 q_1.2 rfl dX12_laysReach_2 ?_
  refine g_nm (fun v6_2 e_v6_2 => ?_)
  replace hf := hf v6_2 e_v6_2
  have h_v6_2 : inR v6_2 := by rw [e_v6_2]; exact (hM _ _)
  refine g_istore hC [(6, J v6_2), (0, .ref (B + a0)), (1, J v1), (2, J v2), (3, J v3), (4, J v4), (5, J v5)] dX12_laysReach_3 (by decide) rfl ?_
  refine g_aload_n hC 1 dX12_laysReach_5 rfl rfl ?_
  refine g_iload hC 0 dX12_laysReach_6 rfl ?_
  refine g_iconst hC dX12_laysReach_8 ?_
  refine g_callSI hC (sk := [.ref (B + a0)]) [J v6_2, J 0] (c_X12_reachAt l B D K v6_2 0 h_v6_2 (by unfold inR; omega) M hM _ hf) yv_X12_reachAt wm_X12_183 rfl ⟨Nat.le_of_ble_eq_true rfl, Nat.le_of_ble_eq_true rfl, Nat.le_of_ble_eq_true rfl, Nat.le_of_ble_eq_true rfl⟩ rfl (Nat.le_of_ble_eq_true rfl) dX12_laysReach_9 ?_
  rintro r_3 M_4 h_r_3 - ⟨rfl, hf⟩
  refine g_iload_n hC 2 dX12_laysReach_12 rfl rfl ?_
  obtain ⟨q_5, hf⟩ := hf
  refine g_iastk (r_3.toNat) hC h_a0 q_5.1 q_5.2 rfl dX12_laysReach_13 ?_
  refine g_nmM (fun M_6 e_M_6 => ?_)
  replace hf := hf M_6 e_M_6
  have h_M_6 : MR M_6 := by rw [e_M_6]; exact MR_st hM i_v1
  refine g_aload_n hC 1 dX12_laysReach_14 rfl rfl ?_
  refine g_iload hC 0 dX12_laysReach_15 rfl ?_
  refine g_iconst hC dX12_laysReach_17 ?_
  refine g_callSI hC (sk := [.ref (B + a0)]) [J v6_2, J 1] (c_X12_reachAt l B D K v6_2 1 h_v6_2 (by unfold inR; omega) M_6 h_M_6 _ hf) yv_X12_reachAt wm_X12_183 rfl ⟨Nat.le_of_ble_eq_true rfl, Nat.le_of_ble_eq_true rfl, Nat.le_of_ble_eq_true rfl, Nat.le_of_ble_eq_true rfl⟩ rfl (Nat.le_of_ble_eq_true rfl) dX12_laysReach_18 ?_
  rintro r_7 M_8 h_r_7 - ⟨rfl, hf⟩
  refine g_iload_n hC 3 dX12_laysReach_21 rfl rfl ?_
  obtain ⟨q_9, hf⟩ := hf
  refine g_iastk (r_7.toNat) hC h_a0 q_9.1 q_9.2 rfl dX12_laysReach_22 ?_
  refine g_nmM (fun M_10 e_M_10 => ?_)
  replace hf := hf M_10 e_M_10
  have h_M_10 : MR M_10 := by rw [e_M_10]; exact MR_st h_M_6 i_v2
  refine g_aload_n hC 1 dX12_laysReach_23 rfl rfl ?_
  refine g_iload hC 0 dX12_laysReach_24 rfl ?_
  refine g_iconst hC dX12_laysReach_26 ?_
  refine g_callSI hC (sk := [.ref (B + a0)]) [J v6_2, J 2] (c_X12_reachAt l B D K v6_2 2 h_v6_2 (by unfold inR; omega) M_10 h_M_10 _ hf) yv_X12_reachAt wm_X12_183 rfl ⟨Nat.le_of_ble_eq_true rfl, Nat.le_of_ble_eq_true rfl, Nat.le_of_ble_eq_true rfl, Nat.le_of_ble_eq_true rfl⟩ rfl (Nat.le_of_ble_eq_true rfl) dX12_laysReach_27 ?_
  rintro r_11 M_12 h_r_11 - ⟨rfl, hf⟩
  refine g_iload_n hC 4 dX12_laysReach_30 rfl rfl ?_
  obtain ⟨q_13, hf⟩ := hf
  refine g_iastk (r_11.toNat) hC h_a0 q_13.1 q_13.2 rfl dX12_laysReach_31 ?_
  refine g_nmM (fun M_14 e_M_14 => ?_)
  replace hf := hf M_14 e_M_14
  have h_M_14 : MR M_14 := by rw [e_M_14]; exact MR_st h_M_10 i_v3
  refine g_aload_n hC 1 dX12_laysReach_32 rfl rfl ?_
  refine g_iload hC 0 dX12_laysReach_33 rfl ?_
  refine g_iconst hC dX12_laysReach_35 ?_
  refine g_callSI hC (sk := [.ref (B + a0)]) [J v6_2, J 3] (c_X12_reachAt l B D K v6_2 3 h_v6_2 (by unfold inR; omega) M_14 h_M_14 _ hf) yv_X12_reachAt wm_X12_183 rfl ⟨Nat.le_of_ble_eq_true rfl, Nat.le_of_ble_eq_true rfl, Nat.le_of_ble_eq_true rfl, Nat.le_of_ble_eq_true rfl⟩ rfl (Nat.le_of_ble_eq_true rfl) dX12_laysReach_36 ?_
  rintro r_15 M_16 h_r_15 - ⟨rfl, hf⟩
  refine g_iload hC 5 dX12_laysReach_39 rfl ?_
  obtain ⟨q_17, hf⟩ := hf
  refine g_iastk (r_15.toNat) hC h_a0 q_17.1 q_17.2 rfl dX12_laysReach_41 ?_
  refine g_nmM (fun M_18 e_M_18 => ?_)
  replace hf := hf M_18 e_M_18
  have h_M_18 : MR M_18 := by rw [e_M_18]; exact MR_st h_M_14 i_v4
  refine g_aload_n hC 1 dX12_laysReach_42 rfl rfl ?_
  refine g_iload hC 0 dX12_laysReach_43 rfl ?_
  refine g_iconst hC dX12_laysReach_45 ?_
  refine g_callSI hC (sk := [.ref (B + a0)]) [J v6_2, J 4] (c_X12_reachAt l B D K v6_2 4 h_v6_2 (by unfold inR; omega) M_18 h_M_18 _ hf) yv_X12_reachAt wm_X12_183 rfl ⟨Nat.le_of_ble_eq_true rfl, Nat.le_of_ble_eq_true rfl, Nat.le_of_ble_eq_true rfl, Nat.le_of_ble_eq_true rfl⟩ rfl (Nat.le_of_ble_eq_true rfl) dX12_laysReach_46 ?_
  rintro r_19 M_20 h_r_19 - ⟨rfl, hf⟩
  refine g_iload hC 6 dX12_laysReach_49 rfl ?_
  obtain ⟨q_21, hf⟩ := hf
  refine g_iastk (r_19.toNat) hC h_a0 q_21.1 q_21.2 rfl dX12_laysReach_51 ?_
  refine g_nmM (fun M_22 e_M_22 => ?_)
  replace hf := hf M_22 e_M_22
  have h_M_22 : MR M_22 := by rw [e_M_22]; exact MR_st h_M_18 i_v5
  refine g_aload_n hC 1 dX12_laysReach_52 rfl rfl ?_
  refine g_iconst hC dX12_laysReach_53 ?_
  refine g_dup2 hC dX12_laysReach_54 rfl rfl ?_
  refine g_ialdk 1 hC h_a0 q_1.1 q_1.2 rfl dX12_laysReach_55 ?_
  refine g_iconst hC dX12_laysReach_56 ?_
  refine g_iadd hC dX12_laysReach_57 ?_
  obtain ⟨q_23, hf⟩ := hf
  refine g_iastk 1 hC h_a0 q_1.1 q_1.2 rfl dX12_laysReach_58 ?_
  refine g_nmM (fun M_24 e_M_24 => ?_)
  replace hf := hf M_24 e_M_24
  have h_M_24 : MR M_24 := by rw [e_M_24]; exact MR_st h_M_22 q_23
  exact g_retv hC h_M_24 hf dX12_laysReach_59
set_option maxHeartbeats 4000000 in
set_option maxRecDepth 100000 in
theorem c_X12_placesTold (l : Launch) (B : Nat) (D : va_G) (K : Nat → ClassId)   (M : Mem) (hM : MR M) (Q : Mem → Prop) (hf : f_X12_placesTold  M Q) : CtV l yX12_placesTold cX12_placesTold 3 4 85 B D K [.ref (B + 95)] M Q := by
  refine ct_v (by decide) (Nat.le_of_ble_eq_true rfl) ?_
  intro p e s m args below meth c hC
  have hC : Cx p s m args meth c D K cX12_placesTold 3 RX12 none := hC
  unfold f_X12_placesTold at hf
  refine (show G p l e (rmF 4 85) s m args below meth c B D K 3 0 0 (ZV below args s B D K Q) M 0 [(0, .ref (B + 95))] [] from ?_)
  refine g_aload_n hC 0 dX12_placesTold_0 rfl rfl ?_
  refine g_geti hC okX12 sc95 5 (by decide) rfl wf_X12_134 dX12_placesTold_1 ?_
  refine jn_elim (fun (k : Int → Prop) => ∀ (s0_1 : Int), k s0_1 → ((s0_1 = 0 ∨ s0_1 = 1)) → G p l e (rmF 4 85) s m args below meth c B D K 3 0 0 (ZV below args s B D K Q) M 12 [(0, .ref (B + 95))] [J s0_1]) hf ?_ ?_
  · intro s0_1 hf h_s0_1
    refine g_istore_n hC [(1, J s0_1), (0, .ref (B + 95))] dX12_placesTold_12 rfl (by decide) rfl ?_
    refine g_sub [(0, .ref (B + 95)), (1, J s0_1)] [1, 0] rfl ?_
    refine wl2_elim (fun (v1_2 : Int) (M_3 : Mem) => (v1_2 = 0 ∨ v1_2 = 1) → MR M_3 → G p l e (rmF 4 85) s m args below meth c B D K 3 0 0 (ZV below args s B D K Q) M_3 13 [(0, .ref (B + 95)), (1, J v1_2)] []) ?_ 5000 s0_1 M hf h_s0_1 hM
    intro rec13 ih13 v1_2 M_3 hf h_v1_2 h_M_3
    unfold X12_placesTold_b13 at hf
    refine g_iload_n hC 1 dX12_placesTold_13 rfl rfl ?_
    refine g_if_eq hC 138 (zi_ h_v1_2) dX12_placesTold_14 rfl (fun c_27 => ?_) (fun c_27 => ?_)
    · replace hf := hf.1 c_27
      exact g_retv hC h_M_3 hf dX12_placesTold_138
    · replace hf := hf.2 c_27
      refine g_aload_n hC 0 dX12_placesTold_17 rfl rfl ?_
      refine g_callVI hC (sk := []) [] (c_X12_look l B D K   M_3 h_M_3 _ hf) yv_X12_look wm_X12_146 okX12.1 sc95 rfl ⟨Nat.le_of_ble_eq_true rfl, Nat.le_of_ble_eq_true rfl, Nat.le_of_ble_eq_true rfl, Nat.le_of_ble_eq_true rfl⟩ rfl (Nat.le_of_ble_eq_true rfl) dX12_placesTold_18 ?_
      intro r_4 M_5 h_r_4 h_M_5 hf
      refine g_pop hC dX12_placesTold_21 rfl ?_
      refine g_aload_n hC 0 dX12_placesTold_22 rfl rfl ?_
      refine g_getr hC okX12 sc95 12 (by decide) rfl wf_X12_24 dX12_placesTold_23 ?_
      refine g_iconst hC dX12_placesTold_26 ?_
      refine g_ialdk 0 hC sc99 (by decide) (by decide) rfl dX12_placesTold_27 ?_
      refine g_bipush hC dX12_placesTold_28 (by decide) ?_
      refine jn_elim (fun (k : Mem → Prop) => ∀ (M_6 : Mem), k M_6 → (MR M_6) → G p l e (rmF 4 85) s m args below meth c B D K 3 0 0 (ZV below args s B D K Q) M_6 57 [(0, .ref (B + 95))] []) hf ?_ ?_
      · intro M_6 hf h_M_6
        refine g_aload_n hC 0 dX12_placesTold_57 rfl rfl ?_
        refine g_callVI hC (sk := []) [] (c_X12_name l B D K   M_6 h_M_6 _ hf) yv_X12_name wm_X12_190 okX12.1 sc95 rfl ⟨Nat.le_of_ble_eq_true rfl, Nat.le_of_ble_eq_true rfl, Nat.le_of_ble_eq_true rfl, Nat.le_of_ble_eq_true rfl⟩ rfl (Nat.le_of_ble_eq_true rfl) dX12_placesTold_58 ?_
        intro r_7 M_8 h_r_7 h_M_8 hf
        refine g_istore_n hC [(2, J r_7), (0, .ref (B + 95))] dX12_placesTold_61 rfl (by decide) rfl ?_
        refine g_aload_n hC 1 dX12_placesTold_62 rfl rfl ?_
        refine g_geti hC okX12 sc95 5 (by decide) rfl wf_X12_134 dX12_placesTold_63 ?_
        refine jn_elim (fun (k : Mem → Prop) => ∀ (M_9 : Mem), k M_9 → (MR M_9) → G p l e (rmF 4 85) s m args below meth c B D K 3 0 0 (ZV below args s B D K Q) M_9 97 [(0, .ref (B + 95)), (2, J r_7)] []) hf ?_ ?_
        · intro M_9 hf h_M_9
          refine g_aload_n hC 0 dX12_placesTold_97 rfl rfl ?_
          refine g_geti hC okX12 sc95 5 (by decide) rfl wf_X12_134 dX12_placesTold_98 ?_
          refine jn_elim (fun (k : Mem → Prop) => ∀ (M_10 : Mem), k M_10 → (MR M_10) → G p l e (rmF 4 85) s m args below meth c B D K 3 0 0 (ZV below args s B D K Q) M_10 128 [(0, .ref (B + 95))] []) hf ?_ ?_
          · intro M_10 hf h_M_10
            refine g_aload_n hC 0 dX12_placesTold_128 rfl rfl ?_
            refine g_bipush hC dX12_placesTold_129 (by decide) ?_
            refine g_callVZ hC (sk := []) [J 44] (c_X12_takesSign l B D K 44 (by unfold inR; omega) M_10 h_M_10 _ hf) yv_X12_takesSign wm_X12_156 okX12.1 sc95 rfl ⟨Nat.le_of_ble_eq_true rfl, Nat.le_of_ble_eq_true rfl, Nat.le_of_ble_eq_true rfl, Nat.le_of_ble_eq_true rfl⟩ rfl (Nat.le_of_ble_eq_true rfl) dX12_placesTold_131 ?_
            intro r_11 M_12 h_r_11 h_M_12 hf
            refine g_istore_n hC [(1, J r_11), (0, .ref (B + 95))] dX12_placesTold_134 rfl (by decide) rfl ?_
            refine g_goto hC 13 dX12_placesTold_135 rfl ?_
            refine g_sub [(0, .ref (B + 95)), (1, J r_11)] [1, 0] rfl ?_
            exact ih13 r_11 M_12 hf h_r_11 h_M_12
          · intro J128 hJ128 hf
            refine g_if_ne hC 128 (h_M_9 _ _) dX12_placesTold_101 rfl (fun c_17 => ?_) (fun c_17 => ?_)
            · replace hf := hf.1 c_17
              refine g_sub [(0, .ref (B + 95))] [0] rfl ?_
              exact hJ128 M_9 hf h_M_9
            · replace hf := hf.2 c_17
              refine g_aload_n hC 0 dX12_placesTold_104 rfl rfl ?_
              refine g_getr hC okX12 sc95 12 (by decide) rfl wf_X12_24 dX12_placesTold_105 ?_
              refine g_iconst hC dX12_placesTold_108 ?_
              refine g_aload_n hC 0 dX12_placesTold_109 rfl rfl ?_
              refine g_getr hC okX12 sc95 12 (by decide) rfl wf_X12_24 dX12_placesTold_110 ?_
              refine g_iconst hC dX12_placesTold_113 ?_
              refine g_ialdk 0 hC sc99 (by decide) (by decide) rfl dX12_placesTold_114 ?_
              refine g_iadd hC dX12_placesTold_115 ?_
              refine g_iload_n hC 1 dX12_placesTold_116 rfl rfl ?_
              obtain ⟨q_13, hf⟩ := hf
              refine g_iastk ((3 + (M_9 99 0)).toNat) hC sc99 q_13.1 q_13.2 rfl dX12_placesTold_117 ?_
              refine g_nmM (fun M_14 e_M_14 => ?_)
              replace hf := hf M_14 e_M_14
              have h_M_14 : MR M_14 := by rw [e_M_14]; exact MR_st h_M_9 h_r_7
              refine g_aload_n hC 0 dX12_placesTold_118 rfl rfl ?_
              refine g_getr hC okX12 sc95 12 (by decide) rfl wf_X12_24 dX12_placesTold_119 ?_
              refine g_iconst hC dX12_placesTold_122 ?_
              refine g_dup2 hC dX12_placesTold_123 rfl rfl ?_
              refine g_ialdk 0 hC sc99 (by decide) (by decide) rfl dX12_placesTold_124 ?_
              refine g_iconst hC dX12_placesTold_125 ?_
              refine g_iadd hC dX12_placesTold_126 ?_
              obtain ⟨q_15, hf⟩ := hf
              refine g_iastk 0 hC sc99 (by decide) (by decide) rfl dX12_placesTold_127 ?_
              refine g_nmM (fun M_16 e_M_16 => ?_)
              replace hf := hf M_16 e_M_16
              have h_M_16 : MR M_16 := by rw [e_M_16]; exact MR_st h_M_14 q_15
              refine g_sub [(0, .ref (B + 95))] [0] rfl ?_
              exact hJ128 M_16 hf h_M_16
        · intro J97 hJ97 hf
          refine g_if_ne hC 97 (h_M_8 _ _) dX12_placesTold_66 rfl (fun c_22 => ?_) (fun c_22 => ?_)
          · replace hf := hf.1 c_22
            refine g_sub [(0, .ref (B + 95)), (2, J r_7)] [1, 0] rfl ?_
            exact hJ97 M_8 hf h_M_8
          · replace hf := hf.2 c_22
            refine g_aload_n hC 1 dX12_placesTold_69 rfl rfl ?_
            refine g_getr hC okX12 sc95 12 (by decide) rfl wf_X12_24 dX12_placesTold_70 ?_
            refine g_iconst hC dX12_placesTold_73 ?_
            refine g_aload_n hC 1 dX12_placesTold_74 rfl rfl ?_
            refine g_getr hC okX12 sc95 12 (by decide) rfl wf_X12_24 dX12_placesTold_75 ?_
            refine g_iconst hC dX12_placesTold_78 ?_
            refine g_ialdk 0 hC sc99 (by decide) (by decide) rfl dX12_placesTold_79 ?_
            refine g_iload_n hC 0 dX12_placesTold_80 rfl rfl ?_
            refine g_callSI hC (sk := []) [.ref (B + 99), J 3, J (M_8 99 0), J r_7] (c_X12_named l B D K 99 3 (M_8 99 0) r_7 (isIA_of sc99) (by unfold inR; omega) (h_M_8 _ _) h_r_7 M_8 h_M_8 _ hf) yv_X12_named wm_X12_193 rfl ⟨Nat.le_of_ble_eq_true rfl, Nat.le_of_ble_eq_true rfl, Nat.le_of_ble_eq_true rfl, Nat.le_of_ble_eq_true rfl⟩ rfl (Nat.le_of_ble_eq_true rfl) dX12_placesTold_81 ?_
            rintro r_18 M_19 h_r_18 - ⟨rfl, hf⟩
            refine g_iconst hC dX12_placesTold_84 ?_
            refine g_icmp_eq hC 97 h_r_18 (by unfold inR; omega) dX12_placesTold_85 rfl (fun c_21 => ?_) (fun c_21 => ?_)
            · replace hf := hf.1 c_21
              refine g_sub [(0, .ref (B + 95)), (2, J r_7)] [1, 0] rfl ?_
              exact hJ97 M_8 hf h_M_8
            · replace hf := hf.2 c_21
              refine g_aload_n hC 1 dX12_placesTold_88 rfl rfl ?_
              refine g_iconst hC dX12_placesTold_89 ?_
              refine g_aload_n hC 1 dX12_placesTold_90 rfl rfl ?_
              refine g_geti hC okX12 sc95 11 (by decide) rfl wf_X12_180 dX12_placesTold_91 ?_
              refine g_callVV hC (sk := []) [J 3, J (M_8 95 11)] (c_X12_fail l B D K 3 (M_8 95 11) (by unfold inR; omega) (h_M_8 _ _) M_8 h_M_8 _ hf) yv_X12_fail wm_X12_159 okX12.1 sc95 rfl ⟨Nat.le_of_ble_eq_true rfl, Nat.le_of_ble_eq_true rfl, Nat.le_of_ble_eq_true rfl, Nat.le_of_ble_eq_true rfl⟩ rfl (Nat.le_of_ble_eq_true rfl) dX12_placesTold_94 ?_
              intro M_20 h_M_20 hf
              refine g_sub [(0, .ref (B + 95)), (2, J r_7)] [1, 0] rfl ?_
              exact hJ97 M_20 hf h_M_20
      · intro J57 hJ57 hf
        refine g_icmp_ne hC 57 (h_M_5 _ _) (by unfold inR; omega) dX12_placesTold_30 rfl (fun c_26 => ?_) (fun c_26 => ?_)
        · replace hf := hf.1 c_26
          refine g_sub [(0, .ref (B + 95))] [0] rfl ?_
          exact hJ57 M_5 hf h_M_5
        · replace hf := hf.2 c_26
          refine g_aload_n hC 0 dX12_placesTold_33 rfl rfl ?_
          refine g_aload_n hC 0 dX12_placesTold_34 rfl rfl ?_
          refine g_geti hC okX12 sc95 2 (by decide) rfl wf_X12_140 dX12_placesTold_35 ?_
          refine g_aload_n hC 0 dX12_placesTold_38 rfl rfl ?_
          refine g_geti hC okX12 sc95 3 (by decide) rfl wf_X12_143 dX12_placesTold_39 ?_
          refine jn_elim (fun (k : Int → Prop) => ∀ (s1_23 : Int), k s1_23 → (inR s1_23) → G p l e (rmF 4 85) s m args below meth c B D K 3 0 0 (ZV below args s B D K Q) M_5 50 [(0, .ref (B + 95))] [J s1_23, .ref (B + 95)]) hf ?_ ?_
          · intro s1_23 hf h_s1_23
            refine g_aload_n hC 0 dX12_placesTold_50 rfl rfl ?_
            refine g_geti hC okX12 sc95 2 (by decide) rfl wf_X12_140 dX12_placesTold_51 ?_
            refine g_callVV hC (sk := []) [J s1_23, J (M_5 95 2)] (c_X12_fail l B D K s1_23 (M_5 95 2) h_s1_23 (h_M_5 _ _) M_5 h_M_5 _ hf) yv_X12_fail wm_X12_159 okX12.1 sc95 rfl ⟨Nat.le_of_ble_eq_true rfl, Nat.le_of_ble_eq_true rfl, Nat.le_of_ble_eq_true rfl, Nat.le_of_ble_eq_true rfl⟩ rfl (Nat.le_of_ble_eq_true rfl) dX12_placesTold_54 ?_
            intro M_24 h_M_24 hf
            refine g_sub [(0, .ref (B + 95))] [0] rfl ?_
            exact hJ57 M_24 hf h_M_24
          · intro J50 hJ50 hf
            refine g_icmp_ne hC 49 (h_M_5 _ _) (h_M_5 _ _) dX12_placesTold_42 rfl (fun c_25 => ?_) (fun c_25 => ?_)
            · replace hf := hf.1 c_25
              refine g_iconst hC dX12_placesTold_49 ?_
              refine g_sub [(0, .ref (B + 95))] [0] rfl ?_
              exact hJ50 5 hf (by unfold inR; omega)
            · replace hf := hf.2 c_25
              refine g_iconst hC dX12_placesTold_45 ?_
              refine g_goto hC 50 dX12_placesTold_46 rfl ?_
              refine g_sub [(0, .ref (B + 95))] [0] rfl ?_
              exact hJ50 1 hf (by unfold inR; omega)
  · intro J12 hJ12 hf
    refine g_if_ne hC 11 (hM _ _) dX12_placesTold_4 rfl (fun c_28 => ?_) (fun c_28 => ?_)
    · replace hf := hf.1 c_28
      refine g_iconst hC dX12_placesTold_11 ?_
      refine g_sub [(0, .ref (B + 95))] [0] rfl ?_
      exact hJ12 0 hf (Or.inl rfl)
    · replace hf := hf.2 c_28
      refine g_iconst hC dX12_placesTold_7 ?_
      refine g_goto hC 12 dX12_placesTold_8 rfl ?_
      refine g_sub [(0, .ref (B + 95))] [0] rfl ?_
      exact hJ12 1 hf (Or.inr rfl)
set_option maxHeartbeats 4000000 in
set_option maxRecDepth 100000 in
theorem c_X12_placeTold (l : Launch) (B : Nat) (D : va_G) (K : Nat → ClassId)   (M : Mem) (hM : MR M) (Q : Int → Mem → Prop) (hf : f_X12_placeTold  M Q) : CtI l yX12_placeTold cX12_placeTold 3 4 85 B D K [.ref (B + 95)] M Q := by
  refine ct_i (by decide) (Nat.le_of_ble_eq_true rfl) ?_
  intro p e s m args below meth c hC
  have hC : Cx p s m args meth c D K cX12_placeTold 3 RX12 (some .int) := hC
  unfold f_X12_placeTold at hf
  refine (show G p l e (rmF 4 85) s m args below meth c B D K 3 0 0 (ZI below args s B D K Q) M 0 [(0, .ref (B + 95))] [] from ?_)
  refine g_aload_n hC 0 dX12_placeTold_0 rfl rfl ?_
  refine g_callVI hC (sk := []) [] (c_X12_name l B D K   M hM _ hf) yv_X12_name wm_X12_190 okX12.1 sc95 rfl ⟨Nat.le_of_ble_eq_true rfl, Nat.le_of_ble_eq_true rfl, Nat.le_of_ble_eq_true rfl, Nat.le_of_ble_eq_true rfl⟩ rfl (Nat.le_of_ble_eq_true rfl) dX12_placeTold_1 ?_
  intro r_1 M_2 h_r_1 h_M_2 hf
  refine g_istore_n hC [(1, J r_1), (0, .ref (B + 95))] dX12_placeTold_4 rfl (by decide) rfl ?_
  refine g_aload_n hC 1 dX12_placeTold_5 rfl rfl ?_
  refine g_geti hC okX12 sc95 5 (by decide) rfl wf_X12_134 dX12_placeTold_6 ?_
  refine jn_elim (fun (k : Int → Prop) => ∀ (s0_3 : Int), k s0_3 → (inR s0_3) → G p l e (rmF 4 85) s m args below meth c B D K 3 0 0 (ZI below args s B D K Q) M_2 31 [(0, .ref (B + 95))] [J s0_3]) hf ?_ ?_
  · intro s0_3 hf h_s0_3
    refine g_istore_n hC [(2, J s0_3), (0, .ref (B + 95))] dX12_placeTold_31 rfl (by decide) rfl ?_
    refine g_aload_n hC 1 dX12_placeTold_32 rfl rfl ?_
    refine g_geti hC okX12 sc95 5 (by decide) rfl wf_X12_134 dX12_placeTold_33 ?_
    refine jn_elim (fun (k : Mem → Prop) => ∀ (M_4 : Mem), k M_4 → (MR M_4) → G p l e (rmF 4 85) s m args below meth c B D K 3 0 0 (ZI below args s B D K Q) M_4 53 [(0, .ref (B + 95)), (2, J s0_3)] []) hf ?_ ?_
    · intro M_4 hf h_M_4
      refine g_aload_n hC 0 dX12_placeTold_53 rfl rfl ?_
      refine g_geti hC okX12 sc95 5 (by decide) rfl wf_X12_134 dX12_placeTold_54 ?_
      refine g_if_ne hC 64 (h_M_4 _ _) dX12_placeTold_57 rfl (fun c_5 => ?_) (fun c_5 => ?_)
      · replace hf := hf.1 c_5
        refine g_iconst hC dX12_placeTold_64 ?_
        exact g_reti hC (by unfold inR; omega) h_M_4 hf dX12_placeTold_65
      · replace hf := hf.2 c_5
        refine g_iload_n hC 1 dX12_placeTold_60 rfl rfl ?_
        refine g_goto hC 65 dX12_placeTold_61 rfl ?_
        exact g_reti hC h_s0_3 h_M_4 hf dX12_placeTold_65
    · intro J53 hJ53 hf
      refine g_if_ne hC 53 (h_M_2 _ _) dX12_placeTold_36 rfl (fun c_8 => ?_) (fun c_8 => ?_)
      · replace hf := hf.1 c_8
        refine g_sub [(0, .ref (B + 95)), (2, J s0_3)] [1, 0] rfl ?_
        exact hJ53 M_2 hf h_M_2
      · replace hf := hf.2 c_8
        refine g_iload_n hC 0 dX12_placeTold_39 rfl rfl ?_
        refine g_iconst hC dX12_placeTold_40 ?_
        refine g_icmp_ne hC 53 h_s0_3 (by unfold inR; omega) dX12_placeTold_41 rfl (fun c_7 => ?_) (fun c_7 => ?_)
        · replace hf := hf.1 c_7
          refine g_sub [(0, .ref (B + 95)), (2, J s0_3)] [1, 0] rfl ?_
          exact hJ53 M_2 hf h_M_2
        · replace hf := hf.2 c_7
          refine g_aload_n hC 1 dX12_placeTold_44 rfl rfl ?_
          refine g_iconst hC dX12_placeTold_45 ?_
          refine g_aload_n hC 1 dX12_placeTold_46 rfl rfl ?_
          refine g_geti hC okX12 sc95 11 (by decide) rfl wf_X12_180 dX12_placeTold_47 ?_
          refine g_callVV hC (sk := []) [J 3, J (M_2 95 11)] (c_X12_fail l B D K 3 (M_2 95 11) (by unfold inR; omega) (h_M_2 _ _) M_2 h_M_2 _ hf) yv_X12_fail wm_X12_159 okX12.1 sc95 rfl ⟨Nat.le_of_ble_eq_true rfl, Nat.le_of_ble_eq_true rfl, Nat.le_of_ble_eq_true rfl, Nat.le_of_ble_eq_true rfl⟩ rfl (Nat.le_of_ble_eq_true rfl) dX12_placeTold_50 ?_
          intro M_6 h_M_6 hf
          refine g_sub [(0, .ref (B + 95)), (2, J s0_3)] [1, 0] rfl ?_
          exact hJ53 M_6 hf h_M_6
  · intro J31 hJ31 hf
    refine g_if_ne hC 30 (h_M_2 _ _) dX12_placeTold_9 rfl (fun c_11 => ?_) (fun c_11 => ?_)
    · replace hf := hf.1 c_11
      refine g_iconst hC dX12_placeTold_30 ?_
      refine g_sub [(0, .ref (B + 95))] [1] rfl ?_
      exact hJ31 0 hf (by unfold inR; omega)
    · replace hf := hf.2 c_11
      refine g_aload_n hC 1 dX12_placeTold_12 rfl rfl ?_
      refine g_getr hC okX12 sc95 12 (by decide) rfl wf_X12_24 dX12_placeTold_13 ?_
      refine g_iconst hC dX12_placeTold_16 ?_
      refine g_aload_n hC 1 dX12_placeTold_17 rfl rfl ?_
      refine g_getr hC okX12 sc95 12 (by decide) rfl wf_X12_24 dX12_placeTold_18 ?_
      refine g_iconst hC dX12_placeTold_21 ?_
      refine g_ialdk 0 hC sc99 (by decide) (by decide) rfl dX12_placeTold_22 ?_
      refine g_iload_n hC 0 dX12_placeTold_23 rfl rfl ?_
      refine g_callSI hC (sk := []) [.ref (B + 99), J 3, J (M_2 99 0), J r_1] (c_X12_named l B D K 99 3 (M_2 99 0) r_1 (isIA_of sc99) (by unfold inR; omega) (h_M_2 _ _) h_r_1 M_2 h_M_2 _ hf) yv_X12_named wm_X12_193 rfl ⟨Nat.le_of_ble_eq_true rfl, Nat.le_of_ble_eq_true rfl, Nat.le_of_ble_eq_true rfl, Nat.le_of_ble_eq_true rfl⟩ rfl (Nat.le_of_ble_eq_true rfl) dX12_placeTold_24 ?_
      rintro r_9 M_10 h_r_9 - ⟨rfl, hf⟩
      refine g_goto hC 31 dX12_placeTold_27 rfl ?_
      refine g_sub [(0, .ref (B + 95))] [1] rfl ?_
      exact hJ31 r_9 hf h_r_9
set_option maxHeartbeats 4000000 in
set_option maxRecDepth 100000 in
theorem c_X12_riverTold (l : Launch) (B : Nat) (D : va_G) (K : Nat → ClassId)   (M : Mem) (hM : MR M) (Q : Int → Mem → Prop) (hf : f_X12_riverTold  M Q) : CtI l yX12_riverTold cX12_riverTold 3 4 85 B D K [.ref (B + 95)] M Q := by
  refine ct_i (by decide) (Nat.le_of_ble_eq_true rfl) ?_
  intro p e s m args below meth c hC
  have hC : Cx p s m args meth c D K cX12_riverTold 3 RX12 (some .int) := hC
  unfold f_X12_riverTold at hf
  refine (show G p l e (rmF 4 85) s m args below meth c B D K 3 0 0 (ZI below args s B D K Q) M 0 [(0, .ref (B + 95))] [] from ?_)
  refine g_aload_n hC 0 dX12_riverTold_0 rfl rfl ?_
  refine g_callVI hC (sk := []) [] (c_X12_name l B D K   M hM _ hf) yv_X12_name wm_X12_190 okX12.1 sc95 rfl ⟨Nat.le_of_ble_eq_true rfl, Nat.le_of_ble_eq_true rfl, Nat.le_of_ble_eq_true rfl, Nat.le_of_ble_eq_true rfl⟩ rfl (Nat.le_of_ble_eq_true rfl) dX12_riverTold_1 ?_
  intro r_1 M_2 h_r_1 h_M_2 hf
  refine g_istore_n hC [(1, J r_1), (0, .ref (B + 95))] dX12_riverTold_4 rfl (by decide) rfl ?_
  refine g_aload_n hC 1 dX12_riverTold_5 rfl rfl ?_
  refine g_geti hC okX12 sc95 5 (by decide) rfl wf_X12_134 dX12_riverTold_6 ?_
  refine g_if_eq hC 14 (h_M_2 _ _) dX12_riverTold_9 rfl (fun c_16 => ?_) (fun c_16 => ?_)
  · replace hf := hf.1 c_16
    refine g_aload_n hC 1 dX12_riverTold_14 rfl rfl ?_
    refine g_getr hC okX12 sc95 12 (by decide) rfl wf_X12_24 dX12_riverTold_15 ?_
    refine g_bipush hC dX12_riverTold_18 (by decide) ?_
    refine g_aload_n hC 1 dX12_riverTold_20 rfl rfl ?_
    refine g_getr hC okX12 sc95 12 (by decide) rfl wf_X12_24 dX12_riverTold_21 ?_
    refine g_iconst hC dX12_riverTold_24 ?_
    refine g_ialdk 2 hC sc99 (by decide) (by decide) rfl dX12_riverTold_25 ?_
    refine g_iload_n hC 0 dX12_riverTold_26 rfl rfl ?_
    refine g_callSI hC (sk := []) [.ref (B + 99), J 23, J (M_2 99 2), J r_1] (c_X12_named l B D K 99 23 (M_2 99 2) r_1 (isIA_of sc99) (by unfold inR; omega) (h_M_2 _ _) h_r_1 M_2 h_M_2 _ hf) yv_X12_named wm_X12_193 rfl ⟨Nat.le_of_ble_eq_true rfl, Nat.le_of_ble_eq_true rfl, Nat.le_of_ble_eq_true rfl, Nat.le_of_ble_eq_true rfl⟩ rfl (Nat.le_of_ble_eq_true rfl) dX12_riverTold_27 ?_
    rintro r_3 M_4 h_r_3 - ⟨rfl, hf⟩
    refine g_istore_n hC [(2, J r_3), (1, J r_1), (0, .ref (B + 95))] dX12_riverTold_30 rfl (by decide) rfl ?_
    refine g_iload_n hC 0 dX12_riverTold_31 rfl rfl ?_
    refine g_iconst hC dX12_riverTold_32 ?_
    refine jn_elim (fun (k : Mem → Prop) => ∀ (M_5 : Mem), k M_5 → (MR M_5) → G p l e (rmF 4 85) s m args below meth c B D K 3 0 0 (ZI below args s B D K Q) M_5 56 [(0, .ref (B + 95)), (1, J r_1), (2, J r_3)] []) hf ?_ ?_
    · intro M_5 hf h_M_5
      refine g_aload_n hC 0 dX12_riverTold_56 rfl rfl ?_
      refine g_geti hC okX12 sc95 5 (by decide) rfl wf_X12_134 dX12_riverTold_57 ?_
      refine g_if_ne hC 68 (h_M_5 _ _) dX12_riverTold_60 rfl (fun c_12 => ?_) (fun c_12 => ?_)
      · replace hf := hf.1 c_12
        refine g_iload_n hC 2 dX12_riverTold_68 rfl rfl ?_
        exact g_reti hC h_r_3 h_M_5 hf dX12_riverTold_69
      · replace hf := hf.2 c_12
        refine g_iload_n hC 2 dX12_riverTold_63 rfl rfl ?_
        refine g_iconst hC dX12_riverTold_64 ?_
        refine g_icmp_eq hC 70 h_r_3 (by unfold inR; omega) dX12_riverTold_65 rfl (fun c_11 => ?_) (fun c_11 => ?_)
        · replace hf := hf.1 c_11
          refine g_aload_n hC 0 dX12_riverTold_70 rfl rfl ?_
          refine g_getr hC okX12 sc95 12 (by decide) rfl wf_X12_24 dX12_riverTold_71 ?_
          refine g_bipush hC dX12_riverTold_74 (by decide) ?_
          refine g_aload_n hC 0 dX12_riverTold_76 rfl rfl ?_
          refine g_getr hC okX12 sc95 12 (by decide) rfl wf_X12_24 dX12_riverTold_77 ?_
          refine g_iconst hC dX12_riverTold_80 ?_
          refine g_ialdk 2 hC sc99 (by decide) (by decide) rfl dX12_riverTold_81 ?_
          refine g_iadd hC dX12_riverTold_82 ?_
          refine g_iload_n hC 1 dX12_riverTold_83 rfl rfl ?_
          obtain ⟨q_6, hf⟩ := hf
          refine g_iastk ((23 + (M_5 99 2)).toNat) hC sc99 q_6.1 q_6.2 rfl dX12_riverTold_84 ?_
          refine g_nmM (fun M_7 e_M_7 => ?_)
          replace hf := hf M_7 e_M_7
          have h_M_7 : MR M_7 := by rw [e_M_7]; exact MR_st h_M_5 h_r_1
          refine g_aload_n hC 0 dX12_riverTold_85 rfl rfl ?_
          refine g_getr hC okX12 sc95 12 (by decide) rfl wf_X12_24 dX12_riverTold_86 ?_
          refine g_iconst hC dX12_riverTold_89 ?_
          refine g_dup2 hC dX12_riverTold_90 rfl rfl ?_
          refine g_ialdk 2 hC sc99 (by decide) (by decide) rfl dX12_riverTold_91 ?_
          refine g_iconst hC dX12_riverTold_92 ?_
          refine g_iadd hC dX12_riverTold_93 ?_
          obtain ⟨q_8, hf⟩ := hf
          refine g_iastk 2 hC sc99 (by decide) (by decide) rfl dX12_riverTold_94 ?_
          refine g_nmM (fun M_9 e_M_9 => ?_)
          replace hf := hf M_9 e_M_9
          have h_M_9 : MR M_9 := by rw [e_M_9]; exact MR_st h_M_7 q_8
          refine g_aload_n hC 0 dX12_riverTold_95 rfl rfl ?_
          refine g_getr hC okX12 sc95 12 (by decide) rfl wf_X12_24 dX12_riverTold_96 ?_
          refine g_iconst hC dX12_riverTold_99 ?_
          refine g_ialdk 2 hC sc99 (by decide) (by decide) rfl dX12_riverTold_100 ?_
          refine g_iconst hC dX12_riverTold_101 ?_
          refine g_isub hC dX12_riverTold_102 ?_
          obtain ⟨q_10, hf⟩ := hf
          exact g_reti hC q_10 h_M_9 hf dX12_riverTold_103
        · replace hf := hf.2 c_11
          refine g_iload_n hC 2 dX12_riverTold_68 rfl rfl ?_
          exact g_reti hC h_r_3 h_M_5 hf dX12_riverTold_69
    · intro J56 hJ56 hf
      refine g_icmp_ne hC 56 h_r_3 (by unfold inR; omega) dX12_riverTold_33 rfl (fun c_15 => ?_) (fun c_15 => ?_)
      · replace hf := hf.1 c_15
        refine g_sub [(0, .ref (B + 95)), (1, J r_1), (2, J r_3)] [2, 1, 0] rfl ?_
        exact hJ56 M_2 hf h_M_2
      · replace hf := hf.2 c_15
        refine g_aload_n hC 2 dX12_riverTold_36 rfl rfl ?_
        refine g_getr hC okX12 sc95 12 (by decide) rfl wf_X12_24 dX12_riverTold_37 ?_
        refine g_iconst hC dX12_riverTold_40 ?_
        refine g_ialdk 2 hC sc99 (by decide) (by decide) rfl dX12_riverTold_41 ?_
        refine g_bipush hC dX12_riverTold_42 (by decide) ?_
        refine g_icmp_ne hC 56 (h_M_2 _ _) (by unfold inR; omega) dX12_riverTold_44 rfl (fun c_14 => ?_) (fun c_14 => ?_)
        · replace hf := hf.1 c_14
          refine g_sub [(0, .ref (B + 95)), (1, J r_1), (2, J r_3)] [2, 1, 0] rfl ?_
          exact hJ56 M_2 hf h_M_2
        · replace hf := hf.2 c_14
          refine g_aload_n hC 2 dX12_riverTold_47 rfl rfl ?_
          refine g_iconst hC dX12_riverTold_48 ?_
          refine g_aload_n hC 2 dX12_riverTold_49 rfl rfl ?_
          refine g_geti hC okX12 sc95 11 (by decide) rfl wf_X12_180 dX12_riverTold_50 ?_
          refine g_callVV hC (sk := []) [J 5, J (M_2 95 11)] (c_X12_fail l B D K 5 (M_2 95 11) (by unfold inR; omega) (h_M_2 _ _) M_2 h_M_2 _ hf) yv_X12_fail wm_X12_159 okX12.1 sc95 rfl ⟨Nat.le_of_ble_eq_true rfl, Nat.le_of_ble_eq_true rfl, Nat.le_of_ble_eq_true rfl, Nat.le_of_ble_eq_true rfl⟩ rfl (Nat.le_of_ble_eq_true rfl) dX12_riverTold_53 ?_
          intro M_13 h_M_13 hf
          refine g_sub [(0, .ref (B + 95)), (1, J r_1), (2, J r_3)] [2, 1, 0] rfl ?_
          exact hJ56 M_13 hf h_M_13
  · replace hf := hf.2 c_16
    refine g_iconst hC dX12_riverTold_12 ?_
    exact g_reti hC (by unfold inR; omega) h_M_2 hf dX12_riverTold_13
set_option maxHeartbeats 4000000 in
set_option maxRecDepth 100000 in
theorem c_X12_reachTold (l : Launch) (B : Nat) (D : va_G) (K : Nat → ClassId) (v1 : Int) (i_v1 : inR v1) (M : Mem) (hM : MR M) (Q : Mem → Prop) (hf : f_X12_reachTold v1 M Q) : CtV l yX12_reachTold cX12_reachTold 7 5 107 B D K [.ref (B + 95), J v1] M Q := by
  refine ct_v (by decide) (Nat.le_of_ble_eq_true rfl) ?_
  intro p e s m args below meth c hC
  have hC : Cx p s m args meth c D K cX12_reachTold 7 RX12 none := hC
  unfold f_X12_reachTold at hf
  refine (show G p l e (rmF 5 107) s m args below meth c B D K 7 0 0 (ZV below args s B D K Q) M 0 [(0, .ref (B + 95)), (1, J v1)] [] from ?_)
  refine g_aload_n hC 0 dX12_reachTold_0 rfl rfl ?_
  refine g_getr hC okX12 sc95 12 (by decide) rfl wf_X12_24 dX12_reachTold_1 ?_
  refine g_iconst hC dX12_reachTold_4 ?_
  refine g_ialdk 1 hC sc99 (by decide) (by decide) rfl dX12_reachTold_5 ?_
  refine g_bipush hC dX12_reachTold_6 (by decide) ?_
  refine jn_elim (fun (k : Mem → Prop) => ∀ (M_1 : Mem), k M_1 → (MR M_1) → G p l e (rmF 5 107) s m args below meth c B D K 7 0 0 (ZV below args s B D K Q) M_1 17 [(0, .ref (B + 95))] []) hf ?_ ?_
  · intro M_1 hf h_M_1
    refine g_aload_n hC 0 dX12_reachTold_17 rfl rfl ?_
    refine g_callVI hC (sk := []) [] (c_X12_placeTold l B D K   M_1 h_M_1 _ hf) yv_X12_placeTold wm_X12_197 okX12.1 sc95 rfl ⟨Nat.le_of_ble_eq_true rfl, Nat.le_of_ble_eq_true rfl, Nat.le_of_ble_eq_true rfl, Nat.le_of_ble_eq_true rfl⟩ rfl (Nat.le_of_ble_eq_true rfl) dX12_reachTold_18 ?_
    intro r_2 M_3 h_r_2 h_M_3 hf
    refine g_istore_n hC [(2, J r_2), (0, .ref (B + 95))] dX12_reachTold_21 rfl (by decide) rfl ?_
    refine g_aload_n hC 1 dX12_reachTold_22 rfl rfl ?_
    refine g_iconst hC dX12_reachTold_23 ?_
    refine g_callVV hC (sk := []) [J 2] (c_X12_asks l B D K 2 (by unfold inR; omega) M_3 h_M_3 _ hf) yv_X12_asks wm_X12_200 okX12.1 sc95 rfl ⟨Nat.le_of_ble_eq_true rfl, Nat.le_of_ble_eq_true rfl, Nat.le_of_ble_eq_true rfl, Nat.le_of_ble_eq_true rfl⟩ rfl (Nat.le_of_ble_eq_true rfl) dX12_reachTold_24 ?_
    intro M_4 h_M_4 hf
    refine g_aload_n hC 1 dX12_reachTold_27 rfl rfl ?_
    refine g_callVI hC (sk := []) [] (c_X12_placeTold l B D K   M_4 h_M_4 _ hf) yv_X12_placeTold wm_X12_197 okX12.1 sc95 rfl ⟨Nat.le_of_ble_eq_true rfl, Nat.le_of_ble_eq_true rfl, Nat.le_of_ble_eq_true rfl, Nat.le_of_ble_eq_true rfl⟩ rfl (Nat.le_of_ble_eq_true rfl) dX12_reachTold_28 ?_
    intro r_5 M_6 h_r_5 h_M_6 hf
    refine g_istore_n hC [(3, J r_5), (2, J r_2), (0, .ref (B + 95))] dX12_reachTold_31 rfl (by decide) rfl ?_
    refine g_aload_n hC 2 dX12_reachTold_32 rfl rfl ?_
    refine g_geti hC okX12 sc95 5 (by decide) rfl wf_X12_134 dX12_reachTold_33 ?_
    refine jn_elim (fun (k : Mem → Prop) => ∀ (M_7 : Mem), k M_7 → (MR M_7) → G p l e (rmF 5 107) s m args below meth c B D K 7 0 0 (ZV below args s B D K Q) M_7 61 [(0, .ref (B + 95)), (2, J r_2), (3, J r_5)] []) hf ?_ ?_
    · intro M_7 hf h_M_7
      refine g_aload_n hC 0 dX12_reachTold_61 rfl rfl ?_
      refine g_iconst hC dX12_reachTold_62 ?_
      refine g_callVV hC (sk := []) [J 3] (c_X12_asks l B D K 3 (by unfold inR; omega) M_7 h_M_7 _ hf) yv_X12_asks wm_X12_200 okX12.1 sc95 rfl ⟨Nat.le_of_ble_eq_true rfl, Nat.le_of_ble_eq_true rfl, Nat.le_of_ble_eq_true rfl, Nat.le_of_ble_eq_true rfl⟩ rfl (Nat.le_of_ble_eq_true rfl) dX12_reachTold_63 ?_
      intro M_8 h_M_8 hf
      refine g_aload_n hC 0 dX12_reachTold_66 rfl rfl ?_
      refine g_iconst hC dX12_reachTold_67 ?_
      refine g_bipush hC dX12_reachTold_68 (by decide) ?_
      refine g_callVI hC (sk := []) [J 1, J 99] (c_X12_number l B D K 1 99 (by unfold inR; omega) (by unfold inR; omega) M_8 h_M_8 _ hf) yv_X12_number wm_X12_208 okX12.1 sc95 rfl ⟨Nat.le_of_ble_eq_true rfl, Nat.le_of_ble_eq_true rfl, Nat.le_of_ble_eq_true rfl, Nat.le_of_ble_eq_true rfl⟩ rfl (Nat.le_of_ble_eq_true rfl) dX12_reachTold_70 ?_
      intro r_9 M_10 h_r_9 h_M_10 hf
      refine g_istore hC [(4, J r_9), (0, .ref (B + 95)), (2, J r_2), (3, J r_5)] dX12_reachTold_73 (by decide) rfl ?_
      refine g_aload_n hC 1 dX12_reachTold_75 rfl rfl ?_
      refine g_iconst hC dX12_reachTold_76 ?_
      refine g_callVZ hC (sk := []) [J 4] (c_X12_takes l B D K 4 (by unfold inR; omega) M_10 h_M_10 _ hf) yv_X12_takes wm_X12_177 okX12.1 sc95 rfl ⟨Nat.le_of_ble_eq_true rfl, Nat.le_of_ble_eq_true rfl, Nat.le_of_ble_eq_true rfl, Nat.le_of_ble_eq_true rfl⟩ rfl (Nat.le_of_ble_eq_true rfl) dX12_reachTold_77 ?_
      intro r_11 M_12 h_r_11 h_M_12 hf
      refine jn_elim (fun (k : Int → Mem → Prop) => ∀ (s0_13 : Int) (M_14 : Mem), k s0_13 M_14 → (inR s0_13) → (MR M_14) → G p l e (rmF 5 107) s m args below meth c B D K 7 0 0 (ZV below args s B D K Q) M_14 94 [(0, .ref (B + 95)), (2, J r_2), (3, J r_5), (4, J r_9)] [J s0_13]) hf ?_ ?_
      · intro s0_13 M_14 hf h_s0_13 h_M_14
        refine g_istore hC [(5, J s0_13), (0, .ref (B + 95)), (2, J r_2), (3, J r_5), (4, J r_9)] dX12_reachTold_94 (by decide) rfl ?_
        refine g_aload_n hC 1 dX12_reachTold_96 rfl rfl ?_
        refine g_iconst hC dX12_reachTold_97 ?_
        refine g_callVZ hC (sk := []) [J 5] (c_X12_takes l B D K 5 (by unfold inR; omega) M_14 h_M_14 _ hf) yv_X12_takes wm_X12_177 okX12.1 sc95 rfl ⟨Nat.le_of_ble_eq_true rfl, Nat.le_of_ble_eq_true rfl, Nat.le_of_ble_eq_true rfl, Nat.le_of_ble_eq_true rfl⟩ rfl (Nat.le_of_ble_eq_true rfl) dX12_reachTold_98 ?_
        intro r_15 M_16 h_r_15 h_M_16 hf
        refine jn_elim (fun (k : Int → Mem → Prop) => ∀ (s0_17 : Int) (M_18 : Mem), k s0_17 M_18 → (inR s0_17) → (MR M_18) → G p l e (rmF 5 107) s m args below meth c B D K 7 0 0 (ZV below args s B D K Q) M_18 112 [(0, .ref (B + 95)), (2, J r_2), (3, J r_5), (4, J r_9), (5, J s0_13)] [J s0_17]) hf ?_ ?_
        · intro s0_17 M_18 hf h_s0_17 h_M_18
          refine g_istore hC [(6, J s0_17), (0, .ref (B + 95)), (2, J r_2), (3, J r_5), (4, J r_9), (5, J s0_13)] dX12_reachTold_112 (by decide) rfl ?_
          refine g_aload_n hC 1 dX12_reachTold_114 rfl rfl ?_
          refine g_geti hC okX12 sc95 5 (by decide) rfl wf_X12_134 dX12_reachTold_115 ?_
          refine g_if_ne hC 136 (h_M_18 _ _) dX12_reachTold_118 rfl (fun c_20 => ?_) (fun c_20 => ?_)
          · replace hf := hf.1 c_20
            exact g_retv hC h_M_18 hf dX12_reachTold_136
          · replace hf := hf.2 c_20
            refine g_aload_n hC 1 dX12_reachTold_121 rfl rfl ?_
            refine g_getr hC okX12 sc95 12 (by decide) rfl wf_X12_24 dX12_reachTold_122 ?_
            refine g_iload_n hC 2 dX12_reachTold_125 rfl rfl ?_
            refine g_iload_n hC 3 dX12_reachTold_126 rfl rfl ?_
            refine g_iload hC 4 dX12_reachTold_127 rfl ?_
            refine g_iload hC 5 dX12_reachTold_129 rfl ?_
            refine g_iload hC 0 dX12_reachTold_131 rfl ?_
            refine g_callSV hC (sk := []) [.ref (B + 99), J r_2, J r_5, J r_9, J s0_13, J s0_17] (c_X12_laysReach l B D K 99 r_2 r_5 r_9 s0_13 s0_17 (isIA_of sc99) h_r_2 h_r_5 h_r_9 h_s0_13 h_s0_17 M_18 h_M_18 _ hf) yv_X12_laysReach wm_X12_214 rfl ⟨Nat.le_of_ble_eq_true rfl, Nat.le_of_ble_eq_true rfl, Nat.le_of_ble_eq_true rfl, Nat.le_of_ble_eq_true rfl⟩ rfl (Nat.le_of_ble_eq_true rfl) dX12_reachTold_133 ?_
            intro M_19 h_M_19 hf
            exact g_retv hC h_M_19 hf dX12_reachTold_136
        · intro J112 hJ112 hf
          refine g_if_eq hC 111 (zi_ h_r_15) dX12_reachTold_101 rfl (fun c_23 => ?_) (fun c_23 => ?_)
          · replace hf := hf.1 c_23
            refine g_iconst hC dX12_reachTold_111 ?_
            refine g_sub [(0, .ref (B + 95)), (2, J r_2), (3, J r_5), (4, J r_9), (5, J s0_13)] [1, 2, 3, 4, 0] rfl ?_
            exact hJ112 (-1) M_16 hf (by unfold inR; omega) h_M_16
          · replace hf := hf.2 c_23
            refine g_aload_n hC 1 dX12_reachTold_104 rfl rfl ?_
            refine g_callVI hC (sk := []) [] (c_X12_riverTold l B D K   M_16 h_M_16 _ hf) yv_X12_riverTold wm_X12_211 okX12.1 sc95 rfl ⟨Nat.le_of_ble_eq_true rfl, Nat.le_of_ble_eq_true rfl, Nat.le_of_ble_eq_true rfl, Nat.le_of_ble_eq_true rfl⟩ rfl (Nat.le_of_ble_eq_true rfl) dX12_reachTold_105 ?_
            intro r_21 M_22 h_r_21 h_M_22 hf
            refine g_goto hC 112 dX12_reachTold_108 rfl ?_
            refine g_sub [(0, .ref (B + 95)), (2, J r_2), (3, J r_5), (4, J r_9), (5, J s0_13)] [1, 2, 3, 4, 0] rfl ?_
            exact hJ112 r_21 M_22 hf h_r_21 h_M_22
      · intro J94 hJ94 hf
        refine g_if_eq hC 93 (zi_ h_r_11) dX12_reachTold_80 rfl (fun c_26 => ?_) (fun c_26 => ?_)
        · replace hf := hf.1 c_26
          refine g_iconst hC dX12_reachTold_93 ?_
          refine g_sub [(0, .ref (B + 95)), (2, J r_2), (3, J r_5), (4, J r_9)] [1, 2, 3, 0] rfl ?_
          exact hJ94 0 M_12 hf (by unfold inR; omega) h_M_12
        · replace hf := hf.2 c_26
          refine g_aload_n hC 1 dX12_reachTold_83 rfl rfl ?_
          refine g_iconst hC dX12_reachTold_84 ?_
          refine g_bipush hC dX12_reachTold_85 (by decide) ?_
          refine g_callVI hC (sk := []) [J 0, J 99] (c_X12_number l B D K 0 99 (by unfold inR; omega) (by unfold inR; omega) M_12 h_M_12 _ hf) yv_X12_number wm_X12_208 okX12.1 sc95 rfl ⟨Nat.le_of_ble_eq_true rfl, Nat.le_of_ble_eq_true rfl, Nat.le_of_ble_eq_true rfl, Nat.le_of_ble_eq_true rfl⟩ rfl (Nat.le_of_ble_eq_true rfl) dX12_reachTold_87 ?_
          intro r_24 M_25 h_r_24 h_M_25 hf
          refine g_goto hC 94 dX12_reachTold_90 rfl ?_
          refine g_sub [(0, .ref (B + 95)), (2, J r_2), (3, J r_5), (4, J r_9)] [1, 2, 3, 0] rfl ?_
          exact hJ94 r_24 M_25 hf h_r_24 h_M_25
    · intro J61 hJ61 hf
      refine g_if_ne hC 61 (h_M_6 _ _) dX12_reachTold_36 rfl (fun c_31 => ?_) (fun c_31 => ?_)
      · replace hf := hf.1 c_31
        refine g_sub [(0, .ref (B + 95)), (2, J r_2), (3, J r_5)] [2, 1, 0] rfl ?_
        exact hJ61 M_6 hf h_M_6
      · replace hf := hf.2 c_31
        refine g_aload_n hC 2 dX12_reachTold_39 rfl rfl ?_
        refine g_getr hC okX12 sc95 12 (by decide) rfl wf_X12_24 dX12_reachTold_40 ?_
        refine g_iload_n hC 0 dX12_reachTold_43 rfl rfl ?_
        refine g_iload_n hC 1 dX12_reachTold_44 rfl rfl ?_
        refine g_iconst hC dX12_reachTold_45 ?_
        refine g_callSZ hC (sk := []) [.ref (B + 99), J r_5, J r_2, J (-1)] (c_X12_comes l B D K 99 r_5 r_2 (-1) (isIA_of sc99) h_r_5 h_r_2 (by unfold inR; omega) M_6 h_M_6 _ hf) yv_X12_comes wm_X12_204 rfl ⟨Nat.le_of_ble_eq_true rfl, Nat.le_of_ble_eq_true rfl, Nat.le_of_ble_eq_true rfl, Nat.le_of_ble_eq_true rfl⟩ rfl (Nat.le_of_ble_eq_true rfl) dX12_reachTold_46 ?_
        rintro r_27 M_28 h_r_27 - ⟨rfl, hf⟩
        refine g_if_eq hC 61 (zi_ h_r_27) dX12_reachTold_49 rfl (fun c_30 => ?_) (fun c_30 => ?_)
        · replace hf := hf.1 c_30
          refine g_sub [(0, .ref (B + 95)), (2, J r_2), (3, J r_5)] [2, 1, 0] rfl ?_
          exact hJ61 M_6 hf h_M_6
        · replace hf := hf.2 c_30
          refine g_aload_n hC 2 dX12_reachTold_52 rfl rfl ?_
          refine g_iconst hC dX12_reachTold_53 ?_
          refine g_aload_n hC 2 dX12_reachTold_54 rfl rfl ?_
          refine g_geti hC okX12 sc95 11 (by decide) rfl wf_X12_180 dX12_reachTold_55 ?_
          refine g_callVV hC (sk := []) [J 4, J (M_6 95 11)] (c_X12_fail l B D K 4 (M_6 95 11) (by unfold inR; omega) (h_M_6 _ _) M_6 h_M_6 _ hf) yv_X12_fail wm_X12_159 okX12.1 sc95 rfl ⟨Nat.le_of_ble_eq_true rfl, Nat.le_of_ble_eq_true rfl, Nat.le_of_ble_eq_true rfl, Nat.le_of_ble_eq_true rfl⟩ rfl (Nat.le_of_ble_eq_true rfl) dX12_reachTold_58 ?_
          intro M_29 h_M_29 hf
          refine g_sub [(0, .ref (B + 95)), (2, J r_2), (3, J r_5)] [2, 1, 0] rfl ?_
          exact hJ61 M_29 hf h_M_29
  · intro J17 hJ17 hf
    refine g_icmp_ne hC 17 (hM _ _) (by unfold inR; omega) dX12_reachTold_8 rfl (fun c_33 => ?_) (fun c_33 => ?_)
    · replace hf := hf.1 c_33
      refine g_sub [(0, .ref (B + 95))] [0] rfl ?_
      exact hJ17 M hf hM
    · replace hf := hf.2 c_33
      refine g_aload_n hC 0 dX12_reachTold_11 rfl rfl ?_
      refine g_iconst hC dX12_reachTold_12 ?_
      refine g_iload_n hC 1 dX12_reachTold_13 rfl rfl ?_
      refine g_callVV hC (sk := []) [J 5, J v1] (c_X12_fail l B D K 5 v1 (by unfold inR; omega) i_v1 M hM _ hf) yv_X12_fail wm_X12_159 okX12.1 sc95 rfl ⟨Nat.le_of_ble_eq_true rfl, Nat.le_of_ble_eq_true rfl, Nat.le_of_ble_eq_true rfl, Nat.le_of_ble_eq_true rfl⟩ rfl (Nat.le_of_ble_eq_true rfl) dX12_reachTold_14 ?_
      intro M_32 h_M_32 hf
      refine g_sub [(0, .ref (B + 95))] [0] rfl ?_
      exact hJ17 M_32 hf h_M_32
set_option maxHeartbeats 4000000 in
set_option maxRecDepth 100000 in
theorem c_X12_statementTold (l : Launch) (B : Nat) (D : va_G) (K : Nat → ClassId)   (M : Mem) (hM : MR M) (Q : Mem → Prop) (hf : f_X12_statementTold  M Q) : CtV l yX12_statementTold cX12_statementTold 3 6 133 B D K [.ref (B + 95)] M Q := by
  refine ct_v (by decide) (Nat.le_of_ble_eq_true rfl) ?_
  intro p e s m args below meth c hC
  have hC : Cx p s m args meth c D K cX12_statementTold 3 RX12 none := hC
  unfold f_X12_statementTold at hf
  refine (show G p l e (rmF 6 133) s m args below meth c B D K 3 0 0 (ZV below args s B D K Q) M 0 [(0, .ref (B + 95))] [] from ?_)
  refine g_aload_n hC 0 dX12_statementTold_0 rfl rfl ?_
  refine g_callVI hC (sk := []) [] (c_X12_look l B D K   M hM _ hf) yv_X12_look wm_X12_146 okX12.1 sc95 rfl ⟨Nat.le_of_ble_eq_true rfl, Nat.le_of_ble_eq_true rfl, Nat.le_of_ble_eq_true rfl, Nat.le_of_ble_eq_true rfl⟩ rfl (Nat.le_of_ble_eq_true rfl) dX12_statementTold_1 ?_
  intro r_1 M_2 h_r_1 h_M_2 hf
  refine g_pop hC dX12_statementTold_4 rfl ?_
  refine g_aload_n hC 0 dX12_statementTold_5 rfl rfl ?_
  refine g_geti hC okX12 sc95 2 (by decide) rfl wf_X12_140 dX12_statementTold_6 ?_
  refine g_nm (fun v1_3 e_v1_3 => ?_)
  replace hf := hf v1_3 e_v1_3
  have h_v1_3 : inR v1_3 := by rw [e_v1_3]; exact (h_M_2 _ _)
  refine g_istore_n hC [(1, J v1_3), (0, .ref (B + 95))] dX12_statementTold_9 rfl (by decide) rfl ?_
  refine g_aload_n hC 1 dX12_statementTold_10 rfl rfl ?_
  refine g_callVI hC (sk := []) [] (c_X12_ownHere l B D K   M_2 h_M_2 _ hf) yv_X12_ownHere wm_X12_174 okX12.1 sc95 rfl ⟨Nat.le_of_ble_eq_true rfl, Nat.le_of_ble_eq_true rfl, Nat.le_of_ble_eq_true rfl, Nat.le_of_ble_eq_true rfl⟩ rfl (Nat.le_of_ble_eq_true rfl) dX12_statementTold_11 ?_
  intro r_4 M_5 h_r_4 h_M_5 hf
  refine g_istore_n hC [(2, J r_4), (1, J v1_3), (0, .ref (B + 95))] dX12_statementTold_14 rfl (by decide) rfl ?_
  refine g_iload_n hC 0 dX12_statementTold_15 rfl rfl ?_
  refine g_iconst hC dX12_statementTold_16 ?_
  refine jn_elim (fun (k : Mem → Prop) => ∀ (M_6 : Mem), k M_6 → (MR M_6) → G p l e (rmF 6 133) s m args below meth c B D K 3 0 0 (ZV below args s B D K Q) M_6 42 [(0, .ref (B + 95)), (1, J v1_3), (2, J r_4)] []) hf ?_ ?_
  · intro M_6 hf h_M_6
    refine g_aload_n hC 0 dX12_statementTold_42 rfl rfl ?_
    refine g_geti hC okX12 sc95 5 (by decide) rfl wf_X12_134 dX12_statementTold_43 ?_
    refine jn_elim (fun (k : Mem → Prop) => ∀ (M_7 : Mem), k M_7 → (MR M_7) → G p l e (rmF 6 133) s m args below meth c B D K 3 0 0 (ZV below args s B D K Q) M_7 73 [(0, .ref (B + 95))] []) hf ?_ ?_
    · intro M_7 hf h_M_7
      refine g_aload_n hC 0 dX12_statementTold_73 rfl rfl ?_
      refine g_bipush hC dX12_statementTold_74 (by decide) ?_
      refine g_callVV hC (sk := []) [J 59] (c_X12_asksSign l B D K 59 (by unfold inR; omega) M_7 h_M_7 _ hf) yv_X12_asksSign wm_X12_227 okX12.1 sc95 rfl ⟨Nat.le_of_ble_eq_true rfl, Nat.le_of_ble_eq_true rfl, Nat.le_of_ble_eq_true rfl, Nat.le_of_ble_eq_true rfl⟩ rfl (Nat.le_of_ble_eq_true rfl) dX12_statementTold_76 ?_
      intro M_8 h_M_8 hf
      refine g_aload_n hC 0 dX12_statementTold_79 rfl rfl ?_
      refine g_dup hC dX12_statementTold_80 rfl ?_
      refine g_geti hC okX12 sc95 14 (by decide) rfl wf_X12_218 dX12_statementTold_81 ?_
      refine g_iconst hC dX12_statementTold_84 ?_
      refine g_iadd hC dX12_statementTold_85 ?_
      obtain ⟨q_9, hf⟩ := hf
      refine g_puti hC okX12 tnX12 sc95 14 (by decide) rfl rfl (by decide) wf_X12_218 dX12_statementTold_86 ?_
      refine g_nmM (fun M_10 e_M_10 => ?_)
      replace hf := hf M_10 e_M_10
      have h_M_10 : MR M_10 := by rw [e_M_10]; exact MR_st h_M_8 q_9
      exact g_retv hC h_M_10 hf dX12_statementTold_89
    · intro J73 hJ73 hf
      refine g_if_ne hC 73 (h_M_6 _ _) dX12_statementTold_46 rfl (fun c_17 => ?_) (fun c_17 => ?_)
      · replace hf := hf.1 c_17
        refine g_sub [(0, .ref (B + 95))] [0] rfl ?_
        exact hJ73 M_6 hf h_M_6
      · replace hf := hf.2 c_17
        refine g_aload_n hC 0 dX12_statementTold_49 rfl rfl ?_
        refine g_iload_n hC 2 dX12_statementTold_50 rfl rfl ?_
        refine g_callVZ hC (sk := []) [J r_4] (c_X12_takes l B D K r_4 h_r_4 M_6 h_M_6 _ hf) yv_X12_takes wm_X12_177 okX12.1 sc95 rfl ⟨Nat.le_of_ble_eq_true rfl, Nat.le_of_ble_eq_true rfl, Nat.le_of_ble_eq_true rfl, Nat.le_of_ble_eq_true rfl⟩ rfl (Nat.le_of_ble_eq_true rfl) dX12_statementTold_51 ?_
        intro r_11 M_12 h_r_11 h_M_12 hf
        refine g_if_eq hC 73 (zi_ h_r_11) dX12_statementTold_54 rfl (fun c_16 => ?_) (fun c_16 => ?_)
        · replace hf := hf.1 c_16
          refine g_sub [(0, .ref (B + 95))] [0] rfl ?_
          exact hJ73 M_12 hf h_M_12
        · replace hf := hf.2 c_16
          refine g_iload_n hC 2 dX12_statementTold_57 rfl rfl ?_
          refine g_if_ne hC 68 h_r_4 dX12_statementTold_58 rfl (fun c_15 => ?_) (fun c_15 => ?_)
          · replace hf := hf.1 c_15
            refine g_aload_n hC 0 dX12_statementTold_68 rfl rfl ?_
            refine g_iload_n hC 1 dX12_statementTold_69 rfl rfl ?_
            refine g_callVV hC (sk := []) [J v1_3] (c_X12_reachTold l B D K v1_3 h_v1_3 M_12 h_M_12 _ hf) yv_X12_reachTold wm_X12_224 okX12.1 sc95 rfl ⟨Nat.le_of_ble_eq_true rfl, Nat.le_of_ble_eq_true rfl, Nat.le_of_ble_eq_true rfl, Nat.le_of_ble_eq_true rfl⟩ rfl (Nat.le_of_ble_eq_true rfl) dX12_statementTold_70 ?_
            intro M_13 h_M_13 hf
            refine g_sub [(0, .ref (B + 95))] [0] rfl ?_
            exact hJ73 M_13 hf h_M_13
          · replace hf := hf.2 c_15
            refine g_aload_n hC 0 dX12_statementTold_61 rfl rfl ?_
            refine g_callVV hC (sk := []) [] (c_X12_placesTold l B D K   M_12 h_M_12 _ hf) yv_X12_placesTold wm_X12_221 okX12.1 sc95 rfl ⟨Nat.le_of_ble_eq_true rfl, Nat.le_of_ble_eq_true rfl, Nat.le_of_ble_eq_true rfl, Nat.le_of_ble_eq_true rfl⟩ rfl (Nat.le_of_ble_eq_true rfl) dX12_statementTold_62 ?_
            intro M_14 h_M_14 hf
            refine g_goto hC 73 dX12_statementTold_65 rfl ?_
            refine g_sub [(0, .ref (B + 95))] [0] rfl ?_
            exact hJ73 M_14 hf h_M_14
  · intro J42 hJ42 hf
    refine jn_elim (fun (k : Mem → Prop) => ∀ (M_18 : Mem), k M_18 → (MR M_18) → G p l e (rmF 6 133) s m args below meth c B D K 3 0 0 (ZV below args s B D K Q) M_18 36 [(0, .ref (B + 95)), (1, J v1_3), (2, J r_4)] []) hf ?_ ?_
    · intro M_18 hf h_M_18
      refine g_aload_n hC 0 dX12_statementTold_36 rfl rfl ?_
      refine g_iconst hC dX12_statementTold_37 ?_
      refine g_iload_n hC 1 dX12_statementTold_38 rfl rfl ?_
      refine g_callVV hC (sk := []) [J 1, J v1_3] (c_X12_fail l B D K 1 v1_3 (by unfold inR; omega) h_v1_3 M_18 h_M_18 _ hf) yv_X12_fail wm_X12_159 okX12.1 sc95 rfl ⟨Nat.le_of_ble_eq_true rfl, Nat.le_of_ble_eq_true rfl, Nat.le_of_ble_eq_true rfl, Nat.le_of_ble_eq_true rfl⟩ rfl (Nat.le_of_ble_eq_true rfl) dX12_statementTold_39 ?_
      intro M_19 h_M_19 hf
      refine g_sub [(0, .ref (B + 95)), (1, J v1_3), (2, J r_4)] [0, 1, 2] rfl ?_
      exact hJ42 M_19 hf h_M_19
    · intro J36 hJ36 hf
      refine g_icmp_eq hC 36 h_r_4 (by unfold inR; omega) dX12_statementTold_17 rfl (fun c_23 => ?_) (fun c_23 => ?_)
      · replace hf := hf.1 c_23
        refine g_sub [(0, .ref (B + 95)), (1, J v1_3), (2, J r_4)] [2, 1, 0] rfl ?_
        exact hJ36 M_5 hf h_M_5
      · replace hf := hf.2 c_23
        refine g_iload_n hC 0 dX12_statementTold_20 rfl rfl ?_
        refine g_aload_n hC 2 dX12_statementTold_21 rfl rfl ?_
        refine g_geti hC okX12 sc95 14 (by decide) rfl wf_X12_218 dX12_statementTold_22 ?_
        refine jn_elim (fun (k : Int → Prop) => ∀ (s1_20 : Int), k s1_20 → ((s1_20 = 0 ∨ s1_20 = 1)) → G p l e (rmF 6 133) s m args below meth c B D K 3 0 0 (ZV below args s B D K Q) M_5 33 [(0, .ref (B + 95)), (1, J v1_3), (2, J r_4)] [J s1_20, J r_4]) hf ?_ ?_
        · intro s1_20 hf h_s1_20
          refine g_icmp_eq hC 42 h_r_4 (zi_ h_s1_20) dX12_statementTold_33 rfl (fun c_21 => ?_) (fun c_21 => ?_)
          · replace hf := hf.1 c_21
            refine g_sub [(0, .ref (B + 95)), (1, J v1_3), (2, J r_4)] [0, 1, 2] rfl ?_
            exact hJ42 M_5 hf h_M_5
          · replace hf := hf.2 c_21
            refine g_sub [(0, .ref (B + 95)), (1, J v1_3), (2, J r_4)] [0, 1, 2] rfl ?_
            exact hJ36 M_5 hf h_M_5
        · intro J33 hJ33 hf
          refine g_if_ne hC 32 (h_M_5 _ _) dX12_statementTold_25 rfl (fun c_22 => ?_) (fun c_22 => ?_)
          · replace hf := hf.1 c_22
            refine g_iconst hC dX12_statementTold_32 ?_
            refine g_sub [(0, .ref (B + 95)), (1, J v1_3), (2, J r_4)] [2, 1, 0] rfl ?_
            exact hJ33 1 hf (Or.inr rfl)
          · replace hf := hf.2 c_22
            refine g_iconst hC dX12_statementTold_28 ?_
            refine g_goto hC 33 dX12_statementTold_29 rfl ?_
            refine g_sub [(0, .ref (B + 95)), (1, J v1_3), (2, J r_4)] [2, 1, 0] rfl ?_
            exact hJ33 0 hf (Or.inl rfl)
set_option maxHeartbeats 4000000 in
set_option maxRecDepth 100000 in
theorem c_X12_net (l : Launch) (B : Nat) (D : va_G) (K : Nat → ClassId)   (M : Mem) (hM : MR M) (Q : Int → Mem → Prop) (hf : f_X12_net  M Q) : CtI l yX12_net cX12_net 2 7 155 B D K [.ref (B + 95)] M Q := by
  refine ct_i (by decide) (Nat.le_of_ble_eq_true rfl) ?_
  intro p e s m args below meth c hC
  have hC : Cx p s m args meth c D K cX12_net 2 RX12 (some .int) := hC
  unfold f_X12_net at hf
  refine (show G p l e (rmF 7 155) s m args below meth c B D K 2 0 0 (ZI below args s B D K Q) M 0 [(0, .ref (B + 95))] [] from ?_)
  refine g_aload_n hC 0 dX12_net_0 rfl rfl ?_
  refine g_aload_n hC 0 dX12_net_1 rfl rfl ?_
  refine g_geti hC okX12 sc95 1 (by decide) rfl wf_X12_114 dX12_net_2 ?_
  refine g_puti hC okX12 tnX12 sc95 3 (by decide) rfl rfl (by decide) wf_X12_143 dX12_net_5 ?_
  refine g_nmM (fun M_1 e_M_1 => ?_)
  replace hf := hf M_1 e_M_1
  have h_M_1 : MR M_1 := by rw [e_M_1]; exact MR_st hM (hM _ _)
  refine g_aload_n hC 0 dX12_net_8 rfl rfl ?_
  refine g_iconst hC dX12_net_9 ?_
  refine g_puti hC okX12 tnX12 sc95 1 (by decide) rfl rfl (by decide) wf_X12_114 dX12_net_10 ?_
  refine g_nmM (fun M_2 e_M_2 => ?_)
  replace hf := hf M_2 e_M_2
  have h_M_2 : MR M_2 := by rw [e_M_2]; exact MR_st h_M_1 (by unfold inR; omega)
  refine g_aload_n hC 0 dX12_net_13 rfl rfl ?_
  refine g_iconst hC dX12_net_14 ?_
  refine g_puti hC okX12 tnX12 sc95 2 (by decide) rfl rfl (by decide) wf_X12_140 dX12_net_15 ?_
  refine g_nmM (fun M_3 e_M_3 => ?_)
  replace hf := hf M_3 e_M_3
  have h_M_3 : MR M_3 := by rw [e_M_3]; exact MR_st h_M_2 (by unfold inR; omega)
  refine g_aload_n hC 0 dX12_net_18 rfl rfl ?_
  refine g_iconst hC dX12_net_19 ?_
  refine g_puti hC okX12 tnX12 sc95 4 (by decide) rfl rfl (by decide) wf_X12_153 dX12_net_20 ?_
  refine g_nmM (fun M_4 e_M_4 => ?_)
  replace hf := hf M_4 e_M_4
  have h_M_4 : MR M_4 := by rw [e_M_4]; exact MR_st h_M_3 (by unfold inR; omega)
  refine g_aload_n hC 0 dX12_net_23 rfl rfl ?_
  refine g_iconst hC dX12_net_24 ?_
  refine g_puti hC okX12 tnX12 sc95 5 (by decide) rfl rfl (by decide) wf_X12_134 dX12_net_25 ?_
  refine g_nmM (fun M_5 e_M_5 => ?_)
  replace hf := hf M_5 e_M_5
  have h_M_5 : MR M_5 := by rw [e_M_5]; exact MR_st h_M_4 (by unfold inR; omega)
  refine g_aload_n hC 0 dX12_net_28 rfl rfl ?_
  refine g_iconst hC dX12_net_29 ?_
  refine g_puti hC okX12 tnX12 sc95 6 (by decide) rfl rfl (by decide) wf_X12_137 dX12_net_30 ?_
  refine g_nmM (fun M_6 e_M_6 => ?_)
  replace hf := hf M_6 e_M_6
  have h_M_6 : MR M_6 := by rw [e_M_6]; exact MR_st h_M_5 (by unfold inR; omega)
  refine g_aload_n hC 0 dX12_net_33 rfl rfl ?_
  refine g_iconst hC dX12_net_34 ?_
  refine g_puti hC okX12 tnX12 sc95 14 (by decide) rfl rfl (by decide) wf_X12_218 dX12_net_35 ?_
  refine g_nmM (fun M_7 e_M_7 => ?_)
  replace hf := hf M_7 e_M_7
  have h_M_7 : MR M_7 := by rw [e_M_7]; exact MR_st h_M_6 (by unfold inR; omega)
  refine g_iconst hC dX12_net_38 ?_
  refine g_istore_n hC [(1, J 0), (0, .ref (B + 95))] dX12_net_39 rfl (by decide) rfl ?_
  refine jn_elim (fun (k : Mem → Prop) => ∀ (M_8 : Mem), k M_8 → (MR M_8) → G p l e (rmF 7 155) s m args below meth c B D K 2 0 0 (ZI below args s B D K Q) M_8 60 [(0, .ref (B + 95))] []) hf ?_ ?_
  · intro M_8 hf h_M_8
    refine g_aload_n hC 0 dX12_net_60 rfl rfl ?_
    refine g_callVV hC (sk := []) [] (c_X12_statementTold l B D K   M_8 h_M_8 _ hf) yv_X12_statementTold wm_X12_230 okX12.1 sc95 rfl ⟨Nat.le_of_ble_eq_true rfl, Nat.le_of_ble_eq_true rfl, Nat.le_of_ble_eq_true rfl, Nat.le_of_ble_eq_true rfl⟩ rfl (Nat.le_of_ble_eq_true rfl) dX12_net_61 ?_
    intro M_9 h_M_9 hf
    refine jn_elim (fun (k : Mem → Prop) => ∀ (M_10 : Mem), k M_10 → (MR M_10) → G p l e (rmF 7 155) s m args below meth c B D K 2 0 0 (ZI below args s B D K Q) M_10 86 [(0, .ref (B + 95))] []) hf ?_ ?_
    · intro M_10 hf h_M_10
      refine g_aload_n hC 0 dX12_net_86 rfl rfl ?_
      refine g_aload_n hC 0 dX12_net_87 rfl rfl ?_
      refine g_geti hC okX12 sc95 5 (by decide) rfl wf_X12_134 dX12_net_88 ?_
      refine g_puti hC okX12 tnX12 sc95 7 (by decide) rfl rfl (by decide) wf_X12_131 dX12_net_91 ?_
      refine g_nmM (fun M_11 e_M_11 => ?_)
      replace hf := hf M_11 e_M_11
      have h_M_11 : MR M_11 := by rw [e_M_11]; exact MR_st h_M_10 (h_M_10 _ _)
      refine g_aload_n hC 0 dX12_net_94 rfl rfl ?_
      refine g_aload_n hC 0 dX12_net_95 rfl rfl ?_
      refine g_geti hC okX12 sc95 6 (by decide) rfl wf_X12_137 dX12_net_96 ?_
      refine g_puti hC okX12 tnX12 sc95 8 (by decide) rfl rfl (by decide) wf_X12_13 dX12_net_99 ?_
      refine g_nmM (fun M_12 e_M_12 => ?_)
      replace hf := hf M_12 e_M_12
      have h_M_12 : MR M_12 := by rw [e_M_12]; exact MR_st h_M_11 (h_M_11 _ _)
      refine g_aload_n hC 0 dX12_net_102 rfl rfl ?_
      refine g_geti hC okX12 sc95 5 (by decide) rfl wf_X12_134 dX12_net_103 ?_
      refine g_if_eq hC 115 (h_M_12 _ _) dX12_net_106 rfl (fun c_27 => ?_) (fun c_27 => ?_)
      · replace hf := hf.1 c_27
        refine g_iconst hC dX12_net_115 ?_
        refine g_istore_n hC [(1, J 0), (0, .ref (B + 95))] dX12_net_116 rfl (by decide) rfl ?_
        refine jn_elim (fun (k : Mem → Prop) => ∀ (M_13 : Mem), k M_13 → (MR M_13) → G p l e (rmF 7 155) s m args below meth c B D K 2 0 0 (ZI below args s B D K Q) M_13 142 [(0, .ref (B + 95))] []) hf ?_ ?_
        · intro M_13 hf h_M_13
          refine g_aload_n hC 0 dX12_net_142 rfl rfl ?_
          refine g_iconst hC dX12_net_143 ?_
          refine g_putz hC okX12 tnX12 sc95 15 (by decide) rfl rfl (by decide) wf_X12_233 (Or.inl rfl) dX12_net_144 ?_
          refine g_nmM (fun M_14 e_M_14 => ?_)
          replace hf := hf M_14 e_M_14
          have h_M_14 : MR M_14 := by rw [e_M_14]; exact MR_st h_M_13 (by unfold inR; omega)
          refine g_aload_n hC 0 dX12_net_147 rfl rfl ?_
          refine g_iconst hC dX12_net_148 ?_
          refine g_puti hC okX12 tnX12 sc95 41 (by decide) rfl rfl (by decide) wf_X12_237 dX12_net_149 ?_
          refine g_nmM (fun M_15 e_M_15 => ?_)
          replace hf := hf M_15 e_M_15
          have h_M_15 : MR M_15 := by rw [e_M_15]; exact MR_st h_M_14 (by unfold inR; omega)
          refine g_aload_n hC 0 dX12_net_152 rfl rfl ?_
          refine g_iconst hC dX12_net_153 ?_
          refine g_puti hC okX12 tnX12 sc95 38 (by decide) rfl rfl (by decide) wf_X12_240 dX12_net_154 ?_
          refine g_nmM (fun M_16 e_M_16 => ?_)
          replace hf := hf M_16 e_M_16
          have h_M_16 : MR M_16 := by rw [e_M_16]; exact MR_st h_M_15 (by unfold inR; omega)
          refine g_aload_n hC 0 dX12_net_157 rfl rfl ?_
          refine g_iconst hC dX12_net_158 ?_
          refine g_putz hC okX12 tnX12 sc95 43 (by decide) rfl rfl (by decide) wf_X12_243 (Or.inl rfl) dX12_net_159 ?_
          refine g_nmM (fun M_17 e_M_17 => ?_)
          replace hf := hf M_17 e_M_17
          have h_M_17 : MR M_17 := by rw [e_M_17]; exact MR_st h_M_16 (by unfold inR; omega)
          refine g_aload_n hC 0 dX12_net_162 rfl rfl ?_
          refine g_geti hC okX12 sc95 14 (by decide) rfl wf_X12_218 dX12_net_163 ?_
          exact g_reti hC (h_M_17 _ _) h_M_17 hf dX12_net_166
        · intro J142 hJ142 hf
          refine g_sub [(0, .ref (B + 95)), (1, J 0)] [1, 0] rfl ?_
          refine wl2_elim (fun (v1_18 : Int) (M_19 : Mem) => inR v1_18 → MR M_19 → G p l e (rmF 7 155) s m args below meth c B D K 2 0 0 (ZI below args s B D K Q) M_19 117 [(0, .ref (B + 95)), (1, J v1_18)] []) ?_ 5000 0 M_12 hf (by unfold inR; omega) h_M_12
          intro rec117 ih117 v1_18 M_19 hf h_v1_18 h_M_19
          unfold X12_net_b117 at hf
          refine g_iload_n hC 1 dX12_net_117 rfl rfl ?_
          refine g_sipush hC dX12_net_118 (by decide) ?_
          refine g_icmp_ge hC 142 h_v1_18 (by unfold inR; omega) dX12_net_121 rfl (fun c_24 => ?_) (fun c_24 => ?_)
          · replace hf := hf.1 c_24
            refine g_sub [(0, .ref (B + 95))] [0] rfl ?_
            exact hJ142 M_19 hf h_M_19
          · replace hf := hf.2 c_24
            refine g_aload_n hC 0 dX12_net_124 rfl rfl ?_
            refine g_getr hC okX12 sc95 13 (by decide) rfl wf_X12_27 dX12_net_125 ?_
            refine g_iload_n hC 1 dX12_net_128 rfl rfl ?_
            refine g_aload_n hC 0 dX12_net_129 rfl rfl ?_
            refine g_getr hC okX12 sc95 12 (by decide) rfl wf_X12_24 dX12_net_130 ?_
            refine g_iload_n hC 1 dX12_net_133 rfl rfl ?_
            obtain ⟨q_20, hf⟩ := hf
            refine g_ialdk (v1_18.toNat) hC sc99 q_20.1 q_20.2 rfl dX12_net_134 ?_
            refine g_iastk (v1_18.toNat) hC sc100 q_20.1 q_20.2 rfl dX12_net_135 ?_
            refine g_nmM (fun M_21 e_M_21 => ?_)
            replace hf := hf M_21 e_M_21
            have h_M_21 : MR M_21 := by rw [e_M_21]; exact MR_st h_M_19 (h_M_19 _ _)
            obtain ⟨q_23, hf⟩ := hf
            obtain ⟨v1_22, e_v1_22⟩ : ∃ z : Int, z = v1_18 + 1 := ⟨_, rfl⟩
            replace hf := hf v1_22 e_v1_22
            have h_v1_22 : inR v1_22 := by rw [e_v1_22]; exact q_23
            refine g_iincv hC 1 e_v1_22 [(1, J v1_22), (0, .ref (B + 95))] dX12_net_136 rfl (by decide) rfl ?_
            refine g_goto hC 117 dX12_net_139 rfl ?_
            refine g_sub [(0, .ref (B + 95)), (1, J v1_22)] [1, 0] rfl ?_
            exact ih117 v1_22 M_21 hf h_v1_22 h_M_21
      · replace hf := hf.2 c_27
        refine g_aload_n hC 0 dX12_net_109 rfl rfl ?_
        refine g_iconst hC dX12_net_110 ?_
        refine g_callVI hC (sk := []) [J 1] (c_X12_refuses l B D K 1 (by unfold inR; omega) M_12 h_M_12 _ hf) yv_X12_refuses wm_X12_117 okX12.1 sc95 rfl ⟨Nat.le_of_ble_eq_true rfl, Nat.le_of_ble_eq_true rfl, Nat.le_of_ble_eq_true rfl, Nat.le_of_ble_eq_true rfl⟩ rfl (Nat.le_of_ble_eq_true rfl) dX12_net_111 ?_
        intro r_25 M_26 h_r_25 h_M_26 hf
        exact g_reti hC h_r_25 h_M_26 hf dX12_net_114
    · intro J86 hJ86 hf
      refine g_sub [(0, .ref (B + 95))] [0] rfl ?_
      refine wl1_elim (fun (M_28 : Mem) => MR M_28 → G p l e (rmF 7 155) s m args below meth c B D K 2 0 0 (ZI below args s B D K Q) M_28 64 [(0, .ref (B + 95))] []) ?_ 5000 M_9 hf h_M_9
      intro rec64 ih64 M_28 hf h_M_28
      unfold X12_net_b64 at hf
      refine g_aload_n hC 0 dX12_net_64 rfl rfl ?_
      refine g_geti hC okX12 sc95 5 (by decide) rfl wf_X12_134 dX12_net_65 ?_
      refine g_if_ne hC 86 (h_M_28 _ _) dX12_net_68 rfl (fun c_33 => ?_) (fun c_33 => ?_)
      · replace hf := hf.1 c_33
        refine g_sub [(0, .ref (B + 95))] [0] rfl ?_
        exact hJ86 M_28 hf h_M_28
      · replace hf := hf.2 c_33
        refine g_aload_n hC 0 dX12_net_71 rfl rfl ?_
        refine g_callVI hC (sk := []) [] (c_X12_look l B D K   M_28 h_M_28 _ hf) yv_X12_look wm_X12_146 okX12.1 sc95 rfl ⟨Nat.le_of_ble_eq_true rfl, Nat.le_of_ble_eq_true rfl, Nat.le_of_ble_eq_true rfl, Nat.le_of_ble_eq_true rfl⟩ rfl (Nat.le_of_ble_eq_true rfl) dX12_net_72 ?_
        intro r_29 M_30 h_r_29 h_M_30 hf
        refine g_iconst hC dX12_net_75 ?_
        refine g_icmp_eq hC 86 h_r_29 (by unfold inR; omega) dX12_net_76 rfl (fun c_32 => ?_) (fun c_32 => ?_)
        · replace hf := hf.1 c_32
          refine g_sub [(0, .ref (B + 95))] [0] rfl ?_
          exact hJ86 M_30 hf h_M_30
        · replace hf := hf.2 c_32
          refine g_aload_n hC 0 dX12_net_79 rfl rfl ?_
          refine g_callVV hC (sk := []) [] (c_X12_statementTold l B D K   M_30 h_M_30 _ hf) yv_X12_statementTold wm_X12_230 okX12.1 sc95 rfl ⟨Nat.le_of_ble_eq_true rfl, Nat.le_of_ble_eq_true rfl, Nat.le_of_ble_eq_true rfl, Nat.le_of_ble_eq_true rfl⟩ rfl (Nat.le_of_ble_eq_true rfl) dX12_net_80 ?_
          intro M_31 h_M_31 hf
          refine g_goto hC 64 dX12_net_83 rfl ?_
          refine g_sub [(0, .ref (B + 95))] [0] rfl ?_
          exact ih64 M_31 hf h_M_31
  · intro J60 hJ60 hf
    refine g_sub [(0, .ref (B + 95)), (1, J 0)] [1, 0] rfl ?_
    refine wl2_elim (fun (v1_34 : Int) (M_35 : Mem) => inR v1_34 → MR M_35 → G p l e (rmF 7 155) s m args below meth c B D K 2 0 0 (ZI below args s B D K Q) M_35 40 [(0, .ref (B + 95)), (1, J v1_34)] []) ?_ 5000 0 M_7 hf (by unfold inR; omega) h_M_7
    intro rec40 ih40 v1_34 M_35 hf h_v1_34 h_M_35
    unfold X12_net_b40 at hf
    refine g_iload_n hC 1 dX12_net_40 rfl rfl ?_
    refine g_sipush hC dX12_net_41 (by decide) ?_
    refine g_icmp_ge hC 60 h_v1_34 (by unfold inR; omega) dX12_net_44 rfl (fun c_40 => ?_) (fun c_40 => ?_)
    · replace hf := hf.1 c_40
      refine g_sub [(0, .ref (B + 95))] [0] rfl ?_
      exact hJ60 M_35 hf h_M_35
    · replace hf := hf.2 c_40
      refine g_aload_n hC 0 dX12_net_47 rfl rfl ?_
      refine g_getr hC okX12 sc95 12 (by decide) rfl wf_X12_24 dX12_net_48 ?_
      refine g_iload_n hC 1 dX12_net_51 rfl rfl ?_
      refine g_iconst hC dX12_net_52 ?_
      obtain ⟨q_36, hf⟩ := hf
      refine g_iastk (v1_34.toNat) hC sc99 q_36.1 q_36.2 rfl dX12_net_53 ?_
      refine g_nmM (fun M_37 e_M_37 => ?_)
      replace hf := hf M_37 e_M_37
      have h_M_37 : MR M_37 := by rw [e_M_37]; exact MR_st h_M_35 (by unfold inR; omega)
      obtain ⟨q_39, hf⟩ := hf
      obtain ⟨v1_38, e_v1_38⟩ : ∃ z : Int, z = v1_34 + 1 := ⟨_, rfl⟩
      replace hf := hf v1_38 e_v1_38
      have h_v1_38 : inR v1_38 := by rw [e_v1_38]; exact q_39
      refine g_iincv hC 1 e_v1_38 [(1, J v1_38), (0, .ref (B + 95))] dX12_net_54 rfl (by decide) rfl ?_
      refine g_goto hC 40 dX12_net_57 rfl ?_
      refine g_sub [(0, .ref (B + 95)), (1, J v1_38)] [1, 0] rfl ?_
      exact ih40 v1_38 M_37 hf h_v1_38 h_M_37
set_option maxHeartbeats 4000000 in
set_option maxRecDepth 100000 in
theorem c_X12_places (l : Launch) (B : Nat) (D : va_G) (K : Nat → ClassId)   (M : Mem) (hM : MR M) (Q : Int → Prop) (hf : f_X12_places  M Q) : CtI l yX12_places cX12_places 1 0 0 B D K [.ref (B + 95)] M (fun r M1 => M = M1 ∧ Q r) := by
  refine ct_i (by decide) (Nat.le_of_ble_eq_true rfl) ?_
  intro p e s m args below meth c hC
  have hC : Cx p s m args meth c D K cX12_places 1 RX12 (some .int) := hC
  unfold f_X12_places at hf
  refine (show G p l e (rmF 0 0) s m args below meth c B D K 1 0 0 (ZI below args s B D K (fun r M1 => M = M1 ∧ Q r)) M 0 [(0, .ref (B + 95))] [] from ?_)
  refine g_aload_n hC 0 dX12_places_0 rfl rfl ?_
  refine g_getr hC okX12 sc95 13 (by decide) rfl wf_X12_27 dX12_places_1 ?_
  refine g_iconst hC dX12_places_4 ?_
  refine g_ialdk 0 hC sc100 (by decide) (by decide) rfl dX12_places_5 ?_
  exact g_reti hC (hM _ _) hM ⟨rfl, hf⟩ dX12_places_6
set_option maxHeartbeats 4000000 in
set_option maxRecDepth 100000 in
theorem c_X12_reaches (l : Launch) (B : Nat) (D : va_G) (K : Nat → ClassId)   (M : Mem) (hM : MR M) (Q : Int → Prop) (hf : f_X12_reaches  M Q) : CtI l yX12_reaches cX12_reaches 1 0 0 B D K [.ref (B + 95)] M (fun r M1 => M = M1 ∧ Q r) := by
  refine ct_i (by decide) (Nat.le_of_ble_eq_true rfl) ?_
  intro p e s m args below meth c hC
  have hC : Cx p s m args meth c D K cX12_reaches 1 RX12 (some .int) := hC
  unfold f_X12_reaches at hf
  refine (show G p l e (rmF 0 0) s m args below meth c B D K 1 0 0 (ZI below args s B D K (fun r M1 => M = M1 ∧ Q r)) M 0 [(0, .ref (B + 95))] [] from ?_)
  refine g_aload_n hC 0 dX12_reaches_0 rfl rfl ?_
  refine g_getr hC okX12 sc95 13 (by decide) rfl wf_X12_27 dX12_reaches_1 ?_
  refine g_iconst hC dX12_reaches_4 ?_
  refine g_ialdk 1 hC sc100 (by decide) (by decide) rfl dX12_reaches_5 ?_
  exact g_reti hC (hM _ _) hM ⟨rfl, hf⟩ dX12_reaches_6
set_option maxHeartbeats 4000000 in
set_option maxRecDepth 100000 in
theorem c_X12_isPlace (l : Launch) (B : Nat) (D : va_G) (K : Nat → ClassId) (v1 : Int) (i_v1 : inR v1) (M : Mem) (hM : MR M) (Q : Int → Prop) (hf : f_X12_isPlace v1 M Q) : CtZ l yX12_isPlace cX12_isPlace 2 1 25 B D K [.ref (B + 95), J v1] M (fun r M1 => M = M1 ∧ Q r) := by
  refine ct_z (by decide) (Nat.le_of_ble_eq_true rfl) ?_
  intro p e s m args below meth c hC
  have hC : Cx p s m args meth c D K cX12_isPlace 2 RX12 (some .boolean) := hC
  unfold f_X12_isPlace at hf
  refine (show G p l e (rmF 1 25) s m args below meth c B D K 2 0 0 (ZZ below args s B D K (fun r M1 => M = M1 ∧ Q r)) M 0 [(0, .ref (B + 95)), (1, J v1)] [] from ?_)
  refine g_iload_n hC 1 dX12_isPlace_0 rfl rfl ?_
  refine g_i2l hC i_v1 dX12_isPlace_1 ?_
  refine g_lconst (n := 0) hC dX12_isPlace_2 (by decide) ?_
  refine g_aload_n hC 0 dX12_isPlace_3 rfl rfl ?_
  refine g_callVI hC (sk := [JL 0, JL v1]) [] (c_X12_places l B D K   M hM _ hf) yv_X12_places wm_X12_246 okX12.1 sc95 rfl ⟨Nat.le_of_ble_eq_true rfl, Nat.le_of_ble_eq_true rfl, Nat.le_of_ble_eq_true rfl, Nat.le_of_ble_eq_true rfl⟩ rfl (Nat.le_of_ble_eq_true rfl) dX12_isPlace_4 ?_
  rintro r_1 M_2 h_r_1 - ⟨rfl, hf⟩
  refine g_iconst hC dX12_isPlace_7 ?_
  refine g_isub hC dX12_isPlace_8 ?_
  obtain ⟨q_3, hf⟩ := hf
  refine g_i2l hC q_3 dX12_isPlace_9 ?_
  refine g_callSZ hC (sk := []) [JL v1, JL 0, JL (r_1 - 1)] (c_X12_isIn l B D K v1 0 (r_1 - 1) (inL_of i_v1) (by unfold inL; omega) (inL_of q_3) M hM _ hf) yv_X12_isIn wm_X12_127 rfl ⟨Nat.le_of_ble_eq_true rfl, Nat.le_of_ble_eq_true rfl, Nat.le_of_ble_eq_true rfl, Nat.le_of_ble_eq_true rfl⟩ rfl (Nat.le_of_ble_eq_true rfl) dX12_isPlace_10 ?_
  rintro r_4 M_5 h_r_4 - ⟨rfl, hf⟩
  exact g_retz hC h_r_4 hM ⟨rfl, hf⟩ dX12_isPlace_13
set_option maxHeartbeats 4000000 in
set_option maxRecDepth 100000 in
theorem c_X12_isReach (l : Launch) (B : Nat) (D : va_G) (K : Nat → ClassId) (v1 : Int) (i_v1 : inR v1) (M : Mem) (hM : MR M) (Q : Int → Prop) (hf : f_X12_isReach v1 M Q) : CtZ l yX12_isReach cX12_isReach 2 1 25 B D K [.ref (B + 95), J v1] M (fun r M1 => M = M1 ∧ Q r) := by
  refine ct_z (by decide) (Nat.le_of_ble_eq_true rfl) ?_
  intro p e s m args below meth c hC
  have hC : Cx p s m args meth c D K cX12_isReach 2 RX12 (some .boolean) := hC
  unfold f_X12_isReach at hf
  refine (show G p l e (rmF 1 25) s m args below meth c B D K 2 0 0 (ZZ below args s B D K (fun r M1 => M = M1 ∧ Q r)) M 0 [(0, .ref (B + 95)), (1, J v1)] [] from ?_)
  refine g_iload_n hC 1 dX12_isReach_0 rfl rfl ?_
  refine g_i2l hC i_v1 dX12_isReach_1 ?_
  refine g_lconst (n := 0) hC dX12_isReach_2 (by decide) ?_
  refine g_aload_n hC 0 dX12_isReach_3 rfl rfl ?_
  refine g_callVI hC (sk := [JL 0, JL v1]) [] (c_X12_reaches l B D K   M hM _ hf) yv_X12_reaches wm_X12_249 okX12.1 sc95 rfl ⟨Nat.le_of_ble_eq_true rfl, Nat.le_of_ble_eq_true rfl, Nat.le_of_ble_eq_true rfl, Nat.le_of_ble_eq_true rfl⟩ rfl (Nat.le_of_ble_eq_true rfl) dX12_isReach_4 ?_
  rintro r_1 M_2 h_r_1 - ⟨rfl, hf⟩
  refine g_iconst hC dX12_isReach_7 ?_
  refine g_isub hC dX12_isReach_8 ?_
  obtain ⟨q_3, hf⟩ := hf
  refine g_i2l hC q_3 dX12_isReach_9 ?_
  refine g_callSZ hC (sk := []) [JL v1, JL 0, JL (r_1 - 1)] (c_X12_isIn l B D K v1 0 (r_1 - 1) (inL_of i_v1) (by unfold inL; omega) (inL_of q_3) M hM _ hf) yv_X12_isIn wm_X12_127 rfl ⟨Nat.le_of_ble_eq_true rfl, Nat.le_of_ble_eq_true rfl, Nat.le_of_ble_eq_true rfl, Nat.le_of_ble_eq_true rfl⟩ rfl (Nat.le_of_ble_eq_true rfl) dX12_isReach_10 ?_
  rintro r_4 M_5 h_r_4 - ⟨rfl, hf⟩
  exact g_retz hC h_r_4 hM ⟨rfl, hf⟩ dX12_isReach_13
set_option maxHeartbeats 4000000 in
set_option maxRecDepth 100000 in
theorem c_X12_its (l : Launch) (B : Nat) (D : va_G) (K : Nat → ClassId) (v1 : Int) (v2 : Int) (i_v1 : inR v1) (i_v2 : inR v2) (M : Mem) (hM : MR M) (Q : Int → Prop) (hf : f_X12_its v1 v2 M Q) : CtI l yX12_its cX12_its 3 1 21 B D K [.ref (B + 95), J v1, J v2] M (fun r M1 => M = M1 ∧ Q r) := by
  refine ct_i (by decide) (Nat.le_of_ble_eq_true rfl) ?_
  intro p e s m args below meth c hC
  have hC : Cx p s m args meth c D K cX12_its 3 RX12 (some .int) := hC
  unfold f_X12_its at hf
  refine (show G p l e (rmF 1 21) s m args below meth c B D K 3 0 0 (ZI below args s B D K (fun r M1 => M = M1 ∧ Q r)) M 0 [(0, .ref (B + 95)), (1, J v1), (2, J v2)] [] from ?_)
  refine g_aload_n hC 0 dX12_its_0 rfl rfl ?_
  refine g_getr hC okX12 sc95 13 (by decide) rfl wf_X12_27 dX12_its_1 ?_
  refine g_iload_n hC 1 dX12_its_4 rfl rfl ?_
  refine g_iload_n hC 2 dX12_its_5 rfl rfl ?_
  refine g_callSI hC (sk := [.ref (B + 100)]) [J v1, J v2] (c_X12_reachAt l B D K v1 v2 i_v1 i_v2 M hM _ hf) yv_X12_reachAt wm_X12_183 rfl ⟨Nat.le_of_ble_eq_true rfl, Nat.le_of_ble_eq_true rfl, Nat.le_of_ble_eq_true rfl, Nat.le_of_ble_eq_true rfl⟩ rfl (Nat.le_of_ble_eq_true rfl) dX12_its_6 ?_
  rintro r_1 M_2 h_r_1 - ⟨rfl, hf⟩
  obtain ⟨q_3, hf⟩ := hf
  refine g_ialdk (r_1.toNat) hC sc100 q_3.1 q_3.2 rfl dX12_its_9 ?_
  exact g_reti hC (hM _ _) hM ⟨rfl, hf⟩ dX12_its_10
set_option maxHeartbeats 4000000 in
set_option maxRecDepth 100000 in
theorem c_X12_isSource (l : Launch) (B : Nat) (D : va_G) (K : Nat → ClassId) (v1 : Int) (i_v1 : inR v1) (M : Mem) (hM : MR M) (Q : Int → Prop) (hf : f_X12_isSource v1 M Q) : CtZ l yX12_isSource cX12_isSource 2 0 0 B D K [.ref (B + 95), J v1] M (fun r M1 => M = M1 ∧ Q r) := by
  refine ct_z (by decide) (Nat.le_of_ble_eq_true rfl) ?_
  intro p e s m args below meth c hC
  have hC : Cx p s m args meth c D K cX12_isSource 2 RX12 (some .boolean) := hC
  unfold f_X12_isSource at hf
  refine (show G p l e (rmF 0 0) s m args below meth c B D K 2 0 0 (ZZ below args s B D K (fun r M1 => M = M1 ∧ Q r)) M 0 [(0, .ref (B + 95)), (1, J v1)] [] from ?_)
  refine g_aload_n hC 0 dX12_isSource_0 rfl rfl ?_
  refine g_getr hC okX12 sc95 17 (by decide) rfl wf_X12_33 dX12_isSource_1 ?_
  refine g_iload_n hC 1 dX12_isSource_4 rfl rfl ?_
  obtain ⟨q_1, hf⟩ := hf
  refine g_ialdk (v1.toNat) hC sc102 q_1.1 q_1.2 rfl dX12_isSource_5 ?_
  refine g_if_ne hC 22 (hM _ _) dX12_isSource_6 rfl (fun c_3 => ?_) (fun c_3 => ?_)
  · replace hf := hf.1 c_3
    refine g_iconst hC dX12_isSource_22 ?_
    exact g_retz hC (Or.inl rfl) hM ⟨rfl, hf⟩ dX12_isSource_23
  · replace hf := hf.2 c_3
    refine g_aload_n hC 0 dX12_isSource_9 rfl rfl ?_
    refine g_getr hC okX12 sc95 18 (by decide) rfl wf_X12_36 dX12_isSource_10 ?_
    refine g_iload_n hC 1 dX12_isSource_13 rfl rfl ?_
    refine g_ialdk (v1.toNat) hC sc103 q_1.1 q_1.2 rfl dX12_isSource_14 ?_
    refine g_if_le hC 22 (hM _ _) dX12_isSource_15 rfl (fun c_2 => ?_) (fun c_2 => ?_)
    · replace hf := hf.1 c_2
      refine g_iconst hC dX12_isSource_22 ?_
      exact g_retz hC (Or.inl rfl) hM ⟨rfl, hf⟩ dX12_isSource_23
    · replace hf := hf.2 c_2
      refine g_iconst hC dX12_isSource_18 ?_
      refine g_goto hC 23 dX12_isSource_19 rfl ?_
      exact g_retz hC (Or.inr rfl) hM ⟨rfl, hf⟩ dX12_isSource_23
set_option maxHeartbeats 4000000 in
set_option maxRecDepth 100000 in
theorem c_X12_isMouth (l : Launch) (B : Nat) (D : va_G) (K : Nat → ClassId) (v1 : Int) (i_v1 : inR v1) (M : Mem) (hM : MR M) (Q : Int → Prop) (hf : f_X12_isMouth v1 M Q) : CtZ l yX12_isMouth cX12_isMouth 2 0 0 B D K [.ref (B + 95), J v1] M (fun r M1 => M = M1 ∧ Q r) := by
  refine ct_z (by decide) (Nat.le_of_ble_eq_true rfl) ?_
  intro p e s m args below meth c hC
  have hC : Cx p s m args meth c D K cX12_isMouth 2 RX12 (some .boolean) := hC
  unfold f_X12_isMouth at hf
  refine (show G p l e (rmF 0 0) s m args below meth c B D K 2 0 0 (ZZ below args s B D K (fun r M1 => M = M1 ∧ Q r)) M 0 [(0, .ref (B + 95)), (1, J v1)] [] from ?_)
  refine g_aload_n hC 0 dX12_isMouth_0 rfl rfl ?_
  refine g_getr hC okX12 sc95 18 (by decide) rfl wf_X12_36 dX12_isMouth_1 ?_
  refine g_iload_n hC 1 dX12_isMouth_4 rfl rfl ?_
  obtain ⟨q_1, hf⟩ := hf
  refine g_ialdk (v1.toNat) hC sc103 q_1.1 q_1.2 rfl dX12_isMouth_5 ?_
  refine g_if_ne hC 22 (hM _ _) dX12_isMouth_6 rfl (fun c_3 => ?_) (fun c_3 => ?_)
  · replace hf := hf.1 c_3
    refine g_iconst hC dX12_isMouth_22 ?_
    exact g_retz hC (Or.inl rfl) hM ⟨rfl, hf⟩ dX12_isMouth_23
  · replace hf := hf.2 c_3
    refine g_aload_n hC 0 dX12_isMouth_9 rfl rfl ?_
    refine g_getr hC okX12 sc95 17 (by decide) rfl wf_X12_33 dX12_isMouth_10 ?_
    refine g_iload_n hC 1 dX12_isMouth_13 rfl rfl ?_
    refine g_ialdk (v1.toNat) hC sc102 q_1.1 q_1.2 rfl dX12_isMouth_14 ?_
    refine g_if_le hC 22 (hM _ _) dX12_isMouth_15 rfl (fun c_2 => ?_) (fun c_2 => ?_)
    · replace hf := hf.1 c_2
      refine g_iconst hC dX12_isMouth_22 ?_
      exact g_retz hC (Or.inl rfl) hM ⟨rfl, hf⟩ dX12_isMouth_23
    · replace hf := hf.2 c_2
      refine g_iconst hC dX12_isMouth_18 ?_
      refine g_goto hC 23 dX12_isMouth_19 rfl ?_
      exact g_retz hC (Or.inr rfl) hM ⟨rfl, hf⟩ dX12_isMouth_23
set_option maxHeartbeats 4000000 in
set_option maxRecDepth 100000 in
theorem c_X12_laysOrder (l : Launch) (B : Nat) (D : va_G) (K : Nat → ClassId)   (M : Mem) (hM : MR M) (Q : Mem → Prop) (hf : f_X12_laysOrder  M Q) : CtV l yX12_laysOrder cX12_laysOrder 6 2 43 B D K [.ref (B + 95)] M Q := by
  refine ct_v (by decide) (Nat.le_of_ble_eq_true rfl) ?_
  intro p e s m args below meth c hC
  have hC : Cx p s m args meth c D K cX12_laysOrder 6 RX12 none := hC
  unfold f_X12_laysOrder at hf
  refine (show G p l e (rmF 2 43) s m args below meth c B D K 6 0 0 (ZV below args s B D K Q) M 0 [(0, .ref (B + 95))] [] from ?_)
  refine g_iconst hC dX12_laysOrder_0 ?_
  refine g_istore_n hC [(1, J 0), (0, .ref (B + 95))] dX12_laysOrder_1 rfl (by decide) rfl ?_
  refine g_iconst hC dX12_laysOrder_2 ?_
  refine g_istore_n hC [(2, J 0), (1, J 0), (0, .ref (B + 95))] dX12_laysOrder_3 rfl (by decide) rfl ?_
  refine g_iconst hC dX12_laysOrder_4 ?_
  refine g_istore_n hC [(3, J 0), (2, J 0), (1, J 0), (0, .ref (B + 95))] dX12_laysOrder_5 rfl (by decide) rfl ?_
  refine jn_elim (fun (k : Mem → Prop) => ∀ (M_1 : Mem), k M_1 → (MR M_1) → G p l e (rmF 2 43) s m args below meth c B D K 6 0 0 (ZV below args s B D K Q) M_1 34 [(0, .ref (B + 95)), (1, J 0), (2, J 0)] []) hf ?_ ?_
  · intro M_1 hf h_M_1
    refine g_iconst hC dX12_laysOrder_34 ?_
    refine g_istore_n hC [(3, J 0), (0, .ref (B + 95)), (1, J 0), (2, J 0)] dX12_laysOrder_35 rfl (by decide) rfl ?_
    refine jn_elim (fun (k : Mem → Prop) => ∀ (M_2 : Mem), k M_2 → (MR M_2) → G p l e (rmF 2 43) s m args below meth c B D K 6 0 0 (ZV below args s B D K Q) M_2 80 [(0, .ref (B + 95)), (1, J 0), (2, J 0)] []) hf ?_ ?_
    · intro M_2 hf h_M_2
      refine g_sub [(0, .ref (B + 95)), (1, J 0), (2, J 0)] [0, 1, 2] rfl ?_
      refine wl3_elim (fun (v1_3 : Int) (v2_4 : Int) (M_5 : Mem) => inR v1_3 → inR v2_4 → MR M_5 → G p l e (rmF 2 43) s m args below meth c B D K 6 0 0 (ZV below args s B D K Q) M_5 80 [(0, .ref (B + 95)), (1, J v1_3), (2, J v2_4)] []) ?_ 5000 0 0 M_2 hf (by unfold inR; omega) (by unfold inR; omega) h_M_2
      intro rec80 ih80 v1_3 v2_4 M_5 hf h_v1_3 h_v2_4 h_M_5
      unfold X12_laysOrder_b80 at hf
      refine g_iload_n hC 2 dX12_laysOrder_80 rfl rfl ?_
      refine g_aload_n hC 0 dX12_laysOrder_81 rfl rfl ?_
      refine g_callVI hC (sk := [J v2_4]) [] (c_X12_places l B D K   M_5 h_M_5 _ hf) yv_X12_places wm_X12_246 okX12.1 sc95 rfl ⟨Nat.le_of_ble_eq_true rfl, Nat.le_of_ble_eq_true rfl, Nat.le_of_ble_eq_true rfl, Nat.le_of_ble_eq_true rfl⟩ rfl (Nat.le_of_ble_eq_true rfl) dX12_laysOrder_82 ?_
      rintro r_6 M_7 h_r_6 - ⟨rfl, hf⟩
      refine g_icmp_ge hC 201 h_v2_4 h_r_6 dX12_laysOrder_85 rfl (fun c_50 => ?_) (fun c_50 => ?_)
      · replace hf := hf.1 c_50
        exact g_retv hC h_M_5 hf dX12_laysOrder_201
      · replace hf := hf.2 c_50
        refine g_iconst hC dX12_laysOrder_88 ?_
        refine g_istore_n hC [(3, J 0), (0, .ref (B + 95)), (1, J v1_3), (2, J v2_4)] dX12_laysOrder_89 rfl (by decide) rfl ?_
        refine g_sub [(0, .ref (B + 95)), (1, J v1_3), (2, J v2_4), (3, J 0)] [1, 2, 3, 0] rfl ?_
        refine wl4_elim (fun (v1_8 : Int) (v2_9 : Int) (v3_10 : Int) (M_11 : Mem) => inR v1_8 → inR v2_9 → inR v3_10 → MR M_11 → G p l e (rmF 2 43) s m args below meth c B D K 6 0 0 (ZV below args s B D K Q) M_11 90 [(0, .ref (B + 95)), (1, J v1_8), (2, J v2_9), (3, J v3_10)] []) ?_ 5000 v1_3 v2_4 0 M_5 hf h_v1_3 h_v2_4 (by unfold inR; omega) h_M_5
        intro rec90 ih90 v1_8 v2_9 v3_10 M_11 hf h_v1_8 h_v2_9 h_v3_10 h_M_11
        unfold X12_laysOrder_b90 at hf
        refine g_iload_n hC 3 dX12_laysOrder_90 rfl rfl ?_
        refine g_aload_n hC 0 dX12_laysOrder_91 rfl rfl ?_
        refine g_callVI hC (sk := [J v3_10]) [] (c_X12_places l B D K   M_11 h_M_11 _ hf) yv_X12_places wm_X12_246 okX12.1 sc95 rfl ⟨Nat.le_of_ble_eq_true rfl, Nat.le_of_ble_eq_true rfl, Nat.le_of_ble_eq_true rfl, Nat.le_of_ble_eq_true rfl⟩ rfl (Nat.le_of_ble_eq_true rfl) dX12_laysOrder_92 ?_
        rintro r_12 M_13 h_r_12 - ⟨rfl, hf⟩
        refine g_icmp_ge hC 198 h_v3_10 h_r_12 dX12_laysOrder_95 rfl (fun c_49 => ?_) (fun c_49 => ?_)
        · replace hf := hf.1 c_49
          refine g_goto hC 80 dX12_laysOrder_198 rfl ?_
          refine g_sub [(0, .ref (B + 95)), (1, J v1_8), (2, J v2_9)] [0, 1, 2] rfl ?_
          exact ih80 v1_8 v2_9 M_11 hf h_v1_8 h_v2_9 h_M_11
        · replace hf := hf.2 c_49
          refine g_iload_n hC 1 dX12_laysOrder_98 rfl rfl ?_
          refine g_iload_n hC 3 dX12_laysOrder_99 rfl rfl ?_
          refine g_callSZ hC (sk := []) [J v1_8, J v3_10] (c_X12_isOf l B D K v1_8 v3_10 h_v1_8 h_v3_10 M_11 h_M_11 _ hf) yv_X12_isOf wm_X12_187 rfl ⟨Nat.le_of_ble_eq_true rfl, Nat.le_of_ble_eq_true rfl, Nat.le_of_ble_eq_true rfl, Nat.le_of_ble_eq_true rfl⟩ rfl (Nat.le_of_ble_eq_true rfl) dX12_laysOrder_100 ?_
          rintro r_14 M_15 h_r_14 - ⟨rfl, hf⟩
          refine jn_elim (fun (k : Int → Prop) => ∀ (s0_16 : Int), k s0_16 → ((s0_16 = 0 ∨ s0_16 = 1)) → G p l e (rmF 2 43) s m args below meth c B D K 6 0 0 (ZV below args s B D K Q) M_11 111 [(0, .ref (B + 95)), (1, J v1_8), (2, J v2_9), (3, J v3_10)] [J s0_16]) hf ?_ ?_
          · intro s0_16 hf h_s0_16
            refine g_istore hC [(4, J s0_16), (0, .ref (B + 95)), (1, J v1_8), (2, J v2_9), (3, J v3_10)] dX12_laysOrder_111 (by decide) rfl ?_
            refine g_iconst hC dX12_laysOrder_113 ?_
            refine g_istore hC [(5, J 0), (4, J s0_16), (0, .ref (B + 95)), (1, J v1_8), (2, J v2_9), (3, J v3_10)] dX12_laysOrder_114 (by decide) rfl ?_
            refine jn_elim (fun (k : Int → Prop) => ∀ (v4_17 : Int), k v4_17 → (v4_17 = 0 ∨ v4_17 = 1) → G p l e (rmF 2 43) s m args below meth c B D K 6 0 0 (ZV below args s B D K Q) M_11 168 [(0, .ref (B + 95)), (1, J v1_8), (2, J v2_9), (3, J v3_10), (4, J v4_17)] []) hf ?_ ?_
            · intro v4_17 hf h_v4_17
              refine g_iload hC 4 dX12_laysOrder_168 rfl ?_
              refine g_if_ne hC 176 (zi_ h_v4_17) dX12_laysOrder_170 rfl (fun c_27 => ?_) (fun c_27 => ?_)
              · replace hf := hf.1 c_27
                refine g_iload_n hC 1 dX12_laysOrder_176 rfl rfl ?_
                refine g_iconst hC dX12_laysOrder_177 ?_
                refine g_iload_n hC 3 dX12_laysOrder_178 rfl rfl ?_
                refine g_ishl hC dX12_laysOrder_179 ?_
                refine g_ior hC dX12_laysOrder_180 ?_
                refine g_nm (fun v1_18 e_v1_18 => ?_)
                replace hf := hf v1_18 e_v1_18
                have h_v1_18 : inR v1_18 := by rw [e_v1_18]; exact (bOr_in _ _)
                refine g_istore_n hC [(1, J v1_18), (0, .ref (B + 95)), (2, J v2_9), (3, J v3_10), (4, J v4_17)] dX12_laysOrder_181 rfl (by decide) rfl ?_
                refine g_aload_n hC 1 dX12_laysOrder_182 rfl rfl ?_
                refine g_getr hC okX12 sc95 16 (by decide) rfl wf_X12_30 dX12_laysOrder_183 ?_
                refine g_iload_n hC 2 dX12_laysOrder_186 rfl rfl ?_
                refine g_iload_n hC 3 dX12_laysOrder_187 rfl rfl ?_
                obtain ⟨q_19, hf⟩ := hf
                refine g_iastk (v2_9.toNat) hC sc101 q_19.1 q_19.2 rfl dX12_laysOrder_188 ?_
                refine g_nmM (fun M_20 e_M_20 => ?_)
                replace hf := hf M_20 e_M_20
                have h_M_20 : MR M_20 := by rw [e_M_20]; exact MR_st h_M_11 h_v3_10
                obtain ⟨q_22, hf⟩ := hf
                obtain ⟨v2_21, e_v2_21⟩ : ∃ z : Int, z = v2_9 + 1 := ⟨_, rfl⟩
                replace hf := hf v2_21 e_v2_21
                have h_v2_21 : inR v2_21 := by rw [e_v2_21]; exact q_22
                refine g_iincv hC 2 e_v2_21 [(2, J v2_21), (1, J v1_18), (0, .ref (B + 95)), (3, J v3_10), (4, J v4_17)] dX12_laysOrder_189 rfl (by decide) rfl ?_
                obtain ⟨q_24, hf⟩ := hf
                obtain ⟨v3_23, e_v3_23⟩ : ∃ z : Int, z = v3_10 + 1 := ⟨_, rfl⟩
                replace hf := hf v3_23 e_v3_23
                have h_v3_23 : inR v3_23 := by rw [e_v3_23]; exact q_24
                refine g_iincv hC 3 e_v3_23 [(3, J v3_23), (2, J v2_21), (1, J v1_18), (0, .ref (B + 95)), (4, J v4_17)] dX12_laysOrder_192 rfl (by decide) rfl ?_
                refine g_goto hC 90 dX12_laysOrder_195 rfl ?_
                refine g_sub [(0, .ref (B + 95)), (1, J v1_18), (2, J v2_21), (3, J v3_23)] [3, 2, 1, 0] rfl ?_
                exact ih90 v1_18 v2_21 v3_23 M_20 hf h_v1_18 h_v2_21 h_v3_23 h_M_20
              · replace hf := hf.2 c_27
                refine g_goto hC 192 dX12_laysOrder_173 rfl ?_
                obtain ⟨q_26, hf⟩ := hf
                obtain ⟨v3_25, e_v3_25⟩ : ∃ z : Int, z = v3_10 + 1 := ⟨_, rfl⟩
                replace hf := hf v3_25 e_v3_25
                have h_v3_25 : inR v3_25 := by rw [e_v3_25]; exact q_26
                refine g_iincv hC 3 e_v3_25 [(3, J v3_25), (0, .ref (B + 95)), (1, J v1_8), (2, J v2_9), (4, J v4_17)] dX12_laysOrder_192 rfl (by decide) rfl ?_
                refine g_goto hC 90 dX12_laysOrder_195 rfl ?_
                refine g_sub [(0, .ref (B + 95)), (1, J v1_8), (2, J v2_9), (3, J v3_25)] [1, 2, 3, 0] rfl ?_
                exact ih90 v1_8 v2_9 v3_25 M_11 hf h_v1_8 h_v2_9 h_v3_25 h_M_11
            · intro J168 hJ168 hf
              refine g_sub [(0, .ref (B + 95)), (1, J v1_8), (2, J v2_9), (3, J v3_10), (4, J s0_16), (5, J 0)] [2, 3, 4, 5, 1, 0] rfl ?_
              refine wl2_elim (fun (v4_28 : Int) (v5_29 : Int) => (v4_28 = 0 ∨ v4_28 = 1) → inR v5_29 → G p l e (rmF 2 43) s m args below meth c B D K 6 0 0 (ZV below args s B D K Q) M_11 116 [(0, .ref (B + 95)), (1, J v1_8), (2, J v2_9), (3, J v3_10), (4, J v4_28), (5, J v5_29)] []) ?_ 5000 s0_16 0 hf h_s0_16 (by unfold inR; omega)
              intro rec116 ih116 v4_28 v5_29 hf h_v4_28 h_v5_29
              unfold X12_laysOrder_b116 at hf
              refine g_iload hC 5 dX12_laysOrder_116 rfl ?_
              refine g_aload_n hC 0 dX12_laysOrder_118 rfl rfl ?_
              refine g_callVI hC (sk := [J v5_29]) [] (c_X12_reaches l B D K   M_11 h_M_11 _ hf) yv_X12_reaches wm_X12_249 okX12.1 sc95 rfl ⟨Nat.le_of_ble_eq_true rfl, Nat.le_of_ble_eq_true rfl, Nat.le_of_ble_eq_true rfl, Nat.le_of_ble_eq_true rfl⟩ rfl (Nat.le_of_ble_eq_true rfl) dX12_laysOrder_119 ?_
              rintro r_30 M_31 h_r_30 - ⟨rfl, hf⟩
              refine g_icmp_ge hC 168 h_v5_29 h_r_30 dX12_laysOrder_122 rfl (fun c_47 => ?_) (fun c_47 => ?_)
              · replace hf := hf.1 c_47
                refine g_sub [(0, .ref (B + 95)), (1, J v1_8), (2, J v2_9), (3, J v3_10), (4, J v4_28)] [0, 1, 2, 3, 4] rfl ?_
                exact hJ168 v4_28 hf h_v4_28
              · replace hf := hf.2 c_47
                refine g_iload hC 4 dX12_laysOrder_125 rfl ?_
                refine g_if_eq hC 168 (zi_ h_v4_28) dX12_laysOrder_127 rfl (fun c_46 => ?_) (fun c_46 => ?_)
                · replace hf := hf.1 c_46
                  refine g_sub [(0, .ref (B + 95)), (1, J v1_8), (2, J v2_9), (3, J v3_10), (4, J v4_28)] [0, 1, 2, 3, 4] rfl ?_
                  exact hJ168 v4_28 hf h_v4_28
                · replace hf := hf.2 c_46
                  refine g_aload_n hC 0 dX12_laysOrder_130 rfl rfl ?_
                  refine g_iload hC 5 dX12_laysOrder_131 rfl ?_
                  refine g_iconst hC dX12_laysOrder_133 ?_
                  refine g_callVI hC (sk := []) [J v5_29, J 1] (c_X12_its l B D K v5_29 1 h_v5_29 (by unfold inR; omega) M_11 h_M_11 _ hf) yv_X12_its wm_X12_252 okX12.1 sc95 rfl ⟨Nat.le_of_ble_eq_true rfl, Nat.le_of_ble_eq_true rfl, Nat.le_of_ble_eq_true rfl, Nat.le_of_ble_eq_true rfl⟩ rfl (Nat.le_of_ble_eq_true rfl) dX12_laysOrder_134 ?_
                  rintro r_32 M_33 h_r_32 - ⟨rfl, hf⟩
                  refine g_iload_n hC 3 dX12_laysOrder_137 rfl rfl ?_
                  refine g_icmp_ne hC 155 h_r_32 h_v3_10 dX12_laysOrder_138 rfl (fun c_45 => ?_) (fun c_45 => ?_)
                  · replace hf := hf.1 c_45
                    refine g_iconst hC dX12_laysOrder_155 ?_
                    refine g_goto hC 160 dX12_laysOrder_156 rfl ?_
                    refine g_istore hC [(4, J 1), (0, .ref (B + 95)), (1, J v1_8), (2, J v2_9), (3, J v3_10), (5, J v5_29)] dX12_laysOrder_160 (by decide) rfl ?_
                    obtain ⟨q_35, hf⟩ := hf
                    obtain ⟨v5_34, e_v5_34⟩ : ∃ z : Int, z = v5_29 + 1 := ⟨_, rfl⟩
                    replace hf := hf v5_34 e_v5_34
                    have h_v5_34 : inR v5_34 := by rw [e_v5_34]; exact q_35
                    refine g_iincv hC 5 e_v5_34 [(5, J v5_34), (4, J 1), (0, .ref (B + 95)), (1, J v1_8), (2, J v2_9), (3, J v3_10)] dX12_laysOrder_162 rfl (by decide) rfl ?_
                    refine g_goto hC 116 dX12_laysOrder_165 rfl ?_
                    refine g_sub [(0, .ref (B + 95)), (1, J v1_8), (2, J v2_9), (3, J v3_10), (4, J 1), (5, J v5_34)] [2, 3, 4, 5, 1, 0] rfl ?_
                    exact ih116 1 v5_34 hf (Or.inr rfl) h_v5_34
                  · replace hf := hf.2 c_45
                    refine g_iload_n hC 1 dX12_laysOrder_141 rfl rfl ?_
                    refine g_aload_n hC 0 dX12_laysOrder_142 rfl rfl ?_
                    refine g_iload hC 5 dX12_laysOrder_143 rfl ?_
                    refine g_iconst hC dX12_laysOrder_145 ?_
                    refine g_callVI hC (sk := [J v1_8]) [J v5_29, J 0] (c_X12_its l B D K v5_29 0 h_v5_29 (by unfold inR; omega) M_11 h_M_11 _ hf) yv_X12_its wm_X12_252 okX12.1 sc95 rfl ⟨Nat.le_of_ble_eq_true rfl, Nat.le_of_ble_eq_true rfl, Nat.le_of_ble_eq_true rfl, Nat.le_of_ble_eq_true rfl⟩ rfl (Nat.le_of_ble_eq_true rfl) dX12_laysOrder_146 ?_
                    rintro r_36 M_37 h_r_36 - ⟨rfl, hf⟩
                    refine g_callSZ hC (sk := []) [J v1_8, J r_36] (c_X12_isOf l B D K v1_8 r_36 h_v1_8 h_r_36 M_11 h_M_11 _ hf) yv_X12_isOf wm_X12_187 rfl ⟨Nat.le_of_ble_eq_true rfl, Nat.le_of_ble_eq_true rfl, Nat.le_of_ble_eq_true rfl, Nat.le_of_ble_eq_true rfl⟩ rfl (Nat.le_of_ble_eq_true rfl) dX12_laysOrder_149 ?_
                    rintro r_38 M_39 h_r_38 - ⟨rfl, hf⟩
                    refine g_if_eq hC 159 (zi_ h_r_38) dX12_laysOrder_152 rfl (fun c_44 => ?_) (fun c_44 => ?_)
                    · replace hf := hf.1 c_44
                      refine g_iconst hC dX12_laysOrder_159 ?_
                      refine g_istore hC [(4, J 0), (0, .ref (B + 95)), (1, J v1_8), (2, J v2_9), (3, J v3_10), (5, J v5_29)] dX12_laysOrder_160 (by decide) rfl ?_
                      obtain ⟨q_41, hf⟩ := hf
                      obtain ⟨v5_40, e_v5_40⟩ : ∃ z : Int, z = v5_29 + 1 := ⟨_, rfl⟩
                      replace hf := hf v5_40 e_v5_40
                      have h_v5_40 : inR v5_40 := by rw [e_v5_40]; exact q_41
                      refine g_iincv hC 5 e_v5_40 [(5, J v5_40), (4, J 0), (0, .ref (B + 95)), (1, J v1_8), (2, J v2_9), (3, J v3_10)] dX12_laysOrder_162 rfl (by decide) rfl ?_
                      refine g_goto hC 116 dX12_laysOrder_165 rfl ?_
                      refine g_sub [(0, .ref (B + 95)), (1, J v1_8), (2, J v2_9), (3, J v3_10), (4, J 0), (5, J v5_40)] [2, 3, 4, 5, 1, 0] rfl ?_
                      exact ih116 0 v5_40 hf (Or.inl rfl) h_v5_40
                    · replace hf := hf.2 c_44
                      refine g_iconst hC dX12_laysOrder_155 ?_
                      refine g_goto hC 160 dX12_laysOrder_156 rfl ?_
                      refine g_istore hC [(4, J 1), (0, .ref (B + 95)), (1, J v1_8), (2, J v2_9), (3, J v3_10), (5, J v5_29)] dX12_laysOrder_160 (by decide) rfl ?_
                      obtain ⟨q_43, hf⟩ := hf
                      obtain ⟨v5_42, e_v5_42⟩ : ∃ z : Int, z = v5_29 + 1 := ⟨_, rfl⟩
                      replace hf := hf v5_42 e_v5_42
                      have h_v5_42 : inR v5_42 := by rw [e_v5_42]; exact q_43
                      refine g_iincv hC 5 e_v5_42 [(5, J v5_42), (4, J 1), (0, .ref (B + 95)), (1, J v1_8), (2, J v2_9), (3, J v3_10)] dX12_laysOrder_162 rfl (by decide) rfl ?_
                      refine g_goto hC 116 dX12_laysOrder_165 rfl ?_
                      refine g_sub [(0, .ref (B + 95)), (1, J v1_8), (2, J v2_9), (3, J v3_10), (4, J 1), (5, J v5_42)] [2, 3, 4, 5, 1, 0] rfl ?_
                      exact ih116 1 v5_42 hf (Or.inr rfl) h_v5_42
          · intro J111 hJ111 hf
            refine g_if_ne hC 110 (zi_ h_r_14) dX12_laysOrder_103 rfl (fun c_48 => ?_) (fun c_48 => ?_)
            · replace hf := hf.1 c_48
              refine g_iconst hC dX12_laysOrder_110 ?_
              refine g_sub [(0, .ref (B + 95)), (1, J v1_8), (2, J v2_9), (3, J v3_10)] [0, 1, 2, 3] rfl ?_
              exact hJ111 0 hf (Or.inl rfl)
            · replace hf := hf.2 c_48
              refine g_iconst hC dX12_laysOrder_106 ?_
              refine g_goto hC 111 dX12_laysOrder_107 rfl ?_
              refine g_sub [(0, .ref (B + 95)), (1, J v1_8), (2, J v2_9), (3, J v3_10)] [0, 1, 2, 3] rfl ?_
              exact hJ111 1 hf (Or.inr rfl)
    · intro J80 hJ80 hf
      refine g_sub [(0, .ref (B + 95)), (1, J 0), (2, J 0), (3, J 0)] [1, 2, 3, 0] rfl ?_
      refine wl2_elim (fun (v3_51 : Int) (M_52 : Mem) => inR v3_51 → MR M_52 → G p l e (rmF 2 43) s m args below meth c B D K 6 0 0 (ZV below args s B D K Q) M_52 36 [(0, .ref (B + 95)), (1, J 0), (2, J 0), (3, J v3_51)] []) ?_ 5000 0 M_1 hf (by unfold inR; omega) h_M_1
      intro rec36 ih36 v3_51 M_52 hf h_v3_51 h_M_52
      unfold X12_laysOrder_b36 at hf
      refine g_iload_n hC 3 dX12_laysOrder_36 rfl rfl ?_
      refine g_aload_n hC 0 dX12_laysOrder_37 rfl rfl ?_
      refine g_callVI hC (sk := [J v3_51]) [] (c_X12_reaches l B D K   M_52 h_M_52 _ hf) yv_X12_reaches wm_X12_249 okX12.1 sc95 rfl ⟨Nat.le_of_ble_eq_true rfl, Nat.le_of_ble_eq_true rfl, Nat.le_of_ble_eq_true rfl, Nat.le_of_ble_eq_true rfl⟩ rfl (Nat.le_of_ble_eq_true rfl) dX12_laysOrder_38 ?_
      rintro r_53 M_54 h_r_53 - ⟨rfl, hf⟩
      refine g_icmp_ge hC 80 h_v3_51 h_r_53 dX12_laysOrder_41 rfl (fun c_67 => ?_) (fun c_67 => ?_)
      · replace hf := hf.1 c_67
        refine g_sub [(0, .ref (B + 95)), (1, J 0), (2, J 0)] [0, 1, 2] rfl ?_
        exact hJ80 M_52 hf h_M_52
      · replace hf := hf.2 c_67
        refine g_aload_n hC 0 dX12_laysOrder_44 rfl rfl ?_
        refine g_getr hC okX12 sc95 17 (by decide) rfl wf_X12_33 dX12_laysOrder_45 ?_
        refine g_aload_n hC 0 dX12_laysOrder_48 rfl rfl ?_
        refine g_iload_n hC 3 dX12_laysOrder_49 rfl rfl ?_
        refine g_iconst hC dX12_laysOrder_50 ?_
        refine g_callVI hC (sk := [.ref (B + 102)]) [J v3_51, J 1] (c_X12_its l B D K v3_51 1 h_v3_51 (by unfold inR; omega) M_52 h_M_52 _ hf) yv_X12_its wm_X12_252 okX12.1 sc95 rfl ⟨Nat.le_of_ble_eq_true rfl, Nat.le_of_ble_eq_true rfl, Nat.le_of_ble_eq_true rfl, Nat.le_of_ble_eq_true rfl⟩ rfl (Nat.le_of_ble_eq_true rfl) dX12_laysOrder_51 ?_
        rintro r_55 M_56 h_r_55 - ⟨rfl, hf⟩
        refine g_dup2 hC dX12_laysOrder_54 rfl rfl ?_
        obtain ⟨q_57, hf⟩ := hf
        refine g_ialdk (r_55.toNat) hC sc102 q_57.1 q_57.2 rfl dX12_laysOrder_55 ?_
        refine g_iconst hC dX12_laysOrder_56 ?_
        refine g_iadd hC dX12_laysOrder_57 ?_
        obtain ⟨q_58, hf⟩ := hf
        refine g_iastk (r_55.toNat) hC sc102 q_57.1 q_57.2 rfl dX12_laysOrder_58 ?_
        refine g_nmM (fun M_59 e_M_59 => ?_)
        replace hf := hf M_59 e_M_59
        have h_M_59 : MR M_59 := by rw [e_M_59]; exact MR_st h_M_52 q_58
        refine g_aload_n hC 0 dX12_laysOrder_59 rfl rfl ?_
        refine g_getr hC okX12 sc95 18 (by decide) rfl wf_X12_36 dX12_laysOrder_60 ?_
        refine g_aload_n hC 0 dX12_laysOrder_63 rfl rfl ?_
        refine g_iload_n hC 3 dX12_laysOrder_64 rfl rfl ?_
        refine g_iconst hC dX12_laysOrder_65 ?_
        refine g_callVI hC (sk := [.ref (B + 103)]) [J v3_51, J 0] (c_X12_its l B D K v3_51 0 h_v3_51 (by unfold inR; omega) M_59 h_M_59 _ hf) yv_X12_its wm_X12_252 okX12.1 sc95 rfl ⟨Nat.le_of_ble_eq_true rfl, Nat.le_of_ble_eq_true rfl, Nat.le_of_ble_eq_true rfl, Nat.le_of_ble_eq_true rfl⟩ rfl (Nat.le_of_ble_eq_true rfl) dX12_laysOrder_66 ?_
        rintro r_60 M_61 h_r_60 - ⟨rfl, hf⟩
        refine g_dup2 hC dX12_laysOrder_69 rfl rfl ?_
        obtain ⟨q_62, hf⟩ := hf
        refine g_ialdk (r_60.toNat) hC sc103 q_62.1 q_62.2 rfl dX12_laysOrder_70 ?_
        refine g_iconst hC dX12_laysOrder_71 ?_
        refine g_iadd hC dX12_laysOrder_72 ?_
        obtain ⟨q_63, hf⟩ := hf
        refine g_iastk (r_60.toNat) hC sc103 q_62.1 q_62.2 rfl dX12_laysOrder_73 ?_
        refine g_nmM (fun M_64 e_M_64 => ?_)
        replace hf := hf M_64 e_M_64
        have h_M_64 : MR M_64 := by rw [e_M_64]; exact MR_st h_M_59 q_63
        obtain ⟨q_66, hf⟩ := hf
        obtain ⟨v3_65, e_v3_65⟩ : ∃ z : Int, z = v3_51 + 1 := ⟨_, rfl⟩
        replace hf := hf v3_65 e_v3_65
        have h_v3_65 : inR v3_65 := by rw [e_v3_65]; exact q_66
        refine g_iincv hC 3 e_v3_65 [(3, J v3_65), (0, .ref (B + 95)), (1, J 0), (2, J 0)] dX12_laysOrder_74 rfl (by decide) rfl ?_
        refine g_goto hC 36 dX12_laysOrder_77 rfl ?_
        refine g_sub [(0, .ref (B + 95)), (1, J 0), (2, J 0), (3, J v3_65)] [1, 2, 3, 0] rfl ?_
        exact ih36 v3_65 M_64 hf h_v3_65 h_M_64
  · intro J34 hJ34 hf
    refine g_sub [(0, .ref (B + 95)), (1, J 0), (2, J 0), (3, J 0)] [3, 2, 1, 0] rfl ?_
    refine wl2_elim (fun (v3_68 : Int) (M_69 : Mem) => inR v3_68 → MR M_69 → G p l e (rmF 2 43) s m args below meth c B D K 6 0 0 (ZV below args s B D K Q) M_69 6 [(0, .ref (B + 95)), (1, J 0), (2, J 0), (3, J v3_68)] []) ?_ 5000 0 M hf (by unfold inR; omega) hM
    intro rec6 ih6 v3_68 M_69 hf h_v3_68 h_M_69
    unfold X12_laysOrder_b6 at hf
    refine g_iload_n hC 3 dX12_laysOrder_6 rfl rfl ?_
    refine g_aload_n hC 0 dX12_laysOrder_7 rfl rfl ?_
    refine g_callVI hC (sk := [J v3_68]) [] (c_X12_places l B D K   M_69 h_M_69 _ hf) yv_X12_places wm_X12_246 okX12.1 sc95 rfl ⟨Nat.le_of_ble_eq_true rfl, Nat.le_of_ble_eq_true rfl, Nat.le_of_ble_eq_true rfl, Nat.le_of_ble_eq_true rfl⟩ rfl (Nat.le_of_ble_eq_true rfl) dX12_laysOrder_8 ?_
    rintro r_70 M_71 h_r_70 - ⟨rfl, hf⟩
    refine g_icmp_ge hC 34 h_v3_68 h_r_70 dX12_laysOrder_11 rfl (fun c_77 => ?_) (fun c_77 => ?_)
    · replace hf := hf.1 c_77
      refine g_sub [(0, .ref (B + 95)), (1, J 0), (2, J 0)] [0, 1, 2] rfl ?_
      exact hJ34 M_69 hf h_M_69
    · replace hf := hf.2 c_77
      refine g_aload_n hC 0 dX12_laysOrder_14 rfl rfl ?_
      refine g_getr hC okX12 sc95 17 (by decide) rfl wf_X12_33 dX12_laysOrder_15 ?_
      refine g_iload_n hC 3 dX12_laysOrder_18 rfl rfl ?_
      refine g_iconst hC dX12_laysOrder_19 ?_
      obtain ⟨q_72, hf⟩ := hf
      refine g_iastk (v3_68.toNat) hC sc102 q_72.1 q_72.2 rfl dX12_laysOrder_20 ?_
      refine g_nmM (fun M_73 e_M_73 => ?_)
      replace hf := hf M_73 e_M_73
      have h_M_73 : MR M_73 := by rw [e_M_73]; exact MR_st h_M_69 (by unfold inR; omega)
      refine g_aload_n hC 0 dX12_laysOrder_21 rfl rfl ?_
      refine g_getr hC okX12 sc95 18 (by decide) rfl wf_X12_36 dX12_laysOrder_22 ?_
      refine g_iload_n hC 3 dX12_laysOrder_25 rfl rfl ?_
      refine g_iconst hC dX12_laysOrder_26 ?_
      refine g_iastk (v3_68.toNat) hC sc103 q_72.1 q_72.2 rfl dX12_laysOrder_27 ?_
      refine g_nmM (fun M_74 e_M_74 => ?_)
      replace hf := hf M_74 e_M_74
      have h_M_74 : MR M_74 := by rw [e_M_74]; exact MR_st h_M_73 (by unfold inR; omega)
      obtain ⟨q_76, hf⟩ := hf
      obtain ⟨v3_75, e_v3_75⟩ : ∃ z : Int, z = v3_68 + 1 := ⟨_, rfl⟩
      replace hf := hf v3_75 e_v3_75
      have h_v3_75 : inR v3_75 := by rw [e_v3_75]; exact q_76
      refine g_iincv hC 3 e_v3_75 [(3, J v3_75), (0, .ref (B + 95)), (1, J 0), (2, J 0)] dX12_laysOrder_28 rfl (by decide) rfl ?_
      refine g_goto hC 6 dX12_laysOrder_31 rfl ?_
      refine g_sub [(0, .ref (B + 95)), (1, J 0), (2, J 0), (3, J v3_75)] [1, 2, 3, 0] rfl ?_
      exact ih6 v3_75 M_74 hf h_v3_75 h_M_74
set_option maxHeartbeats 4000000 in
set_option maxRecDepth 100000 in
theorem c_X12_laysBeyond (l : Launch) (B : Nat) (D : va_G) (K : Nat → ClassId)   (M : Mem) (hM : MR M) (Q : Mem → Prop) (hf : f_X12_laysBeyond  M Q) : CtV l yX12_laysBeyond cX12_laysBeyond 5 2 43 B D K [.ref (B + 95)] M Q := by
  refine ct_v (by decide) (Nat.le_of_ble_eq_true rfl) ?_
  intro p e s m args below meth c hC
  have hC : Cx p s m args meth c D K cX12_laysBeyond 5 RX12 none := hC
  unfold f_X12_laysBeyond at hf
  refine (show G p l e (rmF 2 43) s m args below meth c B D K 5 0 0 (ZV below args s B D K Q) M 0 [(0, .ref (B + 95))] [] from ?_)
  refine g_iconst hC dX12_laysBeyond_0 ?_
  refine g_istore_n hC [(1, J 0), (0, .ref (B + 95))] dX12_laysBeyond_1 rfl (by decide) rfl ?_
  refine jn_elim (fun (k : Mem → Prop) => ∀ (M_1 : Mem), k M_1 → (MR M_1) → G p l e (rmF 2 43) s m args below meth c B D K 5 0 0 (ZV below args s B D K Q) M_1 44 [(0, .ref (B + 95))] []) hf ?_ ?_
  · intro M_1 hf h_M_1
    refine g_iconst hC dX12_laysBeyond_44 ?_
    refine g_istore_n hC [(1, J 0), (0, .ref (B + 95))] dX12_laysBeyond_45 rfl (by decide) rfl ?_
    refine jn_elim (fun (k : Mem → Prop) => ∀ (M_2 : Mem), k M_2 → (MR M_2) → G p l e (rmF 2 43) s m args below meth c B D K 5 0 0 (ZV below args s B D K Q) M_2 174 [(0, .ref (B + 95))] []) hf ?_ ?_
    · intro M_2 hf h_M_2
      refine g_aload_n hC 0 dX12_laysBeyond_174 rfl rfl ?_
      refine g_callVI hC (sk := []) [] (c_X12_places l B D K   M_2 h_M_2 _ hf) yv_X12_places wm_X12_246 okX12.1 sc95 rfl ⟨Nat.le_of_ble_eq_true rfl, Nat.le_of_ble_eq_true rfl, Nat.le_of_ble_eq_true rfl, Nat.le_of_ble_eq_true rfl⟩ rfl (Nat.le_of_ble_eq_true rfl) dX12_laysBeyond_175 ?_
      rintro r_3 M_4 h_r_3 - ⟨rfl, hf⟩
      refine g_iconst hC dX12_laysBeyond_178 ?_
      refine g_isub hC dX12_laysBeyond_179 ?_
      obtain ⟨q_5, hf⟩ := hf
      refine g_nm (fun v1_6 e_v1_6 => ?_)
      replace hf := hf v1_6 e_v1_6
      have h_v1_6 : inR v1_6 := by rw [e_v1_6]; exact q_5
      refine g_istore_n hC [(1, J v1_6), (0, .ref (B + 95))] dX12_laysBeyond_180 rfl (by decide) rfl ?_
      refine g_sub [(0, .ref (B + 95)), (1, J v1_6)] [1, 0] rfl ?_
      refine wl2_elim (fun (v1_7 : Int) (M_8 : Mem) => inR v1_7 → MR M_8 → G p l e (rmF 2 43) s m args below meth c B D K 5 0 0 (ZV below args s B D K Q) M_8 181 [(0, .ref (B + 95)), (1, J v1_7)] []) ?_ 5000 v1_6 M_2 hf h_v1_6 h_M_2
      intro rec181 ih181 v1_7 M_8 hf h_v1_7 h_M_8
      unfold X12_laysBeyond_b181 at hf
      refine g_iload_n hC 1 dX12_laysBeyond_181 rfl rfl ?_
      refine g_if_lt hC 306 h_v1_7 dX12_laysBeyond_182 rfl (fun c_40 => ?_) (fun c_40 => ?_)
      · replace hf := hf.1 c_40
        exact g_retv hC h_M_8 hf dX12_laysBeyond_306
      · replace hf := hf.2 c_40
        refine g_iconst hC dX12_laysBeyond_185 ?_
        refine g_istore_n hC [(2, J 0), (0, .ref (B + 95)), (1, J v1_7)] dX12_laysBeyond_186 rfl (by decide) rfl ?_
        refine g_sub [(0, .ref (B + 95)), (1, J v1_7), (2, J 0)] [1, 2, 0] rfl ?_
        refine wl2_elim (fun (v2_9 : Int) (M_10 : Mem) => inR v2_9 → MR M_10 → G p l e (rmF 2 43) s m args below meth c B D K 5 0 0 (ZV below args s B D K Q) M_10 187 [(0, .ref (B + 95)), (1, J v1_7), (2, J v2_9)] []) ?_ 5000 0 M_8 hf (by unfold inR; omega) h_M_8
        intro rec187 ih187 v2_9 M_10 hf h_v2_9 h_M_10
        unfold X12_laysBeyond_b187 at hf
        refine g_iload_n hC 2 dX12_laysBeyond_187 rfl rfl ?_
        refine g_aload_n hC 0 dX12_laysBeyond_188 rfl rfl ?_
        refine g_callVI hC (sk := [J v2_9]) [] (c_X12_reaches l B D K   M_10 h_M_10 _ hf) yv_X12_reaches wm_X12_249 okX12.1 sc95 rfl ⟨Nat.le_of_ble_eq_true rfl, Nat.le_of_ble_eq_true rfl, Nat.le_of_ble_eq_true rfl, Nat.le_of_ble_eq_true rfl⟩ rfl (Nat.le_of_ble_eq_true rfl) dX12_laysBeyond_189 ?_
        rintro r_11 M_12 h_r_11 - ⟨rfl, hf⟩
        refine g_icmp_ge hC 300 h_v2_9 h_r_11 dX12_laysBeyond_192 rfl (fun c_39 => ?_) (fun c_39 => ?_)
        · replace hf := hf.1 c_39
          obtain ⟨q_14, hf⟩ := hf
          obtain ⟨v1_13, e_v1_13⟩ : ∃ z : Int, z = v1_7 + (-1) := ⟨_, rfl⟩
          replace hf := hf v1_13 e_v1_13
          have h_v1_13 : inR v1_13 := by rw [e_v1_13]; exact q_14
          refine g_iincv hC 1 e_v1_13 [(1, J v1_13), (0, .ref (B + 95)), (2, J v2_9)] dX12_laysBeyond_300 rfl (by decide) rfl ?_
          refine g_goto hC 181 dX12_laysBeyond_303 rfl ?_
          refine g_sub [(0, .ref (B + 95)), (1, J v1_13)] [1, 0] rfl ?_
          exact ih181 v1_13 M_10 hf h_v1_13 h_M_10
        · replace hf := hf.2 c_39
          refine g_aload_n hC 0 dX12_laysBeyond_195 rfl rfl ?_
          refine g_iload_n hC 2 dX12_laysBeyond_196 rfl rfl ?_
          refine g_iconst hC dX12_laysBeyond_197 ?_
          refine g_callVI hC (sk := []) [J v2_9, J 1] (c_X12_its l B D K v2_9 1 h_v2_9 (by unfold inR; omega) M_10 h_M_10 _ hf) yv_X12_its wm_X12_252 okX12.1 sc95 rfl ⟨Nat.le_of_ble_eq_true rfl, Nat.le_of_ble_eq_true rfl, Nat.le_of_ble_eq_true rfl, Nat.le_of_ble_eq_true rfl⟩ rfl (Nat.le_of_ble_eq_true rfl) dX12_laysBeyond_198 ?_
          rintro r_15 M_16 h_r_15 - ⟨rfl, hf⟩
          refine g_istore_n hC [(3, J r_15), (0, .ref (B + 95)), (1, J v1_7), (2, J v2_9)] dX12_laysBeyond_201 rfl (by decide) rfl ?_
          refine g_aload_n hC 1 dX12_laysBeyond_202 rfl rfl ?_
          refine g_iload_n hC 3 dX12_laysBeyond_203 rfl rfl ?_
          refine g_iconst hC dX12_laysBeyond_204 ?_
          refine g_callVI hC (sk := []) [J v2_9, J 0] (c_X12_its l B D K v2_9 0 h_v2_9 (by unfold inR; omega) M_10 h_M_10 _ hf) yv_X12_its wm_X12_252 okX12.1 sc95 rfl ⟨Nat.le_of_ble_eq_true rfl, Nat.le_of_ble_eq_true rfl, Nat.le_of_ble_eq_true rfl, Nat.le_of_ble_eq_true rfl⟩ rfl (Nat.le_of_ble_eq_true rfl) dX12_laysBeyond_205 ?_
          rintro r_17 M_18 h_r_17 - ⟨rfl, hf⟩
          refine g_istore hC [(4, J r_17), (3, J r_15), (0, .ref (B + 95)), (1, J v1_7), (2, J v2_9)] dX12_laysBeyond_208 (by decide) rfl ?_
          refine g_iload hC 0 dX12_laysBeyond_210 rfl ?_
          refine g_aload_n hC 2 dX12_laysBeyond_212 rfl rfl ?_
          refine g_getr hC okX12 sc95 16 (by decide) rfl wf_X12_30 dX12_laysBeyond_213 ?_
          refine g_iload_n hC 3 dX12_laysBeyond_216 rfl rfl ?_
          obtain ⟨q_19, hf⟩ := hf
          refine g_ialdk (v1_7.toNat) hC sc101 q_19.1 q_19.2 rfl dX12_laysBeyond_217 ?_
          refine g_icmp_ne hC 294 h_r_17 (h_M_10 _ _) dX12_laysBeyond_218 rfl (fun c_38 => ?_) (fun c_38 => ?_)
          · replace hf := hf.1 c_38
            obtain ⟨q_21, hf⟩ := hf
            obtain ⟨v2_20, e_v2_20⟩ : ∃ z : Int, z = v2_9 + 1 := ⟨_, rfl⟩
            replace hf := hf v2_20 e_v2_20
            have h_v2_20 : inR v2_20 := by rw [e_v2_20]; exact q_21
            refine g_iincv hC 4 e_v2_20 [(2, J v2_20), (4, J r_17), (3, J r_15), (0, .ref (B + 95)), (1, J v1_7)] dX12_laysBeyond_294 rfl (by decide) rfl ?_
            refine g_goto hC 187 dX12_laysBeyond_297 rfl ?_
            refine g_sub [(0, .ref (B + 95)), (1, J v1_7), (2, J v2_20)] [3, 4, 0] rfl ?_
            exact ih187 v2_20 M_10 hf h_v2_20 h_M_10
          · replace hf := hf.2 c_38
            refine g_aload_n hC 2 dX12_laysBeyond_221 rfl rfl ?_
            refine g_getr hC okX12 sc95 19 (by decide) rfl wf_X12_39 dX12_laysBeyond_222 ?_
            refine g_iload hC 0 dX12_laysBeyond_225 rfl ?_
            refine g_dup2 hC dX12_laysBeyond_227 rfl rfl ?_
            obtain ⟨q_22, hf⟩ := hf
            refine g_ialdk (r_17.toNat) hC sc104 q_22.1 q_22.2 rfl dX12_laysBeyond_228 ?_
            refine g_aload_n hC 2 dX12_laysBeyond_229 rfl rfl ?_
            refine g_getr hC okX12 sc95 19 (by decide) rfl wf_X12_39 dX12_laysBeyond_230 ?_
            refine g_iload_n hC 1 dX12_laysBeyond_233 rfl rfl ?_
            obtain ⟨q_23, hf⟩ := hf
            refine g_ialdk (r_15.toNat) hC sc104 q_23.1 q_23.2 rfl dX12_laysBeyond_234 ?_
            refine g_iconst hC dX12_laysBeyond_235 ?_
            refine g_iload_n hC 1 dX12_laysBeyond_236 rfl rfl ?_
            refine g_ishl hC dX12_laysBeyond_237 ?_
            refine g_ior hC dX12_laysBeyond_238 ?_
            refine g_ior hC dX12_laysBeyond_239 ?_
            refine g_iastk (r_17.toNat) hC sc104 q_22.1 q_22.2 rfl dX12_laysBeyond_240 ?_
            refine g_nmM (fun M_24 e_M_24 => ?_)
            replace hf := hf M_24 e_M_24
            have h_M_24 : MR M_24 := by rw [e_M_24]; exact MR_st h_M_10 (bOr_in _ _)
            refine g_aload_n hC 2 dX12_laysBeyond_241 rfl rfl ?_
            refine g_getr hC okX12 sc95 24 (by decide) rfl wf_X12_54 dX12_laysBeyond_242 ?_
            refine g_iload hC 0 dX12_laysBeyond_245 rfl ?_
            refine g_aload_n hC 2 dX12_laysBeyond_247 rfl rfl ?_
            refine g_getr hC okX12 sc95 24 (by decide) rfl wf_X12_54 dX12_laysBeyond_248 ?_
            refine g_iload_n hC 1 dX12_laysBeyond_251 rfl rfl ?_
            refine g_ialdk (r_15.toNat) hC sc109 q_23.1 q_23.2 rfl dX12_laysBeyond_252 ?_
            refine g_aload_n hC 2 dX12_laysBeyond_253 rfl rfl ?_
            refine g_iload_n hC 4 dX12_laysBeyond_254 rfl rfl ?_
            refine g_iconst hC dX12_laysBeyond_255 ?_
            refine g_callVI hC (sk := [J (M_24 109 (r_15.toNat)), J r_17, .ref (B + 109)]) [J v2_9, J 2] (c_X12_its l B D K v2_9 2 h_v2_9 (by unfold inR; omega) M_24 h_M_24 _ hf) yv_X12_its wm_X12_252 okX12.1 sc95 rfl ⟨Nat.le_of_ble_eq_true rfl, Nat.le_of_ble_eq_true rfl, Nat.le_of_ble_eq_true rfl, Nat.le_of_ble_eq_true rfl⟩ rfl (Nat.le_of_ble_eq_true rfl) dX12_laysBeyond_256 ?_
            rintro r_25 M_26 h_r_25 - ⟨rfl, hf⟩
            refine g_iadd hC dX12_laysBeyond_259 ?_
            refine g_aload_n hC 2 dX12_laysBeyond_260 rfl rfl ?_
            refine g_getr hC okX12 sc95 24 (by decide) rfl wf_X12_54 dX12_laysBeyond_261 ?_
            refine g_iload hC 0 dX12_laysBeyond_264 rfl ?_
            refine g_ialdk (r_17.toNat) hC sc109 q_22.1 q_22.2 rfl dX12_laysBeyond_266 ?_
            obtain ⟨q_27, hf⟩ := hf
            refine g_icmp_le hC 286 q_27 (h_M_24 _ _) dX12_laysBeyond_267 rfl (fun c_37 => ?_) (fun c_37 => ?_)
            · replace hf := hf.1 c_37
              refine g_aload_n hC 2 dX12_laysBeyond_286 rfl rfl ?_
              refine g_getr hC okX12 sc95 24 (by decide) rfl wf_X12_54 dX12_laysBeyond_287 ?_
              refine g_iload hC 0 dX12_laysBeyond_290 rfl ?_
              refine g_ialdk (r_17.toNat) hC sc109 q_22.1 q_22.2 rfl dX12_laysBeyond_292 ?_
              refine g_iastk (r_17.toNat) hC sc109 q_22.1 q_22.2 rfl dX12_laysBeyond_293 ?_
              refine g_nmM (fun M_28 e_M_28 => ?_)
              replace hf := hf M_28 e_M_28
              have h_M_28 : MR M_28 := by rw [e_M_28]; exact MR_st h_M_24 (h_M_24 _ _)
              obtain ⟨q_30, hf⟩ := hf
              obtain ⟨v2_29, e_v2_29⟩ : ∃ z : Int, z = v2_9 + 1 := ⟨_, rfl⟩
              replace hf := hf v2_29 e_v2_29
              have h_v2_29 : inR v2_29 := by rw [e_v2_29]; exact q_30
              refine g_iincv hC 4 e_v2_29 [(2, J v2_29), (4, J r_17), (3, J r_15), (0, .ref (B + 95)), (1, J v1_7)] dX12_laysBeyond_294 rfl (by decide) rfl ?_
              refine g_goto hC 187 dX12_laysBeyond_297 rfl ?_
              refine g_sub [(0, .ref (B + 95)), (1, J v1_7), (2, J v2_29)] [3, 4, 0] rfl ?_
              exact ih187 v2_29 M_28 hf h_v2_29 h_M_28
            · replace hf := hf.2 c_37
              refine g_aload_n hC 2 dX12_laysBeyond_270 rfl rfl ?_
              refine g_getr hC okX12 sc95 24 (by decide) rfl wf_X12_54 dX12_laysBeyond_271 ?_
              refine g_iload_n hC 1 dX12_laysBeyond_274 rfl rfl ?_
              refine g_ialdk (r_15.toNat) hC sc109 q_23.1 q_23.2 rfl dX12_laysBeyond_275 ?_
              refine g_aload_n hC 2 dX12_laysBeyond_276 rfl rfl ?_
              refine g_iload_n hC 4 dX12_laysBeyond_277 rfl rfl ?_
              refine g_iconst hC dX12_laysBeyond_278 ?_
              refine g_callVI hC (sk := [J (M_24 109 (r_15.toNat)), J r_17, .ref (B + 109)]) [J v2_9, J 2] (c_X12_its l B D K v2_9 2 h_v2_9 (by unfold inR; omega) M_24 h_M_24 _ hf) yv_X12_its wm_X12_252 okX12.1 sc95 rfl ⟨Nat.le_of_ble_eq_true rfl, Nat.le_of_ble_eq_true rfl, Nat.le_of_ble_eq_true rfl, Nat.le_of_ble_eq_true rfl⟩ rfl (Nat.le_of_ble_eq_true rfl) dX12_laysBeyond_279 ?_
              rintro r_31 M_32 h_r_31 - ⟨rfl, hf⟩
              refine g_iadd hC dX12_laysBeyond_282 ?_
              refine g_goto hC 293 dX12_laysBeyond_283 rfl ?_
              obtain ⟨q_33, hf⟩ := hf
              refine g_iastk (r_17.toNat) hC sc109 q_22.1 q_22.2 rfl dX12_laysBeyond_293 ?_
              refine g_nmM (fun M_34 e_M_34 => ?_)
              replace hf := hf M_34 e_M_34
              have h_M_34 : MR M_34 := by rw [e_M_34]; exact MR_st h_M_24 q_33
              obtain ⟨q_36, hf⟩ := hf
              obtain ⟨v2_35, e_v2_35⟩ : ∃ z : Int, z = v2_9 + 1 := ⟨_, rfl⟩
              replace hf := hf v2_35 e_v2_35
              have h_v2_35 : inR v2_35 := by rw [e_v2_35]; exact q_36
              refine g_iincv hC 4 e_v2_35 [(2, J v2_35), (4, J r_17), (3, J r_15), (0, .ref (B + 95)), (1, J v1_7)] dX12_laysBeyond_294 rfl (by decide) rfl ?_
              refine g_goto hC 187 dX12_laysBeyond_297 rfl ?_
              refine g_sub [(0, .ref (B + 95)), (1, J v1_7), (2, J v2_35)] [3, 4, 0] rfl ?_
              exact ih187 v2_35 M_34 hf h_v2_35 h_M_34
    · intro J174 hJ174 hf
      refine g_sub [(0, .ref (B + 95)), (1, J 0)] [1, 0] rfl ?_
      refine wl2_elim (fun (v1_41 : Int) (M_42 : Mem) => inR v1_41 → MR M_42 → G p l e (rmF 2 43) s m args below meth c B D K 5 0 0 (ZV below args s B D K Q) M_42 46 [(0, .ref (B + 95)), (1, J v1_41)] []) ?_ 5000 0 M_1 hf (by unfold inR; omega) h_M_1
      intro rec46 ih46 v1_41 M_42 hf h_v1_41 h_M_42
      unfold X12_laysBeyond_b46 at hf
      refine g_iload_n hC 1 dX12_laysBeyond_46 rfl rfl ?_
      refine g_aload_n hC 0 dX12_laysBeyond_47 rfl rfl ?_
      refine g_callVI hC (sk := [J v1_41]) [] (c_X12_places l B D K   M_42 h_M_42 _ hf) yv_X12_places wm_X12_246 okX12.1 sc95 rfl ⟨Nat.le_of_ble_eq_true rfl, Nat.le_of_ble_eq_true rfl, Nat.le_of_ble_eq_true rfl, Nat.le_of_ble_eq_true rfl⟩ rfl (Nat.le_of_ble_eq_true rfl) dX12_laysBeyond_48 ?_
      rintro r_43 M_44 h_r_43 - ⟨rfl, hf⟩
      refine g_icmp_ge hC 174 h_v1_41 h_r_43 dX12_laysBeyond_51 rfl (fun c_76 => ?_) (fun c_76 => ?_)
      · replace hf := hf.1 c_76
        refine g_sub [(0, .ref (B + 95))] [0] rfl ?_
        exact hJ174 M_42 hf h_M_42
      · replace hf := hf.2 c_76
        refine g_iconst hC dX12_laysBeyond_54 ?_
        refine g_istore_n hC [(2, J 0), (0, .ref (B + 95)), (1, J v1_41)] dX12_laysBeyond_55 rfl (by decide) rfl ?_
        refine g_sub [(0, .ref (B + 95)), (1, J v1_41), (2, J 0)] [1, 2, 0] rfl ?_
        refine wl2_elim (fun (v2_45 : Int) (M_46 : Mem) => inR v2_45 → MR M_46 → G p l e (rmF 2 43) s m args below meth c B D K 5 0 0 (ZV below args s B D K Q) M_46 56 [(0, .ref (B + 95)), (1, J v1_41), (2, J v2_45)] []) ?_ 5000 0 M_42 hf (by unfold inR; omega) h_M_42
        intro rec56 ih56 v2_45 M_46 hf h_v2_45 h_M_46
        unfold X12_laysBeyond_b56 at hf
        refine g_iload_n hC 2 dX12_laysBeyond_56 rfl rfl ?_
        refine g_aload_n hC 0 dX12_laysBeyond_57 rfl rfl ?_
        refine g_callVI hC (sk := [J v2_45]) [] (c_X12_reaches l B D K   M_46 h_M_46 _ hf) yv_X12_reaches wm_X12_249 okX12.1 sc95 rfl ⟨Nat.le_of_ble_eq_true rfl, Nat.le_of_ble_eq_true rfl, Nat.le_of_ble_eq_true rfl, Nat.le_of_ble_eq_true rfl⟩ rfl (Nat.le_of_ble_eq_true rfl) dX12_laysBeyond_58 ?_
        rintro r_47 M_48 h_r_47 - ⟨rfl, hf⟩
        refine g_icmp_ge hC 168 h_v2_45 h_r_47 dX12_laysBeyond_61 rfl (fun c_75 => ?_) (fun c_75 => ?_)
        · replace hf := hf.1 c_75
          obtain ⟨q_50, hf⟩ := hf
          obtain ⟨v1_49, e_v1_49⟩ : ∃ z : Int, z = v1_41 + 1 := ⟨_, rfl⟩
          replace hf := hf v1_49 e_v1_49
          have h_v1_49 : inR v1_49 := by rw [e_v1_49]; exact q_50
          refine g_iincv hC 1 e_v1_49 [(1, J v1_49), (0, .ref (B + 95)), (2, J v2_45)] dX12_laysBeyond_168 rfl (by decide) rfl ?_
          refine g_goto hC 46 dX12_laysBeyond_171 rfl ?_
          refine g_sub [(0, .ref (B + 95)), (1, J v1_49)] [1, 0] rfl ?_
          exact ih46 v1_49 M_46 hf h_v1_49 h_M_46
        · replace hf := hf.2 c_75
          refine g_aload_n hC 0 dX12_laysBeyond_64 rfl rfl ?_
          refine g_iload_n hC 2 dX12_laysBeyond_65 rfl rfl ?_
          refine g_iconst hC dX12_laysBeyond_66 ?_
          refine g_callVI hC (sk := []) [J v2_45, J 1] (c_X12_its l B D K v2_45 1 h_v2_45 (by unfold inR; omega) M_46 h_M_46 _ hf) yv_X12_its wm_X12_252 okX12.1 sc95 rfl ⟨Nat.le_of_ble_eq_true rfl, Nat.le_of_ble_eq_true rfl, Nat.le_of_ble_eq_true rfl, Nat.le_of_ble_eq_true rfl⟩ rfl (Nat.le_of_ble_eq_true rfl) dX12_laysBeyond_67 ?_
          rintro r_51 M_52 h_r_51 - ⟨rfl, hf⟩
          refine g_istore_n hC [(3, J r_51), (0, .ref (B + 95)), (1, J v1_41), (2, J v2_45)] dX12_laysBeyond_70 rfl (by decide) rfl ?_
          refine g_aload_n hC 1 dX12_laysBeyond_71 rfl rfl ?_
          refine g_iload_n hC 3 dX12_laysBeyond_72 rfl rfl ?_
          refine g_iconst hC dX12_laysBeyond_73 ?_
          refine g_callVI hC (sk := []) [J v2_45, J 0] (c_X12_its l B D K v2_45 0 h_v2_45 (by unfold inR; omega) M_46 h_M_46 _ hf) yv_X12_its wm_X12_252 okX12.1 sc95 rfl ⟨Nat.le_of_ble_eq_true rfl, Nat.le_of_ble_eq_true rfl, Nat.le_of_ble_eq_true rfl, Nat.le_of_ble_eq_true rfl⟩ rfl (Nat.le_of_ble_eq_true rfl) dX12_laysBeyond_74 ?_
          rintro r_53 M_54 h_r_53 - ⟨rfl, hf⟩
          refine g_istore hC [(4, J r_53), (3, J r_51), (0, .ref (B + 95)), (1, J v1_41), (2, J v2_45)] dX12_laysBeyond_77 (by decide) rfl ?_
          refine g_iload_n hC 1 dX12_laysBeyond_79 rfl rfl ?_
          refine g_aload_n hC 2 dX12_laysBeyond_80 rfl rfl ?_
          refine g_getr hC okX12 sc95 16 (by decide) rfl wf_X12_30 dX12_laysBeyond_81 ?_
          refine g_iload_n hC 3 dX12_laysBeyond_84 rfl rfl ?_
          obtain ⟨q_55, hf⟩ := hf
          refine g_ialdk (v1_41.toNat) hC sc101 q_55.1 q_55.2 rfl dX12_laysBeyond_85 ?_
          refine g_icmp_ne hC 162 h_r_51 (h_M_46 _ _) dX12_laysBeyond_86 rfl (fun c_74 => ?_) (fun c_74 => ?_)
          · replace hf := hf.1 c_74
            obtain ⟨q_57, hf⟩ := hf
            obtain ⟨v2_56, e_v2_56⟩ : ∃ z : Int, z = v2_45 + 1 := ⟨_, rfl⟩
            replace hf := hf v2_56 e_v2_56
            have h_v2_56 : inR v2_56 := by rw [e_v2_56]; exact q_57
            refine g_iincv hC 4 e_v2_56 [(2, J v2_56), (4, J r_53), (3, J r_51), (0, .ref (B + 95)), (1, J v1_41)] dX12_laysBeyond_162 rfl (by decide) rfl ?_
            refine g_goto hC 56 dX12_laysBeyond_165 rfl ?_
            refine g_sub [(0, .ref (B + 95)), (1, J v1_41), (2, J v2_56)] [3, 4, 0] rfl ?_
            exact ih56 v2_56 M_46 hf h_v2_56 h_M_46
          · replace hf := hf.2 c_74
            refine g_aload_n hC 2 dX12_laysBeyond_89 rfl rfl ?_
            refine g_getr hC okX12 sc95 20 (by decide) rfl wf_X12_42 dX12_laysBeyond_90 ?_
            refine g_iload_n hC 1 dX12_laysBeyond_93 rfl rfl ?_
            refine g_dup2 hC dX12_laysBeyond_94 rfl rfl ?_
            obtain ⟨q_58, hf⟩ := hf
            refine g_ialdk (r_51.toNat) hC sc105 q_58.1 q_58.2 rfl dX12_laysBeyond_95 ?_
            refine g_aload_n hC 2 dX12_laysBeyond_96 rfl rfl ?_
            refine g_getr hC okX12 sc95 20 (by decide) rfl wf_X12_42 dX12_laysBeyond_97 ?_
            refine g_iload hC 0 dX12_laysBeyond_100 rfl ?_
            obtain ⟨q_59, hf⟩ := hf
            refine g_ialdk (r_53.toNat) hC sc105 q_59.1 q_59.2 rfl dX12_laysBeyond_102 ?_
            refine g_iconst hC dX12_laysBeyond_103 ?_
            refine g_iload hC 0 dX12_laysBeyond_104 rfl ?_
            refine g_ishl hC dX12_laysBeyond_106 ?_
            refine g_ior hC dX12_laysBeyond_107 ?_
            refine g_ior hC dX12_laysBeyond_108 ?_
            refine g_iastk (r_51.toNat) hC sc105 q_58.1 q_58.2 rfl dX12_laysBeyond_109 ?_
            refine g_nmM (fun M_60 e_M_60 => ?_)
            replace hf := hf M_60 e_M_60
            have h_M_60 : MR M_60 := by rw [e_M_60]; exact MR_st h_M_46 (bOr_in _ _)
            refine g_aload_n hC 2 dX12_laysBeyond_110 rfl rfl ?_
            refine g_getr hC okX12 sc95 23 (by decide) rfl wf_X12_51 dX12_laysBeyond_111 ?_
            refine g_iload_n hC 1 dX12_laysBeyond_114 rfl rfl ?_
            refine g_aload_n hC 2 dX12_laysBeyond_115 rfl rfl ?_
            refine g_getr hC okX12 sc95 23 (by decide) rfl wf_X12_51 dX12_laysBeyond_116 ?_
            refine g_iload hC 0 dX12_laysBeyond_119 rfl ?_
            refine g_ialdk (r_53.toNat) hC sc108 q_59.1 q_59.2 rfl dX12_laysBeyond_121 ?_
            refine g_aload_n hC 2 dX12_laysBeyond_122 rfl rfl ?_
            refine g_iload_n hC 4 dX12_laysBeyond_123 rfl rfl ?_
            refine g_iconst hC dX12_laysBeyond_124 ?_
            refine g_callVI hC (sk := [J (M_60 108 (r_53.toNat)), J r_51, .ref (B + 108)]) [J v2_45, J 2] (c_X12_its l B D K v2_45 2 h_v2_45 (by unfold inR; omega) M_60 h_M_60 _ hf) yv_X12_its wm_X12_252 okX12.1 sc95 rfl ⟨Nat.le_of_ble_eq_true rfl, Nat.le_of_ble_eq_true rfl, Nat.le_of_ble_eq_true rfl, Nat.le_of_ble_eq_true rfl⟩ rfl (Nat.le_of_ble_eq_true rfl) dX12_laysBeyond_125 ?_
            rintro r_61 M_62 h_r_61 - ⟨rfl, hf⟩
            refine g_iadd hC dX12_laysBeyond_128 ?_
            refine g_aload_n hC 2 dX12_laysBeyond_129 rfl rfl ?_
            refine g_getr hC okX12 sc95 23 (by decide) rfl wf_X12_51 dX12_laysBeyond_130 ?_
            refine g_iload_n hC 1 dX12_laysBeyond_133 rfl rfl ?_
            refine g_ialdk (r_51.toNat) hC sc108 q_58.1 q_58.2 rfl dX12_laysBeyond_134 ?_
            obtain ⟨q_63, hf⟩ := hf
            refine g_icmp_le hC 155 q_63 (h_M_60 _ _) dX12_laysBeyond_135 rfl (fun c_73 => ?_) (fun c_73 => ?_)
            · replace hf := hf.1 c_73
              refine g_aload_n hC 2 dX12_laysBeyond_155 rfl rfl ?_
              refine g_getr hC okX12 sc95 23 (by decide) rfl wf_X12_51 dX12_laysBeyond_156 ?_
              refine g_iload_n hC 1 dX12_laysBeyond_159 rfl rfl ?_
              refine g_ialdk (r_51.toNat) hC sc108 q_58.1 q_58.2 rfl dX12_laysBeyond_160 ?_
              refine g_iastk (r_51.toNat) hC sc108 q_58.1 q_58.2 rfl dX12_laysBeyond_161 ?_
              refine g_nmM (fun M_64 e_M_64 => ?_)
              replace hf := hf M_64 e_M_64
              have h_M_64 : MR M_64 := by rw [e_M_64]; exact MR_st h_M_60 (h_M_60 _ _)
              obtain ⟨q_66, hf⟩ := hf
              obtain ⟨v2_65, e_v2_65⟩ : ∃ z : Int, z = v2_45 + 1 := ⟨_, rfl⟩
              replace hf := hf v2_65 e_v2_65
              have h_v2_65 : inR v2_65 := by rw [e_v2_65]; exact q_66
              refine g_iincv hC 4 e_v2_65 [(2, J v2_65), (4, J r_53), (3, J r_51), (0, .ref (B + 95)), (1, J v1_41)] dX12_laysBeyond_162 rfl (by decide) rfl ?_
              refine g_goto hC 56 dX12_laysBeyond_165 rfl ?_
              refine g_sub [(0, .ref (B + 95)), (1, J v1_41), (2, J v2_65)] [3, 4, 0] rfl ?_
              exact ih56 v2_65 M_64 hf h_v2_65 h_M_64
            · replace hf := hf.2 c_73
              refine g_aload_n hC 2 dX12_laysBeyond_138 rfl rfl ?_
              refine g_getr hC okX12 sc95 23 (by decide) rfl wf_X12_51 dX12_laysBeyond_139 ?_
              refine g_iload hC 0 dX12_laysBeyond_142 rfl ?_
              refine g_ialdk (r_53.toNat) hC sc108 q_59.1 q_59.2 rfl dX12_laysBeyond_144 ?_
              refine g_aload_n hC 2 dX12_laysBeyond_145 rfl rfl ?_
              refine g_iload_n hC 4 dX12_laysBeyond_146 rfl rfl ?_
              refine g_iconst hC dX12_laysBeyond_147 ?_
              refine g_callVI hC (sk := [J (M_60 108 (r_53.toNat)), J r_51, .ref (B + 108)]) [J v2_45, J 2] (c_X12_its l B D K v2_45 2 h_v2_45 (by unfold inR; omega) M_60 h_M_60 _ hf) yv_X12_its wm_X12_252 okX12.1 sc95 rfl ⟨Nat.le_of_ble_eq_true rfl, Nat.le_of_ble_eq_true rfl, Nat.le_of_ble_eq_true rfl, Nat.le_of_ble_eq_true rfl⟩ rfl (Nat.le_of_ble_eq_true rfl) dX12_laysBeyond_148 ?_
              rintro r_67 M_68 h_r_67 - ⟨rfl, hf⟩
              refine g_iadd hC dX12_laysBeyond_151 ?_
              refine g_goto hC 161 dX12_laysBeyond_152 rfl ?_
              obtain ⟨q_69, hf⟩ := hf
              refine g_iastk (r_51.toNat) hC sc108 q_58.1 q_58.2 rfl dX12_laysBeyond_161 ?_
              refine g_nmM (fun M_70 e_M_70 => ?_)
              replace hf := hf M_70 e_M_70
              have h_M_70 : MR M_70 := by rw [e_M_70]; exact MR_st h_M_60 q_69
              obtain ⟨q_72, hf⟩ := hf
              obtain ⟨v2_71, e_v2_71⟩ : ∃ z : Int, z = v2_45 + 1 := ⟨_, rfl⟩
              replace hf := hf v2_71 e_v2_71
              have h_v2_71 : inR v2_71 := by rw [e_v2_71]; exact q_72
              refine g_iincv hC 4 e_v2_71 [(2, J v2_71), (4, J r_53), (3, J r_51), (0, .ref (B + 95)), (1, J v1_41)] dX12_laysBeyond_162 rfl (by decide) rfl ?_
              refine g_goto hC 56 dX12_laysBeyond_165 rfl ?_
              refine g_sub [(0, .ref (B + 95)), (1, J v1_41), (2, J v2_71)] [3, 4, 0] rfl ?_
              exact ih56 v2_71 M_70 hf h_v2_71 h_M_70
  · intro J44 hJ44 hf
    refine g_sub [(0, .ref (B + 95)), (1, J 0)] [1, 0] rfl ?_
    refine wl2_elim (fun (v1_77 : Int) (M_78 : Mem) => inR v1_77 → MR M_78 → G p l e (rmF 2 43) s m args below meth c B D K 5 0 0 (ZV below args s B D K Q) M_78 2 [(0, .ref (B + 95)), (1, J v1_77)] []) ?_ 5000 0 M hf (by unfold inR; omega) hM
    intro rec2 ih2 v1_77 M_78 hf h_v1_77 h_M_78
    unfold X12_laysBeyond_b2 at hf
    refine g_iload_n hC 1 dX12_laysBeyond_2 rfl rfl ?_
    refine g_aload_n hC 0 dX12_laysBeyond_3 rfl rfl ?_
    refine g_callVI hC (sk := [J v1_77]) [] (c_X12_places l B D K   M_78 h_M_78 _ hf) yv_X12_places wm_X12_246 okX12.1 sc95 rfl ⟨Nat.le_of_ble_eq_true rfl, Nat.le_of_ble_eq_true rfl, Nat.le_of_ble_eq_true rfl, Nat.le_of_ble_eq_true rfl⟩ rfl (Nat.le_of_ble_eq_true rfl) dX12_laysBeyond_4 ?_
    rintro r_79 M_80 h_r_79 - ⟨rfl, hf⟩
    refine g_icmp_ge hC 44 h_v1_77 h_r_79 dX12_laysBeyond_7 rfl (fun c_88 => ?_) (fun c_88 => ?_)
    · replace hf := hf.1 c_88
      refine g_sub [(0, .ref (B + 95))] [0] rfl ?_
      exact hJ44 M_78 hf h_M_78
    · replace hf := hf.2 c_88
      refine g_aload_n hC 0 dX12_laysBeyond_10 rfl rfl ?_
      refine g_getr hC okX12 sc95 19 (by decide) rfl wf_X12_39 dX12_laysBeyond_11 ?_
      refine g_iload_n hC 1 dX12_laysBeyond_14 rfl rfl ?_
      refine g_iconst hC dX12_laysBeyond_15 ?_
      obtain ⟨q_81, hf⟩ := hf
      refine g_iastk (v1_77.toNat) hC sc104 q_81.1 q_81.2 rfl dX12_laysBeyond_16 ?_
      refine g_nmM (fun M_82 e_M_82 => ?_)
      replace hf := hf M_82 e_M_82
      have h_M_82 : MR M_82 := by rw [e_M_82]; exact MR_st h_M_78 (by unfold inR; omega)
      refine g_aload_n hC 0 dX12_laysBeyond_17 rfl rfl ?_
      refine g_getr hC okX12 sc95 20 (by decide) rfl wf_X12_42 dX12_laysBeyond_18 ?_
      refine g_iload_n hC 1 dX12_laysBeyond_21 rfl rfl ?_
      refine g_iconst hC dX12_laysBeyond_22 ?_
      refine g_iastk (v1_77.toNat) hC sc105 q_81.1 q_81.2 rfl dX12_laysBeyond_23 ?_
      refine g_nmM (fun M_83 e_M_83 => ?_)
      replace hf := hf M_83 e_M_83
      have h_M_83 : MR M_83 := by rw [e_M_83]; exact MR_st h_M_82 (by unfold inR; omega)
      refine g_aload_n hC 0 dX12_laysBeyond_24 rfl rfl ?_
      refine g_getr hC okX12 sc95 23 (by decide) rfl wf_X12_51 dX12_laysBeyond_25 ?_
      refine g_iload_n hC 1 dX12_laysBeyond_28 rfl rfl ?_
      refine g_iconst hC dX12_laysBeyond_29 ?_
      refine g_iastk (v1_77.toNat) hC sc108 q_81.1 q_81.2 rfl dX12_laysBeyond_30 ?_
      refine g_nmM (fun M_84 e_M_84 => ?_)
      replace hf := hf M_84 e_M_84
      have h_M_84 : MR M_84 := by rw [e_M_84]; exact MR_st h_M_83 (by unfold inR; omega)
      refine g_aload_n hC 0 dX12_laysBeyond_31 rfl rfl ?_
      refine g_getr hC okX12 sc95 24 (by decide) rfl wf_X12_54 dX12_laysBeyond_32 ?_
      refine g_iload_n hC 1 dX12_laysBeyond_35 rfl rfl ?_
      refine g_iconst hC dX12_laysBeyond_36 ?_
      refine g_iastk (v1_77.toNat) hC sc109 q_81.1 q_81.2 rfl dX12_laysBeyond_37 ?_
      refine g_nmM (fun M_85 e_M_85 => ?_)
      replace hf := hf M_85 e_M_85
      have h_M_85 : MR M_85 := by rw [e_M_85]; exact MR_st h_M_84 (by unfold inR; omega)
      obtain ⟨q_87, hf⟩ := hf
      obtain ⟨v1_86, e_v1_86⟩ : ∃ z : Int, z = v1_77 + 1 := ⟨_, rfl⟩
      replace hf := hf v1_86 e_v1_86
      have h_v1_86 : inR v1_86 := by rw [e_v1_86]; exact q_87
      refine g_iincv hC 1 e_v1_86 [(1, J v1_86), (0, .ref (B + 95))] dX12_laysBeyond_38 rfl (by decide) rfl ?_
      refine g_goto hC 2 dX12_laysBeyond_41 rfl ?_
      refine g_sub [(0, .ref (B + 95)), (1, J v1_86)] [1, 0] rfl ?_
      exact ih2 v1_86 M_85 hf h_v1_86 h_M_85
set_option maxHeartbeats 4000000 in
set_option maxRecDepth 100000 in
theorem c_X12_sharesOut (l : Launch) (B : Nat) (D : va_G) (K : Nat → ClassId) (v1 : Int) (i_v1 : inR v1) (M : Mem) (hM : MR M) (Q : Mem → Prop) (hf : f_X12_sharesOut v1 M Q) : CtV l yX12_sharesOut cX12_sharesOut 4 2 43 B D K [.ref (B + 95), J v1] M Q := by
  refine ct_v (by decide) (Nat.le_of_ble_eq_true rfl) ?_
  intro p e s m args below meth c hC
  have hC : Cx p s m args meth c D K cX12_sharesOut 4 RX12 none := hC
  unfold f_X12_sharesOut at hf
  refine (show G p l e (rmF 2 43) s m args below meth c B D K 4 0 0 (ZV below args s B D K Q) M 0 [(0, .ref (B + 95)), (1, J v1)] [] from ?_)
  refine g_aload_n hC 0 dX12_sharesOut_0 rfl rfl ?_
  refine g_getr hC okX12 sc95 18 (by decide) rfl wf_X12_36 dX12_sharesOut_1 ?_
  refine g_iload_n hC 1 dX12_sharesOut_4 rfl rfl ?_
  obtain ⟨q_1, hf⟩ := hf
  refine g_ialdk (v1.toNat) hC sc103 q_1.1 q_1.2 rfl dX12_sharesOut_5 ?_
  refine jn_elim (fun (k : Int → Prop) => ∀ (s0_2 : Int), k s0_2 → (inR s0_2) → G p l e (rmF 2 43) s m args below meth c B D K 4 0 0 (ZV below args s B D K Q) M 26 [(0, .ref (B + 95)), (1, J v1)] [J s0_2]) hf ?_ ?_
  · intro s0_2 hf h_s0_2
    refine g_istore_n hC [(2, J s0_2), (0, .ref (B + 95)), (1, J v1)] dX12_sharesOut_26 rfl (by decide) rfl ?_
    refine g_iconst hC dX12_sharesOut_27 ?_
    refine g_istore_n hC [(3, J 0), (2, J s0_2), (0, .ref (B + 95)), (1, J v1)] dX12_sharesOut_28 rfl (by decide) rfl ?_
    refine g_sub [(0, .ref (B + 95)), (1, J v1), (2, J s0_2), (3, J 0)] [2, 3, 1, 0] rfl ?_
    refine wl3_elim (fun (v2_3 : Int) (v3_4 : Int) (M_5 : Mem) => inR v2_3 → inR v3_4 → MR M_5 → G p l e (rmF 2 43) s m args below meth c B D K 4 0 0 (ZV below args s B D K Q) M_5 29 [(0, .ref (B + 95)), (1, J v1), (2, J v2_3), (3, J v3_4)] []) ?_ 5000 s0_2 0 M hf h_s0_2 (by unfold inR; omega) hM
    intro rec29 ih29 v2_3 v3_4 M_5 hf h_v2_3 h_v3_4 h_M_5
    unfold X12_sharesOut_b29 at hf
    refine g_iload_n hC 3 dX12_sharesOut_29 rfl rfl ?_
    refine g_aload_n hC 0 dX12_sharesOut_30 rfl rfl ?_
    refine g_callVI hC (sk := [J v3_4]) [] (c_X12_reaches l B D K   M_5 h_M_5 _ hf) yv_X12_reaches wm_X12_249 okX12.1 sc95 rfl ⟨Nat.le_of_ble_eq_true rfl, Nat.le_of_ble_eq_true rfl, Nat.le_of_ble_eq_true rfl, Nat.le_of_ble_eq_true rfl⟩ rfl (Nat.le_of_ble_eq_true rfl) dX12_sharesOut_31 ?_
    rintro r_6 M_7 h_r_6 - ⟨rfl, hf⟩
    refine g_icmp_ge hC 115 h_v3_4 h_r_6 dX12_sharesOut_34 rfl (fun c_27 => ?_) (fun c_27 => ?_)
    · replace hf := hf.1 c_27
      exact g_retv hC h_M_5 hf dX12_sharesOut_115
    · replace hf := hf.2 c_27
      refine g_aload_n hC 0 dX12_sharesOut_37 rfl rfl ?_
      refine g_iload_n hC 3 dX12_sharesOut_38 rfl rfl ?_
      refine g_iconst hC dX12_sharesOut_39 ?_
      refine g_callVI hC (sk := []) [J v3_4, J 0] (c_X12_its l B D K v3_4 0 h_v3_4 (by unfold inR; omega) M_5 h_M_5 _ hf) yv_X12_its wm_X12_252 okX12.1 sc95 rfl ⟨Nat.le_of_ble_eq_true rfl, Nat.le_of_ble_eq_true rfl, Nat.le_of_ble_eq_true rfl, Nat.le_of_ble_eq_true rfl⟩ rfl (Nat.le_of_ble_eq_true rfl) dX12_sharesOut_40 ?_
      rintro r_8 M_9 h_r_8 - ⟨rfl, hf⟩
      refine g_iload_n hC 1 dX12_sharesOut_43 rfl rfl ?_
      refine g_icmp_ne hC 109 h_r_8 i_v1 dX12_sharesOut_44 rfl (fun c_26 => ?_) (fun c_26 => ?_)
      · replace hf := hf.1 c_26
        obtain ⟨v3_10, e_v3_10⟩ : ∃ z : Int, z = nz (v3_4 + 1) := ⟨_, rfl⟩
        replace hf := hf v3_10 e_v3_10
        have h_v3_10 : inR v3_10 := by rw [e_v3_10]; exact (nz_in _)
        refine g_iincz hC 3 e_v3_10 [(3, J v3_10), (0, .ref (B + 95)), (1, J v1), (2, J v2_3)] dX12_sharesOut_109 rfl (by decide) rfl ?_
        refine g_goto hC 29 dX12_sharesOut_112 rfl ?_
        refine g_sub [(0, .ref (B + 95)), (1, J v1), (2, J v2_3), (3, J v3_10)] [1, 2, 3, 0] rfl ?_
        exact ih29 v2_3 v3_10 M_5 hf h_v2_3 h_v3_10 h_M_5
      · replace hf := hf.2 c_26
        refine g_aload_n hC 0 dX12_sharesOut_47 rfl rfl ?_
        refine g_getr hC okX12 sc95 22 (by decide) rfl wf_X12_48 dX12_sharesOut_48 ?_
        refine g_iload_n hC 3 dX12_sharesOut_51 rfl rfl ?_
        refine g_aload_n hC 0 dX12_sharesOut_52 rfl rfl ?_
        refine g_iload_n hC 3 dX12_sharesOut_53 rfl rfl ?_
        refine g_iconst hC dX12_sharesOut_54 ?_
        refine g_callVI hC (sk := [J v3_4, .ref (B + 107)]) [J v3_4, J 3] (c_X12_its l B D K v3_4 3 h_v3_4 (by unfold inR; omega) M_5 h_M_5 _ hf) yv_X12_its wm_X12_252 okX12.1 sc95 rfl ⟨Nat.le_of_ble_eq_true rfl, Nat.le_of_ble_eq_true rfl, Nat.le_of_ble_eq_true rfl, Nat.le_of_ble_eq_true rfl⟩ rfl (Nat.le_of_ble_eq_true rfl) dX12_sharesOut_55 ?_
        rintro r_11 M_12 h_r_11 - ⟨rfl, hf⟩
        refine g_aload_n hC 0 dX12_sharesOut_58 rfl rfl ?_
        refine g_getr hC okX12 sc95 21 (by decide) rfl wf_X12_45 dX12_sharesOut_59 ?_
        refine g_iload_n hC 1 dX12_sharesOut_62 rfl rfl ?_
        refine g_ialdk (v1.toNat) hC sc106 q_1.1 q_1.2 rfl dX12_sharesOut_63 ?_
        refine g_aload_n hC 0 dX12_sharesOut_64 rfl rfl ?_
        refine g_getr hC okX12 sc95 18 (by decide) rfl wf_X12_36 dX12_sharesOut_65 ?_
        refine g_iload_n hC 1 dX12_sharesOut_68 rfl rfl ?_
        refine g_ialdk (v1.toNat) hC sc103 q_1.1 q_1.2 rfl dX12_sharesOut_69 ?_
        obtain ⟨q_13, hf⟩ := hf
        refine g_idiv hC (h_M_5 _ _) (h_M_5 _ _) q_13 dX12_sharesOut_70 ?_
        refine g_iadd hC dX12_sharesOut_71 ?_
        refine g_iload_n hC 2 dX12_sharesOut_72 rfl rfl ?_
        refine jn_elim (fun (k : Int → Prop) => ∀ (s3_14 : Int), k s3_14 → ((s3_14 = 0 ∨ s3_14 = 1)) → G p l e (rmF 2 43) s m args below meth c B D K 4 0 0 (ZV below args s B D K Q) M_5 81 [(0, .ref (B + 95)), (1, J v1), (2, J v2_3), (3, J v3_4)] [J s3_14, J (r_11 + (Int.tdiv (M_5 106 (v1.toNat)) (M_5 103 (v1.toNat)))), J v3_4, .ref (B + 107)]) hf ?_ ?_
        · intro s3_14 hf h_s3_14
          refine g_callSI hC (sk := [J (r_11 + (Int.tdiv (M_5 106 (v1.toNat)) (M_5 103 (v1.toNat)))), J v3_4, .ref (B + 107)]) [J s3_14] (c_X12_flag l B D K s3_14 (zi_ h_s3_14) M_5 h_M_5 _ hf) yv_X12_flag wm_X12_255 rfl ⟨Nat.le_of_ble_eq_true rfl, Nat.le_of_ble_eq_true rfl, Nat.le_of_ble_eq_true rfl, Nat.le_of_ble_eq_true rfl⟩ rfl (Nat.le_of_ble_eq_true rfl) dX12_sharesOut_81 ?_
          rintro r_15 M_16 h_r_15 - ⟨rfl, hf⟩
          refine g_iadd hC dX12_sharesOut_84 ?_
          obtain ⟨q_17, hf⟩ := hf
          refine g_nz ?_
          refine g_iastk (v3_4.toNat) hC sc107 q_17.1 q_17.2 rfl dX12_sharesOut_85 ?_
          refine g_nmM (fun M_18 e_M_18 => ?_)
          replace hf := hf M_18 e_M_18
          have h_M_18 : MR M_18 := by rw [e_M_18]; exact MR_st h_M_5 (nz_in _)
          obtain ⟨v2_19, e_v2_19⟩ : ∃ z : Int, z = nz (v2_3 + (-1)) := ⟨_, rfl⟩
          replace hf := hf v2_19 e_v2_19
          have h_v2_19 : inR v2_19 := by rw [e_v2_19]; exact (nz_in _)
          refine g_iincz hC 2 e_v2_19 [(2, J v2_19), (0, .ref (B + 95)), (1, J v1), (3, J v3_4)] dX12_sharesOut_86 rfl (by decide) rfl ?_
          refine g_aload_n hC 1 dX12_sharesOut_89 rfl rfl ?_
          refine g_getr hC okX12 sc95 21 (by decide) rfl wf_X12_45 dX12_sharesOut_90 ?_
          refine g_aload_n hC 1 dX12_sharesOut_93 rfl rfl ?_
          refine g_iload_n hC 3 dX12_sharesOut_94 rfl rfl ?_
          refine g_iconst hC dX12_sharesOut_95 ?_
          refine g_callVI hC (sk := [.ref (B + 106)]) [J v3_4, J 1] (c_X12_its l B D K v3_4 1 h_v3_4 (by unfold inR; omega) M_18 h_M_18 _ hf) yv_X12_its wm_X12_252 okX12.1 sc95 rfl ⟨Nat.le_of_ble_eq_true rfl, Nat.le_of_ble_eq_true rfl, Nat.le_of_ble_eq_true rfl, Nat.le_of_ble_eq_true rfl⟩ rfl (Nat.le_of_ble_eq_true rfl) dX12_sharesOut_96 ?_
          rintro r_20 M_21 h_r_20 - ⟨rfl, hf⟩
          refine g_dup2 hC dX12_sharesOut_99 rfl rfl ?_
          obtain ⟨q_22, hf⟩ := hf
          refine g_ialdk (r_20.toNat) hC sc106 q_22.1 q_22.2 rfl dX12_sharesOut_100 ?_
          refine g_aload_n hC 1 dX12_sharesOut_101 rfl rfl ?_
          refine g_getr hC okX12 sc95 22 (by decide) rfl wf_X12_48 dX12_sharesOut_102 ?_
          refine g_iload_n hC 3 dX12_sharesOut_105 rfl rfl ?_
          refine g_ialdk (v3_4.toNat) hC sc107 q_17.1 q_17.2 rfl dX12_sharesOut_106 ?_
          refine g_iadd hC dX12_sharesOut_107 ?_
          refine g_nz ?_
          refine g_iastk (r_20.toNat) hC sc106 q_22.1 q_22.2 rfl dX12_sharesOut_108 ?_
          refine g_nmM (fun M_23 e_M_23 => ?_)
          replace hf := hf M_23 e_M_23
          have h_M_23 : MR M_23 := by rw [e_M_23]; exact MR_st h_M_18 (nz_in _)
          obtain ⟨v3_24, e_v3_24⟩ : ∃ z : Int, z = nz (v3_4 + 1) := ⟨_, rfl⟩
          replace hf := hf v3_24 e_v3_24
          have h_v3_24 : inR v3_24 := by rw [e_v3_24]; exact (nz_in _)
          refine g_iincz hC 3 e_v3_24 [(3, J v3_24), (2, J v2_19), (0, .ref (B + 95)), (1, J v1)] dX12_sharesOut_109 rfl (by decide) rfl ?_
          refine g_goto hC 29 dX12_sharesOut_112 rfl ?_
          refine g_sub [(0, .ref (B + 95)), (1, J v1), (2, J v2_19), (3, J v3_24)] [2, 3, 1, 0] rfl ?_
          exact ih29 v2_19 v3_24 M_23 hf h_v2_19 h_v3_24 h_M_23
        · intro J81 hJ81 hf
          refine g_if_le hC 80 h_v2_3 dX12_sharesOut_73 rfl (fun c_25 => ?_) (fun c_25 => ?_)
          · replace hf := hf.1 c_25
            refine g_iconst hC dX12_sharesOut_80 ?_
            refine g_sub [(0, .ref (B + 95)), (1, J v1), (2, J v2_3), (3, J v3_4)] [0, 1, 2, 3] rfl ?_
            exact hJ81 0 hf (Or.inl rfl)
          · replace hf := hf.2 c_25
            refine g_iconst hC dX12_sharesOut_76 ?_
            refine g_goto hC 81 dX12_sharesOut_77 rfl ?_
            refine g_sub [(0, .ref (B + 95)), (1, J v1), (2, J v2_3), (3, J v3_4)] [0, 1, 2, 3] rfl ?_
            exact hJ81 1 hf (Or.inr rfl)
  · intro J26 hJ26 hf
    refine g_if_ne hC 13 (hM _ _) dX12_sharesOut_6 rfl (fun c_30 => ?_) (fun c_30 => ?_)
    · replace hf := hf.1 c_30
      refine g_aload_n hC 0 dX12_sharesOut_13 rfl rfl ?_
      refine g_getr hC okX12 sc95 21 (by decide) rfl wf_X12_45 dX12_sharesOut_14 ?_
      refine g_iload_n hC 1 dX12_sharesOut_17 rfl rfl ?_
      refine g_ialdk (v1.toNat) hC sc106 q_1.1 q_1.2 rfl dX12_sharesOut_18 ?_
      refine g_aload_n hC 0 dX12_sharesOut_19 rfl rfl ?_
      refine g_getr hC okX12 sc95 18 (by decide) rfl wf_X12_36 dX12_sharesOut_20 ?_
      refine g_iload_n hC 1 dX12_sharesOut_23 rfl rfl ?_
      refine g_ialdk (v1.toNat) hC sc103 q_1.1 q_1.2 rfl dX12_sharesOut_24 ?_
      obtain ⟨q_28, hf⟩ := hf
      refine g_irem hC (hM _ _) (hM _ _) q_28 dX12_sharesOut_25 ?_
      obtain ⟨q_29, hf⟩ := hf
      refine g_sub [(0, .ref (B + 95)), (1, J v1)] [0, 1] rfl ?_
      exact hJ26 (Int.tmod (M 106 (v1.toNat)) (M 103 (v1.toNat))) hf q_29
    · replace hf := hf.2 c_30
      refine g_iconst hC dX12_sharesOut_9 ?_
      refine g_goto hC 26 dX12_sharesOut_10 rfl ?_
      refine g_sub [(0, .ref (B + 95)), (1, J v1)] [0, 1] rfl ?_
      exact hJ26 0 hf (by unfold inR; omega)
