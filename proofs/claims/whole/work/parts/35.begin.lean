theorem cs_end : cs_253 = shL := by decide +kernel
def okSh (t : Sh) : Bool := match t with
  | .inl q => q.1 < 6
  | .inr q => q.2.all (fun t => match t with | .inl _ => true | .inr k => k < 2)
theorem okSh_all : ∀ i, i < 127 → okSh (shp i) = true := by decide +kernel
theorem cellC_eq {B : Nat} {K : Nat → ClassId} {f : Nat → Int} {t : Sh} (h : okSh t = true) : cellC B K f t = cellE B K f t := by
  rcases t with ⟨k, n⟩ | ⟨c, ts⟩
  · have hk : k < 6 := by simpa [okSh] using h
    simp only [cellC, cellE, arCC]
    rw [if_pos hk, show min k 5 = k by omega]
  · simp only [cellC, cellE]
    rw [fvsC_eq ts 0 h]
theorem wsC_eq (B : Nat) (K : Nat → ClassId) (M : Mem) : wsC B K M shL = wsM B K M := by
  unfold wsC wsM
  rw [shL_len]
  apply List.map_congr_left
  intro i hi
  have hi : i < 127 := List.mem_range.mp hi
  show (B + i, cellC B K (M i) (shp i)) = _
  rw [cellC_eq (okSh_all i hi)]
theorem gc_to_g {p : Program} {l : Launch} {e : Env} {R : Room} {s : State} {m : MethodId} {args : Array Value} {below : List Frame} {meth : Method} {c : Code} {B : Nat} {D : va_G} {K : Nat → ClassId} {nL nc ns : Nat} {Z : State → Prop} {M : Mem} {pc : Nat} {lv : List (Nat × Value)} {sk : List Value} (hBs : s.heap.size = B) (kk : G p l e R s m args below meth c B D K nL nc ns Z M pc lv sk) : GC p l e R s m args below meth c B D K nL nc ns Z cs_253 M pc lv sk := by
  intro H locs ls hz hP hS hv
  rw [cs_end, wsC_eq] at hP
  refine va_forget (fun q hq => by have := hS.2.2 q hq; unfold GE at this; omega) (kk H [] ls hP ⟨hS.1, fun q h1 h2 => hS.2.1 q h1 (by unfold GE; omega), fun _ h => by cases h⟩ hv)
theorem cm_MR : MR cm_39 := by
  have h0 : MR cm_0 := fun _ _ => by unfold cm_0 inR; omega
  have h1 : MR cm_1 := MR_st h0 (by unfold inR; omega)
  have h2 : MR cm_2 := MR_st h1 (by unfold inR; omega)
  have h3 : MR cm_3 := MR_st h2 (by unfold inR; omega)
  have h4 : MR cm_4 := MR_st h3 (by unfold inR; omega)
  have h5 : MR cm_5 := MR_st h4 (by unfold inR; omega)
  have h6 : MR cm_6 := MR_st h5 (by unfold inR; omega)
  have h7 : MR cm_7 := MR_st h6 (by unfold inR; omega)
  have h8 : MR cm_8 := MR_st h7 (by unfold inR; omega)
  have h9 : MR cm_9 := MR_st h8 (by unfold inR; omega)
  have h10 : MR cm_10 := MR_st h9 (by unfold inR; omega)
  have h11 : MR cm_11 := MR_st h10 (by unfold inR; omega)
  have h12 : MR cm_12 := MR_st h11 (by unfold inR; omega)
  have h13 : MR cm_13 := MR_st h12 (by unfold inR; omega)
  have h14 : MR cm_14 := MR_st h13 (by unfold inR; omega)
  have h15 : MR cm_15 := MR_st h14 (by unfold inR; omega)
  have h16 : MR cm_16 := MR_st h15 (by unfold inR; omega)
  have h17 : MR cm_17 := MR_st h16 (by unfold inR; omega)
  have h18 : MR cm_18 := MR_st h17 (by unfold inR; omega)
  have h19 : MR cm_19 := MR_st h18 (by unfold inR; omega)
  have h20 : MR cm_20 := MR_st h19 (by unfold inR; omega)
  have h21 : MR cm_21 := MR_st h20 (by unfold inR; omega)
  have h22 : MR cm_22 := MR_st h21 (by unfold inR; omega)
  have h23 : MR cm_23 := MR_st h22 (by unfold inR; omega)
  have h24 : MR cm_24 := MR_st h23 (by unfold inR; omega)
  have h25 : MR cm_25 := MR_st h24 (by unfold inR; omega)
  have h26 : MR cm_26 := MR_st h25 (by unfold inR; omega)
  have h27 : MR cm_27 := MR_st h26 (by unfold inR; omega)
  have h28 : MR cm_28 := MR_st h27 (by unfold inR; omega)
  have h29 : MR cm_29 := MR_st h28 (by unfold inR; omega)
  have h30 : MR cm_30 := MR_st h29 (by unfold inR; omega)
  have h31 : MR cm_31 := MR_st h30 (by unfold inR; omega)
  have h32 : MR cm_32 := MR_st h31 (by unfold inR; omega)
  have h33 : MR cm_33 := MR_st h32 (by unfold inR; omega)
  have h34 : MR cm_34 := MR_st h33 (by unfold inR; omega)
  have h35 : MR cm_35 := MR_st h34 (by unfold inR; omega)
  have h36 : MR cm_36 := MR_st h35 (by unfold inR; omega)
  have h37 : MR cm_37 := MR_st h36 (by unfold inR; omega)
  have h38 : MR cm_38 := MR_st h37 (by unfold inR; omega)
  have h39 : MR cm_39 := MR_st h38 (by unfold inR; omega)
  exact h39
set_option maxHeartbeats 4000000 in
set_option maxRecDepth 100000 in
theorem law_begin {p : Program} {e : Env} {s : State} {m : MethodId} {below : List Frame} {meth : Method} {c : Code} (l : Launch) {b L B : Nat} {xs : Nat → Int32} {D : va_G} {K : Nat → ClassId} (hL : L ≤ 3072) (hC : Cx p s m #[Value.ref b] meth c D K code 4 RL ret) (hN : NWS s) (hBs : s.heap.size = B) (hX : va_X b L xs s s.heap) (hbl : b < s.heap.size) (hf : f_law (fun j => (xs j).toInt) L cm_39) : GC p l e room_1 s m #[Value.ref b] below meth c B D K 4 0 0 (lw_Z below #[Value.ref b] s) cs_0 cm_0 0 [(0, .ref b)] [] := by
  have hC : Cx p s m #[Value.ref b] meth c D K cL_law 4 RL ret := hC
  refine gc_new hC 0 cs_1 okX11 tnX11 ⟨wcl_L_7, win_X11, wii_X11⟩ cl_0 rfl rfl rfl bl_X11 (Nat.le_of_ble_eq_true rfl) (Nat.le_of_ble_eq_true rfl) dL_law_0 ?_
  refine gc_dup hC dL_law_3 rfl ?_
  refine gc_callI hC hN (sk := [.ref (B + 0)]) [] (cc_1 l B D K) yc_X11_init wm_L_9 rfl ⟨(Nat.le_of_ble_eq_true rfl), (Nat.le_of_ble_eq_true rfl), (Nat.le_of_ble_eq_true rfl), (Nat.le_of_ble_eq_true rfl)⟩ rfl (Nat.le_of_ble_eq_true rfl) dL_law_4 ?_
  refine gc_astore_n hC [(1, .ref (B + 0)), (0, .ref b)] dL_law_7 rfl (by decide) rfl ?_
  refine gc_new hC 95 cs_191 okX12 tnX12 ⟨wcl_L_10, win_X12, wii_X12⟩ cl_190 rfl rfl rfl bl_X12 (Nat.le_of_ble_eq_true rfl) (Nat.le_of_ble_eq_true rfl) dL_law_8 ?_
  refine gc_dup hC dL_law_11 rfl ?_
  refine gc_callI hC hN (sk := [.ref (B + 95)]) [] (cc_19 l B D K) yc_X12_init wm_L_12 rfl ⟨(Nat.le_of_ble_eq_true rfl), (Nat.le_of_ble_eq_true rfl), (Nat.le_of_ble_eq_true rfl), (Nat.le_of_ble_eq_true rfl)⟩ rfl (Nat.le_of_ble_eq_true rfl) dL_law_12 ?_
  refine gc_astore_n hC [(2, .ref (B + 95)), (1, .ref (B + 0)), (0, .ref b)] dL_law_15 rfl (by decide) rfl ?_
  exact gc_to_g hBs (c_law l hL hC hBs hX hbl _ cm_MR hf)
