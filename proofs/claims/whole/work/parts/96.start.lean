/-! both stand alike at the beginning -/
def N_0 : Nt := (0, 0, fun _ => 0, fun _ => 0, fun _ => 0, fun _ => 0, fun _ => 0)
theorem cm_o {c : Nat} (h0 : c ≠ 0) (h1 : c ≠ 3) (h2 : c ≠ 95) (h3 : c ≠ 98) : cm_39 c = fun _ => 0 := by
  simp only [cm_39, cm_38, cm_37, cm_36, cm_35, cm_34, cm_33, cm_32, cm_31, cm_30, cm_29, cm_28, cm_27, cm_26, cm_25, cm_24, cm_23, cm_22, cm_21, cm_20, cm_19, cm_18, cm_17, cm_16, cm_15, cm_14, cm_13, cm_12, cm_11, cm_10, cm_9, cm_8, cm_7, cm_6, cm_5, cm_4, cm_3, cm_2, cm_1, st_o h0, st_o h1, st_o h2, st_o h3]
  rfl
theorem cm_r {j : Nat} (h0 : j ≠ 8) (h1 : j ≠ 46) : cm_39 95 j = 0 := by
  unfold cm_39
  rw [st_s, if_neg h1]
  simp only [cm_38, cm_37, cm_36, cm_35, cm_34, cm_33, cm_32, cm_31, cm_30, cm_29, cm_28, cm_27, cm_26, cm_25, cm_24, cm_23, cm_22, cm_21, cm_20, cm_19, cm_18, cm_17, cm_16, cm_15, cm_14, cm_13, cm_12, cm_11, cm_10, cm_9, cm_8, cm_7, cm_6, cm_5, cm_4, cm_3, cm_2, cm_1, st_o (show 95 ≠ 98 by omega)]
  rw [st_s, if_neg h0, st_o (show 95 ≠ 0 by omega), st_o (show 95 ≠ 3 by omega)]
  rfl
theorem nup {hd ft : Nat → Nat} {q p : Nat} : ¬ Up (Ew 0 (-1)) hd ft q p := by
  rintro ⟨k, r, hr, -⟩
  exact absurd hr.1 (Nat.not_lt_zero _)
theorem good_0 : Good N_0 := ⟨⟨Nat.zero_le _, Nat.zero_le _, fun r hr => absurd hr (Nat.not_lt_zero _)⟩, fun _ => 0, fun r hr => absurd hr.1 (Nat.not_lt_zero _)⟩
theorem stw_0 {n : Nat} {w : Int} : StW cm_39 n 20 N_0 w := ⟨fun p hp => absurd hp (Nat.not_lt_zero _), fun p hp => absurd hp (Nat.not_lt_zero _), fun p hp => absurd hp (Nat.not_lt_zero _), fun p hp => absurd hp (Nat.not_lt_zero _), fun _ => 0, fun p hp => absurd hp (Nat.not_lt_zero _)⟩
theorem core_0 : Core cm_39 N_0 := by
  refine ⟨⟨by rw [cm_o (by omega) (by omega) (by omega) (by omega)]; rfl, by rw [cm_o (by omega) (by omega) (by omega) (by omega)]; rfl, fun r hr => absurd hr (Nat.not_lt_zero _)⟩, ⟨by rw [cm_o (by omega) (by omega) (by omega) (by omega)]; rfl, by rw [cm_o (by omega) (by omega) (by omega) (by omega)]; rfl, fun r hr => absurd hr (Nat.not_lt_zero _)⟩, good_0, ⟨?_, stw_0, stw_0, stw_0⟩, fun z => absurd (cm_r (by omega) (by omega)) z⟩
  refine ⟨⟨fun _ => 0, fun _ => 0, fun _ => 0, ⟨fun p hp => absurd hp (Nat.not_lt_zero _), fun p hp => absurd hp (Nat.not_lt_zero _), fun p hp => absurd hp (Nat.not_lt_zero _)⟩, fun p hp => absurd hp (Nat.not_lt_zero _), ⟨fun p hp => absurd hp (Nat.not_lt_zero _), fun _ _ hp _ _ => absurd hp (Nat.not_lt_zero _), fun p hp => absurd hp (Nat.not_lt_zero _), fun _ _ hp _ _ => absurd hp (Nat.not_lt_zero _), fun _ _ _ hp _ => absurd hp (Nat.not_lt_zero _)⟩, fun p hp => absurd hp (Nat.not_lt_zero _)⟩, fun p hp => ⟨by rw [cm_o (by omega) (by omega) (by omega) (by omega)]; rfl, by rw [cm_o (by omega) (by omega) (by omega) (by omega)]; rfl⟩, fun p hp => ?_, fun p hp => ?_, fun p hp => absurd hp (Nat.not_lt_zero _), fun p hp => absurd hp (Nat.not_lt_zero _), ?_, ?_, fun p hp => absurd hp (Nat.not_lt_zero _), fun p hp => absurd hp (Nat.not_lt_zero _), fun p hp => absurd hp (Nat.not_lt_zero _), fun p hp => absurd hp (Nat.not_lt_zero _)⟩
  · rw [cm_o (by omega) (by omega) (by omega) (by omega)]
    dsimp only
    exact ⟨by unfold inR; omega, fun q => by rw [tb_0]; exact ⟨fun z => by simp at z, fun z => absurd z nup⟩⟩
  · rw [cm_o (by omega) (by omega) (by omega) (by omega)]
    dsimp only
    exact ⟨by unfold inR; omega, fun q => by rw [tb_0]; exact ⟨fun z => by simp at z, fun z => absurd z nup⟩⟩
  · rw [cm_o (by omega) (by omega) (by omega) (by omega)]
    dsimp only
    exact ⟨by unfold inR; omega, fun q => by rw [tb_0]; exact ⟨fun z => by simp at z, fun z => absurd z.1 (Nat.not_lt_zero _)⟩⟩
  · rw [cm_o (by omega) (by omega) (by omega) (by omega)]
    dsimp only
    exact ⟨by unfold inR; omega, fun q => by rw [tb_0]; exact ⟨fun z => by simp at z, fun z => absurd z.1 (Nat.not_lt_zero _)⟩⟩
theorem own_0 : Own cm_39 := by
  have h : ∀ k : Fin 35, cm_39 98 k.val = ownW.getD k.val 0 := by decide +kernel
  intro k hk
  exact h ⟨k, hk⟩
theorem sta_0 : Sta 0 cm_39 := by
  have z : ∀ {c : Nat}, c ≠ 0 → c ≠ 3 → c ≠ 95 → c ≠ 98 → ∀ j, cm_39 c j = 0 := fun h0 h1 h2 h3 j => by rw [cm_o h0 h1 h2 h3]
  have r : ∀ {j : Nat}, j ≠ 8 → j ≠ 46 → cm_39 95 j = 0 := fun h0 h1 => cm_r h0 h1
  have a5 : cm_39 0 5 = 0 := by decide +kernel
  have a16 : cm_39 0 16 = 1 := by decide +kernel
  have b46 : cm_39 95 46 = 1 := by decide +kernel
  have b8 : cm_39 95 8 = -1 := by decide +kernel
  have d4 : cm_39 3 4 = 0 := by decide +kernel
  have d5 : cm_39 3 5 = -1 := by decide +kernel
  have v0 : cm_39 100 2 = 0 := z (by omega) (by omega) (by omega) (by omega) 2
  refine ⟨N_0, 0, 0, 0, 0, fun _ => N_0, fun _ _ => 0, core_0, ⟨by rw [a5, v0], by rw [v0]; omega, by rw [v0]; omega, fun r hr => absurd hr (Nat.not_lt_zero _)⟩, ⟨fun r hr => absurd hr (Nat.not_lt_zero _), fun v hv => by rw [v0] at hv; omega⟩, ⟨⟨?_, ?_, ?_, fun k hk => ?_⟩, fun i hi => ?_, ⟨?_, ?_⟩, ⟨?_, ?_, ?_, fun k hk => ?_⟩, own_0⟩, ⟨by rw [a16, b46], by rw [b46]; omega, by rw [b46]; omega⟩, ⟨?_, ?_, by omega, fun i hi => absurd hi (Nat.not_lt_zero _)⟩, ⟨?_, ?_, by omega, by omega, fun i hi => absurd hi (Nat.not_lt_zero _)⟩, ⟨?_, ?_, by omega, by omega, fun i hi => absurd hi (Nat.not_lt_zero _)⟩, fun i hi => absurd hi (Nat.not_lt_zero _), ?_, Or.inl ?_⟩
  · rw [z (by omega) (by omega) (by omega) (by omega), r (by omega) (by omega)]
  · rw [z (by omega) (by omega) (by omega) (by omega)]; omega
  · rw [z (by omega) (by omega) (by omega) (by omega)]; omega
  · rw [z (by omega) (by omega) (by omega) (by omega)] at hk; omega
  · rw [z (by omega) (by omega) (by omega) (by omega), z (by omega) (by omega) (by omega) (by omega)]; omega
  · rw [d4, r (by omega) (by omega)]
  · rw [d5, b8]
  · rw [z (by omega) (by omega) (by omega) (by omega), r (by omega) (by omega)]
  · rw [r (by omega) (by omega)]; omega
  · rw [r (by omega) (by omega)]; omega
  · rw [r (by omega) (by omega)] at hk; omega
  · rw [z (by omega) (by omega) (by omega) (by omega)]; rfl
  · rw [r (by omega) (by omega)]; rfl
  · rw [z (by omega) (by omega) (by omega) (by omega)]; rfl
  · rw [z (by omega) (by omega) (by omega) (by omega)]; rfl
  · rw [r (by omega) (by omega)]; rfl
  · rw [r (by omega) (by omega)]; rfl
  · rw [z (by omega) (by omega) (by omega) (by omega), r (by omega) (by omega)]
  · exact z (by omega) (by omega) (by omega) (by omega) 0
