/-! reading: the other reader begins -/
section
variable {M0 M M' : Mem} {B : Nat → Int} {T : Nat}
def tF (Q : Int → Mem → Prop) (M_10 : Mem) : Prop := ∀ M_11 : Mem, M_11 = st M_10 95 7 (M_10 95 5) → ∀ M_12 : Mem, M_12 = st M_11 95 8 (M_11 95 6) → (M_12 95 5 = 0 → (jn (τ := Mem → Prop) (fun (M_13 : Mem) => ∀ M_14 : Mem, M_14 = st M_13 95 15 0 → ∀ M_15 : Mem, M_15 = st M_14 95 41 0 → ∀ M_16 : Mem, M_16 = st M_15 95 38 0 → ∀ M_17 : Mem, M_17 = st M_16 95 43 0 → Q (M_17 95 14) M_17) (fun J142 => wl2 (X12_net_b117 J142) 5000 0 M_12))) ∧ (¬ (M_12 95 5 = 0) → (f_X12_refuses 1 M_12 (fun r_25 M_26 => Q r_25 M_26)))
theorem t_begin (hT1 : M 95 1 = T) (hT : T ≤ 1600) (hb : ∀ k : Nat, k < T → M 96 k = B k ∧ 0 ≤ B k ∧ B k ≤ 255) (hO : Own M) {Q : Int → Mem → Prop} (h : ∀ M0 M8 : Mem, Rb M0 B T → Own M0 → RS M0 T D_0 0 (-1) 0 M8 → (∀ c, c ≠ 95 → M0 c = M c) → (∀ j, j ≠ 1 → j ≠ 2 → j ≠ 3 → j ≠ 4 → j ≠ 5 → j ≠ 6 → j ≠ 14 → M0 95 j = M 95 j) → M0 95 1 = 0 → f_X12_statementTold M8 (fun M9 => jn (τ := Mem → Prop) (tF Q) (fun J86 => wl1 (X12_net_b64 J86) 5000 M9))) : f_X12_net M Q := by
  unfold f_X12_net
  intro M1 e1 M2 e2 M3 e3 M4 e4 M5 e5 M6 e6 M7 e7
  have oc : ∀ c, c ≠ 95 → M7 c = M c := fun c hc => by rw [e7, st_o hc, e6, st_o hc, e5, st_o hc, e4, st_o hc, e3, st_o hc, e2, st_o hc, e1, st_o hc]
  have oj : ∀ j, j ≠ 1 → j ≠ 2 → j ≠ 3 → j ≠ 4 → j ≠ 5 → j ≠ 6 → j ≠ 14 → M7 95 j = M 95 j := fun j j1 j2 j3 j4 j5 j6 j14 => by rw [e7, st_s, if_neg j14, e6, st_s, if_neg j6, e5, st_s, if_neg j5, e4, st_s, if_neg j4, e3, st_s, if_neg j2, e2, st_s, if_neg j1, e1, st_s, if_neg j3]
  have a3 : M7 95 3 = T := by rw [e7, st_s, if_neg (by omega), e6, st_s, if_neg (by omega), e5, st_s, if_neg (by omega), e4, st_s, if_neg (by omega), e3, st_s, if_neg (by omega), e2, st_s, if_neg (by omega), e1, st_s, if_pos rfl, hT1]
  have a1 : M7 95 1 = 0 := by rw [e7, st_s, if_neg (by omega), e6, st_s, if_neg (by omega), e5, st_s, if_neg (by omega), e4, st_s, if_neg (by omega), e3, st_s, if_neg (by omega), e2, st_s, if_pos rfl]
  have a2 : M7 95 2 = 0 := by rw [e7, st_s, if_neg (by omega), e6, st_s, if_neg (by omega), e5, st_s, if_neg (by omega), e4, st_s, if_neg (by omega), e3, st_s, if_pos rfl]
  have a4 : M7 95 4 = -1 := by rw [e7, st_s, if_neg (by omega), e6, st_s, if_neg (by omega), e5, st_s, if_neg (by omega), e4, st_s, if_pos rfl]
  have a5 : M7 95 5 = 0 := by rw [e7, st_s, if_neg (by omega), e6, st_s, if_neg (by omega), e5, st_s, if_pos rfl]
  have a6 : M7 95 6 = -1 := by rw [e7, st_s, if_neg (by omega), e6, st_s, if_pos rfl]
  have a14 : M7 95 14 = 0 := by rw [e7, st_s, if_pos rfl]
  have hB7 : Rb M7 B T := ⟨a3, hT, fun k hk => by rw [oc 96 (by omega)]; exact hb k hk⟩
  have hO7 : Own M7 := by unfold Own at *; rw [oc 98 (by omega)]; exact hO
  refine jn_use (P := fun J => ∀ M8 : Mem, RS M7 T D_0 0 (-1) 0 M8 → J M8) (fun M8 hR8 => h M7 M8 hB7 hO7 hR8 oc oj a1) (fun J hJ => ?_)
  refine wl2_inv (I := fun (v : Int) (M8 : Mem) => ∃ i : Nat, v = i ∧ i ≤ 183 ∧ (∀ c, c ≠ 99 → M8 c = M7 c) ∧ ∀ j, j < i → M8 99 j = 0) (μ := fun (v : Int) (_ : Mem) => 183 - v.toNat) ?_ 5000 _ _ ⟨0, rfl, by omega, fun c _ => rfl, fun j hj => by omega⟩ (by omega)
  rintro rec _ M8 ⟨i, rfl, hi, f1, f2⟩ hrec
  unfold X12_net_b40
  refine ⟨fun c => hJ M8 ⟨⟨fun d _ d2 => f1 d d2, fun j _ _ _ _ _ _ => by rw [f1 95 (by omega)]⟩, by rw [f1 95 (by omega), a2]; rfl, Nat.zero_le _, by rw [f1 95 (by omega), a4], by rw [f1 95 (by omega), a5], by rw [f1 95 (by omega), a6], by rw [f1 95 (by omega), a14]; rfl, ⟨by rw [f2 0 (by omega)]; rfl, by rw [f2 1 (by omega)]; rfl, fun r hr => absurd hr (Nat.not_lt_zero _)⟩, by rw [f2 2 (by omega)]; rfl, fun r hr => absurd hr (Nat.not_lt_zero _), fun r hr => absurd hr (Nat.not_lt_zero _)⟩, fun c => ⟨by omega, fun M9 e9 => ⟨by unfold inR; omega, fun v ev => hrec v M9 ⟨i + 1, by omega, by omega, fun d hd => by rw [e9, st_o hd]; exact f1 d hd, fun j hj => ?_⟩ (by omega)⟩⟩⟩
  rw [e9, tn, st_s]
  by_cases z : j = i
  · rw [if_pos z]
  · rw [if_neg z]; exact f2 j (by omega)
end
