/-! reading: the other reader ends -/
theorem jn_eq {τ : Type} {J : τ} {b : τ → Prop} : jn J b = b J := rfl
section
variable {M0 M M' : Mem} {B : Nat → Int} {T p k : Nat} {D : Drf} {e : Int}
theorem tF_no {x c : Int} (hx : x ≠ 0) (hJ : JK M0 T x c k M) (hb : 0 ≤ M 97 1 ∧ M 97 1 ≤ 1000) {Q : Int → Mem → Prop} (h : ∀ M' : Mem, (∀ d, d ≠ 95 → d ≠ 97 → M' d = M d) → (∀ j, j ≠ 7 → j ≠ 8 → M' 95 j = M 95 j) → M' 95 7 = x → M' 95 8 = c → (∀ i, M' 97 i = if i = 1 then M 97 1 + 1 else M 97 i) → Q (-1) M') : tF Q M := by
  unfold tF
  intro M11 e11 M12 e12
  have oc : ∀ d, d ≠ 95 → M12 d = M d := fun d hd => by rw [e12, st_o hd, e11, st_o hd]
  have oj : ∀ j, j ≠ 7 → j ≠ 8 → M12 95 j = M 95 j := fun j j7 j8 => by rw [e12, st_s, if_neg j8, e11, st_s, if_neg j7]
  have a7 : M12 95 7 = x := by rw [e12, st_s, if_neg (by omega), e11, st_s, if_pos rfl]; exact hJ.2.2.1
  have a8 : M12 95 8 = c := by rw [e12, st_s, if_pos rfl, e11, st_s, if_neg (by omega)]; exact hJ.2.2.2.1
  have a5 : M12 95 5 = x := by rw [oj 5 (by omega) (by omega)]; exact hJ.2.2.1
  refine ⟨fun w => absurd (a5.symm.trans w) hx, fun _ => ?_⟩
  unfold f_X12_refuses
  rw [oc 97 (by omega)]
  refine ⟨by omega, ?_, fun M3 e3 => h M3 (fun d d1 d2 => ?_) (fun j j7 j8 => ?_) ?_ ?_ (fun i => ?_)⟩
  · show inR (M 97 1 + 1)
    unfold inR; omega
  · rw [e3, st_o d2, oc d d1]
  · rw [e3, st_o (by omega), oj j j7 j8]
  · rw [e3, st_o (by omega), a7]
  · rw [e3, st_o (by omega), a8]
  · rw [e3]
    show st M12 97 1 (M 97 1 + 1) 97 i = _
    rw [st_s, oc 97 (by omega)]
theorem tF_ok (hR : RS M0 T D p e k M) (hD : DOk D) {Q : Int → Mem → Prop} (h : ∀ M' : Mem, (∀ d, d ≠ 95 → d ≠ 100 → M' d = M d) → (∀ j, j ≠ 7 → j ≠ 8 → j ≠ 15 → j ≠ 41 → j ≠ 38 → j ≠ 43 → M' 95 j = M 95 j) → M' 95 7 = 0 → M' 95 8 = -1 → M' 95 15 = 0 → M' 95 41 = 0 → M' 95 38 = 0 → M' 95 43 = 0 → (∀ j, j < 183 → M' 100 j = M 99 j) → Q k M') : tF Q M := by
  unfold tF
  intro M11 e11 M12 e12
  have oc : ∀ d, d ≠ 95 → M12 d = M d := fun d hd => by rw [e12, st_o hd, e11, st_o hd]
  have oj : ∀ j, j ≠ 7 → j ≠ 8 → M12 95 j = M 95 j := fun j j7 j8 => by rw [e12, st_s, if_neg j8, e11, st_s, if_neg j7]
  have a7 : M12 95 7 = 0 := by rw [e12, st_s, if_neg (by omega), e11, st_s, if_pos rfl]; exact hR.2.2.2.2.1
  have a8 : M12 95 8 = -1 := by rw [e12, st_s, if_pos rfl, e11, st_s, if_neg (by omega)]; exact hR.2.2.2.2.2.1
  have a5 : M12 95 5 = 0 := by rw [oj 5 (by omega) (by omega)]; exact hR.2.2.2.2.1
  have a14 : M12 95 14 = k := by rw [oj 14 (by omega) (by omega)]; exact hR.2.2.2.2.2.2.1
  refine ⟨fun _ => ?_, fun w => absurd a5 w⟩
  refine jn_use (P := fun J => ∀ M13 : Mem, (∀ d, d ≠ 100 → M13 d = M12 d) → (∀ j, j < 183 → M13 100 j = M 99 j) → J M13) (fun M13 f1 f2 => ?_) (fun J hJ => ?_)
  · intro M14 e14 M15 e15 M16 e16 M17 e17
    have qc : ∀ d, d ≠ 95 → M17 d = M13 d := fun d hd => by rw [e17, st_o hd, e16, st_o hd, e15, st_o hd, e14, st_o hd]
    have qj : ∀ j, j ≠ 15 → j ≠ 41 → j ≠ 38 → j ≠ 43 → M17 95 j = M12 95 j := fun j j1 j2 j3 j4 => by rw [e17, st_s, if_neg j4, e16, st_s, if_neg j3, e15, st_s, if_neg j2, e14, st_s, if_neg j1, f1 95 (by omega)]
    rw [qj 14 (by omega) (by omega) (by omega) (by omega), a14]
    refine h M17 (fun d d1 d2 => by rw [qc d d1, f1 d d2, oc d d1]) (fun j j7 j8 j15 j41 j38 j43 => by rw [qj j j15 j41 j38 j43, oj j j7 j8]) (by rw [qj 7 (by omega) (by omega) (by omega) (by omega), a7]) (by rw [qj 8 (by omega) (by omega) (by omega) (by omega), a8]) ?_ ?_ ?_ ?_ (fun j hj => by rw [qc 100 (by omega)]; exact f2 j hj)
    · rw [e17, st_s, if_neg (by omega), e16, st_s, if_neg (by omega), e15, st_s, if_neg (by omega), e14, st_s, if_pos rfl]
    · rw [e17, st_s, if_neg (by omega), e16, st_s, if_neg (by omega), e15, st_s, if_pos rfl]
    · rw [e17, st_s, if_neg (by omega), e16, st_s, if_pos rfl]
    · rw [e17, st_s, if_pos rfl]
  · refine wl2_inv (I := fun (v : Int) (M13 : Mem) => ∃ i : Nat, v = i ∧ i ≤ 183 ∧ (∀ d, d ≠ 100 → M13 d = M12 d) ∧ ∀ j, j < i → M13 100 j = M 99 j) (μ := fun (v : Int) (_ : Mem) => 183 - v.toNat) ?_ 5000 _ _ ⟨0, rfl, by omega, fun _ _ => rfl, fun j hj => by omega⟩ (by omega)
    rintro rec _ M13 ⟨i, rfl, hi, f1, f2⟩ hrec
    unfold X12_net_b117
    refine ⟨fun c => hJ M13 f1 (fun j hj => f2 j (by omega)), fun c => ⟨by omega, fun M9 e9 => ⟨by unfold inR; omega, fun v ev => hrec v M9 ⟨i + 1, by omega, by omega, fun d hd => by rw [e9, st_o hd]; exact f1 d hd, fun j hj => ?_⟩ (by omega)⟩⟩⟩
    rw [e9, tn, st_s, f1 99 (by omega), oc 99 (by omega)]
    by_cases z : j = i
    · rw [if_pos z, z]
    · rw [if_neg z]; exact f2 j (by omega)
end
