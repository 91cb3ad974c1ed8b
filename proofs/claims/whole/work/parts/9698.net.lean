/-! reading: the other reader ends -/
theorem jn_eq {τ : Type} {J : τ} {b : τ → Prop} : jn J b = b J := rfl
section
variable {M0 M M' : Mem} {B : Nat → Int} {T p k : Nat} {D : Drf} {e : Int}
theorem tF_no {x c : Int} (hx : x ≠ 0) (hJ : JK M0 T x c k M) (hb : 0 ≤ M 97 1 ∧ M 97 1 ≤ 1000) {Q : Int → Mem → Prop} (h : ∀ M' : Mem, (∀ d, d ≠ 95 → d ≠ 97 → M' d = M d) → (∀ j, j ≠ 7 → j ≠ 8 → M' 95 j = M 95 j) → M' 95 7 = x → M' 95 8 = c → (∀ i, M' 97 i = if i = 1 then M 97 1 + 1 else M 97 i) → Q (-1) M') : tF Q M := by
  unfold tF
  intro M11 e11 M12 e12
  have oc : ∀ d, d ≠ 95 → M12 d = M d := fun d hd => by rw [e12, st_o hd, e11, st_o hd]
  have oj : ∀ j, j ≠ 7 → j ≠ 8 → M12 95 j = M 95 j := fun j j7 j8 => by rw [e12, st_s, if_neg j8, e11, st_s, if_neg j7]
  have a7 : M12 95 7 = x := by rw [e12, st_s, if_neg (by omega), e11, st_s, if_pos rfl]; exact hJ.2.2.1
  have a8 : M12 95 8 = c := by rw [e12, st_s, if_pos rfl, e11, st_s, if_neg (by omega)]; exact hJ.2.2.2.1
  have a5 : M12 95 5 = x := by rw [oj 5 (by omega) (by omega)]; exact hJ.2.2.1
  refine ⟨fun w => absurd (a5.symm.trans w) hx, fun _ => ?_⟩
  unfold f_X12_refuses
  rw [oc 97 (by omega)]
  refine ⟨by omega, ?_, fun M3 e3 => h M3 (fun d d1 d2 => ?_) (fun j j7 j8 => ?_) ?_ ?_ (fun i => ?_)⟩
  · show inR (M 97 1 + 1)
    unfold inR; omega
  · rw [e3, st_o d2, oc d d1]
  · rw [e3, st_o (by omega), oj j j7 j8]
  · rw [e3, st_o (by omega), a7]
  · rw [e3, st_o (by omega), a8]
  · rw [e3]
    show st M12 97 1 (M 97 1 + 1) 97 i = _
    rw [st_s, oc 97 (by omega)]
end
