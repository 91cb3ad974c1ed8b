/-! net: both read the text alike -/
section
variable {M : Mem} {N : Nt} {t n A F W : Nat} {H : Nat → Nt} {K : Nat → Nat → Int}
theorem net_no {M2 M3 : Mem} {x c : Int} {B : Nat → Int} {T : Nat} (hS : StaF t M N n A F W H K) (ht : t ≤ 1000) (hx : x ≠ 0) (hB : B = M 96) (hT : M 1 1 = T) (hF : XF M x c M2) (hr : RefNo B T x c) (e3 : M3 = st M2 1 1 0) {Q : Int → Int → Mem → Prop} (h : ∀ (r : Int) (M2 : Mem), Sta (t + 1) M2 → Q r r M2) : f_X11_refuse 1 M3 (fun r M1 => f_X12_net M1 (fun r2 M2 => Q r r2 M2)) := by
  obtain ⟨t1, t2, t3, t4⟩ := hS.2.2.2.1.1
  have hrf := hS.2.2.2.1.2.1
  have h94 := hrf 1 (by omega)
  have c3 : ∀ d, d ≠ 1 → d ≠ 3 → ¬ (4 ≤ d ∧ d ≤ 11) → M3 d = M d := fun d d1 d2 d3 => by rw [e3, st_o d1]; exact hF.1 d d2 d3
  refine x_refuse (k := 1) rfl (by omega) (by rw [c3 94 (by omega) (by omega) (by omega)]; omega) ?_
  obtain ⟨M4, e4⟩ : ∃ M4 : Mem, M4 = st M3 94 1 (M3 94 1 + 1) := ⟨_, rfl⟩
  rw [← e4]
  have c4 : ∀ d, d ≠ 1 → d ≠ 3 → d ≠ 94 → ¬ (4 ≤ d ∧ d ≤ 11) → M4 d = M d := fun d d1 d2 d3 d4 => by rw [e4, st_o d3]; exact c3 d d1 d2 d4
  have hO4 : Own M4 := by have := hS.2.2.2.1.2.2.2.2; unfold Own at *; rw [c4 98 (by omega) (by omega) (by omega) (by omega)]; exact this
  refine t_begin (B := B) (T := T) (by rw [c4 95 (by omega) (by omega) (by omega) (by omega), ← t1, hT]) (by omega) (fun k hk => by rw [c4 96 (by omega) (by omega) (by omega) (by omega), hB]; exact ⟨rfl, (t4 k (by omega)).2⟩) hO4 (fun M0 M8 b1 b2 hR8 f1 f2 f3 => ?_)
  simp only [jn_eq]
  refine hr M0 M8 _ b1 b2 hR8 (fun M9 k hJ => ?_)
  have c9 : ∀ d, d ≠ 95 → d ≠ 99 → M9 d = M4 d := fun d d1 d2 => by rw [hJ.1.1 d d1 d2, f1 d d1]
  refine tF_no hx hJ (by rw [c9 97 (by omega) (by omega), c4 97 (by omega) (by omega) (by omega) (by omega)]; omega) (fun M' g1 g2 g3 g4 g5 => h (-1) M' ?_)
  have cc : ∀ d, d ≠ 1 → d ≠ 3 → d ≠ 94 → ¬ (4 ≤ d ∧ d ≤ 11) → d ≠ 95 → d ≠ 97 → d ≠ 99 → M' d = M d := fun d d1 d2 d3 d4 d5 d6 d7 => by rw [g1 d d5 d6, c9 d d5 d7, c4 d d1 d2 d3 d4]
  have cj : ∀ j, (j = 15 ∨ j = 38 ∨ (41 ≤ j ∧ j ≤ 48)) → M' 95 j = M 95 j := fun j hj => by rw [g2 j (by omega) (by omega), hJ.1.2 j (by omega) (by omega) (by omega) (by omega) (by omega) (by omega), f2 j (by omega) (by omega) (by omega) (by omega) (by omega) (by omega) (by omega), c4 95 (by omega) (by omega) (by omega) (by omega)]
  have m1 : M' 1 1 = 0 := by rw [g1 1 (by omega) (by omega), c9 1 (by omega) (by omega), e4, st_o (by omega), e3, st_s, if_pos rfl]
  have m951 : M' 95 1 = 0 := by rw [g2 1 (by omega) (by omega), hJ.1.2 1 (by omega) (by omega) (by omega) (by omega) (by omega) (by omega), f3]
  have m3 : M' 3 = M2 3 := by rw [g1 3 (by omega) (by omega), c9 3 (by omega) (by omega), e4, st_o (by omega), e3, st_o (by omega)]
  have m94 : ∀ i, M' 94 i = if i = 1 then M 94 1 + 1 else M 94 i := fun i => by rw [g1 94 (by omega) (by omega), c9 94 (by omega) (by omega), e4, st_s, c3 94 (by omega) (by omega) (by omega)]
  have m97 : ∀ i, M' 97 i = if i = 1 then M 97 1 + 1 else M 97 i := fun i => by rw [g5 i, c9 97 (by omega) (by omega), c4 97 (by omega) (by omega) (by omega) (by omega)]
  refine (hS.oth (t' := t + 1) (n' := n) (fun d hd => cc d (by omega) (by omega) (by omega) (by omega) (by omega) (by omega) (by omega)) (fun j hj => cj j (by omega)) ⟨⟨by rw [m1, m951], by omega, by omega, fun k hk => by omega⟩, fun i hi => ?_, ⟨by rw [m3, g3]; exact hF.2.1, by rw [m3, g4]; exact hF.2.2⟩, ?_, ?_⟩ ?_).sta
  · have := hrf i hi
    rw [m94, m97]
    by_cases z : i = 1
    · rw [if_pos z, if_pos z]; omega
    · rw [if_neg z, if_neg z]; omega
  · have := hS.2.2.2.1.2.2.2.1
    unfold Img at *
    rw [cc 66 (by omega) (by omega) (by omega) (by omega) (by omega) (by omega) (by omega), cc 67 (by omega) (by omega) (by omega) (by omega) (by omega) (by omega) (by omega), cc 126 (by omega) (by omega) (by omega) (by omega) (by omega) (by omega) (by omega), cj 48 (by omega)]; exact this
  · have := hS.2.2.2.1.2.2.2.2
    unfold Own at *
    rw [cc 98 (by omega) (by omega) (by omega) (by omega) (by omega) (by omega) (by omega)]; exact this
  · exact hS.2.2.2.2.2.1.of (cc 63 (by omega) (by omega) (by omega) (by omega) (by omega) (by omega) (by omega)) (cc 64 (by omega) (by omega) (by omega) (by omega) (by omega) (by omega) (by omega)) (cc 65 (by omega) (by omega) (by omega) (by omega) (by omega) (by omega) (by omega)) (cj 38 (by omega)) (cc 123 (by omega) (by omega) (by omega) (by omega) (by omega) (by omega) (by omega))
end
