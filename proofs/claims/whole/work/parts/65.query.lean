/-! questions -/
def Core (M : Mem) (N : Nt) : Prop := NetX M 12 N ∧ NetR M 100 N ∧ Good N ∧ AllX M N ∧ (¬ M 95 15 = 0 → AllR M N)
def Qf (M M' : Mem) : Prop := (∀ c, c ≠ 95 → ¬ (68 ≤ c ∧ c ≤ 93) → ¬ (101 ≤ c ∧ c ≤ 122) → M' c = M c) ∧ (∀ j, j ≠ 15 → M' 95 j = M 95 j)
theorem Qf.refl (M : Mem) : Qf M M := ⟨fun _ _ _ _ => rfl, fun _ _ => rfl⟩
theorem Qf.trans {M1 M2 M3 : Mem} (h1 : Qf M1 M2) (h2 : Qf M2 M3) : Qf M1 M3 := ⟨fun c a b d => by rw [h2.1 c a b d, h1.1 c a b d], fun j hj => by rw [h2.2 j hj, h1.2 j hj]⟩
/-- what the figures of the class, in M, and the reference, in M', have in common -/
def Sm (M M' : Mem) (N : Nt) : Prop := (∀ p, p < N.P → M 23 p = M' 102 p ∧ M 24 p = M' 103 p ∧ M 25 p = M' 105 p ∧ M 26 p = M' 104 p ∧ M 27 p = M' 108 p ∧ M 28 p = M' 109 p ∧ M 33 p = M' 106 p) ∧ (∀ r, r < N.R → M 29 r = M' 110 r ∧ M 30 r = M' 111 r ∧ M 32 r = M' 107 r) ∧ (∀ w, w < 3 → ∀ r, r < N.R → M (37 + 7 * w + 3) r = rw_ M' 112 w r ∧ M (37 + 7 * w + 4) r = rw_ M' 113 w r ∧ M (37 + 7 * w + 5) r = rw_ M' 114 w r ∧ M (37 + 7 * w + 6) r = rw_ M' 115 w r)
section
variable {M : Mem} {N : Nt}
theorem Core.of {M' : Mem} (h : Core M N) (hq : Qf M M') (hL : ¬ M' 95 15 = 0 → AllR M' N) : Core M' N := by
  obtain ⟨h1, h2, h3, h4, -⟩ := h
  exact ⟨h1.of (fun c _ _ => hq.1 c (by omega) (by omega) (by omega)), h2.of (hq.1 100 (by omega) (by omega) (by omega)), h3, h4.of (fun c _ _ => hq.1 c (by omega) (by omega) (by omega)), hL⟩
theorem q_lays (hC : Core M N) {Q : Mem → Prop} (h : ∀ M' : Mem, Qf M M' → Core M' N → AllR M' N → Sm M M' N → Q M') : f_X12_lays M Q := by
  obtain ⟨h1, h2, h3, h4, h5⟩ := id hC
  refine r_lays h2 h3 h5 (fun M' a1 a2 a3 a4 => ?_)
  have hq : Qf M M' := ⟨fun c q1 _ q3 => a1 c q1 (by omega), a2⟩
  refine h M' hq (hC.of hq (fun _ => a4)) a4 ⟨(same_fig h3 h4.1 a4.1).1, (same_fig h3 h4.1 a4.1).2, fun w hw => same_st h3 h4.1 (h4.st hw) a4.1 (a4.2 w hw)⟩
theorem q_beyond {a b : Int} (hC : Core M N) {Q : Int → Int → Mem → Prop} (h : ∀ (r : Int) (M2 : Mem), Qf M M2 → Core M2 N → Q r r M2) : f_X11_beyond a b M (fun r => f_X12_beyond a b M (fun r2 M2 => Q r r2 M2)) := by
  obtain ⟨h1, h2, h3, h4, h5⟩ := id hC
  have hP := h3.1.1
  unfold f_X11_beyond f_X12_beyond
  refine x_isPlace h1 (fun p hp e => ⟨fun _ => ?_, fun z => absurd z (by omega)⟩) (fun hno => ⟨fun z => absurd rfl z, fun _ => ?_⟩)
  · subst e
    have hok : ∀ Q : Int → Prop, Q 1 → f_X12_isPlace (p : Int) M Q := fun Q hQ => r_isPlace h2 h3.1 (fun _ _ _ => hQ) (fun z => by omega)
    refine ⟨fun c => ⟨by omega, hok _ ⟨fun z => absurd z (by omega), fun _ => r_isIn (fun _ _ => ⟨fun _ => q_lays hC (fun M2 k1 k2 k3 k4 => ?_), fun z => absurd z (by omega)⟩) (fun z => by omega)⟩⟩, fun c => ⟨by omega, hok _ ⟨fun z => absurd z (by omega), fun _ => r_isIn (fun _ _ => ⟨fun _ => q_lays hC (fun M2 k1 k2 k3 k4 => ?_), fun z => absurd z (by omega)⟩) (fun z => by omega)⟩⟩, fun c => hok _ ⟨fun z => absurd z (by omega), fun _ => r_isIn (fun _ _ => by omega) (fun _ => ⟨fun z => absurd rfl z, fun _ => h _ _ (Qf.refl M) hC⟩)⟩⟩
    · refine ⟨fun z => absurd c z, fun _ => ⟨by omega, ?_⟩⟩
      rw [tn, (k4.1 p hp).2.2.1]; exact h _ _ k1 k2
    · refine ⟨fun _ => ⟨by omega, ?_⟩, fun z => by omega⟩
      rw [tn, (k4.1 p hp).2.2.2.1]; exact h _ _ k1 k2
  · exact r_isPlace h2 h3.1 (fun p hp e => by omega) (fun _ => ⟨fun _ => h _ _ (Qf.refl M) hC, fun z => absurd rfl z⟩)
theorem q_springs {a : Int} (hC : Core M N) {Q : Int → Int → Mem → Prop} (h : ∀ (r : Int) (M2 : Mem), Qf M M2 → Core M2 N → Q r r M2) : f_X11_springs a M (fun r => f_X12_springs a M (fun r2 M2 => Q r r2 M2)) := by
  obtain ⟨h1, h2, h3, h4, h5⟩ := id hC
  have hR := h3.1.2.1
  unfold f_X11_springs f_X12_springs
  refine x_isReach h1 (fun r hr e => ⟨fun z => absurd z (by omega), fun _ => ?_⟩) (fun hno => ⟨fun _ => ?_, fun z => absurd rfl z⟩)
  · subst e
    refine ⟨by omega, r_isReach h2 h3.1 (fun _ _ _ => ⟨fun _ => q_lays hC (fun M2 k1 k2 k3 k4 => ⟨by omega, ?_⟩), fun z => absurd z (by omega)⟩) (fun z => by omega)⟩
    rw [tn, (k4.2.1 r hr).1]; exact h _ _ k1 k2
  · exact r_isReach h2 h3.1 (fun p hp e => by omega) (fun _ => ⟨fun z => absurd rfl z, fun _ => h _ _ (Qf.refl M) hC⟩)
theorem q_goes {a b d : Int} (hC : Core M N) {Q : Int → Int → Mem → Prop} (h : ∀ (r : Int) (M2 : Mem), Qf M M2 → Core M2 N → Q r r M2) : f_X11_goes a b d M (fun r => f_X12_goes a b d M (fun r2 M2 => Q r r2 M2)) := by
  obtain ⟨h1, h2, h3, h4, h5⟩ := id hC
  have hR := h3.1.2.1
  unfold f_X11_goes f_X12_goes f_X11_isWay
  refine x_isReach h1 (fun r hr e => ⟨fun z => absurd z (by omega), fun _ => ?_⟩) (fun hno => ⟨fun _ => ?_, fun z => absurd rfl z⟩)
  · subst e
    have hok : ∀ Q : Int → Prop, Q 1 → f_X12_isReach (r : Int) M Q := fun Q hQ => r_isReach h2 h3.1 (fun _ _ _ => hQ) (fun z => by omega)
    have hbad : ¬ (0 ≤ b ∧ b ≤ 2) → f_X12_isReach (r : Int) M (fun r_1 => (r_1 = 0 → (Q (-1) (-1) M)) ∧ (¬ (r_1 = 0) → (f_X12_isIn b 0 2 M (fun r_3 => (r_3 = 0 → (Q (-1) (-1) M)) ∧ (¬ (r_3 = 0) → (f_X12_isIn d 0 1 M (fun r_5 => (¬ r_5 = 0 → (f_X12_lays M (fun M_7 => (¬ d = 0 → (f_X12_by b (r : Int) M_7 (fun r_8 => (0 ≤ r_8 ∧ r_8 < 90) ∧ Q (-1) (M_7 113 (r_8.toNat)) M_7))) ∧ (d = 0 → (f_X12_by b (r : Int) M_7 (fun r_11 => (0 ≤ r_11 ∧ r_11 < 90) ∧ Q (-1) (M_7 112 (r_11.toNat)) M_7)))))) ∧ (r_5 = 0 → (Q (-1) (-1) M))))))))) := fun hb => hok _ ⟨fun z => absurd z (by omega), fun _ => r_isIn (fun z1 z2 => absurd ⟨z1, z2⟩ hb) (fun _ => ⟨fun _ => h _ _ (Qf.refl M) hC, fun z => absurd rfl z⟩)⟩
    refine ⟨fun c => ⟨fun z => absurd rfl z, fun _ => hbad (by omega)⟩, fun c => ⟨fun c2 => ⟨fun z => absurd rfl z, fun _ => hbad (by omega)⟩, fun c2 => ⟨fun _ => ?_, fun z => absurd z (by omega)⟩⟩⟩
    obtain ⟨w, rfl⟩ : ∃ w : Nat, b = w := ⟨b.toNat, by omega⟩
    have hw : w < 3 := by omega
    refine ⟨fun c3 => ⟨by omega, by omega, hok _ ⟨fun z => absurd z (by omega), fun _ => r_isIn (fun _ _ => ⟨fun z => absurd z (by omega), fun _ => r_isIn (fun _ _ => ⟨fun _ => q_lays hC (fun M2 k1 k2 k3 k4 => ⟨fun z => absurd c3 z, fun _ => r_by hw (by omega) ⟨by omega, ?_⟩⟩), fun z => absurd z (by omega)⟩) (fun z => by omega)⟩) (fun z => by omega)⟩⟩, fun c3 => ⟨by omega, by omega, hok _ ⟨fun z => absurd z (by omega), fun _ => r_isIn (fun _ _ => ⟨fun z => absurd z (by omega), fun _ => r_isIn (fun _ _ => ⟨fun _ => q_lays hC (fun M2 k1 k2 k3 k4 => ⟨fun _ => r_by hw (by omega) ⟨by omega, ?_⟩, fun z => by omega⟩), fun z => absurd z (by omega)⟩) (fun z => by omega)⟩) (fun z => by omega)⟩⟩, fun c3 => hok _ ⟨fun z => absurd z (by omega), fun _ => r_isIn (fun _ _ => ⟨fun z => absurd z (by omega), fun _ => r_isIn (fun _ _ => by omega) (fun _ => ⟨fun z => absurd rfl z, fun _ => h _ _ (Qf.refl M) hC⟩)⟩) (fun z => by omega)⟩⟩
    · rw [tn, tn, tn, (k4.2.2 w hw r hr).1]; exact h _ _ k1 k2
    · rw [tn, tn, tn, (k4.2.2 w hw r hr).2.1]; exact h _ _ k1 k2
  · exact r_isReach h2 h3.1 (fun p hp e => by omega) (fun _ => ⟨fun _ => h _ _ (Qf.refl M) hC, fun z => absurd rfl z⟩)
end
