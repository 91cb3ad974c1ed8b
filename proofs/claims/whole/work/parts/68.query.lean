/-! place, rank, stem -/
section
variable {M : Mem} {N : Nt} {n : Nat}
theorem q_place {a b : Int} (hC : Core M N) {Q : Int → Int → Mem → Prop} (h : ∀ (r : Int) (M2 : Mem), Qf M M2 → Core M2 N → Q r r M2) : f_X11_place a b M (fun r => f_X12_place a b M (fun r2 M2 => Q r r2 M2)) := by
  obtain ⟨h1, h2, h3, h4, h5⟩ := id hC
  have hP := h3.1.1
  unfold f_X11_place f_X12_place
  refine x_isPlace h1 (fun p hp e => ⟨fun _ => ?_, fun z => absurd z (by omega)⟩) (fun hno => ⟨fun z => absurd rfl z, fun _ => ?_⟩)
  · subst e
    obtain ⟨-, -, -, -, -, -, s6, s7, -⟩ := id h4.1
    have hgo : ∀ Q' : Mem → Prop, (∀ M2, Qf M M2 → Core M2 N → AllR M2 N → Sm M M2 N → Q' M2) → ∀ Q2 : Prop, f_X12_isPlace (p : Int) M (fun r_1 => (¬ r_1 = 0 → (f_X12_lays M Q')) ∧ (r_1 = 0 → Q2)) := fun Q' hh Q2 => r_isPlace h2 h3.1 (fun _ _ _ => ⟨fun _ => q_lays hC hh, fun z => absurd z (by omega)⟩) (fun z => by omega)
    refine ⟨fun c => ⟨by omega, hgo _ (fun M2 k1 k2 k3 k4 => ?_) _⟩, fun c => ⟨by omega, hgo _ (fun M2 k1 k2 k3 k4 => ?_) _⟩, fun c => hgo _ (fun M2 k1 k2 k3 k4 => ?_) _, fun c => hgo _ (fun M2 k1 k2 k3 k4 => ?_) _, fun c => ⟨by omega, hgo _ (fun M2 k1 k2 k3 k4 => ?_) _⟩, fun c => ⟨by omega, hgo _ (fun M2 k1 k2 k3 k4 => ?_) _⟩, fun c => ⟨by omega, hgo _ (fun M2 k1 k2 k3 k4 => ?_) _⟩, fun c => hgo _ (fun M2 k1 k2 k3 k4 => ?_) _⟩
    · refine ⟨fun _ => ⟨by omega, ?_⟩, fun z => by omega, fun z => by omega, fun z => by omega, fun z => by omega, fun z => by omega, fun z => by omega, fun z => by omega⟩
      rw [tn, (k4.1 p hp).1]; exact h _ _ k1 k2
    · refine ⟨fun z => by omega, fun _ => ⟨by omega, ?_⟩, fun z => by omega, fun z => by omega, fun z => by omega, fun z => by omega, fun z => by omega, fun z => by omega⟩
      rw [tn, (k4.1 p hp).2.1]; exact h _ _ k1 k2
    · refine ⟨fun z => by omega, fun z => by omega, fun _ => ?_, fun z => by omega, fun z => by omega, fun z => by omega, fun z => by omega, fun z => by omega⟩
      rw [bit_val _ (show p < 32 by omega)]
      refine r_isSource h3.1 hp k3.1.2.1 (fun s => ?_) (fun s => ?_)
      · rw [if_pos ((s6.2 p).mpr s)]; exact r_flag (fun z => absurd z (by omega)) (fun _ => h _ _ k1 k2)
      · rw [if_neg (fun z => s ((s6.2 p).mp z))]; exact r_flag (fun _ => h _ _ k1 k2) (fun z => absurd rfl z)
    · refine ⟨fun z => by omega, fun z => by omega, fun z => by omega, fun _ => ?_, fun z => by omega, fun z => by omega, fun z => by omega, fun z => by omega⟩
      rw [bit_val _ (show p < 32 by omega)]
      refine r_isMouth h3.1 hp k3.1.2.1 (fun s => ?_) (fun s => ?_)
      · rw [if_pos ((s7.2 p).mpr s)]; exact r_flag (fun z => absurd z (by omega)) (fun _ => h _ _ k1 k2)
      · rw [if_neg (fun z => s ((s7.2 p).mp z))]; exact r_flag (fun _ => h _ _ k1 k2) (fun z => absurd rfl z)
    · refine ⟨fun z => by omega, fun z => by omega, fun z => by omega, fun z => by omega, fun _ => ⟨by omega, ?_⟩, fun z => by omega, fun z => by omega, fun z => by omega⟩
      rw [tn, (k4.1 p hp).2.2.2.2.2.2]; exact h _ _ k1 k2
    · refine ⟨fun z => by omega, fun z => by omega, fun z => by omega, fun z => by omega, fun z => by omega, fun _ => ⟨by omega, ?_⟩, fun z => by omega, fun z => by omega⟩
      rw [tn, (k4.1 p hp).2.2.2.2.1]; exact h _ _ k1 k2
    · refine ⟨fun z => by omega, fun z => by omega, fun z => by omega, fun z => by omega, fun z => by omega, fun z => by omega, fun _ => ⟨by omega, ?_⟩, fun z => by omega⟩
      rw [tn, (k4.1 p hp).2.2.2.2.2.1]; exact h _ _ k1 k2
    · exact ⟨fun z => by omega, fun z => by omega, fun z => by omega, fun z => by omega, fun z => by omega, fun z => by omega, fun z => by omega, fun _ => h _ _ k1 k2⟩
  · exact r_isPlace h2 h3.1 (fun p hp e => by omega) (fun _ => ⟨fun z => absurd rfl z, fun _ => h _ _ (Qf.refl M) hC⟩)
/-- a rank: by meeting, by springs, by branches, by crowns -/
def rk (M : Mem) (r w : Nat) (k : Int) : Int := if k = 0 then M 30 r else if k = 1 then (cnt (tb (M 29 r)) 20 : Int) else if k = 2 then M (37 + 7 * w + 5) r else M (37 + 7 * w + 6) r
theorem x_rankOf {r w : Nat} {k : Int} (hG : Good N) (hX : AllX M N) (hr : r < N.R) (hw : w < 3) (hk : 0 ≤ k ∧ k ≤ 3) {Q : Int → Prop} (h : Q (rk M r w k)) : f_X11_rankOf (r : Int) k (w : Int) M Q := by
  have hR := hG.1.2.1
  have hP := hG.1.1
  unfold rk at h
  unfold f_X11_rankOf
  refine ⟨fun c => ⟨by omega, ?_⟩, fun c => ⟨by omega, ?_⟩, fun c => ⟨by omega, by omega, ?_⟩, fun c => ⟨by omega, by omega, ?_⟩, fun c => by omega⟩
  · rw [if_pos c] at h; rw [tn]; exact h
  · rw [if_neg (by omega), if_pos c] at h
    rw [tn]
    exact x_bitCount (hX.1.spr hP hr).1 (hX.1.spr hP hr).2 h
  · rw [if_neg (by omega), if_neg (by omega), if_pos c] at h; rw [tn, tn]; exact h
  · rw [if_neg (by omega), if_neg (by omega), if_neg (by omega)] at h; rw [tn, tn]; exact h
theorem r_rankOf {M2 : Mem} {r w : Nat} {k v : Int} (hG : Good N) (hX : AllX M N) (hS : Sm M M2 N) (hr : r < N.R) (hw : w < 3) (hk : 0 ≤ k ∧ k ≤ 3) (hv : 2 ≤ k → v = w) {Q : Int → Prop} (h : Q (rk M r w k)) : f_X12_rankOf (r : Int) k v M2 Q := by
  have hR := hG.1.2.1
  have hP := hG.1.1
  unfold rk at h
  unfold f_X12_rankOf
  refine ⟨fun c => ⟨fun c1 => ⟨fun c2 => ?_, fun c2 => ?_⟩, fun c1 => ⟨by omega, ?_⟩⟩, fun c => ⟨by omega, ?_⟩⟩
  · rw [if_neg c, if_neg c1, if_neg c2, (hS.2.2 w hw r hr).2.2.2] at h
    rw [hv (by omega)]
    refine r_by hw (by omega) ⟨by omega, ?_⟩
    rw [tn]; exact h
  · rw [if_neg c, if_neg c1, if_pos c2, (hS.2.2 w hw r hr).2.2.1] at h
    rw [hv (by omega)]
    refine r_by hw (by omega) ⟨by omega, ?_⟩
    rw [tn]; exact h
  · rw [if_neg c, if_pos c1] at h
    rw [tn, ← (hS.2.1 r hr).1]
    exact r_count (by rw [cnt_30 (hX.1.spr hP hr).2]; exact h)
  · rw [if_pos c, (hS.2.1 r hr).2.1] at h
    rw [tn]; exact h
theorem q_rank {a k v : Int} (hC : Core M N) {Q : Int → Int → Mem → Prop} (h : ∀ (r : Int) (M2 : Mem), Qf M M2 → Core M2 N → Q r r M2) : f_X11_rank a k v M (fun r => f_X12_rank a k v M (fun r2 M2 => Q r r2 M2)) := by
  obtain ⟨h1, h2, h3, h4, h5⟩ := id hC
  have hR := h3.1.2.1
  unfold f_X11_rank
  refine x_isReach h1 (fun r hr e => ⟨fun _ => ?_, fun z => absurd z (by omega)⟩) (fun hno => ⟨fun z => absurd rfl z, fun _ => ?_⟩)
  · subst e
    have hok : ∀ Q : Int → Prop, Q 1 → f_X12_isReach (r : Int) M Q := fun Q hQ => r_isReach h2 h3.1 (fun _ _ _ => hQ) (fun z => by omega)
    have hm1 : ¬ (0 ≤ k ∧ k ≤ 3) ∨ ((k = 2 ∨ k = 3) ∧ ¬ (0 ≤ v ∧ v ≤ 2)) → f_X12_rank (r : Int) k v M (fun r2 M2 => Q (-1) r2 M2) := fun hh => by
      unfold f_X12_rank
      refine hok _ ⟨fun z => absurd z (by omega), fun _ => r_isIn (fun _ _ => ⟨fun z => absurd z (by omega), fun _ => ?_⟩) (fun _ => ⟨fun _ => h _ _ (Qf.refl M) hC, fun z => absurd rfl z⟩)⟩
      refine jn_use (P := fun _ => True) trivial (fun J _ => ⟨fun z => by omega, fun _ => r_isIn (fun _ _ => by omega) (fun _ => ⟨fun z => absurd rfl z, fun _ => h _ _ (Qf.refl M) hC⟩)⟩)
    have hval : ∀ w : Nat, w < 3 → (0 ≤ k ∧ k ≤ 3) → (2 ≤ k → v = w) → f_X12_rank (r : Int) k v M (fun r2 M2 => Q (rk M r w k) r2 M2) := fun w hw hk hv => by
      unfold f_X12_rank
      refine hok _ ⟨fun z => absurd z (by omega), fun _ => r_isIn (fun _ _ => ⟨fun z => absurd z (by omega), fun _ => ?_⟩) (fun z => absurd hk z)⟩
      refine jn_use (P := fun J => J) (q_lays hC (fun M2 k1 k2 k3 k4 => r_rankOf h3 h4 k4 hr hw hk hv (h _ _ k1 k2))) (fun J hJ => ⟨fun _ => hJ, fun _ => r_isIn (fun _ _ => ⟨fun _ => hJ, fun z => absurd z (by omega)⟩) (fun z => by omega)⟩)
    refine jn_use (P := fun J => (k = 2 ∨ k = 3) → J) (fun hk => ?_) (fun J hJ => ⟨fun c => hJ (Or.inl c), fun c => ⟨fun c2 => ?_, fun c2 => hJ (Or.inr c2)⟩⟩)
    · unfold f_X11_isWay
      refine ⟨fun c => ⟨fun _ => hm1 (by omega), fun z => absurd rfl z⟩, fun c => ⟨fun c2 => ⟨fun _ => hm1 (by omega), fun z => absurd rfl z⟩, fun c2 => ⟨fun z => absurd z (by omega), fun _ => ?_⟩⟩⟩
      obtain ⟨w, rfl⟩ : ∃ w : Nat, v = w := ⟨v.toNat, by omega⟩
      exact x_rankOf h3 h4 hr (by omega) (by omega) (hval w (by omega) (by omega) (fun _ => rfl))
    · by_cases c3 : 0 ≤ k ∧ k ≤ 3
      · exact x_rankOf (w := 0) h3 h4 hr (by omega) c3 (hval 0 (by omega) c3 (fun z => by omega))
      · exact ⟨fun z => by omega, fun z => by omega, fun z => by omega, fun z => by omega, fun _ => hm1 (Or.inl c3)⟩
  · unfold f_X12_rank
    exact r_isReach h2 h3.1 (fun p hp e => by omega) (fun _ => ⟨fun _ => h _ _ (Qf.refl M) hC, fun z => absurd rfl z⟩)
end
