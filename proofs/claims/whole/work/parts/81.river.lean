/-! the question of a river -/
section
variable {M : Mem} {N : Nt}
theorem x_howManyCalled {v : Int} (hN : NetX M 12 N) (hW : Wf N) {Q : Int → Prop} (h : Q (cnt (vis N.rv v) N.R : Int)) : f_X5_howManyCalled 12 v M Q := by
  have hR := hW.2.1
  have hvis : ∀ x, vis N.rv v x = true ↔ N.rv x = v := fun x => by unfold vis; simp
  unfold f_X5_howManyCalled
  refine wl2_inv (I := fun (s w : Int) => ∃ k : Nat, w = k ∧ k ≤ N.R ∧ s = (cnt (vis N.rv v) k : Int)) (μ := fun (_ w : Int) => N.R - w.toNat) ?_ 5000 _ _ ⟨0, rfl, by omega, rfl⟩ (by simp; omega)
  rintro rec s w ⟨k, rfl, hk, rfl⟩ hrec
  unfold X5_howManyCalled_b4
  rw [hN.2.1]
  have hl := cnt_le (vis N.rv v) k
  refine ⟨fun c => by rw [show k = N.R by omega]; exact h, fun c => ⟨by omega, ?_⟩⟩
  obtain ⟨-, -, -, -, x5⟩ := hN.2.2 k (by omega)
  rw [tn, x5]
  refine ⟨fun c1 => ⟨by unfold inR; omega, ?_⟩, fun c1 => ⟨by unfold inR; omega, ?_⟩⟩
  · rintro _ rfl
    exact hrec _ _ ⟨k + 1, by omega, by omega, by rw [cnt_s, if_neg (fun z => c1 ((hvis k).mp z))]; rfl⟩ (by omega)
  · rintro _ rfl
    refine ⟨by unfold inR; omega, ?_⟩
    rintro _ rfl
    exact hrec _ _ ⟨k + 1, by omega, by omega, by rw [cnt_s, if_pos ((hvis k).mpr c1)]; omega⟩ (by omega)
theorem x_lengthCalled {v : Int} (hN : NetX M 12 N) (hW : Wf N) {Q : Int → Prop} (h : Q (sm (lnm N (vis N.rv v)) N.R)) : f_X5_lengthCalled 12 v M Q := by
  have hR := hW.2.1
  have hvis : ∀ x, vis N.rv v x = true ↔ N.rv x = v := fun x => by unfold vis; simp
  unfold f_X5_lengthCalled
  refine wl2_inv (I := fun (s w : Int) => ∃ k : Nat, w = k ∧ k ≤ N.R ∧ s = sm (lnm N (vis N.rv v)) k) (μ := fun (_ w : Int) => N.R - w.toNat) ?_ 5000 _ _ ⟨0, rfl, by omega, rfl⟩ (by simp; omega)
  rintro rec s w ⟨k, rfl, hk, rfl⟩ hrec
  unfold X5_lengthCalled_b4
  rw [hN.2.1]
  refine ⟨fun c => by rw [show k = N.R by omega]; exact h, fun c => ⟨by omega, ?_⟩⟩
  obtain ⟨-, -, x3, -, x5⟩ := hN.2.2 k (by omega)
  have hb := lnm_le hW (vis N.rv v) (k := k + 1) (by omega)
  rw [tn, x3, x5]
  refine ⟨fun c1 => ⟨by unfold inR; omega, ?_⟩, fun c1 => ?_⟩
  · rintro _ rfl
    exact hrec _ _ ⟨k + 1, by omega, by omega, by rw [sm, lnm, if_neg (fun z => c1 ((hvis k).mp z)), Int.add_zero]⟩ (by omega)
  · have e : sm (lnm N (vis N.rv v)) (k + 1) = sm (lnm N (vis N.rv v)) k + N.ln k := by rw [sm, lnm, if_pos ((hvis k).mpr c1)]
    refine ⟨by unfold inR; omega, ?_⟩
    rintro _ rfl
    refine ⟨by unfold inR; omega, ?_⟩
    rintro _ rfl
    exact hrec _ _ ⟨k + 1, by omega, by omega, e.symm⟩ (by omega)
theorem x_firstCalled {v : Int} (hN : NetX M 12 N) (hW : Wf N) {Q : Int → Prop} (h : ∀ x : Int, Fst N.R (fun q => vis N.rv v q = true) x → Q x) : f_X5_firstCalled 12 v M Q := by
  have hR := hW.2.1
  have hvis : ∀ x, vis N.rv v x = true ↔ N.rv x = v := fun x => by unfold vis; simp
  unfold f_X5_firstCalled
  refine wl1_inv (I := fun (w : Int) => ∃ k : Nat, w = k ∧ k ≤ N.R ∧ ∀ i, i < k → ¬ vis N.rv v i = true) (μ := fun (w : Int) => N.R - w.toNat) ?_ 5000 _ ⟨0, rfl, by omega, fun i hi => by omega⟩ (by simp; omega)
  rintro rec w ⟨k, rfl, hk, i1⟩ hrec
  unfold X5_firstCalled_b2
  rw [hN.2.1]
  refine ⟨fun c => h _ (Or.inl ⟨rfl, fun i hi => i1 i (by omega)⟩), fun c => ⟨by omega, ?_⟩⟩
  obtain ⟨-, -, -, -, x5⟩ := hN.2.2 k (by omega)
  rw [tn, x5]
  refine ⟨fun c1 => ⟨by unfold inR; omega, ?_⟩, fun c1 => h _ (Or.inr ⟨k, rfl, by omega, (hvis k).mpr c1, i1⟩)⟩
  rintro _ rfl
  refine hrec _ ⟨k + 1, by omega, by omega, fun i hi => ?_⟩ (by omega)
  rcases Nat.lt_or_ge i k with y | y
  · exact i1 i y
  · rw [show i = k by omega]; exact fun z => c1 ((hvis k).mp z)
theorem r_isRiver {v : Int} {Q : Int → Prop} (hv : 0 ≤ M 100 2 ∧ M 100 2 ≤ 10) (h1 : 0 ≤ v → v < M 100 2 → Q 1) (h0 : ¬ (0 ≤ v ∧ v < M 100 2) → Q 0) : f_X12_isRiver v M Q := by
  unfold f_X12_isRiver
  exact ⟨by unfold inR; omega, r_isIn (fun a b => h1 a (by omega)) (fun a => h0 (by omega))⟩
theorem q_river {a b : Int} (hC : Core M N) (e1 : M 0 5 = M 100 2) (hv : 0 ≤ M 100 2 ∧ M 100 2 ≤ 10) {Q : Int → Int → Mem → Prop} (h : ∀ (r : Int) (M2 : Mem), Qf M M2 → Core M2 N → Q r r M2) : f_X11_river a b M (fun r => f_X12_river a b M (fun r2 M2 => Q r r2 M2)) := by
  obtain ⟨h1, h2, h3, h4, h5⟩ := id hC
  have hR := h3.1.2.1
  unfold f_X11_river
  rw [e1]
  have hbad : ¬ (0 ≤ a ∧ a < M 100 2) → f_X12_river a b M (fun r2 M2 => Q (-1) r2 M2) := fun hh => by
    unfold f_X12_river
    exact r_isRiver hv (fun z1 z2 => absurd ⟨z1, z2⟩ hh) (fun _ => ⟨fun _ => h _ _ (Qf.refl M) hC, fun z => absurd rfl z⟩)
  refine ⟨fun c => hbad (by omega), fun c => ⟨fun c1 => ?_, fun c1 => hbad (by omega)⟩⟩
  obtain ⟨V, hV⟩ : ∃ V, V = vis N.rv a := ⟨_, rfl⟩
  have hvis : ∀ x, V x = true ↔ N.rv x = a := fun x => by rw [hV]; unfold vis; simp
  have href : ∀ x : Int, (0 ≤ b ∧ b ≤ 3) → (b = 0 → x = (cnt V N.R : Int)) → (b = 1 → x = sm (lnm N V) N.R) → (b = 2 → (Row N V ∧ x = 0) ∨ (¬ Row N V ∧ x = 1)) → (b = 3 → Fst N.R (fun q => V q = true) x) → f_X12_river a b M (fun r2 M2 => Q x r2 M2) := by
    intro x hb q0 q1 q2 q3
    unfold f_X12_river
    refine r_isRiver hv (fun _ _ => ⟨fun z => absurd z (by omega), fun _ => r_isIn (fun _ _ => ⟨fun _ => q_lays hC (fun M2 k1 k2 k3 k4 => r_reaches k2.2.1 ⟨by unfold inR; omega, ?_⟩), fun z => absurd z (by omega)⟩) (fun z => absurd hb z)⟩) (fun z => absurd ⟨by omega, c1⟩ z)
    rintro _ rfl
    refine jn_use (P := fun J => ∀ n s f : Int, n = (cnt V N.R : Int) → s = sm (lnm N V) N.R → Fst N.R (fun q => V q = true) f → J n s f) ?_ ?_
    · intro n s f hn hs hf
      refine ⟨fun d0 => ⟨fun d1 => ⟨fun d2 => ?_, fun d2 => ?_⟩, fun d1 => ?_⟩, fun d0 => ?_⟩
      · rw [(q3 (by omega)).uniq (fun _ _ => Iff.rfl) hf]; exact h _ _ k1 k2
      · rw [hV] at q2
        rcases q2 d2 with ⟨u1, u2⟩ | ⟨u1, u2⟩
        · exact r_isTorn k2.2.1 h3 k3.1 (fun _ => r_flag (fun _ => by rw [u2]; exact h _ _ k1 k2) (fun z => absurd rfl z)) (fun z => absurd u1 z)
        · exact r_isTorn k2.2.1 h3 k3.1 (fun z => absurd z u1) (fun _ => r_flag (fun z => absurd z (by omega)) (fun _ => by rw [u2]; exact h _ _ k1 k2))
      · rw [q1 d1, hs]; exact h _ _ k1 k2
      · rw [q0 d0, hn]; exact h _ _ k1 k2
    · intro J hJ
      refine wl4_inv (I := fun (n s f w : Int) => ∃ k : Nat, w = (k : Int) - 1 ∧ k ≤ N.R ∧ n + (cnt V k : Int) = (cnt V N.R : Int) ∧ s + sm (lnm N V) k = sm (lnm N V) N.R ∧ ((f = -1 ∧ ∀ p, k ≤ p → p < N.R → ¬ V p = true) ∨ ∃ p : Nat, f = p ∧ k ≤ p ∧ p < N.R ∧ V p = true ∧ ∀ q, k ≤ q → q < p → ¬ V q = true)) (μ := fun (_ _ _ w : Int) => (w + 1).toNat) ?_ 5000 _ _ _ _ ⟨N.R, rfl, by omega, by omega, by omega, Or.inl ⟨rfl, fun p z1 z2 => by omega⟩⟩ (by omega)
      rintro rec n s f w ⟨k, rfl, hk, g1, g2, g3⟩ hrec
      unfold X12_river_b42
      refine ⟨fun c2 => ?_, fun c2 => ?_⟩
      · have e : k = 0 := by omega
        subst e
        refine hJ n s f (by rw [← g1]; simp [cnt]) (by rw [← g2]; simp [sm]) ?_
        rcases g3 with ⟨u1, u2⟩ | ⟨p, u1, u2, u3, u4, u5⟩
        · exact Or.inl ⟨u1, fun p hp => u2 p (by omega) hp⟩
        · exact Or.inr ⟨p, u1, u3, u4, fun q hq => u5 q (by omega) hq⟩
      · obtain ⟨i, rfl⟩ : ∃ i, k = i + 1 := ⟨k - 1, by omega⟩
        rw [show ((i + 1 : Nat) : Int) - 1 = (i : Int) by omega]
        have hiR : i < N.R := by omega
        have hb1 := lnm_le h3.1 V (k := i) (by omega)
        have hb2 := lnm_le h3.1 V (k := N.R) (by omega)
        have hb3 := lnm_le h3.1 V (k := i + 1) (by omega)
        have hl1 := cnt_le V i
        have hl2 := cnt_le V N.R
        have hl3 := cnt_le V (i + 1)
        refine r_rv k2.2.1 h3.1 hiR ⟨fun c3 => ⟨by unfold inR; omega, ?_⟩, fun c3 => ⟨by unfold inR; omega, ?_⟩⟩
        · rintro _ rfl
          have hf : ¬ V i = true := fun z => c3 ((hvis i).mp z)
          rw [cnt_s, if_neg hf] at g1
          rw [sm, lnm, if_neg hf] at g2
          refine hrec _ _ _ _ ⟨i, by omega, by omega, by omega, by omega, ?_⟩ (by omega)
          have hx : ∀ q, i ≤ q → (i + 1 ≤ q → ¬ V q = true) → ¬ V q = true := fun q hq hh => by
            by_cases e : q = i
            · rw [e]; exact hf
            · exact hh (by omega)
          rcases g3 with ⟨u1, u2⟩ | ⟨p, u1, u2, u3, u4, u5⟩
          · exact Or.inl ⟨u1, fun p hp hp2 => hx p hp (fun z => u2 p z hp2)⟩
          · exact Or.inr ⟨p, u1, by omega, u3, u4, fun q hq hq2 => hx q hq (fun z => u5 q z hq2)⟩
        · rintro _ rfl
          have ht : V i = true := (hvis i).mpr c3
          rw [cnt_s, if_pos ht] at g1
          rw [sm, lnm, if_pos ht] at g2 hb3
          refine r_ln k2.2.1 h3.1 hiR ⟨by unfold inR; omega, ?_⟩
          rintro _ rfl
          refine ⟨by unfold inR; omega, ?_⟩
          rintro _ rfl
          exact hrec _ _ _ _ ⟨i, by omega, by omega, by omega, by omega, Or.inr ⟨i, rfl, by omega, hiR, ht, fun q hq hq2 => by omega⟩⟩ (by omega)
  refine ⟨fun c2 => ?_, fun c2 => ?_, fun c2 => ?_, fun c2 => ?_, fun c2 => ?_⟩
  · refine x_howManyCalled h1 h3.1 ?_
    rw [← hV]
    exact href _ (by omega) (fun _ => rfl) (fun z => by omega) (fun z => by omega) (fun z => by omega)
  · refine x_lengthCalled h1 h3.1 ?_
    rw [← hV]
    exact href _ (by omega) (fun z => by omega) (fun _ => rfl) (fun z => by omega) (fun z => by omega)
  · refine x_isTorn h1 h3.1 (fun z => ⟨fun _ => ?_, fun y => absurd rfl y⟩) (fun z => ⟨fun y => absurd y (by omega), fun _ => ?_⟩)
    · rw [← hV] at z
      exact href _ (by omega) (fun y => by omega) (fun y => by omega) (fun _ => Or.inl ⟨z, rfl⟩) (fun y => by omega)
    · rw [← hV] at z
      exact href _ (by omega) (fun y => by omega) (fun y => by omega) (fun _ => Or.inr ⟨z, rfl⟩) (fun y => by omega)
  · refine x_firstCalled h1 h3.1 (fun x hx => ?_)
    rw [← hV] at hx
    exact href _ (by omega) (fun z => by omega) (fun z => by omega) (fun z => by omega) (fun _ => hx)
  · unfold f_X12_river
    exact r_isRiver hv (fun _ _ => ⟨fun z => absurd z (by omega), fun _ => r_isIn (fun _ _ => by omega) (fun _ => ⟨fun z => absurd rfl z, fun _ => h _ _ (Qf.refl M) hC⟩)⟩) (fun z => absurd ⟨by omega, c1⟩ z)
end
