/-! waters -/
section
variable {M : Mem} {N : Nt}
/-- the first place that f likes, or -1 -/
def Fst (P : Nat) (f : Nat → Prop) (x : Int) : Prop := (x = -1 ∧ ∀ p, p < P → ¬ f p) ∨ ∃ p : Nat, x = p ∧ p < P ∧ f p ∧ ∀ q, q < p → ¬ f q
theorem Fst.uniq {P : Nat} {f g : Nat → Prop} {x y : Int} (e : ∀ p, p < P → (f p ↔ g p)) (h : Fst P f x) (h' : Fst P g y) : x = y := by
  rcases h with ⟨h1, h2⟩ | ⟨p, h1, h2, h3, h4⟩ <;> rcases h' with ⟨k1, k2⟩ | ⟨q, k1, k2, k3, k4⟩
  · omega
  · exact absurd ((e q k2).mpr k3) (h2 q k2)
  · exact absurd ((e p h2).mp h3) (k2 p h2)
  · rcases Nat.lt_trichotomy p q with z | z | z
    · exact absurd ((e p h2).mp h3) (k4 p z)
    · omega
    · exact absurd ((e q k2).mpr k3) (h4 q z)
theorem q_waters {a b : Int} (hC : Core M N) {Q : Int → Int → Mem → Prop} (h : ∀ (r : Int) (M2 : Mem), Qf M M2 → Core M2 N → Q r r M2) : f_X11_waters a b M (fun r => f_X12_waters a b M (fun r2 M2 => Q r r2 M2)) := by
  obtain ⟨h1, h2, h3, h4, h5⟩ := id hC
  have hP := h3.1.1
  unfold f_X11_waters
  have hok : ∀ (p : Nat) (Q : Int → Prop), p < N.P → Q 1 → f_X12_isPlace (p : Int) M Q := fun p Q hp hQ => r_isPlace h2 h3.1 (fun _ _ _ => hQ) (fun z => by omega)
  refine x_isPlace h1 (fun p hp e => ⟨fun z => absurd z (by omega), fun _ => ?_⟩) (fun hno => ⟨fun _ => ?_, fun z => absurd rfl z⟩)
  · subst e
    refine x_isPlace h1 (fun q hq e => ⟨fun _ => ?_, fun z => absurd z (by omega)⟩) (fun hno => ⟨fun z => absurd rfl z, fun _ => ?_⟩)
    · subst e
      obtain ⟨X, hX⟩ : ∃ X, X = bAnd (bOr (M 26 p) (bShl 1 (p : Int))) (bOr (M 26 q) (bShl 1 (q : Int))) := ⟨_, rfl⟩
      have href : ∀ x : Int, Fst N.P (fun i => tb X i = true ∧ bAnd (M 25 i) X = 0) x → f_X12_waters (p : Int) (q : Int) M (fun r2 M2 => Q x r2 M2) := by
        intro x hx
        unfold f_X12_waters
        refine hok p _ hp ⟨fun z => absurd z (by omega), fun _ => hok q _ hq ⟨fun _ => q_lays hC (fun M2 k1 k2 k3 k4 => ⟨by omega, by omega, ?_⟩), fun z => absurd z (by omega)⟩⟩
        rw [tn, tn, ← (k4.1 p hp).2.2.2.1, ← (k4.1 q hq).2.2.2.1, ← hX]
        intro X' hX'
        replace hX' := hX'.symm
        subst hX'
        have hfin : ∀ y : Int, Fst N.P (fun i => tb X i = true ∧ bAnd (M 25 i) X = 0) y → Q x y M2 := fun y hy => by
          rw [hx.uniq (fun _ _ => Iff.rfl) hy]; exact h _ _ k1 k2
        refine wl1_inv (I := fun (v : Int) => ∃ k : Nat, v = k ∧ k ≤ N.P ∧ ∀ i, i < k → ¬ (tb X i = true ∧ bAnd (M 25 i) X = 0)) (μ := fun (v : Int) => N.P - v.toNat) ?_ 5000 _ ⟨0, rfl, by omega, fun i hi => by omega⟩ (by simp; omega)
        rintro rec v ⟨k, rfl, hk, i1⟩ hrec
        unfold X12_waters_b47
        refine r_places k2.2.1 ⟨fun c => hfin _ (Or.inl ⟨rfl, fun i hi => i1 i (by omega)⟩), fun c => ?_⟩
        have hgo : ¬ (tb X k = true ∧ bAnd (M 25 k) X = 0) → inR ((k : Int) + 1) ∧ ∀ z : Int, z = (k : Int) + 1 → rec z := fun hh => by
          refine ⟨by unfold inR; omega, ?_⟩
          rintro _ rfl
          refine hrec _ ⟨k + 1, by omega, by omega, fun i hi => ?_⟩ (by omega)
          rcases Nat.lt_or_ge i k with y | y
          · exact i1 i y
          · rw [show i = k by omega]; exact hh
        refine r_isOf (by omega) (fun t => ⟨fun z => absurd z (by omega), fun _ => ⟨by omega, ?_⟩⟩) (fun t => ⟨fun _ => hgo (fun z => by rw [t] at z; cases z.1), fun z => absurd rfl z⟩)
        rw [tn, ← (k4.1 k (by omega)).2.2.1]
        exact ⟨fun c1 => hgo (fun z => c1 z.2), fun c1 => hfin _ (Or.inr ⟨k, rfl, by omega, ⟨t, c1⟩, i1⟩)⟩
      unfold f_X1_meeting
      refine ⟨by omega, by omega, ?_⟩
      rw [tn, tn]
      rintro _ rfl
      have hX' : bAnd (bOr (M (20 + 6) p) (bShl 1 (p : Int))) (bOr (M (20 + 6) q) (bShl 1 (q : Int))) = X := hX.symm
      rw [hX']
      refine wl1_inv (I := fun (v : Int) => ∃ k : Nat, v = k ∧ k ≤ N.P ∧ ∀ i, i < k → ¬ (tb X i = true ∧ bAnd (M 25 i) X = 0)) (μ := fun (v : Int) => N.P - v.toNat) ?_ 5000 _ ⟨0, rfl, by omega, fun i hi => by omega⟩ (by simp; omega)
      rintro rec v ⟨k, rfl, hk, i1⟩ hrec
      unfold X1_meeting_b26
      rw [h1.1]
      refine ⟨fun c => href _ (Or.inl ⟨rfl, fun i hi => i1 i (by omega)⟩), fun c => ?_⟩
      have hgo : ¬ (tb X k = true ∧ bAnd (M 25 k) X = 0) → inR ((k : Int) + 1) ∧ ∀ z : Int, z = (k : Int) + 1 → rec z := fun hh => by
        refine ⟨by unfold inR; omega, ?_⟩
        rintro _ rfl
        refine hrec _ ⟨k + 1, by omega, by omega, fun i hi => ?_⟩ (by omega)
        rcases Nat.lt_or_ge i k with y | y
        · exact i1 i y
        · rw [show i = k by omega]; exact hh
      rw [bit_1 (show k < 32 by omega)]
      refine ⟨fun c1 => hgo (fun z => c1 z.1), fun c1 => ⟨by omega, ?_⟩⟩
      rw [tn]
      exact ⟨fun c2 => hgo (fun z => c2 z.2), fun c2 => href _ (Or.inr ⟨k, rfl, by omega, ⟨c1, c2⟩, i1⟩)⟩
    · unfold f_X12_waters
      exact hok p _ hp ⟨fun z => absurd z (by omega), fun _ => r_isPlace h2 h3.1 (fun p hp e => by omega) (fun _ => ⟨fun z => absurd rfl z, fun _ => h _ _ (Qf.refl M) hC⟩)⟩
  · unfold f_X12_waters
    exact r_isPlace h2 h3.1 (fun p hp e => by omega) (fun _ => ⟨fun _ => h _ _ (Qf.refl M) hC, fun z => absurd rfl z⟩)
end
