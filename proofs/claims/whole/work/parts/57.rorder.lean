/-! the reference's order -/
section
variable {M : Mem} {N : Nt}
theorem r_laysOrder (hN : NetR M 100 N) (hG : Good N) {Q : Mem → Prop} (h : ∀ (M' : Mem) (g pos : Nat → Nat), (∀ c, c ≠ 101 → c ≠ 102 → c ≠ 103 → M' c = M c) → Topo N g pos → (∀ i, i < N.P → M' 101 i = g i) → (∀ p, p < N.P → M' 102 p = nin N p ∧ M' 103 p = nout N p) → Q M') : f_X12_laysOrder M Q := by
  have hW := hG.1
  obtain ⟨hP20, hR30, hr⟩ := id hW
  unfold f_X12_laysOrder
  refine jn_use (P := fun J => ∀ M1 : Mem, (∀ c, c ≠ 102 → c ≠ 103 → M1 c = M c) → (∀ p, p < N.P → M1 102 p = 0 ∧ M1 103 p = 0) → J M1) ?_ ?_
  · intro M1 f1 f2
    refine jn_use (P := fun J => ∀ M2 : Mem, (∀ c, c ≠ 102 → c ≠ 103 → M2 c = M c) → (∀ p, p < N.P → M2 102 p = nin N p ∧ M2 103 p = nout N p) → J M2) ?_ ?_
    · intro M2 h1 h2
      let S : Int → Nat → Mem → Prop := fun s k M' => inR s ∧ k ≤ N.P ∧ (∀ c, c ≠ 101 → M' c = M2 c) ∧ ∃ g : Nat → Nat, (∀ i, i < k → M' 101 i = g i ∧ g i < N.P) ∧ (∀ i j, i < k → j < k → g i = g j → i = j) ∧ (∀ p, tb s p = true ↔ ∃ i, i < k ∧ g i = p) ∧ (∀ i, i < k → ∀ r, r < N.R → N.ft r = g i → ∃ j, j < i ∧ g j = N.hd r)
      refine wl3_inv (I := fun (s v : Int) (M' : Mem) => ∃ k : Nat, v = k ∧ S s k M') (μ := fun (_ v : Int) (_ : Mem) => N.P - v.toNat) ?_ 5000 _ _ _ ⟨0, rfl, by unfold inR; omega, by omega, fun c _ => rfl, fun _ => 0, fun i hi => by omega, fun i j hi => by omega, fun p => by rw [tb_0]; simp, fun i hi => by omega⟩ (by simp; omega)
      rintro rec s v M' ⟨k, rfl, hS⟩ hrec
      unfold X12_laysOrder_b80
      have hN' : NetR M' 100 N := hN.of (by rw [hS.2.2.1 100 (by omega), h1 100 (by omega) (by omega)])
      refine r_places hN' ⟨fun c => ?_, fun c => ?_⟩
      · obtain ⟨-, hk, g1, g, g2, g3, g4, g5⟩ := hS
        have e : k = N.P := by omega
        subst e
        obtain ⟨pos, hp⟩ := topo_of hW (fun i hi => (g2 i hi).2) g3 g5
        exact h M' g pos (fun c q1 q2 q3 => by rw [g1 c q1, h1 c q2 q3]) hp (fun i hi => (g2 i hi).1) (by rw [g1 102 (by omega), g1 103 (by omega)]; exact h2)
      · clear hN'
        refine wl4_inv (I := fun (s v : Int) (u : Int) (M' : Mem) => ∃ k' j : Nat, v = k' ∧ u = j ∧ k ≤ k' ∧ j ≤ N.P ∧ S s k' M' ∧ (k < k' ∨ ∀ q, q < j → ¬ (¬ tb s q = true ∧ ∀ r, r < N.R → N.ft r = q → tb s (N.hd r) = true))) (μ := fun (_ _ u : Int) (_ : Mem) => N.P - u.toNat) ?_ 5000 _ _ _ _ ⟨k, 0, rfl, rfl, by omega, by omega, hS, Or.inr (fun q hq => by omega)⟩ (by simp; omega)
        clear hS
        rintro rec' s v u M' ⟨k', j, rfl, rfl, hkk, hj, hS, hpr⟩ hrec'
        unfold X12_laysOrder_b90
        have hN' : NetR M' 100 N := hN.of (by rw [hS.2.2.1 100 (by omega), h1 100 (by omega) (by omega)])
        refine r_places hN' ⟨fun c2 => ?_, fun c2 => ?_⟩
        · have hlt : k < k' := by
            rcases hpr with z | z
            · exact z
            · rcases Nat.lt_or_ge k k' with y | y
              · exact y
              · exfalso
                have e : k' = k := by omega
                subst e
                obtain ⟨-, hk, g1, g, g2, g3, g4, g5⟩ := hS
                have hex : ∃ p, p < N.P ∧ ¬ tb s p = true ∧ ∀ r, r < N.R → N.ft r = p → tb s (N.hd r) = true := by
                  refine next_ex hG (S := fun p => tb s p = true) (fun hall => ?_)
                  have hn : ∀ p, ∃ i, p < N.P → i < k' ∧ g i = p := fun p => by
                    by_cases q : p < N.P
                    · obtain ⟨i, z⟩ := (g4 p).mp (hall p q)
                      exact ⟨i, fun _ => z⟩
                    · exact ⟨0, fun z => absurd z q⟩
                  have hq : ∃ f : Nat → Nat, ∀ p, p < N.P → f p < k' ∧ g (f p) = p := ⟨fun p => Classical.choose (hn p), fun p hp => Classical.choose_spec (hn p) hp⟩
                  obtain ⟨f, hf'⟩ := hq
                  obtain ⟨i, z1, z2⟩ := pigeon (n := N.P) (g := f) (fun i hi => by have := (hf' i hi).1; omega) (fun i j hi hj e => by have a1 := (hf' i hi).2; have a2 := (hf' j hj).2; rw [e] at a1; omega) k' (by omega)
                  have := (hf' i z1).1
                  omega
                obtain ⟨p, p1, p2⟩ := hex
                exact z p (by omega) p2
          exact hrec _ _ _ ⟨k', rfl, hS⟩ (by have := hS.2.1; omega)
        · have hjP : j < N.P := by omega
          have hrest : ∀ s0 : Int, ((s0 = 1 ∧ ¬ tb s j = true) ∨ (s0 = 0 ∧ tb s j = true)) → jn (τ := Int → Prop) (fun (v4_17 : Int) => (¬ v4_17 = 0 → (∀ v1_18 : Int, v1_18 = bOr s (bShl 1 (j : Int)) → (0 ≤ (k' : Int) ∧ (k' : Int) < 20) ∧ ∀ M_20 : Mem, M_20 = st M' 101 ((k' : Int).toNat) (j : Int) → inR ((k' : Int) + 1) ∧ ∀ v2_21 : Int, v2_21 = (k' : Int) + 1 → inR ((j : Int) + 1) ∧ ∀ v3_23 : Int, v3_23 = (j : Int) + 1 → rec' v1_18 v2_21 v3_23 M_20)) ∧ (v4_17 = 0 → (inR ((j : Int) + 1) ∧ ∀ v3_25 : Int, v3_25 = (j : Int) + 1 → rec' s (k' : Int) v3_25 M'))) (fun J168 => wl2 (X12_laysOrder_b116 s (j : Int) M' J168) 5000 s0 0) := by
            intro s0 hs0
            refine jn_use (P := fun J => (¬ tb s j = true → (∀ r, r < N.R → N.ft r = j → tb s (N.hd r) = true) → J 1) ∧ (¬ (¬ tb s j = true ∧ ∀ r, r < N.R → N.ft r = j → tb s (N.hd r) = true) → J 0)) ⟨fun i1 i2 => ⟨fun _ => ?_, fun z => absurd z (by omega)⟩, fun hno => ⟨fun z => absurd rfl z, fun _ => ⟨by unfold inR; omega, ?_⟩⟩⟩ ?_
            · rintro _ rfl
              obtain ⟨hs, hk, g1, g, g2, g3, g4, g5⟩ := hS
              have hk'P : k' < N.P := by
                rcases Nat.lt_or_ge k' N.P with y | y
                · exact y
                · exfalso
                  have e : k' = N.P := by omega
                  subst e
                  obtain ⟨i, z1, z2⟩ := pigeon (fun i hi => (g2 i hi).2) g3 j hjP
                  exact i1 ((g4 j).mpr ⟨i, z1, z2⟩)
              refine ⟨by omega, ?_⟩
              rintro _ rfl
              refine ⟨by unfold inR; omega, ?_⟩
              rintro _ rfl
              refine ⟨by unfold inR; omega, ?_⟩
              rintro _ rfl
              refine hrec' _ _ _ _ ⟨k' + 1, j + 1, by omega, by omega, by omega, by omega, ⟨bOr_in _ _, by omega, fun c hc => by rw [st_o hc]; exact g1 c hc, fun i => if i = k' then j else g i, fun i hi => ?_, fun i l hi hl e => ?_, fun q => ?_, fun i hi r hr' e => ?_⟩, Or.inl (by omega)⟩ (by omega)
              · rw [st_s, tn]
                dsimp only
                by_cases q : i = k'
                · rw [if_pos q, if_pos q]; exact ⟨rfl, hjP⟩
                · rw [if_neg q, if_neg q]; exact g2 i (by omega)
              · have hnot : ∀ i, i < k' → g i ≠ j := fun i hi e => i1 ((g4 j).mpr ⟨i, hi, e⟩)
                dsimp only at e
                by_cases q : i = k' <;> by_cases q' : l = k'
                · omega
                · rw [if_pos q, if_neg q'] at e; exact absurd e.symm (hnot l (by omega))
                · rw [if_neg q, if_pos q'] at e; exact absurd e (hnot i (by omega))
                · rw [if_neg q, if_neg q'] at e; exact g3 i l (by omega) (by omega) e
              · rw [tb_or, tb_one (by omega)]
                simp only [Bool.or_eq_true, decide_eq_true_eq]
                rw [g4 q]
                constructor
                · rintro (⟨i, z1, z2⟩ | z)
                  · exact ⟨i, by omega, by rw [if_neg (by omega)]; exact z2⟩
                  · exact ⟨k', by omega, by rw [if_pos rfl]; exact z.symm⟩
                · rintro ⟨i, z1, z2⟩
                  by_cases q' : i = k'
                  · rw [if_pos q'] at z2; exact Or.inr z2.symm
                  · rw [if_neg q'] at z2; exact Or.inl ⟨i, by omega, z2⟩
              · dsimp only at e ⊢
                by_cases q : i = k'
                · rw [if_pos q] at e
                  obtain ⟨l, z1, z2⟩ := (g4 _).mp (i2 r hr' e)
                  exact ⟨l, by omega, by rw [if_neg (by omega)]; exact z2⟩
                · rw [if_neg q] at e
                  obtain ⟨l, z1, z2⟩ := g5 i (by omega) r hr' e
                  exact ⟨l, z1, by rw [if_neg (by omega)]; exact z2⟩
            · rintro _ rfl
              refine hrec' _ _ _ _ ⟨k', j + 1, rfl, by omega, by omega, by omega, hS, ?_⟩ (by omega)
              rcases hpr with z | z
              · exact Or.inl z
              · refine Or.inr (fun q hq => ?_)
                rcases Nat.lt_or_ge q j with y | y
                · exact z q y
                · rw [show q = j by omega]; exact hno
            · rintro J ⟨hJ1, hJ0⟩
              refine wl2_inv (I := fun (is v : Int) => ∃ l : Nat, v = l ∧ l ≤ N.R ∧ ((is = 1 ∧ ¬ tb s j = true ∧ ∀ r, r < l → N.ft r = j → tb s (N.hd r) = true) ∨ (is = 0 ∧ ¬ (¬ tb s j = true ∧ ∀ r, r < N.R → N.ft r = j → tb s (N.hd r) = true)))) (μ := fun (_ v : Int) => N.R - v.toNat) ?_ 5000 _ _ ⟨0, rfl, by omega, ?_⟩ (by simp; omega)
              rotate_left
              · rcases hs0 with ⟨z1, z2⟩ | ⟨z1, z2⟩
                · exact Or.inl ⟨z1, z2, fun r hr' => by omega⟩
                · exact Or.inr ⟨z1, fun y => y.1 z2⟩
              rintro rec2 is v ⟨l, rfl, hl, i1⟩ hrec2
              unfold X12_laysOrder_b116
              refine r_reaches hN' ⟨fun c3 => ?_, fun c3 => ⟨fun c4 => ?_, fun c4 => ?_⟩⟩
              · rcases i1 with ⟨z1, z2, z3⟩ | ⟨z1, z2⟩
                · rw [z1]; exact hJ1 z2 (fun r hr' => z3 r (by omega))
                · rw [z1]; exact hJ0 z2
              · rcases i1 with ⟨z1, -⟩ | ⟨z1, z2⟩
                · omega
                · rw [c4]; exact hJ0 z2
              · have hlR : l < N.R := by omega
                obtain ⟨w1, w2, -⟩ := hr l hlR
                rcases i1 with ⟨z1, z2, z3⟩ | ⟨z1, z2⟩
                · have hgo : (N.ft l = j → tb s (N.hd l) = true) → inR ((l : Int) + 1) ∧ ∀ v : Int, v = (l : Int) + 1 → rec2 1 v := fun hh => by
                    refine ⟨by unfold inR; omega, ?_⟩
                    rintro _ rfl
                    refine hrec2 _ _ ⟨l + 1, by omega, by omega, Or.inl ⟨rfl, z2, fun r hr' e => ?_⟩⟩ (by omega)
                    rcases Nat.lt_or_ge r l with y | y
                    · exact z3 r y e
                    · rw [show r = l by omega] at e ⊢; exact hh e
                  refine r_ft hN' hW hlR ⟨fun c5 => hgo (fun e => by omega), fun c5 => r_hd hN' hW hlR ?_⟩
                  refine r_isOf (by omega) (fun t => ⟨fun z => absurd z (by omega), fun _ => hgo (fun _ => t)⟩) (fun t => ⟨fun _ => ⟨by unfold inR; omega, ?_⟩, fun z => absurd rfl z⟩)
                  rintro _ rfl
                  refine hrec2 _ _ ⟨l + 1, by omega, by omega, Or.inr ⟨rfl, fun y => ?_⟩⟩ (by omega)
                  have := y.2 l hlR (by omega)
                  rw [this] at t; cases t
                · exact absurd z1 c4
          refine r_isOf (by omega) (fun t => ?_) (fun t => ?_)
          · exact jn_use (P := fun J => J 0) (hrest 0 (Or.inr ⟨rfl, t⟩)) (fun J hJ => ⟨fun _ => hJ, fun z => absurd z (by omega)⟩)
          · exact jn_use (P := fun J => J 1) (hrest 1 (Or.inl ⟨rfl, by rw [t]; simp⟩)) (fun J hJ => ⟨fun z => absurd rfl z, fun _ => hJ⟩)
    · intro J hJ
      refine wl2_inv (I := fun (v : Int) (M' : Mem) => ∃ k : Nat, v = k ∧ k ≤ N.R ∧ (∀ c, c ≠ 102 → c ≠ 103 → M' c = M c) ∧ (∀ p, p < N.P → M' 102 p = cnt (fun r => decide (N.ft r = p)) k ∧ M' 103 p = cnt (fun r => decide (N.hd r = p)) k)) (μ := fun (v : Int) (_ : Mem) => N.R - v.toNat) ?_ 5000 _ _ ⟨0, rfl, by omega, f1, f2⟩ (by simp; omega)
      rintro rec v M' ⟨k, rfl, hk, g1, g2⟩ hrec
      unfold X12_laysOrder_b36
      have hN' : NetR M' 100 N := hN.of (g1 100 (by omega) (by omega))
      refine r_reaches hN' ⟨fun c => ?_, fun c => ?_⟩
      · have e : k = N.R := by omega
        subst e
        exact hJ M' g1 g2
      · have hkR : k < N.R := by omega
        obtain ⟨w1, w2, -⟩ := hr k hkR
        have c1 := (g2 (N.hd k) (by omega)).2
        have c2 := (g2 (N.ft k) (by omega)).1
        have l1 := cnt_le (fun r => decide (N.hd r = N.hd k)) k
        have l2 := cnt_le (fun r => decide (N.ft r = N.ft k)) k
        refine r_ft hN' hW hkR ⟨by omega, ?_⟩
        rw [tn, c2]
        refine ⟨by unfold inR; omega, ?_⟩
        rintro _ rfl
        have hN2 : NetR (st M' 102 (N.ft k) ((cnt (fun r => decide (N.ft r = N.ft k)) k : Int) + 1)) 100 N := hN'.of (st_o (by omega))
        refine r_hd hN2 hW hkR ⟨by omega, ?_⟩
        rw [tn, st_o (show 103 ≠ 102 by omega), c1]
        refine ⟨by unfold inR; omega, ?_⟩
        rintro _ rfl
        refine ⟨by unfold inR; omega, ?_⟩
        rintro _ rfl
        refine hrec _ _ ⟨k + 1, by omega, by omega, fun c q1 q2 => by rw [st_o q2, st_o q1]; exact g1 c q1 q2, fun p hp => ?_⟩ (by omega)
        obtain ⟨d1, d2⟩ := g2 p hp
        rw [st_o (show 102 ≠ 103 by omega), st_s, st_s, st_o (show 103 ≠ 102 by omega), cnt_s, cnt_s]
        refine ⟨?_, ?_⟩
        · by_cases q : p = N.ft k
          · subst q; simp
          · rw [if_neg q, d1, if_neg (by simp; omega)]; simp
        · by_cases q : p = N.hd k
          · subst q; simp
          · rw [if_neg q, d2, if_neg (by simp; omega)]; simp
  · intro J hJ
    refine wl2_inv (I := fun (v : Int) (M' : Mem) => ∃ k : Nat, v = k ∧ k ≤ N.P ∧ (∀ c, c ≠ 102 → c ≠ 103 → M' c = M c) ∧ (∀ p, p < k → M' 102 p = 0 ∧ M' 103 p = 0)) (μ := fun (v : Int) (_ : Mem) => N.P - v.toNat) ?_ 5000 _ _ ⟨0, rfl, by omega, fun c _ _ => rfl, fun p hp => by omega⟩ (by simp; omega)
    rintro rec v M' ⟨k, rfl, hk, g1, g2⟩ hrec
    unfold X12_laysOrder_b6
    have hN' : NetR M' 100 N := hN.of (g1 100 (by omega) (by omega))
    refine r_places hN' ⟨fun c => ?_, fun c => ⟨by omega, ?_⟩⟩
    · have e : k = N.P := by omega
      subst e
      exact hJ M' g1 g2
    · rintro _ rfl
      rintro _ rfl
      refine ⟨by unfold inR; omega, ?_⟩
      rintro _ rfl
      refine hrec _ _ ⟨k + 1, by omega, by omega, fun c q1 q2 => by rw [st_o q2, st_o q1]; exact g1 c q1 q2, fun p hp => ?_⟩ (by omega)
      rw [st_o (show 102 ≠ 103 by omega), st_s, st_s, st_o (show 103 ≠ 102 by omega), tn]
      by_cases q : p = k
      · rw [if_pos q, if_pos q]; exact ⟨rfl, rfl⟩
      · rw [if_neg q, if_neg q]; exact g2 p (by omega)
end
