/-! the reference's beyond -/
section
variable {M : Mem} {N : Nt}
theorem r_laysBeyond {g pos : Nat → Nat} (hN : NetR M 100 N) (hW : Wf N) (ht : Topo N g pos) (ho : ∀ i, i < N.P → M 101 i = g i) {Q : Mem → Prop} (h : ∀ M' : Mem, (∀ c, c ≠ 104 → c ≠ 105 → c ≠ 108 → c ≠ 109 → M' c = M c) → (∀ p, p < N.P → inR (M' 105 p) ∧ ∀ q, tb (M' 105 p) q = true ↔ Up (Ew N.R (-1)) N.hd N.ft q p) → (∀ p, p < N.P → inR (M' 104 p) ∧ ∀ q, tb (M' 104 p) q = true ↔ Up (Ew N.R (-1)) N.hd N.ft p q) → Hgt N.R N.hd N.ft N.ln N.P (M' 108) → Hgt N.R N.ft N.hd N.ln N.P (M' 109) → Q M') : f_X12_laysBeyond M Q := by
  obtain ⟨hP20, hR30, hr⟩ := id hW
  obtain ⟨t1, t2, t3⟩ := ht
  unfold f_X12_laysBeyond
  refine jn_use (P := fun J => ∀ M1 : Mem, (∀ c, c ≠ 104 → c ≠ 105 → c ≠ 108 → c ≠ 109 → M1 c = M c) → (∀ p, p < N.P → M1 104 p = 0 ∧ M1 105 p = 0 ∧ M1 108 p = 0 ∧ M1 109 p = 0) → J M1) ?_ ?_
  · intro M1 f1 f2
    refine jn_use (P := fun J => ∀ M2 : Mem, (∀ c, c ≠ 105 → c ≠ 108 → M2 c = M1 c) → (∀ p, p < N.P → inR (M2 105 p) ∧ ∀ q, tb (M2 105 p) q = true ↔ Up (Ew N.R (-1)) N.hd N.ft q p) → Hgt N.R N.hd N.ft N.ln N.P (M2 108) → J M2) ?_ ?_
    · intro M2 h1 h2 h3
      have hN2 : NetR M2 100 N := hN.of (by rw [h1 100 (by omega) (by omega), f1 100 (by omega) (by omega) (by omega) (by omega)])
      refine r_places hN2 ⟨by unfold inR; omega, ?_⟩
      rintro _ rfl
      let Pd : Nat → Nat → Nat → Prop := fun k j r => r < N.R ∧ (k ≤ pos (N.hd r) ∨ (pos (N.hd r) + 1 = k ∧ r < j))
      let S : Nat → Nat → Mem → Prop := fun k j M' => (∀ c, c ≠ 104 → c ≠ 109 → M' c = M2 c) ∧ (∀ p, p < N.P → inR (M' 104 p) ∧ ∀ q, tb (M' 104 p) q = true ↔ ∃ r, Pd k j r ∧ N.hd r = p ∧ (N.ft r = q ∨ Up (Ew N.R (-1)) N.hd N.ft (N.ft r) q)) ∧ (∀ p, p < N.P → 0 ≤ M' 109 p ∧ M' 109 p + 99 * (pos p : Int) + 99 ≤ 99 * N.P ∧ (∀ r, Pd k j r → N.hd r = p → M' 109 (N.ft r) + N.ln r ≤ M' 109 p) ∧ (M' 109 p = 0 ∨ ∃ r, Pd k j r ∧ N.hd r = p ∧ M' 109 p = M' 109 (N.ft r) + N.ln r))
      refine wl2_inv (I := fun (v : Int) (M' : Mem) => ∃ k : Nat, v = (k : Int) - 1 ∧ k ≤ N.P ∧ S k 0 M') (μ := fun (v : Int) (_ : Mem) => (v + 1).toNat) ?_ 5000 _ _ ⟨N.P, rfl, by omega, fun c _ _ => rfl, fun p hp => ?_, fun p hp => ?_⟩ (by omega)
      rotate_left
      · rw [h1 104 (by omega) (by omega), (f2 p hp).1]
        refine ⟨by unfold inR; omega, fun q => ?_⟩
        rw [tb_0]
        refine ⟨fun z => (by cases z), ?_⟩
        rintro ⟨r, ⟨z1, z2⟩, -⟩
        have := (t2 _ (hr r z1).1).1
        omega
      · rw [h1 109 (by omega) (by omega), (f2 p hp).2.2.2]
        have := (t2 p hp).1
        refine ⟨by omega, by omega, ?_, Or.inl rfl⟩
        rintro r ⟨z1, z2⟩
        have := (t2 _ (hr r z1).1).1
        omega
      rintro rec v M' ⟨k, rfl, hk, hS⟩ hrec
      unfold X12_laysBeyond_b181
      refine ⟨fun c => ?_, fun c => ?_⟩
      · have e : k = 0 := by omega
        subst e
        obtain ⟨g1, g2, g3⟩ := hS
        have hall : ∀ r, r < N.R → Pd 0 0 r := fun r hr' => ⟨hr', Or.inl (by omega)⟩
        refine h M' (fun c q1 q2 q3 q4 => by rw [g1 c q1 q4, h1 c q2 q3, f1 c q1 q2 q3 q4]) (by rw [g1 105 (by omega) (by omega)]; exact h2) (fun p hp => ⟨(g2 p hp).1, fun q => ?_⟩) (by rw [g1 108 (by omega) (by omega)]; exact h3) (fun p hp => ?_)
        · rw [(g2 p hp).2 q, Up_iff_front (a := p)]
          constructor
          · rintro ⟨r, z1, z2⟩; exact ⟨r, Ew_all z1.1, z2⟩
          · rintro ⟨r, z1, z2⟩; exact ⟨r, hall r z1.1, z2⟩
        · obtain ⟨y1, y2, y3, y4⟩ := g3 p hp
          refine ⟨y1, by omega, fun r hr' e => y3 r (hall r hr') e, ?_⟩
          rcases y4 with y4 | ⟨r, z1, z2⟩
          · exact Or.inl y4
          · exact Or.inr ⟨r, z1.1, z2⟩
      · obtain ⟨i, rfl⟩ : ∃ i, k = i + 1 := ⟨k - 1, by omega⟩
        rw [show ((i + 1 : Nat) : Int) - 1 = (i : Int) by omega]
        refine wl2_inv (I := fun (v : Int) (M' : Mem) => ∃ j : Nat, v = j ∧ j ≤ N.R ∧ S (i + 1) j M') (μ := fun (v : Int) (_ : Mem) => N.R - v.toNat) ?_ 5000 _ _ ⟨0, rfl, by omega, hS⟩ (by simp; omega)
        clear hS
        rintro rec' v M' ⟨j, rfl, hj, g1, g2, g3⟩ hrec'
        unfold X12_laysBeyond_b187
        have hN' : NetR M' 100 N := hN2.of (g1 100 (by omega) (by omega))
        have hor : M' 101 i = g i := by rw [g1 101 (by omega) (by omega), h1 101 (by omega) (by omega), f1 101 (by omega) (by omega) (by omega) (by omega)]; exact ho i (by omega)
        refine r_reaches hN' ⟨fun c2 => ⟨by unfold inR; omega, ?_⟩, fun c2 => ?_⟩
        · rintro _ rfl
          have e : j = N.R := by omega
          subst e
          have hpd : ∀ r, Pd (i + 1) N.R r ↔ Pd i 0 r := fun r => by
            constructor
            · rintro ⟨z1, z2⟩; exact ⟨z1, Or.inl (by omega)⟩
            · rintro ⟨z1, z2⟩; exact ⟨z1, by omega⟩
          refine hrec _ _ ⟨i, by omega, by omega, g1, fun p hp => ⟨(g2 p hp).1, fun q => ?_⟩, fun p hp => ?_⟩ (by omega)
          · rw [(g2 p hp).2 q]; simp only [hpd]
          · have := g3 p hp
            simp only [hpd] at this
            exact this
        · have hjR : j < N.R := by omega
          obtain ⟨w1, w2, w3, w4, -⟩ := hr j hjR
          have hpf := t3 j hjR
          refine r_ft hN' hW hjR (r_hd hN' hW hjR ⟨by omega, ?_⟩)
          rw [tn, hor]
          refine ⟨fun c3 => ⟨by unfold inR; omega, ?_⟩, fun c3 => ⟨by omega, by omega, ?_⟩⟩
          · rintro _ rfl
            have hne : pos (N.hd j) ≠ i := fun e => c3 (by rw [← e, (t2 _ w1).2])
            have hpd : ∀ r, Pd (i + 1) j r ↔ Pd (i + 1) (j + 1) r := fun r => by
              constructor
              · rintro ⟨z1, z2⟩; exact ⟨z1, by omega⟩
              · rintro ⟨z1, z2⟩
                refine ⟨z1, ?_⟩
                rcases z2 with z2 | z2
                · exact Or.inl z2
                · refine Or.inr ⟨z2.1, ?_⟩
                  rcases Nat.lt_or_ge r j with y | y
                  · exact y
                  · have : r = j := by omega
                    subst this
                    omega
            refine hrec' _ _ ⟨j + 1, by omega, by omega, g1, fun p hp => ⟨(g2 p hp).1, fun q => ?_⟩, fun p hp => ?_⟩ (by omega)
            · rw [(g2 p hp).2 q]; simp only [hpd]
            · have := g3 p hp
              simp only [hpd] at this
              exact this
          · have hpi : pos (N.hd j) = i := by rw [show N.hd j = g i by omega]; exact (t1 i (by omega)).2
            rintro _ rfl
            have hN3 : ∀ x : Int, NetR (st M' 104 (N.hd j) x) 100 N := fun x => hN'.of (st_o (by omega))
            have hpd : ∀ r, Pd (i + 1) (j + 1) r ↔ Pd (i + 1) j r ∨ r = j := fun r => by
              constructor
              · rintro ⟨z1, z2⟩
                rcases Nat.lt_or_ge r j with y | y
                · exact Or.inl ⟨z1, by omega⟩
                · by_cases e : r = j
                  · exact Or.inr e
                  · exact Or.inl ⟨z1, by omega⟩
              · rintro (⟨z1, z2⟩ | z)
                · exact ⟨z1, by omega⟩
                · subst z; exact ⟨hjR, Or.inr ⟨by omega, by omega⟩⟩
            have hfull : ∀ q, (∃ r, Pd (i + 1) j r ∧ N.hd r = N.ft j ∧ (N.ft r = q ∨ Up (Ew N.R (-1)) N.hd N.ft (N.ft r) q)) ↔ Up (Ew N.R (-1)) N.hd N.ft (N.ft j) q := fun q => by
              rw [Up_iff_front (a := N.ft j)]
              constructor
              · rintro ⟨r, z1, z2⟩; exact ⟨r, Ew_all z1.1, z2⟩
              · rintro ⟨r, z1, z2, z3⟩; exact ⟨r, ⟨z1.1, Or.inl (by rw [z2]; omega)⟩, z2, z3⟩
            obtain ⟨y1, y2, y3, y4⟩ := g3 (N.ft j) w2
            obtain ⟨u1, u2, u3, u4⟩ := g3 (N.hd j) w1
            have hnq : ∀ r, Pd (i + 1) (j + 1) r → ¬ N.ft r = N.hd j := fun r hr' e => by
              have z := t3 r hr'.1
              have z2 := hr'.2
              rw [e] at z
              omega
            have hpft := (t2 _ w2).1
            have hst : ∀ x : Int, x = max (M' 109 (N.hd j)) (M' 109 (N.ft j) + N.ln j) → ∀ M_28 : Mem, M_28 = st (st M' 104 (N.hd j) (bOr (M' 104 (N.hd j)) (bOr (M' 104 (N.ft j)) (bShl 1 (N.ft j : Int))))) 109 (N.hd j) x → inR ((j : Int) + 1) ∧ ∀ v2_29 : Int, v2_29 = (j : Int) + 1 → rec' v2_29 M_28 := by
              rintro _ rfl
              rintro _ rfl
              refine ⟨by unfold inR; omega, ?_⟩
              rintro _ rfl
              refine hrec' _ _ ⟨j + 1, by omega, by omega, fun c q1 q2 => by rw [st_o q2, st_o q1]; exact g1 c q1 q2, fun p hp => ?_, fun p hp => ?_⟩ (by omega)
              · rw [st_o (show 104 ≠ 109 by omega), st_s]
                simp only [hpd]
                by_cases e : p = N.hd j
                · rw [if_pos e]
                  refine ⟨bOr_in _ _, fun q => ?_⟩
                  rw [tb_or, tb_or, tb_one (by omega)]
                  simp only [Bool.or_eq_true, decide_eq_true_eq]
                  rw [(g2 _ w1).2, (g2 _ w2).2, hfull q]
                  constructor
                  · rintro (⟨r, z1, z2, z3⟩ | z | z)
                    · exact ⟨r, Or.inl z1, by omega, z3⟩
                    · exact ⟨j, Or.inr rfl, e.symm, Or.inr z⟩
                    · exact ⟨j, Or.inr rfl, e.symm, Or.inl z.symm⟩
                  · rintro ⟨r, z1, z2, z3⟩
                    rcases z1 with z1 | z1
                    · exact Or.inl ⟨r, z1, by omega, z3⟩
                    · subst z1
                      rcases z3 with z3 | z3
                      · exact Or.inr (Or.inr z3.symm)
                      · exact Or.inr (Or.inl z3)
                · rw [if_neg e]
                  refine ⟨(g2 p hp).1, fun q => ?_⟩
                  rw [(g2 p hp).2]
                  constructor
                  · rintro ⟨r, z1, z2⟩; exact ⟨r, Or.inl z1, z2⟩
                  · rintro ⟨r, z1, z2, z3⟩
                    rcases z1 with z1 | z1
                    · exact ⟨r, z1, z2, z3⟩
                    · subst z1; exact absurd z2.symm e
              · rw [st_s]
                obtain ⟨v1, v2, v3, v4⟩ := g3 p hp
                have hev : ∀ r, Pd (i + 1) (j + 1) r → st (st M' 104 (N.hd j) (bOr (M' 104 (N.hd j)) (bOr (M' 104 (N.ft j)) (bShl 1 (N.ft j : Int))))) 109 (N.hd j) (max (M' 109 (N.hd j)) (M' 109 (N.ft j) + N.ln j)) 109 (N.ft r) = M' 109 (N.ft r) := fun r hr' => by rw [st_s, if_neg (hnq r hr'), st_o (show 109 ≠ 104 by omega)]
                by_cases e : p = N.hd j
                · rw [if_pos e]
                  refine ⟨by omega, by rw [e, hpi]; omega, fun r hr' e2 => ?_, ?_⟩
                  · rw [hev r hr']
                    rcases (hpd r).mp hr' with z | z
                    · have := u3 r z (by omega)
                      omega
                    · rw [z]; omega
                  · rcases Int.le_total (M' 109 (N.ft j) + N.ln j) (M' 109 (N.hd j)) with z | z
                    · rw [Int.max_eq_left z] at hev ⊢
                      rcases u4 with u4 | ⟨r, z1, z2, z3⟩
                      · exact Or.inl u4
                      · have hp1 := (hpd r).mpr (Or.inl z1)
                        exact Or.inr ⟨r, hp1, by omega, by rw [hev r hp1]; exact z3⟩
                    · rw [Int.max_eq_right z] at hev ⊢
                      have hp1 := (hpd j).mpr (Or.inr rfl)
                      exact Or.inr ⟨j, hp1, e.symm, by rw [hev j hp1]⟩
                · rw [if_neg e, st_o (show 109 ≠ 104 by omega)]
                  refine ⟨v1, v2, fun r hr' e2 => ?_, ?_⟩
                  · rw [hev r hr']
                    rcases (hpd r).mp hr' with z | z
                    · exact v3 r z e2
                    · rw [z] at e2; exact absurd e2.symm e
                  · rcases v4 with v4 | ⟨r, z1, z2, z3⟩
                    · exact Or.inl v4
                    · have hp1 := (hpd r).mpr (Or.inl z1)
                      exact Or.inr ⟨r, hp1, z2, by rw [hev r hp1]; exact z3⟩
            rw [tn, tn]
            refine r_ln (hN3 _) hW hjR ?_
            rw [st_o (show 109 ≠ 104 by omega)]
            refine ⟨by unfold inR; omega, fun c4 => hst _ (by rw [Int.max_eq_left c4]), fun c4 => r_ln (hN3 _) hW hjR ⟨by unfold inR; omega, hst _ (by rw [Int.max_eq_right (by omega)])⟩⟩
    · intro J hJ
      let Pd : Nat → Nat → Nat → Prop := fun k j r => r < N.R ∧ (pos (N.ft r) < k ∨ (pos (N.ft r) = k ∧ r < j))
      let S : Nat → Nat → Mem → Prop := fun k j M' => (∀ c, c ≠ 105 → c ≠ 108 → M' c = M1 c) ∧ (∀ p, p < N.P → inR (M' 105 p) ∧ ∀ q, tb (M' 105 p) q = true ↔ ∃ r, Pd k j r ∧ N.ft r = p ∧ (q = N.hd r ∨ Up (Ew N.R (-1)) N.hd N.ft q (N.hd r))) ∧ (∀ p, p < N.P → 0 ≤ M' 108 p ∧ M' 108 p ≤ 99 * (pos p : Int) ∧ (∀ r, Pd k j r → N.ft r = p → M' 108 (N.hd r) + N.ln r ≤ M' 108 p) ∧ (M' 108 p = 0 ∨ ∃ r, Pd k j r ∧ N.ft r = p ∧ M' 108 p = M' 108 (N.hd r) + N.ln r))
      refine wl2_inv (I := fun (v : Int) (M' : Mem) => ∃ k : Nat, v = (k : Int) ∧ k ≤ N.P ∧ S k 0 M') (μ := fun (v : Int) (_ : Mem) => N.P - v.toNat) ?_ 5000 _ _ ⟨0, rfl, by omega, fun c _ _ => rfl, fun p hp => ?_, fun p hp => ?_⟩ (by simp; omega)
      rotate_left
      · rw [(f2 p hp).2.1]
        refine ⟨by unfold inR; omega, fun q => ?_⟩
        rw [tb_0]
        refine ⟨fun z => (by cases z), ?_⟩
        rintro ⟨r, ⟨z1, z2⟩, -⟩
        omega
      · rw [(f2 p hp).2.2.1]
        refine ⟨by omega, by omega, ?_, Or.inl rfl⟩
        rintro r ⟨z1, z2⟩
        omega
      rintro rec v M' ⟨k, rfl, hk, hS⟩ hrec
      unfold X12_laysBeyond_b46
      have hN0 : NetR M' 100 N := hN.of (by rw [hS.1 100 (by omega) (by omega), f1 100 (by omega) (by omega) (by omega) (by omega)])
      refine r_places hN0 ⟨fun c => ?_, fun c => ?_⟩
      · have e : k = N.P := by omega
        subst e
        obtain ⟨g1, g2, g3⟩ := hS
        have hall : ∀ r, r < N.R → Pd N.P 0 r := fun r hr' => ⟨hr', Or.inl (t2 _ (hr r hr').2.1).1⟩
        refine hJ M' g1 (fun p hp => ⟨(g2 p hp).1, fun q => ?_⟩) (fun p hp => ?_)
        · rw [(g2 p hp).2 q, Up_iff (b := p)]
          constructor
          · rintro ⟨r, z1, z2⟩; exact ⟨r, Ew_all z1.1, z2⟩
          · rintro ⟨r, z1, z2⟩; exact ⟨r, hall r z1.1, z2⟩
        · obtain ⟨y1, y2, y3, y4⟩ := g3 p hp
          have := (t2 p hp).1
          refine ⟨y1, by omega, fun r hr' e => y3 r (hall r hr') e, ?_⟩
          rcases y4 with y4 | ⟨r, z1, z2⟩
          · exact Or.inl y4
          · exact Or.inr ⟨r, z1.1, z2⟩
      · refine wl2_inv (I := fun (v : Int) (M' : Mem) => ∃ j : Nat, v = j ∧ j ≤ N.R ∧ S k j M') (μ := fun (v : Int) (_ : Mem) => N.R - v.toNat) ?_ 5000 _ _ ⟨0, rfl, by omega, hS⟩ (by simp; omega)
        clear hS hN0
        rintro rec' v M' ⟨j, rfl, hj, g1, g2, g3⟩ hrec'
        unfold X12_laysBeyond_b56
        have hN' : NetR M' 100 N := hN.of (by rw [g1 100 (by omega) (by omega), f1 100 (by omega) (by omega) (by omega) (by omega)])
        have hor : M' 101 k = g k := by rw [g1 101 (by omega) (by omega), f1 101 (by omega) (by omega) (by omega) (by omega)]; exact ho k (by omega)
        refine r_reaches hN' ⟨fun c2 => ⟨by unfold inR; omega, ?_⟩, fun c2 => ?_⟩
        · rintro _ rfl
          have e : j = N.R := by omega
          subst e
          have hpd : ∀ r, Pd k N.R r ↔ Pd (k + 1) 0 r := fun r => by
            constructor
            · rintro ⟨z1, z2⟩; exact ⟨z1, Or.inl (by omega)⟩
            · rintro ⟨z1, z2⟩; exact ⟨z1, by omega⟩
          refine hrec _ _ ⟨k + 1, by omega, by omega, g1, fun p hp => ⟨(g2 p hp).1, fun q => ?_⟩, fun p hp => ?_⟩ (by omega)
          · rw [(g2 p hp).2 q]; simp only [hpd]
          · have := g3 p hp
            simp only [hpd] at this
            exact this
        · have hjR : j < N.R := by omega
          obtain ⟨w1, w2, w3, w4, -⟩ := hr j hjR
          have hpf := t3 j hjR
          refine r_ft hN' hW hjR (r_hd hN' hW hjR ⟨by omega, ?_⟩)
          rw [tn, hor]
          refine ⟨fun c3 => ⟨by unfold inR; omega, ?_⟩, fun c3 => ⟨by omega, by omega, ?_⟩⟩
          · rintro _ rfl
            have hne : pos (N.ft j) ≠ k := fun e => c3 (by rw [← e, (t2 _ w2).2])
            have hpd : ∀ r, Pd k j r ↔ Pd k (j + 1) r := fun r => by
              constructor
              · rintro ⟨z1, z2⟩; exact ⟨z1, by omega⟩
              · rintro ⟨z1, z2⟩
                refine ⟨z1, ?_⟩
                rcases z2 with z2 | z2
                · exact Or.inl z2
                · refine Or.inr ⟨z2.1, ?_⟩
                  rcases Nat.lt_or_ge r j with y | y
                  · exact y
                  · have : r = j := by omega
                    subst this
                    omega
            refine hrec' _ _ ⟨j + 1, by omega, by omega, g1, fun p hp => ⟨(g2 p hp).1, fun q => ?_⟩, fun p hp => ?_⟩ (by omega)
            · rw [(g2 p hp).2 q]; simp only [hpd]
            · have := g3 p hp
              simp only [hpd] at this
              exact this
          · have hpi : pos (N.ft j) = k := by rw [show N.ft j = g k by omega]; exact (t1 k (by omega)).2
            rintro _ rfl
            have hN3 : ∀ x : Int, NetR (st M' 105 (N.ft j) x) 100 N := fun x => hN'.of (st_o (by omega))
            have hpd : ∀ r, Pd k (j + 1) r ↔ Pd k j r ∨ r = j := fun r => by
              constructor
              · rintro ⟨z1, z2⟩
                rcases Nat.lt_or_ge r j with y | y
                · exact Or.inl ⟨z1, by omega⟩
                · by_cases e : r = j
                  · exact Or.inr e
                  · exact Or.inl ⟨z1, by omega⟩
              · rintro (⟨z1, z2⟩ | z)
                · exact ⟨z1, by omega⟩
                · subst z; exact ⟨hjR, Or.inr ⟨by omega, by omega⟩⟩
            have hfull : ∀ q, (∃ r, Pd k j r ∧ N.ft r = N.hd j ∧ (q = N.hd r ∨ Up (Ew N.R (-1)) N.hd N.ft q (N.hd r))) ↔ Up (Ew N.R (-1)) N.hd N.ft q (N.hd j) := fun q => by
              rw [Up_iff (b := N.hd j)]
              constructor
              · rintro ⟨r, z1, z2⟩; exact ⟨r, Ew_all z1.1, z2⟩
              · rintro ⟨r, z1, z2, z3⟩; exact ⟨r, ⟨z1.1, Or.inl (by rw [z2]; omega)⟩, z2, z3⟩
            obtain ⟨y1, y2, y3, y4⟩ := g3 (N.hd j) w1
            obtain ⟨u1, u2, u3, u4⟩ := g3 (N.ft j) w2
            have hnq : ∀ r, Pd k (j + 1) r → ¬ N.hd r = N.ft j := fun r hr' e => by
              have z := t3 r hr'.1
              have z2 := hr'.2
              rw [e] at z
              omega
            have hst : ∀ x : Int, x = max (M' 108 (N.ft j)) (M' 108 (N.hd j) + N.ln j) → ∀ M_28 : Mem, M_28 = st (st M' 105 (N.ft j) (bOr (M' 105 (N.ft j)) (bOr (M' 105 (N.hd j)) (bShl 1 (N.hd j : Int))))) 108 (N.ft j) x → inR ((j : Int) + 1) ∧ ∀ v2_29 : Int, v2_29 = (j : Int) + 1 → rec' v2_29 M_28 := by
              rintro _ rfl
              rintro _ rfl
              refine ⟨by unfold inR; omega, ?_⟩
              rintro _ rfl
              refine hrec' _ _ ⟨j + 1, by omega, by omega, fun c q1 q2 => by rw [st_o q2, st_o q1]; exact g1 c q1 q2, fun p hp => ?_, fun p hp => ?_⟩ (by omega)
              · rw [st_o (show 105 ≠ 108 by omega), st_s]
                simp only [hpd]
                by_cases e : p = N.ft j
                · rw [if_pos e]
                  refine ⟨bOr_in _ _, fun q => ?_⟩
                  rw [tb_or, tb_or, tb_one (by omega)]
                  simp only [Bool.or_eq_true, decide_eq_true_eq]
                  rw [(g2 _ w2).2, (g2 _ w1).2, hfull q]
                  constructor
                  · rintro (⟨r, z1, z2, z3⟩ | z | z)
                    · exact ⟨r, Or.inl z1, by omega, z3⟩
                    · exact ⟨j, Or.inr rfl, e.symm, Or.inr z⟩
                    · exact ⟨j, Or.inr rfl, e.symm, Or.inl z⟩
                  · rintro ⟨r, z1, z2, z3⟩
                    rcases z1 with z1 | z1
                    · exact Or.inl ⟨r, z1, by omega, z3⟩
                    · subst z1
                      rcases z3 with z3 | z3
                      · exact Or.inr (Or.inr z3)
                      · exact Or.inr (Or.inl z3)
                · rw [if_neg e]
                  refine ⟨(g2 p hp).1, fun q => ?_⟩
                  rw [(g2 p hp).2]
                  constructor
                  · rintro ⟨r, z1, z2⟩; exact ⟨r, Or.inl z1, z2⟩
                  · rintro ⟨r, z1, z2, z3⟩
                    rcases z1 with z1 | z1
                    · exact ⟨r, z1, z2, z3⟩
                    · subst z1; exact absurd z2.symm e
              · rw [st_s]
                obtain ⟨v1, v2, v3, v4⟩ := g3 p hp
                have hev : ∀ r, Pd k (j + 1) r → st (st M' 105 (N.ft j) (bOr (M' 105 (N.ft j)) (bOr (M' 105 (N.hd j)) (bShl 1 (N.hd j : Int))))) 108 (N.ft j) (max (M' 108 (N.ft j)) (M' 108 (N.hd j) + N.ln j)) 108 (N.hd r) = M' 108 (N.hd r) := fun r hr' => by rw [st_s, if_neg (hnq r hr'), st_o (show 108 ≠ 105 by omega)]
                by_cases e : p = N.ft j
                · rw [if_pos e]
                  refine ⟨by omega, by rw [e, hpi]; omega, fun r hr' e2 => ?_, ?_⟩
                  · rw [hev r hr']
                    rcases (hpd r).mp hr' with z | z
                    · have := u3 r z (by omega)
                      omega
                    · rw [z]; omega
                  · rcases Int.le_total (M' 108 (N.hd j) + N.ln j) (M' 108 (N.ft j)) with z | z
                    · rw [Int.max_eq_left z] at hev ⊢
                      rcases u4 with u4 | ⟨r, z1, z2, z3⟩
                      · exact Or.inl u4
                      · have hp1 := (hpd r).mpr (Or.inl z1)
                        exact Or.inr ⟨r, hp1, by omega, by rw [hev r hp1]; exact z3⟩
                    · rw [Int.max_eq_right z] at hev ⊢
                      have hp1 := (hpd j).mpr (Or.inr rfl)
                      exact Or.inr ⟨j, hp1, e.symm, by rw [hev j hp1]⟩
                · rw [if_neg e, st_o (show 108 ≠ 105 by omega)]
                  refine ⟨v1, v2, fun r hr' e2 => ?_, ?_⟩
                  · rw [hev r hr']
                    rcases (hpd r).mp hr' with z | z
                    · exact v3 r z e2
                    · rw [z] at e2; exact absurd e2.symm e
                  · rcases v4 with v4 | ⟨r, z1, z2, z3⟩
                    · exact Or.inl v4
                    · have hp1 := (hpd r).mpr (Or.inl z1)
                      exact Or.inr ⟨r, hp1, z2, by rw [hev r hp1]; exact z3⟩
            rw [tn, tn]
            refine r_ln (hN3 _) hW hjR ?_
            rw [st_o (show 108 ≠ 105 by omega)]
            refine ⟨by unfold inR; omega, fun c4 => hst _ (by rw [Int.max_eq_left c4]), fun c4 => r_ln (hN3 _) hW hjR ⟨by unfold inR; omega, hst _ (by rw [Int.max_eq_right (by omega)])⟩⟩
  · intro J hJ
    refine wl2_inv (I := fun (v : Int) (M' : Mem) => ∃ k : Nat, v = k ∧ k ≤ N.P ∧ (∀ c, c ≠ 104 → c ≠ 105 → c ≠ 108 → c ≠ 109 → M' c = M c) ∧ (∀ p, p < k → M' 104 p = 0 ∧ M' 105 p = 0 ∧ M' 108 p = 0 ∧ M' 109 p = 0)) (μ := fun (v : Int) (_ : Mem) => N.P - v.toNat) ?_ 5000 _ _ ⟨0, rfl, by omega, fun c _ _ _ _ => rfl, fun p hp => by omega⟩ (by simp; omega)
    rintro rec v M' ⟨k, rfl, hk, g1, g2⟩ hrec
    unfold X12_laysBeyond_b2
    have hN' : NetR M' 100 N := hN.of (g1 100 (by omega) (by omega) (by omega) (by omega))
    refine r_places hN' ⟨fun c => ?_, fun c => ⟨by omega, ?_⟩⟩
    · have e : k = N.P := by omega
      subst e
      exact hJ M' g1 g2
    · rintro _ rfl
      rintro _ rfl
      rintro _ rfl
      rintro _ rfl
      refine ⟨by unfold inR; omega, ?_⟩
      rintro _ rfl
      refine hrec _ _ ⟨k + 1, by omega, by omega, fun c q1 q2 q3 q4 => by rw [st_o q4, st_o q3, st_o q2, st_o q1]; exact g1 c q1 q2 q3 q4, fun p hp => ?_⟩ (by omega)
      rw [tn]
      simp only [st_v]
      by_cases q : p = k
      · simp [q]
      · simp [q]; exact g2 p (by omega)
end
