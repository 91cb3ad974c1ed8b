/-! lookUp and lookDown -/
section
variable {M : Mem} {N : Nt} {n a : Nat}
theorem x_lookUp {b : Nat → Nat} (hN : NetX M a N) (hW : Wf N) (ha : a + 5 < n) (hB : ByH N b) (hb : ∀ k, k < N.R → M (n + 2) k = b k) {Q : Mem → Prop} (h : ∀ M' : Mem, (∀ c, c ≠ n + 5 → c ≠ n + 7 → M' c = M c) → (∀ p, p < 20 → inR (M' (n + 5) p) ∧ ∀ q, tb (M' (n + 5) p) q = true ↔ Up (Ew N.R (-1)) N.hd N.ft q p) → Hgt N.R N.hd N.ft N.ln N.P (M' (n + 7)) → Q M') : f_X1_lookUp n a M Q := by
  obtain ⟨hP20, hR30, hr⟩ := id hW
  obtain ⟨b1, b2, b3, b4, b5⟩ := hB
  unfold f_X1_lookUp
  rintro _ rfl
  rintro _ rfl
  refine wl2_inv (I := fun (v : Int) (M' : Mem) => ∃ i : Nat, v = i ∧ i ≤ N.R ∧ (∀ c, c ≠ n + 5 → c ≠ n + 7 → M' c = M c) ∧ (∀ p, p < 20 → inR (M' (n + 5) p) ∧ ∀ q, tb (M' (n + 5) p) q = true ↔ ∃ k, k < i ∧ N.ft (b k) = p ∧ (q = N.hd (b k) ∨ Up (Ew N.R (-1)) N.hd N.ft q (N.hd (b k)))) ∧ (∀ p, p < 20 → 0 ≤ M' (n + 7) p ∧ M' (n + 7) p ≤ 99 * i ∧ (∀ k, k < i → N.ft (b k) = p → M' (n + 7) (N.hd (b k)) + N.ln (b k) ≤ M' (n + 7) p) ∧ (M' (n + 7) p = 0 ∨ ∃ k, k < i ∧ N.ft (b k) = p ∧ M' (n + 7) p = M' (n + 7) (N.hd (b k)) + N.ln (b k)))) (μ := fun (v : Int) (_ : Mem) => N.R - v.toNat) ?_ 5000 _ _ ⟨0, rfl, by omega, fun c h1 h2 => by rw [fil_n h2, fil_n h1], fun p hp => ?_, fun p hp => ?_⟩ (by simp; omega)
  rotate_left
  · rw [fil_n (by omega), fil_e, if_pos hp]
    exact ⟨by unfold inR; omega, fun q => by rw [tb_0]; simp⟩
  · rw [fil_e, if_pos hp]
    exact ⟨by omega, by omega, fun k hk => by omega, Or.inl rfl⟩
  rintro rec v M' ⟨i, rfl, hi, g1, g2, g3⟩ hrec
  unfold X1_lookUp_b18
  have hN' : NetX M' a N := hN.of (fun c _ _ => g1 c (by omega) (by omega))
  have hfull : ∀ p q, i = N.R ∨ (i < N.R ∧ p = N.hd (b i)) → ((∃ k, k < i ∧ N.ft (b k) = p ∧ (q = N.hd (b k) ∨ Up (Ew N.R (-1)) N.hd N.ft q (N.hd (b k)))) ↔ Up (Ew N.R (-1)) N.hd N.ft q p) := by
    intro p q hh
    rw [Up_iff (b := p)]
    constructor
    · rintro ⟨k, z1, z2⟩
      exact ⟨b k, ⟨b1 k (by omega), by omega⟩, z2⟩
    · rintro ⟨r, z1, z2, z3⟩
      obtain ⟨k, y1, y2⟩ := b3 r z1.1
      subst y2
      refine ⟨k, ?_, z2, z3⟩
      rcases hh with hh | hh
      · omega
      · exact b4 k i y1 hh.1 (by rw [z2, hh.2])
  rw [hN'.2.1]
  refine ⟨fun c => ?_, fun c => ⟨by omega, ?_⟩⟩
  · have e : i = N.R := by omega
    subst e
    refine h M' g1 (fun p hp => ⟨(g2 p hp).1, fun q => ?_⟩) (fun p hp => ?_)
    · rw [(g2 p hp).2 q, hfull p q (Or.inl rfl)]
    · obtain ⟨y1, y2, y3, y4⟩ := g3 p (by omega)
      refine ⟨y1, by omega, fun r hr' e => ?_, ?_⟩
      · obtain ⟨k, z1, z2⟩ := b3 r hr'
        subst z2
        exact y3 k z1 e
      · rcases y4 with y4 | ⟨k, z1, z2, z3⟩
        · exact Or.inl y4
        · exact Or.inr ⟨b k, b1 k z1, z2, z3⟩
  · have hiR : i < N.R := by omega
    rintro _ rfl
    rw [tn, g1 (n + 2) (by omega) (by omega), hb i hiR]
    have hbi := b1 i hiR
    obtain ⟨x1, x2, x3, -, -⟩ := hN'.2.2 (b i) hbi
    obtain ⟨w1, w2, w3, w4, -⟩ := hr (b i) hbi
    refine ⟨by omega, ?_⟩
    rw [tn, x1, x2]
    rintro _ rfl
    rintro _ rfl
    refine ⟨by omega, by omega, ?_⟩
    rintro _ rfl
    obtain ⟨y1, y2, y3, y4⟩ := g3 (N.hd (b i)) (by omega)
    obtain ⟨u1, u2, u3, u4⟩ := g3 (N.ft (b i)) (by omega)
    rw [st_o (show n + 7 ≠ n + 5 by omega), st_o (show a + 3 ≠ n + 5 by omega), tn, tn, x3]
    refine ⟨by unfold inR; omega, ?_⟩
    rintro _ rfl
    refine ⟨by unfold inR; omega, ?_⟩
    rintro _ rfl
    have hne : ∀ k, k ≤ i → ¬ N.hd (b k) = N.ft (b i) := fun k hk e => by have := b4 i k hiR (by omega) e.symm; omega
    refine hrec _ _ ⟨i + 1, by omega, by omega, fun c h1 h2 => by rw [st_o h2, st_o h1]; exact g1 c h1 h2, fun p hp => ?_, fun p hp => ?_⟩ (by omega)
    · rw [st_o (show n + 5 ≠ n + 7 by omega), st_s]
      by_cases e : p = N.ft (b i)
      · rw [if_pos e]
        refine ⟨bOr_in _ _, fun q => ?_⟩
        rw [tb_or, tb_or, tb_one (by omega)]
        simp only [Bool.or_eq_true, decide_eq_true_eq]
        rw [(g2 _ (by omega)).2, (g2 (N.hd (b i)) (by omega)).2, hfull (N.hd (b i)) q (Or.inr ⟨hiR, rfl⟩)]
        constructor
        · rintro (⟨k, z1, z2, z3⟩ | z | z)
          · exact ⟨k, by omega, by omega, z3⟩
          · exact ⟨i, by omega, e.symm, Or.inr z⟩
          · exact ⟨i, by omega, e.symm, Or.inl z⟩
        · rintro ⟨k, z1, z2, z3⟩
          rcases Nat.lt_or_ge k i with z | z
          · exact Or.inl ⟨k, z, by omega, z3⟩
          · rw [show k = i by omega] at z3
            rcases z3 with z3 | z3
            · exact Or.inr (Or.inr z3)
            · exact Or.inr (Or.inl z3)
      · rw [if_neg e]
        refine ⟨(g2 p hp).1, fun q => ?_⟩
        rw [(g2 p hp).2]
        constructor
        · rintro ⟨k, z1, z2⟩; exact ⟨k, by omega, z2⟩
        · rintro ⟨k, z1, z2, z3⟩
          refine ⟨k, ?_, z2, z3⟩
          rcases Nat.lt_or_ge k i with z | z
          · exact z
          · rw [show k = i by omega] at z2; exact absurd z2.symm e
    · rw [st_s]
      obtain ⟨v1, v2, v3, v4⟩ := g3 p hp
      by_cases e : p = N.ft (b i)
      · rw [if_pos e]
        refine ⟨by omega, by omega, fun k hk e2 => ?_, ?_⟩
        · rw [st_s, if_neg (hne k (by omega)), st_o (show n + 7 ≠ n + 5 by omega)]
          rcases Nat.lt_or_ge k i with z | z
          · have := u3 k z (by omega)
            omega
          · rw [show k = i by omega]; omega
        · rcases Int.le_total (M' (n + 7) (N.hd (b i)) + N.ln (b i)) (M' (n + 7) (N.ft (b i))) with z | z
          · rw [Int.max_eq_left z]
            rcases u4 with u4 | ⟨k, z1, z2, z3⟩
            · exact Or.inl u4
            · refine Or.inr ⟨k, by omega, by omega, ?_⟩
              rw [st_s, if_neg (hne k (by omega)), st_o (show n + 7 ≠ n + 5 by omega)]
              exact z3
          · rw [Int.max_eq_right z]
            refine Or.inr ⟨i, by omega, e.symm, ?_⟩
            rw [st_s, if_neg (hne i (by omega)), st_o (show n + 7 ≠ n + 5 by omega)]
      · rw [if_neg e, st_o (show n + 7 ≠ n + 5 by omega)]
        refine ⟨v1, by omega, fun k hk e2 => ?_, ?_⟩
        · rw [st_s, if_neg (hne k (by omega)), st_o (show n + 7 ≠ n + 5 by omega)]
          rcases Nat.lt_or_ge k i with z | z
          · exact v3 k z e2
          · rw [show k = i by omega] at e2; exact absurd e2.symm e
        · rcases v4 with v4 | ⟨k, z1, z2, z3⟩
          · exact Or.inl v4
          · refine Or.inr ⟨k, by omega, z2, ?_⟩
            rw [st_s, if_neg (hne k (by omega)), st_o (show n + 7 ≠ n + 5 by omega)]
            exact z3
theorem x_lookDown {b : Nat → Nat} (hN : NetX M a N) (hW : Wf N) (ha : a + 5 < n) (hB : ByH N b) (hb : ∀ k, k < N.R → M (n + 2) k = b k) {Q : Mem → Prop} (h : ∀ M' : Mem, (∀ c, c ≠ n + 6 → c ≠ n + 8 → M' c = M c) → (∀ p, p < 20 → inR (M' (n + 6) p) ∧ ∀ q, tb (M' (n + 6) p) q = true ↔ Up (Ew N.R (-1)) N.hd N.ft p q) → Hgt N.R N.ft N.hd N.ln N.P (M' (n + 8)) → Q M') : f_X1_lookDown n a M Q := by
  obtain ⟨hP20, hR30, hr⟩ := id hW
  obtain ⟨b1, b2, b3, b4, b5⟩ := hB
  unfold f_X1_lookDown
  rintro _ rfl
  rintro _ rfl
  rw [fil_n (show a ≠ n + 8 by omega), fil_n (show a ≠ n + 6 by omega), hN.2.1]
  refine ⟨by unfold inR; omega, ?_⟩
  rintro _ rfl
  refine wl2_inv (I := fun (v : Int) (M' : Mem) => ∃ i : Nat, v = (i : Int) - 1 ∧ i ≤ N.R ∧ (∀ c, c ≠ n + 6 → c ≠ n + 8 → M' c = M c) ∧ (∀ p, p < 20 → inR (M' (n + 6) p) ∧ ∀ q, tb (M' (n + 6) p) q = true ↔ ∃ k, (i ≤ k ∧ k < N.R) ∧ N.hd (b k) = p ∧ (N.ft (b k) = q ∨ Up (Ew N.R (-1)) N.hd N.ft (N.ft (b k)) q)) ∧ (∀ p, p < 20 → 0 ≤ M' (n + 8) p ∧ M' (n + 8) p + 99 * i ≤ 99 * N.R ∧ (∀ k, (i ≤ k ∧ k < N.R) → N.hd (b k) = p → M' (n + 8) (N.ft (b k)) + N.ln (b k) ≤ M' (n + 8) p) ∧ (M' (n + 8) p = 0 ∨ ∃ k, (i ≤ k ∧ k < N.R) ∧ N.hd (b k) = p ∧ M' (n + 8) p = M' (n + 8) (N.ft (b k)) + N.ln (b k)))) (μ := fun (v : Int) (_ : Mem) => (v + 1).toNat) ?_ 5000 _ _ ⟨N.R, rfl, by omega, fun c h1 h2 => by rw [fil_n h2, fil_n h1], fun p hp => ?_, fun p hp => ?_⟩ (by omega)
  rotate_left
  · rw [fil_n (by omega), fil_e, if_pos hp]
    exact ⟨by unfold inR; omega, fun q => by rw [tb_0]; exact ⟨fun z => (by cases z), fun ⟨k, z, _⟩ => by omega⟩⟩
  · rw [fil_e, if_pos hp]
    exact ⟨by omega, by omega, fun k hk => by omega, Or.inl rfl⟩
  rintro rec v M' ⟨i, rfl, hi, g1, g2, g3⟩ hrec
  unfold X1_lookDown_b23
  have hN' : NetX M' a N := hN.of (fun c _ _ => g1 c (by omega) (by omega))
  have hfull : ∀ p q, i = 0 ∨ (0 < i ∧ p = N.ft (b (i - 1))) → ((∃ k, (i ≤ k ∧ k < N.R) ∧ N.hd (b k) = p ∧ (N.ft (b k) = q ∨ Up (Ew N.R (-1)) N.hd N.ft (N.ft (b k)) q)) ↔ Up (Ew N.R (-1)) N.hd N.ft p q) := by
    intro p q hh
    rw [Up_iff_front (a := p)]
    constructor
    · rintro ⟨k, z1, z2⟩
      exact ⟨b k, ⟨b1 k (by omega), by omega⟩, z2⟩
    · rintro ⟨r, z1, z2, z3⟩
      obtain ⟨k, y1, y2⟩ := b3 r z1.1
      subst y2
      refine ⟨k, ⟨?_, y1⟩, z2, z3⟩
      rcases hh with hh | hh
      · omega
      · have := b4 (i - 1) k (by omega) y1 (by rw [z2, hh.2])
        omega
  refine ⟨fun c => ?_, fun c => ⟨by omega, ?_⟩⟩
  · have e : i = 0 := by omega
    subst e
    refine h M' g1 (fun p hp => ⟨(g2 p hp).1, fun q => ?_⟩) (fun p hp => ?_)
    · rw [(g2 p hp).2 q, hfull p q (Or.inl rfl)]
    · obtain ⟨y1, y2, y3, y4⟩ := g3 p (by omega)
      refine ⟨y1, by omega, fun r hr' e => ?_, ?_⟩
      · obtain ⟨k, z1, z2⟩ := b3 r hr'
        subst z2
        exact y3 k ⟨by omega, z1⟩ e
      · rcases y4 with y4 | ⟨k, z1, z2, z3⟩
        · exact Or.inl y4
        · exact Or.inr ⟨b k, b1 k z1.2, z2, z3⟩
  · obtain ⟨j, rfl⟩ : ∃ j, i = j + 1 := ⟨i - 1, by omega⟩
    rw [show ((j + 1 : Nat) : Int) - 1 = (j : Int) by omega]
    rw [show j + 1 - 1 = j by omega] at hfull
    rintro _ rfl
    rw [tn, g1 (n + 2) (by omega) (by omega), hb j (by omega)]
    have hbi := b1 j (by omega)
    obtain ⟨x1, x2, x3, -, -⟩ := hN'.2.2 (b j) hbi
    obtain ⟨w1, w2, w3, w4, -⟩ := hr (b j) hbi
    refine ⟨by omega, ?_⟩
    rw [tn, x1, x2]
    rintro _ rfl
    rintro _ rfl
    refine ⟨by omega, by omega, ?_⟩
    rintro _ rfl
    obtain ⟨y1, y2, y3, y4⟩ := g3 (N.ft (b j)) (by omega)
    obtain ⟨u1, u2, u3, u4⟩ := g3 (N.hd (b j)) (by omega)
    rw [st_o (show n + 8 ≠ n + 6 by omega), st_o (show a + 3 ≠ n + 6 by omega), tn, tn, x3]
    refine ⟨by unfold inR; omega, ?_⟩
    rintro _ rfl
    refine ⟨by unfold inR; omega, ?_⟩
    rintro _ rfl
    have hne : ∀ k, j ≤ k → k < N.R → ¬ N.ft (b k) = N.hd (b j) := fun k hk hk2 e => by have := b4 k j hk2 (by omega) e; omega
    refine hrec _ _ ⟨j, by omega, by omega, fun c h1 h2 => by rw [st_o h2, st_o h1]; exact g1 c h1 h2, fun p hp => ?_, fun p hp => ?_⟩ (by omega)
    · rw [st_o (show n + 6 ≠ n + 8 by omega), st_s]
      by_cases e : p = N.hd (b j)
      · rw [if_pos e]
        refine ⟨bOr_in _ _, fun q => ?_⟩
        rw [tb_or, tb_or, tb_one (by omega)]
        simp only [Bool.or_eq_true, decide_eq_true_eq]
        rw [(g2 _ (by omega)).2, (g2 (N.ft (b j)) (by omega)).2, hfull (N.ft (b j)) q (Or.inr ⟨by omega, rfl⟩)]
        constructor
        · rintro (⟨k, z1, z2, z3⟩ | z | z)
          · exact ⟨k, by omega, by omega, z3⟩
          · exact ⟨j, by omega, e.symm, Or.inr z⟩
          · exact ⟨j, by omega, e.symm, Or.inl z.symm⟩
        · rintro ⟨k, z1, z2, z3⟩
          rcases Nat.lt_or_ge j k with z | z
          · exact Or.inl ⟨k, by omega, by omega, z3⟩
          · rw [show k = j by omega] at z3
            rcases z3 with z3 | z3
            · exact Or.inr (Or.inr z3.symm)
            · exact Or.inr (Or.inl z3)
      · rw [if_neg e]
        refine ⟨(g2 p hp).1, fun q => ?_⟩
        rw [(g2 p hp).2]
        constructor
        · rintro ⟨k, z1, z2⟩; exact ⟨k, by omega, z2⟩
        · rintro ⟨k, z1, z2, z3⟩
          refine ⟨k, ?_, z2, z3⟩
          rcases Nat.lt_or_ge j k with z | z
          · omega
          · rw [show k = j by omega] at z2; exact absurd z2.symm e
    · rw [st_s]
      obtain ⟨v1, v2, v3, v4⟩ := g3 p hp
      by_cases e : p = N.hd (b j)
      · rw [if_pos e]
        refine ⟨by omega, by omega, fun k hk e2 => ?_, ?_⟩
        · rw [st_s, if_neg (hne k (by omega) (by omega)), st_o (show n + 8 ≠ n + 6 by omega)]
          rcases Nat.lt_or_ge j k with z | z
          · have := u3 k (by omega) (by omega)
            omega
          · rw [show k = j by omega]; omega
        · rcases Int.le_total (M' (n + 8) (N.ft (b j)) + N.ln (b j)) (M' (n + 8) (N.hd (b j))) with z | z
          · rw [Int.max_eq_left z]
            rcases u4 with u4 | ⟨k, z1, z2, z3⟩
            · exact Or.inl u4
            · refine Or.inr ⟨k, by omega, by omega, ?_⟩
              rw [st_s, if_neg (hne k (by omega) (by omega)), st_o (show n + 8 ≠ n + 6 by omega)]
              exact z3
          · rw [Int.max_eq_right z]
            refine Or.inr ⟨j, by omega, e.symm, ?_⟩
            rw [st_s, if_neg (hne j (by omega) (by omega)), st_o (show n + 8 ≠ n + 6 by omega)]
      · rw [if_neg e, st_o (show n + 8 ≠ n + 6 by omega)]
        refine ⟨v1, by omega, fun k hk e2 => ?_, ?_⟩
        · rw [st_s, if_neg (hne k (by omega) (by omega)), st_o (show n + 8 ≠ n + 6 by omega)]
          rcases Nat.lt_or_ge j k with z | z
          · exact v3 k (by omega) e2
          · rw [show k = j by omega] at e2; exact absurd e2.symm e
        · rcases v4 with v4 | ⟨k, z1, z2, z3⟩
          · exact Or.inl v4
          · refine Or.inr ⟨k, by omega, z2, ?_⟩
            rw [st_s, if_neg (hne k (by omega) (by omega)), st_o (show n + 8 ≠ n + 6 by omega)]
            exact z3
end
