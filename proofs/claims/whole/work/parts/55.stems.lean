/-! stems: branches, crowns, all of a way -/
section
variable {M : Mem} {N : Nt} {n a g : Nat}
theorem x_leastBranchFrom {p : Nat} (hN : NetX M a N) (hW : Wf N) (hb : ∀ q, q < N.R → N.hd q = p → 1 ≤ M (n + 5) q) {Q : Int → Prop} (h : ∀ l : Int, Lst N (M (n + 5)) p l → Q l) : f_X9_leastBranchFrom n a p M Q := by
  obtain ⟨hP20, hR30, hr⟩ := id hW
  unfold f_X9_leastBranchFrom
  refine wl2_inv (I := fun (l v : Int) => ∃ k : Nat, v = k ∧ k ≤ N.R ∧ ((l = 0 ∧ ∀ q, q < k → N.hd q ≠ p) ∨ (1 ≤ l ∧ (∃ q, q < k ∧ N.hd q = p ∧ M (n + 5) q = l) ∧ ∀ q, q < k → N.hd q = p → l ≤ M (n + 5) q))) (μ := fun (_ v : Int) => N.R - v.toNat) ?_ 5000 _ _ ⟨0, rfl, by omega, Or.inl ⟨rfl, fun q hq => by omega⟩⟩ (by simp; omega)
  rintro rec l v ⟨k, rfl, hk, i1⟩ hrec
  unfold X9_leastBranchFrom_b5
  rw [hN.2.1]
  refine ⟨fun c => ?_, fun c => ⟨by omega, ?_⟩⟩
  · have e : k = N.R := by omega
    subst e
    refine h l ?_
    rcases i1 with i1 | ⟨-, i1⟩
    · exact Or.inl i1
    · exact Or.inr i1
  · have hkR : k < N.R := by omega
    rw [tn, (hN.2.2 k hkR).1]
    have hst : ∀ l' : Int, ((l' = 0 ∧ ∀ q, q < k + 1 → N.hd q ≠ p) ∨ (1 ≤ l' ∧ (∃ q, q < k + 1 ∧ N.hd q = p ∧ M (n + 5) q = l') ∧ ∀ q, q < k + 1 → N.hd q = p → l' ≤ M (n + 5) q)) → inR ((k : Int) + 1) ∧ ∀ v4_4 : Int, v4_4 = (k : Int) + 1 → rec l' v4_4 := fun l' hh => by
      refine ⟨by unfold inR; omega, ?_⟩
      rintro _ rfl
      exact hrec _ _ ⟨k + 1, by omega, by omega, hh⟩ (by omega)
    refine ⟨fun c1 => hst l ?_, fun c1 => ⟨fun c2 => ?_, fun c2 => ⟨fun c3 => hst l ?_, fun c3 => ?_⟩⟩⟩
    · rcases i1 with ⟨i1, i2⟩ | ⟨i0, ⟨q, i1, i2⟩, i3⟩
      · refine Or.inl ⟨i1, fun q hq => ?_⟩
        rcases Nat.lt_or_ge q k with z | z
        · exact i2 q z
        · rw [show q = k by omega]; omega
      · refine Or.inr ⟨i0, ⟨q, by omega, i2⟩, fun q hq e => ?_⟩
        rcases Nat.lt_or_ge q k with z | z
        · exact i3 q z e
        · rw [show q = k by omega] at e; omega
    · rintro _ rfl
      have := hb k hkR (by omega)
      refine hst _ (Or.inr ⟨this, ⟨k, by omega, by omega, rfl⟩, fun q hq e => ?_⟩)
      rcases i1 with ⟨i1, i2⟩ | ⟨i0, i1⟩
      · rcases Nat.lt_or_ge q k with z | z
        · exact absurd e (i2 q z)
        · rw [show q = k by omega]; omega
      · omega
    · rcases i1 with ⟨i1, i2⟩ | ⟨i0, ⟨q, i1, i2⟩, i3⟩
      · exact absurd i1 c2
      · refine Or.inr ⟨i0, ⟨q, by omega, i2⟩, fun q hq e => ?_⟩
        rcases Nat.lt_or_ge q k with z | z
        · exact i3 q z e
        · rw [show q = k by omega]; exact c3
    · rintro _ rfl
      have := hb k hkR (by omega)
      refine hst _ (Or.inr ⟨this, ⟨k, by omega, by omega, rfl⟩, fun q hq e => ?_⟩)
      rcases i1 with ⟨i1, i2⟩ | ⟨i0, i1, i3⟩
      · exact absurd i1 c2
      · rcases Nat.lt_or_ge q k with z | z
        · have := i3 q z e; omega
        · rw [show q = k by omega]; omega
theorem x_findBranches {b : Nat → Nat} (hN : NetX M a N) (hW : Wf N) (ha : a + 5 < n) (hg : g + 15 < n) (hB : ByH N b) (hb : ∀ k, k < N.R → M (g + 2) k = b k) (hn : Nxt N (M (n + 3)) (M (n + 4))) {Q : Mem → Prop} (h : ∀ M' : Mem, (∀ c, c ≠ n + 5 → M' c = M c) → Brn N (M (n + 3)) (M' (n + 5)) → Q M') : f_X9_findBranches n a g M Q := by
  obtain ⟨hP20, hR30, hr⟩ := id hW
  obtain ⟨b1, b2, b3, b4, b5⟩ := hB
  unfold f_X9_findBranches
  rw [hN.2.1]
  refine ⟨by unfold inR; omega, ?_⟩
  rintro _ rfl
  refine wl2_inv (I := fun (v : Int) (M' : Mem) => ∃ j : Nat, v = (j : Int) - 1 ∧ j ≤ N.R ∧ (∀ c, c ≠ n + 5 → M' c = M c) ∧ (∀ k, j ≤ k → k < N.R → 1 ≤ M' (n + 5) (b k) ∧ M' (n + 5) (b k) + j ≤ N.R ∧ (M (n + 3) (b k) ≠ -1 → M' (n + 5) (b k) = M' (n + 5) (M (n + 3) (b k)).toNat) ∧ (M (n + 3) (b k) = -1 → ∃ l, Lst N (M' (n + 5)) (N.ft (b k)) l ∧ M' (n + 5) (b k) = 1 + l))) (μ := fun (v : Int) (_ : Mem) => (v + 1).toNat) ?_ 5000 _ _ ⟨N.R, rfl, by omega, fun c _ => rfl, fun k h1 h2 => by omega⟩ (by omega)
  rintro rec v M' ⟨j, rfl, hj, g1, g2⟩ hrec
  unfold X9_findBranches_b7
  have hN' : NetX M' a N := hN.of (fun c _ _ => g1 c (by omega))
  refine ⟨fun c => ?_, fun c => ⟨by omega, ?_⟩⟩
  · have e : j = 0 := by omega
    subst e
    refine h M' g1 (fun r hr' => ?_)
    obtain ⟨k, z1, z2⟩ := b3 r hr'
    subst z2
    obtain ⟨y1, y2, y3, y4⟩ := g2 k (by omega) z1
    exact ⟨y1, by omega, y3, y4⟩
  · obtain ⟨i, rfl⟩ : ∃ i, j = i + 1 := ⟨j - 1, by omega⟩
    rw [show ((i + 1 : Nat) : Int) - 1 = (i : Int) by omega, tn, g1 (g + 2) (by omega), hb i (by omega)]
    rintro _ rfl
    have hbi := b1 i (by omega)
    have hafter : ∀ q, q < N.R → N.hd q = N.ft (b i) → ∃ k, i < k ∧ k < N.R ∧ b k = q := fun q hq e => by
      obtain ⟨k, z1, z2⟩ := b3 q hq
      exact ⟨k, b4 i k (by omega) z1 (by rw [z2]; exact e.symm), z1, z2⟩
    have hfin : ∀ x : Int, 1 ≤ x → x + i ≤ N.R → (M (n + 3) (b i) ≠ -1 → x = M' (n + 5) (M (n + 3) (b i)).toNat) → (M (n + 3) (b i) = -1 → ∃ l, Lst N (M' (n + 5)) (N.ft (b i)) l ∧ x = 1 + l) → ∀ M_11 : Mem, M_11 = st M' (n + 5) (b i) x → inR ((i : Int) + (-1)) ∧ ∀ v3_12 : Int, v3_12 = (i : Int) + (-1) → rec v3_12 M_11 := by
      intro x h1 h2 h3 h4
      rintro _ rfl
      refine ⟨by unfold inR; omega, ?_⟩
      rintro _ rfl
      have hsk : ∀ k, i ≤ k → k < N.R → ∀ q, q < N.R → N.hd q = N.ft (b k) → M' (n + 5) q = st M' (n + 5) (b i) x (n + 5) q := fun k hk hk2 q hq e => by
        rw [st_s, if_neg]
        rintro rfl
        have := b4 k i hk2 (by omega) e.symm
        omega
      refine hrec _ _ ⟨i, by omega, by omega, fun c hc => by rw [st_o hc]; exact g1 c hc, fun k hk hk2 => ?_⟩ (by omega)
      have hbk := b1 k hk2
      have hnx : M (n + 3) (b k) ≠ -1 → M' (n + 5) (M (n + 3) (b k)).toNat = st M' (n + 5) (b i) x (n + 5) (M (n + 3) (b k)).toNat := fun hne => by
        rcases hn.1 (b k) hbk with z | ⟨c, z1, z2, z3, -⟩
        · exact absurd z hne
        · rw [z1, tn]; exact hsk k hk hk2 c z2 z3
      rcases Nat.lt_or_ge i k with z | z
      · obtain ⟨y1, y2, y3, y4⟩ := g2 k z hk2
        have e2 : st M' (n + 5) (b i) x (n + 5) (b k) = M' (n + 5) (b k) := by
          rw [st_s, if_neg (fun e => by have := b2 k i hk2 (by omega) e; omega)]
        rw [e2]
        refine ⟨y1, by omega, fun hne => ?_, fun he => ?_⟩
        · rw [← hnx hne]; exact y3 hne
        · obtain ⟨l, l1, l2⟩ := y4 he
          exact ⟨l, l1.congr (hsk k hk hk2), l2⟩
      · have : k = i := by omega
        subst this
        have e2 : st M' (n + 5) (b k) x (n + 5) (b k) = x := by rw [st_s, if_pos rfl]
        rw [e2]
        refine ⟨h1, h2, fun hne => ?_, fun he => ?_⟩
        · rw [← hnx hne]; exact h3 hne
        · obtain ⟨l, l1, l2⟩ := h4 he
          exact ⟨l, l1.congr (hsk k hk hk2), l2⟩
    refine ⟨by omega, ?_⟩
    rw [tn, g1 (n + 3) (by omega), (hN'.2.2 _ hbi).2.1]
    refine ⟨fun c1 => ?_, fun c1 => ?_⟩
    · refine x_leastBranchFrom hN' hW (fun q hq e => ?_) (fun l hl => ?_)
      · obtain ⟨k, z1, z2, z3⟩ := hafter q hq e
        subst z3
        exact (g2 k z1 z2).1
      · have hl2 : 0 ≤ l ∧ l + i + 1 ≤ N.R := by
          rcases hl with ⟨z, -⟩ | ⟨⟨q, z1, z2, z3⟩, -⟩
          · omega
          · obtain ⟨k, y1, y2, y3⟩ := hafter q z1 z2
            subst y3
            have := g2 k y1 y2
            omega
        refine ⟨by unfold inR; omega, ?_⟩
        exact hfin _ (by omega) (by omega) (fun z => absurd c1 z) (fun _ => ⟨l, hl, rfl⟩)
    · rcases hn.1 (b i) hbi with z | ⟨c, z1, z2, z3, -⟩
      · exact absurd z c1
      · obtain ⟨k, y1, y2, y3⟩ := hafter c z2 z3
        have y4 := g2 k y1 y2
        rw [y3] at y4
        refine ⟨by omega, ?_⟩
        rw [z1, tn]
        exact hfin _ y4.1 (by omega) (fun _ => by rw [z1, tn]) (fun z => absurd z c1)
theorem x_findCrowns {b : Nat → Nat} (hN : NetX M a N) (hW : Wf N) (ha : a + 5 < n) (hg : g + 15 < n) (hB : ByH N b) (hb : ∀ k, k < N.R → M (g + 2) k = b k) (hn : Nxt N (M (n + 3)) (M (n + 4))) {Q : Mem → Prop} (h : ∀ (M' : Mem) (c1 : Nat → Int), (∀ c, c ≠ n + 6 → M' c = M c) → Crw N (M (n + 3)) (M (n + 4)) (M (g + 10)) c1 (M' (n + 6)) → Q M') : f_X9_findCrowns n a g M Q := by
  obtain ⟨hP20, hR30, hr⟩ := id hW
  obtain ⟨b1, b2, b3, b4, b5⟩ := hB
  unfold f_X9_findCrowns
  refine jn_use (P := fun J => ∀ M1 : Mem, (∀ c, c ≠ n + 6 → M1 c = M c) → (∀ r, r < N.R → (M (n + 4) r = -1 → M1 (n + 6) r = max (M (g + 10) r) 0) ∧ (M (n + 4) r ≠ -1 → M1 (n + 6) r = max (M (g + 10) r) (M1 (n + 6) (M (n + 4) r).toNat))) → J M1) ?_ ?_
  · intro M1 f1 f2
    have hN1 : NetX M1 a N := hN.of (fun c _ _ => f1 c (by omega))
    rw [hN1.2.1]
    refine ⟨by unfold inR; omega, ?_⟩
    rintro _ rfl
    refine wl2_inv (I := fun (v : Int) (M' : Mem) => ∃ j : Nat, v = (j : Int) - 1 ∧ j ≤ N.R ∧ (∀ c, c ≠ n + 6 → M' c = M c) ∧ (∀ k, k < j → M' (n + 6) (b k) = M1 (n + 6) (b k)) ∧ (∀ k, j ≤ k → k < N.R → (M (n + 3) (b k) = -1 → M' (n + 6) (b k) = M1 (n + 6) (b k)) ∧ (M (n + 3) (b k) ≠ -1 → M' (n + 6) (b k) = M' (n + 6) (M (n + 3) (b k)).toNat))) (μ := fun (v : Int) (_ : Mem) => (v + 1).toNat) ?_ 5000 _ _ ⟨N.R, rfl, by omega, f1, fun k _ => rfl, fun k h1 h2 => by omega⟩ (by omega)
    rintro rec v M' ⟨j, rfl, hj, g1, g2, g3⟩ hrec
    unfold X9_findCrowns_b79
    refine ⟨fun c => ?_, fun c => ⟨by omega, ?_⟩⟩
    · have e : j = 0 := by omega
      subst e
      refine h M' (M1 (n + 6)) g1 (fun r hr' => ?_)
      obtain ⟨k, z1, z2⟩ := b3 r hr'
      have y := g3 k (by omega) z1
      rw [z2] at y
      exact ⟨(f2 r hr').1, (f2 r hr').2, y.1, y.2⟩
    · obtain ⟨i, rfl⟩ : ∃ i, j = i + 1 := ⟨j - 1, by omega⟩
      rw [show ((i + 1 : Nat) : Int) - 1 = (i : Int) by omega, tn, g1 (g + 2) (by omega), hb i (by omega)]
      rintro _ rfl
      have hbi := b1 i (by omega)
      rw [tn, g1 (n + 3) (by omega)]
      refine ⟨by omega, fun c1 => ⟨by unfold inR; omega, ?_⟩, fun c1 => ?_⟩
      · rintro _ rfl
        refine hrec _ _ ⟨i, by omega, by omega, g1, fun k hk => g2 k (by omega), fun k hk hk2 => ?_⟩ (by omega)
        rcases Nat.lt_or_ge i k with z | z
        · exact g3 k z hk2
        · have : k = i := by omega
          subst this
          exact ⟨fun _ => g2 k (by omega), fun z => absurd c1 z⟩
      · rcases hn.1 (b i) hbi with z | ⟨c, z1, z2, z3, -⟩
        · exact absurd z c1
        · refine ⟨by omega, ?_⟩
          rw [z1, tn]
          rintro _ rfl
          refine ⟨by unfold inR; omega, ?_⟩
          rintro _ rfl
          have hne : ∀ k, k < N.R → k ≠ i → st M' (n + 6) (b i) (M' (n + 6) c) (n + 6) (b k) = M' (n + 6) (b k) := fun k hk hki => by
            rw [st_s, if_neg (fun e => hki (b2 k i hk (by omega) e))]
          have hcn : ∀ k, i ≤ k → k < N.R → ∀ q, q < N.R → N.hd q = N.ft (b k) → st M' (n + 6) (b i) (M' (n + 6) c) (n + 6) q = M' (n + 6) q := fun k hk hk2 q hq e => by
            rw [st_s, if_neg]
            rintro rfl
            have := b4 k i hk2 (by omega) e.symm
            omega
          refine hrec _ _ ⟨i, by omega, by omega, fun c hc => by rw [st_o hc]; exact g1 c hc, fun k hk => by rw [hne k (by omega) (by omega)]; exact g2 k (by omega), fun k hk hk2 => ?_⟩ (by omega)
          rcases Nat.lt_or_ge i k with z | z
          · rw [hne k hk2 (by omega)]
            refine ⟨(g3 k z hk2).1, fun y => ?_⟩
            rcases hn.1 (b k) (b1 k hk2) with u | ⟨d, u1, u2, u3, -⟩
            · exact absurd u y
            · have := (g3 k z hk2).2 y
              rw [u1, tn] at this ⊢
              rw [hcn k hk hk2 d u2 u3]
              exact this
          · have : k = i := by omega
            subst this
            refine ⟨fun z => absurd z c1, fun _ => ?_⟩
            rw [z1, tn, hcn k (by omega) hk2 _ z2 z3, st_s, if_pos rfl]
  · intro J hJ
    refine wl2_inv (I := fun (v : Int) (M' : Mem) => ∃ i : Nat, v = i ∧ i ≤ N.R ∧ (∀ c, c ≠ n + 6 → M' c = M c) ∧ (∀ k, k < i → (M (n + 4) (b k) = -1 → M' (n + 6) (b k) = max (M (g + 10) (b k)) 0) ∧ (M (n + 4) (b k) ≠ -1 → M' (n + 6) (b k) = max (M (g + 10) (b k)) (M' (n + 6) (M (n + 4) (b k)).toNat)))) (μ := fun (v : Int) (_ : Mem) => N.R - v.toNat) ?_ 5000 _ _ ⟨0, rfl, by omega, fun c _ => rfl, fun k h1 => by omega⟩ (by simp; omega)
    rintro rec v M' ⟨i, rfl, hi, g1, g2⟩ hrec
    unfold X9_findCrowns_b2
    have hN' : NetX M' a N := hN.of (fun c _ _ => g1 c (by omega))
    rw [hN'.2.1]
    refine ⟨fun c => ?_, fun c => ⟨by omega, ?_⟩⟩
    · have e : i = N.R := by omega
      subst e
      refine hJ M' g1 (fun r hr' => ?_)
      obtain ⟨k, z1, z2⟩ := b3 r hr'
      subst z2
      exact g2 k z1
    · have hiR : i < N.R := by omega
      have hbi := b1 i hiR
      rw [tn, g1 (g + 2) (by omega), hb i hiR]
      rintro _ rfl
      refine ⟨by omega, ?_⟩
      rw [tn, g1 (n + 4) (by omega), g1 (g + 10) (by omega)]
      have hcn : ∀ (x : Int) k, k ≤ i → ∀ q, q < N.R → N.ft q = N.hd (b k) → st M' (n + 6) (b i) x (n + 6) q = M' (n + 6) q := fun x k hk q hq e => by
        rw [st_s, if_neg]
        rintro rfl
        have := b4 i k hiR (by omega) e
        omega
      have hfin : ∀ x : Int, (M (n + 4) (b i) = -1 → x = max (M (g + 10) (b i)) 0) → (M (n + 4) (b i) ≠ -1 → x = max (M (g + 10) (b i)) (M' (n + 6) (M (n + 4) (b i)).toNat)) → ∀ M_23 : Mem, M_23 = st M' (n + 6) (b i) x → inR ((i : Int) + 1) ∧ ∀ v3_24 : Int, v3_24 = (i : Int) + 1 → rec v3_24 M_23 := by
        intro x h1 h2
        rintro _ rfl
        refine ⟨by unfold inR; omega, ?_⟩
        rintro _ rfl
        refine hrec _ _ ⟨i + 1, by omega, by omega, fun c hc => by rw [st_o hc]; exact g1 c hc, fun k hk => ?_⟩ (by omega)
        have hbf : M (n + 4) (b k) ≠ -1 → st M' (n + 6) (b i) x (n + 6) (M (n + 4) (b k)).toNat = M' (n + 6) (M (n + 4) (b k)).toNat := fun y => by
          rcases hn.2 (b k) (b1 k (by omega)) with u | ⟨d, u1, u2, u3, -⟩
          · exact absurd u y
          · rw [u1, tn]; exact hcn x k (by omega) d u2 u3
        rcases Nat.lt_or_ge k i with z | z
        · have e2 : st M' (n + 6) (b i) x (n + 6) (b k) = M' (n + 6) (b k) := by rw [st_s, if_neg (fun e => by have := b2 k i (by omega) hiR e; omega)]
          rw [e2]
          exact ⟨(g2 k z).1, fun y => by rw [hbf y]; exact (g2 k z).2 y⟩
        · have : k = i := by omega
          subst this
          have e2 : st M' (n + 6) (b k) x (n + 6) (b k) = x := by rw [st_s, if_pos rfl]
          rw [e2]
          exact ⟨h1, fun y => by rw [hbf y]; exact h2 y⟩
      refine jn_use (P := fun J => (M (n + 4) (b i) = -1 → J 0) ∧ (M (n + 4) (b i) ≠ -1 → J (M' (n + 6) (M (n + 4) (b i)).toNat))) ?_ ?_
      · exact ⟨fun z => hfin _ (fun _ => rfl) (fun y => absurd z y), fun z => hfin _ (fun y => absurd y z) (fun _ => rfl)⟩
      · rintro J ⟨j1, j2⟩
        refine ⟨fun c1 => ⟨?_, j2 c1⟩, j1⟩
        rcases hn.2 (b i) hbi with u | ⟨d, u1, u2, u3, -⟩
        · exact absurd u c1
        · omega
end
