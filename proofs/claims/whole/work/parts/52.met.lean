/-! springs and ranks by meeting -/
def TwoA (N : Nt) (s m : Nat → Int) (p : Nat) (g : Int) : Prop := ∃ q q', q < q' ∧ q' < N.R ∧ N.ft q = p ∧ N.ft q' = p ∧ m q = g ∧ m q' = g ∧ bAnd (s q) (s q') = 0
def MetV (N : Nt) (s m : Nat → Int) (p : Nat) (v : Int) : Prop := ((∀ q, q < N.R → N.ft q ≠ p) ∧ v = 1) ∨ ∃ g : Int, 1 ≤ g ∧ (∃ q, q < N.R ∧ N.ft q = p ∧ m q = g) ∧ (∀ q, q < N.R → N.ft q = p → m q ≤ g) ∧ ((TwoA N s m p g ∧ v = g + 1) ∨ (¬ TwoA N s m p g ∧ v = g))
def Mtt (N : Nt) (s m : Nat → Int) : Prop := ∀ r, r < N.R → 1 ≤ m r ∧ m r ≤ 30 ∧ MetV N s m (N.hd r) (m r)
theorem TwoA.congr {N : Nt} {s s' m m' : Nat → Int} {p : Nat} {g : Int} (hm : ∀ q, q < N.R → N.ft q = p → m' q = m q) (hs : ∀ q, q < N.R → s' q = s q) (h : TwoA N s m p g) : TwoA N s' m' p g := by
  obtain ⟨q, q', h1, h2, h3, h4, h5, h6, h7⟩ := h
  exact ⟨q, q', h1, h2, h3, h4, by rw [hm q (by omega) h3]; exact h5, by rw [hm q' h2 h4]; exact h6, by rw [hs q (by omega), hs q' h2]; exact h7⟩
theorem MetV.congr {N : Nt} {s s' m m' : Nat → Int} {p : Nat} {v : Int} (hm : ∀ q, q < N.R → N.ft q = p → m' q = m q) (hs : ∀ q, q < N.R → s' q = s q) (h : MetV N s m p v) : MetV N s' m' p v := by
  rcases h with h | ⟨g, h0, ⟨q, h1, h2, h3⟩, h4, h5⟩
  · exact Or.inl h
  · refine Or.inr ⟨g, h0, ⟨q, h1, h2, by rw [hm q h1 h2]; exact h3⟩, fun q z1 z2 => by rw [hm q z1 z2]; exact h4 q z1 z2, ?_⟩
    rcases h5 with ⟨h5, h6⟩ | ⟨h5, h6⟩
    · exact Or.inl ⟨h5.congr hm hs, h6⟩
    · exact Or.inr ⟨fun z => h5 (z.congr (fun q z1 z2 => (hm q z1 z2).symm) (fun q z1 => (hs q z1).symm)), h6⟩
theorem MetV.uniq {N : Nt} {s m : Nat → Int} {p : Nat} {v v' : Int} (h : MetV N s m p v) (h' : MetV N s m p v') : v = v' := by
  rcases h with ⟨h1, h2⟩ | ⟨g, h0, ⟨q, h1, h2, h3⟩, h4, h5⟩
  · rcases h' with ⟨k1, k2⟩ | ⟨g', k0, ⟨q', k1, k2, k3⟩, k4, k5⟩
    · omega
    · exact absurd k2 (h1 q' k1)
  · rcases h' with ⟨k1, k2⟩ | ⟨g', k0, ⟨q', k1, k2, k3⟩, k4, k5⟩
    · exact absurd h2 (k1 q h1)
    · have e1 := h4 q' k1 k2
      have e2 := k4 q h1 h2
      have e : g = g' := by omega
      subst e
      rcases h5 with ⟨h5, h6⟩ | ⟨h5, h6⟩ <;> rcases k5 with ⟨k5, k6⟩ | ⟨k5, k6⟩
      · omega
      · exact absurd h5 k5
      · exact absurd k5 h5
      · omega
theorem Mtt.uniq {N : Nt} (hG : Good N) {s s' m m' : Nat → Int} (hs : ∀ q, q < N.R → s' q = s q) (h : Mtt N s m) (h' : Mtt N s' m') : ∀ r, r < N.R → m r = m' r := by
  have key : ∀ p, ∀ r, r < N.R → N.hd r = p → m r = m' r := by
    refine hG.2.ind (C := fun p => ∀ r, r < N.R → N.hd r = p → m r = m' r) (fun p ih r hr e => ?_)
    have h1 := (h r hr).2.2
    have h2 := (h' r hr).2.2
    have h3 := MetV.congr (s' := s) (m' := m) (fun q hq eq => ih q (Ew_all hq) (by rw [eq, e]) q hq rfl) (fun q hq => (hs q hq).symm) h2
    exact h1.uniq h3
  exact fun r hr => key _ r hr rfl
section
variable {M : Mem} {N : Nt} {n a : Nat}
theorem x_findSprings (hN : NetX M a N) (hW : Wf N) (ha : a + 5 < n) {Q : Mem → Prop} (h : ∀ M' : Mem, (∀ c, c ≠ n + 9 → M' c = M c) → (∀ r, r < N.R → M' (n + 9) r = bAnd (bOr (M (n + 5) (N.hd r)) (bShl 1 (N.hd r : Int))) (M n 11)) → Q M') : f_X1_findSprings n a M Q := by
  obtain ⟨hP20, hR30, hr⟩ := id hW
  unfold f_X1_findSprings
  refine wl2_inv (I := fun (v : Int) (M' : Mem) => ∃ k : Nat, v = k ∧ k ≤ N.R ∧ (∀ c, c ≠ n + 9 → M' c = M c) ∧ (∀ r, r < k → M' (n + 9) r = bAnd (bOr (M (n + 5) (N.hd r)) (bShl 1 (N.hd r : Int))) (M n 11))) (μ := fun (v : Int) (_ : Mem) => N.R - v.toNat) ?_ 5000 _ _ ⟨0, rfl, by omega, fun c _ => rfl, fun r hr => by omega⟩ (by simp; omega)
  rintro rec v M' ⟨k, rfl, hk, g1, g2⟩ hrec
  unfold X1_findSprings_b2
  have hN' : NetX M' a N := hN.of (fun c _ _ => g1 c (by omega))
  rw [hN'.2.1]
  refine ⟨fun c => ?_, fun c => ⟨by omega, ?_⟩⟩
  · have e : k = N.R := by omega
    subst e
    exact h M' g1 g2
  · have hkR : k < N.R := by omega
    obtain ⟨x1, -⟩ := hN'.2.2 k hkR
    obtain ⟨w1, -⟩ := hr k hkR
    rw [tn, x1]
    rintro _ rfl
    refine ⟨by omega, ?_⟩
    rintro _ rfl
    refine ⟨by unfold inR; omega, ?_⟩
    rintro _ rfl
    refine hrec _ _ ⟨k + 1, by omega, by omega, fun c hc => by rw [st_o hc]; exact g1 c hc, fun r hr' => ?_⟩ (by omega)
    rw [st_s, tn]
    by_cases e : r = k
    · subst e; rw [if_pos rfl, g1 (n + 5) (by omega), g1 n (by omega)]
    · rw [if_neg e]; exact g2 r (by omega)
theorem x_twoApart {p : Nat} {g : Int} (hN : NetX M a N) (hW : Wf N) {Q : Int → Prop} (h1 : TwoA N (M (n + 9)) (M (n + 10)) p g → Q 1) (h0 : ¬ TwoA N (M (n + 9)) (M (n + 10)) p g → Q 0) : f_X1_twoApart n a p g M Q := by
  obtain ⟨hP20, hR30, hr⟩ := id hW
  unfold f_X1_twoApart
  refine wl1_inv (I := fun (v : Int) => ∃ k : Nat, v = k ∧ k ≤ N.R ∧ ∀ q q', q < k → q < q' → q' < N.R → N.ft q = p → N.ft q' = p → M (n + 10) q = g → M (n + 10) q' = g → ¬ bAnd (M (n + 9) q) (M (n + 9) q') = 0) (μ := fun (v : Int) => N.R - v.toNat) ?_ 5000 _ ⟨0, rfl, by omega, fun q q' hq => by omega⟩ (by simp; omega)
  rintro rec v ⟨k, rfl, hk, i1⟩ hrec
  unfold X1_twoApart_b3
  rw [hN.2.1]
  refine ⟨fun c => h0 ?_, fun c => ⟨by omega, ?_⟩⟩
  · rintro ⟨q, q', z1, z2, z3, z4, z5, z6, z7⟩
    exact i1 q q' (by omega) z1 z2 z3 z4 z5 z6 z7
  · have hkR : k < N.R := by omega
    obtain ⟨-, x2, -⟩ := hN.2.2 k hkR
    rw [tn, x2]
    have hstep : (∀ q', k < q' → q' < N.R → N.ft k = p → N.ft q' = p → M (n + 10) k = g → M (n + 10) q' = g → ¬ bAnd (M (n + 9) k) (M (n + 9) q') = 0) → rec ((k : Int) + 1) := fun hh => by
      refine hrec _ ⟨k + 1, by omega, by omega, fun q q' hq => ?_⟩ (by omega)
      rcases Nat.lt_or_ge q k with z | z
      · exact i1 q q' z
      · rw [show q = k by omega]; exact hh q'
    refine ⟨fun c1 => ⟨by unfold inR; omega, ?_⟩, fun c1 => ⟨fun c2 => ⟨by unfold inR; omega, ?_⟩, fun c2 => ⟨by unfold inR; omega, ?_⟩⟩⟩
    · rintro _ rfl
      exact hstep (fun q' _ _ e => by omega)
    · rintro _ rfl
      refine wl1_inv (I := fun (v : Int) => ∃ j : Nat, v = j ∧ k < j ∧ j ≤ N.R ∧ ∀ q', k < q' → q' < j → N.ft q' = p → M (n + 10) q' = g → ¬ bAnd (M (n + 9) k) (M (n + 9) q') = 0) (μ := fun (v : Int) => N.R - v.toNat) ?_ 5000 _ ⟨k + 1, by omega, by omega, by omega, fun q' _ z => by omega⟩ (by simp; omega)
      rintro rec' v ⟨j, rfl, hkj, hj, i2⟩ hrec'
      unfold X1_twoApart_b43
      rw [hN.2.1]
      refine ⟨fun c3 => ?_, fun c3 => ⟨by omega, ?_⟩⟩
      · rintro _ rfl
        exact hstep (fun q' z1 z2 _ z4 _ z6 => i2 q' z1 (by omega) z4 z6)
      · have hjR : j < N.R := by omega
        obtain ⟨-, y2, -⟩ := hN.2.2 j hjR
        rw [tn, tn, y2]
        have hst : (N.ft j = p → M (n + 10) j = g → ¬ bAnd (M (n + 9) k) (M (n + 9) j) = 0) → inR ((j : Int) + 1) ∧ ∀ v : Int, v = (j : Int) + 1 → rec' v := fun hh => by
          refine ⟨by unfold inR; omega, ?_⟩
          rintro _ rfl
          refine hrec' _ ⟨j + 1, by omega, by omega, by omega, fun q' z1 z2 => ?_⟩ (by omega)
          rcases Nat.lt_or_ge q' j with z | z
          · exact i2 q' z1 z
          · rw [show q' = j by omega]; exact hh
        refine ⟨fun c4 => hst (fun e => by omega), fun c4 => ⟨fun c5 => hst (fun _ e => absurd e c5), fun c5 => ⟨fun c6 => hst (fun _ _ => c6), fun c6 => h1 ⟨k, j, hkj, hjR, by omega, by omega, c2, c5, c6⟩⟩⟩⟩
    · rintro _ rfl
      exact hstep (fun q' _ _ _ _ e => absurd e c2)
theorem x_metFrom {p B : Nat} (hN : NetX M a N) (hW : Wf N) (hB : B ≤ 1000) (hm : ∀ q, q < N.R → N.ft q = p → 1 ≤ M (n + 10) q ∧ M (n + 10) q ≤ B) {Q : Int → Prop} (h : ∀ v : Int, 1 ≤ v → v ≤ B + 1 → MetV N (M (n + 9)) (M (n + 10)) p v → Q v) : f_X1_metFrom n a p M Q := by
  obtain ⟨hP20, hR30, hr⟩ := id hW
  unfold f_X1_metFrom
  refine jn_use (P := fun J => ∀ g : Int, ((g = 0 ∧ ∀ q, q < N.R → N.ft q ≠ p) ∨ (1 ≤ g ∧ g ≤ B ∧ ∃ q, q < N.R ∧ N.ft q = p ∧ M (n + 10) q = g)) → (∀ q, q < N.R → N.ft q = p → M (n + 10) q ≤ g) → J g) ?_ ?_
  · intro g h1 h2
    refine ⟨fun c => ?_, fun c => ?_⟩
    · rcases h1 with h1 | ⟨h1, h3, h4⟩
      · exact absurd h1.1 c
      · refine x_twoApart hN hW (fun t => ⟨fun z => absurd z (by omega), fun _ => ⟨by unfold inR; omega, ?_⟩⟩) (fun t => ⟨fun _ => ?_, fun z => absurd rfl z⟩)
        · exact h _ (by omega) (by omega) (Or.inr ⟨g, h1, h4, h2, Or.inl ⟨t, rfl⟩⟩)
        · exact h _ (by omega) (by omega) (Or.inr ⟨g, h1, h4, h2, Or.inr ⟨t, rfl⟩⟩)
    · rcases h1 with h1 | ⟨h1, h3, h4⟩
      · exact h _ (by omega) (by omega) (Or.inl ⟨h1.2, rfl⟩)
      · omega
  · intro J hJ
    refine wl2_inv (I := fun (g v : Int) => ∃ k : Nat, v = k ∧ k ≤ N.R ∧ ((g = 0 ∧ ∀ q, q < k → N.ft q ≠ p) ∨ (1 ≤ g ∧ g ≤ B ∧ ∃ q, q < k ∧ N.ft q = p ∧ M (n + 10) q = g)) ∧ (∀ q, q < k → N.ft q = p → M (n + 10) q ≤ g)) (μ := fun (_ v : Int) => N.R - v.toNat) ?_ 5000 _ _ ⟨0, rfl, by omega, Or.inl ⟨rfl, fun q hq => by omega⟩, fun q hq => by omega⟩ (by simp; omega)
    rintro rec g v ⟨k, rfl, hk, i1, i2⟩ hrec
    unfold X1_metFrom_b5
    rw [hN.2.1]
    refine ⟨fun c => ?_, fun c => ⟨by omega, ?_⟩⟩
    · have e : k = N.R := by omega
      subst e
      exact hJ g i1 i2
    · have hkR : k < N.R := by omega
      obtain ⟨-, x2, -⟩ := hN.2.2 k hkR
      rw [tn, x2]
      refine ⟨fun c1 => ⟨by unfold inR; omega, ?_⟩, fun c1 => ?_⟩
      · rintro _ rfl
        refine hrec _ _ ⟨k + 1, by omega, by omega, ?_, fun q hq e => ?_⟩ (by omega)
        · rcases i1 with ⟨i1, i3⟩ | ⟨i1, i3, q, z1, z2⟩
          · refine Or.inl ⟨i1, fun q hq => ?_⟩
            rcases Nat.lt_or_ge q k with z | z
            · exact i3 q z
            · rw [show q = k by omega]; omega
          · exact Or.inr ⟨i1, i3, q, by omega, z2⟩
        · rcases Nat.lt_or_ge q k with z | z
          · exact i2 q z e
          · rw [show q = k by omega] at e; omega
      · rintro _ rfl
        refine ⟨by unfold inR; omega, ?_⟩
        rintro _ rfl
        obtain ⟨m1, m2⟩ := hm k hkR (by omega)
        have hg : 0 ≤ g ∧ g ≤ B := by rcases i1 with z | z <;> omega
        refine hrec _ _ ⟨k + 1, by omega, by omega, Or.inr ⟨by omega, by omega, ?_⟩, fun q hq e => ?_⟩ (by omega)
        · rcases Int.le_total (M (n + 10) k) g with z | z
          · rw [Int.max_eq_left z]
            rcases i1 with i1 | ⟨i1, i3, q, z1, z2⟩
            · omega
            · exact ⟨q, by omega, z2⟩
          · rw [Int.max_eq_right z]; exact ⟨k, by omega, by omega, rfl⟩
        · rcases Nat.lt_or_ge q k with z | z
          · have := i2 q z e; omega
          · rw [show q = k by omega]; omega
theorem x_findMet {b : Nat → Nat} (hN : NetX M a N) (hW : Wf N) (ha : a + 5 < n) (hB : ByH N b) (hb : ∀ k, k < N.R → M (n + 2) k = b k) {Q : Mem → Prop} (h : ∀ M' : Mem, (∀ c, c ≠ n + 10 → M' c = M c) → Mtt N (M (n + 9)) (M' (n + 10)) → Q M') : f_X1_findMet n a M Q := by
  obtain ⟨hP20, hR30, hr⟩ := id hW
  obtain ⟨b1, b2, b3, b4, b5⟩ := hB
  unfold f_X1_findMet
  refine wl2_inv (I := fun (v : Int) (M' : Mem) => ∃ i : Nat, v = i ∧ i ≤ N.R ∧ (∀ c, c ≠ n + 10 → M' c = M c) ∧ (∀ k, k < i → 1 ≤ M' (n + 10) (b k) ∧ M' (n + 10) (b k) ≤ i ∧ MetV N (M (n + 9)) (M' (n + 10)) (N.hd (b k)) (M' (n + 10) (b k)))) (μ := fun (v : Int) (_ : Mem) => N.R - v.toNat) ?_ 5000 _ _ ⟨0, rfl, by omega, fun c _ => rfl, fun k hk => by omega⟩ (by simp; omega)
  rintro rec v M' ⟨i, rfl, hi, g1, g2⟩ hrec
  unfold X1_findMet_b2
  have hN' : NetX M' a N := hN.of (fun c _ _ => g1 c (by omega))
  rw [hN'.2.1]
  refine ⟨fun c => ?_, fun c => ⟨by omega, ?_⟩⟩
  · have e : i = N.R := by omega
    subst e
    refine h M' g1 (fun r hr' => ?_)
    obtain ⟨k, z1, z2⟩ := b3 r hr'
    subst z2
    have := g2 k z1
    exact ⟨this.1, by omega, this.2.2⟩
  · have hiR : i < N.R := by omega
    rintro _ rfl
    have hbi := b1 i hiR
    obtain ⟨w1, w2, -⟩ := hr (b i) hbi
    rw [tn, g1 (n + 2) (by omega), hb i hiR]
    have hin : ∀ q, q < N.R → N.ft q = N.hd (b i) → ∃ k, k < i ∧ b k = q := fun q hq e => by
      obtain ⟨k, z1, z2⟩ := b3 q hq
      exact ⟨k, b4 k i z1 hiR (by rw [z2]; exact e), z2⟩
    have hfin : ∀ v : Int, 1 ≤ v → v ≤ (i : Int) + 1 → MetV N (M (n + 9)) (M' (n + 10)) (N.hd (b i)) v → ∀ M_11 : Mem, M_11 = st M' (n + 10) (b i) v → inR ((i : Int) + 1) ∧ ∀ v2_12 : Int, v2_12 = (i : Int) + 1 → rec v2_12 M_11 := by
      intro v h1 h2 h3
      rintro _ rfl
      refine ⟨by unfold inR; omega, ?_⟩
      rintro _ rfl
      have hco : ∀ k, k ≤ i → ∀ q, q < N.R → N.ft q = N.hd (b k) → st M' (n + 10) (b i) v (n + 10) q = M' (n + 10) q := fun k hk q hq e => by
        rw [st_s, if_neg]
        rintro rfl
        have := b4 i k hiR (by omega) e
        omega
      refine hrec _ _ ⟨i + 1, by omega, by omega, fun c hc => by rw [st_o hc]; exact g1 c hc, fun k hk => ?_⟩ (by omega)
      rcases Nat.lt_or_ge k i with z | z
      · have hne : ¬ b k = b i := fun e => by have := b2 k i (by omega) hiR e; omega
        obtain ⟨y1, y2, y3⟩ := g2 k z
        have e2 : st M' (n + 10) (b i) v (n + 10) (b k) = M' (n + 10) (b k) := by rw [st_s, if_neg hne]
        rw [e2]
        exact ⟨y1, by omega, y3.congr (hco k (by omega)) (fun _ _ => rfl)⟩
      · have : k = i := by omega
        subst this
        have e2 : st M' (n + 10) (b k) v (n + 10) (b k) = v := by rw [st_s, if_pos rfl]
        rw [e2]
        exact ⟨h1, by omega, h3.congr (hco k (by omega)) (fun _ _ => rfl)⟩
    have hmf : ∀ Q : Int → Prop, (∀ v : Int, 1 ≤ v → v ≤ (i : Int) + 1 → MetV N (M (n + 9)) (M' (n + 10)) (N.hd (b i)) v → Q v) → f_X1_metFrom n a (N.hd (b i) : Int) M' Q := fun Q hQ => by
      refine x_metFrom (B := i) hN' hW (by omega) (fun q hq e => ?_) (fun v z1 z2 z3 => hQ v z1 z2 (by rw [← g1 (n + 9) (by omega)]; exact z3))
      obtain ⟨k, z1, z2⟩ := hin q hq e
      subst z2
      exact ⟨(g2 k z1).1, (g2 k z1).2.1⟩
    refine jn_use (P := fun J => J (-1) ∧ ∀ k, k < i → J (b k : Int)) ?_ ?_
    · have hJ73 : ∀ s0 : Int, (s0 = -1 ∨ ∃ k, k < i ∧ s0 = b k) → jn (τ := Int → Mem → Prop) (fun (v2_6 : Int) (M_7 : Mem) => (0 ≤ (b i : Int) ∧ (b i : Int) < 30) ∧ f_X1_metFrom n a (M_7 (a + 1) ((b i : Int).toNat)) M_7 (fun r_9 => ∀ M_11 : Mem, M_11 = st M_7 (n + 10) ((b i : Int).toNat) r_9 → inR (v2_6 + 1) ∧ ∀ v2_12 : Int, v2_12 = v2_6 + 1 → rec v2_12 M_11)) (fun J73 => (s0 = (-1) → (J73 i M')) ∧ (¬ (s0 = (-1)) → ((0 ≤ s0 ∧ s0 < 30) ∧ (0 ≤ (b i : Int) ∧ (b i : Int) < 30) ∧ (¬ M' (a + 1) (s0.toNat) = M' (a + 1) ((b i : Int).toNat) → (J73 i M')) ∧ (M' (a + 1) (s0.toNat) = M' (a + 1) ((b i : Int).toNat) → (∀ M_16 : Mem, M_16 = st M' (n + 10) ((b i : Int).toNat) (M' (n + 10) (s0.toNat)) → inR ((i : Int) + 1) ∧ ∀ v2_17 : Int, v2_17 = (i : Int) + 1 → rec v2_17 M_16))))) := by
        intro s0 hs0
        refine jn_use (P := fun J => J (i : Int) M') ?_ ?_
        · refine ⟨by omega, ?_⟩
          rw [tn, (hN'.2.2 _ hbi).1]
          exact hmf _ (fun v z1 z2 z3 => hfin v z1 z2 z3)
        · intro J73 hJ73
          refine ⟨fun _ => hJ73, fun c1 => ?_⟩
          rcases hs0 with z | ⟨k, hk, rfl⟩
          · exact absurd z c1
          · have hbk := b1 k (by omega)
            refine ⟨by omega, by omega, fun _ => hJ73, fun c2 => ?_⟩
            rw [tn, tn, (hN'.2.2 _ hbk).1, (hN'.2.2 _ hbi).1] at c2
            rw [tn, tn]
            obtain ⟨y1, y2, y3⟩ := g2 k hk
            refine hfin _ y1 (by omega) ?_
            rw [← show N.hd (b k) = N.hd (b i) by omega]
            exact y3
      exact ⟨hJ73 _ (Or.inl rfl), fun k hk => hJ73 _ (Or.inr ⟨k, hk, rfl⟩)⟩
    · rintro J ⟨hJ1, hJ2⟩
      refine ⟨fun c1 => ⟨by omega, ?_⟩, fun _ => hJ1⟩
      rw [show ((i : Int) - 1).toNat = i - 1 by omega, hb (i - 1) (by omega)]
      exact hJ2 (i - 1) (by omega)
end
