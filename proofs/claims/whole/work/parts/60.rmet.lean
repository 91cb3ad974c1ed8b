/-! the reference's springs and met -/
section
variable {M : Mem} {N : Nt}
theorem r_isSource {p : Nat} (hW : Wf N) (hp : p < N.P) (hio : ∀ p, p < N.P → M 102 p = nin N p ∧ M 103 p = nout N p) {Q : Int → Prop} (h1 : isS N p → Q 1) (h0 : ¬ isS N p → Q 0) : f_X12_isSource (p : Int) M Q := by
  have := hW.1
  obtain ⟨a1, a2⟩ := hio p hp
  unfold f_X12_isSource
  rw [tn, a1, a2]
  refine ⟨by omega, fun c => h0 (fun z => c (by have := z.2.2; omega)), fun c => ⟨fun c2 => h0 (fun z => by have := z.2.1; omega), fun c2 => h1 ⟨hp, by omega, by omega⟩⟩⟩
theorem r_isMouth {p : Nat} (hW : Wf N) (hp : p < N.P) (hio : ∀ p, p < N.P → M 102 p = nin N p ∧ M 103 p = nout N p) {Q : Int → Prop} (h1 : isM N p → Q 1) (h0 : ¬ isM N p → Q 0) : f_X12_isMouth (p : Int) M Q := by
  have := hW.1
  obtain ⟨a1, a2⟩ := hio p hp
  unfold f_X12_isMouth
  rw [tn, a1, a2]
  refine ⟨by omega, fun c => h0 (fun z => c (by have := z.2.2; omega)), fun c => ⟨fun c2 => h0 (fun z => by have := z.2.1; omega), fun c2 => h1 ⟨hp, by omega, by omega⟩⟩⟩
theorem r_sources (hN : NetR M 100 N) (hW : Wf N) (hio : ∀ p, p < N.P → M 102 p = nin N p ∧ M 103 p = nout N p) {Q : Int → Prop} (h : ∀ x : Int, inR x → (∀ p, tb x p = true ↔ isS N p) → Q x) : f_X12_sources M Q := by
  obtain ⟨hP20, hR30, hr⟩ := id hW
  unfold f_X12_sources
  refine wl2_inv (I := fun (x v : Int) => ∃ k : Nat, v = k ∧ k ≤ N.P ∧ inR x ∧ ∀ p, tb x p = true ↔ p < k ∧ isS N p) (μ := fun (_ v : Int) => N.P - v.toNat) ?_ 5000 _ _ ⟨0, rfl, by omega, by unfold inR; omega, fun p => by rw [tb_0]; simp⟩ (by simp; omega)
  rintro rec x v ⟨k, rfl, hk, g1, g2⟩ hrec
  unfold X12_sources_b4
  refine r_places hN ⟨fun c => ?_, fun c => ?_⟩
  · have e : k = N.P := by omega
    subst e
    refine h x g1 (fun p => ?_)
    rw [g2 p]
    exact ⟨fun z => z.2, fun z => ⟨z.1, z⟩⟩
  · have hkP : k < N.P := by omega
    refine r_isSource hW hkP hio (fun s => ⟨fun z => absurd z (by omega), fun _ => ?_⟩) (fun s => ⟨fun _ => ⟨by unfold inR; omega, ?_⟩, fun z => absurd rfl z⟩)
    · rintro _ rfl
      refine ⟨by unfold inR; omega, ?_⟩
      rintro _ rfl
      refine hrec _ _ ⟨k + 1, by omega, by omega, bOr_in _ _, fun p => ?_⟩ (by omega)
      rw [tb_or, tb_one (by omega)]
      simp only [Bool.or_eq_true, decide_eq_true_eq]
      rw [g2 p]
      constructor
      · rintro (z | z)
        · exact ⟨by omega, z.2⟩
        · subst z; exact ⟨by omega, s⟩
      · rintro ⟨z1, z2⟩
        rcases Nat.lt_or_ge p k with y | y
        · exact Or.inl ⟨y, z2⟩
        · exact Or.inr (by omega)
    · rintro _ rfl
      refine hrec _ _ ⟨k + 1, by omega, by omega, g1, fun p => ?_⟩ (by omega)
      rw [g2 p]
      constructor
      · rintro ⟨z1, z2⟩; exact ⟨by omega, z2⟩
      · rintro ⟨z1, z2⟩
        rcases Nat.lt_or_ge p k with y | y
        · exact ⟨y, z2⟩
        · have : p = k := by omega
          subst this
          exact absurd z2 s
theorem r_areApart {p : Nat} {g : Int} (hN : NetR M 100 N) (hW : Wf N) {Q : Int → Prop} (h1 : TwoA N (M 110) (M 111) p g → Q 1) (h0 : ¬ TwoA N (M 110) (M 111) p g → Q 0) : f_X12_areApart (p : Int) g M Q := by
  obtain ⟨hP20, hR30, hr⟩ := id hW
  have comm : ∀ x y : Int, bAnd x y = 0 ↔ bAnd y x = 0 := fun x y => by
    rw [and_0, and_0]
    exact ⟨fun z i hi y => z i hi ⟨y.2, y.1⟩, fun z i hi y => z i hi ⟨y.2, y.1⟩⟩
  unfold f_X12_areApart
  refine wl1_inv (I := fun (v : Int) => ∃ k : Nat, v = k ∧ k ≤ N.R ∧ ∀ q q', q < q' → q' < k → N.ft q = p → N.ft q' = p → M 111 q = g → M 111 q' = g → ¬ bAnd (M 110 q) (M 110 q') = 0) (μ := fun (v : Int) => N.R - v.toNat) ?_ 5000 _ ⟨0, rfl, by omega, fun q q' _ hq => by omega⟩ (by simp; omega)
  rintro rec v ⟨k, rfl, hk, i1⟩ hrec
  unfold X12_areApart_b2
  refine r_reaches hN ⟨fun c => h0 ?_, fun c => ?_⟩
  · rintro ⟨q, q', z1, z2, z3, z4, z5, z6, z7⟩
    exact i1 q q' z1 (by omega) z3 z4 z5 z6 z7
  · have hkR : k < N.R := by omega
    refine wl1_inv (I := fun (v : Int) => ∃ j : Nat, v = j ∧ j ≤ k ∧ ∀ q, q < j → N.ft q = p → N.ft k = p → M 111 q = g → M 111 k = g → ¬ bAnd (M 110 q) (M 110 k) = 0) (μ := fun (v : Int) => k - v.toNat) ?_ 5000 _ ⟨0, rfl, by omega, fun q hq => by omega⟩ (by simp; omega)
    rintro rec' v ⟨j, rfl, hj, i2⟩ hrec'
    unfold X12_areApart_b13
    refine ⟨fun c1 => ⟨by unfold inR; omega, ?_⟩, fun c1 => ?_⟩
    · rintro _ rfl
      refine hrec _ ⟨k + 1, by omega, by omega, fun q q' z1 z2 => ?_⟩ (by omega)
      rcases Nat.lt_or_ge q' k with y | y
      · exact i1 q q' z1 y
      · rw [show q' = k by omega]
        exact i2 q (by omega)
    · have hst : (N.ft j = p → N.ft k = p → M 111 j = g → M 111 k = g → ¬ bAnd (M 110 j) (M 110 k) = 0) → inR ((j : Int) + 1) ∧ ∀ v : Int, v = (j : Int) + 1 → rec' v := fun hh => by
        refine ⟨by unfold inR; omega, ?_⟩
        rintro _ rfl
        refine hrec' _ ⟨j + 1, by omega, by omega, fun q hq => ?_⟩ (by omega)
        rcases Nat.lt_or_ge q j with z | z
        · exact i2 q z
        · rw [show q = j by omega]; exact hh
      refine r_ft hN hW hkR ⟨fun c2 => hst (fun _ e => by omega), fun c2 => r_ft hN hW (by omega) ⟨fun c3 => hst (fun e => by omega), fun c3 => ⟨by omega, ?_⟩⟩⟩
      rw [tn, tn]
      refine ⟨fun c4 => hst (fun _ _ _ e => absurd e c4), fun c4 => ⟨by omega, fun c5 => hst (fun _ _ e => absurd e c5), fun c5 => ⟨fun c6 => hst (fun _ _ _ _ e => c6 ((comm _ _).mp e)), fun c6 => h1 ⟨j, k, by omega, hkR, by omega, by omega, c5, c4, (comm _ _).mp c6⟩⟩⟩⟩
theorem r_metFrom {p B : Nat} (hN : NetR M 100 N) (hW : Wf N) (hp : p < N.P) (hio : ∀ p, p < N.P → M 102 p = nin N p ∧ M 103 p = nout N p) (hout : 0 < nout N p) (hB : B ≤ 1000) (hm : ∀ q, q < N.R → N.ft q = p → 1 ≤ M 111 q ∧ M 111 q ≤ B) {Q : Int → Prop} (h : ∀ v : Int, 1 ≤ v → v ≤ B + 1 → MetV N (M 110) (M 111) p v → Q v) : f_X12_metFrom (p : Int) M Q := by
  obtain ⟨hP20, hR30, hr⟩ := id hW
  unfold f_X12_metFrom
  refine r_isSource hW hp hio (fun s => ⟨fun z => absurd z (by omega), fun _ => ?_⟩) (fun s => ⟨fun _ => ?_, fun z => absurd rfl z⟩)
  · refine h 1 (by omega) (by omega) (Or.inl ⟨fun q hq e => ?_, rfl⟩)
    have : 0 < nin N p := cnt_pos.mpr ⟨q, hq, by simp; exact e⟩
    have := s.2.2
    omega
  · have hin : ∃ q, q < N.R ∧ N.ft q = p := by
      have : 0 < nin N p := by
        rcases Nat.eq_zero_or_pos (nin N p) with z | z
        · exact absurd ⟨hp, hout, z⟩ s
        · exact z
      obtain ⟨q, z1, z2⟩ := cnt_pos.mp this
      exact ⟨q, z1, by simpa using z2⟩
    refine jn_use (P := fun J => ∀ g : Int, 1 ≤ g → g ≤ B → (∃ q, q < N.R ∧ N.ft q = p ∧ M 111 q = g) → (∀ q, q < N.R → N.ft q = p → M 111 q ≤ g) → J g) ?_ ?_
    · intro g h1 h2 h3 h4
      refine r_areApart hN hW (fun t => r_flag (fun z => absurd z (by omega)) (fun _ => ⟨by unfold inR; omega, ?_⟩)) (fun t => r_flag (fun _ => ⟨by unfold inR; omega, ?_⟩) (fun z => absurd rfl z))
      · exact h _ (by omega) (by omega) (Or.inr ⟨g, h1, h3, h4, Or.inl ⟨t, rfl⟩⟩)
      · rw [Int.add_zero]
        exact h _ (by omega) (by omega) (Or.inr ⟨g, h1, h3, h4, Or.inr ⟨t, rfl⟩⟩)
    · intro J hJ
      refine wl2_inv (I := fun (g v : Int) => ∃ k : Nat, v = k ∧ k ≤ N.R ∧ ((g = 0 ∧ ∀ q, q < k → N.ft q ≠ p) ∨ (1 ≤ g ∧ g ≤ B ∧ ∃ q, q < k ∧ N.ft q = p ∧ M 111 q = g)) ∧ (∀ q, q < k → N.ft q = p → M 111 q ≤ g)) (μ := fun (_ v : Int) => N.R - v.toNat) ?_ 5000 _ _ ⟨0, rfl, by omega, Or.inl ⟨rfl, fun q hq => by omega⟩, fun q hq => by omega⟩ (by simp; omega)
      rintro rec g v ⟨k, rfl, hk, i1, i2⟩ hrec
      unfold X12_metFrom_b14
      refine r_reaches hN ⟨fun c => ?_, fun c => ?_⟩
      · have e : k = N.R := by omega
        subst e
        obtain ⟨q, z1, z2⟩ := hin
        rcases i1 with ⟨-, i1⟩ | ⟨i1, i3, i4⟩
        · exact absurd z2 (i1 q z1)
        · exact hJ g i1 i3 i4 i2
      · have hkR : k < N.R := by omega
        refine r_ft hN hW hkR ⟨fun c1 => ⟨by unfold inR; omega, ?_⟩, fun c1 => ⟨by omega, ?_⟩⟩
        · rintro _ rfl
          refine hrec _ _ ⟨k + 1, by omega, by omega, ?_, fun q hq e => ?_⟩ (by omega)
          · rcases i1 with ⟨i1, i3⟩ | ⟨i1, i3, q, z1, z2⟩
            · refine Or.inl ⟨i1, fun q hq => ?_⟩
              rcases Nat.lt_or_ge q k with z | z
              · exact i3 q z
              · rw [show q = k by omega]; omega
            · exact Or.inr ⟨i1, i3, q, by omega, z2⟩
          · rcases Nat.lt_or_ge q k with z | z
            · exact i2 q z e
            · rw [show q = k by omega] at e; omega
        · rw [tn]
          obtain ⟨m1, m2⟩ := hm k hkR (by omega)
          refine ⟨fun c2 => ⟨by unfold inR; omega, ?_⟩, fun c2 => ?_⟩
          · rintro _ rfl
            refine hrec _ _ ⟨k + 1, by omega, by omega, ?_, fun q hq e => ?_⟩ (by omega)
            · rcases i1 with ⟨i1, i3⟩ | ⟨i1, i3, q, z1, z2⟩
              · omega
              · exact Or.inr ⟨i1, i3, q, by omega, z2⟩
            · rcases Nat.lt_or_ge q k with z | z
              · exact i2 q z e
              · rw [show q = k by omega]; exact c2
          · rintro _ rfl
            refine ⟨by unfold inR; omega, ?_⟩
            rintro _ rfl
            refine hrec _ _ ⟨k + 1, by omega, by omega, Or.inr ⟨m1, m2, k, by omega, by omega, rfl⟩, fun q hq e => ?_⟩ (by omega)
            rcases Nat.lt_or_ge q k with z | z
            · have := i2 q z e; omega
            · rw [show q = k by omega]; omega
theorem r_laysMet {g pos : Nat → Nat} (hN : NetR M 100 N) (hW : Wf N) (ht : Topo N g pos) (hor : ∀ i, i < N.P → M 101 i = g i) (hio : ∀ p, p < N.P → M 102 p = nin N p ∧ M 103 p = nout N p) {Q : Mem → Prop} (h : ∀ (M' : Mem) (x : Int), (∀ c, c ≠ 110 → c ≠ 111 → M' c = M c) → inR x → (∀ p, tb x p = true ↔ isS N p) → (∀ r, r < N.R → M' 110 r = bAnd (bOr (M 105 (N.hd r)) (bShl 1 (N.hd r : Int))) x) → Mtt N (M' 110) (M' 111) → Q M') : f_X12_laysMet M Q := by
  obtain ⟨hP20, hR30, hr⟩ := id hW
  obtain ⟨t1, t2, t3⟩ := id ht
  unfold f_X12_laysMet
  refine r_sources hN hW hio (fun x hx1 hx2 => ?_)
  refine jn_use (P := fun J => ∀ M1 : Mem, (∀ c, c ≠ 110 → M1 c = M c) → (∀ r, r < N.R → M1 110 r = bAnd (bOr (M 105 (N.hd r)) (bShl 1 (N.hd r : Int))) x) → J M1) ?_ ?_
  · intro M1 f1 f2
    let S : Nat → Nat → Mem → Prop := fun k j M' => (∀ c, c ≠ 111 → M' c = M1 c) ∧ (∀ r, r < N.R → lexl N pos k j r = true → 1 ≤ M' 111 r ∧ M' 111 r ≤ (k : Int) + 1 ∧ MetV N (M1 110) (M' 111) (N.hd r) (M' 111 r)) ∧ (∀ r, r < N.R → pos (N.hd r) < k → M' 111 r ≤ k)
    refine wl2_inv (I := fun (v : Int) (M' : Mem) => ∃ k : Nat, v = k ∧ k ≤ N.P ∧ S k 0 M') (μ := fun (v : Int) (_ : Mem) => N.P - v.toNat) ?_ 5000 _ _ ⟨0, rfl, by omega, fun c _ => rfl, fun q hq hl => by unfold lexl at hl; simp at hl, fun r _ z => by omega⟩ (by simp; omega)
    rintro rec v M' ⟨k, rfl, hk, g1, g2, g3⟩ hrec
    unfold X12_laysMet_b51
    have hN' : NetR M' 100 N := hN.of (by rw [g1 100 (by omega), f1 100 (by omega)])
    refine r_places hN' ⟨fun c => ?_, fun c => ⟨by omega, ?_⟩⟩
    · have e : k = N.P := by omega
      subst e
      refine h M' x (fun c q1 q2 => by rw [g1 c q2, f1 c q1]) hx1 hx2 (by rw [g1 110 (by omega)]; exact f2) (fun r hr' => ?_)
      have hl : lexl N pos N.P 0 r = true := by
        unfold lexl
        simp only [decide_eq_true_eq]
        exact Or.inl (t2 _ (hr r hr').1).1
      obtain ⟨z1, z2, z3⟩ := g2 r hr' hl
      exact ⟨z1, by omega, by rw [g1 110 (by omega)]; exact z3⟩
    · have hkP : k < N.P := by omega
      obtain ⟨p1, p2⟩ := t1 k hkP
      have hio' : ∀ p, p < N.P → M' 102 p = nin N p ∧ M' 103 p = nout N p := by rw [g1 102 (by omega), g1 103 (by omega), f1 102 (by omega), f1 103 (by omega)]; exact hio
      rw [tn, g1 101 (by omega), f1 101 (by omega), hor k hkP]
      rintro _ rfl
      rw [tn, (hio' _ p1).2]
      refine ⟨by omega, ?_⟩
      have hin : ∀ q, q < N.R → N.ft q = g k → pos (N.hd q) < k := fun q hq e => by
        have := t3 q hq
        rw [e, p2] at this
        exact this
      refine jn_use (P := fun J => ∀ s0 : Int, (0 < nout N (g k) → 1 ≤ s0 ∧ s0 ≤ (k : Int) + 1 ∧ MetV N (M1 110) (M' 111) (g k) s0) → J s0) ?_ ?_
      · intro s0 hs0
        refine wl2_inv (I := fun (v : Int) (M2 : Mem) => ∃ j : Nat, v = j ∧ j ≤ N.R ∧ (∀ q, q < N.R → pos (N.hd q) < k → M2 111 q = M' 111 q) ∧ S k j M2) (μ := fun (v : Int) (_ : Mem) => N.R - v.toNat) ?_ 5000 _ _ ⟨0, rfl, by omega, fun q _ _ => rfl, g1, g2, g3⟩ (by simp; omega)
        rintro rec' v M2 ⟨j, rfl, hj, e0, e1, e2, e3⟩ hrec'
        unfold X12_laysMet_b89
        have hN2 : NetR M2 100 N := hN.of (by rw [e1 100 (by omega), f1 100 (by omega)])
        refine r_reaches hN2 ⟨fun c2 => ⟨by unfold inR; omega, ?_⟩, fun c2 => ?_⟩
        · rintro _ rfl
          have e : j = N.R := by omega
          subst e
          refine hrec _ _ ⟨k + 1, by omega, by omega, e1, fun r hr' hl => ?_, fun r hr' hl => ?_⟩ (by omega)
          · rw [← lexl_end hr'] at hl
            obtain ⟨z1, z2, z3⟩ := e2 r hr' hl
            exact ⟨z1, by omega, z3⟩
          · have := e2 r hr' (by unfold lexl; simp only [decide_eq_true_eq]; omega)
            omega
        · have hjR : j < N.R := by omega
          obtain ⟨w1, w2, -⟩ := hr j hjR
          refine r_hd hN2 hW hjR ⟨fun c3 => ⟨by unfold inR; omega, ?_⟩, fun c3 => ⟨by omega, ?_⟩⟩
          · rintro _ rfl
            have hne : pos (N.hd j) ≠ k := fun e => c3 (by rw [← e, (t2 _ w1).2])
            exact hrec' _ _ ⟨j + 1, by omega, by omega, e0, e1, fun r hr' hl => e2 r hr' (by rw [← lexl_skip hne]; exact hl), e3⟩ (by omega)
          · rw [tn]
            rintro _ rfl
            refine ⟨by unfold inR; omega, ?_⟩
            rintro _ rfl
            have hhd : N.hd j = g k := by omega
            have hpk : pos (N.hd j) = k := by rw [hhd]; exact p2
            have hno : 0 < nout N (g k) := cnt_pos.mpr ⟨j, hjR, by simp; exact hhd⟩
            obtain ⟨s1, s2, s3⟩ := hs0 hno
            have hco : ∀ r, pos (N.hd r) ≤ k → ∀ q, q < N.R → N.ft q = N.hd r → st M2 111 j s0 111 q = M' 111 q := fun r hrk q hq e => by
              have := t3 q hq
              rw [e] at this
              rw [st_s, if_neg (fun z => by subst z; omega), e0 q hq (by omega)]
            have hco2 : ∀ r, pos (N.hd r) ≤ k → ∀ q, q < N.R → N.ft q = N.hd r → st M2 111 j s0 111 q = M2 111 q := fun r hrk q hq e => by
              have := t3 q hq
              rw [e] at this
              rw [st_s, if_neg (fun z => by subst z; omega)]
            refine hrec' _ _ ⟨j + 1, by omega, by omega, fun q hq z => by rw [st_s, if_neg (fun y => by subst y; omega)]; exact e0 q hq z, fun c hc => by rw [st_o hc]; exact e1 c hc, fun r hr' hl => ?_, fun r hr' z => by rw [st_s, if_neg (fun y => by subst y; omega)]; exact e3 r hr' z⟩ (by omega)
            have hrk : pos (N.hd r) ≤ k := by
              unfold lexl at hl
              simp only [decide_eq_true_eq] at hl
              omega
            by_cases e : r = j
            · subst e
              have ev : st M2 111 r s0 111 r = s0 := by rw [st_s, if_pos rfl]
              rw [ev]
              exact ⟨s1, s2, by rw [hhd]; exact s3.congr (fun q hq eq => hco r (by omega) q hq (by rw [hhd]; exact eq)) (fun _ _ => rfl)⟩
            · have ev : st M2 111 j s0 111 r = M2 111 r := by rw [st_s, if_neg e]
              rw [ev]
              obtain ⟨z1, z2, z3⟩ := e2 r hr' (((lexl_new hpk r).mp hl).elim id (fun w => absurd w e))
              exact ⟨z1, z2, z3.congr (hco2 r hrk) (fun _ _ => rfl)⟩
      · intro J hJ
        refine ⟨fun c2 => ?_, fun c2 => hJ 0 (fun z => by omega)⟩
        refine r_metFrom (B := k) hN' hW p1 hio' (by omega) (by omega) (fun q hq e => ?_) (fun v z1 z2 z3 => hJ v (fun _ => ⟨z1, z2, by rw [← g1 110 (by omega)]; exact z3⟩))
        have hpq := hin q hq e
        obtain ⟨z1, z2, z3⟩ := g2 q hq (by unfold lexl; simp only [decide_eq_true_eq]; omega)
        exact ⟨z1, g3 q hq hpq⟩
  · intro J hJ
    refine wl2_inv (I := fun (v : Int) (M' : Mem) => ∃ k : Nat, v = k ∧ k ≤ N.R ∧ (∀ c, c ≠ 110 → M' c = M c) ∧ (∀ r, r < k → M' 110 r = bAnd (bOr (M 105 (N.hd r)) (bShl 1 (N.hd r : Int))) x)) (μ := fun (v : Int) (_ : Mem) => N.R - v.toNat) ?_ 5000 _ _ ⟨0, rfl, by omega, fun c _ => rfl, fun r hr => by omega⟩ (by simp; omega)
    rintro rec v M' ⟨k, rfl, hk, g1, g2⟩ hrec
    unfold X12_laysMet_b7
    have hN' : NetR M' 100 N := hN.of (g1 100 (by omega))
    refine r_reaches hN' ⟨fun c => ?_, fun c => ?_⟩
    · have e : k = N.R := by omega
      subst e
      exact hJ M' g1 g2
    · have hkR : k < N.R := by omega
      obtain ⟨w1, -⟩ := hr k hkR
      refine r_hd hN' hW hkR ⟨by omega, r_hd hN' hW hkR ⟨by omega, ?_⟩⟩
      rintro _ rfl
      refine ⟨by unfold inR; omega, ?_⟩
      rintro _ rfl
      refine hrec _ _ ⟨k + 1, by omega, by omega, fun c hc => by rw [st_o hc]; exact g1 c hc, fun r hr' => ?_⟩ (by omega)
      rw [st_s, tn, tn]
      by_cases e : r = k
      · subst e; rw [if_pos rfl, g1 105 (by omega)]
      · rw [if_neg e]; exact g2 r (by omega)
end
