/-! orders -/
def Topo (N : Nt) (g pos : Nat → Nat) : Prop := (∀ i, i < N.P → g i < N.P ∧ pos (g i) = i) ∧ (∀ p, p < N.P → pos p < N.P ∧ g (pos p) = p) ∧ (∀ r, r < N.R → pos (N.hd r) < pos (N.ft r))
def ByH (N : Nt) (b : Nat → Nat) : Prop := (∀ k, k < N.R → b k < N.R) ∧ (∀ j k, j < N.R → k < N.R → b j = b k → j = k) ∧ (∀ r, r < N.R → ∃ k, k < N.R ∧ b k = r) ∧ (∀ j k, j < N.R → k < N.R → N.ft (b j) = N.hd (b k) → j < k) ∧ (∀ j k, j < k → k < N.R → N.hd (b j) = N.hd (b k) → b j < b k)
/-- an order that puts every head before its foot -/
theorem topo_of {N : Nt} (hW : Wf N) {g : Nat → Nat} (h1 : ∀ i, i < N.P → g i < N.P) (h2 : ∀ i j, i < N.P → j < N.P → g i = g j → i = j) (h3 : ∀ i, i < N.P → ∀ r, r < N.R → N.ft r = g i → ∃ j, j < i ∧ g j = N.hd r) : ∃ pos, Topo N g pos := by
  have h4 := pigeon h1 h2
  have hc : ∃ pos : Nat → Nat, ∀ p, p < N.P → pos p < N.P ∧ g (pos p) = p := by
    have : ∀ p, ∃ i, p < N.P → i < N.P ∧ g i = p := fun p => by
      by_cases q : p < N.P
      · obtain ⟨i, z1, z2⟩ := h4 p q
        exact ⟨i, fun _ => ⟨z1, z2⟩⟩
      · exact ⟨0, fun z => absurd z q⟩
    exact ⟨fun p => Classical.choose (this p), fun p hp => Classical.choose_spec (this p) hp⟩
  obtain ⟨pos, hp⟩ := hc
  refine ⟨pos, fun i hi => ⟨h1 i hi, ?_⟩, hp, fun r hr => ?_⟩
  · obtain ⟨z1, z2⟩ := hp (g i) (h1 i hi)
    exact h2 _ _ z1 hi z2
  · obtain ⟨w1, w2, -⟩ := hW.2.2 r hr
    obtain ⟨z1, z2⟩ := hp (N.ft r) w2
    obtain ⟨y1, y2⟩ := hp (N.hd r) w1
    obtain ⟨j, x1, x2⟩ := h3 _ z1 r hr z2.symm
    have := h2 _ _ y1 (by omega) (y2.trans x2.symm)
    omega
/-- while not all are sorted there is one that can be next -/
theorem next_ex {N : Nt} (hG : Good N) {S : Nat → Prop} (hS : ¬ ∀ p, p < N.P → S p) : ∃ p, p < N.P ∧ ¬ S p ∧ ∀ r, r < N.R → N.ft r = p → S (N.hd r) := by
  apply Classical.byContradiction
  intro hno
  apply hS
  refine hG.2.ind (C := fun p => p < N.P → S p) (fun p hp hlt => ?_)
  apply Classical.byContradiction
  intro hs
  exact hno ⟨p, hlt, hs, fun r hr e => hp r ⟨hr, by omega⟩ e (hG.1.2.2 r hr).1⟩
section
variable {M : Mem} {N : Nt} {n a : Nat}
theorem x_sortPlaces (hN : NetX M a N) (hG : Good N) (ha : a + 5 < n) {Q : Mem → Prop} (h : ∀ (M' : Mem) (g pos : Nat → Nat), (∀ c, c ≠ n + 1 → c ≠ n + 5 → M' c = M c) → Topo N g pos → (∀ i, i < N.P → M' (n + 1) i = g i) → Q M') : f_X1_sortPlaces n a M Q := by
  obtain ⟨hP20, hR30, hr⟩ := id hG.1
  unfold f_X1_sortPlaces
  rintro _ rfl
  refine jn_use (P := fun J => ∀ M' : Mem, (∀ c, c ≠ n + 5 → M' c = M c) → (∀ p, p < 20 → ∀ q, tb (M' (n + 5) p) q = true ↔ ∃ r, r < N.R ∧ N.ft r = p ∧ N.hd r = q) → J M') ?_ ?_
  · intro M1 hf hu
    refine wl3_inv (I := fun (s v : Int) (M' : Mem) => inR s ∧ ∃ k : Nat, v = k ∧ k ≤ N.P ∧ (∀ c, c ≠ n + 1 → M' c = M1 c) ∧ ∃ g : Nat → Nat, (∀ i, i < k → M' (n + 1) i = g i ∧ g i < N.P) ∧ (∀ i j, i < k → j < k → g i = g j → i = j) ∧ (∀ p, tb s p = true ↔ ∃ i, i < k ∧ g i = p) ∧ (∀ i, i < k → ∀ r, r < N.R → N.ft r = g i → ∃ j, j < i ∧ g j = N.hd r)) (μ := fun (_ v : Int) (_ : Mem) => N.P - v.toNat) ?_ 5000 _ _ _ ⟨by unfold inR; omega, 0, rfl, by omega, fun c _ => rfl, fun _ => 0, fun i hi => by omega, fun i j hi => by omega, fun p => by rw [tb_0]; simp, fun i hi => by omega⟩ (by simp; omega)
    rintro rec s v M' ⟨hs, k, rfl, hk, g1, g, g2, g3, g4, g5⟩ hrec
    unfold X1_sortPlaces_b50
    have hN' : NetX M' a N := hN.of (fun c _ _ => by rw [g1 c (by omega), hf c (by omega)])
    rw [hN'.1]
    refine ⟨fun c => ?_, fun c => ?_⟩
    · have e : k = N.P := by omega
      subst e
      obtain ⟨pos, hp⟩ := topo_of hG.1 (fun i hi => (g2 i hi).2) g3 g5
      exact h M' g pos (fun c h1 h2 => by rw [g1 c h1, hf c h2]) hp (fun i hi => (g2 i hi).1)
    · have hkP : k < N.P := by omega
      have hex : ∃ p, p < N.P ∧ ¬ tb s p = true ∧ ∀ r, r < N.R → N.ft r = p → tb s (N.hd r) = true := by
        refine next_ex hG (S := fun p => tb s p = true) (fun hall => ?_)
        have hn : ∀ p, ∃ i, p < N.P → i < k ∧ g i = p := fun p => by
          by_cases q : p < N.P
          · obtain ⟨i, z⟩ := (g4 p).mp (hall p q)
            exact ⟨i, fun _ => z⟩
          · exact ⟨0, fun z => absurd z q⟩
        have hq : ∃ f : Nat → Nat, ∀ p, p < N.P → f p < k ∧ g (f p) = p := ⟨fun p => Classical.choose (hn p), fun p hp => Classical.choose_spec (hn p) hp⟩
        obtain ⟨f, hf'⟩ := hq
        obtain ⟨i, z1, z2⟩ := pigeon (n := N.P) (g := f) (fun i hi => by have := (hf' i hi).1; omega) (fun i j hi hj e => by have a1 := (hf' i hi).2; have a2 := (hf' j hj).2; rw [e] at a1; omega) k hkP
        have := (hf' i z1).1
        omega
      refine jn_use (P := fun J => ∀ p : Nat, p < N.P → ¬ tb s p = true → (∀ r, r < N.R → N.ft r = p → tb s (N.hd r) = true) → J (p : Int)) ?_ ?_
      · intro p hp i1 i2
        refine ⟨by omega, ?_⟩
        rintro _ rfl
        rintro _ rfl
        refine ⟨by unfold inR; omega, ?_⟩
        rintro _ rfl
        refine hrec _ _ _ ⟨bOr_in _ _, k + 1, by omega, by omega, fun c hc => by rw [st_o hc]; exact g1 c hc, fun i => if i = k then p else g i, fun i hi => ?_, fun i j hi hj e => ?_, fun q => ?_, fun i hi r hr' e => ?_⟩ (by omega)
        · rw [st_s, tn]
          dsimp only
          by_cases q : i = k
          · rw [if_pos q, if_pos q]; exact ⟨rfl, hp⟩
          · rw [if_neg q, if_neg q]; exact g2 i (by omega)
        · have hnot : ∀ i, i < k → g i ≠ p := fun i hi e => i1 ((g4 p).mpr ⟨i, hi, e⟩)
          dsimp only at e
          by_cases q : i = k <;> by_cases q' : j = k
          · omega
          · rw [if_pos q, if_neg q'] at e; exact absurd e.symm (hnot j (by omega))
          · rw [if_neg q, if_pos q'] at e; exact absurd e (hnot i (by omega))
          · rw [if_neg q, if_neg q'] at e; exact g3 i j (by omega) (by omega) e
        · rw [tb_or, tb_one (by omega)]
          simp only [Bool.or_eq_true, decide_eq_true_eq]
          rw [g4 q]
          constructor
          · rintro (⟨i, z1, z2⟩ | z)
            · exact ⟨i, by omega, by rw [if_neg (by omega)]; exact z2⟩
            · exact ⟨k, by omega, by rw [if_pos rfl]; exact z.symm⟩
          · rintro ⟨i, z1, z2⟩
            by_cases q' : i = k
            · rw [if_pos q'] at z2; exact Or.inr z2.symm
            · rw [if_neg q'] at z2; exact Or.inl ⟨i, by omega, z2⟩
        · dsimp only at e ⊢
          by_cases q : i = k
          · rw [if_pos q] at e
            obtain ⟨j, z1, z2⟩ := (g4 _).mp (i2 r hr' e)
            exact ⟨j, by omega, by rw [if_neg (by omega)]; exact z2⟩
          · rw [if_neg q] at e
            obtain ⟨j, z1, z2⟩ := g5 i (by omega) r hr' e
            exact ⟨j, z1, by rw [if_neg (by omega)]; exact z2⟩
      · intro J hJ
        refine wl1_inv (I := fun (v : Int) => ∃ j : Nat, v = j ∧ j ≤ N.P ∧ ∀ q, q < j → ¬ (¬ tb s q = true ∧ ∀ r, r < N.R → N.ft r = q → tb s (N.hd r) = true)) (μ := fun (v : Int) => N.P - v.toNat) ?_ 5000 _ ⟨0, rfl, by omega, fun q hq => by omega⟩ (by simp; omega)
        rintro rec' v ⟨j, rfl, hj, i1⟩ hrec'
        unfold X1_sortPlaces_b64
        rw [hN'.1]
        refine ⟨fun c2 => ?_, fun c2 => ?_⟩
        · exfalso
          obtain ⟨p, z1, z2⟩ := hex
          exact i1 p (by omega) z2
        · have hjP : j < N.P := by omega
          have hstep : ¬ (¬ tb s j = true ∧ ∀ r, r < N.R → N.ft r = j → tb s (N.hd r) = true) → inR ((j : Int) + 1) ∧ ∀ v : Int, v = (j : Int) + 1 → rec' v := fun hh => by
            refine ⟨by unfold inR; omega, ?_⟩
            rintro _ rfl
            refine hrec' _ ⟨j + 1, by omega, by omega, fun q hq => ?_⟩ (by omega)
            rcases Nat.lt_or_ge q j with z | z
            · exact i1 q z
            · rw [show q = j by omega]; exact hh
          rw [bit_0 (show j < 32 by omega)]
          have hup : M' (n + 5) j = M1 (n + 5) j := by rw [g1 (n + 5) (by omega)]
          have hrd : bAnd (M' (n + 5) j) (bXor s (-1)) = 0 ↔ ∀ r, r < N.R → N.ft r = j → tb s (N.hd r) = true := by
            rw [hup, and_0]
            constructor
            · intro hh r hr' e
              have w1 := (hr r hr').1
              apply Classical.byContradiction
              intro hno
              refine hh (N.hd r) (by omega) ⟨(hu j (by omega) _).mpr ⟨r, hr', e, rfl⟩, ?_⟩
              rw [tb_not s (by omega)]
              simpa using hno
            · rintro hh i hi ⟨z1, z2⟩
              obtain ⟨r, y1, y2, y3⟩ := (hu j (by omega) i).mp z1
              rw [tb_not s hi, ← y3, hh r y1 y2] at z2
              cases z2
          refine ⟨fun q => hstep (fun z => q (by simpa using z.1)), fun q => ⟨by omega, ?_⟩⟩
          rw [tn, hrd]
          exact ⟨fun q2 => hstep (fun z => q2 z.2), fun q2 => hJ j hjP (by rw [q]; simp) q2⟩
  · intro J hJ
    refine wl2_inv (I := fun (v : Int) (M' : Mem) => ∃ k : Nat, v = k ∧ k ≤ N.R ∧ (∀ c, c ≠ n + 5 → M' c = M c) ∧ (∀ p, p < 20 → ∀ q, tb (M' (n + 5) p) q = true ↔ ∃ r, r < k ∧ N.ft r = p ∧ N.hd r = q)) (μ := fun (v : Int) (_ : Mem) => N.R - v.toNat) ?_ 5000 _ _ ⟨0, rfl, by omega, fun c h1 => by rw [fil_n h1], fun p hp q => by rw [fil_e, if_pos hp, tb_0]; simp⟩ (by simp; omega)
    rintro rec v M' ⟨k, rfl, hk, g1, g2⟩ hrec
    unfold X1_sortPlaces_b10
    have hN' : NetX M' a N := hN.of (fun c _ _ => g1 c (by omega))
    rw [hN'.2.1]
    refine ⟨fun c => ?_, fun c => ⟨by omega, ?_⟩⟩
    · have e : k = N.R := by omega
      subst e
      exact hJ M' g1 g2
    · have hkR : k < N.R := by omega
      obtain ⟨x1, x2, -, -, -⟩ := hN'.2.2 k hkR
      obtain ⟨w1, w2, -⟩ := hr k hkR
      rw [tn, x1, x2, tn]
      refine ⟨by omega, ?_⟩
      rintro _ rfl
      refine ⟨by unfold inR; omega, ?_⟩
      rintro _ rfl
      refine hrec _ _ ⟨k + 1, by omega, by omega, fun c h1 => by rw [st_o h1]; exact g1 c h1, fun p hp q => ?_⟩ (by omega)
      rw [st_s]
      by_cases e : p = N.ft k
      · rw [if_pos e, tb_or, tb_one (by omega)]
        simp only [Bool.or_eq_true, decide_eq_true_eq]
        rw [g2 _ (by omega)]
        constructor
        · rintro (⟨r, z1, z2, z3⟩ | z)
          · exact ⟨r, by omega, by omega, z3⟩
          · exact ⟨k, by omega, e.symm, z.symm⟩
        · rintro ⟨r, z1, z2, z3⟩
          rcases Nat.lt_or_ge r k with z | z
          · exact Or.inl ⟨r, z, by omega, z3⟩
          · rw [show r = k by omega] at z3; exact Or.inr z3.symm
      · rw [if_neg e, g2 p hp]
        constructor
        · rintro ⟨r, z1, z2⟩; exact ⟨r, by omega, z2⟩
        · rintro ⟨r, z1, z2, z3⟩
          refine ⟨r, ?_, z2, z3⟩
          rcases Nat.lt_or_ge r k with z | z
          · exact z
          · rw [show r = k by omega] at z2; exact absurd z2.symm e
end
