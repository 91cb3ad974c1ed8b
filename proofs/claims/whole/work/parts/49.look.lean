/-! the order of reaches; what lies up and down -/
def lexl (N : Nt) (pos : Nat → Nat) (i j : Nat) (q : Nat) : Bool := decide (pos (N.hd q) < i ∨ (pos (N.hd q) = i ∧ q < j))
def Hgt (R : Nat) (hd ft : Nat → Nat) (ln : Nat → Int) (P : Nat) (h : Nat → Int) : Prop := ∀ p, p < P → 0 ≤ h p ∧ h p ≤ 2970 ∧ (∀ r, r < R → ft r = p → h (hd r) + ln r ≤ h p) ∧ (h p = 0 ∨ ∃ r, r < R ∧ ft r = p ∧ h p = h (hd r) + ln r)
theorem Hgt.uniq {R P : Nat} {hd ft : Nat → Nat} {ln h h' : Nat → Int} (hA : Acy (fun r => r < R) hd ft) (hP : ∀ r, r < R → hd r < P) (h1 : Hgt R hd ft ln P h) (h2 : Hgt R hd ft ln P h') (hl : ∀ r, r < R → 0 ≤ ln r) : ∀ p, p < P → h p = h' p := by
  refine hA.ind (C := fun p => p < P → h p = h' p) (fun p ih hp => ?_)
  obtain ⟨a1, -, a2, a3⟩ := h1 p hp
  obtain ⟨b1, -, b2, b3⟩ := h2 p hp
  have c1 : h p ≤ h' p := by
    rcases a3 with a3 | ⟨r, z1, z2, z3⟩
    · omega
    · have := b2 r z1 z2
      rw [← ih r z1 z2 (hP r z1)] at this
      omega
  have c2 : h' p ≤ h p := by
    rcases b3 with b3 | ⟨r, z1, z2, z3⟩
    · omega
    · have := a2 r z1 z2
      rw [ih r z1 z2 (hP r z1)] at this
      omega
  omega
section
variable {M : Mem} {N : Nt} {n a : Nat}
theorem x_sortReaches {g pos : Nat → Nat} (hN : NetX M a N) (hG : Good N) (ha : a + 5 < n) (ht : Topo N g pos) (ho : ∀ i, i < N.P → M (n + 1) i = g i) {Q : Mem → Prop} (h : ∀ (M' : Mem) (b : Nat → Nat), (∀ c, c ≠ n + 2 → M' c = M c) → ByH N b → (∀ k, k < N.R → M' (n + 2) k = b k) → Q M') : f_X1_sortReaches n a M Q := by
  obtain ⟨hP20, hR30, hr⟩ := id hG.1
  obtain ⟨t1, t2, t3⟩ := ht
  have hinj : ∀ p q, p < N.P → q < N.P → pos p = pos q → p = q := fun p q hp hq e => by rw [← (t2 p hp).2, ← (t2 q hq).2, e]
  unfold f_X1_sortReaches
  let S : Nat → Nat → Int → Mem → Prop := fun i j v M' => ∃ m : Nat, v = m ∧ (∀ c, c ≠ n + 2 → M' c = M c) ∧ m = cnt (lexl N pos i j) N.R ∧ ∃ b : Nat → Nat, (∀ k, k < m → M' (n + 2) k = b k ∧ b k < N.R ∧ lexl N pos i j (b k) = true) ∧ (∀ k l, k < l → l < m → pos (N.hd (b k)) < pos (N.hd (b l)) ∨ (N.hd (b k) = N.hd (b l) ∧ b k < b l))
  refine wl3_inv (I := fun (m v : Int) (M' : Mem) => ∃ i : Nat, v = i ∧ i ≤ N.P ∧ S i 0 m M') (μ := fun (_ v : Int) (_ : Mem) => N.P - v.toNat) ?_ 5000 _ _ _ ⟨0, rfl, by omega, 0, rfl, fun c _ => rfl, ?_, fun _ => 0, fun k hk => by omega, fun k l _ hk => by omega⟩ (by simp; omega)
  rotate_left
  · exact (cnt_false (fun i _ => by unfold lexl; simp)).symm
  rintro rec m v M' ⟨i, rfl, hi, m', rfl, g1, g2, b, g3, g4⟩ hrec
  unfold X1_sortReaches_b4
  have hN' : NetX M' a N := hN.of (fun c _ _ => g1 c (by omega))
  rw [hN'.1]
  refine ⟨fun c => ?_, fun c => ?_⟩
  · have e : i = N.P := by omega
    subst e
    have em : m' = N.R := by
      rw [g2]
      refine cnt_full (fun r hr' => ?_)
      unfold lexl
      simp only [decide_eq_true_eq]
      exact Or.inl (t2 _ (hr r hr').1).1
    subst em
    have hin : ∀ j k, j < N.R → k < N.R → b j = b k → j = k := fun j k hj hk e => by
      rcases Nat.lt_trichotomy j k with z | z | z
      · rcases g4 j k z hk with y | y <;> rw [e] at y <;> omega
      · exact z
      · rcases g4 k j z hj with y | y <;> rw [e] at y <;> omega
    refine h M' b g1 ⟨fun k hk => (g3 k hk).2.1, hin, pigeon (fun k hk => (g3 k hk).2.1) hin, fun j k hj hk e => ?_, fun j k hjk hk e => ?_⟩ (fun k hk => (g3 k hk).1)
    · have e1 := t3 (b j) (g3 j hj).2.1
      rw [e] at e1
      rcases Nat.lt_trichotomy j k with z | z | z
      · exact z
      · rw [z] at e1; omega
      · rcases g4 k j z hj with y | y
        · omega
        · rw [y.1] at e1; omega
    · rcases g4 j k hjk hk with y | y
      · rw [e] at y; omega
      · exact y.2
  · have hiP : i < N.P := by omega
    refine wl3_inv (I := fun (m v : Int) (M' : Mem) => ∃ j : Nat, v = j ∧ j ≤ N.R ∧ S i j m M') (μ := fun (_ v : Int) (_ : Mem) => N.R - v.toNat) ?_ 5000 _ _ _ ⟨0, rfl, by omega, m', rfl, g1, g2, b, g3, g4⟩ (by simp; omega)
    clear g1 g2 g3 g4 hN' b
    rintro rec' m v M2 ⟨j, rfl, hj, m2, rfl, g1, g2, b, g3, g4⟩ hrec'
    unfold X1_sortReaches_b15
    have hN' : NetX M2 a N := hN.of (fun c _ _ => g1 c (by omega))
    rw [hN'.2.1]
    refine ⟨fun c2 => ⟨by unfold inR; omega, ?_⟩, fun c2 => ⟨by omega, by omega, ?_⟩⟩
    · rintro _ rfl
      have e : j = N.R := by omega
      subst e
      have hlex : ∀ q, q < N.R → lexl N pos i N.R q = lexl N pos (i + 1) 0 q := fun q hq => by
        unfold lexl
        simp only [decide_eq_decide]
        omega
      refine hrec _ _ _ ⟨i + 1, by omega, by omega, m2, rfl, g1, by rw [g2]; exact cnt_congr hlex, b, fun k hk => ⟨(g3 k hk).1, (g3 k hk).2.1, by rw [← hlex _ (g3 k hk).2.1]; exact (g3 k hk).2.2⟩, g4⟩ (by omega)
    · have hjR : j < N.R := by omega
      obtain ⟨x1, -⟩ := hN'.2.2 j hjR
      obtain ⟨w1, w2, -⟩ := hr j hjR
      rw [tn, tn, x1, g1 (n + 1) (by omega), ho i hiP]
      obtain ⟨p1, p2⟩ := t2 _ w1
      obtain ⟨q1, q2⟩ := t1 i hiP
      refine ⟨fun q => ⟨by unfold inR; omega, ?_⟩, fun q => ?_⟩
      · rintro _ rfl
        have hne : pos (N.hd j) ≠ i := fun e => q (by rw [← p2, e])
        have hlex : ∀ q, lexl N pos i j q = lexl N pos i (j + 1) q := fun q => by
          unfold lexl
          simp only [decide_eq_decide]
          constructor
          · rintro (z | z)
            · exact Or.inl z
            · exact Or.inr (by omega)
          · rintro (z | z)
            · exact Or.inl z
            · refine Or.inr ⟨z.1, ?_⟩
              rcases Nat.lt_or_ge q j with y | y
              · exact y
              · have : q = j := by omega
                subst this
                exact absurd z.1 hne
        exact hrec' _ _ _ ⟨j + 1, by omega, by omega, m2, rfl, g1, by rw [g2]; exact cnt_congr (fun q _ => hlex q), b, fun k hk => ⟨(g3 k hk).1, (g3 k hk).2.1, by rw [← hlex]; exact (g3 k hk).2.2⟩, g4⟩ (by omega)
      · have hpos : pos (N.hd j) = i := by rw [show N.hd j = g i by omega]; exact q2
        have hf : lexl N pos i j j = false := by unfold lexl; simp only [decide_eq_false_iff_not]; omega
        have hlex : ∀ q, lexl N pos i (j + 1) q = (lexl N pos i j q || decide (q = j)) := fun q => by
          unfold lexl
          rw [Bool.eq_iff_iff]
          simp only [decide_eq_true_eq, Bool.or_eq_true]
          constructor
          · rintro (z | z)
            · exact Or.inl (Or.inl z)
            · rcases Nat.lt_or_ge q j with y | y
              · exact Or.inl (Or.inr ⟨z.1, y⟩)
              · exact Or.inr (by omega)
          · rintro ((z | z) | z)
            · exact Or.inl z
            · exact Or.inr (by omega)
            · subst z; exact Or.inr ⟨hpos, by omega⟩
        have hadd := cnt_add (n := N.R) hjR hf (fun q _ => hlex q)
        have hle := cnt_le (lexl N pos i (j + 1)) N.R
        refine ⟨fun c3 => by omega, fun c3 => ⟨by omega, ?_⟩⟩
        rintro _ rfl
        refine ⟨by unfold inR; omega, ?_⟩
        rintro _ rfl
        refine ⟨by unfold inR; omega, ?_⟩
        rintro _ rfl
        refine hrec' _ _ _ ⟨j + 1, by omega, by omega, m2 + 1, by omega, fun c hc => by rw [st_o hc]; exact g1 c hc, by omega, fun k => if k = m2 then j else b k, fun k hk => ?_, fun k l hkl hl => ?_⟩ (by omega)
        · rw [st_s, tn]
          dsimp only
          by_cases q : k = m2
          · rw [if_pos q, if_pos q]; exact ⟨rfl, hjR, by rw [hlex]; simp⟩
          · rw [if_neg q, if_neg q, hlex]
            obtain ⟨y1, y2, y3⟩ := g3 k (by omega)
            exact ⟨y1, y2, by rw [y3]; rfl⟩
        · dsimp only
          rw [if_neg (by omega : ¬ k = m2)]
          by_cases q : l = m2
          · rw [if_pos q]
            obtain ⟨y1, y2, y3⟩ := g3 k (by omega)
            unfold lexl at y3
            simp only [decide_eq_true_eq] at y3
            rcases y3 with y3 | y3
            · exact Or.inl (by omega)
            · exact Or.inr ⟨hinj _ _ (hr _ y2).1 w1 (by omega), y3.2⟩
          · rw [if_neg q]; exact g4 k l hkl (by omega)
end
