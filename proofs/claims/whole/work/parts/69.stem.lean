/-! along a stem -/
def chn (nx : Nat → Int) (t : Int) : Nat → Int
  | 0 => t
  | i + 1 => if chn nx t i = -1 then -1 else nx (chn nx t i).toNat
section
variable {N : Nt} {nx bf : Nat → Int} {pos : Nat → Nat} {t : Nat}
theorem chn_rng (hn : Nxt N nx bf) (hp : ∀ r, r < N.R → pos (N.hd r) < pos (N.ft r)) (ht : t < N.R) : ∀ i, chn nx t i = -1 ∨ ∃ c : Nat, chn nx t i = c ∧ c < N.R ∧ i ≤ pos (N.hd c)
  | 0 => Or.inr ⟨t, rfl, ht, by omega⟩
  | i + 1 => by
    unfold chn
    rcases chn_rng hn hp ht i with z | ⟨c, z1, z2, z3⟩
    · rw [if_pos z]; exact Or.inl rfl
    · rw [if_neg (by omega), z1, tn]
      rcases hn.1 c z2 with y | ⟨d, y1, y2, y3, -⟩
      · exact Or.inl y
      · have := hp c z2
        exact Or.inr ⟨d, y1, y2, by rw [y3]; omega⟩
theorem chn_end (hn : Nxt N nx bf) (hp : ∀ r, r < N.R → pos (N.hd r) < pos (N.ft r) ∧ pos (N.hd r) < 20) (ht : t < N.R) : ∃ m, 1 ≤ m ∧ m ≤ 20 ∧ chn nx t m = -1 ∧ ∀ i, i < m → chn nx t i ≠ -1 := by
  have h20 : chn nx t 20 = -1 := by
    rcases chn_rng hn (fun r hr => (hp r hr).1) ht 20 with z | ⟨c, z1, z2, z3⟩
    · exact z
    · have := (hp c z2).2; omega
  have key : ∀ k, (∃ m, m ≤ k ∧ chn nx t m = -1 ∧ ∀ i, i < m → chn nx t i ≠ -1) ∨ ∀ i, i ≤ k → chn nx t i ≠ -1 := by
    intro k
    induction k with
    | zero =>
      refine Or.inr (fun i hi => ?_)
      rw [show i = 0 by omega]
      show (t : Int) ≠ -1
      omega
    | succ k ih =>
      rcases ih with ⟨m, a1, a2, a3⟩ | ih
      · exact Or.inl ⟨m, by omega, a2, a3⟩
      · by_cases z : chn nx t (k + 1) = -1
        · exact Or.inl ⟨k + 1, by omega, z, fun i hi => ih i (by omega)⟩
        · refine Or.inr (fun i hi => ?_)
          rcases Nat.lt_or_ge i (k + 1) with y | y
          · exact ih i (by omega)
          · rw [show i = k + 1 by omega]; exact z
  rcases key 20 with ⟨m, a1, a2, a3⟩ | z
  · refine ⟨m, ?_, a1, a2, a3⟩
    rcases Nat.eq_zero_or_pos m with y | y
    · subst y
      have : (t : Int) = -1 := a2
      omega
    · exact y
  · exact absurd h20 (z 20 (by omega))
theorem chn_after {m : Nat} (h : chn nx t m = -1) : ∀ i, chn nx t (m + i) = -1
  | 0 => h
  | i + 1 => by
    show (if chn nx t (m + i) = -1 then -1 else _) = -1
    rw [if_pos (chn_after h i)]
end
section
variable {M : Mem} {N : Nt} {n : Nat} {pos : Nat → Nat}
theorem x_topOf {r : Nat} {nx : Nat → Int} {C : Nat → Prop} (hr : r < N.R) (hR : N.R ≤ 30) (hP : ∀ r, r < N.R → pos (N.hd r) < pos (N.ft r) ∧ pos (N.hd r) < 20) (hn : Nxt N nx (M (n + 4))) (h0 : C r) (hs : ∀ c d : Nat, c < N.R → d < N.R → C c → M (n + 4) c = d → C d) {Q : Int → Prop} (h : ∀ t : Nat, t < N.R → C t → M (n + 4) t = -1 → Q t) : f_X9_topOf n (r : Int) M Q := by
  unfold f_X9_topOf
  refine wl2_inv (I := fun (v i : Int) => ∃ t k : Nat, v = t ∧ i = k ∧ t < N.R ∧ C t ∧ k + pos (N.hd t) ≤ 19) (μ := fun (v _ : Int) => pos (N.hd v.toNat)) ?_ 5000 _ _ ⟨r, 0, rfl, rfl, hr, h0, by have := (hP r hr).2; omega⟩ (by rw [tn]; have := (hP r hr).2; omega)
  rintro rec v i ⟨t, k, rfl, rfl, ht, hC, hk⟩ hrec
  unfold X9_topOf_b4
  refine ⟨fun c => by omega, fun c => ⟨by omega, ?_⟩⟩
  rw [tn]
  refine ⟨fun c2 => h t ht hC c2, fun c2 => ?_⟩
  rintro _ rfl
  refine ⟨by unfold inR; omega, ?_⟩
  rintro _ rfl
  rcases hn.2 t ht with z | ⟨d, z1, z2, z3, -⟩
  · exact absurd z c2
  · have h3 := (hP d z2).1
    rw [z3] at h3
    rw [z1]
    exact hrec _ _ ⟨d, k + 1, rfl, by omega, z2, hs t d ht z2 hC z1, by omega⟩ (by rw [tn, tn]; exact h3)
theorem x_howMany {t m : Nat} {bf : Nat → Int} (ht : t < N.R) (hR : N.R ≤ 30) (hP : ∀ r, r < N.R → pos (N.hd r) < pos (N.ft r) ∧ pos (N.hd r) < 20) (hn : Nxt N (M (n + 3)) bf) (hm0 : 1 ≤ m) (hm1 : m ≤ 20) (hm2 : chn (M (n + 3)) t m = -1) (hm3 : ∀ i, i < m → chn (M (n + 3)) t i ≠ -1) {Q : Int → Prop} (h : Q m) : f_X9_howMany n (t : Int) M Q := by
  unfold f_X9_howMany
  refine wl3_inv (I := fun (c a i : Int) => ∃ k : Nat, c = (k : Int) + 1 ∧ i = k ∧ k < m ∧ a = chn (M (n + 3)) t k) (μ := fun (_ _ i : Int) => m - i.toNat) ?_ 5000 _ _ _ ⟨0, rfl, rfl, by omega, rfl⟩ (by simp; omega)
  rintro rec c a i ⟨k, rfl, rfl, hk, rfl⟩ hrec
  unfold X9_howMany_b7
  rcases chn_rng hn (fun r hr => (hP r hr).1) ht k with z | ⟨d, z1, z2, z3⟩
  · exact absurd z (hm3 k hk)
  have e : chn (M (n + 3)) t (k + 1) = M (n + 3) d := by
    show (if chn (M (n + 3)) t k = -1 then -1 else _) = _
    rw [if_neg (by omega), z1, tn]
  refine ⟨fun c => by omega, fun c => ⟨by omega, ?_⟩⟩
  rw [z1, tn, ← e]
  refine ⟨fun c2 => ?_, fun c2 => ?_⟩
  · have : m = k + 1 := by
      rcases Nat.lt_or_ge (k + 1) m with y | y
      · exact absurd c2 (hm3 _ y)
      · omega
    rw [show (k : Int) + 1 = (m : Int) by omega]; exact h
  · rintro _ rfl
    refine ⟨by unfold inR; omega, ?_⟩
    rintro _ rfl
    refine ⟨by unfold inR; omega, ?_⟩
    rintro _ rfl
    have hlt : k + 1 < m := by
      rcases Nat.lt_or_ge (k + 1) m with y | y
      · exact y
      · rw [show k + 1 = m by omega] at c2; exact absurd hm2 c2
    exact hrec _ _ _ ⟨k + 1, by omega, by omega, hlt, rfl⟩ (by omega)
theorem x_nth {t m : Nat} {k : Int} {bf : Nat → Int} (ht : t < N.R) (hR : N.R ≤ 30) (hP : ∀ r, r < N.R → pos (N.hd r) < pos (N.ft r) ∧ pos (N.hd r) < 20) (hn : Nxt N (M (n + 3)) bf) (hm1 : m ≤ 20) (hm2 : chn (M (n + 3)) t m = -1) {Q : Int → Prop} (h : 0 ≤ k → Q (chn (M (n + 3)) t k.toNat)) (h0 : k < 0 → Q (-1)) : f_X9_nth n (t : Int) k M Q := by
  unfold f_X9_nth
  refine ⟨fun c => ?_, fun c => h0 (by omega)⟩
  refine wl2_inv (I := fun (a i : Int) => ∃ j : Nat, i = j ∧ (j : Int) ≤ k ∧ j ≤ m ∧ a = chn (M (n + 3)) t j) (μ := fun (_ i : Int) => m + 1 - i.toNat) ?_ 5000 _ _ ⟨0, rfl, c, by omega, rfl⟩ (by simp; omega)
  rintro rec a i ⟨j, rfl, hj, hjm, rfl⟩ hrec
  unfold X9_nth_b11
  refine ⟨fun c1 => ?_, fun c1 => ⟨fun c2 => ?_, fun c2 => ?_⟩⟩
  · have := h c
    rwa [show k.toNat = j by omega] at this
  · have := h c
    obtain ⟨d, hd⟩ : ∃ d, k.toNat = j + d := ⟨k.toNat - j, by omega⟩
    rw [hd, chn_after c2] at this
    rw [c2]; exact this
  · rcases chn_rng hn (fun r hr => (hP r hr).1) ht j with z | ⟨d, z1, z2, z3⟩
    · exact absurd z c2
    have e : chn (M (n + 3)) t (j + 1) = M (n + 3) d := by
      show (if chn (M (n + 3)) t j = -1 then -1 else _) = _
      rw [if_neg (by omega), z1, tn]
    have hjm2 : j < m := by
      rcases Nat.lt_or_ge j m with y | y
      · exact y
      · rw [show j = m by omega] at c2; exact absurd hm2 c2
    refine ⟨by omega, ?_⟩
    rw [z1, tn, ← e]
    rintro _ rfl
    refine ⟨by unfold inR; omega, ?_⟩
    rintro _ rfl
    exact hrec _ _ ⟨j + 1, by omega, by omega, by omega, rfl⟩ (by omega)
end
