/-! what follows from a net: ends, orders, what lies up and down -/
theorem st_o {M : Mem} {c i : Nat} {v : Int} {d : Nat} (h : d ≠ c) : st M c i v d = M d := by funext j; simp [st_v, h]
theorem st_s {M : Mem} {c i : Nat} {v : Int} {j : Nat} : st M c i v c j = if j = i then v else M c j := by simp [st_v]
theorem fil_n {M : Mem} {c i : Nat} {v : Int} {d : Nat} (h : d ≠ c) : fil M c i v d = M d := by funext j; simp [fil_v, h]
theorem fil_e {M : Mem} {c i : Nat} {v : Int} {j : Nat} : fil M c i v c j = if j < i then v else M c j := by simp [fil_v]
theorem NetX.of {M M' : Mem} {a : Nat} {N : Nt} (h : NetX M a N) (e : ∀ c, a ≤ c → c ≤ a + 5 → M' c = M c) : NetX M' a N := by
  obtain ⟨h1, h2, h3⟩ := h
  refine ⟨by rw [e a (by omega) (by omega)]; exact h1, by rw [e a (by omega) (by omega)]; exact h2, fun r hr => ?_⟩
  rw [e (a + 1) (by omega) (by omega), e (a + 2) (by omega) (by omega), e (a + 3) (by omega) (by omega), e (a + 4) (by omega) (by omega), e (a + 5) (by omega) (by omega)]
  exact h3 r hr
theorem NetR.of {M M' : Mem} {a : Nat} {N : Nt} (h : NetR M a N) (e : M' a = M a) : NetR M' a N := by
  unfold NetR
  rw [e]
  exact h
def nin (N : Nt) (p : Nat) : Nat := cnt (fun r => decide (N.ft r = p)) N.R
def nout (N : Nt) (p : Nat) : Nat := cnt (fun r => decide (N.hd r = p)) N.R
def isS (N : Nt) (p : Nat) : Prop := p < N.P ∧ 0 < nout N p ∧ nin N p = 0
def isM (N : Nt) (p : Nat) : Prop := p < N.P ∧ 0 < nin N p ∧ nout N p = 0
theorem cnt_s (f : Nat → Bool) (n : Nat) : cnt f (n + 1) = cnt f n + (if f n = true then 1 else 0) := rfl
section
variable {M : Mem} {N : Nt} {n a : Nat}
theorem x_countEnds (hN : NetX M a N) (hW : Wf N) (ha : a + 5 < n) {Q : Mem → Prop} (h : ∀ M' : Mem, (∀ c, c ≠ n → c ≠ n + 3 → c ≠ n + 4 → M' c = M c) → (∀ j, j ≠ 11 → j ≠ 12 → M' n j = M n j) → (∀ p, p < 20 → M' (n + 3) p = nin N p ∧ M' (n + 4) p = nout N p) → (inR (M' n 11) ∧ ∀ p, tb (M' n 11) p = true ↔ isS N p) → (inR (M' n 12) ∧ ∀ p, tb (M' n 12) p = true ↔ isM N p) → Q M') : f_X1_countEnds n a M Q := by
  obtain ⟨hP20, hR30, hr⟩ := id hW
  unfold f_X1_countEnds
  rintro _ rfl
  rintro _ rfl
  refine jn_use (P := fun J => ∀ M' : Mem, (∀ c, c ≠ n + 3 → c ≠ n + 4 → M' c = M c) → (∀ p, p < 20 → M' (n + 3) p = nin N p ∧ M' (n + 4) p = nout N p) → J M') ?_ ?_
  · intro M1 hf hc
    rintro _ rfl
    rintro _ rfl
    refine wl2_inv (I := fun (v : Int) (M' : Mem) => ∃ k : Nat, v = k ∧ k ≤ N.P ∧ (∀ c, c ≠ n → M' c = M1 c) ∧ (∀ j, j ≠ 11 → j ≠ 12 → M' n j = M n j) ∧ (inR (M' n 11) ∧ ∀ p, tb (M' n 11) p = true ↔ p < k ∧ 0 < nout N p ∧ nin N p = 0) ∧ (inR (M' n 12) ∧ ∀ p, tb (M' n 12) p = true ↔ p < k ∧ 0 < nin N p ∧ nout N p = 0)) (μ := fun (v : Int) (_ : Mem) => N.P - v.toNat) ?_ 5000 _ _ ⟨0, rfl, by omega, fun c hc => by rw [st_o hc, st_o hc], fun j h1 h2 => by rw [st_s, if_neg h2, st_s, if_neg h1, hf n (by omega) (by omega)], ⟨by rw [st_s, if_neg (by omega), st_s, if_pos rfl]; unfold inR; omega, fun p => by rw [st_s, if_neg (by omega), st_s, if_pos rfl, tb_0]; simp⟩, ⟨by rw [st_s, if_pos rfl]; unfold inR; omega, fun p => by rw [st_s, if_pos rfl, tb_0]; simp⟩⟩ (by simp; omega)
    rintro rec v M' ⟨k, rfl, hk, g1, g2, g3, g4⟩ hrec
    unfold X1_countEnds_b74
    have hN' : NetX M' a N := hN.of (fun c _ _ => by rw [g1 c (by omega), hf c (by omega) (by omega)])
    rw [hN'.1]
    refine ⟨fun c => ?_, fun c => ⟨by omega, ?_⟩⟩
    · have e : k = N.P := by omega
      subst e
      exact h M' (fun c h1 h2 h3 => by rw [g1 c h1, hf c h2 h3]) g2 (fun p hp => by rw [g1 (n + 3) (by omega), g1 (n + 4) (by omega)]; exact hc p hp) g3 g4
    · have hkP : k < N.P := by omega
      obtain ⟨c3, c4⟩ := hc k (by omega)
      have e3 : M' (n + 3) k = nin N k := by rw [g1 (n + 3) (by omega)]; exact c3
      have e4 : M' (n + 4) k = nout N k := by rw [g1 (n + 4) (by omega)]; exact c4
      have hor : ∀ (x : Int) p, tb (bOr x (bShl 1 (k : Int))) p = true ↔ tb x p = true ∨ p = k := fun x p => by rw [tb_or, tb_one (by omega)]; simp
      refine jn_use (P := fun J => ∀ M2 : Mem, (∀ c, c ≠ n → M2 c = M1 c) → (∀ j, j ≠ 11 → j ≠ 12 → M2 n j = M n j) → (inR (M2 n 11) ∧ ∀ p, tb (M2 n 11) p = true ↔ p < k + 1 ∧ 0 < nout N p ∧ nin N p = 0) → (inR (M2 n 12) ∧ ∀ p, tb (M2 n 12) p = true ↔ p < k ∧ 0 < nin N p ∧ nout N p = 0) → J M2) ?_ ?_
      · intro M2 i1 i2 i3 i4
        have e3 : M2 (n + 3) k = nin N k := by rw [i1 (n + 3) (by omega)]; exact c3
        have e4 : M2 (n + 4) k = nout N k := by rw [i1 (n + 4) (by omega)]; exact c4
        have hstep : ∀ M3 : Mem, (∀ c, c ≠ n → M3 c = M1 c) → (∀ j, j ≠ 11 → j ≠ 12 → M3 n j = M n j) → (inR (M3 n 11) ∧ ∀ p, tb (M3 n 11) p = true ↔ p < k + 1 ∧ 0 < nout N p ∧ nin N p = 0) → (inR (M3 n 12) ∧ ∀ p, tb (M3 n 12) p = true ↔ p < k + 1 ∧ 0 < nin N p ∧ nout N p = 0) → inR ((k : Int) + 1) ∧ ∀ v : Int, v = (k : Int) + 1 → rec v M3 := by
          intro M3 j1 j2 j3 j4
          refine ⟨by unfold inR; omega, ?_⟩
          rintro _ rfl
          exact hrec _ _ ⟨k + 1, by omega, by omega, j1, j2, j3, j4⟩ (by omega)
        rw [tn, e3, e4]
        have hno : ¬ (0 < nin N k ∧ nout N k = 0) → ∀ p, tb (M2 n 12) p = true ↔ p < k + 1 ∧ 0 < nin N p ∧ nout N p = 0 := fun hh p => by
          rw [i4.2 p]
          constructor
          · rintro ⟨z1, z2⟩; exact ⟨by omega, z2⟩
          · rintro ⟨z1, z2⟩
            refine ⟨?_, z2⟩
            rcases Nat.lt_or_ge p k with z | z
            · exact z
            · have : p = k := by omega
              subst this
              exact absurd z2 hh
        refine ⟨fun q => hstep M2 i1 i2 i3 ⟨i4.1, hno (by omega)⟩, fun q => ⟨fun q2 => hstep M2 i1 i2 i3 ⟨i4.1, hno (by omega)⟩, fun q2 => ?_⟩⟩
        rintro _ rfl
        refine hstep _ (fun c hc => by rw [st_o hc]; exact i1 c hc) (fun j h1 h2 => by rw [st_s, if_neg h2]; exact i2 j h1 h2) (by rw [st_s, if_neg (by omega)]; exact i3) ?_
        rw [st_s, if_pos rfl]
        refine ⟨bOr_in _ _, fun p => ?_⟩
        rw [hor, i4.2 p]
        constructor
        · rintro (⟨z1, z2⟩ | z)
          · exact ⟨by omega, z2⟩
          · subst z; exact ⟨by omega, by omega, by omega⟩
        · rintro ⟨z1, z2⟩
          rcases Nat.lt_or_ge p k with z | z
          · exact Or.inl ⟨z, z2⟩
          · exact Or.inr (by omega)
      · intro J hJ
        rw [tn, e3, e4]
        have hno : ¬ (0 < nout N k ∧ nin N k = 0) → ∀ p, tb (M' n 11) p = true ↔ p < k + 1 ∧ 0 < nout N p ∧ nin N p = 0 := fun hh p => by
          rw [g3.2 p]
          constructor
          · rintro ⟨z1, z2⟩; exact ⟨by omega, z2⟩
          · rintro ⟨z1, z2⟩
            refine ⟨?_, z2⟩
            rcases Nat.lt_or_ge p k with z | z
            · exact z
            · have : p = k := by omega
              subst this
              exact absurd z2 hh
        refine ⟨fun q => hJ M' g1 g2 ⟨g3.1, hno (by omega)⟩ g4, fun q => ⟨fun q2 => hJ M' g1 g2 ⟨g3.1, hno (by omega)⟩ g4, fun q2 => ?_⟩⟩
        rintro _ rfl
        refine hJ _ (fun c hc => by rw [st_o hc]; exact g1 c hc) (fun j h1 h2 => by rw [st_s, if_neg h1]; exact g2 j h1 h2) ?_ (by rw [st_s, if_neg (by omega)]; exact g4)
        rw [st_s, if_pos rfl]
        refine ⟨bOr_in _ _, fun p => ?_⟩
        rw [hor, g3.2 p]
        constructor
        · rintro (⟨z1, z2⟩ | z)
          · exact ⟨by omega, z2⟩
          · subst z; exact ⟨by omega, by omega, by omega⟩
        · rintro ⟨z1, z2⟩
          rcases Nat.lt_or_ge p k with z | z
          · exact Or.inl ⟨z, z2⟩
          · exact Or.inr (by omega)
  · intro J hJ
    refine wl2_inv (I := fun (v : Int) (M' : Mem) => ∃ k : Nat, v = k ∧ k ≤ N.R ∧ (∀ c, c ≠ n + 3 → c ≠ n + 4 → M' c = M c) ∧ (∀ p, p < 20 → M' (n + 3) p = cnt (fun r => decide (N.ft r = p)) k ∧ M' (n + 4) p = cnt (fun r => decide (N.hd r = p)) k)) (μ := fun (v : Int) (_ : Mem) => N.R - v.toNat) ?_ 5000 _ _ ⟨0, rfl, by omega, fun c h1 h2 => by rw [fil_n h2, fil_n h1], fun p hp => by rw [fil_e, if_pos hp, fil_n (by omega), fil_e, if_pos hp]; exact ⟨rfl, rfl⟩⟩ (by simp; omega)
    rintro rec v M' ⟨k, rfl, hk, g1, g2⟩ hrec
    unfold X1_countEnds_b18
    have hN' : NetX M' a N := hN.of (fun c _ _ => g1 c (by omega) (by omega))
    rw [hN'.2.1]
    refine ⟨fun c => ?_, fun c => ?_⟩
    · have e : k = N.R := by omega
      subst e
      exact hJ M' g1 g2
    · have hkR : k < N.R := by omega
      obtain ⟨x1, x2, -, -, -⟩ := hN'.2.2 k hkR
      obtain ⟨w1, w2, -⟩ := hr k hkR
      have c1 := (g2 (N.hd k) (by omega)).2
      have c2 := (g2 (N.ft k) (by omega)).1
      have l1 := cnt_le (fun r => decide (N.hd r = N.hd k)) k
      have l2 := cnt_le (fun r => decide (N.ft r = N.ft k)) k
      refine ⟨by omega, ?_⟩
      rw [tn, x1, tn, c1]
      refine ⟨by omega, by unfold inR; omega, ?_⟩
      rintro _ rfl
      rw [st_o (show a + 2 ≠ n + 4 by omega), st_o (show n + 3 ≠ n + 4 by omega), x2, tn, c2]
      refine ⟨by omega, by unfold inR; omega, ?_⟩
      rintro _ rfl
      refine ⟨by unfold inR; omega, ?_⟩
      rintro _ rfl
      refine hrec _ _ ⟨k + 1, by omega, by omega, fun c h1 h2 => by rw [st_o h1, st_o h2]; exact g1 c h1 h2, fun p hp => ?_⟩ (by omega)
      obtain ⟨d1, d2⟩ := g2 p hp
      rw [st_s, st_o (show n + 4 ≠ n + 3 by omega), st_o (show n + 3 ≠ n + 4 by omega), st_s, cnt_s, cnt_s]
      refine ⟨?_, ?_⟩
      · by_cases q : p = N.ft k
        · subst q; simp
        · rw [if_neg q, d1, if_neg (by simp; omega)]; simp
      · by_cases q : p = N.hd k
        · subst q; simp
        · rw [if_neg q, d2, if_neg (by simp; omega)]; simp
end
