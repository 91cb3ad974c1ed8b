/-! acts that can be undone -/
def Pk (N : Nt) (r : Nat) : Nat := N.hd r + N.ft r * 2 ^ 5 + (N.ln r).toNat * 2 ^ 10 + (N.gf r).toNat * 2 ^ 17 + (N.rv r + 1).toNat * 2 ^ 24
def HisX (M : Mem) (s : Nat) (K : Nt) : Prop := K.R ≤ 30 ∧ M 59 (32 * s) = K.P ∧ M 59 (32 * s + 1) = K.R ∧ ∀ r, r < K.R → M 59 (32 * s + 2 + r) = (Pk K r : Int)
def HstX (M : Mem) (A F : Nat) (H : Nat → Nt) : Prop := M 58 0 = A ∧ M 58 1 = F ∧ A ≤ 20 ∧ F < 20 ∧ ∀ j, j < A → HisX M ((F + A - 1 - j) % 20) (H j)
def HstR (M : Mem) (A W : Nat) (H : Nat → Nat → Int) : Prop := M 95 41 = A ∧ M 95 42 = W ∧ A ≤ 20 ∧ W < 20 ∧ ∀ j, j < A → ∀ k, k < 183 → M 124 (183 * ((W + 20 - j) % 20) + k) = H j k
def pshX (a : Nt) (H : Nat → Nt) (j : Nat) : Nt := if j = 0 then a else H (j - 1)
def pshR (a : Nat → Int) (H : Nat → Nat → Int) (j : Nat) : Nat → Int := if j = 0 then a else H (j - 1)
section
variable {M : Mem} {N : Nt}
theorem x_packed {r : Nat} (hN : NetX M 12 N) (hW : Wf N) (hr : r < N.R) {Q : Int → Prop} (h : Q (Pk N r : Int)) : f_X5_packed 12 (r : Int) M Q := by
  have hR := hW.2.1
  have hP := hW.1
  obtain ⟨x1, x2, x3, x4, x5⟩ := hN.2.2 r hr
  obtain ⟨w1, w2, w3, w4, w5, w6, w7, w8⟩ := hW.2.2 r hr
  unfold f_X5_packed
  refine ⟨by omega, ?_⟩
  rw [tn, x1, x2, x3, x4, x5]
  obtain ⟨l, hl⟩ : ∃ l : Nat, N.ln r = l := ⟨(N.ln r).toNat, by omega⟩
  obtain ⟨g, hg⟩ : ∃ g : Nat, N.gf r = g := ⟨(N.gf r).toNat, by omega⟩
  obtain ⟨v, hv⟩ : ∃ v : Nat, N.rv r + 1 = v := ⟨(N.rv r + 1).toNat, by omega⟩
  unfold Pk at h
  rw [hl, hg, hv, tn, tn, tn] at h
  rw [hl, hg, hv]
  have e1 := bOrShl (a := N.hd r) (b := N.ft r) (s := 5) (by omega) (by omega) (by omega)
  have e2 := bOrShl (a := N.hd r + N.ft r * 2 ^ 5) (b := l) (s := 10) (by omega) (by omega) (by omega)
  have e3 := bOrShl (a := N.hd r + N.ft r * 2 ^ 5 + l * 2 ^ 10) (b := g) (s := 17) (by omega) (by omega) (by omega)
  have e4 := bOrShl (a := N.hd r + N.ft r * 2 ^ 5 + l * 2 ^ 10 + g * 2 ^ 17) (b := v) (s := 24) (by omega) (by omega) (by omega)
  rw [show ((5 : Nat) : Int) = 5 from rfl] at e1
  rw [show ((10 : Nat) : Int) = 10 from rfl] at e2
  rw [show ((17 : Nat) : Int) = 17 from rfl] at e3
  rw [show ((24 : Nat) : Int) = 24 from rfl] at e4
  rw [e1, e2, e3, e4]
  exact h
theorem x_unpack {r : Nat} {K : Nt} (hW : Wf K) (hr : r < K.R) {Q : Mem → Prop} (h : ∀ M' : Mem, (∀ c, c < 13 ∨ 17 < c → M' c = M c) → (∀ c q, q ≠ r → M' c q = M c q) → (M' (12 + 1) r = K.hd r ∧ M' (12 + 2) r = K.ft r ∧ M' (12 + 3) r = K.ln r ∧ M' (12 + 4) r = K.gf r ∧ M' (12 + 5) r = K.rv r) → Q M') : f_X5_unpack 12 (r : Int) (Pk K r : Int) M Q := by
  have hR := hW.2.1
  have hP := hW.1
  obtain ⟨w1, w2, w3, w4, w5, w6, w7, w8⟩ := hW.2.2 r hr
  obtain ⟨l, hl⟩ : ∃ l : Nat, K.ln r = l := ⟨(K.ln r).toNat, by omega⟩
  obtain ⟨g, hg⟩ : ∃ g : Nat, K.gf r = g := ⟨(K.gf r).toNat, by omega⟩
  obtain ⟨v, hv⟩ : ∃ v : Nat, K.rv r + 1 = v := ⟨(K.rv r + 1).toNat, by omega⟩
  obtain ⟨z, hz⟩ : ∃ z, z = Pk K r := ⟨_, rfl⟩
  have hz2 : z = K.hd r + K.ft r * 32 + l * 1024 + g * 131072 + v * 16777216 := by
    rw [hz]
    unfold Pk
    rw [hl, hg, hv, tn, tn, tn]
  have hzl : z < 2147483648 := by omega
  have a0 := bAnd31 (a := z) hzl
  have s5 := bShr_nat (a := z) (s := 5) hzl (by omega)
  have s10 := bShr_nat (a := z) (s := 10) hzl (by omega)
  have s17 := bShr_nat (a := z) (s := 17) hzl (by omega)
  have s24 := bShr_nat (a := z) (s := 24) hzl (by omega)
  rw [show ((5 : Nat) : Int) = 5 from rfl, show (2 ^ 5 : Nat) = 32 from rfl] at s5
  rw [show ((10 : Nat) : Int) = 10 from rfl, show (2 ^ 10 : Nat) = 1024 from rfl] at s10
  rw [show ((17 : Nat) : Int) = 17 from rfl, show (2 ^ 17 : Nat) = 131072 from rfl] at s17
  rw [show ((24 : Nat) : Int) = 24 from rfl, show (2 ^ 24 : Nat) = 16777216 from rfl] at s24
  have a5 := bAnd31 (a := z / 32) (by omega)
  have a10 := bAnd127 (a := z / 1024) (by omega)
  have a17 := bAnd127 (a := z / 131072) (by omega)
  have a24 := bAnd15 (a := z / 16777216) (by omega)
  unfold f_X5_unpack
  rw [← hz, s5, s10, s17, s24, a0, a5, a10, a17, a24, tn]
  refine ⟨by omega, ?_⟩
  rintro _ rfl
  rintro _ rfl
  rintro _ rfl
  rintro _ rfl
  refine ⟨by unfold inR; omega, ?_⟩
  rintro _ rfl
  refine h _ (fun c hc => by rw [st_o (by omega), st_o (by omega), st_o (by omega), st_o (by omega), st_o (by omega)]) (fun c q hq => ?_) ⟨?_, ?_, ?_, ?_, ?_⟩
  · simp only [st_v, hq, if_false, ite_self]
  · rw [st_o (by omega), st_o (by omega), st_o (by omega), st_o (by omega), st_s, if_pos rfl]; omega
  · rw [st_o (by omega), st_o (by omega), st_o (by omega), st_s, if_pos rfl]; omega
  · rw [st_o (by omega), st_o (by omega), st_s, if_pos rfl]; omega
  · rw [st_o (by omega), st_s, if_pos rfl]; omega
  · rw [st_s, if_pos rfl]; omega
theorem x_keep {A F : Nat} {H : Nat → Nt} (hN : NetX M 12 N) (hW : Wf N) (hH : HstX M A F H) {Q : Mem → Prop} (h : ∀ (M' : Mem) (A' F' : Nat), (∀ c, c ≠ 58 → c ≠ 59 → M' c = M c) → A' = (if A = 20 then 20 else A + 1) → HstX M' A' F' (pshX N H) → Q M') : f_X3_keep 12 M Q := by
  have hR := hW.2.1
  obtain ⟨a1, a2, a3, a4, a5⟩ := hH
  unfold f_X3_keep
  refine jn_use (P := fun J => ∀ (M1 : Mem) (A1 F1 : Nat), (∀ c, c ≠ 58 → M1 c = M c) → M1 58 0 = A1 → M1 58 1 = F1 → A1 < 20 → F1 < 20 → A1 + 1 = (if A = 20 then 20 else A + 1) → (∀ j, j < A1 → (F + A - 1 - j) % 20 = (F1 + A1 - (j + 1)) % 20) → J M1) ?_ ?_
  · intro M1 A1 F1 f1 f2 f3 f4 f5 f6 f7
    rw [f2, f3, Int.tmod_eq_emod_of_nonneg (by omega)]
    obtain ⟨s, hs⟩ : ∃ s, s = (F1 + A1) % 20 := ⟨_, rfl⟩
    have hs' : ((F1 : Int) + A1) % 20 = (s : Int) := by omega
    rw [hs']
    refine ⟨by unfold inR; omega, by unfold inR; omega, ?_⟩
    rintro _ rfl
    have hN1 : NetX M1 12 N := hN.of (fun c _ _ => f1 c (by omega))
    refine ⟨by omega, ?_⟩
    rintro _ rfl
    refine ⟨by omega, ?_⟩
    rintro _ rfl
    rw [st_o (show 12 ≠ 59 by omega), hN1.1, hN1.2.1, show ((s : Int) * 32).toNat = 32 * s by omega, show ((s : Int) * 32 + 1).toNat = 32 * s + 1 by omega]
    refine wl2_inv (I := fun (v : Int) (M' : Mem) => ∃ r : Nat, v = r ∧ r ≤ N.R ∧ (∀ c, c ≠ 59 → M' c = M1 c) ∧ M' 59 (32 * s) = N.P ∧ M' 59 (32 * s + 1) = N.R ∧ (∀ i, i < r → M' 59 (32 * s + 2 + i) = (Pk N i : Int)) ∧ ∀ x, (x < 32 * s ∨ 32 * s + 32 ≤ x) → M' 59 x = M1 59 x) (μ := fun (v : Int) (_ : Mem) => N.R - v.toNat) ?_ 5000 _ _ ⟨0, rfl, by omega, fun c hc => by rw [st_o hc, st_o hc], ?_, ?_, fun i hi => by omega, fun x hx => ?_⟩ (by simp; omega)
    rotate_left
    · rw [st_s, if_neg (by omega), st_s, if_pos rfl]
    · rw [st_s, if_pos rfl]
    · rw [st_s, if_neg (by omega), st_s, if_neg (by omega)]
    rintro rec v M' ⟨r, rfl, hr, g1, g2, g3, g4, g5⟩ hrec
    unfold X3_keep_b72
    have hN' : NetX M' 12 N := hN1.of (fun c _ _ => g1 c (by omega))
    rw [hN'.2.1]
    refine ⟨fun c => ?_, fun c => x_packed hN' hW (by omega) ⟨by omega, ?_⟩⟩
    · rw [g1 58 (by omega), f2]
      refine ⟨by unfold inR; omega, ?_⟩
      rintro _ rfl
      refine h _ (A1 + 1) F1 (fun c q1 q2 => by rw [st_o q1, g1 c q2, f1 c q1]) f6 ⟨by rw [st_s, if_pos rfl]; omega, by rw [st_s, if_neg (by omega), g1 58 (by omega)]; exact f3, by omega, f5, fun j hj => ?_⟩
      unfold pshX
      by_cases e : j = 0
      · rw [if_pos e, show (F1 + (A1 + 1) - 1 - j) % 20 = s by omega]
        unfold HisX
        rw [st_o (show 59 ≠ 58 by omega)]
        exact ⟨hR, g2, g3, fun i hi => g4 i (by omega)⟩
      · rw [if_neg e]
        obtain ⟨i, rfl⟩ : ∃ i, j = i + 1 := ⟨j - 1, by omega⟩
        have hsl := f7 i (by omega)
        rw [show i + 1 - 1 = i by omega, show F1 + (A1 + 1) - 1 - (i + 1) = F1 + A1 - (i + 1) by omega, ← hsl]
        obtain ⟨y, hy⟩ : ∃ y, y = (F + A - 1 - i) % 20 := ⟨_, rfl⟩
        have hys : y ≠ s := by omega
        have hA : i < A := by
          by_cases z : A = 20
          · omega
          · rw [if_neg z] at f6; omega
        have hold := a5 i hA
        rw [← hy] at hold ⊢
        obtain ⟨b0, b1, b2, b3⟩ := hold
        unfold HisX
        rw [st_o (show 59 ≠ 58 by omega)]
        have hmv : ∀ q, q < 32 → M' 59 (32 * y + q) = M 59 (32 * y + q) := fun q hq => by rw [g5 _ (by omega), f1 59 (by omega)]
        refine ⟨b0, by rw [show 32 * y = 32 * y + 0 by omega, hmv 0 (by omega)]; exact b1, by rw [hmv 1 (by omega)]; exact b2, fun q hq => ?_⟩
        rw [show 32 * y + 2 + q = 32 * y + (2 + q) by omega, hmv (2 + q) (by omega), show 32 * y + (2 + q) = 32 * y + 2 + q by omega]
        exact b3 q hq
    · rintro _ rfl
      refine ⟨by unfold inR; omega, ?_⟩
      rintro _ rfl
      rw [show ((s : Int) * 32 + 2 + (r : Int)).toNat = 32 * s + 2 + r by omega]
      refine hrec _ _ ⟨r + 1, by omega, by omega, fun c hc => by rw [st_o hc]; exact g1 c hc, ?_, ?_, fun i hi => ?_, fun x hx => ?_⟩ (by omega)
      · rw [st_s, if_neg (by omega)]; exact g2
      · rw [st_s, if_neg (by omega)]; exact g3
      · rw [st_s]
        by_cases e : i = r
        · rw [if_pos (by omega), e]
        · rw [if_neg (by omega)]; exact g4 i (by omega)
      · rw [st_s, if_neg (by omega)]; exact g5 x hx
  · intro J hJ
    rw [a1, a2]
    refine ⟨fun c => hJ M A F (fun c _ => rfl) a1 a2 (by omega) a4 (by rw [if_neg (by omega)]) (fun j hj => by rw [show F + A - 1 - j = F + A - (j + 1) by omega]), fun c => ⟨by unfold inR; omega, ?_⟩⟩
    rintro _ rfl
    rw [st_s, if_neg (by omega), a1]
    refine ⟨by unfold inR; omega, ?_⟩
    rintro _ rfl
    have hA : A = 20 := by omega
    refine hJ _ 19 ((F + 1) % 20) (fun c hc => by rw [st_o hc, st_o hc]) (by rw [st_s, if_pos rfl]; omega) (by rw [st_s, if_neg (by omega), st_s, if_pos rfl, Int.tmod_eq_emod_of_nonneg (by omega)]; omega) (by omega) (by omega) (by rw [if_pos hA]) (fun j hj => by rw [hA]; omega)
theorem x_restore {A F : Nat} {H : Nat → Nt} (hW : Wf (H 0)) (hH : HstX M A F H) (hA : 0 < A) {Q : Mem → Prop} (h : ∀ M' : Mem, (∀ c, c ≠ 58 → (c < 12 ∨ 17 < c) → M' c = M c) → HstX M' (A - 1) F (fun j => H (j + 1)) → NetX M' 12 (H 0) → Q M') : f_X3_restore 12 M Q := by
  have hR := hW.2.1
  obtain ⟨a1, a2, a3, a4, a5⟩ := hH
  unfold f_X3_restore
  rw [a1]
  refine ⟨by unfold inR; omega, ?_⟩
  rintro _ rfl
  rw [st_s, if_neg (by omega), st_s, if_pos rfl, a2, Int.tmod_eq_emod_of_nonneg (by omega)]
  obtain ⟨s, hs⟩ : ∃ s, s = (F + A - 1 - 0) % 20 := ⟨_, rfl⟩
  have hs' : ((F : Int) + ((A : Int) - 1)) % 20 = (s : Int) := by omega
  have h0 := a5 0 hA
  rw [← hs] at h0
  obtain ⟨b0, b1, b2, b3⟩ := h0
  rw [hs']
  refine ⟨by unfold inR; omega, by unfold inR; omega, ?_⟩
  rintro _ rfl
  refine ⟨by omega, ?_⟩
  rintro _ rfl
  refine ⟨by omega, ?_⟩
  rintro _ rfl
  rw [st_o (show 59 ≠ 12 by omega), st_o (show 59 ≠ 58 by omega), show ((s : Int) * 32).toNat = 32 * s by omega, show ((s : Int) * 32 + 1).toNat = 32 * s + 1 by omega, b1, b2]
  refine wl2_inv (I := fun (v : Int) (M' : Mem) => ∃ r : Nat, v = r ∧ r ≤ (H 0).R ∧ (∀ c, c ≠ 58 → (c < 12 ∨ 17 < c) → M' c = M c) ∧ M' 58 0 = (A : Int) - 1 ∧ M' 58 1 = F ∧ M' 12 0 = (H 0).P ∧ M' 12 1 = (H 0).R ∧ ∀ q, q < r → M' (12 + 1) q = (H 0).hd q ∧ M' (12 + 2) q = (H 0).ft q ∧ M' (12 + 3) q = (H 0).ln q ∧ M' (12 + 4) q = (H 0).gf q ∧ M' (12 + 5) q = (H 0).rv q) (μ := fun (v : Int) (_ : Mem) => (H 0).R - v.toNat) ?_ 5000 _ _ ⟨0, rfl, by omega, fun c q1 q2 => by rw [st_o (by omega), st_o (by omega), st_o q1], ?_, ?_, ?_, ?_, fun q hq => by omega⟩ (by simp; omega)
  rotate_left
  · rw [st_o (by omega), st_o (by omega), st_s, if_pos rfl]
  · rw [st_o (by omega), st_o (by omega), st_s, if_neg (by omega)]; exact a2
  · rw [st_s, if_neg (by omega), st_s, if_pos rfl]
  · rw [st_s, if_pos rfl]
  rintro rec v M' ⟨r, rfl, hr, g1, g2, g3, g4, g5, g6⟩ hrec
  unfold X3_restore_b50
  rw [g5]
  refine ⟨fun c => h M' g1 ⟨by rw [g2]; omega, g3, by omega, a4, fun j hj => ?_⟩ ⟨g4, g5, fun q hq => g6 q (by omega)⟩, fun c => ⟨by omega, ?_⟩⟩
  · have hold := a5 (j + 1) (by omega)
    rw [show F + A - 1 - (j + 1) = F + (A - 1) - 1 - j by omega] at hold
    unfold HisX at hold ⊢
    rw [g1 59 (by omega) (by omega)]
    exact hold
  · rw [show ((s : Int) * 32 + 2 + (r : Int)).toNat = 32 * s + 2 + r by omega, g1 59 (by omega) (by omega), b3 r (by omega)]
    refine x_unpack hW (by omega) (fun M2 k1 k2 k3 => ⟨by unfold inR; omega, ?_⟩)
    rintro _ rfl
    refine hrec _ _ ⟨r + 1, by omega, by omega, fun c q1 q2 => by rw [k1 c (by omega)]; exact g1 c q1 q2, by rw [k1 58 (by omega)]; exact g2, by rw [k1 58 (by omega)]; exact g3, by rw [k1 12 (by omega)]; exact g4, by rw [k1 12 (by omega)]; exact g5, fun q hq => ?_⟩ (by omega)
    by_cases e : q = r
    · rw [e]; exact k3
    · rw [k2 (12 + 1) q e, k2 (12 + 2) q e, k2 (12 + 3) q e, k2 (12 + 4) q e, k2 (12 + 5) q e]
      exact g6 q (by omega)
end
