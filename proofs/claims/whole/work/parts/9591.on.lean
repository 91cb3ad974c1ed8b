/-! on, the question -/
section
variable {M : Mem} {N : Nt} {t n A F W : Nat} {H : Nat → Nt} {K : Nat → Nat → Int}
theorem q_on (hS : StaF t M N n A F W H K) (ht : t ≤ 1000) {Q : Int → Int → Mem → Prop} (h : ∀ (r : Int) (M2 : Mem), Sta (t + 1) M2 → Q r r M2) : f_X11_on M (fun r M1 => f_X12_on M1 (fun r2 M2 => Q r r2 M2)) := by
  obtain ⟨q1, q2, q3⟩ := hS.refuse (k := 5) (by omega) ht
  obtain ⟨⟨c1, c2, c3, c4, c5⟩, ⟨v0, v1, v2, v3⟩, h3, ⟨⟨t1, t2, t3, t4⟩, o2, o3, o4, o5⟩, h5, h6, h7, h8, -⟩ := id hS
  obtain ⟨T, hT⟩ : ∃ T : Nat, M 1 1 = T := ⟨(M 1 1).toNat, by omega⟩
  have hT2 : T ≤ 1600 := by omega
  have hT95 : M 95 1 = T := by rw [← t1]; exact hT
  have hBt : Bt M (M 96) T := ⟨hT, hT2, fun k hk => t4 k (by omega)⟩
  have hb : ∀ k, k < T → 0 ≤ M 96 k ∧ M 96 k ≤ 255 := fun k hk => (hBt.2.2 k hk).2
  have hO : ∀ M' : Mem, M' 1 1 = 0 → M' 95 1 = 0 → Rfs (t + 1) M' → M' 3 = M 3 → M' 95 7 = M 95 7 → M' 95 8 = M 95 8 → M' 66 = M 66 → M' 67 = M 67 → M' 95 48 = M 95 48 → M' 126 = M 126 → M' 98 = M 98 → Oth (t + 1) M' := fun M' a1 a2 a3 a4 a5 a6 a7 a8 a9 a10 a11 => by
    refine ⟨⟨by rw [a1, a2], by omega, by omega, fun k hk => by omega⟩, a3, by rw [a4, a5, a6]; exact o3, ?_, ?_⟩
    · unfold Img at *; rw [a7, a8, a9, a10]; exact o4
    · unfold Own at *; rw [a11]; exact o5
  unfold f_X11_on
  rw [v0]
  refine x_read (V := M 100 2) hBt ⟨v1, v2⟩ (fun hok M1 a1 a2 => ?_) (fun hno M1 a1 => ?_)
  · rintro _ rfl
    refine ⟨fun _ => ?_, fun z => absurd z (by omega)⟩
    obtain ⟨hG, hrv⟩ := ibn_good hok.1 ⟨v1, v2⟩ hb (j := (M 96 1).toNat) (by have := hb 1 (by have := hok.1.1; omega); omega) (fun i hi => hok.2 i (by omega))
    obtain ⟨N', hN'⟩ : ∃ N', N' = ibn (M 96) (M 96 1).toNat := ⟨_, rfl⟩
    have hRN : N'.R = (M 96 1).toNat := by rw [hN', ibn_R]
    rw [← hN'] at a2 hG hrv
    have hP20 := hG.1.1
    have hR30 := hG.1.2.1
    refine x_copyFrom (n := 12) (m := 72) (a2.of (fun c _ _ => st_o (by omega))) hR30 (by omega) (fun M2 b1 b2 => ?_)
    rintro _ rfl
    unfold f_X11_forgetActs
    rintro _ rfl
    rintro _ rfl
    obtain ⟨M3, hM3⟩ : ∃ M3 : Mem, M3 = st (st (fil M2 18 20 0) 58 0 0) 60 0 0 := ⟨_, rfl⟩
    rw [← hM3]
    have e3 : ∀ c, c ≠ 18 → c ≠ 58 → c ≠ 60 → M3 c = M2 c := fun c u1 u2 u3 => by rw [hM3, st_o u3, st_o u2, fil_n u1]
    refine x_figureAll (b2.of (fun c _ _ => e3 c (by omega) (by omega) (by omega))) hG (fun M4 d1 d2 => ?_)
    have e4 : ∀ c, c ≠ 1 → (c < 12 ∨ 60 < c) → ¬ (72 ≤ c ∧ c ≤ 77) → M4 c = M c := fun c u1 u2 u3 => by rw [d1 c (by omega), e3 c (by omega) (by omega) (by omega), b1 c (by omega), st_o u1, a1 c (by omega)]
    have e19 : M4 19 = M 19 := by rw [d1 19 (by omega), e3 19 (by omega) (by omega) (by omega), b1 19 (by omega), st_o (by omega), a1 19 (by omega)]
    have e96 : M4 96 = M 96 := e4 96 (by omega) (by omega) (by omega)
    have e100 : M4 100 = M 100 := e4 100 (by omega) (by omega) (by omega)
    have e95 : M4 95 = M 95 := e4 95 (by omega) (by omega) (by omega)
    have hN4 : NetX M4 12 N' := b2.of (fun c _ _ => by rw [d1 c (by omega), e3 c (by omega) (by omega) (by omega)])
    have e1 : M4 1 1 = 0 := by rw [d1 1 (by omega), e3 1 (by omega) (by omega) (by omega), b1 1 (by omega), st_s, if_pos rfl]
    have e18 : ∀ p, p < 20 → M4 18 p = 0 := fun p hp => by rw [d1 18 (by omega), hM3, st_o (by omega), st_o (by omega), fil_e, if_pos hp]
    have e58 : M4 58 0 = 0 := by rw [d1 58 (by omega), hM3, st_o (by omega), st_s, if_pos rfl]
    have e581 : M4 58 1 = M 58 1 := by rw [d1 58 (by omega), hM3, st_o (by omega), st_s, if_neg (by omega), fil_n (by omega), b1 58 (by omega), st_o (by omega), a1 58 (by omega)]
    have e60 : M4 60 0 = 0 := by rw [d1 60 (by omega), hM3, st_s, if_pos rfl]
    unfold f_X12_on
    dsimp only
    rw [e95, hT95]
    rintro _ rfl
    rintro _ rfl
    have f1 : ∀ c, c ≠ 95 → st M4 95 1 0 c = M4 c := fun c hc => st_o hc
    have f96 : st M4 95 1 0 96 = M 96 := by rw [f1 96 (by omega), e96]
    have f100 : st M4 95 1 0 100 = M 100 := by rw [f1 100 (by omega), e100]
    refine r_isImage (T := T) (by rw [f96]; exact hb) hT2 (by rw [f100]; exact ⟨v1, v2⟩) rfl (fun _ M5 g1 g2 g3 g4 g5 => ?_) (fun z => absurd (by rw [f96, f100]; exact hok) z)
    rw [f96, ← hN'] at g2
    rw [f100] at g3 g5
    refine ⟨fun _ => ?_, fun z => absurd z (by omega)⟩
    refine jn_use (P := fun J => ∀ M6 : Mem, (∀ c, c ≠ 100 → M6 c = M5 c) → (∀ k, k < 183 → M6 100 k = M5 99 k) → J M6) ?_ ?_
    · intro M6 k1 k2
      rintro _ rfl
      rintro _ rfl
      unfold f_X12_isOther
      rintro _ rfl
      obtain ⟨M7, hM7⟩ : ∃ M7 : Mem, M7 = st (st (st M6 95 41 0) 95 43 0) 95 15 0 := ⟨_, rfl⟩
      rw [← hM7]
      have m1 : ∀ c, c ≠ 95 → c ≠ 99 → c ≠ 100 → M7 c = M4 c := fun c u1 u2 u3 => by rw [hM7, st_o u1, st_o u1, st_o u1, k1 c u3, g1 c u2, f1 c u1]
      have m2 : ∀ j, j ≠ 1 → j ≠ 15 → j ≠ 41 → j ≠ 43 → M7 95 j = M 95 j := fun j u1 u2 u3 u4 => by rw [hM7, st_s, if_neg u2, st_s, if_neg u4, st_s, if_neg u3, k1 95 (by omega), g1 95 (by omega), st_s, if_neg u1, e95]
      have m95 : M7 95 1 = 0 := by rw [hM7, st_s, if_neg (by omega), st_s, if_neg (by omega), st_s, if_neg (by omega), k1 95 (by omega), g1 95 (by omega), st_s, if_pos rfl]
      have m15 : M7 95 15 = 0 := by rw [hM7, st_s, if_pos rfl]
      have m43 : M7 95 43 = 0 := by rw [hM7, st_s, if_neg (by omega), st_s, if_pos rfl]
      have m41 : M7 95 41 = 0 := by rw [hM7, st_s, if_neg (by omega), st_s, if_neg (by omega), st_s, if_pos rfl]
      have m100 : ∀ k, k < 183 → M7 100 k = M5 99 k := fun k hk => by rw [hM7, st_o (by omega), st_o (by omega), st_o (by omega)]; exact k2 k hk
      have w2 : M7 100 2 = M 100 2 := by rw [m100 2 (by omega)]; exact g3
      have hN7 : NetR M7 100 N' := by
        obtain ⟨u1, u2, u3⟩ := g2
        refine ⟨by rw [m100 0 (by omega)]; exact u1, by rw [m100 1 (by omega)]; exact u2, fun r hr => ?_⟩
        rw [m100 (33 + 5 * r) (by omega), m100 (34 + 5 * r) (by omega), m100 (35 + 5 * r) (by omega), m100 (36 + 5 * r) (by omega), m100 (37 + 5 * r) (by omega)]
        exact u3 r hr
      have m0 : ∀ c, c ≠ 1 → c ≠ 95 → c ≠ 99 → c ≠ 100 → (c < 12 ∨ 60 < c) → ¬ (72 ≤ c ∧ c ≤ 77) → M7 c = M c := fun c u1 u2 u3 u4 u5 u6 => by rw [m1 c u2 u3 u4, e4 c u1 u5 u6]
      refine h _ _ ⟨N', n, 0, F, W, H, K, ⟨hN4.of (fun c _ _ => m1 c (by omega) (by omega) (by omega)), hN7, hG, d2.of (fun c _ _ => m1 c (by omega) (by omega) (by omega)), fun z => absurd m15 z⟩, ⟨?_, ?_, ?_, fun r hr => ?_⟩, ⟨fun p hp => ?_, fun u hu => ?_⟩, ?_, ⟨?_, ?_, ?_⟩, ?_, ⟨?_, ?_, by omega, h7.2.2.2.1, fun j hj => by omega⟩, ⟨m41, ?_, by omega, h8.2.2.2.1, fun j hj => by omega⟩, fun j hj => by omega, ⟨?_, Or.inl ?_⟩⟩
      · rw [w2, m0 0 (by omega) (by omega) (by omega) (by omega) (by omega) (by omega)]; exact v0
      · rw [w2]; exact v1
      · rw [w2]; exact v2
      · rw [w2]; exact hrv r (by omega)
      · rw [m1 18 (by omega) (by omega) (by omega), e18 p (by omega), m100 _ (by omega), g4 p (by omega)]; exact Nm.zero
      · rw [w2] at hu
        rw [m1 19 (by omega) (by omega) (by omega), e19, m100 _ (by omega), g5 u (by omega)]
        exact h3.2 u hu
      · refine hO M7 (by rw [m1 1 (by omega) (by omega) (by omega)]; exact e1) m95 (fun i hi => ?_) (m0 3 (by omega) (by omega) (by omega) (by omega) (by omega) (by omega)) (m2 7 (by omega) (by omega) (by omega) (by omega)) (m2 8 (by omega) (by omega) (by omega) (by omega)) (m0 66 (by omega) (by omega) (by omega) (by omega) (by omega) (by omega)) (m0 67 (by omega) (by omega) (by omega) (by omega) (by omega) (by omega)) (m2 48 (by omega) (by omega) (by omega) (by omega)) (m0 126 (by omega) (by omega) (by omega) (by omega) (by omega) (by omega)) (m0 98 (by omega) (by omega) (by omega) (by omega) (by omega) (by omega))
        rw [m0 94 (by omega) (by omega) (by omega) (by omega) (by omega) (by omega), m0 97 (by omega) (by omega) (by omega) (by omega) (by omega) (by omega)]; have := o2 i hi; omega
      · rw [m0 0 (by omega) (by omega) (by omega) (by omega) (by omega) (by omega), m2 46 (by omega) (by omega) (by omega) (by omega)]; exact h5.1
      · rw [m2 46 (by omega) (by omega) (by omega) (by omega)]; exact h5.2.1
      · rw [m2 46 (by omega) (by omega) (by omega) (by omega)]; exact h5.2.2
      · exact h6.of (m0 63 (by omega) (by omega) (by omega) (by omega) (by omega) (by omega)) (m0 64 (by omega) (by omega) (by omega) (by omega) (by omega) (by omega)) (m0 65 (by omega) (by omega) (by omega) (by omega) (by omega) (by omega)) (m2 38 (by omega) (by omega) (by omega) (by omega)) (m0 123 (by omega) (by omega) (by omega) (by omega) (by omega) (by omega))
      · rw [m1 58 (by omega) (by omega) (by omega)]; exact e58
      · rw [m1 58 (by omega) (by omega) (by omega), e581]; exact h7.2.1
      · rw [m2 42 (by omega) (by omega) (by omega) (by omega)]; exact h8.2.1
      · rw [m1 60 (by omega) (by omega) (by omega), e60, m43]
      · rw [m1 60 (by omega) (by omega) (by omega)]; exact e60
    · intro J hJ
      refine wl2_inv (I := fun (x : Int) (M' : Mem) => ∃ k : Nat, x = k ∧ k ≤ 183 ∧ (∀ c, c ≠ 100 → M' c = M5 c) ∧ ∀ i, i < k → M' 100 i = M5 99 i) (μ := fun (x : Int) (_ : Mem) => 183 - x.toNat) ?_ 5000 _ _ ⟨0, rfl, by omega, fun c _ => rfl, fun i hi => by omega⟩ (by simp)
      rintro rec x M' ⟨k, rfl, hk, k1, k2⟩ hrec
      unfold X12_on_b26
      refine ⟨fun d => hJ M' k1 (fun i hi => k2 i (by omega)), fun d => ⟨by omega, ?_⟩⟩
      rintro _ rfl
      refine ⟨by unfold inR; omega, ?_⟩
      rintro _ rfl
      rw [tn, k1 99 (by omega)]
      refine hrec _ _ ⟨k + 1, by omega, by omega, fun c hc => by rw [st_o hc]; exact k1 c hc, fun i hi => ?_⟩ (by omega)
      rw [st_s]
      by_cases z : i = k
      · rw [if_pos z, z]
      · rw [if_neg z]; exact k2 i (by omega)
  · rintro _ rfl
    have e94 : st M1 1 1 0 94 = M 94 := by rw [st_o (by omega), a1 94 (by omega)]
    refine ⟨fun z => absurd rfl z, fun _ => x_refuse (M := st M1 1 1 0) (k := 5) rfl (by omega) (by rw [e94]; exact q2) ?_⟩
    rw [e94]
    obtain ⟨M2, hM2⟩ : ∃ M2 : Mem, M2 = st (st M1 1 1 0) 94 5 (M 94 5 + 1) := ⟨_, rfl⟩
    rw [← hM2]
    have e2 : ∀ c, c ≠ 1 → c ≠ 94 → ¬ (72 ≤ c ∧ c ≤ 77) → M2 c = M c := fun c u1 u2 u3 => by rw [hM2, st_o u2, st_o u1, a1 c (by omega)]
    unfold f_X12_on
    dsimp only
    rw [e2 95 (by omega) (by omega) (by omega), hT95]
    rintro _ rfl
    rintro _ rfl
    have f1 : ∀ c, c ≠ 95 → st M2 95 1 0 c = M2 c := fun c hc => st_o hc
    have f96 : st M2 95 1 0 96 = M 96 := by rw [f1 96 (by omega), e2 96 (by omega) (by omega) (by omega)]
    have f100 : st M2 95 1 0 100 = M 100 := by rw [f1 100 (by omega), e2 100 (by omega) (by omega) (by omega)]
    refine r_isImage (T := T) (by rw [f96]; exact hb) hT2 (by rw [f100]; exact ⟨v1, v2⟩) rfl (fun z => absurd (by rw [f96, f100] at z; exact z) hno) (fun _ M5 g1 => ⟨fun z => absurd rfl z, fun _ => ?_⟩)
    have e97 : M5 97 = M 97 := by rw [g1 97 (by omega), f1 97 (by omega), e2 97 (by omega) (by omega) (by omega)]
    unfold f_X12_isRefused
    rw [e97]
    refine ⟨by omega, ?_⟩
    show inR (M 97 5 + 1) ∧ _
    refine ⟨by unfold inR; omega, ?_⟩
    intro M3 hM3
    replace hM3 : M3 = st M5 97 5 (M 97 5 + 1) := hM3
    have g2 : ∀ c, c ≠ 1 → c ≠ 94 → c ≠ 95 → c ≠ 97 → c ≠ 99 → ¬ (72 ≤ c ∧ c ≤ 77) → M3 c = M c := fun c u1 u2 u3 u4 u5 u6 => by rw [hM3, st_o u4, g1 c u5, f1 c u3, e2 c u1 u2 u6]
    have g3 : ∀ j, j ≠ 1 → M3 95 j = M 95 j := fun j hj => by rw [hM3, st_o (by omega), g1 95 (by omega), st_s, if_neg hj, e2 95 (by omega) (by omega) (by omega)]
    refine h _ _ (StaF.oth (M' := M3) (n' := n) hS (fun c hc => g2 c (by omega) (by omega) (by omega) (by omega) (by omega) (by omega)) (fun j hj => g3 j (by omega)) (hO M3 ?_ ?_ (fun i hi => ?_) (g2 3 (by omega) (by omega) (by omega) (by omega) (by omega) (by omega)) (g3 7 (by omega)) (g3 8 (by omega)) (g2 66 (by omega) (by omega) (by omega) (by omega) (by omega) (by omega)) (g2 67 (by omega) (by omega) (by omega) (by omega) (by omega) (by omega)) (g3 48 (by omega)) (g2 126 (by omega) (by omega) (by omega) (by omega) (by omega) (by omega)) (g2 98 (by omega) (by omega) (by omega) (by omega) (by omega) (by omega))) (h6.of (g2 63 (by omega) (by omega) (by omega) (by omega) (by omega) (by omega)) (g2 64 (by omega) (by omega) (by omega) (by omega) (by omega) (by omega)) (g2 65 (by omega) (by omega) (by omega) (by omega) (by omega) (by omega)) (g3 38 (by omega)) (g2 123 (by omega) (by omega) (by omega) (by omega) (by omega) (by omega)))).sta
    · rw [hM3, st_o (by omega), g1 1 (by omega), f1 1 (by omega), hM2, st_o (by omega), st_s, if_pos rfl]
    · rw [hM3, st_o (by omega), g1 95 (by omega), st_s, if_pos rfl]
    · have hi' := o2 i hi
      rw [hM3, st_o (show 94 ≠ 97 by omega), g1 94 (by omega), f1 94 (by omega), hM2, st_s, e94, st_s, e97]
      by_cases z : i = 5
      · rw [if_pos z, if_pos z]; have := o2 5 (by omega); omega
      · rw [if_neg z, if_neg z]; omega
end
