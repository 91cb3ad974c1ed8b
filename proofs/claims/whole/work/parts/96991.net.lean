/-! net: a text that both take -/
section
variable {M : Mem} {N : Nt} {t n A F W : Nat} {H : Nat → Nt} {K : Nat → Nat → Int}
theorem net_ok {M2 M3 : Mem} {D : Drf} {B : Nat → Int} {T : Nat} (hS : StaF t M N n A F W H K) (ht : t ≤ 1000) (hB : B = M 96) (hT : M 1 1 = T) (hD : DOk D) (hF : FrX M M2) (h34 : M2 3 4 = 0) (h35 : M2 3 5 = -1) (hX : DrX M2 D) (hr : RefOk B T D) (e3 : M3 = st M2 1 1 0) {Q : Int → Int → Mem → Prop} (h : ∀ (r : Int) (M2 : Mem), Sta (t + 1) M2 → Q r r M2) : f_X5_copyFrom 12 4 M3 (fun M_4 => ((0 : Int) ≤ 0 ∧ (0 : Int) ≤ 0 ∧ (0 : Int) ≤ 20 ∧ (0 : Int) + 20 ≤ 20 ∧ (0 : Int) + 20 ≤ 20) ∧ ∀ M_6 : Mem, M_6 = cpy M_4 10 0 18 0 20 → ((0 : Int) ≤ 0 ∧ (0 : Int) ≤ 0 ∧ (0 : Int) ≤ 10 ∧ (0 : Int) + 10 ≤ 10 ∧ (0 : Int) + 10 ≤ 10) ∧ ∀ M_8 : Mem, M_8 = cpy M_6 11 0 19 0 10 → ∀ M_9 : Mem, M_9 = st M_8 0 5 (M_8 3 3) → ∀ M_10 : Mem, M_10 = st M_9 63 0 0 → f_X11_forgetActs M_10 (fun M_11 => f_X11_figure M_11 (fun M_12 => inR (1 + (M_12 12 1)) ∧ f_X12_net M_12 (fun r2 M2 => Q (1 + (M_12 12 1)) r2 M2)))) := by
  obtain ⟨t1, t2, t3, t4⟩ := hS.2.2.2.1.1
  have hrf := hS.2.2.2.1.2.1
  have hR30 := hD.1.1.2.1
  have hP20 := hD.1.1.1
  have hV := hD.2.1
  have hX3 : NetX M3 4 D.N := hX.1.of (fun c _ _ => by rw [e3, st_o (by omega)])
  refine x_copyFrom hX3 hR30 (by omega) (fun M4 a1 a2 => ⟨by omega, fun M6 e6 => ⟨by omega, fun M8 e8 M9 e9 M10 e10 => ?_⟩⟩)
  unfold f_X11_forgetActs
  intro M11' e11' M11 e11
  have o11 : ∀ d, d ≠ 0 → d ≠ 18 → d ≠ 19 → d ≠ 58 → d ≠ 60 → d ≠ 63 → M11 d = M4 d := fun d d0 d18 d19 d58 d60 d63 => by rw [e11, st_o d60, e11', st_o d58, e10, st_o d63, e9, st_o d0, e8, cpy_ne d19, e6, cpy_ne d18]
  have hN11 : NetX M11 12 D.N := a2.of (fun c c1 c2 => o11 c (by omega) (by omega) (by omega) (by omega) (by omega) (by omega))
  refine x_figureAll hN11 hD.1 (fun M12 b1 b2 => ?_)
  have hN12 : NetX M12 12 D.N := hN11.of (fun c c1 c2 => b1 c (by omega))
  rw [hN12.2.1]
  refine ⟨by unfold inR; omega, ?_⟩
  have c12 : ∀ d, d ≠ 0 → d ≠ 1 → ¬ (3 ≤ d ∧ d ≤ 57) → d ≠ 58 → d ≠ 60 → d ≠ 63 → M12 d = M d := fun d d0 d1 d3 d58 d60 d63 => by rw [b1 d (by omega), o11 d d0 (by omega) (by omega) d58 d60 d63, a1 d (by omega), e3, st_o d1]; exact hF d (by omega) (by omega)
  have m3 : M12 3 = M2 3 := by rw [b1 3 (by omega), o11 3 (by omega) (by omega) (by omega) (by omega) (by omega) (by omega), a1 3 (by omega), e3, st_o (by omega)]
  have m1 : M12 1 1 = 0 := by rw [b1 1 (by omega), o11 1 (by omega) (by omega) (by omega) (by omega) (by omega) (by omega), a1 1 (by omega), e3, st_s, if_pos rfl]
  have m83 : M8 3 3 = D.V := by rw [e8, cpy_ne (by omega), e6, cpy_ne (by omega), a1 3 (by omega), e3, st_o (by omega)]; exact hX.2.1
  have m05 : M12 0 5 = D.V := by rw [b1 0 (by omega), e11, st_o (by omega), e11', st_o (by omega), e10, st_o (by omega), e9, st_s, if_pos rfl, m83]
  have m0 : M12 0 16 = M 0 16 := by rw [b1 0 (by omega), e11, st_o (by omega), e11', st_o (by omega), e10, st_o (by omega), e9, st_s, if_neg (by omega), e8, cpy_ne (by omega), e6, cpy_ne (by omega), a1 0 (by omega), e3, st_o (by omega), hF 0 (by omega) (by omega)]
  have m18 : ∀ p, p < D.N.P → M12 18 p = D.X p := fun p hp => by
    rw [b1 18 (by omega), e11, st_o (by omega), e11', st_o (by omega), e10, st_o (by omega), e9, st_o (by omega), e8, cpy_ne (by omega), e6, cpy_at]
    dsimp only
    rw [if_pos (by omega), show 0 + (p - 0) = p by omega, a1 10 (by omega), e3, st_o (by omega)]
    exact hX.2.2.1 p hp
  have m19 : ∀ v, v < D.V → M12 19 v = D.U v := fun v hv => by
    rw [b1 19 (by omega), e11, st_o (by omega), e11', st_o (by omega), e10, st_o (by omega), e9, st_o (by omega), e8, cpy_at]
    dsimp only
    rw [if_pos (by omega), show 0 + (v - 0) = v by omega, e6, cpy_ne (by omega), a1 11 (by omega), e3, st_o (by omega)]
    exact hX.2.2.2 v hv
  have m58 : M12 58 0 = 0 ∧ M12 58 1 = M 58 1 := by
    rw [b1 58 (by omega), e11, st_o (by omega), e11']
    refine ⟨by rw [st_s, if_pos rfl], ?_⟩
    rw [st_s, if_neg (by omega), e10, st_o (by omega), e9, st_o (by omega), e8, cpy_ne (by omega), e6, cpy_ne (by omega), a1 58 (by omega), e3, st_o (by omega), hF 58 (by omega) (by omega)]
  have m60 : M12 60 0 = 0 := by rw [b1 60 (by omega), e11, st_s, if_pos rfl]
  have m63 : M12 63 0 = 0 := by rw [b1 63 (by omega), e11, st_o (by omega), e11', st_o (by omega), e10, st_s, if_pos rfl]
  have hO12 : Own M12 := by have := hS.2.2.2.1.2.2.2.2; unfold Own at *; rw [c12 98 (by omega) (by omega) (by omega) (by omega) (by omega) (by omega)]; exact this
  refine t_begin (B := B) (T := T) (by rw [c12 95 (by omega) (by omega) (by omega) (by omega) (by omega) (by omega), ← t1, hT]) (by omega) (fun k hk => by rw [c12 96 (by omega) (by omega) (by omega) (by omega) (by omega) (by omega), hB]; exact ⟨rfl, (t4 k (by omega)).2⟩) hO12 (fun M0 M8' b3 b4 hR8 f1 f2 f3 => ?_)
  simp only [jn_eq]
  refine hr M0 M8' _ b3 b4 hR8 (fun M13 p e hR13 => tF_ok hR13 hD (fun M' g1 g2 g7 g8 g15 g41 g38 g43 g100 => ?_))
  have hd := hR13.2.2.2.2.2.2.2
  have c13 : ∀ d, d ≠ 95 → d ≠ 99 → d ≠ 100 → M' d = M12 d := fun d d1 d2 d3 => by rw [g1 d d1 d3, hR13.1.1 d d1 d2, f1 d d1]
  have j13 : ∀ j, (j = 42 ∨ (44 ≤ j ∧ j ≤ 48)) → M' 95 j = M 95 j := fun j hj => by rw [g2 j (by omega) (by omega) (by omega) (by omega) (by omega) (by omega), hR13.1.2 j (by omega) (by omega) (by omega) (by omega) (by omega) (by omega), f2 j (by omega) (by omega) (by omega) (by omega) (by omega) (by omega) (by omega), c12 95 (by omega) (by omega) (by omega) (by omega) (by omega) (by omega)]
  have m951 : M' 95 1 = 0 := by rw [g2 1 (by omega) (by omega) (by omega) (by omega) (by omega) (by omega), hR13.1.2 1 (by omega) (by omega) (by omega) (by omega) (by omega) (by omega), f3]
  have v2 : M' 100 2 = D.V := by rw [g100 2 (by omega)]; exact hd.2.1
  have cc : ∀ d, d ≠ 0 → d ≠ 1 → ¬ (3 ≤ d ∧ d ≤ 58) → d ≠ 60 → d ≠ 63 → d ≠ 95 → d ≠ 99 → d ≠ 100 → M' d = M d := fun d d0 d1 d3 d60 d63 d95 d99 d100 => by rw [c13 d d95 d99 d100, c12 d d0 d1 (by omega) (by omega) d60 d63]
  have hcast : ((1 + D.N.R : Nat) : Int) = 1 + (D.N.R : Int) := by omega
  rw [hcast]
  refine h _ M' ⟨D.N, 0, 0, F, W, H, K, ⟨?_, ?_, hD.1, ?_, fun z => absurd g15 z⟩, ⟨?_, ?_, ?_, fun r hr => ?_⟩, ⟨fun p hp => ?_, fun v hv => ?_⟩, ⟨⟨?_, ?_, ?_, fun k hk => ?_⟩, fun i hi => ?_, ⟨?_, ?_⟩, ?_, ?_⟩, ⟨?_, ?_, ?_⟩, ⟨?_, ?_, by omega, fun i hi => absurd hi (Nat.not_lt_zero _)⟩, ⟨?_, ?_, by omega, hS.2.2.2.2.2.2.1.2.2.2.1, fun i hi => absurd hi (Nat.not_lt_zero _)⟩, ⟨?_, ?_, by omega, hS.2.2.2.2.2.2.2.1.2.2.2.1, fun i hi => absurd hi (Nat.not_lt_zero _)⟩, fun i hi => absurd hi (Nat.not_lt_zero _), ?_, Or.inl ?_⟩
  · exact hN12.of (fun c c1 c2 => c13 c (by omega) (by omega) (by omega))
  · refine ⟨by rw [g100 0 (by omega)]; exact hd.1.1, by rw [g100 1 (by omega)]; exact hd.1.2.1, fun r hr => ?_⟩
    rw [g100 _ (by omega), g100 _ (by omega), g100 _ (by omega), g100 _ (by omega), g100 _ (by omega)]
    exact hd.1.2.2 r hr
  · exact b2.of (fun c c1 c2 => c13 c (by omega) (by omega) (by omega))
  · rw [c13 0 (by omega) (by omega) (by omega), m05, v2]
  · rw [v2]; omega
  · rw [v2]; omega
  · rw [v2]; exact hD.2.2.1 r hr
  · rw [c13 18 (by omega) (by omega) (by omega), m18 p hp, g100 _ (by omega), hd.2.2.1 p hp]; exact hD.2.2.2.1 p hp
  · rw [v2] at hv
    rw [c13 19 (by omega) (by omega) (by omega), m19 v (by omega), g100 _ (by omega), hd.2.2.2 v (by omega)]; exact hD.2.2.2.2 v (by omega)
  · rw [c13 1 (by omega) (by omega) (by omega), m1, m951]
  · rw [c13 1 (by omega) (by omega) (by omega), m1]; omega
  · rw [c13 1 (by omega) (by omega) (by omega), m1]; omega
  · rw [c13 1 (by omega) (by omega) (by omega), m1] at hk; omega
  · have := hrf i hi
    rw [cc 94 (by omega) (by omega) (by omega) (by omega) (by omega) (by omega) (by omega) (by omega), cc 97 (by omega) (by omega) (by omega) (by omega) (by omega) (by omega) (by omega) (by omega)]
    omega
  · rw [c13 3 (by omega) (by omega) (by omega), m3, h34, g7]
  · rw [c13 3 (by omega) (by omega) (by omega), m3, h35, g8]
  · have := hS.2.2.2.1.2.2.2.1
    unfold Img at *
    rw [cc 66 (by omega) (by omega) (by omega) (by omega) (by omega) (by omega) (by omega) (by omega), cc 67 (by omega) (by omega) (by omega) (by omega) (by omega) (by omega) (by omega) (by omega), cc 126 (by omega) (by omega) (by omega) (by omega) (by omega) (by omega) (by omega) (by omega), j13 48 (by omega)]; exact this
  · have := hS.2.2.2.1.2.2.2.2
    unfold Own at *
    rw [cc 98 (by omega) (by omega) (by omega) (by omega) (by omega) (by omega) (by omega) (by omega)]; exact this
  · rw [c13 0 (by omega) (by omega) (by omega), m0, j13 46 (by omega)]; exact hS.2.2.2.2.1.1
  · rw [j13 46 (by omega)]; exact hS.2.2.2.2.1.2.1
  · rw [j13 46 (by omega)]; exact hS.2.2.2.2.1.2.2
  · rw [c13 63 (by omega) (by omega) (by omega), m63]; rfl
  · rw [g38]; rfl
  · rw [c13 58 (by omega) (by omega) (by omega), m58.1]; rfl
  · rw [c13 58 (by omega) (by omega) (by omega), m58.2]; exact hS.2.2.2.2.2.2.1.2.1
  · rw [g41]; rfl
  · rw [j13 42 (by omega)]; exact hS.2.2.2.2.2.2.2.1.2.1
  · rw [c13 60 (by omega) (by omega) (by omega), m60, g43]
  · rw [c13 60 (by omega) (by omega) (by omega), m60]
end
theorem q_net : NetQ := by
  intro t M Q hSt ht h
  obtain ⟨N, n, A, F, W, H, K, hS⟩ := hSt
  obtain ⟨t1, t2, t3, t4⟩ := hS.2.2.2.1.1
  obtain ⟨T, hT⟩ : ∃ T : Nat, M 1 1 = T := ⟨(M 1 1).toNat, by omega⟩
  unfold f_X11_net
  refine k_read (B := M 96) (T := T) ⟨hT, by omega, fun k hk => t4 k (by omega)⟩ (fun M2 D hD hF h34 h35 hX hr M3 e3 => ⟨fun _ => net_ok hS ht rfl hT hD hF h34 h35 hX hr e3 h, fun w => absurd w (by omega)⟩) (fun M2 x c hx hF hr M3 e3 => ⟨fun w => absurd rfl w, fun _ => net_no hS ht hx rfl hT hF hr e3 h⟩)
