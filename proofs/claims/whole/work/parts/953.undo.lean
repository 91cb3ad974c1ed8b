/-! undo, seed, status, fault -/
section
variable {M : Mem} {N : Nt} {t n A F W : Nat} {H : Nat → Nt} {K : Nat → Nat → Int}
theorem q_status {a : Int} (hS : StaF t M N n A F W H K) {Q : Int → Int → Prop} (h : ∀ r : Int, Q r r) : f_X11_status a M (fun r => f_X12_status a M (fun r2 => Q r r2)) := by
  have hr := hS.2.2.2.1.2.1
  unfold f_X11_status f_X12_status
  refine ⟨fun c => r_isIn (fun _ _ => by omega) (fun _ => ⟨fun _ => h _, fun z => absurd rfl z⟩), fun c => ⟨fun c1 => r_isIn (fun _ _ => by omega) (fun _ => ⟨fun _ => h _, fun z => absurd rfl z⟩), fun c1 => ⟨by omega, r_isIn (fun _ _ => ⟨fun z => absurd z (by omega), fun _ => ⟨by omega, ?_⟩⟩) (fun z => by omega)⟩⟩⟩
  rw [(hr a.toNat (by omega)).1]
  exact h _
theorem q_fault {a : Int} (hS : StaF t M N n A F W H K) {Q : Int → Int → Prop} (h : ∀ r : Int, Q r r) : f_X11_fault a M (fun r => f_X12_fault a M (fun r2 => Q r r2)) := by
  obtain ⟨e1, e2⟩ := hS.2.2.2.1.2.2.1
  unfold f_X11_fault f_X12_fault
  refine ⟨fun c => ⟨fun z => absurd c z, fun _ => by rw [e1]; exact h _⟩, fun c => ⟨fun _ => ⟨fun z => absurd c z, fun _ => by rw [e2]; exact h _⟩, fun z => by omega⟩, fun c => ⟨fun _ => ⟨fun _ => h _, fun z => absurd z c.2⟩, fun z => absurd z c.1⟩⟩
theorem q_seed {a : Int} (hS : StaF t M N n A F W H K) (ht : t ≤ 1000) (ha : inR a) {Q : Int → Int → Mem → Prop} (h : ∀ (r : Int) (M2 : Mem), Sta (t + 1) M2 → Q r r M2) : f_X11_seed a M (fun r M1 => f_X12_seed a M1 (fun r2 M2 => Q r r2 M2)) := by
  obtain ⟨r1, r2, r3⟩ := hS.refuse (k := 5) (by omega) ht
  unfold f_X11_seed f_X12_seed
  refine ⟨fun c => ?_, fun c => x_refuse (k := 5) rfl (by omega) r2 ⟨fun z => absurd z c, fun _ => r_isRefused (k := 5) rfl (by omega) r3 (h _ _ r1.sta)⟩⟩
  rintro _ rfl
  refine ⟨fun _ => ?_, fun z => absurd c z⟩
  rintro _ rfl
  obtain ⟨h1, h2, h3, h4, h5, h6, h7, h8, h9, h10⟩ := hS
  obtain ⟨M', hM⟩ : ∃ M' : Mem, M' = st (st M 0 16 a) 95 46 a := ⟨_, rfl⟩
  rw [← hM]
  have e : ∀ c, c ≠ 0 → c ≠ 95 → M' c = M c := fun c q1 q2 => by rw [hM, st_o q2, st_o q1]
  have e0 : ∀ j, j ≠ 16 → M' 0 j = M 0 j := fun j hj => by rw [hM, st_o (by omega), st_s, if_neg hj]
  have e95 : ∀ j, j ≠ 46 → M' 95 j = M 95 j := fun j hj => by rw [hM, st_s, if_neg hj, st_o (by omega)]
  have hr : ∀ (r : Nat) (k : Int), rk M' r 0 k = rk M r 0 k := fun r k => rk_of (fun c _ _ => e c (by omega) (by omega))
  unfold inR at ha
  refine h _ _ ⟨N, n, A, F, W, H, K, ?_, ?_, ?_, (h4.of (fun c hc => e c (by omega) (by omega)) (fun j hj => e95 j (by omega))).more, ?_, h6.of (e 63 (by omega) (by omega)) (e 64 (by omega) (by omega)) (e 65 (by omega) (by omega)) (e95 38 (by omega)) (e 123 (by omega) (by omega)), h7.of (e 58 (by omega) (by omega)) (e 59 (by omega) (by omega)), h8.of (e95 41 (by omega)) (e95 42 (by omega)) (e 124 (by omega) (by omega)), ?_, ?_⟩
  · obtain ⟨c1, c2, c3, c4, c5⟩ := h1
    exact ⟨c1.of (fun c _ _ => e c (by omega) (by omega)), c2.of (e 100 (by omega) (by omega)), c3, c4.of (fun c _ _ => e c (by omega) (by omega)), fun z => (c5 (by rw [← e95 15 (by omega)]; exact z)).of c3.1 (fun c _ _ => e c (by omega) (by omega))⟩
  · unfold Riv at *
    rw [e0 5 (by omega), e 100 (by omega) (by omega)]; exact h2
  · unfold Nms at *
    rw [e 18 (by omega) (by omega), e 19 (by omega) (by omega), e 100 (by omega) (by omega)]; exact h3
  · refine ⟨?_, ?_, ?_⟩
    · rw [hM, st_o (show 0 ≠ 95 by omega), st_s, if_pos rfl, st_s, if_pos rfl]
    · rw [hM, st_s, if_pos rfl]; exact c
    · rw [hM, st_s, if_pos rfl]; omega
  · unfold Hcm at *
    rw [e 100 (by omega) (by omega)]; exact h9
  · unfold Chg at *
    rw [e 60 (by omega) (by omega), e 61 (by omega) (by omega), e 125 (by omega) (by omega), e95 43 (by omega), e95 44 (by omega)]
    simp only [hr]
    exact h10
theorem q_undo (hS : StaF t M N n A F W H K) (ht : t ≤ 1000) {Q : Int → Int → Mem → Prop} (h : ∀ (r : Int) (M2 : Mem), Sta (t + 1) M2 → Q r r M2) : f_X11_undo M (fun r M1 => f_X12_undo M1 (fun r2 M2 => Q r r2 M2)) := by
  obtain ⟨r1, r2, r3⟩ := hS.refuse (k := 4) (by omega) ht
  obtain ⟨⟨c1, c2, c3, c4, c5⟩, h2, h3, h4, h5, h6, h7, h8, h9, h10⟩ := hS
  unfold f_X11_undo
  refine ⟨fun c => ?_, fun c => x_refuse (k := 4) rfl (by omega) r2 ?_⟩
  · have hA : 0 < A := by have := h7.1; omega
    obtain ⟨b1, b2, b3, b4, b5, b6, b7, b8⟩ := h9 0 hA
    have hP0 := b1.1.1
    have hR0 := b1.1.2.1
    refine x_restore b1.1 h7 hA (fun M1 a1 a2 a3 => ?_)
    rintro _ rfl
    refine x_figureAll (a3.of (fun c _ _ => st_o (by omega))) b1 (fun M2 d1 d2 => ?_)
    have e : ∀ c, (c < 12 ∨ 60 < c) → M2 c = M c := fun c hc => by rw [d1 c (by omega), st_o (by omega), a1 c (by omega) (by omega)]
    have e18 : ∀ c, (c = 18 ∨ c = 19 ∨ c = 59) → M2 c = M c := fun c hc => by rw [d1 c (by omega), st_o (by omega), a1 c (by omega) (by omega)]
    have e60 : M2 60 0 = 0 := by rw [d1 60 (by omega), st_s, if_pos rfl]
    have hN2 : NetX M2 12 (H 0) := a3.of (fun c _ _ => by rw [d1 c (by omega), st_o (by omega)])
    have hX2 : HstX M2 (A - 1) F (fun j => H (j + 1)) := a2.of (by rw [d1 58 (by omega), st_o (by omega)]) (by rw [d1 59 (by omega), st_o (by omega)])
    have hA41 : M2 95 41 = A := by rw [e 95 (by omega)]; exact h8.1
    have hW42 : M2 95 42 = W := by rw [e 95 (by omega)]; exact h8.2.1
    have hA20 := h8.2.2.1
    have hW20 := h8.2.2.2.1
    have hrow : ∀ k, k < 183 → M2 124 (183 * W + k) = K 0 k := fun k hk => by
      have := h8.2.2.2.2 0 hA k hk
      rw [show (W + 20 - 0) % 20 = W by omega] at this
      rw [e 124 (by omega)]; exact this
    unfold f_X12_undo
    refine ⟨fun _ => ?_, fun z => by omega⟩
    refine jn_use (P := fun J => ∀ M3 : Mem, (∀ c, c ≠ 100 → M3 c = M2 c) → (∀ k, k < 183 → M3 100 k = K 0 k) → J M3) ?_ ?_
    · intro M3 f1 f2
      rw [f1 95 (by omega), hW42]
      refine ⟨by unfold inR; omega, ?_⟩
      rintro _ rfl
      rw [st_s, if_neg (by omega), f1 95 (by omega), hA41]
      refine ⟨by unfold inR; omega, ?_⟩
      rintro _ rfl
      rintro _ rfl
      unfold f_X12_isOther
      rintro _ rfl
      obtain ⟨M4, hM4⟩ : ∃ M4 : Mem, M4 = st (st (st (st M3 95 42 (Int.tmod ((W : Int) + 20 - 1) 20)) 95 41 ((A : Int) - 1)) 95 43 0) 95 15 0 := ⟨_, rfl⟩
      rw [← hM4]
      have g1 : ∀ c, c ≠ 95 → M4 c = M3 c := fun c hc => by rw [hM4, st_o hc, st_o hc, st_o hc, st_o hc]
      have g2 : ∀ j, j ≠ 15 → j ≠ 41 → j ≠ 42 → j ≠ 43 → M4 95 j = M 95 j := fun j q1 q2 q3 q4 => by rw [hM4, st_s, if_neg q1, st_s, if_neg q4, st_s, if_neg q2, st_s, if_neg q3, f1 95 (by omega), e 95 (by omega)]
      have g15 : M4 95 15 = 0 := by rw [hM4, st_s, if_pos rfl]
      have g43 : M4 95 43 = 0 := by rw [hM4, st_s, if_neg (by omega), st_s, if_pos rfl]
      have g41 : M4 95 41 = ((A - 1 : Nat) : Int) := by rw [hM4, st_s, if_neg (by omega), st_s, if_neg (by omega), st_s, if_pos rfl]; omega
      have g42 : M4 95 42 = (((W + 19) % 20 : Nat) : Int) := by rw [hM4, st_s, if_neg (by omega), st_s, if_neg (by omega), st_s, if_neg (by omega), st_s, if_pos rfl, Int.tmod_eq_emod_of_nonneg (by omega)]; omega
      have g4 : ∀ c, c ≠ 95 → c ≠ 100 → M4 c = M2 c := fun c q1 q2 => by rw [g1 c q1, f1 c q2]
      have g100 : ∀ k, k < 183 → M4 100 k = K 0 k := fun k hk => by rw [g1 100 (by omega)]; exact f2 k hk
      have v2 : M4 100 2 = M 100 2 := by rw [g100 2 (by omega)]; exact b6
      have hN4 : NetR M4 100 (H 0) := by
        obtain ⟨u1, u2, u3⟩ := b5
        refine ⟨by rw [g100 0 (by omega)]; exact u1, by rw [g100 1 (by omega)]; exact u2, fun r hr => ?_⟩
        rw [g100 (33 + 5 * r) (by omega), g100 (34 + 5 * r) (by omega), g100 (35 + 5 * r) (by omega), g100 (36 + 5 * r) (by omega), g100 (37 + 5 * r) (by omega)]
        exact u3 r hr
      refine h _ _ ⟨H 0, n, A - 1, F, (W + 19) % 20, fun j => H (j + 1), fun j => K (j + 1), ⟨hN2.of (fun c _ _ => g4 c (by omega) (by omega)), hN4, b1, d2.of (fun c _ _ => g4 c (by omega) (by omega)), fun z => absurd g15 z⟩, ?_, ?_, ?_, ?_, ?_, ?_, ?_, ?_, ?_⟩
      · unfold Riv
        rw [v2, g4 0 (by omega) (by omega), e 0 (by omega)]
        exact ⟨h2.1, h2.2.1, h2.2.2.1, b2⟩
      · refine ⟨fun p hp => ?_, fun v hv => ?_⟩
        · rw [g4 18 (by omega) (by omega), e18 18 (by omega), g100 _ (by omega), b7 p hp]
          exact h3.1 p (by omega)
        · rw [v2] at hv
          have hv10 : v < 10 := by have := h2.2.2.1; omega
          rw [g4 19 (by omega) (by omega), e18 19 (by omega), g100 _ (by omega), b8 v hv10]
          exact h3.2 v hv
      · exact (h4.of (fun c hc => by rw [g4 c (by omega) (by omega), e c (by omega)]) (fun j hj => g2 j (by omega) (by omega) (by omega) (by omega))).more
      · unfold Sed at *
        rw [g4 0 (by omega) (by omega), e 0 (by omega), g2 46 (by omega) (by omega) (by omega) (by omega)]; exact h5
      · exact h6.of (by rw [g4 63 (by omega) (by omega), e 63 (by omega)]) (by rw [g4 64 (by omega) (by omega), e 64 (by omega)]) (by rw [g4 65 (by omega) (by omega), e 65 (by omega)]) (g2 38 (by omega) (by omega) (by omega) (by omega)) (by rw [g4 123 (by omega) (by omega), e 123 (by omega)])
      · exact hX2.of (g4 58 (by omega) (by omega)) (g4 59 (by omega) (by omega))
      · refine ⟨g41, g42, by omega, by omega, fun j hj k hk => ?_⟩
        rw [g4 124 (by omega) (by omega), e 124 (by omega), show ((W + 19) % 20 + 20 - j) % 20 = (W + 20 - (j + 1)) % 20 by omega]
        exact h8.2.2.2.2 (j + 1) (by omega) k hk
      · intro j hj
        obtain ⟨u1, u2, u3, u4, u5, u6, u7, u8⟩ := h9 (j + 1) (by omega)
        have hPj := u4 0 (by omega)
        refine ⟨u1, fun r hr => by rw [v2]; exact u2 r hr, hPj, fun i hi => u4 (i + 1) (by omega), u5, by rw [v2]; exact u6, fun p hp => ?_, fun v hv => ?_⟩
        · have hpp : p < (H (j + 1)).P := hp
          rw [g100 _ (by omega), b7 p (by omega)]; exact u7 p hp
        · rw [g100 _ (by omega), b8 v hv]; exact u8 v hv
      · refine ⟨by rw [g4 60 (by omega) (by omega), e60, g43], Or.inl (by rw [g4 60 (by omega) (by omega)]; exact e60)⟩
    · intro J hJ
      refine wl2_inv (I := fun (v : Int) (M' : Mem) => ∃ k : Nat, v = k ∧ k ≤ 183 ∧ (∀ c, c ≠ 100 → M' c = M2 c) ∧ (∀ i, i < k → M' 100 i = K 0 i)) (μ := fun (v : Int) (_ : Mem) => 183 - v.toNat) ?_ 5000 _ _ ⟨0, rfl, by omega, fun c _ => rfl, fun i hi => by omega⟩ (by simp)
      rintro rec v M' ⟨k, rfl, hk, g1, g2⟩ hrec
      unfold X12_undo_b15
      rw [g1 95 (by omega), hW42]
      refine ⟨fun d => hJ M' g1 (fun i hi => g2 i (by omega)), fun d => ⟨by omega, by omega, ?_⟩⟩
      rintro _ rfl
      refine ⟨by unfold inR; omega, ?_⟩
      rintro _ rfl
      rw [show (183 * (W : Int) + (k : Int)).toNat = 183 * W + k by omega, tn, g1 124 (by omega), hrow k (by omega)]
      refine hrec _ _ ⟨k + 1, by omega, by omega, fun c hc => by rw [st_o hc]; exact g1 c hc, fun i hi => ?_⟩ (by omega)
      rw [st_s]
      by_cases z : i = k
      · rw [if_pos z, z]
      · rw [if_neg z]; exact g2 i (by omega)
  · have hA : A = 0 := by have := h7.1; omega
    have h41 : st M 94 4 (M 94 4 + 1) 95 41 = 0 := by rw [st_o (by omega), h8.1, hA]; rfl
    unfold f_X12_undo
    exact ⟨fun z => absurd h41 z, fun _ => r_isRefused (k := 4) rfl (by omega) r3 (h _ _ r1.sta)⟩
end
