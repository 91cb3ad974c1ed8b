/-! see, image -/
section
variable {M : Mem} {N : Nt} {t n A F W : Nat} {H : Nat → Nt} {K : Nat → Nat → Int}
theorem StaF.oth {M' : Mem} {t' n' : Nat} (h : StaF t M N n A F W H K) (e : ∀ c, (c = 0 ∨ (12 ≤ c ∧ c ≤ 62) ∨ (100 ≤ c ∧ c ≤ 115) ∨ c = 124 ∨ c = 125) → M' c = M c) (e2 : ∀ j, (j = 15 ∨ (41 ≤ j ∧ j ≤ 46)) → M' 95 j = M 95 j) (hO : Oth t' M') (hs : SeenS M' n') : StaF t' M' N n' A F W H K := by
  obtain ⟨h1, h2, h3, h4, h5, h6, h7, h8, h9, h10⟩ := h
  have hr : ∀ (r : Nat) (k : Int), rk M' r 0 k = rk M r 0 k := fun r k => rk_of (fun c _ _ => e c (by omega))
  refine ⟨?_, ?_, ?_, hO, ?_, hs, h7.of (e 58 (by omega)) (e 59 (by omega)), h8.of (e2 41 (by omega)) (e2 42 (by omega)) (e 124 (by omega)), ?_, ?_⟩
  · obtain ⟨c1, c2, c3, c4, c5⟩ := h1
    exact ⟨c1.of (fun c _ _ => e c (by omega)), c2.of (e 100 (by omega)), c3, c4.of (fun c _ _ => e c (by omega)), fun z => (c5 (by rw [← e2 15 (by omega)]; exact z)).of c3.1 (fun c _ _ => e c (by omega))⟩
  · unfold Riv at *
    rw [e 0 (by omega), e 100 (by omega)]; exact h2
  · unfold Nms at *
    rw [e 18 (by omega), e 19 (by omega), e 100 (by omega)]; exact h3
  · unfold Sed at *
    rw [e 0 (by omega), e2 46 (by omega)]; exact h5
  · unfold Hcm at *
    rw [e 100 (by omega)]; exact h9
  · unfold Chg at *
    rw [e 60 (by omega), e 61 (by omega), e 125 (by omega), e2 43 (by omega), e2 44 (by omega)]
    simp only [hr]
    exact h10
theorem x_at {M' : Mem} {k T : Nat} (hT : M 1 1 = T) (hT2 : T ≤ 1600) (hb : ∀ k : Nat, (k : Int) < M 1 1 → bAnd (M 2 k) 255 = M' 96 k ∧ 0 ≤ M' 96 k ∧ M' 96 k ≤ 255) (hk : k < T) {v : Int} (hv : v = k) {Q : Int → Prop} (h : Q (M' 96 k)) : f_X10_at v M Q := by
  unfold f_X10_at
  rw [hv, hT, tn]
  refine ⟨fun c => by omega, fun c => ⟨fun c1 => by omega, fun c1 => ⟨by omega, ?_⟩⟩⟩
  rw [(hb k (by omega)).1]
  exact h
def SeeOk (B : Nat → Int) (T R : Nat) : Prop := T ≠ 0 ∧ T ≤ 24 ∧ T % 2 = 0 ∧ ∀ i, 2 * i < T → B (2 * i) < R ∧ B (2 * i + 1) ≤ 1
theorem x_takeSeen {R T : Nat} (hT : M 1 1 = T) (hT2 : T ≤ 1600) (hb : ∀ k : Nat, (k : Int) < M 1 1 → bAnd (M 2 k) 255 = M 96 k ∧ 0 ≤ M 96 k ∧ M 96 k ≤ 255) {Q : Int → Mem → Prop} (h1 : SeeOk (M 96) T R → ∀ M' : Mem, (∀ c, c ≠ 63 → c ≠ 64 → c ≠ 65 → M' c = M c) → M' 63 0 = ((T / 2 : Nat) : Int) → (∀ i, i < T / 2 → M' 64 i = M 96 (2 * i) ∧ M' 65 i = M 96 (2 * i + 1)) → Q 1 M') (h0 : ¬ SeeOk (M 96) T R → Q 0 M) : f_X8_take (R : Int) M Q := by
  unfold f_X8_take
  rw [hT, Int.tmod_eq_emod_of_nonneg (by omega), Int.tdiv_eq_ediv_of_nonneg (by omega)]
  refine ⟨fun c => h0 (fun z => z.1 (by omega)), fun c => ⟨fun c1 => h0 (fun z => by have := z.2.1; omega), fun c1 => ⟨fun c2 => ?_, fun c2 => h0 (fun z => by have := z.2.2.1; omega)⟩⟩⟩
  have hev : T % 2 = 0 := by omega
  refine jn_use (P := fun J => SeeOk (M 96) T R → J) ?_ ?_
  · intro hok
    rintro _ rfl
    rw [show (T : Int) / 2 = ((T / 2 : Nat) : Int) by omega]
    refine wl2_inv (I := fun (v : Int) (M' : Mem) => ∃ i : Nat, v = i ∧ i ≤ T / 2 ∧ (∀ c, c ≠ 63 → c ≠ 64 → c ≠ 65 → M' c = M c) ∧ M' 63 0 = ((T / 2 : Nat) : Int) ∧ (∀ j, j < i → M' 64 j = M 96 (2 * j) ∧ M' 65 j = M 96 (2 * j + 1))) (μ := fun (v : Int) (_ : Mem) => T / 2 - v.toNat) ?_ 5000 _ _ ⟨0, rfl, by omega, fun c q1 _ _ => by rw [st_o q1], by rw [st_s, if_pos rfl], fun j hj => by omega⟩ (by simp; omega)
    rintro rec v M' ⟨i, rfl, hi, g1, g2, g3⟩ hrec
    unfold X8_take_b77
    rw [g2]
    have hbb : ∀ M2 : Mem, M2 1 = M 1 → M2 2 = M 2 → ∀ k : Nat, (k : Int) < M2 1 1 → bAnd (M2 2 k) 255 = M 96 k ∧ 0 ≤ M 96 k ∧ M 96 k ≤ 255 := fun M2 e1 e2 k hk => by rw [e1] at hk; rw [e2]; exact hb k hk
    refine ⟨fun d => h1 hok M' g1 g2 (fun j hj => g3 j (by omega)), fun d => ⟨by unfold inR; omega, ?_⟩⟩
    refine x_at (M' := M) (k := 2 * i) (T := T) (by rw [g1 1 (by omega) (by omega) (by omega)]; exact hT) hT2 (hbb M' (g1 1 (by omega) (by omega) (by omega)) (g1 2 (by omega) (by omega) (by omega))) (by omega) (by omega) ⟨by omega, ?_⟩
    rintro _ rfl
    refine ⟨by unfold inR; omega, ?_⟩
    have k1 : ∀ c, c ≠ 64 → st M' 64 ((i : Int).toNat) (M 96 (2 * i)) c = M' c := fun c hc => st_o hc
    refine x_at (M' := M) (k := 2 * i + 1) (T := T) (by rw [k1 1 (by omega), g1 1 (by omega) (by omega) (by omega)]; exact hT) hT2 (hbb _ (by rw [k1 1 (by omega), g1 1 (by omega) (by omega) (by omega)]) (by rw [k1 2 (by omega), g1 2 (by omega) (by omega) (by omega)])) (by omega) (by omega) ?_
    rintro _ rfl
    refine ⟨by unfold inR; omega, ?_⟩
    rintro _ rfl
    rw [tn]
    refine hrec _ _ ⟨i + 1, by omega, by omega, fun c q1 q2 q3 => by rw [st_o q3, st_o q2]; exact g1 c q1 q2 q3, by rw [st_o (by omega), st_o (by omega)]; exact g2, fun j hj => ?_⟩ (by omega)
    rw [st_o (show 64 ≠ 65 by omega), st_s, st_s, st_o (show 65 ≠ 64 by omega)]
    by_cases z : j = i
    · rw [if_pos z, if_pos z, z]; exact ⟨rfl, rfl⟩
    · rw [if_neg z, if_neg z]; exact g3 j (by omega)
  · intro J hJ
    refine wl1_inv (I := fun (v : Int) => ∃ i : Nat, v = ((2 * i : Nat) : Int) ∧ 2 * i ≤ T ∧ ∀ j, j < i → M 96 (2 * j) < R ∧ M 96 (2 * j + 1) ≤ 1) (μ := fun (v : Int) => T - v.toNat) ?_ 5000 _ ⟨0, rfl, by omega, fun j hj => by omega⟩ (by simp; omega)
    rintro rec v ⟨i, rfl, hi, g1⟩ hrec
    unfold X8_take_b29
    rw [hT]
    refine ⟨fun d => hJ ⟨by omega, by omega, hev, fun j hj => g1 j (by omega)⟩, fun d => x_at (M' := M) (k := 2 * i) hT hT2 hb (by omega) rfl ⟨fun d1 => h0 (fun z => by have := (z.2.2.2 i (by omega)).1; omega), fun d1 => ⟨by unfold inR; omega, x_at (M' := M) (k := 2 * i + 1) hT hT2 hb (by omega) (by omega) ⟨fun d2 => ⟨by unfold inR; omega, ?_⟩, fun d2 => h0 (fun z => by have := (z.2.2.2 i (by omega)).2; omega)⟩⟩⟩⟩
    rintro _ rfl
    refine hrec _ ⟨i + 1, by omega, by omega, fun j hj => ?_⟩ (by omega)
    by_cases z : j = i
    · rw [z]; exact ⟨by omega, d2⟩
    · exact g1 j (by omega)
theorem r_see {T : Nat} {Q : Int → Mem → Prop} (hT : M 95 1 = T) (hT2 : T ≤ 1600) (hN : NetR M 100 N) (hW : Wf N) (hb : ∀ k, k < T → 0 ≤ M 96 k ∧ M 96 k ≤ 255) (h1 : SeeOk (M 96) T N.R → ∀ M' : Mem, (∀ c, c ≠ 95 → c ≠ 123 → M' c = M c) → (∀ j, j ≠ 1 → j ≠ 38 → M' 95 j = M 95 j) → M' 95 1 = 0 → M' 95 38 = ((T / 2 : Nat) : Int) → (∀ k, k < T → M' 123 k = M 96 k) → Q ((T / 2 : Nat) : Int) M') (h0 : ¬ SeeOk (M 96) T N.R → f_X12_refuses 1 (st M 95 1 0) Q) : f_X12_see M Q := by
  unfold f_X12_see
  rw [hT]
  rintro _ rfl
  rintro _ rfl
  rw [Int.tmod_eq_emod_of_nonneg (by omega), Int.tdiv_eq_ediv_of_nonneg (by omega)]
  have e1 : ∀ c, c ≠ 95 → st M 95 1 0 c = M c := fun c hc => st_o hc
  have hN2 : NetR (st M 95 1 0) 100 N := hN.of (e1 100 (by omega))
  have e96 : st M 95 1 0 96 = M 96 := e1 96 (by omega)
  refine jn_use (P := fun J => (T ≠ 0 ∧ T ≤ 24 ∧ T % 2 = 0 → J 1) ∧ (¬ (T ≠ 0 ∧ T ≤ 24 ∧ T % 2 = 0) → J 0)) ?_ ?_
  · have hend : ∀ s : Int, ((s = 1 ∧ T ≠ 0 ∧ T ≤ 24 ∧ T % 2 = 0) ∨ (s = 0 ∧ ¬ SeeOk (M 96) T N.R)) → jn (τ := Int → Prop) (fun (v2_4 : Int) => (¬ v2_4 = 0 → (wl2 (X12_see_b94 Q (T : Int)) 5000 0 (st M 95 1 0))) ∧ (v2_4 = 0 → (f_X12_refuses 1 (st M 95 1 0) (fun r_14 M_15 => Q r_14 M_15)))) (fun J82 => wl2 (X12_see_b36 (T : Int) (st M 95 1 0) J82) 5000 s 0) := by
      intro s hs
      refine jn_use (P := fun J => (SeeOk (M 96) T N.R → J 1) ∧ (¬ SeeOk (M 96) T N.R → J 0)) ⟨fun hok => ⟨fun _ => ?_, fun z => absurd z (by omega)⟩, fun hno => ⟨fun z => absurd rfl z, fun _ => h0 hno⟩⟩ (fun J hJ => ?_)
      · have hT24 := hok.2.1
        refine wl2_inv (I := fun (v : Int) (M' : Mem) => ∃ k : Nat, v = k ∧ k ≤ T ∧ (∀ c, c ≠ 123 → M' c = st M 95 1 0 c) ∧ (∀ i, i < k → M' 123 i = M 96 i)) (μ := fun (v : Int) (_ : Mem) => T - v.toNat) ?_ 5000 _ _ ⟨0, rfl, by omega, fun c _ => rfl, fun i hi => by omega⟩ (by simp; omega)
        rintro rec v M' ⟨k, rfl, hk, g1, g2⟩ hrec
        unfold X12_see_b94
        refine ⟨fun d => ?_, fun d => ⟨by omega, by omega, ?_⟩⟩
        · rintro _ rfl
          rw [Int.tdiv_eq_ediv_of_nonneg (by omega), show (T : Int) / 2 = ((T / 2 : Nat) : Int) by omega, st_s, if_pos rfl]
          refine h1 hok _ (fun c q1 q2 => by rw [st_o q1, g1 c q2, e1 c q1]) (fun j q1 q2 => by rw [st_s, if_neg q2, g1 95 (by omega), st_s, if_neg q1]) (by rw [st_s, if_neg (by omega), g1 95 (by omega), st_s, if_pos rfl]) (by rw [st_s, if_pos rfl]) (fun i hi => by rw [st_o (by omega)]; exact g2 i (by omega))
        · rintro _ rfl
          refine ⟨by unfold inR; omega, ?_⟩
          rintro _ rfl
          rw [tn, g1 96 (by omega), e96]
          refine hrec _ _ ⟨k + 1, by omega, by omega, fun c hc => by rw [st_o hc]; exact g1 c hc, fun i hi => ?_⟩ (by omega)
          rw [st_s]
          by_cases z : i = k
          · rw [if_pos z, z]
          · rw [if_neg z]; exact g2 i (by omega)
      · refine wl2_inv (I := fun (s v : Int) => (s = 1 ∧ (T ≠ 0 ∧ T ≤ 24 ∧ T % 2 = 0) ∧ ∃ i : Nat, v = ((2 * i : Nat) : Int) ∧ 2 * i ≤ T ∧ ∀ j, j < i → M 96 (2 * j) < N.R ∧ M 96 (2 * j + 1) ≤ 1) ∨ (s = 0 ∧ ¬ SeeOk (M 96) T N.R)) (μ := fun (s v : Int) => if s = 0 then 0 else T + 1 - v.toNat) ?_ 5000 _ _ ?_ (by split <;> simp <;> omega)
        rotate_left
        · rcases hs with ⟨z1, z2⟩ | ⟨z1, z2⟩
          · exact Or.inl ⟨z1, z2, 0, rfl, by omega, fun j hj => by omega⟩
          · exact Or.inr ⟨z1, z2⟩
        rintro rec s v hI hrec
        unfold X12_see_b36
        rcases hI with ⟨rfl, hT3, i, rfl, hi, g1⟩ | ⟨rfl, hno⟩
        · have hbad : ¬ SeeOk (M 96) T N.R → inR (((2 * i : Nat) : Int) + 2) ∧ ∀ z : Int, z = ((2 * i : Nat) : Int) + 2 → rec 0 z := fun hh => by
            refine ⟨by unfold inR; omega, ?_⟩
            rintro _ rfl
            exact hrec _ _ (Or.inr ⟨rfl, hh⟩) (by simp; omega)
          refine ⟨fun d => hJ.1 ⟨hT3.1, hT3.2.1, hT3.2.2, fun j hj => g1 j (by omega)⟩, fun d => ⟨fun z => absurd z (by omega), fun _ => ⟨by omega, ?_⟩⟩⟩
          rw [tn, e96]
          have hbi := hb (2 * i) (by omega)
          refine r_isReach hN2 hW (fun r hr er => ⟨fun z => absurd z (by omega), fun _ => ⟨by omega, ?_⟩⟩) (fun hno => ⟨fun _ => hbad (fun z => by have := (z.2.2.2 i (by omega)).1; omega), fun z => absurd rfl z⟩)
          rw [show (((2 * i : Nat) : Int) + 1).toNat = 2 * i + 1 by omega]
          refine ⟨fun d1 => hbad (fun z => by have := (z.2.2.2 i (by omega)).2; omega), fun d1 => ⟨by unfold inR; omega, ?_⟩⟩
          rintro _ rfl
          refine hrec _ _ (Or.inl ⟨rfl, hT3, i + 1, by omega, by omega, fun j hj => ?_⟩) (by simp; omega)
          by_cases z : j = i
          · rw [z]; exact ⟨by omega, by omega⟩
          · exact g1 j (by omega)
        · exact ⟨fun _ => hJ.2 hno, fun _ => ⟨fun _ => hJ.2 hno, fun z => absurd rfl z⟩⟩
    exact ⟨fun z => hend 1 (Or.inl ⟨rfl, z⟩), fun z => hend 0 (Or.inr ⟨rfl, fun y => z ⟨y.1, y.2.1, y.2.2.1⟩⟩)⟩
  · intro J hJ
    refine ⟨fun c => hJ.2 (by omega), fun c => ⟨fun c1 => hJ.2 (by omega), fun c1 => ⟨fun c2 => hJ.2 (by omega), fun c2 => hJ.1 (by omega)⟩⟩⟩
theorem q_see (hS : StaF t M N n A F W H K) (ht : t ≤ 1000) {Q : Int → Int → Mem → Prop} (h : ∀ (r : Int) (M2 : Mem), Sta (t + 1) M2 → Q r r M2) : f_X11_see M (fun r M1 => f_X12_see M1 (fun r2 M2 => Q r r2 M2)) := by
  obtain ⟨⟨c1, c2, c3, c4, c5⟩, h2, h3, ⟨⟨t1, t2, t3, t4⟩, o2, o3, o4, o5⟩, h5, h6, -⟩ := id hS
  have hR := c3.1.2.1
  obtain ⟨T, hT⟩ : ∃ T : Nat, M 1 1 = T := ⟨(M 1 1).toNat, by omega⟩
  have hT2 : T ≤ 1600 := by omega
  have hT95 : M 95 1 = T := by rw [← t1]; exact hT
  have hO : ∀ M' : Mem, M' 1 1 = 0 → M' 95 1 = 0 → Rfs (t + 1) M' → M' 3 = M 3 → M' 95 7 = M 95 7 → M' 95 8 = M 95 8 → M' 66 = M 66 → M' 67 = M 67 → M' 95 48 = M 95 48 → M' 126 = M 126 → M' 98 = M 98 → Oth (t + 1) M' := fun M' a1 a2 a3 a4 a5 a6 a7 a8 a9 a10 a11 => by
    refine ⟨⟨by rw [a1, a2], by omega, by omega, fun k hk => by omega⟩, a3, by rw [a4, a5, a6]; exact o3, ?_, ?_⟩
    · unfold Img at *; rw [a7, a8, a9, a10]; exact o4
    · unfold Own at *; rw [a11]; exact o5
  unfold f_X11_see
  rw [c1.2.1]
  refine x_takeSeen hT hT2 t4 (fun hok M1 a1 a2 a3 => ?_) (fun hno => ?_)
  · rintro _ rfl
    refine ⟨fun z => absurd z (by omega), fun _ => ?_⟩
    rw [st_o (show 63 ≠ 1 by omega), a2]
    have e1 : ∀ c, c ≠ 1 → c ≠ 63 → c ≠ 64 → c ≠ 65 → st M1 1 1 0 c = M c := fun c q0 q1 q2 q3 => by rw [st_o q0, a1 c q1 q2 q3]
    have e96 : st M1 1 1 0 96 = M 96 := e1 96 (by omega) (by omega) (by omega) (by omega)
    refine r_see (N := N) (T := T) (by rw [e1 95 (by omega) (by omega) (by omega) (by omega)]; exact hT95) hT2 (c2.of (e1 100 (by omega) (by omega) (by omega) (by omega))) c3.1 (fun k hk => by rw [e96]; exact (t4 k (by omega)).2) (fun _ M2 b1 b2 b3 b4 b5 => ?_) (fun z => absurd (by rw [e96]; exact hok) z)
    have e2 : ∀ c, c ≠ 1 → c ≠ 63 → c ≠ 64 → c ≠ 65 → c ≠ 95 → c ≠ 123 → M2 c = M c := fun c q0 q1 q2 q3 q4 q5 => by rw [b1 c q4 q5, e1 c q0 q1 q2 q3]
    have f2 : ∀ j, j ≠ 1 → j ≠ 38 → M2 95 j = M 95 j := fun j q1 q2 => by rw [b2 j q1 q2, e1 95 (by omega) (by omega) (by omega) (by omega)]
    refine h _ _ (StaF.oth (M' := M2) (n' := T / 2) hS (fun c hc => e2 c (by omega) (by omega) (by omega) (by omega) (by omega) (by omega)) (fun j hj => f2 j (by omega) (by omega)) (hO M2 (by rw [b1 1 (by omega) (by omega), st_s, if_pos rfl]) b3 (fun i hi => by rw [e2 94 (by omega) (by omega) (by omega) (by omega) (by omega) (by omega), e2 97 (by omega) (by omega) (by omega) (by omega) (by omega) (by omega)]; have := o2 i hi; omega) (e2 3 (by omega) (by omega) (by omega) (by omega) (by omega) (by omega)) (f2 7 (by omega) (by omega)) (f2 8 (by omega) (by omega)) (e2 66 (by omega) (by omega) (by omega) (by omega) (by omega) (by omega)) (e2 67 (by omega) (by omega) (by omega) (by omega) (by omega) (by omega)) (f2 48 (by omega) (by omega)) (e2 126 (by omega) (by omega) (by omega) (by omega) (by omega) (by omega)) (e2 98 (by omega) (by omega) (by omega) (by omega) (by omega) (by omega))) ?_).sta
    obtain ⟨k1, k2, k3, k4⟩ := hok
    refine ⟨by rw [b1 63 (by omega) (by omega), st_o (by omega)]; exact a2, b4, by omega, fun i hi => ?_⟩
    have hv := t4 (2 * i) (by omega)
    have hw := t4 (2 * i + 1) (by omega)
    have hz := k4 i (by omega)
    obtain ⟨p1, p2⟩ := a3 i hi
    rw [b1 64 (by omega) (by omega), b1 65 (by omega) (by omega), st_o (show 64 ≠ 1 by omega), st_o (show 65 ≠ 1 by omega), p1, p2, b5 (2 * i) (by omega), b5 (2 * i + 1) (by omega), e96]
    exact ⟨rfl, rfl, by omega, by omega⟩
  · rintro _ rfl
    have hT0 : StaF t M N n A F W H K := hS
    obtain ⟨q1, q2, q3⟩ := hS.refuse (k := 1) (by omega) ht
    have e94 : st M 1 1 0 94 = M 94 := st_o (by omega)
    refine ⟨fun _ => x_refuse (M := st M 1 1 0) (k := 1) rfl (by omega) (by rw [e94]; exact q2) ?_, fun z => absurd rfl z⟩
    rw [e94]
    obtain ⟨M1, hM1⟩ : ∃ M1 : Mem, M1 = st (st M 1 1 0) 94 1 (M 94 1 + 1) := ⟨_, rfl⟩
    rw [← hM1]
    have e1 : ∀ c, c ≠ 1 → c ≠ 94 → M1 c = M c := fun c u1 u2 => by rw [hM1, st_o u2, st_o u1]
    have e96 : M1 96 = M 96 := e1 96 (by omega) (by omega)
    refine r_see (N := N) (T := T) (by rw [e1 95 (by omega) (by omega)]; exact hT95) hT2 (c2.of (e1 100 (by omega) (by omega))) c3.1 (fun k hk => by rw [e96]; exact (t4 k (by omega)).2) (fun z => absurd (by rw [e96] at z; exact z) hno) (fun _ => ?_)
    unfold f_X12_refuses
    have e97 : st M1 95 1 0 97 = M 97 := by rw [st_o (by omega), e1 97 (by omega) (by omega)]
    rw [e97]
    refine ⟨by omega, ?_⟩
    show inR (M 97 1 + 1) ∧ _
    refine ⟨by unfold inR; omega, ?_⟩
    intro M3 hM3
    replace hM3 : M3 = st (st M1 95 1 0) 97 1 (M 97 1 + 1) := hM3
    have g1 : ∀ c, c ≠ 1 → c ≠ 94 → c ≠ 95 → c ≠ 97 → M3 c = M c := fun c u1 u2 u3 u4 => by rw [hM3, st_o u4, st_o u3, e1 c u1 u2]
    have g2 : ∀ j, j ≠ 1 → M3 95 j = M 95 j := fun j hj => by rw [hM3, st_o (by omega), st_s, if_neg hj, e1 95 (by omega) (by omega)]
    refine h _ _ (StaF.oth (M' := M3) (n' := n) hS (fun c hc => g1 c (by omega) (by omega) (by omega) (by omega)) (fun j hj => g2 j (by omega)) (hO M3 ?_ ?_ (fun i hi => ?_) (g1 3 (by omega) (by omega) (by omega) (by omega)) (g2 7 (by omega)) (g2 8 (by omega)) (g1 66 (by omega) (by omega) (by omega) (by omega)) (g1 67 (by omega) (by omega) (by omega) (by omega)) (g2 48 (by omega)) (g1 126 (by omega) (by omega) (by omega) (by omega)) (g1 98 (by omega) (by omega) (by omega) (by omega))) (h6.of (g1 63 (by omega) (by omega) (by omega) (by omega)) (g1 64 (by omega) (by omega) (by omega) (by omega)) (g1 65 (by omega) (by omega) (by omega) (by omega)) (g2 38 (by omega)) (g1 123 (by omega) (by omega) (by omega) (by omega)))).sta
    · rw [hM3, st_o (by omega), st_o (by omega), hM1, st_o (by omega), st_s, if_pos rfl]
    · rw [hM3, st_o (by omega), st_s, if_pos rfl]
    · have hi' := o2 i hi
      rw [hM3, st_o (show 94 ≠ 97 by omega), st_o (show 94 ≠ 95 by omega), hM1, st_s, st_o (show 94 ≠ 1 by omega), st_s, st_o (show 97 ≠ 95 by omega), st_o (show 97 ≠ 94 by omega), st_o (show 97 ≠ 1 by omega)]
      by_cases z : i = 1
      · rw [if_pos z, if_pos z]; have := o2 1 (by omega); omega
      · rw [if_neg z, if_neg z]; omega
end
