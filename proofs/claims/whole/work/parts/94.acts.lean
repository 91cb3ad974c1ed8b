/-! what an act begins and ends with; what came to another rank -/
theorem rk_of {M M' : Mem} {r : Nat} {k : Int} (e : ∀ c, 20 ≤ c → c ≤ 57 → M' c = M c) : rk M' r 0 k = rk M r 0 k := by
  unfold rk
  rw [e 30 (by omega) (by omega), e 29 (by omega) (by omega), e (37 + 7 * 0 + 5) (by omega) (by omega), e (37 + 7 * 0 + 6) (by omega) (by omega)]
section
variable {M : Mem} {N : Nt}
theorem x_beginAct {A F : Nat} {H : Nat → Nt} (hN : NetX M 12 N) (hG : Good N) (hX : AllX M N) (hH : HstX M A F H) {Q : Mem → Prop} (h : ∀ (M' : Mem) (A' F' : Nat), (∀ c, c ≠ 58 → c ≠ 59 → c ≠ 60 → c ≠ 62 → M' c = M c) → M' 60 0 = M 60 0 → M' 60 1 = N.R → (∀ k r : Nat, k < 4 → r < N.R → M' 62 (30 * k + r) = rk M r 0 k) → A' = (if A = 20 then 20 else A + 1) → HstX M' A' F' (pshX N H) → Q M') : f_X11_beginAct M Q := by
  have hR := hG.1.2.1
  unfold f_X11_beginAct
  refine x_keep hN hG.1 hH (fun M1 A' F' a1 a2 a3 => ?_)
  refine wl2_inv (I := fun (v : Int) (M' : Mem) => ∃ k : Nat, v = k ∧ k ≤ 4 ∧ (∀ c, c ≠ 62 → M' c = M1 c) ∧ (∀ i r : Nat, i < k → r < N.R → M' 62 (30 * i + r) = rk M r 0 i)) (μ := fun (v : Int) (_ : Mem) => 4 - v.toNat) ?_ 5000 _ _ ⟨0, rfl, by omega, fun c _ => rfl, fun i r hi => by omega⟩ (by simp)
  rintro rec v M' ⟨k, rfl, hk, g1, g2⟩ hrec
  unfold X11_beginAct_b13
  refine ⟨fun c => ?_, fun c => ?_⟩
  · rintro _ rfl
    have e12 : M' 12 1 = N.R := by rw [g1 12 (by omega), a1 12 (by omega) (by omega)]; exact hN.2.1
    refine h _ A' F' (fun c q1 q2 q3 q4 => by rw [st_o q3, g1 c q4, a1 c q1 q2]) (by rw [st_s, if_neg (by omega), g1 60 (by omega), a1 60 (by omega) (by omega)]) (by rw [st_s, if_pos rfl]; exact e12) (fun i r hi hr => by rw [st_o (by omega)]; exact g2 i r (by omega) hr) a2 ?_
    unfold HstX HisX at a3 ⊢
    rw [st_o (show 58 ≠ 60 by omega), st_o (show 59 ≠ 60 by omega), g1 58 (by omega), g1 59 (by omega)]
    exact a3
  · refine wl2_inv (I := fun (v : Int) (M' : Mem) => ∃ j : Nat, v = j ∧ j ≤ N.R ∧ (∀ c, c ≠ 62 → M' c = M1 c) ∧ (∀ i r : Nat, (i < k ∧ r < N.R ∨ i = k ∧ r < j) → M' 62 (30 * i + r) = rk M r 0 i)) (μ := fun (v : Int) (_ : Mem) => N.R - v.toNat) ?_ 5000 _ _ ⟨0, rfl, by omega, g1, fun i r hir => g2 i r (by omega) (by omega)⟩ (by simp; omega)
    clear g1 g2
    rintro rec' v M' ⟨j, rfl, hj, g1, g2⟩ hrec'
    unfold X11_beginAct_b20
    have hN' : NetX M' 12 N := hN.of (fun c _ _ => by rw [g1 c (by omega), a1 c (by omega) (by omega)])
    have hX' : AllX M' N := hX.of (fun c _ _ => by rw [g1 c (by omega), a1 c (by omega) (by omega)])
    rw [hN'.2.1]
    refine ⟨fun c2 => ⟨by unfold inR; omega, ?_⟩, fun c2 => ?_⟩
    · rintro _ rfl
      exact hrec _ _ ⟨k + 1, by omega, by omega, g1, fun i r hi hr => g2 i r (by omega)⟩ (by omega)
    · refine x_rankOf (w := 0) hG hX' (by omega) (by omega) (by omega) ?_
      unfold f_X0_note
      refine ⟨by omega, ?_⟩
      rintro _ rfl
      refine ⟨by unfold inR; omega, ?_⟩
      rintro _ rfl
      refine hrec' _ _ ⟨j + 1, by omega, by omega, fun c hc => by rw [st_o hc]; exact g1 c hc, fun i r hir => ?_⟩ (by omega)
      rw [show ((k : Int) * 30 + (j : Int)).toNat = 30 * k + j by omega, st_s]
      by_cases e : i = k ∧ r = j
      · rw [if_pos (by omega), e.1, e.2]
        exact rk_of (fun c _ _ => by rw [g1 c (by omega), a1 c (by omega) (by omega)])
      · rw [if_neg (by omega)]; exact g2 i r (by omega)
theorem x_endAct {a : Nat} {R0 : Nat → Int} (hN : NetX M 12 N) (hG : Good N) (ha : M 60 1 = a) (ha2 : a ≤ 30) (hR0 : M 62 = R0) {Q : Mem → Prop} (h : ∀ M' : Mem, (∀ c, (c < 20 ∨ 57 < c) → c ≠ 60 → c ≠ 61 → M' c = M c) → M' 60 0 = 1 → AllX M' N → (∀ k : Nat, k < 4 → M' 61 k = (cnt (fun r => decide (rk M' r 0 k ≠ R0 (30 * k + r))) (min a N.R) : Int)) → Q M') : f_X11_endAct M Q := by
  have hR := hG.1.2.1
  unfold f_X11_endAct
  refine x_figureAll hN hG (fun M1 a1 a2 => ?_)
  unfold f_X0_begin
  rintro _ rfl
  rintro _ rfl
  rw [fil_n (show 60 ≠ 61 by omega), fil_n (show 12 ≠ 61 by omega), st_s, if_neg (by omega), st_o (show 12 ≠ 60 by omega), a1 60 (by omega), a1 12 (by omega), ha, hN.2.1]
  rintro _ rfl
  obtain ⟨m, hm⟩ : ∃ m, m = min a N.R := ⟨_, rfl⟩
  have hm' : min (a : Int) (N.R : Int) = (m : Int) := by omega
  have hm2 : m ≤ N.R := by omega
  rw [hm']
  rw [← hm] at h
  obtain ⟨M2, hM2⟩ : ∃ M2 : Mem, M2 = fil (st M1 60 0 1) 61 4 0 := ⟨_, rfl⟩
  have f1 : ∀ c, c ≠ 60 → c ≠ 61 → M2 c = M1 c := fun c q1 q2 => by rw [hM2, fil_n q2, st_o q1]
  have f2 : M2 60 0 = 1 := by rw [hM2, fil_n (by omega), st_s, if_pos rfl]
  have f3 : ∀ k, k < 4 → M2 61 k = 0 := fun k hk => by rw [hM2, fil_e, if_pos hk]
  rw [← hM2]
  have hX2 : AllX M2 N := a2.of (fun c _ _ => f1 c (by omega) (by omega))
  have hcl : ∀ (k j : Nat), cnt (fun r => decide (rk M2 r 0 k ≠ R0 (30 * k + r))) j ≤ j := fun k j => cnt_le _ j
  refine wl2_inv (I := fun (v : Int) (M' : Mem) => ∃ k : Nat, v = k ∧ k ≤ 4 ∧ (∀ c, c ≠ 61 → M' c = M2 c) ∧ (∀ i : Nat, i < k → M' 61 i = (cnt (fun r => decide (rk M2 r 0 i ≠ R0 (30 * i + r))) m : Int)) ∧ (∀ i, k ≤ i → i < 4 → M' 61 i = 0)) (μ := fun (v : Int) (_ : Mem) => 4 - v.toNat) ?_ 5000 _ _ ⟨0, rfl, by omega, fun c _ => rfl, fun i hi => by omega, fun i _ hi => f3 i hi⟩ (by simp)
  rintro rec v M' ⟨k, rfl, hk, g1, g2, g3⟩ hrec
  unfold X11_endAct_b31
  have hrk : ∀ (M3 : Mem), (∀ c, c ≠ 61 → M3 c = M2 c) → ∀ (r : Nat) (i : Int), rk M3 r 0 i = rk M2 r 0 i := fun M3 h3 r i => rk_of (fun c _ _ => h3 c (by omega))
  refine ⟨fun c => h M' (fun c q1 q2 q3 => by rw [g1 c q3, f1 c q2 q3, a1 c q1]) (by rw [g1 60 (by omega)]; exact f2) (hX2.of (fun c _ _ => g1 c (by omega))) (fun i hi => ?_), fun c => ?_⟩
  · have e : cnt (fun r => decide (rk M' r 0 (i : Int) ≠ R0 (30 * i + r))) m = cnt (fun r => decide (rk M2 r 0 (i : Int) ≠ R0 (30 * i + r))) m := cnt_congr (fun r _ => by rw [hrk M' g1])
    rw [g2 i (by omega), e]
  · refine wl2_inv (I := fun (v : Int) (M' : Mem) => ∃ j : Nat, v = j ∧ j ≤ m ∧ (∀ c, c ≠ 61 → M' c = M2 c) ∧ (∀ i : Nat, i < k → M' 61 i = (cnt (fun r => decide (rk M2 r 0 i ≠ R0 (30 * i + r))) m : Int)) ∧ M' 61 k = (cnt (fun r => decide (rk M2 r 0 k ≠ R0 (30 * k + r))) j : Int) ∧ (∀ i, k < i → i < 4 → M' 61 i = 0)) (μ := fun (v : Int) (_ : Mem) => m - v.toNat) ?_ 5000 _ _ ⟨0, rfl, by omega, g1, g2, by rw [g3 k (by omega) (by omega)]; rfl, fun i h1 h2 => g3 i (by omega) h2⟩ (by simp; omega)
    clear g1 g2 g3
    rintro rec' v M' ⟨j, rfl, hj, g1, g2, g3, g4⟩ hrec'
    unfold X11_endAct_b38
    refine ⟨fun c2 => ⟨by unfold inR; omega, ?_⟩, fun c2 => ?_⟩
    · rintro _ rfl
      have e : j = m := by omega
      rw [e] at g3
      refine hrec _ _ ⟨k + 1, by omega, by omega, g1, fun i hi => ?_, fun i h1 h2 => g4 i (by omega) h2⟩ (by omega)
      by_cases z : i = k
      · rw [z]; exact g3
      · exact g2 i (by omega)
    · have hX' : AllX M' N := hX2.of (fun c _ _ => g1 c (by omega))
      refine x_rankOf (w := 0) hG hX' (by omega) (by omega) (by omega) ?_
      rw [hrk M' g1]
      unfold f_X0_compare
      have e62 : M' 62 = R0 := by rw [g1 62 (by omega), f1 62 (by omega) (by omega), a1 62 (by omega)]; exact hR0
      have hl := hcl k j
      rw [e62, show ((k : Int) * 30 + (j : Int)).toNat = 30 * k + j by omega, tn, g3]
      refine ⟨by omega, fun c3 => ⟨by unfold inR; omega, ?_⟩, fun c3 => ⟨by omega, by unfold inR; omega, ?_⟩⟩
      · rintro _ rfl
        refine hrec' _ _ ⟨j + 1, by omega, by omega, g1, g2, ?_, g4⟩ (by omega)
        rw [g3, cnt_s, if_neg (by simp [c3])]; rfl
      · rintro _ rfl
        refine ⟨by unfold inR; omega, ?_⟩
        rintro _ rfl
        refine hrec' _ _ ⟨j + 1, by omega, by omega, fun c hc => by rw [st_o hc]; exact g1 c hc, fun i hi => ?_, ?_, fun i h1 h2 => ?_⟩ (by omega)
        · rw [st_s, if_neg (by omega)]; exact g2 i hi
        · rw [st_s, if_pos rfl, cnt_s, if_pos (by simp only [decide_eq_true_eq]; exact fun z => c3 z.symm)]; omega
        · rw [st_s, if_neg (by omega)]; exact g4 i h1 h2
/-- the reference keeps the net as it is: M0 is what stood ahead of the class's act -/
theorem r_keeps {M0 : Mem} {A W : Nat} {H : Nat → Nat → Int} (hX0 : AllX M0 N) (hN : NetR M 100 N) (hG : Good N) (hL : ¬ M 95 15 = 0 → AllR M N) (hH : HstR M A W H) {Q : Mem → Prop} (h : ∀ (M' : Mem) (A' W' : Nat), (∀ c, c ≠ 95 → c ≠ 124 → c ≠ 125 → (c < 101 ∨ 115 < c) → M' c = M c) → (∀ j, j ≠ 15 → j ≠ 41 → j ≠ 42 → j ≠ 43 → j ≠ 44 → M' 95 j = M 95 j) → M' 95 43 = 1 → M' 95 44 = N.R → (∀ k r : Nat, k < 4 → r < N.R → M' 125 (30 * k + r) = rk M0 r 0 k) → A' = (if A = 20 then 20 else A + 1) → HstR M' A' W' (pshR (M 100) H) → Q M') : f_X12_keeps M Q := by
  have hR := hG.1.2.1
  obtain ⟨a1, a2, a3, a4, a5⟩ := hH
  unfold f_X12_keeps
  rw [a2, Int.tmod_eq_emod_of_nonneg (by omega)]
  refine ⟨by unfold inR; omega, ?_⟩
  rintro _ rfl
  obtain ⟨w, hw⟩ : ∃ w, w = (W + 1) % 20 := ⟨_, rfl⟩
  have hw' : ((W : Int) + 1) % 20 = (w : Int) := by omega
  rw [hw']
  have hsl : ∀ j, 0 < j → j ≤ 19 → (w + 20 - j) % 20 = (W + 20 - (j - 1)) % 20 ∧ (w + 20 - j) % 20 ≠ w := fun j h1 h2 => by omega
  refine jn_use (P := fun J => ∀ M1 : Mem, (∀ c, c ≠ 95 → c ≠ 124 → M1 c = M c) → (∀ j, j ≠ 42 → M1 95 j = M 95 j) → M1 95 42 = w → (∀ k, k < 183 → M1 124 (183 * w + k) = M 100 k) → (∀ x, (x < 183 * w ∨ 183 * w + 183 ≤ x) → M1 124 x = M 124 x) → J M1) ?_ ?_
  · intro M1 b1 b2 b3 b4 b5
    refine jn_use (P := fun J => ∀ (M2 : Mem) (A' : Nat), (∀ c, c ≠ 95 → M2 c = M1 c) → (∀ j, j ≠ 41 → M2 95 j = M1 95 j) → M2 95 41 = A' → A' = (if A = 20 then 20 else A + 1) → J M2) ?_ ?_
    · intro M2 A' c1 c2 c3 c4
      have hN2 : NetR M2 100 N := hN.of (by rw [c1 100 (by omega), b1 100 (by omega) (by omega)])
      have h15 : M2 95 15 = M 95 15 := by rw [c2 15 (by omega), b2 15 (by omega)]
      refine r_lays hN2 hG (fun z => (hL (by rw [← h15]; exact z)).of hG.1 (fun c _ _ => by rw [c1 c (by omega), b1 c (by omega) (by omega)])) (fun M3 d1 d2 d3 d4 => ?_)
      have hSm : Sm M0 M3 N := ⟨(same_fig hG hX0.1 d4.1).1, (same_fig hG hX0.1 d4.1).2, fun v hv => same_st hG hX0.1 (hX0.st hv) d4.1 (d4.2 v hv)⟩
      rintro _ rfl
      have hN3 : NetR (st M3 95 43 1) 100 N := hN2.of (by rw [st_o (by omega), d1 100 (by omega) (by omega)])
      refine r_reaches hN3 ?_
      rintro _ rfl
      obtain ⟨M4, hM4⟩ : ∃ M4 : Mem, M4 = st (st M3 95 43 1) 95 44 (N.R : Int) := ⟨_, rfl⟩
      rw [← hM4]
      have e1 : ∀ c, c ≠ 95 → M4 c = M3 c := fun c hc => by rw [hM4, st_o hc, st_o hc]
      have e2 : ∀ j, j ≠ 43 → j ≠ 44 → M4 95 j = M3 95 j := fun j h1 h2 => by rw [hM4, st_s, if_neg h2, st_s, if_neg h1]
      have e3 : M4 95 43 = 1 := by rw [hM4, st_s, if_neg (by omega), st_s, if_pos rfl]
      have e4 : M4 95 44 = N.R := by rw [hM4, st_s, if_pos rfl]
      have hSm4 : ∀ M5 : Mem, (∀ c, c ≠ 125 → M5 c = M4 c) → Sm M0 M5 N := fun M5 h5 => by
        have q : ∀ c, 101 ≤ c → c ≤ 115 → M5 c = M3 c := fun c _ _ => by rw [h5 c (by omega), e1 c (by omega)]
        unfold Sm rw_
        rw [q 102 (by omega) (by omega), q 103 (by omega) (by omega), q 104 (by omega) (by omega), q 105 (by omega) (by omega), q 106 (by omega) (by omega), q 107 (by omega) (by omega), q 108 (by omega) (by omega), q 109 (by omega) (by omega), q 110 (by omega) (by omega), q 111 (by omega) (by omega), q 112 (by omega) (by omega), q 113 (by omega) (by omega), q 114 (by omega) (by omega), q 115 (by omega) (by omega)]
        exact hSm
      refine wl2_inv (I := fun (v : Int) (M' : Mem) => ∃ k : Nat, v = k ∧ k ≤ 4 ∧ (∀ c, c ≠ 125 → M' c = M4 c) ∧ (∀ i r : Nat, i < k → r < N.R → M' 125 (30 * i + r) = rk M0 r 0 i)) (μ := fun (v : Int) (_ : Mem) => 4 - v.toNat) ?_ 5000 _ _ ⟨0, rfl, by omega, fun c _ => rfl, fun i r hi => by omega⟩ (by simp)
      rintro rec v M' ⟨k, rfl, hk, g1, g2⟩ hrec
      unfold X12_keeps_b87
      refine ⟨fun c => ?_, fun c => ?_⟩
      · refine h M' A' w (fun c q1 q2 q3 q4 => by rw [g1 c q3, e1 c q1, d1 c q1 q4, c1 c q1, b1 c q1 q2]) (fun j q1 q2 q3 q4 q5 => by rw [g1 95 (by omega), e2 j q4 q5, d2 j q1, c2 j q2, b2 j q3]) (by rw [g1 95 (by omega)]; exact e3) (by rw [g1 95 (by omega)]; exact e4) (fun i r hi hr => g2 i r (by omega) hr) c4 ⟨?_, ?_, ?_, by omega, fun j hj i hi => ?_⟩
        · rw [g1 95 (by omega), e2 41 (by omega) (by omega), d2 41 (by omega)]; exact c3
        · rw [g1 95 (by omega), e2 42 (by omega) (by omega), d2 42 (by omega), c2 42 (by omega)]; exact b3
        · rw [c4]; split <;> omega
        · have hA' : A' ≤ 20 ∧ A' ≤ A + 1 := by rw [c4]; split <;> omega
          rw [g1 124 (by omega), e1 124 (by omega), d1 124 (by omega) (by omega), c1 124 (by omega)]
          unfold pshR
          by_cases z : j = 0
          · rw [if_pos z, show (w + 20 - j) % 20 = w by omega]; exact b4 i hi
          · obtain ⟨s1, s2⟩ := hsl j (by omega) (by omega)
            rw [if_neg z, b5 _ (by omega), s1]
            exact a5 (j - 1) (by omega) i hi
      · refine wl2_inv (I := fun (v : Int) (M' : Mem) => ∃ j : Nat, v = j ∧ j ≤ N.R ∧ (∀ c, c ≠ 125 → M' c = M4 c) ∧ (∀ i r : Nat, (i < k ∧ r < N.R ∨ i = k ∧ r < j) → M' 125 (30 * i + r) = rk M0 r 0 i)) (μ := fun (v : Int) (_ : Mem) => N.R - v.toNat) ?_ 5000 _ _ ⟨0, rfl, by omega, g1, fun i r hir => g2 i r (by omega) (by omega)⟩ (by simp; omega)
        clear g1 g2
        rintro rec' v M' ⟨j, rfl, hj, g1, g2⟩ hrec'
        unfold X12_keeps_b94
        have hN' : NetR M' 100 N := hN2.of (by rw [g1 100 (by omega), e1 100 (by omega), d1 100 (by omega) (by omega)])
        refine r_reaches hN' ⟨fun z => ⟨by unfold inR; omega, ?_⟩, fun z => ?_⟩
        · rintro _ rfl
          exact hrec _ _ ⟨k + 1, by omega, by omega, g1, fun i r hi hr => g2 i r (by omega)⟩ (by omega)
        · refine r_rankOf (M := M0) (w := 0) hG hX0 (hSm4 M' g1) (by omega) (by omega) (by omega) (fun _ => rfl) ⟨by omega, ?_⟩
          rintro _ rfl
          refine ⟨by unfold inR; omega, ?_⟩
          rintro _ rfl
          refine hrec' _ _ ⟨j + 1, by omega, by omega, fun c hc => by rw [st_o hc]; exact g1 c hc, fun i r hir => ?_⟩ (by omega)
          rw [show (30 * (k : Int) + (j : Int)).toNat = 30 * k + j by omega, st_s]
          by_cases e : i = k ∧ r = j
          · rw [if_pos (by omega), e.1, e.2]
          · rw [if_neg (by omega)]; exact g2 i r (by omega)
    · intro J hJ
      have h41 : M1 95 41 = A := by rw [b2 41 (by omega)]; exact a1
      rw [h41]
      refine ⟨fun c => hJ M1 A (fun _ _ => rfl) (fun _ _ => rfl) h41 (by rw [if_pos (by omega)]; omega), fun c => ⟨by unfold inR; omega, ?_⟩⟩
      rintro _ rfl
      exact hJ _ (A + 1) (fun c hc => by rw [st_o hc]) (fun j hj => by rw [st_s, if_neg hj]) (by rw [st_s, if_pos rfl]; omega) (by rw [if_neg (by omega)])
  · intro J hJ
    refine wl2_inv (I := fun (v : Int) (M' : Mem) => ∃ k : Nat, v = k ∧ k ≤ 183 ∧ (∀ c, c ≠ 95 → c ≠ 124 → M' c = M c) ∧ (∀ j, j ≠ 42 → M' 95 j = M 95 j) ∧ M' 95 42 = w ∧ (∀ i, i < k → M' 124 (183 * w + i) = M 100 i) ∧ (∀ x, (x < 183 * w ∨ 183 * w + 183 ≤ x) → M' 124 x = M 124 x)) (μ := fun (v : Int) (_ : Mem) => 183 - v.toNat) ?_ 5000 _ _ ⟨0, rfl, by omega, fun c q1 _ => by rw [st_o q1], fun j hj => by rw [st_s, if_neg hj], by rw [st_s, if_pos rfl], fun i hi => by omega, fun x _ => by rw [st_o (by omega)]⟩ (by simp)
    rintro rec v M' ⟨k, rfl, hk, g1, g2, g3, g4, g5⟩ hrec
    unfold X12_keeps_b15
    rw [g3]
    refine ⟨fun c => hJ M' g1 g2 g3 (fun i hi => g4 i (by omega)) g5, fun c => ⟨by omega, by omega, ?_⟩⟩
    rintro _ rfl
    refine ⟨by unfold inR; omega, ?_⟩
    rintro _ rfl
    rw [show (183 * (w : Int) + (k : Int)).toNat = 183 * w + k by omega, tn, g1 100 (by omega) (by omega)]
    refine hrec _ _ ⟨k + 1, by omega, by omega, fun c q1 q2 => by rw [st_o q2]; exact g1 c q1 q2, fun j hj => by rw [st_o (by omega)]; exact g2 j hj, by rw [st_o (by omega)]; exact g3, fun i hi => ?_, fun x hx => by rw [st_s, if_neg (by omega)]; exact g5 x hx⟩ (by omega)
    rw [st_s]
    by_cases e : i = k
    · rw [if_pos (by omega), e]
    · rw [if_neg (by omega)]; exact g4 i (by omega)
def Chg (M : Mem) (N : Nt) : Prop := M 60 0 = M 95 43 ∧ (M 60 0 = 0 ∨ ∃ a : Nat, a ≤ 30 ∧ M 95 44 = a ∧ M 60 0 ≠ 0 ∧ ∀ k : Nat, k < 4 → M 61 k = (cnt (fun r => decide (rk M r 0 k ≠ M 125 (30 * k + r))) (min a N.R) : Int))
theorem q_changed {a : Int} (hC : Core M N) (hG : Chg M N) {Q : Int → Int → Mem → Prop} (h : ∀ (r : Int) (M2 : Mem), Qf M M2 → Core M2 N → Q r r M2) : f_X11_changed a M (fun r => f_X12_changed a M (fun r2 M2 => Q r r2 M2)) := by
  obtain ⟨h1, h2, h3, h4, h5⟩ := id hC
  have hR := h3.1.2.1
  obtain ⟨g1, g2⟩ := hG
  have hbad : (¬ (0 ≤ a ∧ a ≤ 3) ∨ M 95 43 = 0) → f_X12_changed a M (fun r2 M2 => Q (-1) r2 M2) := fun hh => by
    unfold f_X12_changed
    exact ⟨fun _ => h _ _ (Qf.refl M) hC, fun c => r_isIn (fun z1 z2 => absurd (hh.resolve_right c) (fun y => y ⟨z1, z2⟩)) (fun _ => ⟨fun z => absurd rfl z, fun _ => h _ _ (Qf.refl M) hC⟩)⟩
  unfold f_X11_changed
  refine ⟨fun c => hbad (Or.inl (by omega)), fun c => ⟨fun c1 => hbad (Or.inl (by omega)), fun c1 => ⟨fun c2 => ⟨by omega, ?_⟩, fun c2 => hbad (Or.inr (by omega))⟩⟩⟩
  obtain ⟨k, rfl⟩ : ∃ k : Nat, a = k := ⟨a.toNat, by omega⟩
  rcases g2 with g2 | ⟨b, g2, g3, g4, g5⟩
  · exact absurd g2 c2
  · rw [tn, g5 k (by omega)]
    unfold f_X12_changed
    refine ⟨fun z => by omega, fun _ => r_isIn (fun _ _ => ⟨fun _ => q_lays hC (fun M2 k1 k2 k3 k4 => ?_), fun z => absurd z (by omega)⟩) (fun z => by omega)⟩
    have e44 : M2 95 44 = b := by rw [k1.2 44 (by omega)]; exact g3
    have e125 : M2 125 = M 125 := k1.1 125 (by omega) (by omega) (by omega)
    obtain ⟨f, hf⟩ : ∃ f : Nat → Bool, f = fun r => decide (rk M r 0 (k : Int) ≠ M 125 (30 * k + r)) := ⟨_, rfl⟩
    rw [← hf]
    refine wl2_inv (I := fun (s v : Int) => ∃ j : Nat, v = j ∧ j ≤ min b N.R ∧ s = (cnt f j : Int)) (μ := fun (_ v : Int) => 30 - v.toNat) ?_ 5000 _ _ ⟨0, rfl, by omega, rfl⟩ (by simp)
    rintro rec s v ⟨j, rfl, hj, rfl⟩ hrec
    unfold X12_changed_b29
    have hl := cnt_le f j
    have hend : j = min b N.R → Q (cnt f (min b N.R) : Int) (cnt f j : Int) M2 := fun e => by rw [← e]; exact h _ _ k1 k2
    refine r_reaches k2.2.1 ⟨fun c3 => hend (by omega), fun c3 => ?_⟩
    rw [e44]
    refine ⟨fun c4 => hend (by omega), fun c4 => r_rankOf (M := M) (w := 0) h3 h4 k4 (by omega) (by omega) (by omega) (fun _ => rfl) ⟨by omega, ?_⟩⟩
    rw [e125, show (30 * (k : Int) + (j : Int)).toNat = 30 * k + j by omega]
    have hgo : ∀ y : Int, y = (if f j = true then 1 else 0) → inR ((cnt f j : Int) + y) ∧ ∀ v1_10 : Int, v1_10 = (cnt f j : Int) + y → inR ((j : Int) + 1) ∧ ∀ v2_11 : Int, v2_11 = (j : Int) + 1 → rec v1_10 v2_11 := by
      rintro _ rfl
      refine ⟨by unfold inR; split <;> omega, ?_⟩
      rintro _ rfl
      refine ⟨by unfold inR; omega, ?_⟩
      rintro _ rfl
      refine hrec _ _ ⟨j + 1, by omega, by omega, ?_⟩ (by omega)
      rw [cnt_s]
      split <;> simp
    have hfj : f j = true ↔ rk M j 0 (k : Int) ≠ M 125 (30 * k + j) := by rw [hf]; simp only [decide_eq_true_eq]
    refine jn_use (P := fun J => (f j = true → J 1) ∧ (¬ f j = true → J 0)) ⟨fun z => r_flag (fun y => absurd y (by omega)) (fun _ => hgo 1 (by rw [if_pos z])), fun z => r_flag (fun _ => hgo 0 (by rw [if_neg z])) (fun y => absurd rfl y)⟩ (fun J hJ => ⟨fun z => hJ.2 (fun y => (hfj.mp y) z), fun z => hJ.1 (hfj.mpr z)⟩)
end
