/-! turned: what can be, what would be -/
section
variable {M : Mem} {N : Nt}
theorem r_turns2 {k : Nat} {Q : Mem → Prop} (hN : NetR M 100 N) (hW : Wf N) (hk : k < N.R) (h : ∀ M', Kept M M' → (∀ i, i < 33 → M' 100 i = M 100 i) → (∀ i, 183 ≤ i → M' 100 i = M 100 i) → NetR M' 100 (N.turn k) → Q M') : f_X12_turns k M Q := by
  obtain ⟨hp, hr, hx⟩ := id hN
  have hR := hW.2.1
  unfold f_X12_turns
  refine r_hd hN hW hk (r_reachAt (k := 0) (by omega) (by omega) (r_ft hN hW hk ⟨by omega, ?_⟩))
  rintro _ rfl
  refine r_reachAt (k := 1) (by omega) (by omega) ⟨by omega, ?_⟩
  rintro _ rfl
  unfold f_X12_isOther
  rintro _ rfl
  simp only [tn]
  refine h _ ⟨fun c h1 h2 => ?_, fun i hi => ?_, ?_⟩ (fun i hi => ?_) (fun i hi => ?_) ⟨?_, ?_, fun r hr' => ?_⟩
  · simp only [st, h1, h2, if_false]
  · simp only [st_v, if_true, hi, if_false, show ¬ (95 : Nat) = 100 by omega]
  · simp only [st_v, if_true]
  · simp only [st_v, if_true, if_false, show ¬ (100 : Nat) = 95 by omega]
    rw [if_neg (by omega), if_neg (by omega)]
  · simp only [st_v, if_true, if_false, show ¬ (100 : Nat) = 95 by omega]
    rw [if_neg (by omega), if_neg (by omega)]
  · simp only [st_v, if_true, if_false, show ¬ (100 : Nat) = 95 by omega]
    rw [if_neg (by omega), if_neg (by omega)]
    exact hp
  · simp only [st_v, if_true, if_false, show ¬ (100 : Nat) = 95 by omega]
    rw [if_neg (by omega), if_neg (by omega)]
    exact hr
  · have hr2 : r < N.R := hr'
    obtain ⟨a1, a2, a3, a4, a5⟩ := hx r hr2
    show _ = ((if r = k then N.ft k else N.hd r : Nat) : Int) ∧ _ = ((if r = k then N.hd k else N.ft r : Nat) : Int) ∧ _ = N.ln r ∧ _ = N.gf r ∧ _ = N.rv r
    simp only [st_v, if_true, if_false, show ¬ (100 : Nat) = 95 by omega]
    by_cases q : r = k
    · subst q
      simp only [if_true]
      refine ⟨?_, ?_, ?_, ?_, ?_⟩
      · rw [if_neg (by omega), if_pos (by omega)]
      · rw [if_pos (by omega)]
      · rw [if_neg (by omega), if_neg (by omega)]; exact a3
      · rw [if_neg (by omega), if_neg (by omega)]; exact a4
      · rw [if_neg (by omega), if_neg (by omega)]; exact a5
    · simp only [q, if_false]
      refine ⟨?_, ?_, ?_, ?_, ?_⟩ <;> (rw [if_neg (by omega), if_neg (by omega)]; assumption)
theorem r_removes2 {k : Nat} {Q : Mem → Prop} (hN : NetR M 100 N) (hW : Wf N) (hk : k < N.R) (h : ∀ M', Kept M M' → (∀ i, i < 33 → i ≠ 1 → M' 100 i = M 100 i) → (∀ i, 183 ≤ i → M' 100 i = M 100 i) → NetR M' 100 (N.drop k) → Q M') : f_X12_removes k M Q := by
  obtain ⟨hp, hr, hx⟩ := id hN
  have hR := hW.2.1
  unfold f_X12_removes
  refine r_reachAt (k := 0) (by omega) (by omega) ?_
  refine jn_use (P := fun J => ∀ M' : Mem, (∀ c, c ≠ 100 → M' c = M c) → (∀ i, i < 33 + 5 * k → M' 100 i = M 100 i) → (∀ i, 33 + 5 * k ≤ i → i < 28 + 5 * N.R → M' 100 i = M 100 (i + 5)) → (∀ i, 183 ≤ i → M' 100 i = M 100 i) → J M') ?_ ?_
  · intro M' f1 f2 f3 f4
    have e1 : M' 100 1 = N.R := by rw [f2 1 (by omega)]; exact hr
    rw [e1]
    refine ⟨by unfold inR; omega, ?_⟩
    rintro _ rfl
    unfold f_X12_isOther
    rintro _ rfl
    refine h _ ⟨fun c h1 h2 => ?_, fun i hi => ?_, ?_⟩ (fun i hi hi1 => ?_) (fun i hi => ?_) ⟨?_, ?_, fun r hr' => ?_⟩
    · simp only [st, h1, h2, if_false]; exact f1 c h1
    · simp only [st_v, if_true, hi, if_false, show ¬ (95 : Nat) = 100 by omega]; rw [f1 95 (by omega)]
    · simp only [st_v, if_true]
    · simp only [st_v, if_true, if_false, show ¬ (100 : Nat) = 95 by omega, hi1]
      exact f2 i (by omega)
    · simp only [st_v, if_true, if_false, show ¬ (100 : Nat) = 95 by omega]
      rw [if_neg (by omega)]
      exact f4 i hi
    · simp only [st_v, if_true, if_false, show ¬ (100 : Nat) = 95 by omega, show ¬ (0 : Nat) = 1 by omega]
      rw [f2 0 (by omega)]; exact hp
    · simp only [st_v, if_true, if_false, show ¬ (100 : Nat) = 95 by omega]
      show _ = ((N.R - 1 : Nat) : Int)
      omega
    · have hr2 : r < N.R - 1 := hr'
      obtain ⟨a1, a2, a3, a4, a5⟩ := hx (skp k r) (skp_lt hk hr2)
      show _ = ((N.hd (skp k r) : Nat) : Int) ∧ _ = ((N.ft (skp k r) : Nat) : Int) ∧ _ = N.ln (skp k r) ∧ _ = N.gf (skp k r) ∧ _ = N.rv (skp k r)
      rw [← a1, ← a2, ← a3, ← a4, ← a5]
      simp only [st_v, if_true, if_false, show ¬ (100 : Nat) = 95 by omega]
      rcases Nat.lt_or_ge r k with q | q
      · have e3 : skp k r = r := by unfold skp; rw [if_pos q]
        rw [e3]
        refine ⟨?_, ?_, ?_, ?_, ?_⟩ <;> (rw [if_neg (by omega)]; exact f2 _ (by omega))
      · have e3 : skp k r = r + 1 := by unfold skp; rw [if_neg (by omega)]
        rw [e3]
        refine ⟨?_, ?_, ?_, ?_, ?_⟩ <;> (rw [if_neg (by omega), f3 _ (by omega) (by omega)]; exact congrArg (M 100) (by omega))
  · intro J hJ
    refine wl2_inv (I := fun (v : Int) (M' : Mem) => ∃ j : Nat, v = j ∧ 33 + 5 * k ≤ j ∧ j ≤ 28 + 5 * N.R ∧ (∀ c, c ≠ 100 → M' c = M c) ∧ (∀ i, i < 33 + 5 * k ∨ j ≤ i → M' 100 i = M 100 i) ∧ (∀ i, 33 + 5 * k ≤ i → i < j → M' 100 i = M 100 (i + 5))) (μ := fun (v : Int) (_ : Mem) => 200 - v.toNat) ?_ 5000 _ _ ⟨33 + 5 * k + 0, rfl, by omega, by omega, fun _ _ => rfl, fun _ _ => rfl, fun i h1 h2 => by omega⟩ (by simp; omega)
    rintro rec v M' ⟨j, rfl, h1, h2, f1, f2, f3⟩ hrec
    unfold X12_removes_b6 f_X12_reaches
    have e1 : M' 100 1 = N.R := by rw [f2 1 (Or.inl (by omega))]; exact hr
    rw [e1]
    refine ⟨by unfold inR; omega, ?_⟩
    rw [show (N.R : Int) - 1 = ((N.R - 1 : Nat) : Int) by omega]
    refine r_reachAt (k := 0) (by omega) (by omega) ⟨fun c => ?_, fun c => ⟨by omega, by omega, ?_⟩⟩
    · exact hJ M' f1 (fun i hi => f2 i (Or.inl hi)) (fun i h3 h4 => f3 i h3 (by omega)) (fun i hi => f2 i (Or.inr (by omega)))
    · rintro _ rfl
      refine ⟨by unfold inR; omega, ?_⟩
      rintro _ rfl
      rw [tn, show ((j : Int) + 5).toNat = j + 5 by omega]
      refine hrec _ _ ⟨j + 1, by omega, by omega, by omega, fun c hc => by rw [st_ne hc]; exact f1 c hc, fun i hi => ?_, fun i h3 h4 => ?_⟩ (by omega)
      · rw [st_v, if_pos rfl, if_neg (by omega)]; exact f2 i (by omega)
      · rw [st_v, if_pos rfl]
        by_cases q : i = j
        · rw [if_pos q, q]; exact f2 _ (Or.inr (by omega))
        · rw [if_neg q]; exact f3 i h3 (by omega)
theorem r_putsAside {Q : Mem → Prop} (h : ∀ M' : Mem, (∀ c, c ≠ 119 → M' c = M c) → (∀ i, i < 183 → M' 119 i = M 100 i) → Q M') : f_X12_putsAside M Q := by
  unfold f_X12_putsAside
  refine wl2_inv (I := fun (v : Int) (M' : Mem) => ∃ k : Nat, v = k ∧ k ≤ 183 ∧ (∀ c, c ≠ 119 → M' c = M c) ∧ (∀ i, i < k → M' 119 i = M 100 i)) (μ := fun (v : Int) (_ : Mem) => 183 - v.toNat) ?_ 5000 _ _ ⟨0, rfl, by omega, fun c _ => rfl, fun i hi => by omega⟩ (by simp)
  rintro rec v M' ⟨k, rfl, hk, g1, g2⟩ hrec
  unfold X12_putsAside_b2
  refine ⟨fun c => h M' g1 (fun i hi => g2 i (by omega)), fun c => ⟨by omega, ?_⟩⟩
  rintro _ rfl
  refine ⟨by unfold inR; omega, ?_⟩
  rintro _ rfl
  refine hrec _ _ ⟨k + 1, by omega, by omega, fun c hc => by rw [st_o hc]; exact g1 c hc, fun i hi => ?_⟩ (by omega)
  rw [tn, st_s, g1 100 (by omega)]
  by_cases e : i = k
  · rw [if_pos e, e]
  · rw [if_neg e]; exact g2 i (by omega)
theorem r_takesBack {M0 : Mem} (h1 : ∀ i, i < 183 → M 119 i = M0 100 i) (h2 : ∀ i, 183 ≤ i → M 100 i = M0 100 i) (hN : NetR M0 100 N) (hG : Good N) {Q : Mem → Prop} (h : ∀ M' : Mem, M' 100 = M0 100 → (∀ c, c ≠ 95 → c ≠ 100 → (c < 101 ∨ 115 < c) → M' c = M c) → (∀ j, j ≠ 15 → M' 95 j = M 95 j) → AllR M' N → Q M') : f_X12_takesBack M Q := by
  unfold f_X12_takesBack
  refine jn_use (P := fun J => ∀ M1 : Mem, (∀ c, c ≠ 100 → M1 c = M c) → M1 100 = M0 100 → J M1) ?_ ?_
  · intro M1 f1 f2
    rintro _ rfl
    have hN1 : NetR (st M1 95 15 0) 100 N := hN.of (by rw [st_o (by omega)]; exact f2)
    refine r_lays hN1 hG (fun z => absurd (by rw [st_s, if_pos rfl]) z) (fun M2 a1 a2 a3 a4 => h M2 ?_ (fun c q1 q2 q3 => ?_) (fun j hj => ?_) a4)
    · rw [a1 100 (by omega) (by omega), st_o (by omega)]; exact f2
    · rw [a1 c q1 q3, st_o q1]; exact f1 c q2
    · rw [a2 j hj, st_s, if_neg hj, f1 95 (by omega)]
  · intro J hJ
    refine wl2_inv (I := fun (v : Int) (M' : Mem) => ∃ k : Nat, v = k ∧ k ≤ 183 ∧ (∀ c, c ≠ 100 → M' c = M c) ∧ (∀ i, (i < k ∨ 183 ≤ i) → M' 100 i = M0 100 i)) (μ := fun (v : Int) (_ : Mem) => 183 - v.toNat) ?_ 5000 _ _ ⟨0, rfl, by omega, fun c _ => rfl, fun i hi => h2 i (by omega)⟩ (by simp)
    rintro rec v M' ⟨k, rfl, hk, g1, g2⟩ hrec
    unfold X12_takesBack_b2
    refine ⟨fun c => hJ M' g1 (by funext i; exact g2 i (by omega)), fun c => ⟨by omega, ?_⟩⟩
    rintro _ rfl
    refine ⟨by unfold inR; omega, ?_⟩
    rintro _ rfl
    refine hrec _ _ ⟨k + 1, by omega, by omega, fun c hc => by rw [st_o hc]; exact g1 c hc, fun i hi => ?_⟩ (by omega)
    rw [tn, st_s, g1 119 (by omega)]
    by_cases e : i = k
    · rw [if_pos e, e]; exact h1 k (by omega)
    · rw [if_neg e]; exact g2 i (by omega)
theorem x_unlike {a0 a1 m : Nat} (h0 : lenS (shp a0) = 30) (h1 : lenS (shp a1) = 30) (hm : m ≤ 30) {Q : Int → Prop} (h : Q (cnt (fun r => decide (M a0 r ≠ M a1 r)) m : Int)) : f_X11_unlike a0 a1 (m : Int) M Q := by
  unfold f_X11_unlike
  refine wl2_inv (I := fun (s v : Int) => ∃ k : Nat, v = k ∧ k ≤ m ∧ s = (cnt (fun r => decide (M a0 r ≠ M a1 r)) k : Int)) (μ := fun (_ v : Int) => m - v.toNat) ?_ 5000 _ _ ⟨0, rfl, by omega, rfl⟩ (by simp; omega)
  rintro rec s v ⟨k, rfl, hk, rfl⟩ hrec
  unfold X11_unlike_b5
  rw [h0, h1]
  have hl := cnt_le (fun r => decide (M a0 r ≠ M a1 r)) k
  refine ⟨fun c => by rw [show k = m by omega]; exact h, fun c => ⟨by omega, by omega, ?_⟩⟩
  rw [tn]
  refine ⟨fun c1 => ⟨by unfold inR; omega, ?_⟩, fun c1 => ⟨by unfold inR; omega, ?_⟩⟩
  · rintro _ rfl
    exact hrec _ _ ⟨k + 1, by omega, by omega, by rw [cnt_s, if_neg (by simp [c1])]; rfl⟩ (by omega)
  · rintro _ rfl
    refine ⟨by unfold inR; omega, ?_⟩
    rintro _ rfl
    exact hrec _ _ ⟨k + 1, by omega, by omega, by rw [cnt_s, if_pos (by simp [c1])]; omega⟩ (by omega)
theorem q_canTurn {a : Int} (hC : Core M N) {Q : Int → Int → Prop} (h : ∀ r : Int, Q r r) : f_X11_canTurn a M (fun r => f_X12_canTurn a M (fun r2 => Q r r2)) := by
  obtain ⟨h1, h2, h3, h4, h5⟩ := id hC
  unfold f_X11_canTurn f_X12_canTurn
  refine x_isReach h1 (fun k hk e => ⟨fun _ => ?_, fun z => absurd z (by omega)⟩) (fun hno => ⟨fun z => absurd rfl z, fun _ => r_isReach h2 h3.1 (fun p hp e => by omega) (fun _ => ⟨fun _ => h _, fun z => absurd rfl z⟩)⟩)
  subst e
  refine x_mayReverse h1 h3.1 hk (fun hno => ⟨fun z => absurd z (by omega), fun _ => ?_⟩) (fun hy => ⟨fun _ => ?_, fun z => absurd rfl z⟩)
  · refine r_isReach h2 h3.1 (fun _ _ _ => ⟨fun z => absurd z (by omega), fun _ => r_canTurnIt h2 h3.1 (fun k' hk' e hno' => r_flag (fun z => absurd z (by omega)) (fun _ => h _)) (fun k' hk' e hy => ?_) (fun z => by omega)⟩) (fun z => by omega)
    rw [show k' = k by omega] at hy
    exact absurd hy hno
  · refine r_isReach h2 h3.1 (fun _ _ _ => ⟨fun z => absurd z (by omega), fun _ => r_canTurnIt h2 h3.1 (fun k' hk' e hno' => ?_) (fun k' hk' e hy => r_flag (fun _ => h _) (fun z => absurd rfl z)) (fun z => by omega)⟩) (fun z => by omega)
    rw [show k' = k by omega] at hno'
    exact absurd hy hno'
theorem q_would {a b : Int} (hC : Core M N) {Q : Int → Int → Mem → Prop} (h : ∀ (r : Int) (M2 : Mem), Qf M M2 → Core M2 N → Q r r M2) : f_X11_would a b M (fun r M1 => f_X12_would a b M1 (fun r2 M2 => Q r r2 M2)) := by
  obtain ⟨h1, h2, h3, h4, h5⟩ := id hC
  have hR := h3.1.2.1
  have hP := h3.1.1
  unfold f_X11_would
  have hbad : ¬ (0 ≤ b ∧ b ≤ 2) → f_X12_would a b M (fun r2 M2 => Q (-1) r2 M2) := fun hh => by
    unfold f_X12_would
    exact r_canTurnIt h2 h3.1 (fun k hk e hno => ⟨fun z => absurd z (by omega), fun _ => r_isIn (fun z1 z2 => absurd ⟨z1, z2⟩ hh) (fun _ => ⟨fun z => absurd rfl z, fun _ => h _ _ (Qf.refl M) hC⟩)⟩) (fun k hk e hy => ⟨fun _ => h _ _ (Qf.refl M) hC, fun z => absurd rfl z⟩) (fun _ => ⟨fun _ => h _ _ (Qf.refl M) hC, fun z => absurd rfl z⟩)
  refine ⟨fun c => hbad (by omega), fun c => ⟨fun c1 => hbad (by omega), fun c1 => x_isReach h1 (fun k hk e => ⟨fun z => absurd z (by omega), fun _ => ?_⟩) (fun hno => ⟨fun _ => ?_, fun z => absurd rfl z⟩)⟩⟩
  · subst e
    refine x_mayReverse h1 h3.1 hk (fun hno => ⟨fun _ => ?_, fun z => absurd z (by omega)⟩) (fun hy => ⟨fun z => absurd rfl z, fun _ => ?_⟩)
    · have hG' : Good (N.turn k) := good_turn h3 hk hno
      refine x_copyFrom h1 hR (by omega) (fun M1 a1 a2 => x_reverse a2 h3.1 hk (fun M2 b1 b2 => x_figure b2 hG' (by omega) rfl (fun M3 c1' c2 => ?_)))
      have hN3 : NetX M3 72 (N.turn k) := b2.of (fun c _ _ => c1' c (by omega))
      have hall : ∀ c, ¬ (68 ≤ c ∧ c ≤ 93) → M3 c = M c := fun c hc => by rw [c1' c (by omega), b1 c (by omega), a1 c (by omega)]
      obtain ⟨hq1, hC1⟩ := hC.scr (M' := M3) (fun c z _ => hall c z)
      have e12 : M3 12 1 = N.R := by rw [hall 12 (by omega)]; exact h1.2.1
      have e30 : M3 30 = M 30 := hall 30 (by omega)
      have href : ∀ x : Int, (b = 0 → x = mxx (M3 (78 + 10)) N.R) → (b = 1 → x = (cnt (tb (M3 78 12)) 20 : Int)) → (b = 2 → x = (cnt (fun r => decide (M3 30 r ≠ M3 88 r)) N.R : Int)) → f_X12_would (k : Int) b M3 (fun r2 M2 => Q x r2 M2) := by
        intro x q0 q1 q2
        unfold f_X12_would
        refine r_canTurnIt hC1.2.1 h3.1 (fun k' hk' e hno' => ⟨fun z => absurd z (by omega), fun _ => r_isIn (fun _ _ => ⟨fun _ => q_lays hC1 (fun M4 k1 k2 k3 k4 => ?_), fun z => absurd z (by omega)⟩) (fun z => by omega)⟩) (fun k' hk' e hy => ?_) (fun z => by omega)
        rotate_left
        · rw [show k' = k by omega] at hy
          exact absurd hy hno
        refine jn_use (P := fun J => ∀ M5 : Mem, (∀ c, c ≠ 120 → M5 c = M4 c) → (∀ r, r < N.R → M5 120 r = M4 111 r) → J M5) ?_ ?_
        · intro M5 d1 d2
          refine r_putsAside (fun M6 e1 e2 => ?_)
          have hN6 : NetR M6 100 N := k2.2.1.of (by rw [e1 100 (by omega), d1 100 (by omega)])
          refine r_turns2 hN6 h3.1 hk (fun M7 f1 f2 f3 f4 => r_lays f4 hG' (fun z => absurd f1.2.2 z) (fun M8 g1 g2 g3 g4 => ?_))
          have hN8 : NetR M8 100 (N.turn k) := f4.of (g1 100 (by omega) (by omega))
          have hs := (same_fig hG' c2 g4.1).2
          have hs1 : ∀ r, r < N.R → M3 88 r = M8 111 r := fun r hr => (hs r hr).2.1
          have h120 : ∀ r, r < N.R → M8 120 r = M3 30 r := fun r hr => by
            rw [g1 120 (by omega) (by omega), f1.1 120 (by omega) (by omega), e1 120 (by omega), d2 r hr]
            exact ((k4.2.1 r hr).2.1).symm
          refine jn_use (P := fun J => ∀ n : Int, n = (cnt (fun r => decide (M3 30 r ≠ M3 88 r)) N.R : Int) → J n) ?_ ?_
          · intro n hn
            refine jn_use (P := fun J => ∀ s : Int, s = x → J s) ?_ ?_
            · intro s hs'
              rw [hs']
              refine r_takesBack (M0 := M4) (fun i hi => ?_) (fun i hi => ?_) k2.2.1 h3 (fun M9 i1 i2 i3 i4 => ?_)
              · rw [g1 119 (by omega) (by omega), f1.1 119 (by omega) (by omega), e2 i hi, d1 100 (by omega)]
              · rw [g1 100 (by omega) (by omega), f3 i hi, e1 100 (by omega), d1 100 (by omega)]
              · have hq4 : Qf M4 M9 := ⟨fun c z1 z2 z3 => by
                  by_cases e : c = 100
                  · rw [e]; exact i1
                  · rw [i2 c z1 e (by omega), g1 c z1 (by omega), f1.1 c e z1, e1 c (by omega), d1 c (by omega)], fun j hj => by rw [i3 j hj, g2 j hj, f1.2.1 j hj, e1 95 (by omega), d1 95 (by omega)]⟩
                exact h _ _ ((hq1.trans k1).trans hq4) (k2.of hq4 (fun _ => i4))
            · intro J hJ
              obtain ⟨-, -, -, -, -, -, -, x7, -⟩ := id c2
              refine ⟨fun c0 => ⟨fun c3 => hJ _ (by rw [hn, q2 (by omega)]), fun c3 => r_mouths (x := M3 78 12) hN8 hG'.1 g4.1.2.1 x7.2 (hJ _ ?_)⟩, fun c0 => r_greatestMet hN8 hG'.1 (hJ _ ?_)⟩
              · rw [q1 c3]
                have e20 : 20 = N.P + (20 - N.P) := by omega
                rw [e20, cnt_more2 (k := N.P) (20 - N.P) (fun i hi => ?_)]
                · rfl
                · cases q : tb (M3 78 12) i
                  · rfl
                  · have : i < N.P := ((x7.2 i).mp q).1
                    omega
              · rw [q0 c0]
                exact mxx_congr (fun r hr => (hs1 r hr).symm)
          · intro J hJ
            refine wl2_inv (I := fun (s v : Int) => ∃ j : Nat, v = j ∧ j ≤ N.R ∧ s = (cnt (fun r => decide (M3 30 r ≠ M3 88 r)) j : Int)) (μ := fun (_ v : Int) => N.R - v.toNat) ?_ 5000 _ _ ⟨0, rfl, by omega, rfl⟩ (by simp; omega)
            rintro rec s v ⟨j, rfl, hj, rfl⟩ hrec
            unfold X12_would_b72
            have hl := cnt_le (fun r => decide (M3 30 r ≠ M3 88 r)) j
            refine r_reaches hN8 ⟨fun c2 => hJ _ (by rw [show j = N.R from by have : (N.turn k).R = N.R := rfl; omega]), fun c2 => ?_⟩
            have hjR : j < N.R := by have : (N.turn k).R = N.R := rfl; omega
            refine ⟨by omega, ?_⟩
            rw [tn, h120 j hjR, ← hs1 j hjR]
            have hgo : ∀ f : Int, f = (if M3 30 j ≠ M3 88 j then 1 else 0) → inR ((cnt (fun r => decide (M3 30 r ≠ M3 88 r)) j : Int) + f) ∧ ∀ v1_10 : Int, v1_10 = (cnt (fun r => decide (M3 30 r ≠ M3 88 r)) j : Int) + f → inR ((j : Int) + 1) ∧ ∀ v2_11 : Int, v2_11 = (j : Int) + 1 → rec v1_10 v2_11 := by
              rintro _ rfl
              refine ⟨by unfold inR; split <;> omega, ?_⟩
              rintro _ rfl
              refine ⟨by unfold inR; omega, ?_⟩
              rintro _ rfl
              refine hrec _ _ ⟨j + 1, by omega, by omega, ?_⟩ (by omega)
              rw [cnt_s]
              by_cases z : M3 30 j ≠ M3 88 j
              · rw [if_pos z, if_pos (by simpa using z)]; omega
              · rw [if_neg z, if_neg (by simpa using z)]; omega
            refine jn_use (P := fun J => (M3 30 j ≠ M3 88 j → J 1) ∧ (¬ (M3 30 j ≠ M3 88 j) → J 0)) ⟨fun z => r_flag (fun y => absurd y (by omega)) (fun _ => hgo 1 (by rw [if_pos z])), fun z => r_flag (fun _ => hgo 0 (by rw [if_neg z])) (fun y => absurd rfl y)⟩ (fun J hJ => ⟨fun z => hJ.2 (fun y => y z.symm), fun z => hJ.1 (fun y => z y.symm)⟩)
        · intro J hJ
          refine wl2_inv (I := fun (v : Int) (M' : Mem) => ∃ j : Nat, v = j ∧ j ≤ N.R ∧ (∀ c, c ≠ 120 → M' c = M4 c) ∧ (∀ r, r < j → M' 120 r = M4 111 r)) (μ := fun (v : Int) (_ : Mem) => N.R - v.toNat) ?_ 5000 _ _ ⟨0, rfl, by omega, fun c _ => rfl, fun r hr => by omega⟩ (by simp; omega)
          rintro rec v M' ⟨j, rfl, hj, g1, g2⟩ hrec
          unfold X12_would_b28
          refine r_reaches (k2.2.1.of (g1 100 (by omega))) ⟨fun c2 => hJ M' g1 (fun r hr => g2 r (by omega)), fun c2 => ⟨by omega, ?_⟩⟩
          rintro _ rfl
          refine ⟨by unfold inR; omega, ?_⟩
          rintro _ rfl
          refine hrec _ _ ⟨j + 1, by omega, by omega, fun c hc => by rw [st_o hc]; exact g1 c hc, fun r hr => ?_⟩ (by omega)
          rw [tn, st_s, g1 111 (by omega)]
          by_cases e : r = j
          · rw [if_pos e, e]
          · rw [if_neg e]; exact g2 r (by omega)
      refine ⟨fun d0 => x_greatestMet hN3 hG'.1 (href _ (fun _ => rfl) (fun z => by omega) (fun z => by omega)), fun d1 => x_bitCount (c2.mou (show (N.turn k).P ≤ 20 from hP)).1 (c2.mou (show (N.turn k).P ≤ 20 from hP)).2 (href _ (fun z => by omega) (fun _ => rfl) (fun z => by omega)), fun d2 => ?_⟩
      rw [e12]
      exact x_unlike rfl rfl hR (href _ (fun z => by omega) (fun z => by omega) (fun _ => rfl))
    · unfold f_X12_would
      refine r_canTurnIt h2 h3.1 (fun k' hk' e hno' => ?_) (fun k' hk' e hy => ⟨fun _ => h _ _ (Qf.refl M) hC, fun z => absurd rfl z⟩) (fun _ => ⟨fun _ => h _ _ (Qf.refl M) hC, fun z => absurd rfl z⟩)
      rw [show k' = k by omega] at hno'
      exact absurd hy hno'
  · unfold f_X12_would
    exact r_canTurnIt h2 h3.1 (fun k hk e hno' => by omega) (fun k hk e hy => by omega) (fun _ => ⟨fun _ => h _ _ (Qf.refl M) hC, fun z => absurd rfl z⟩)
end
