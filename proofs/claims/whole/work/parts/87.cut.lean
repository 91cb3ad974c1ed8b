/-! cutting a place off, the reference's side, and the question -/
section
variable {M : Mem} {N : Nt} {U : Nat → Bool} {s0 : Int}
theorem usd_0 {j : Nat} {J : Int → Prop} (h : J (if U j = true then 1 else 0)) : (usd U j = 0 → J 0) ∧ (¬ usd U j = 0 → J 1) := by
  unfold usd
  by_cases q : U j = true
  · rw [if_pos q] at h ⊢
    exact ⟨fun z => absurd z (by omega), fun _ => h⟩
  · rw [if_neg q] at h ⊢
    exact ⟨fun _ => h, fun z => absurd rfl z⟩
theorem usd_1 {j : Nat} {J : Int → Prop} (h : J (if U j = true then 0 else 1)) : (usd U j = 0 → J 1) ∧ (¬ usd U j = 0 → J 0) := by
  unfold usd
  by_cases q : U j = true
  · rw [if_pos q] at h ⊢
    exact ⟨fun z => absurd z (by omega), fun _ => h⟩
  · rw [if_neg q] at h ⊢
    exact ⟨fun _ => h, fun z => absurd rfl z⟩
theorem r_frm {j : Nat} (hN : NetR M 100 N) (hW : Wf N) (hj : j < N.R) {Q : Int → Prop} (h : Q (frm N U j : Int)) : f_X12_its (j : Int) (if U j = true then 1 else 0) M Q := by
  unfold frm at h
  by_cases q : U j = true
  · rw [if_pos q] at h ⊢; exact r_ft hN hW hj h
  · rw [if_neg q] at h ⊢; exact r_hd hN hW hj h
theorem r_too {j : Nat} (hN : NetR M 100 N) (hW : Wf N) (hj : j < N.R) {Q : Int → Prop} (h : Q (too N U j : Int)) : f_X12_its (j : Int) (if U j = true then 0 else 1) M Q := by
  unfold too at h
  by_cases q : U j = true
  · rw [if_pos q] at h ⊢; exact r_hd hN hW hj h
  · rw [if_neg q] at h ⊢; exact r_ft hN hW hj h
theorem swp_0 {b : Nat → Int} : ∀ j, swp N U ((0 : Int), b) j = ((0 : Int), b)
  | 0 => rfl
  | j + 1 => by
    show sst N U (swp N U ((0 : Int), b) j) j = _
    rw [swp_0 j]
    exact sst_no (fun z => by have := z.1; rw [tb_0] at this; cases this)
theorem r_findsWay {pl : Nat} (hN : NetR M 100 N) (hG : Good N) (hio : ∀ p, p < N.P → M 102 p = nin N p ∧ M 103 p = nout N p) (hU : ∀ r, r < N.R → M 121 r = usd U r) (hi : inR s0) (hs : ∀ p, tb s0 p = true ↔ isS N p) (hpl : pl < N.P) (hpl0 : tb s0 pl = false) {Q : Int → Mem → Prop} (h1 : ∀ (M' : Mem) (W : Nat → Bool), (∀ c, c ≠ 121 → c ≠ 122 → M' c = M c) → Aug N s0 pl U W → (∀ r, r < N.R → M' 121 r = usd W r) → Q 1 M') (h0 : ∀ M' : Mem, (∀ c, c ≠ 121 → c ≠ 122 → M' c = M c) → NoW N s0 pl U → Q 0 M') : f_X12_findsWay (pl : Int) M Q := by
  obtain ⟨hP20, hR30, hr⟩ := id hG.1
  have hs' : ∀ p, tb s0 p = true → p < N.P := fun p hp => ((hs p).mp hp).1
  unfold f_X12_findsWay
  refine r_sources hN hG.1 hio (fun x hx1 hx2 => ?_)
  have ex : x = s0 := bits_eq hx1 hi hx2 hs
  rw [ex]
  refine jn_use (P := fun J => ∀ M1 : Mem, (∀ c, c ≠ 122 → M1 c = M c) → (∀ p, p < N.P → M1 122 p = -1) → J M1) ?_ ?_
  · intro M1 f1 f2
    refine jn_use (P := fun J => ∀ (M2 : Mem) (n : Nat), (∀ c, c ≠ 122 → M2 c = M c) → Hts N U s0 pl n → (∀ p, p < N.P → M2 122 p = (rnd N U s0 n).2 p) → J (rnd N U s0 n).1 M2) ?_ ?_
    · intro M2 n g1 g2 g3
      refine r_isOf (by omega) (fun c => ⟨fun _ => ?_, fun z => absurd z (by omega)⟩) (fun c => ⟨fun z => absurd rfl z, fun _ => h0 M2 (fun c _ q2 => g1 c q2) ⟨n, g2, c⟩⟩)
      obtain ⟨t, hR⟩ := rnd_in (U := U) hG.1 hi hs' n
      have htp := ((hR.2.2.2 pl).1 c).1
      have hcl := cnt_le (tb (rnd N U s0 n).1) N.P
      refine wl2_inv (I := fun (a : Int) (M' : Mem) => ∃ i : Nat, a = ((pw N s0 (rnd N U s0 n).2 (pl, U) i).1 : Int) ∧ (∀ j, j < i → tb s0 (pw N s0 (rnd N U s0 n).2 (pl, U) j).1 = false) ∧ (∀ c, c ≠ 121 → M' c = M2 c) ∧ (∀ r, r < N.R → M' 121 r = usd (pw N s0 (rnd N U s0 n).2 (pl, U) i).2 r)) (μ := fun (a : Int) (_ : Mem) => t a.toNat) ?_ 5000 _ _ ⟨0, rfl, fun j hj => by omega, fun c _ => rfl, by rw [g1 121 (by omega)]; exact hU⟩ (by rw [tn]; omega)
      rintro rec a M' ⟨i, rfl, i1, i2, i3⟩ hrec
      unfold X12_findsWay_b162
      have hPI := pw_in hG hR c i i1
      have hy := hR.2.2.1 _ hPI.1
      have hN' : NetR M' 100 N := hN.of (by rw [i2 100 (by omega), g1 100 (by omega)])
      refine ⟨by omega, ?_⟩
      rw [tn, i2 122 (by omega), g3 _ hy]
      obtain ⟨-, z⟩ := (hR.2.2.2 _).1 hPI.1
      refine ⟨fun c1 => h1 M' _ (fun c q1 q2 => by rw [i2 c q1, g1 c q2]) ⟨n, i, g2, c, ?_, rfl⟩ i3, fun c1 => ?_⟩
      · rcases z with z | ⟨-, r, -, z, -⟩
        · exact z.1
        · omega
      · have hn : tb s0 (pw N s0 (rnd N U s0 n).2 (pl, U) i).1 = false := by
          rcases z with z | z
          · exact absurd z.2 c1
          · exact z.1
        obtain ⟨r, r1, r2, r3, r4, r5, r6, r7⟩ := hPI.here hR hn
        rintro _ rfl
        rw [r2]
        refine ⟨by omega, ?_⟩
        rw [tn, i3 r r1]
        have e : pw N s0 (rnd N U s0 n).2 (pl, U) (i + 1) = (frm N (pw N s0 (rnd N U s0 n).2 (pl, U) i).2 r, fun q => if q = r then !(pw N s0 (rnd N U s0 n).2 (pl, U) i).2 q else (pw N s0 (rnd N U s0 n).2 (pl, U) i).2 q) := by
          show pst N s0 (rnd N U s0 n).2 (pw N s0 (rnd N U s0 n).2 (pl, U) i) = _
          unfold pst
          rw [if_neg (by rw [hn]; simp), r2, tn]
        refine jn_use (P := fun J => J (if (pw N s0 (rnd N U s0 n).2 (pl, U) i).2 r = true then 1 else 0)) ?_ (fun J hJ2 => usd_0 hJ2)
        refine r_frm hN' hG.1 r1 ?_
        have hgo : ∀ v : Int, v = (if (pw N s0 (rnd N U s0 n).2 (pl, U) i).2 r = true then 0 else 1) → ∀ M_16 : Mem, M_16 = st M' 121 r v → rec (frm N (pw N s0 (rnd N U s0 n).2 (pl, U) i).2 r : Int) M_16 := by
          intro v hv
          rintro _ rfl
          refine hrec _ _ ⟨i + 1, by rw [e], fun j hj => ?_, fun c hc => by rw [st_o hc]; exact i2 c hc, fun q hq => ?_⟩ ?_
          · by_cases y : j = i
            · rw [y]; exact hn
            · exact i1 j (by omega)
          · rw [e, st_s]
            by_cases y : q = r
            · rw [if_pos y, hv, y]
              unfold usd
              simp only [↓reduceIte]
              cases w : (pw N s0 (rnd N U s0 n).2 (pl, U) i).2 r <;> simp
            · rw [if_neg y, i3 q hq]
              unfold usd
              simp only [y, ↓reduceIte]
          · rw [tn, tn, r7]; exact r6
        have hu : ∀ (p : Prop), p → (¬ usd (pw N s0 (rnd N U s0 n).2 (pl, U) i).2 r = 0 → (pw N s0 (rnd N U s0 n).2 (pl, U) i).2 r = true) ∧ (usd (pw N s0 (rnd N U s0 n).2 (pl, U) i).2 r = 0 → ¬ (pw N s0 (rnd N U s0 n).2 (pl, U) i).2 r = true) := fun _ _ => by
          unfold usd
          by_cases y : (pw N s0 (rnd N U s0 n).2 (pl, U) i).2 r = true
          · rw [if_pos y]; exact ⟨fun _ => y, fun z => by omega⟩
          · rw [if_neg y]; exact ⟨fun z => absurd rfl z, fun _ => y⟩
        obtain ⟨hu1, hu2⟩ := hu True trivial
        exact ⟨fun d => hgo 0 (by rw [if_pos (hu1 d)]), fun d => hgo 1 (by rw [if_neg (hu2 d)])⟩
    · intro J hJ
      refine wl3_inv (I := fun (x w : Int) (M' : Mem) => ∃ n : Nat, x = (rnd N U s0 n).1 ∧ (n = 0 → w = 0) ∧ (0 < n → w = (rnd N U s0 (n - 1)).1) ∧ (∀ c, c ≠ 122 → M' c = M c) ∧ (∀ p, p < N.P → M' 122 p = (rnd N U s0 n).2 p) ∧ ∀ m, 0 < m → m < n → ¬ Hlt N U s0 pl m) (μ := fun (x w : Int) (_ : Mem) => 2 * (N.P - cnt (tb x) N.P) + (if w = x then 0 else 1)) ?_ 5000 _ _ _ ⟨0, rfl, fun _ => rfl, fun z => by omega, f1, f2, fun m a b => by omega⟩ (by split <;> omega)
      rintro rec x w M' ⟨n, rfl, g1, g2, g3, g4, g5⟩ hrec
      unfold X12_findsWay_b30
      have hfin : Hlt N U s0 pl n → 0 < n → J (rnd N U s0 n).1 M' := fun hh hn => hJ M' n g3 ⟨hn, hh, g5⟩ g4
      refine ⟨fun c => ?_, fun c => r_isOf (by omega) (fun c1 => ⟨fun _ => ?_, fun z => absurd z (by omega)⟩) (fun c1 => ⟨fun z => absurd rfl z, fun _ => ?_⟩)⟩
      · by_cases z : n = 0
        · subst z
          have e0 : s0 = 0 := by
            have : (rnd N U s0 0).1 = s0 := rfl
            rw [g1 rfl, this] at c
            exact c.symm
          have e1 : rnd N U s0 1 = rnd N U s0 0 := by
            show swp N U (s0, fun _ => -1) N.R = (s0, fun _ => -1)
            rw [e0]
            exact swp_0 N.R
          have := hJ M' 1 g3 ⟨by omega, Or.inl (by rw [e1]), fun m a b => by omega⟩ (by rw [e1]; exact g4)
          rw [e1] at this
          exact this
        · exact hfin (Or.inl (by rw [← g2 (by omega)]; exact c.symm)) (by omega)
      · by_cases z : n = 0
        · subst z
          have c1' : tb s0 pl = true := c1
          rw [hpl0] at c1'; cases c1'
        · exact hfin (Or.inr c1) (by omega)
      · refine wl3_inv (I := fun (x v : Int) (M2 : Mem) => ∃ j : Nat, v = j ∧ j ≤ N.R ∧ x = (swp N U (rnd N U s0 n) j).1 ∧ (∀ c, c ≠ 122 → M2 c = M c) ∧ (∀ p, p < N.P → M2 122 p = (swp N U (rnd N U s0 n) j).2 p)) (μ := fun (_ v : Int) (_ : Mem) => N.R - v.toNat) ?_ 5000 _ _ _ ⟨0, rfl, by omega, rfl, g3, g4⟩ (by simp; omega)
        rintro rec' x v M2 ⟨j, rfl, hj, rfl, k1, k2⟩ hrec'
        unfold X12_findsWay_b48
        have hN2 : NetR M2 100 N := hN.of (k1 100 (by omega))
        refine r_reaches hN2 ⟨fun c2 => ?_, fun c2 => ⟨by omega, ?_⟩⟩
        · have e : j = N.R := by omega
          subst e
          obtain ⟨t1, a1, a2, a3, -⟩ := rnd_in (U := U) hG.1 hi hs' n
          obtain ⟨t2, b1, b2, b3, -⟩ := rnd_in (U := U) hG.1 hi hs' (n + 1)
          refine hrec _ _ _ ⟨n + 1, rfl, fun z => by omega, fun _ => rfl, k1, k2, fun m a b => ?_⟩ ?_
          · by_cases e : m = n
            · rw [e]
              rintro (z | z)
              · exact c (by rw [g2 (by omega)]; exact z.symm)
              · rw [c1] at z; cases z
            · exact g5 m a (by omega)
          · have hcl := cnt_le (tb (rnd N U s0 (n + 1)).1) N.P
            show 2 * (N.P - cnt (tb (rnd N U s0 (n + 1)).1) N.P) + (if (rnd N U s0 n).1 = (rnd N U s0 (n + 1)).1 then 0 else 1) < _
            by_cases e : (rnd N U s0 n).1 = (rnd N U s0 (n + 1)).1
            · rw [if_pos e, if_neg c, ← e]; omega
            · have := cnt_more (P := N.P) a1 b1 (fun p hp => swp_up (N := N) (U := U) hp N.R) (fun z => e z.symm) b3
              rw [if_neg e, if_neg c]; omega
        · have hjR : j < N.R := by omega
          rw [tn, k1 121 (by omega), hU j hjR]
          have l1 := frm_lt (U := U) hG.1 hjR
          have l2 := too_lt (U := U) hG.1 hjR
          refine jn_use (P := fun J => J (if U j = true then 1 else 0)) ?_ (fun J hJ2 => usd_0 hJ2)
          refine r_frm hN2 hG.1 hjR ?_
          refine jn_use (P := fun J => J (if U j = true then 0 else 1)) ?_ (fun J hJ2 => usd_1 hJ2)
          refine r_too hN2 hG.1 hjR ?_
          have hskip : ¬ (tb (swp N U (rnd N U s0 n) j).1 (frm N U j) = true ∧ tb (swp N U (rnd N U s0 n) j).1 (too N U j) = false) → inR ((j : Int) + 1) ∧ ∀ z : Int, z = (j : Int) + 1 → rec' (swp N U (rnd N U s0 n) j).1 z M2 := fun hh => by
            have e : swp N U (rnd N U s0 n) (j + 1) = swp N U (rnd N U s0 n) j := sst_no hh
            refine ⟨by unfold inR; omega, ?_⟩
            rintro _ rfl
            exact hrec' _ _ _ ⟨j + 1, by omega, by omega, by rw [e], k1, by rw [e]; exact k2⟩ (by omega)
          refine r_isOf (by omega) (fun c3 => ⟨fun z => absurd z (by omega), fun _ => r_isOf (by omega) (fun c4 => ⟨fun z => absurd z (by omega), fun _ => hskip (fun z => by rw [c4] at z; cases z.2)⟩) (fun c4 => ⟨fun _ => ?_, fun z => absurd rfl z⟩)⟩) (fun c3 => ⟨fun _ => hskip (fun z => by rw [c3] at z; cases z.1), fun z => absurd rfl z⟩)
          have e : swp N U (rnd N U s0 n) (j + 1) = (bOr (swp N U (rnd N U s0 n) j).1 (bShl 1 (too N U j : Int)), fun p => if p = too N U j then (j : Int) else (swp N U (rnd N U s0 n) j).2 p) := sst_yes ⟨c3, c4⟩
          rintro _ rfl
          refine ⟨by omega, ?_⟩
          rintro _ rfl
          refine ⟨by unfold inR; omega, ?_⟩
          rintro _ rfl
          rw [tn]
          refine hrec' _ _ _ ⟨j + 1, by omega, by omega, by rw [e], fun c hc => by rw [st_o hc]; exact k1 c hc, fun p hp => ?_⟩ (by omega)
          rw [e, st_s]
          dsimp only
          by_cases z : p = too N U j
          · rw [if_pos z, if_pos z]
          · rw [if_neg z, if_neg z]; exact k2 p hp
  · intro J hJ
    refine wl2_inv (I := fun (v : Int) (M' : Mem) => ∃ k : Nat, v = k ∧ k ≤ N.P ∧ (∀ c, c ≠ 122 → M' c = M c) ∧ (∀ p, p < k → M' 122 p = -1)) (μ := fun (v : Int) (_ : Mem) => N.P - v.toNat) ?_ 5000 _ _ ⟨0, rfl, by omega, fun c _ => rfl, fun p hp => by omega⟩ (by simp; omega)
    rintro rec v M' ⟨k, rfl, hk, g1, g2⟩ hrec
    unfold X12_findsWay_b7
    refine r_places (hN.of (g1 100 (by omega))) ⟨fun c => hJ M' g1 (fun p hp => g2 p (by omega)), fun c => ⟨by omega, ?_⟩⟩
    rintro _ rfl
    refine ⟨by unfold inR; omega, ?_⟩
    rintro _ rfl
    refine hrec _ _ ⟨k + 1, by omega, by omega, fun c hc => by rw [st_o hc]; exact g1 c hc, fun p hp => ?_⟩ (by omega)
    rw [tn, st_s]
    by_cases e : p = k
    · rw [if_pos e]
    · rw [if_neg e]; exact g2 p (by omega)
theorem q_fewest {a : Int} (hC : Core M N) {Q : Int → Int → Mem → Prop} (h : ∀ (r : Int) (M2 : Mem), Qf M M2 → Core M2 N → Q r r M2) : f_X11_fewest a M (fun r M1 => f_X12_fewest a M1 (fun r2 M2 => Q r r2 M2)) := by
  obtain ⟨h1, h2, h3, h4, h5⟩ := id hC
  have hP := h3.1.1
  have hR := h3.1.2.1
  obtain ⟨-, -, -, -, -, -, hS, -⟩ := id h4.1
  unfold f_X11_fewest
  refine x_isPlace h1 (fun p hp e => ⟨fun z => absurd z (by omega), fun _ => ?_⟩) (fun hno => ⟨fun _ => ?_, fun z => absurd rfl z⟩)
  · subst e
    rw [bit_1 (show p < 32 by omega)]
    refine ⟨fun c => ?_, fun c => ?_⟩
    · have hp0 : tb (M 20 11) p = false := by simpa using c
      have hsl : ∀ q, tb (M 20 11) q = true → q < N.P := fun q hq => ((hS.2 q).mp hq).1
      refine x_howManyApart h1 h3 hS.1 hsl hp (fun M1 k V a1 a2 a3 => ?_)
      obtain ⟨hq1, hC1⟩ := hC.scr (M' := M1) (fun c _ _ => a1 c (by omega) (by omega))
      unfold f_X12_fewest
      refine r_isPlace hC1.2.1 h3.1 (fun _ _ _ => ⟨fun _ => q_lays hC1 (fun M2 k1 k2 k3 k4 => ?_), fun z => absurd z (by omega)⟩) (fun z => by omega)
      refine r_isSource h3.1 hp k3.1.2.1 (fun z => absurd ((hS.2 p).mpr z) c) (fun _ => ⟨fun _ => ?_, fun z => absurd rfl z⟩)
      refine jn_use (P := fun J => ∀ M3 : Mem, (∀ c, c ≠ 121 → M3 c = M2 c) → (∀ r, r < N.R → M3 121 r = 0) → J M3) ?_ ?_
      · intro M3 b1 b2
        refine wl2_inv (I := fun (x : Int) (M' : Mem) => ∃ (j : Nat) (W : Nat → Nat → Bool), x = j ∧ Chi N (M 20 11) p j W ∧ (∀ c, c ≠ 121 → c ≠ 122 → M' c = M2 c) ∧ (∀ r, r < N.R → M' 121 r = usd (W j) r)) (μ := fun (x : Int) (_ : Mem) => 40 - x.toNat) ?_ 5000 _ _ ⟨0, fun _ _ => false, rfl, ⟨rfl, fun i hi => by omega⟩, fun c q1 _ => b1 c q1, b2⟩ (by simp)
        rintro rec x M' ⟨j, W, rfl, g1, g2, g3⟩ hrec
        unfold X12_fewest_b49
        have hN' : NetR M' 100 N := k2.2.1.of (g2 100 (by omega) (by omega))
        have hio : ∀ p, p < N.P → M' 102 p = nin N p ∧ M' 103 p = nout N p := by rw [g2 102 (by omega) (by omega), g2 103 (by omega) (by omega)]; exact k3.1.2.1
        have hvj := Chi.vlu_chi h3 hS.1 hsl hp0 g1
        have hlj := vlu_le (N := N) (U := W j) p
        refine r_findsWay hN' h3 hio g3 hS.1 hS.2 hp hp0 (fun M4 X d1 d2 d3 => ⟨fun z => absurd z (by omega), fun _ => ⟨by unfold inR; omega, ?_⟩⟩) (fun M4 d1 d2 => ⟨fun _ => ?_, fun z => absurd rfl z⟩)
        · rintro _ rfl
          obtain ⟨W', w1, w2⟩ := g1.ext d2
          exact hrec _ _ ⟨j + 1, W', by omega, w1, fun c q1 q2 => by rw [d1 c q1 q2]; exact g2 c q1 q2, by rw [w2]; exact d3⟩ (by omega)
        · have e := Chi.fin h3 hS.1 hsl hp0 a2 a3 g1 d2
          obtain ⟨hq3, hC3⟩ := k2.scr (M' := M4) (fun c z1 z2 => by rw [d1 c (by omega) (by omega)]; exact g2 c (by omega) (by omega))
          rw [e]
          exact h _ _ ((hq1.trans k1).trans hq3) hC3
      · intro J hJ
        refine wl2_inv (I := fun (v : Int) (M' : Mem) => ∃ j : Nat, v = j ∧ j ≤ N.R ∧ (∀ c, c ≠ 121 → M' c = M2 c) ∧ (∀ r, r < j → M' 121 r = 0)) (μ := fun (v : Int) (_ : Mem) => N.R - v.toNat) ?_ 5000 _ _ ⟨0, rfl, by omega, fun c _ => rfl, fun r hr => by omega⟩ (by simp; omega)
        rintro rec v M' ⟨j, rfl, hj, g1, g2⟩ hrec
        unfold X12_fewest_b26
        refine r_reaches (k2.2.1.of (g1 100 (by omega))) ⟨fun c => hJ M' g1 (fun r hr => g2 r (by omega)), fun c => ⟨by omega, ?_⟩⟩
        rintro _ rfl
        refine ⟨by unfold inR; omega, ?_⟩
        rintro _ rfl
        refine hrec _ _ ⟨j + 1, by omega, by omega, fun c hc => by rw [st_o hc]; exact g1 c hc, fun r hr => ?_⟩ (by omega)
        rw [tn, st_s]
        by_cases e : r = j
        · rw [if_pos e]
        · rw [if_neg e]; exact g2 r (by omega)
    · unfold f_X12_fewest
      exact r_isPlace h2 h3.1 (fun _ _ _ => ⟨fun _ => q_lays hC (fun M2 k1 k2 k3 k4 => r_isSource h3.1 hp k3.1.2.1 (fun _ => ⟨fun z => absurd z (by omega), fun _ => h _ _ k1 k2⟩) (fun z => absurd ((hS.2 p).mp c) z)), fun z => absurd z (by omega)⟩) (fun z => by omega)
  · unfold f_X12_fewest
    exact r_isPlace h2 h3.1 (fun p hp e => by omega) (fun _ => ⟨fun z => absurd rfl z, fun _ => h _ _ (Qf.refl M) hC⟩)
end
