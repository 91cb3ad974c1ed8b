/-! acts one by one, more -/
section
variable {M : Mem} {N : Nt} {t n A F W : Nat} {H : Nat → Nt} {K : Nat → Nat → Int}
theorem x_splitReach {k : Nat} {v : Int} (hN : NetX M 12 N) (hW : Wf N) (hk : k < N.R) (hP : N.P < 20) (hR : N.R < 30) (h1 : 1 ≤ v) (h2 : v < N.ln k) {Q : Mem → Prop} (h : ∀ M' : Mem, (∀ c, ¬ (12 ≤ c ∧ c ≤ 18) → M' c = M c) → NetX M' 12 (N.cut k v) → (∀ p, p < N.P → M' 18 p = M 18 p) → M' 18 N.P = 0 → Q M') : f_X11_splitReach (k : Int) v M Q := by
  unfold f_X11_splitReach
  refine x_split hN hW hk hP hR h1 h2 (fun M2 b1 b2 => ?_)
  have e : M2 12 0 = ((N.P + 1 : Nat) : Int) := b2.1
  rw [e, show (((N.P + 1 : Nat) : Int) - 1).toNat = N.P by omega]
  refine ⟨by omega, ?_⟩
  rintro _ rfl
  exact h _ (fun c hc => by rw [st_o (by omega), b1 c (by omega)]) (b2.of (fun c _ _ => st_o (by omega))) (fun p hp => by rw [st_s, if_neg (by omega), b1 18 (by omega)]) (by rw [st_s, if_pos rfl])
theorem q_cut {a b : Int} (hS : StaF t M N n A F W H K) (ht : t ≤ 1000) {Q : Int → Int → Mem → Prop} (h : ∀ (r : Int) (M2 : Mem), Sta (t + 1) M2 → Q r r M2) : f_X11_cut a b M (fun r M1 => f_X12_cut a b M1 (fun r2 M2 => Q r r2 M2)) := by
  obtain ⟨⟨c1, c2, c3, c4, c5⟩, h2, h3, h4, h5, -⟩ := id hS
  obtain ⟨r1, r2, r3⟩ := hS.refuse (k := 2) (by omega) ht
  unfold f_X11_cut
  refine x_maySplit c1 c3.1 (fun k hk e l1 l2 hP hR => ⟨fun _ => ?_, fun z => absurd z (by omega)⟩) (fun hno => ⟨fun z => absurd rfl z, fun _ => x_refuse (k := 2) rfl (by omega) r2 ?_⟩)
  · subst e
    have hG' := good_cut c3 hk hP hR l1 l2
    have eP : (N.cut k b).P = N.P + 1 := rfl
    refine act_class (s := M 0 16) (N' := N.cut k b) hS (B := fun M1 Q1 => f_X11_splitReach (k : Int) b M1 Q1) hG' (by omega) (fun M1 Q1 n1 s1 kk => x_splitReach n1 c3.1 hk hP hR l1 l2 (fun M2 b1 b2 b3 b4 => kk M2 (fun c q1 q2 => b1 c q2) (fun j _ => by rw [b1 0 (by omega)]) b2 b3 (fun p q1 q2 => by rw [show p = N.P by omega]; exact b4) (by rw [b1 0 (by omega)]; exact s1))) (fun M3 hM => ?_)
    have e12 : M3 12 0 = ((N.P + 1 : Nat) : Int) := hM.2.2.1.1
    rw [e12]
    refine ⟨by unfold inR; omega, ?_⟩
    have hN3 : NetR M3 100 N := c2.of (hM.1 100 (by omega) (by omega) (by omega))
    unfold f_X12_cut
    refine r_canCut hN3 c3.1 (fun k' hk' e _ _ _ _ => ⟨fun _ => ?_, fun z => absurd z (by omega)⟩) (fun hno => absurd ⟨k, hk, rfl, l1, l2, hP, hR⟩ hno)
    refine act_ref hS hM (fun r hr => ?_) (B := fun M4 Q1 => f_X12_cuts (k : Int) b M4 Q1) (fun M4 Q1 n4 s4 v4 kk => ?_) (fun M5 hSt hN5 => ?_)
    · show (if r = N.R then N.rv k else N.rv r) < M 100 2
      by_cases z : r = N.R
      · rw [if_pos z]; exact h2.2.2.2 k hk
      · rw [if_neg z]
        have : r < N.R + 1 := hr
        exact h2.2.2.2 r (by omega)
    · refine r_cuts n4 c3.1 hk hP hR l1 l2 (fun M5 b1 b2 b3 b4 => ?_)
      refine kk _ (fun c q1 q2 => b1.1 c q1 q2) (fun j q1 q2 => b1.2.1 j q1) b1.2.2 b4 (b2 2 (by omega) (by omega) (by omega) (by omega)) (fun p hp => b2 _ (by omega) (by omega) (by omega) (by omega)) (fun p q1 q2 => by rw [show p = N.P by omega]; exact b3) (fun v hv => b2 _ (by omega) (by omega) (by omega) (by omega)) ?_
      rw [b1.2.1 46 (by omega), s4]
      exact h5
    · refine r_places hN5 ?_
      rw [eP]
      refine ⟨by unfold inR; omega, ?_⟩
      obtain ⟨A', F', W', H', K', hSt⟩ := hSt
      exact h _ _ hSt.sta
  · have hN1 : NetR (st M 94 2 (M 94 2 + 1)) 100 N := c2.of (st_o (by omega))
    unfold f_X12_cut
    exact r_canCut hN1 c3.1 (fun k hk e l1 l2 hP hR => absurd ⟨k, hk, e, l1, l2, hP, hR⟩ hno) (fun _ => ⟨fun z => absurd rfl z, fun _ => r_refuses (k := 2) rfl (by omega) r3 (h _ _ r1.sta)⟩)
theorem x_give {k : Nat} {v : Int} (hN : NetX M 12 N) : NetX (st M 16 k v) 12 (N.give k v) := by
  refine ⟨by rw [st_o (by omega)]; exact hN.1, by rw [st_o (by omega)]; exact hN.2.1, fun r hr => ?_⟩
  obtain ⟨a1, a2, a3, a4, a5⟩ := hN.2.2 r hr
  refine ⟨by rw [st_o (by omega)]; exact a1, by rw [st_o (by omega)]; exact a2, by rw [st_o (by omega)]; exact a3, ?_, by rw [st_o (by omega)]; exact a5⟩
  show st M 16 k v 16 r = (if r = k then v else N.gf r)
  rw [st_s]
  by_cases z : r = k
  · rw [if_pos z, if_pos z]
  · rw [if_neg z, if_neg z]; exact a4
theorem x_name {k : Nat} {v : Int} (hN : NetX M 12 N) : NetX (st M 17 k v) 12 (N.name k v) := by
  refine ⟨by rw [st_o (by omega)]; exact hN.1, by rw [st_o (by omega)]; exact hN.2.1, fun r hr => ?_⟩
  obtain ⟨a1, a2, a3, a4, a5⟩ := hN.2.2 r hr
  refine ⟨by rw [st_o (by omega)]; exact a1, by rw [st_o (by omega)]; exact a2, by rw [st_o (by omega)]; exact a3, by rw [st_o (by omega)]; exact a4, ?_⟩
  show st M 17 k v 17 r = (if r = k then v else N.rv r)
  rw [st_s]
  by_cases z : r = k
  · rw [if_pos z, if_pos z]
  · rw [if_neg z, if_neg z]; exact a5
theorem r_give {k : Nat} {v : Int} (hN : NetR M 100 N) : NetR (st M 100 (33 + 5 * k + 3) v) 100 (N.give k v) := by
  refine ⟨by rw [st_s, if_neg (by omega)]; exact hN.1, by rw [st_s, if_neg (by omega)]; exact hN.2.1, fun r hr => ?_⟩
  obtain ⟨a1, a2, a3, a4, a5⟩ := hN.2.2 r hr
  refine ⟨by rw [st_s, if_neg (by omega)]; exact a1, by rw [st_s, if_neg (by omega)]; exact a2, by rw [st_s, if_neg (by omega)]; exact a3, ?_, by rw [st_s, if_neg (by omega)]; exact a5⟩
  show _ = (if r = k then v else N.gf r)
  rw [st_s]
  by_cases z : r = k
  · rw [if_pos (by omega), if_pos z]
  · rw [if_neg (by omega), if_neg z]; exact a4
theorem r_name {k : Nat} {v : Int} (hN : NetR M 100 N) : NetR (st M 100 (33 + 5 * k + 4) v) 100 (N.name k v) := by
  refine ⟨by rw [st_s, if_neg (by omega)]; exact hN.1, by rw [st_s, if_neg (by omega)]; exact hN.2.1, fun r hr => ?_⟩
  obtain ⟨a1, a2, a3, a4, a5⟩ := hN.2.2 r hr
  refine ⟨by rw [st_s, if_neg (by omega)]; exact a1, by rw [st_s, if_neg (by omega)]; exact a2, by rw [st_s, if_neg (by omega)]; exact a3, by rw [st_s, if_neg (by omega)]; exact a4, ?_⟩
  show _ = (if r = k then v else N.rv r)
  rw [st_s]
  by_cases z : r = k
  · rw [if_pos (by omega), if_pos z]
  · rw [if_neg (by omega), if_neg z]; exact a5
theorem q_gives {a b : Int} (hS : StaF t M N n A F W H K) (ht : t ≤ 1000) {Q : Int → Int → Mem → Prop} (h : ∀ (r : Int) (M2 : Mem), Sta (t + 1) M2 → Q r r M2) : f_X11_gives a b M (fun r M1 => f_X12_gives a b M1 (fun r2 M2 => Q r r2 M2)) := by
  obtain ⟨⟨c1, c2, c3, c4, c5⟩, h2, h3, h4, h5, -⟩ := id hS
  have hP := c3.1.1
  have hR := c3.1.2.1
  obtain ⟨r1, r2, r3⟩ := hS.refuse (k := 3) (by omega) ht
  have hN1 : NetR (st M 94 3 (M 94 3 + 1)) 100 N := c2.of (st_o (by omega))
  have hfin : f_X12_isRefused 3 (st M 94 3 (M 94 3 + 1)) (fun r2 M2 => Q 0 r2 M2) := r_isRefused (k := 3) rfl (by omega) r3 (h _ _ r1.sta)
  have hbad : ¬ (∃ k : Nat, k < N.R ∧ a = k ∧ 0 ≤ b ∧ b ≤ 99 ∧ N.gf k ≠ b) → f_X11_refuse 3 M (fun r M1 => f_X12_gives a b M1 (fun r2 M2 => Q 0 r2 M2)) := fun hh => x_refuse (k := 3) rfl (by omega) r2 (by
    unfold f_X12_gives
    refine r_isReach hN1 c3.1 (fun k hk e => ?_) (fun _ => jn_use (P := fun J => J (st M 94 3 (M 94 3 + 1))) hfin (fun J hJ => ⟨fun _ => hJ, fun z => absurd rfl z⟩))
    subst e
    refine jn_use (P := fun J => J (st M 94 3 (M 94 3 + 1))) hfin (fun J hJ => ⟨fun _ => hJ, fun _ => r_isIn (fun z1 z2 => ⟨fun _ => hJ, fun _ => r_gf hN1 c3.1 hk ⟨fun d => absurd ⟨k, hk, rfl, z1, z2, d⟩ hh, fun _ => hJ⟩⟩) (fun _ => ⟨fun _ => hJ, fun z => absurd rfl z⟩)⟩))
  unfold f_X11_gives
  refine x_isReach c1 (fun k hk e => ?_) (fun hno => jn_use (P := fun J => J M) (hbad (fun ⟨k, hk, e, _⟩ => by omega)) (fun J hJ => ⟨fun _ => hJ, fun z => absurd rfl z⟩))
  subst e
  have e16 : M 16 k = N.gf k := (c1.2.2 k hk).2.2.2.1
  refine jn_use (P := fun J => ¬ (0 ≤ b ∧ b ≤ 99 ∧ N.gf k ≠ b) → J M) (fun hn => hbad (fun ⟨k', hk', e, z⟩ => hn (by rw [show k = k' by omega]; exact z))) (fun J hJ => ⟨fun z => absurd z (by omega), fun _ => ⟨fun z => hJ (by omega), fun g1 => ⟨fun z => hJ (by omega), fun g2 => ⟨by omega, ?_⟩⟩⟩⟩)
  rw [tn, e16]
  refine ⟨fun hne => ?_, fun z => hJ (fun y => y.2.2 z)⟩
  have hG' := good_give (k := k) (g := b) c3 (by omega)
  refine act_class (s := M 0 16) (N' := N.give k b) hS (B := fun M1 Q1 => ∀ M_8 : Mem, M_8 = st M1 16 k b → Q1 M_8) hG' (Nat.le_refl _) (fun M1 Q1 n1 s1 kk => ?_) (fun M3 hM => ?_)
  · rintro _ rfl
    exact kk _ (fun c q1 q2 => st_o (by omega)) (fun j _ => by rw [st_o (by omega)]) (x_give n1) (fun p _ => by rw [st_o (by omega)]) (fun p q1 q2 => by have : (N.give k b).P = N.P := rfl; omega) (by rw [st_o (by omega)]; exact s1)
  · have hN3 : NetR M3 100 N := c2.of (hM.1 100 (by omega) (by omega) (by omega))
    unfold f_X12_gives
    refine r_isReach hN3 c3.1 (fun _ _ _ => jn_use (P := fun _ => True) trivial (fun J _ => ⟨fun z => absurd z (by omega), fun _ => r_isIn (fun _ _ => ⟨fun z => absurd z (by omega), fun _ => r_gf hN3 c3.1 hk ⟨fun _ => ?_, fun z => absurd z hne⟩⟩) (fun z => by omega)⟩)) (fun z => by omega)
    refine act_ref hS hM (fun r hr => h2.2.2.2 r hr) (B := fun M4 Q1 => f_X12_reachAt (k : Int) 3 M4 (fun r_11 => (0 ≤ r_11 ∧ r_11 < 183) ∧ ∀ M_14 : Mem, M_14 = st M4 100 (r_11.toNat) b → f_X12_isOther M_14 Q1)) (fun M4 Q1 n4 s4 v4 kk => ?_) (fun M5 hSt hN5 => ?_)
    · refine r_reachAt (k := 3) (by omega) (by omega) ⟨by omega, ?_⟩
      rintro _ rfl
      unfold f_X12_isOther
      rintro _ rfl
      rw [tn]
      refine kk _ (fun c q1 q2 => by rw [st_o q2, st_o q1]) (fun j q1 q2 => by rw [st_s, if_neg q1, st_o (by omega)]) (by rw [st_s, if_pos rfl]) ((r_give n4).of (st_o (by omega))) (by rw [st_o (by omega), st_s, if_neg (by omega)]) (fun p hp => by rw [st_o (by omega), st_s, if_neg (by omega)]) (fun p q1 q2 => by have : (N.give k b).P = N.P := rfl; omega) (fun v hv => by rw [st_o (by omega), st_s, if_neg (by omega)]) ?_
      rw [st_s, if_neg (by omega), st_o (by omega), s4]
      exact h5
    · obtain ⟨A', F', W', H', K', hSt⟩ := hSt
      exact h _ _ hSt.sta
theorem q_call {a b : Int} (hS : StaF t M N n A F W H K) (ht : t ≤ 1000) {Q : Int → Int → Mem → Prop} (h : ∀ (r : Int) (M2 : Mem), Sta (t + 1) M2 → Q r r M2) : f_X11_call a b M (fun r M1 => f_X12_call a b M1 (fun r2 M2 => Q r r2 M2)) := by
  obtain ⟨⟨c1, c2, c3, c4, c5⟩, h2, h3, h4, h5, -⟩ := id hS
  have hP := c3.1.1
  have hR := c3.1.2.1
  obtain ⟨v0, v1, v2, v3⟩ := id h2
  obtain ⟨r1, r2, r3⟩ := hS.refuse (k := 3) (by omega) ht
  have hN1 : NetR (st M 94 3 (M 94 3 + 1)) 100 N := c2.of (st_o (by omega))
  have e1 : st M 94 3 (M 94 3 + 1) 100 2 = M 100 2 := by rw [st_o (by omega)]
  have hfin : f_X12_isRefused 3 (st M 94 3 (M 94 3 + 1)) (fun r2 M2 => Q 0 r2 M2) := r_isRefused (k := 3) rfl (by omega) r3 (h _ _ r1.sta)
  have hbad : ¬ (∃ k : Nat, k < N.R ∧ a = k ∧ -1 ≤ b ∧ b < M 100 2 ∧ N.rv k ≠ b) → f_X11_refuse 3 M (fun r M1 => f_X12_call a b M1 (fun r2 M2 => Q 0 r2 M2)) := fun hh => x_refuse (k := 3) rfl (by omega) r2 (by
    unfold f_X12_call
    refine r_isReach hN1 c3.1 (fun k hk e => ?_) (fun _ => jn_use (P := fun J => J (st M 94 3 (M 94 3 + 1))) hfin (fun J hJ => ⟨fun _ => hJ, fun z => absurd rfl z⟩))
    subst e
    refine jn_use (P := fun J => J (st M 94 3 (M 94 3 + 1))) hfin (fun J hJ => ⟨fun _ => hJ, fun _ => ?_⟩)
    refine jn_use (P := fun J' => (-1 ≤ b ∧ b < M 100 2) → J') (fun hb => r_rv hN1 c3.1 hk ⟨fun d => absurd ⟨k, hk, rfl, hb.1, hb.2, d⟩ hh, fun _ => hJ⟩) (fun J' hJ' => ⟨fun z => hJ' (by omega), fun z => r_isRiver (by rw [e1]; exact ⟨v1, v2⟩) (fun u1 u2 => ⟨fun y => absurd y (by omega), fun _ => hJ' (by rw [e1] at u2; omega)⟩) (fun _ => ⟨fun _ => hJ, fun y => absurd rfl y⟩)⟩))
  unfold f_X11_call
  refine x_isReach c1 (fun k hk e => ?_) (fun hno => jn_use (P := fun J => J M) (hbad (fun ⟨k, hk, e, _⟩ => by omega)) (fun J hJ => ⟨fun _ => hJ, fun z => absurd rfl z⟩))
  subst e
  have e17 : M 17 k = N.rv k := (c1.2.2 k hk).2.2.2.2
  rw [v0]
  refine jn_use (P := fun J => ¬ (-1 ≤ b ∧ b < M 100 2 ∧ N.rv k ≠ b) → J M) (fun hn => hbad (fun ⟨k', hk', e, z⟩ => hn (by rw [show k = k' by omega]; exact z))) (fun J hJ => ⟨fun z => absurd z (by omega), fun _ => ⟨fun z => hJ (by omega), fun g1 => ⟨fun z => hJ (by omega), fun g2 => ⟨by omega, ?_⟩⟩⟩⟩)
  rw [tn, e17]
  refine ⟨fun hne => ?_, fun z => hJ (fun y => y.2.2 z)⟩
  have hG' := good_name (k := k) (v := b) c3 (by omega)
  refine act_class (s := M 0 16) (N' := N.name k b) hS (B := fun M1 Q1 => ∀ M_8 : Mem, M_8 = st M1 17 k b → Q1 M_8) hG' (Nat.le_refl _) (fun M1 Q1 n1 s1 kk => ?_) (fun M3 hM => ?_)
  · rintro _ rfl
    exact kk _ (fun c q1 q2 => st_o (by omega)) (fun j _ => by rw [st_o (by omega)]) (x_name n1) (fun p _ => by rw [st_o (by omega)]) (fun p q1 q2 => by have : (N.name k b).P = N.P := rfl; omega) (by rw [st_o (by omega)]; exact s1)
  · have hN3 : NetR M3 100 N := c2.of (hM.1 100 (by omega) (by omega) (by omega))
    have e100 : M3 100 2 = M 100 2 := by rw [hM.1 100 (by omega) (by omega) (by omega)]
    unfold f_X12_call
    refine r_isReach hN3 c3.1 (fun _ _ _ => jn_use (P := fun _ => True) trivial (fun J _ => ⟨fun z => absurd z (by omega), fun _ => jn_use (P := fun J' => J') (r_rv hN3 c3.1 hk ⟨fun _ => ?_, fun z => absurd z hne⟩) (fun J' hJ' => ⟨fun _ => hJ', fun z => r_isRiver (by rw [e100]; exact ⟨v1, v2⟩) (fun _ _ => ⟨fun y => absurd y (by omega), fun _ => hJ'⟩) (fun y => absurd ⟨by omega, by rw [e100]; omega⟩ y)⟩)⟩)) (fun z => by omega)
    refine act_ref hS hM (fun r hr => ?_) (B := fun M4 Q1 => f_X12_reachAt (k : Int) 4 M4 (fun r_11 => (0 ≤ r_11 ∧ r_11 < 183) ∧ ∀ M_14 : Mem, M_14 = st M4 100 (r_11.toNat) b → f_X12_isOther M_14 Q1)) (fun M4 Q1 n4 s4 v4 kk => ?_) (fun M5 hSt hN5 => ?_)
    · show (if r = k then b else N.rv r) < M 100 2
      by_cases z : r = k
      · rw [if_pos z]; omega
      · rw [if_neg z]; exact v3 r hr
    · refine r_reachAt (k := 4) (by omega) (by omega) ⟨by omega, ?_⟩
      rintro _ rfl
      unfold f_X12_isOther
      rintro _ rfl
      rw [tn]
      refine kk _ (fun c q1 q2 => by rw [st_o q2, st_o q1]) (fun j q1 q2 => by rw [st_s, if_neg q1, st_o (by omega)]) (by rw [st_s, if_pos rfl]) ((r_name n4).of (st_o (by omega))) (by rw [st_o (by omega), st_s, if_neg (by omega)]) (fun p hp => by rw [st_o (by omega), st_s, if_neg (by omega)]) (fun p q1 q2 => by have : (N.name k b).P = N.P := rfl; omega) (fun v hv => by rw [st_o (by omega), st_s, if_neg (by omega)]) ?_
      rw [st_s, if_neg (by omega), st_o (by omega), s4]
      exact h5
    · obtain ⟨A', F', W', H', K', hSt⟩ := hSt
      exact h _ _ hSt.sta
end
