/-! acts one by one -/
section
variable {M : Mem} {N : Nt} {t n A F W : Nat} {H : Nat → Nt} {K : Nat → Nat → Int}
theorem x_refuse {v : Int} {k : Nat} (hv : v = k) (hk : k < 6) (hb : 0 ≤ M 94 k ∧ M 94 k ≤ 1000) {Q : Int → Mem → Prop} (h : Q (-1) (st M 94 k (M 94 k + 1))) : f_X11_refuse v M Q := by
  unfold f_X11_refuse
  rw [hv, tn]
  refine ⟨by omega, by unfold inR; omega, ?_⟩
  rintro _ rfl
  exact h
theorem r_refuses {v x : Int} {k : Nat} (hv : v = k) (hk : k < 6) (hb : 0 ≤ M 97 k ∧ M 97 k ≤ 1000) {Q : Int → Mem → Prop} (h : Q (-1) (st (st M 94 k x) 97 k (M 97 k + 1))) : f_X12_refuses v (st M 94 k x) Q := by
  unfold f_X12_refuses
  rw [hv, tn, st_o (show 97 ≠ 94 by omega)]
  refine ⟨by omega, by unfold inR; omega, ?_⟩
  rintro _ rfl
  exact h
theorem r_isRefused {v x : Int} {k : Nat} (hv : v = k) (hk : k < 6) (hb : 0 ≤ M 97 k ∧ M 97 k ≤ 1000) {Q : Int → Mem → Prop} (h : Q 0 (st (st M 94 k x) 97 k (M 97 k + 1))) : f_X12_isRefused v (st M 94 k x) Q := by
  unfold f_X12_isRefused
  rw [hv, tn, st_o (show 97 ≠ 94 by omega)]
  refine ⟨by omega, by unfold inR; omega, ?_⟩
  rintro _ rfl
  exact h
theorem StaF.sta (h : StaF t M N n A F W H K) : Sta t M := ⟨N, n, A, F, W, H, K, h⟩
theorem q_add {a b d e : Int} (hS : StaF t M N n A F W H K) (ht : t ≤ 1000) {Q : Int → Int → Mem → Prop} (h : ∀ (r : Int) (M2 : Mem), Sta (t + 1) M2 → Q r r M2) : f_X11_add a b d e M (fun r M1 => f_X12_add a b d e M1 (fun r2 M2 => Q r r2 M2)) := by
  obtain ⟨⟨c1, c2, c3, c4, c5⟩, h2, h3, h4, h5, -⟩ := id hS
  have hR30 := c3.1.2.1
  obtain ⟨r1, r2, r3⟩ := hS.refuse (k := 2) (by omega) ht
  unfold f_X11_add
  refine x_mayLay c1 c3.1 (fun x y hx hy ex ey hR l1 l2 g1 g2 hno => ⟨fun _ => ?_, fun z => absurd z (by omega)⟩) (fun hno => ⟨fun z => absurd rfl z, fun _ => x_refuse (k := 2) rfl (by omega) r2 ?_⟩)
  · subst ex; subst ey
    have hG' := good_add (v := -1) c3 hx hy hR ⟨l1, l2⟩ ⟨g1, g2⟩ (by omega) hno
    refine act_class (s := M 0 16) (N' := N.add x y d e (-1)) hS (B := fun M1 Q1 => f_X5_lay 12 (x : Int) (y : Int) d e (-1) M1 Q1) hG' (Nat.le_refl _) (fun M1 Q1 n1 s1 k => x_lay n1 hR (fun M2 b1 b2 => k M2 (fun c q1 q2 => b1 c (by omega)) (fun j _ => by rw [b1 0 (by omega)]) b2 (fun p _ => by rw [b1 18 (by omega)]) (fun p q1 q2 => by have : (N.add x y d e (-1)).P = N.P := rfl; omega) (by rw [b1 0 (by omega)]; exact s1))) (fun M3 hM => ?_)
    have e12 : M3 12 1 = ((N.R + 1 : Nat) : Int) := hM.2.2.1.2.1
    rw [e12]
    refine ⟨by unfold inR; omega, ?_⟩
    have hN3 : NetR M3 100 N := c2.of (hM.1 100 (by omega) (by omega) (by omega))
    unfold f_X12_add
    refine r_canAdd hN3 c3.1 (fun x' y' hx' hy' ex ey hR' hno' => jn_use (P := fun _ => True) trivial (fun J _ => ⟨fun z => absurd z (by omega), fun _ => r_isIn (fun _ _ => ⟨fun z => absurd z (by omega), fun _ => r_isIn (fun _ _ => ⟨fun _ => ?_, fun z => absurd z (by omega)⟩) (fun z => absurd ⟨g1, g2⟩ z)⟩) (fun z => absurd ⟨l1, l2⟩ z)⟩)) (fun hno' => absurd ⟨x, y, hx, hy, rfl, rfl, hR, hno⟩ hno')
    refine act_ref hS hM (fun r hr => ?_) (B := fun M4 Q1 => f_X12_laysReach 100 (x : Int) (y : Int) d e (-1) M4 (fun M_11 => f_X12_isOther M_11 Q1)) (fun M4 Q1 n4 s4 v4 k => ?_) (fun M5 hSt hN5 => ?_)
    · show (if r = N.R then (-1 : Int) else N.rv r) < M 100 2
      by_cases z : r = N.R
      · rw [if_pos z]; have := h2.2.1; omega
      · rw [if_neg z]
        have : r < N.R + 1 := hr
        exact h2.2.2.2 r (by omega)
    · refine r_lay rfl n4 hR (fun M5 b1 b2 b3 => ?_)
      unfold f_X12_isOther
      rintro _ rfl
      refine k _ (fun c q1 q2 => by rw [st_o q2]; exact b1 c q1) (fun j q1 q2 => by rw [st_s, if_neg q1, b1 95 (by omega)]) (by rw [st_s, if_pos rfl]) (b3.of (st_o (by omega))) (by rw [st_o (by omega)]; exact b2 2 (by omega) (by omega)) (fun p hp => by rw [st_o (by omega)]; exact b2 _ (by have := c3.1.1; omega) (by omega)) (fun p q1 q2 => by have : (N.add x y d e (-1)).P = N.P := rfl; omega) (fun v hv => by rw [st_o (by omega)]; exact b2 _ (by omega) (by omega)) ?_
      rw [st_s, if_neg (by omega), b1 95 (by omega), s4]
      exact h5
    · refine r_reaches hN5 ?_
      have e : (N.add x y d e (-1)).R = N.R + 1 := rfl
      rw [e]
      refine ⟨by unfold inR; omega, ?_⟩
      obtain ⟨A', F', W', H', K', hSt⟩ := hSt
      exact h _ _ hSt.sta
  · have hN1 : NetR (st M 94 2 (M 94 2 + 1)) 100 N := c2.of (st_o (by omega))
    have hfin : f_X12_refuses 2 (st M 94 2 (M 94 2 + 1)) (fun r2 M2 => Q (-1) r2 M2) := r_refuses (k := 2) rfl (by omega) r3 (h _ _ r1.sta)
    unfold f_X12_add
    refine r_canAdd hN1 c3.1 (fun x' y' hx' hy' ex ey hR' hno' => jn_use (P := fun J => J (st M 94 2 (M 94 2 + 1))) hfin (fun J hJ => ⟨fun _ => hJ, fun _ => r_isIn (fun z1 z2 => ⟨fun _ => hJ, fun _ => r_isIn (fun z3 z4 => absurd ⟨x', y', hx', hy', ex, ey, hR', ⟨z1, z2, z3, z4⟩, hno'⟩ hno) (fun _ => ⟨fun z => absurd rfl z, fun _ => hJ⟩)⟩) (fun _ => ⟨fun _ => hJ, fun z => absurd rfl z⟩)⟩)) (fun hno' => jn_use (P := fun J => J (st M 94 2 (M 94 2 + 1))) hfin (fun J hJ => ⟨fun _ => hJ, fun z => absurd rfl z⟩))
theorem q_drop {a : Int} (hS : StaF t M N n A F W H K) (ht : t ≤ 1000) {Q : Int → Int → Mem → Prop} (h : ∀ (r : Int) (M2 : Mem), Sta (t + 1) M2 → Q r r M2) : f_X11_drop a M (fun r M1 => f_X12_drop a M1 (fun r2 M2 => Q r r2 M2)) := by
  obtain ⟨⟨c1, c2, c3, c4, c5⟩, h2, h3, h4, h5, -⟩ := id hS
  have hP := c3.1.1
  obtain ⟨r1, r2, r3⟩ := hS.refuse (k := 2) (by omega) ht
  unfold f_X11_drop
  refine x_isReach c1 (fun k hk e => ⟨fun _ => ?_, fun z => absurd z (by omega)⟩) (fun hno => ⟨fun z => absurd rfl z, fun _ => x_refuse (k := 2) rfl (by omega) r2 ?_⟩)
  · subst e
    have hG' := good_drop c3 hk
    refine act_class (s := M 0 16) (N' := N.drop k) hS (B := fun M1 Q1 => f_X5_take 12 (k : Int) M1 Q1) hG' (Nat.le_refl _) (fun M1 Q1 n1 s1 kk => x_take n1 c3.1 hk (fun M2 b1 b2 => kk M2 (fun c q1 q2 => b1 c (by omega)) (fun j _ => by rw [b1 0 (by omega)]) b2 (fun p _ => by rw [b1 18 (by omega)]) (fun p q1 q2 => by have : (N.drop k).P = N.P := rfl; omega) (by rw [b1 0 (by omega)]; exact s1))) (fun M3 hM => ?_)
    have hN3 : NetR M3 100 N := c2.of (hM.1 100 (by omega) (by omega) (by omega))
    unfold f_X12_drop
    refine r_isReach hN3 c3.1 (fun _ _ _ => ⟨fun _ => ?_, fun z => absurd z (by omega)⟩) (fun z => by omega)
    refine act_ref hS hM (fun r hr => ?_) (B := fun M4 Q1 => f_X12_removes (k : Int) M4 Q1) (fun M4 Q1 n4 s4 v4 kk => ?_) (fun M5 hSt hN5 => ?_)
    · exact h2.2.2.2 _ (skp_lt hk hr)
    · refine r_removes n4 c3.1 hk (fun M5 b1 b2 b3 => ?_)
      refine kk _ (fun c q1 q2 => b1.1 c q1 q2) (fun j q1 q2 => b1.2.1 j q1) b1.2.2 b3 (b2 2 (by omega) (by omega)) (fun p hp => b2 _ (by omega) (by omega)) (fun p q1 q2 => by have : (N.drop k).P = N.P := rfl; omega) (fun v hv => b2 _ (by omega) (by omega)) ?_
      rw [b1.2.1 46 (by omega), s4]
      exact h5
    · obtain ⟨A', F', W', H', K', hSt⟩ := hSt
      exact h _ _ hSt.sta
  · have hN1 : NetR (st M 94 2 (M 94 2 + 1)) 100 N := c2.of (st_o (by omega))
    unfold f_X12_drop
    exact r_isReach hN1 c3.1 (fun p hp e => by omega) (fun _ => ⟨fun z => absurd rfl z, fun _ => r_isRefused (k := 2) rfl (by omega) r3 (h _ _ r1.sta)⟩)
theorem q_turn {a : Int} (hS : StaF t M N n A F W H K) (ht : t ≤ 1000) {Q : Int → Int → Mem → Prop} (h : ∀ (r : Int) (M2 : Mem), Sta (t + 1) M2 → Q r r M2) : f_X11_turn a M (fun r M1 => f_X12_turn a M1 (fun r2 M2 => Q r r2 M2)) := by
  obtain ⟨⟨c1, c2, c3, c4, c5⟩, h2, h3, h4, h5, -⟩ := id hS
  have hP := c3.1.1
  obtain ⟨r1, r2, r3⟩ := hS.refuse (k := 3) (by omega) ht
  have hN1 : NetR (st M 94 3 (M 94 3 + 1)) 100 N := c2.of (st_o (by omega))
  have hfin : f_X12_isRefused 3 (st M 94 3 (M 94 3 + 1)) (fun r2 M2 => Q 0 r2 M2) := r_isRefused (k := 3) rfl (by omega) r3 (h _ _ r1.sta)
  have hbad : (∀ k : Nat, k < N.R → a = k → Rch (Ew N.R k) N.hd N.ft (N.hd k) (N.ft k)) → f_X11_refuse 3 M (fun r M1 => f_X12_turn a M1 (fun r2 M2 => Q 0 r2 M2)) := fun hh => x_refuse (k := 3) rfl (by omega) r2 (by
    unfold f_X12_turn
    exact r_canTurnIt hN1 c3.1 (fun k hk e hno => absurd (hh k hk e) hno) (fun k hk e _ => ⟨fun z => absurd rfl z, fun _ => hfin⟩) (fun _ => ⟨fun z => absurd rfl z, fun _ => hfin⟩))
  unfold f_X11_turn
  refine x_isReach c1 (fun k hk e => ?_) (fun hno => jn_use (P := fun J => J M) (hbad (fun k hk e => by omega)) (fun J hJ => ⟨fun _ => hJ, fun z => absurd rfl z⟩))
  subst e
  refine jn_use (P := fun J => Rch (Ew N.R k) N.hd N.ft (N.hd k) (N.ft k) → J M) (fun hy => hbad (fun k' hk' e => by rw [show k' = k by omega]; exact hy)) (fun J hJ => ⟨fun z => absurd z (by omega), fun _ => x_mayReverse c1 c3.1 hk (fun hno => ⟨fun _ => ?_, fun z => absurd z (by omega)⟩) (fun hy => ⟨fun z => absurd rfl z, fun _ => hJ hy⟩)⟩)
  have hG' := good_turn c3 hk hno
  refine act_class (s := M 0 16) (N' := N.turn k) hS (B := fun M1 Q1 => f_X5_reverse 12 (k : Int) M1 Q1) hG' (Nat.le_refl _) (fun M1 Q1 n1 s1 kk => x_reverse n1 c3.1 hk (fun M2 b1 b2 => kk M2 (fun c q1 q2 => b1 c (by omega)) (fun j _ => by rw [b1 0 (by omega)]) b2 (fun p _ => by rw [b1 18 (by omega)]) (fun p q1 q2 => by have : (N.turn k).P = N.P := rfl; omega) (by rw [b1 0 (by omega)]; exact s1))) (fun M3 hM => ?_)
  have hN3 : NetR M3 100 N := c2.of (hM.1 100 (by omega) (by omega) (by omega))
  unfold f_X12_turn
  refine r_canTurnIt hN3 c3.1 (fun k' hk' e hno' => ⟨fun _ => ?_, fun z => absurd z (by omega)⟩) (fun k' hk' e hy => ?_) (fun z => by omega)
  rotate_left
  · rw [show k' = k by omega] at hy; exact absurd hy hno
  refine act_ref hS hM (fun r hr => h2.2.2.2 r hr) (B := fun M4 Q1 => f_X12_turns (k : Int) M4 Q1) (fun M4 Q1 n4 s4 v4 kk => ?_) (fun M5 hSt hN5 => ?_)
  · refine r_turns n4 c3.1 hk (fun M5 b1 b2 b3 => ?_)
    refine kk _ (fun c q1 q2 => b1.1 c q1 q2) (fun j q1 q2 => b1.2.1 j q1) b1.2.2 b3 (b2 2 (by omega)) (fun p hp => b2 _ (by omega)) (fun p q1 q2 => by have : (N.turn k).P = N.P := rfl; omega) (fun v hv => b2 _ (by omega)) ?_
    rw [b1.2.1 46 (by omega), s4]
    exact h5
  · obtain ⟨A', F', W', H', K', hSt⟩ := hSt
    exact h _ _ hSt.sta
end
