/-! chance -/
section
variable {M : Mem} {N : Nt} {t n A F W : Nat} {H : Nat → Nt} {K : Nat → Nat → Int}
def ChX (M M' : Mem) (N N' : Nt) (x' : Nat) : Prop := (∀ c, c ≠ 0 → ¬ (12 ≤ c ∧ c ≤ 18) → M' c = M c) ∧ (∀ j, j ≠ 16 → M' 0 j = M 0 j) ∧ M' 0 16 = x' ∧ NetX M' 12 N' ∧ (∀ p, p < N.P → M' 18 p = M 18 p) ∧ (∀ p, N.P ≤ p → p < N'.P → M' 18 p = 0) ∧ N.P ≤ N'.P
theorem ChX.trans {M1 M2 M3 : Mem} {N1 N2 N3 : Nt} {x2 x3 : Nat} (h : ChX M1 M2 N1 N2 x2) (k : ChX M2 M3 N2 N3 x3) : ChX M1 M3 N1 N3 x3 := by
  obtain ⟨a1, a2, a3, a4, a5, a6, a7⟩ := h
  obtain ⟨b1, b2, b3, b4, b5, b6, b7⟩ := k
  refine ⟨fun c q1 q2 => by rw [b1 c q1 q2, a1 c q1 q2], fun j hj => by rw [b2 j hj, a2 j hj], b3, b4, fun p hp => by rw [b5 p (by omega), a5 p hp], fun p q1 q2 => ?_, by omega⟩
  rcases Nat.lt_or_ge p N2.P with z | z
  · rw [b5 p z]; exact a6 p q1 z
  · exact b6 p z q2
theorem x_act {x : Nat} (hN : NetX M 12 N) (hG : Good N) (hR : 0 < N.R) (hx : M 0 16 = x) {Q : Mem → Prop} (h : ∀ (M' : Mem) (N' : Nt) (x' : Nat), Stir N x N' x' → ChX M M' N N' x' → Q M') : f_X11_actByChance M Q := by
  have hR30 := hG.1.2.1
  have hP20 := hG.1.1
  obtain ⟨r, hr⟩ : ∃ r, r = nx (nx x) / 64 % N.R := ⟨_, rfl⟩
  have hrl : r < N.R := by rw [hr]; exact Nat.mod_lt _ hR
  have w := hG.1.2.2 r hrl
  unfold f_X11_actByChance
  refine x_draw (m := 4) hx (by omega) (by omega) ?_
  have hN1 : NetX (st M 0 16 (nx x : Int)) 12 N := hN.of (fun c _ _ => st_o (by omega))
  have hR1 : (st M 0 16 (nx x : Int)) 12 1 = (N.R : Int) := hN1.2.1
  rw [hR1]
  refine x_draw (m := N.R) (x := nx x) (by rw [st_s, if_pos rfl]) hR (by omega) ?_
  rw [← hr]
  obtain ⟨M1, hM1⟩ : ∃ M1 : Mem, M1 = st (st M 0 16 (nx x : Int)) 0 16 (nx (nx x) : Int) := ⟨_, rfl⟩
  rw [← hM1]
  have e1 : ∀ c, c ≠ 0 → M1 c = M c := fun c hc => by rw [hM1, st_o hc, st_o hc]
  have e2 : ∀ j, j ≠ 16 → M1 0 j = M 0 j := fun j hj => by rw [hM1, st_s, if_neg hj, st_s, if_neg hj]
  have e3 : M1 0 16 = (nx (nx x) : Int) := by rw [hM1, st_s, if_pos rfl]
  have hNN : NetX M1 12 N := hN.of (fun c _ _ => e1 c (by omega))
  obtain ⟨x1, x2, x3, x4, x5⟩ := hNN.2.2 r hrl
  have hstay : ∀ M2 : Mem, ∀ y : Nat, (∀ c, c ≠ 0 → M2 c = M c) → (∀ j, j ≠ 16 → M2 0 j = M 0 j) → M2 0 16 = y → ChX M M2 N N y := fun M2 y a b c => ⟨fun q q1 _ => a q q1, b, c, hN.of (fun q _ _ => a q (by omega)), fun p _ => by rw [a 18 (by omega)], fun p q1 q2 => by omega, Nat.le_refl _⟩
  have hmv : ∀ (M2 M3 : Mem) (N' : Nt) (y : Nat), (∀ c, c ≠ 0 → M2 c = M c) → (∀ j, j ≠ 16 → M2 0 j = M 0 j) → M2 0 16 = y → (∀ c, c < 12 ∨ 17 < c → M3 c = M2 c) → NetX M3 12 N' → N'.P = N.P → ChX M M3 N N' y := fun M2 M3 N' y a b c d e f => ⟨fun q q1 q2 => by rw [d q (by omega), a q q1], fun j hj => by rw [d 0 (by omega), b j hj], by rw [d 0 (by omega)]; exact c, e, fun p _ => by rw [d 18 (by omega), a 18 (by omega)], fun p q1 q2 => by omega, by omega⟩
  refine ⟨fun c => ?_, fun c => ?_, fun c => ?_, fun c => ?_⟩
  · refine x_mayReverse hNN hG.1 hrl (fun hno => ⟨fun z => absurd z (by omega), fun _ => x_reverse hNN hG.1 hrl (fun M3 b1 b2 => ?_)⟩) (fun hy => ⟨fun _ => ?_, fun z => absurd rfl z⟩)
    · exact h _ _ _ ⟨r, hr, Or.inl ⟨by omega, rfl, Or.inl ⟨hno, rfl⟩⟩⟩ (hmv M1 M3 _ _ e1 e2 e3 b1 b2 rfl)
    · exact h _ _ _ ⟨r, hr, Or.inl ⟨by omega, rfl, Or.inr ⟨hy, rfl⟩⟩⟩ (hstay M1 _ e1 e2 e3)
  · refine x_draw (m := 100) e3 (by omega) (by omega) ⟨by omega, ?_⟩
    rintro _ rfl
    rw [tn]
    have f1 : ∀ q, q ≠ 0 → st M1 0 16 (nx (nx (nx x)) : Int) q = M q := fun q hq => by rw [st_o hq]; exact e1 q hq
    refine h _ _ _ ⟨r, hr, Or.inr (Or.inl ⟨by omega, rfl, rfl⟩)⟩ (hmv (st M1 0 16 (nx (nx (nx x)) : Int)) _ _ _ f1 (fun j hj => by rw [st_s, if_neg hj]; exact e2 j hj) (by rw [st_s, if_pos rfl]) (fun q hq => st_o (by omega)) (x_give (hN.of (fun q _ _ => f1 q (by omega)))) rfl)
  · have e15 : M1 15 r = N.ln r := x3
    refine ⟨by omega, ?_⟩
    rw [tn, e15, Int.tdiv_eq_ediv_of_nonneg (by omega)]
    refine x_maySplit hNN hG.1 (fun k hk ek l1 l2 hP hR' => ⟨fun z => absurd z (by omega), fun _ => ?_⟩) (fun hno => ⟨fun _ => ?_, fun z => absurd rfl z⟩)
    · refine x_splitReach hNN hG.1 hrl hP hR' l1 (by omega) (fun M3 b1 b2 b3 b4 => ?_)
      refine h _ _ _ ⟨r, hr, Or.inr (Or.inr (Or.inl ⟨by omega, rfl, Or.inl ⟨⟨l1, hP, hR'⟩, rfl⟩⟩))⟩ ⟨fun q q1 q2 => by rw [b1 q q2, e1 q q1], fun j hj => by rw [b1 0 (by omega), e2 j hj], by rw [b1 0 (by omega)]; exact e3, b2, fun p hp => by rw [b3 p hp, e1 18 (by omega)], fun p q1 q2 => ?_, Nat.le_succ _⟩
      have : p < N.P + 1 := q2
      rw [show p = N.P by omega]; exact b4
    · exact h _ _ _ ⟨r, hr, Or.inr (Or.inr (Or.inl ⟨by omega, rfl, Or.inr ⟨fun z => hno ⟨r, hrl, rfl, z.1, by omega, z.2⟩, rfl⟩⟩))⟩ (hstay M1 _ e1 e2 e3)
  · have hc3 : nx x / 64 % 4 = 3 := by omega
    have hP0 : M1 12 0 = (N.P : Int) := hNN.1
    rw [hP0]
    refine x_draw (m := N.P) e3 (by omega) (by omega) ⟨by omega, ?_⟩
    obtain ⟨to, hto⟩ : ∃ to, to = nx (nx (nx x)) / 64 % N.P := ⟨_, rfl⟩
    have htl : to < N.P := by rw [hto]; exact Nat.mod_lt _ (by omega)
    rw [← hto, tn]
    have f1 : ∀ q, q ≠ 0 → st M1 0 16 (nx (nx (nx x)) : Int) q = M q := fun q hq => by rw [st_o hq]; exact e1 q hq
    have f2 : ∀ j, j ≠ 16 → st M1 0 16 (nx (nx (nx x)) : Int) 0 j = M 0 j := fun j hj => by rw [st_s, if_neg hj]; exact e2 j hj
    have f3 : st M1 0 16 (nx (nx (nx x)) : Int) 0 16 = (nx (nx (nx x)) : Int) := by rw [st_s, if_pos rfl]
    have hN3 : NetX (st M1 0 16 (nx (nx (nx x)) : Int)) 12 N := hN.of (fun q _ _ => f1 q (by omega))
    have e14 : st M1 0 16 (nx (nx (nx x)) : Int) 14 r = N.ft r := (hN3.2.2 r hrl).2.1
    rw [e14]
    refine x_mayLay hN3 hG.1 (fun a b ha hb ea eb hR' _ _ _ _ hno => ⟨fun z => absurd z (by omega), fun _ => x_lay hN3 hR' (fun M3 b1 b2 => ?_)⟩) (fun hno => ⟨fun _ => ?_, fun z => absurd rfl z⟩)
    · rw [show a = N.ft r by omega, show b = to by omega] at hno
      exact h _ _ _ ⟨r, hr, Or.inr (Or.inr (Or.inr ⟨hc3, rfl, Or.inl ⟨⟨hR', by rw [← hto]; exact hno⟩, rfl⟩⟩))⟩ (hmv _ M3 _ _ f1 f2 f3 b1 (by rw [← hto]; exact b2) rfl)
    · refine h _ _ _ ⟨r, hr, Or.inr (Or.inr (Or.inr ⟨hc3, rfl, Or.inr ⟨fun z => hno ⟨N.ft r, to, w.2.1, htl, rfl, rfl, z.1, by omega, by rw [hto]; exact z.2⟩, rfl⟩⟩))⟩ (hstay _ _ f1 f2 f3)
def ChR (M M' : Mem) (N N' : Nt) (x' : Nat) : Prop := (∀ c, c ≠ 100 → c ≠ 95 → M' c = M c) ∧ (∀ j, j ≠ 15 → j ≠ 46 → M' 95 j = M 95 j) ∧ M' 95 15 = 0 ∧ M' 95 46 = x' ∧ NetR M' 100 N' ∧ M' 100 2 = M 100 2 ∧ (∀ p, p < N.P → M' 100 (3 + p) = M 100 (3 + p)) ∧ (∀ p, N.P ≤ p → p < N'.P → M' 100 (3 + p) = 0) ∧ (∀ v, v < 10 → M' 100 (23 + v) = M 100 (23 + v)) ∧ N.P ≤ N'.P
theorem ChR.trans {M1 M2 M3 : Mem} {N1 N2 N3 : Nt} {x2 x3 : Nat} (h : ChR M1 M2 N1 N2 x2) (k : ChR M2 M3 N2 N3 x3) : ChR M1 M3 N1 N3 x3 := by
  obtain ⟨a1, a2, a3, a4, a5, a6, a7, a8, a9, a10⟩ := h
  obtain ⟨b1, b2, b3, b4, b5, b6, b7, b8, b9, b10⟩ := k
  refine ⟨fun c q1 q2 => by rw [b1 c q1 q2, a1 c q1 q2], fun j q1 q2 => by rw [b2 j q1 q2, a2 j q1 q2], b3, b4, b5, by rw [b6, a6], fun p hp => by rw [b7 p (by omega), a7 p hp], fun p q1 q2 => ?_, fun v hv => by rw [b9 v hv, a9 v hv], by omega⟩
  rcases Nat.lt_or_ge p N2.P with z | z
  · rw [b7 p z]; exact a8 p q1 z
  · exact b8 p z q2
theorem r_stirs {x : Nat} (hN : NetR M 100 N) (hG : Good N) (hR : 0 < N.R) (hx : M 95 46 = x) (hx2 : x < 2147483648) {Q : Mem → Prop} (h : ∀ (M' : Mem) (N' : Nt) (x' : Nat), Stir N x N' x' → ChR M M' N N' x' → Q M') : f_X12_stirs M Q := by
  have hR30 := hG.1.2.1
  have hP20 := hG.1.1
  obtain ⟨r, hr⟩ : ∃ r, r = nx (nx x) / 64 % N.R := ⟨_, rfl⟩
  have hrl : r < N.R := by rw [hr]; exact Nat.mod_lt _ hR
  have w := hG.1.2.2 r hrl
  unfold f_X12_stirs
  refine r_drawOf (m := 4) hx hx2 (by omega) (by omega) ?_
  have hN1 : NetR (st M 95 46 (nx x : Int)) 100 N := hN.of (st_o (by omega))
  refine r_reaches hN1 (r_drawOf (m := N.R) (x := nx x) (by rw [st_s, if_pos rfl]) (nx_lt _) hR (by omega) ?_)
  rw [← hr]
  obtain ⟨M1, hM1⟩ : ∃ M1 : Mem, M1 = st (st M 95 46 (nx x : Int)) 95 46 (nx (nx x) : Int) := ⟨_, rfl⟩
  rw [← hM1]
  have e1 : ∀ c, c ≠ 95 → M1 c = M c := fun c hc => by rw [hM1, st_o hc, st_o hc]
  have e2 : ∀ j, j ≠ 46 → M1 95 j = M 95 j := fun j hj => by rw [hM1, st_s, if_neg hj, st_s, if_neg hj]
  have e3 : M1 95 46 = (nx (nx x) : Int) := by rw [hM1, st_s, if_pos rfl]
  have hNN : NetR M1 100 N := hN.of (e1 100 (by omega))
  refine jn_use (P := fun J => ∀ (M2 : Mem) (N' : Nt) (x' : Nat), Stir N x N' x' → (∀ c, c ≠ 100 → c ≠ 95 → M2 c = M c) → (∀ j, j ≠ 15 → j ≠ 46 → M2 95 j = M 95 j) → M2 95 46 = x' → NetR M2 100 N' → M2 100 2 = M 100 2 → (∀ p, p < N.P → M2 100 (3 + p) = M 100 (3 + p)) → (∀ p, N.P ≤ p → p < N'.P → M2 100 (3 + p) = 0) → (∀ v, v < 10 → M2 100 (23 + v) = M 100 (23 + v)) → N.P ≤ N'.P → J M2) ?_ ?_
  · intro M2 N' x' hs a1 a2 a3 a4 a5 a6 a7 a8 a9
    unfold f_X12_isOther
    rintro _ rfl
    exact h _ N' x' hs ⟨fun c q1 q2 => by rw [st_o q2]; exact a1 c q1 q2, fun j q1 q2 => by rw [st_s, if_neg q1]; exact a2 j q1 q2, by rw [st_s, if_pos rfl], by rw [st_s, if_neg (by omega)]; exact a3, a4.of (st_o (by omega)), by rw [st_o (by omega)]; exact a5, fun p hp => by rw [st_o (by omega)]; exact a6 p hp, fun p q1 q2 => by rw [st_o (by omega)]; exact a7 p q1 q2, fun v hv => by rw [st_o (by omega)]; exact a8 v hv, a9⟩
  · intro J hJ
    have hstay : ∀ (M2 : Mem) (y : Nat), Stir N x N y → (∀ c, c ≠ 95 → M2 c = M c) → (∀ j, j ≠ 46 → M2 95 j = M 95 j) → M2 95 46 = y → J M2 := fun M2 y hs a b c => hJ M2 N y hs (fun q _ q2 => a q q2) (fun j _ q2 => b j q2) c (hN.of (a 100 (by omega))) (by rw [a 100 (by omega)]) (fun p _ => by rw [a 100 (by omega)]) (fun p q1 q2 => by omega) (fun v _ => by rw [a 100 (by omega)]) (Nat.le_refl _)
    refine ⟨fun c => ?_, fun c => ?_, fun c => ?_, fun c => ?_⟩
    · refine r_canTurnIt hNN hG.1 (fun k hk ek hno => ⟨fun z => absurd z (by omega), fun _ => r_turns hNN hG.1 hrl (fun M3 b1 b2 b3 => ?_)⟩) (fun k hk ek hy => ⟨fun _ => ?_, fun z => absurd rfl z⟩) (fun z => by omega)
      · rw [show k = r by omega] at hno
        exact hJ M3 _ _ ⟨r, hr, Or.inl ⟨by omega, rfl, Or.inl ⟨hno, rfl⟩⟩⟩ (fun q q1 q2 => by rw [b1.1 q q1 q2, e1 q q2]) (fun j q1 q2 => by rw [b1.2.1 j q1, e2 j q2]) (by rw [b1.2.1 46 (by omega)]; exact e3) b3 (by rw [b2 2 (by omega), e1 100 (by omega)]) (fun p hp => by rw [b2 _ (by omega), e1 100 (by omega)]) (fun p q1 q2 => by have : (N.turn r).P = N.P := rfl; omega) (fun v hv => by rw [b2 _ (by omega), e1 100 (by omega)]) (Nat.le_refl _)
      · rw [show k = r by omega] at hy
        exact hstay M1 _ ⟨r, hr, Or.inl ⟨by omega, rfl, Or.inr ⟨hy, rfl⟩⟩⟩ e1 e2 e3
    · refine r_reachAt (k := 3) (by omega) (by omega) (r_drawOf (m := 100) e3 (nx_lt _) (by omega) (by omega) ⟨by omega, ?_⟩)
      rintro _ rfl
      rw [tn]
      have f1 : ∀ q, q ≠ 95 → st M1 95 46 (nx (nx (nx x)) : Int) q = M q := fun q hq => by rw [st_o hq]; exact e1 q hq
      have hg := r_give (k := r) (v := ((nx (nx (nx x)) / 64 % 100 : Nat) : Int)) (hN.of (f1 100 (by omega)))
      exact hJ _ _ _ ⟨r, hr, Or.inr (Or.inl ⟨by omega, rfl, rfl⟩)⟩ (fun q q1 q2 => by rw [st_o q1, f1 q q2]) (fun j q1 q2 => by rw [st_o (by omega), st_s, if_neg q2, e2 j q2]) (by rw [st_o (by omega), st_s, if_pos rfl]) hg (by rw [st_s, if_neg (by omega), f1 100 (by omega)]) (fun p hp => by rw [st_s, if_neg (by omega), f1 100 (by omega)]) (fun p q1 q2 => by have : (N.give r ((nx (nx (nx x)) / 64 % 100 : Nat) : Int)).P = N.P := rfl; omega) (fun v hv => by rw [st_s, if_neg (by omega), f1 100 (by omega)]) (Nat.le_refl _)
    · refine r_ln hNN hG.1 hrl ?_
      rw [Int.tdiv_eq_ediv_of_nonneg (by omega)]
      refine r_canCut hNN hG.1 (fun k hk ek l1 l2 hP hR' => ⟨fun z => absurd z (by omega), fun _ => r_ln hNN hG.1 hrl ?_⟩) (fun hno => ⟨fun _ => ?_, fun z => absurd rfl z⟩)
      · rw [Int.tdiv_eq_ediv_of_nonneg (by omega)]
        refine r_cuts hNN hG.1 hrl hP hR' l1 (by omega) (fun M3 b1 b2 b3 b4 => ?_)
        refine hJ M3 _ _ ⟨r, hr, Or.inr (Or.inr (Or.inl ⟨by omega, rfl, Or.inl ⟨⟨l1, hP, hR'⟩, rfl⟩⟩))⟩ (fun q q1 q2 => by rw [b1.1 q q1 q2, e1 q q2]) (fun j q1 q2 => by rw [b1.2.1 j q1, e2 j q2]) (by rw [b1.2.1 46 (by omega)]; exact e3) b4 (by rw [b2 2 (by omega) (by omega) (by omega) (by omega), e1 100 (by omega)]) (fun p hp => by rw [b2 _ (by omega) (by omega) (by omega) (by omega), e1 100 (by omega)]) (fun p q1 q2 => ?_) (fun v hv => by rw [b2 _ (by omega) (by omega) (by omega) (by omega), e1 100 (by omega)]) (Nat.le_succ _)
        have : p < N.P + 1 := q2
        rw [show p = N.P by omega]; exact b3
      · exact hstay M1 _ ⟨r, hr, Or.inr (Or.inr (Or.inl ⟨by omega, rfl, Or.inr ⟨fun z => hno ⟨r, hrl, rfl, z.1, by omega, z.2⟩, rfl⟩⟩))⟩ e1 e2 e3
    · have hc3 : nx x / 64 % 4 = 3 := by omega
      refine r_places hNN (r_drawOf (m := N.P) e3 (nx_lt _) (by omega) (by omega) ?_)
      obtain ⟨to, hto⟩ : ∃ to, to = nx (nx (nx x)) / 64 % N.P := ⟨_, rfl⟩
      have htl : to < N.P := by rw [hto]; exact Nat.mod_lt _ (by omega)
      rw [← hto]
      have f1 : ∀ q, q ≠ 95 → st M1 95 46 (nx (nx (nx x)) : Int) q = M q := fun q hq => by rw [st_o hq]; exact e1 q hq
      have f2 : ∀ j, j ≠ 46 → st M1 95 46 (nx (nx (nx x)) : Int) 95 j = M 95 j := fun j hj => by rw [st_s, if_neg hj]; exact e2 j hj
      have f3 : st M1 95 46 (nx (nx (nx x)) : Int) 95 46 = (nx (nx (nx x)) : Int) := by rw [st_s, if_pos rfl]
      have hN3 : NetR (st M1 95 46 (nx (nx (nx x)) : Int)) 100 N := hN.of (f1 100 (by omega))
      refine r_ft hN3 hG.1 hrl (r_canAdd hN3 hG.1 (fun a b ha hb ea eb hR' hno => ⟨fun z => absurd z (by omega), fun _ => r_ft hN3 hG.1 hrl (r_lay rfl hN3 hR' (fun M3 b1 b2 b3 => ?_))⟩) (fun hno => ⟨fun _ => ?_, fun z => absurd rfl z⟩))
      · rw [show a = N.ft r by omega, show b = to by omega] at hno
        exact hJ M3 _ _ ⟨r, hr, Or.inr (Or.inr (Or.inr ⟨hc3, rfl, Or.inl ⟨⟨hR', by rw [← hto]; exact hno⟩, rfl⟩⟩))⟩ (fun q q1 q2 => by rw [b1 q q1, f1 q q2]) (fun j q1 q2 => by rw [b1 95 (by omega), f2 j q2]) (by rw [b1 95 (by omega)]; exact f3) (by rw [← hto]; exact b3) (by rw [b2 2 (by omega) (by omega), f1 100 (by omega)]) (fun p hp => by rw [b2 _ (by omega) (by omega), f1 100 (by omega)]) (fun p q1 q2 => by have : (N.add (N.ft r) (nx (nx (nx x)) / 64 % N.P) 10 0 (-1)).P = N.P := rfl; omega) (fun v hv => by rw [b2 _ (by omega) (by omega), f1 100 (by omega)]) (Nat.le_refl _)
      · exact hstay _ _ ⟨r, hr, Or.inr (Or.inr (Or.inr ⟨hc3, rfl, Or.inr ⟨fun z => hno ⟨N.ft r, to, w.2.1, htl, rfl, rfl, z.1, by rw [hto]; exact z.2⟩, rfl⟩⟩))⟩ f1 f2 f3
theorem q_chance {a : Int} (hS : StaF t M N n A F W H K) (ht : t ≤ 1000) {Q : Int → Int → Mem → Prop} (h : ∀ (r : Int) (M2 : Mem), Sta (t + 1) M2 → Q r r M2) : f_X11_chance a M (fun r M1 => f_X12_chance a M1 (fun r2 M2 => Q r r2 M2)) := by
  obtain ⟨⟨c1, c2, c3, c4, c5⟩, h2, h3, h4, h5, -⟩ := id hS
  have hR30 := c3.1.2.1
  obtain ⟨r1, r2, r3⟩ := hS.refuse (k := 3) (by omega) ht
  have hN1 : NetR (st M 94 3 (M 94 3 + 1)) 100 N := c2.of (st_o (by omega))
  have hfin : f_X12_refuses 3 (st M 94 3 (M 94 3 + 1)) (fun r2 M2 => Q (-1) r2 M2) := r_refuses (k := 3) rfl (by omega) r3 (h _ _ r1.sta)
  have hbad : ¬ (1 ≤ a ∧ a ≤ 40 ∧ 0 < N.R) → f_X11_refuse 3 M (fun r M1 => f_X12_chance a M1 (fun r2 M2 => Q r r2 M2)) := fun hh => x_refuse (k := 3) rfl (by omega) r2 (by
    unfold f_X12_chance
    exact r_isIn (fun z1 z2 => jn_use (P := fun J => J (st M 94 3 (M 94 3 + 1))) hfin (fun J hJ => ⟨fun _ => hJ, fun _ => r_reaches hN1 ⟨fun z => absurd ⟨z1, z2, by omega⟩ hh, fun _ => hJ⟩⟩)) (fun _ => jn_use (P := fun J => J (st M 94 3 (M 94 3 + 1))) hfin (fun J hJ => ⟨fun _ => hJ, fun z => absurd rfl z⟩)))
  unfold f_X11_chance
  refine jn_use (P := fun J => ¬ (1 ≤ a ∧ a ≤ 40 ∧ 0 < N.R) → J M) hbad (fun J hJ => ?_)
  rw [c1.2.1]
  refine ⟨fun z => hJ (by omega), fun g1 => ⟨fun z => hJ (by omega), fun g2 => ⟨fun g3 => ?_, fun z => hJ (by omega)⟩⟩⟩
  have hR : 0 < N.R := by omega
  obtain ⟨m, rfl⟩ : ∃ m : Nat, a = m := ⟨a.toNat, by omega⟩
  obtain ⟨s1, s2, s3⟩ := h5
  obtain ⟨x, hx⟩ : ∃ x : Nat, M 95 46 = x := ⟨(M 95 46).toNat, by omega⟩
  have hxl : x < 2147483648 := by omega
  obtain ⟨N', x', hst⟩ := StirN.ex N x m
  obtain ⟨u1, u2, u3, u4, u5⟩ := StirN.good c3 hR h2.2.1 h2.2.2.2 hxl hst
  refine act_class (s := (x' : Int)) (N' := N') hS (B := fun M1 Q1 => jn (τ := Mem → Prop) Q1 (fun J48 => wl2 (X11_chance_b33 (m : Int) J48) 5000 0 M1)) u1 u2 (fun M1 Q1 n1 q1 kk => ?_) (fun M3 hM => ?_)
  · refine jn_use (P := fun J => ∀ M2 : Mem, ChX M1 M2 N N' x' → J M2) (fun M2 hc => kk M2 hc.1 hc.2.1 hc.2.2.2.1 hc.2.2.2.2.1 hc.2.2.2.2.2.1 hc.2.2.1) (fun J' hJ' => ?_)
    refine wl2_inv (I := fun (v : Int) (M2 : Mem) => ∃ (k : Nat) (N2 : Nt) (y : Nat), v = k ∧ k ≤ m ∧ StirN N x k N2 y ∧ ChX M1 M2 N N2 y) (μ := fun (v : Int) (_ : Mem) => m - v.toNat) ?_ 5000 _ _ ⟨0, N, x, rfl, by omega, ⟨rfl, rfl⟩, fun c _ _ => rfl, fun j _ => rfl, by rw [q1, s1, hx], n1, fun p _ => rfl, fun p z1 z2 => by omega, Nat.le_refl _⟩ (by simp; omega)
    rintro rec v M2 ⟨k, N2, y, rfl, hk, hs, hc⟩ hrec
    unfold X11_chance_b33
    refine ⟨fun d => ?_, fun d => ?_⟩
    · have e : k = m := by omega
      subst e
      obtain ⟨e1, e2⟩ := hs.uniq hst
      subst e1; subst e2
      exact hJ' M2 hc
    · obtain ⟨w1, w2, w3, w4, w5⟩ := StirN.good c3 hR h2.2.1 h2.2.2.2 hxl hs
      refine x_act hc.2.2.2.1 w1 w3 hc.2.2.1 (fun M4 N4 x4 k1 k2 => ⟨by unfold inR; omega, ?_⟩)
      rintro _ rfl
      exact hrec _ _ ⟨k + 1, N4, x4, by omega, by omega, ⟨N2, y, hs, k1⟩, hc.trans k2⟩ (by omega)
  · have hN3 : NetR M3 100 N := c2.of (hM.1 100 (by omega) (by omega) (by omega))
    have e12 : M3 12 1 = (N'.R : Int) := hM.2.2.1.2.1
    rw [e12]
    unfold f_X12_chance
    refine r_isIn (fun _ _ => jn_use (P := fun _ => True) trivial (fun J _ => ⟨fun z => absurd z (by omega), fun _ => r_reaches hN3 ⟨fun _ => ?_, fun z => by omega⟩⟩)) (fun z => by omega)
    refine act_ref hS hM u4 (B := fun M4 Q1 => jn (τ := Mem → Prop) Q1 (fun J46 => wl2 (X12_chance_b31 (m : Int) J46) 5000 0 M4)) (fun M4 Q1 n4 s4 v4 kk => ?_) (fun M5 hSt hN5 => ?_)
    · refine jn_use (P := fun J => ∀ M5 : Mem, ChR M4 M5 N N' x' → J M5) (fun M5 hc => kk M5 hc.1 hc.2.1 hc.2.2.1 hc.2.2.2.2.1 hc.2.2.2.2.2.1 hc.2.2.2.2.2.2.1 hc.2.2.2.2.2.2.2.1 hc.2.2.2.2.2.2.2.2.1 ?_) (fun J' hJ' => ?_)
      · rw [hc.2.2.2.1]; exact ⟨rfl, by omega, by omega⟩
      · refine wl2_inv (I := fun (v : Int) (M5 : Mem) => ∃ (k : Nat) (N2 : Nt) (y : Nat), v = k ∧ k ≤ m ∧ StirN N x k N2 y ∧ ((k = 0 ∧ M5 = M4) ∨ ChR M4 M5 N N2 y)) (μ := fun (v : Int) (_ : Mem) => m - v.toNat) ?_ 5000 _ _ ⟨0, N, x, rfl, by omega, ⟨rfl, rfl⟩, Or.inl ⟨rfl, rfl⟩⟩ (by simp; omega)
        rintro rec v M5 ⟨k, N2, y, rfl, hk, hs, hc⟩ hrec
        unfold X12_chance_b31
        refine ⟨fun d => ?_, fun d => ?_⟩
        · have e : k = m := by omega
          subst e
          obtain ⟨e1, e2⟩ := hs.uniq hst
          subst e1; subst e2
          rcases hc with ⟨z, -⟩ | hc
          · omega
          · exact hJ' M5 hc
        · obtain ⟨w1, w2, w3, w4, w5⟩ := StirN.good c3 hR h2.2.1 h2.2.2.2 hxl hs
          have hNy : NetR M5 100 N2 ∧ M5 95 46 = y := by
            rcases hc with ⟨z1, z2⟩ | hc
            · subst z1
              obtain ⟨e1, e2⟩ := hs
              rw [z2, e1, e2]
              exact ⟨n4, by rw [s4, hx]⟩
            · exact ⟨hc.2.2.2.2.1, hc.2.2.2.1⟩
          refine r_stirs hNy.1 w1 w3 hNy.2 w5 (fun M6 N4 x4 k1 k2 => ⟨by unfold inR; omega, ?_⟩)
          rintro _ rfl
          refine hrec _ _ ⟨k + 1, N4, x4, by omega, by omega, ⟨N2, y, hs, k1⟩, Or.inr ?_⟩ (by omega)
          rcases hc with ⟨z1, z2⟩ | hc
          · subst z1
            obtain ⟨e1, e2⟩ := hs
            rw [z2, e1] at k2
            exact k2
          · exact hc.trans k2
    · refine r_reaches hN5 ?_
      obtain ⟨A', F', W', H', K', hSt⟩ := hSt
      exact h _ _ hSt.sta
end
