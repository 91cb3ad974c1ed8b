/-! on -/
def ibn (B : Nat → Int) : Nat → Nt
  | 0 => ((B 0).toNat, 0, fun _ => 0, fun _ => 0, fun _ => 0, fun _ => 0, fun _ => 0)
  | j + 1 => (ibn B j).add (B (2 + 5 * j)).toNat (B (2 + 5 * j + 1)).toNat (B (2 + 5 * j + 2)) (B (2 + 5 * j + 3)) (if B (2 + 5 * j + 4) = 255 then -1 else B (2 + 5 * j + 4))
theorem ibn_P (B : Nat → Int) : ∀ j, (ibn B j).P = (B 0).toNat
  | 0 => rfl
  | j + 1 => ibn_P B j
theorem ibn_R (B : Nat → Int) : ∀ j, (ibn B j).R = j
  | 0 => rfl
  | j + 1 => by
    show (ibn B j).R + 1 = j + 1
    rw [ibn_R B j]
def StpOk (B : Nat → Int) (V : Int) (j : Nat) : Prop := B (2 + 5 * j) < B 0 ∧ B (2 + 5 * j + 1) < B 0 ∧ (1 ≤ B (2 + 5 * j + 2) ∧ B (2 + 5 * j + 2) ≤ 99) ∧ B (2 + 5 * j + 3) ≤ 99 ∧ (B (2 + 5 * j + 4) = 255 ∨ B (2 + 5 * j + 4) < V) ∧ ¬ Rch (Ew (ibn B j).R (-1)) (ibn B j).hd (ibn B j).ft (B (2 + 5 * j + 1)).toNat (B (2 + 5 * j)).toNat
def HdOk (B : Nat → Int) (T : Nat) : Prop := 3 ≤ T ∧ (1 ≤ B 0 ∧ B 0 ≤ 20) ∧ B 1 ≤ 30 ∧ (T : Int) = 3 + 5 * B 1 ∧ B (T - 1) = chk B (T - 1)
def ImOk (B : Nat → Int) (V : Int) (T : Nat) : Prop := HdOk B T ∧ ∀ j : Nat, (j : Int) < B 1 → StpOk B V j
theorem ibn_good {B : Nat → Int} {V : Int} {T : Nat} (hH : HdOk B T) (hV : 0 ≤ V ∧ V ≤ 10) (hb : ∀ k, k < T → 0 ≤ B k ∧ B k ≤ 255) : ∀ {j : Nat}, (j : Int) ≤ B 1 → (∀ i, i < j → StpOk B V i) → Good (ibn B j) ∧ ∀ r, r < j → (ibn B j).rv r < V
  | 0, _, _ => ⟨⟨⟨by rw [ibn_P]; have := hH.2.1; omega, by rw [ibn_R]; omega, fun r hr => by rw [ibn_R] at hr; omega⟩, fun _ => 0, fun r hr => by have := hr.1; rw [ibn_R] at this; omega⟩, fun r hr => by omega⟩
  | j + 1, hj, h => by
    obtain ⟨ih1, ih2⟩ := ibn_good hH hV hb (j := j) (by omega) (fun i hi => h i (by omega))
    obtain ⟨s1, s2, s3, s4, s5, s6⟩ := h j (by omega)
    obtain ⟨d1, d2, d3, d4, d5⟩ := hH
    have b0 := hb (2 + 5 * j) (by omega)
    have b1 := hb (2 + 5 * j + 1) (by omega)
    have b3 := hb (2 + 5 * j + 3) (by omega)
    have b4 := hb (2 + 5 * j + 4) (by omega)
    have hv : -1 ≤ (if B (2 + 5 * j + 4) = 255 then (-1 : Int) else B (2 + 5 * j + 4)) ∧ (if B (2 + 5 * j + 4) = 255 then (-1 : Int) else B (2 + 5 * j + 4)) < V := by
      split <;> omega
    refine ⟨good_add ih1 (by rw [ibn_P]; omega) (by rw [ibn_P]; omega) (by rw [ibn_R]; omega) s3 (by omega) (by omega) s6, fun r hr => ?_⟩
    show (if r = (ibn B j).R then (if B (2 + 5 * j + 4) = 255 then (-1 : Int) else B (2 + 5 * j + 4)) else (ibn B j).rv r) < V
    rw [ibn_R]
    by_cases z : r = j
    · rw [if_pos z]; exact hv.2
    · rw [if_neg z]; exact ih2 r (by omega)
section
variable {M : Mem} {N : Nt} {t n A F W : Nat} {H : Nat → Nt} {K : Nat → Nat → Int} {B : Nat → Int} {T : Nat} {V : Int}
def Bt (M : Mem) (B : Nat → Int) (T : Nat) : Prop := M 1 1 = T ∧ T ≤ 1600 ∧ ∀ k : Nat, k < T → bAnd (M 2 k) 255 = B k ∧ 0 ≤ B k ∧ B k ≤ 255
theorem Bt.of {M' : Mem} (h : Bt M B T) (e1 : M' 1 = M 1) (e2 : M' 2 = M 2) : Bt M' B T := by
  unfold Bt at *
  rw [e1, e2]
  exact h
theorem b_at {k : Nat} (hB : Bt M B T) (hk : k < T) {v : Int} (hv : v = k) {Q : Int → Prop} (h : Q (B k)) : f_X10_at v M Q := by
  obtain ⟨h1, h2, h3⟩ := hB
  unfold f_X10_at
  rw [hv, h1, tn]
  refine ⟨fun c => by omega, fun c => ⟨fun c1 => by omega, fun c1 => ⟨by omega, ?_⟩⟩⟩
  rw [(h3 k hk).1]
  exact h
theorem b_no {v : Int} (hB : Bt M B T) (hv : v < 0 ∨ (T : Int) ≤ v) {Q : Int → Prop} (h : Q (-1)) : f_X10_at v M Q := by
  obtain ⟨h1, h2, h3⟩ := hB
  unfold f_X10_at
  rw [h1]
  exact ⟨fun _ => h, fun c => ⟨fun _ => h, fun c1 => by omega⟩⟩
theorem x_readReach {j : Nat} (hB : Bt M B T) (hH : HdOk B T) (hV : 0 ≤ V ∧ V ≤ 10) (hj : (j : Int) < B 1) (hs : ∀ i, i < j → StpOk B V i) (hN : NetX M 72 (ibn B j)) {Q : Int → Mem → Prop} (h1 : StpOk B V j → ∀ M' : Mem, (∀ c, c < 72 ∨ 77 < c → M' c = M c) → NetX M' 72 (ibn B (j + 1)) → Q 1 M') (h0 : ¬ StpOk B V j → Q 0 M) {v : Int} (hv : v = 2 + 5 * (j : Int)) : f_X4_readReach v 72 V M Q := by
  have hb : ∀ k, k < T → 0 ≤ B k ∧ B k ≤ 255 := fun k hk => (hB.2.2 k hk).2
  obtain ⟨hG, -⟩ := ibn_good hH hV hb (j := j) (by omega) hs
  obtain ⟨d1, d2, d3, d4, d5⟩ := id hH
  have b0 := hb (2 + 5 * j) (by omega)
  have b1 := hb (2 + 5 * j + 1) (by omega)
  have b2 := hb (2 + 5 * j + 2) (by omega)
  have b3 := hb (2 + 5 * j + 3) (by omega)
  have b4 := hb (2 + 5 * j + 4) (by omega)
  unfold f_X4_readReach
  refine ⟨by unfold inR; omega, b_at (k := 2 + 5 * j + 4) hB (by omega) (by omega) ?_⟩
  have a0 : ∀ Q : Int → Prop, Q (B (2 + 5 * j)) → f_X10_at v M Q := fun Q hQ => b_at (k := 2 + 5 * j) hB (by omega) (by omega) hQ
  have a1 : ∀ Q : Int → Prop, Q (B (2 + 5 * j + 1)) → f_X10_at (v + 1) M Q := fun Q hQ => b_at (k := 2 + 5 * j + 1) hB (by omega) (by omega) hQ
  have a2 : ∀ Q : Int → Prop, Q (B (2 + 5 * j + 2)) → f_X10_at (v + 2) M Q := fun Q hQ => b_at (k := 2 + 5 * j + 2) hB (by omega) (by omega) hQ
  have a3 : ∀ Q : Int → Prop, Q (B (2 + 5 * j + 3)) → f_X10_at (v + 3) M Q := fun Q hQ => b_at (k := 2 + 5 * j + 3) hB (by omega) (by omega) hQ
  refine jn_use (P := fun J => (B (2 + 5 * j + 4) = 255 ∨ B (2 + 5 * j + 4) < V) → J) ?_ (fun J hJ => ⟨fun z => hJ (Or.inl z), fun z => ⟨fun y => h0 (fun u => by rcases u.2.2.2.2.1 with w | w <;> omega), fun y => hJ (Or.inr (by omega))⟩⟩)
  intro hr4
  refine a0 _ ⟨by unfold inR; omega, a1 _ ⟨by unfold inR; omega, a2 _ ⟨by unfold inR; omega, a3 _ ?_⟩⟩⟩
  refine x_mayLay hN hG.1 (fun x y hx hy ex ey hR l1 l2 g1 g2 hno => ⟨fun _ => ?_, fun z => absurd z (by omega)⟩) (fun hno => ⟨fun z => absurd rfl z, fun _ => h0 (fun u => hno ?_)⟩)
  · have ex' : (B (2 + 5 * j)).toNat = x := by omega
    have ey' : (B (2 + 5 * j + 1)).toNat = y := by omega
    have hok : StpOk B V j := by
      rw [ibn_P] at hx hy
      refine ⟨by omega, by omega, ⟨l1, l2⟩, g2, hr4, ?_⟩
      rw [ex', ey']
      exact hno
    refine a0 _ (a1 _ (a2 _ (a3 _ ?_)))
    have hgo : ∀ w : Int, w = (if B (2 + 5 * j + 4) = 255 then -1 else B (2 + 5 * j + 4)) → f_X5_lay 72 (B (2 + 5 * j)) (B (2 + 5 * j + 1)) (B (2 + 5 * j + 2)) (B (2 + 5 * j + 3)) w M (fun M_26 => Q 1 M_26) := by
      intro w hw
      rw [ex, ey]
      refine x_lay hN hR (fun M' k1 k2 => h1 hok M' k1 ?_)
      show NetX M' 72 ((ibn B j).add (B (2 + 5 * j)).toNat (B (2 + 5 * j + 1)).toNat (B (2 + 5 * j + 2)) (B (2 + 5 * j + 3)) (if B (2 + 5 * j + 4) = 255 then -1 else B (2 + 5 * j + 4)))
      rw [ex', ey', ← hw]
      exact k2
    refine jn_use (P := fun J => J (if B (2 + 5 * j + 4) = 255 then -1 else B (2 + 5 * j + 4))) (hgo _ rfl) (fun J hJ => ⟨fun z => by rw [if_neg z] at hJ; exact hJ, fun z => by rw [if_pos z] at hJ; exact hJ⟩)
  · obtain ⟨u1, u2, u3, u4, u5, u6⟩ := u
    exact ⟨(B (2 + 5 * j)).toNat, (B (2 + 5 * j + 1)).toNat, by rw [ibn_P]; omega, by rw [ibn_P]; omega, by omega, by omega, by rw [ibn_R]; omega, ⟨u3.1, u3.2, by omega, u4⟩, u6⟩
theorem x_read (hB : Bt M B T) (hV : 0 ≤ V ∧ V ≤ 10) {Q : Int → Mem → Prop} (h1 : ImOk B V T → ∀ M' : Mem, (∀ c, c < 72 ∨ 77 < c → M' c = M c) → NetX M' 72 (ibn B (B 1).toNat) → Q 1 M') (h0 : ¬ ImOk B V T → ∀ M' : Mem, (∀ c, c < 72 ∨ 77 < c → M' c = M c) → Q 0 M') : f_X4_read 72 V M Q := by
  have hb : ∀ k, k < T → 0 ≤ B k ∧ B k ≤ 255 := fun k hk => (hB.2.2 k hk).2
  have hT16 := hB.2.1
  have hno : ¬ HdOk B T → Q 0 M := fun z => h0 (fun y => z y.1) M (fun _ _ => rfl)
  unfold f_X4_read
  by_cases hT : T < 2
  · by_cases hT0 : T = 0
    · exact b_no hB (by omega) (b_no hB (by omega) ⟨fun _ => hno (fun z => by have := z.1; omega), fun z => by omega⟩)
    · have z0 := hb 0 (by omega)
      refine b_at (k := 0) hB (by omega) rfl (b_no hB (by omega) ⟨fun _ => hno (fun z => by have := z.1; omega), fun _ => ⟨fun _ => hno (fun z => by have := z.1; omega), fun _ => ⟨fun _ => hno (fun z => by have := z.1; omega), fun z => by omega⟩⟩⟩)
  · have z0 := hb 0 (by omega)
    have z1 := hb 1 (by omega)
    refine b_at (k := 0) hB (by omega) rfl (b_at (k := 1) hB (by omega) rfl ?_)
    rw [hB.1]
    refine ⟨fun c => hno (fun z => by have := z.2.1; omega), fun c => ⟨fun c1 => hno (fun z => by have := z.2.1; omega), fun c1 => ⟨fun c2 => by omega, fun c2 => ⟨fun c3 => hno (fun z => by have := z.2.2.1; omega), fun c3 => ⟨by unfold inR; omega, fun c4 => hno (fun z => by have := z.2.2.2.1; omega), fun c4 => ?_⟩⟩⟩⟩⟩
    unfold f_X4_isChecked
    have hT1 : T - 1 < T := by omega
    refine jn_use (P := fun J => J (chk B (T - 1))) ?_ ?_
    · rw [hB.1]
      refine ⟨by unfold inR; omega, b_at (k := T - 1) hB (by omega) (by omega) ⟨fun c5 => ⟨fun z => absurd rfl z, fun _ => hno (fun z => c5 z.2.2.2.2)⟩, fun c5 => ⟨fun _ => ?_, fun z => absurd z (by omega)⟩⟩⟩
      have hH : HdOk B T := ⟨by omega, by omega, by omega, by omega, c5⟩
      rintro _ rfl
      rintro _ rfl
      have hN0 : NetX (st (st M 72 0 (B 0)) 72 1 0) 72 (ibn B 0) := ⟨by rw [st_s, if_neg (by omega), st_s, if_pos rfl, ibn_P]; omega, by rw [st_s, if_pos rfl]; rfl, fun r hr => by rw [ibn_R] at hr; omega⟩
      refine wl2_inv (I := fun (v : Int) (M' : Mem) => ∃ j : Nat, v = j ∧ (j : Int) ≤ B 1 ∧ (∀ c, c < 72 ∨ 77 < c → M' c = M c) ∧ (∀ i, i < j → StpOk B V i) ∧ NetX M' 72 (ibn B j)) (μ := fun (v : Int) (_ : Mem) => (B 1 - v).toNat) ?_ 5000 _ _ ⟨0, rfl, by omega, fun c hc => by rw [st_o (by omega), st_o (by omega)], fun i hi => by omega, hN0⟩ (by omega)
      rintro rec v M' ⟨j, rfl, hj, g1, g2, g3⟩ hrec
      unfold X4_read_b73
      refine ⟨fun d => ?_, fun d => ⟨by unfold inR; omega, ?_⟩⟩
      · have e : (B 1).toNat = j := by omega
        refine h1 ⟨hH, fun i hi => g2 i (by omega)⟩ M' g1 ?_
        rw [e]; exact g3
      · refine x_readReach (j := j) (hB.of (g1 1 (by omega)) (g1 2 (by omega))) hH hV (by omega) g2 g3 (fun hok M2 k1 k2 => ⟨fun _ => ⟨by unfold inR; omega, ?_⟩, fun z => absurd z (by omega)⟩) (fun hn => ⟨fun z => absurd rfl z, fun _ => h0 (fun z => hn (z.2 j (by omega))) M' g1⟩) rfl
        rintro _ rfl
        refine hrec _ _ ⟨j + 1, by omega, by omega, fun c hc => by rw [k1 c hc]; exact g1 c hc, fun i hi => ?_, k2⟩ (by omega)
        by_cases z : i = j
        · rw [z]; exact hok
        · exact g2 i (by omega)
    · intro J hJ
      refine wl2_inv (I := fun (c w : Int) => ∃ k : Nat, w = k ∧ k ≤ T - 1 ∧ c = chk B k) (μ := fun (_ w : Int) => T - w.toNat) ?_ 5000 _ _ ⟨0, rfl, by omega, rfl⟩ (by simp; omega)
      rintro rec c w ⟨k, rfl, hk, rfl⟩ hrec
      unfold X4_isChecked_b6
      have hc := chk_in (f := B) (n := k)
      rw [hB.1]
      refine ⟨by unfold inR; omega, fun d => by rw [show k = T - 1 by omega]; exact hJ, fun d => b_at (k := k) hB (by omega) rfl ?_⟩
      have hbk := hb k (by omega)
      refine ⟨by unfold inR; omega, ?_⟩
      rintro _ rfl
      refine ⟨by unfold inR; omega, ?_⟩
      rintro _ rfl
      refine hrec _ _ ⟨k + 1, by omega, by omega, ?_⟩ (by omega)
      rw [Int.tmod_eq_emod_of_nonneg (by omega)]
      rfl
theorem r_isReachAt {j : Nat} (hb : ∀ k, k < T → 0 ≤ M 96 k ∧ M 96 k ≤ 255) (hT : T ≤ 1600) (hH : HdOk (M 96) T) (hV : 0 ≤ M 100 2 ∧ M 100 2 ≤ 10) (hj : (j : Int) < M 96 1) (hs : ∀ i, i < j → StpOk (M 96) (M 100 2) i) (hN : NetR M 99 (ibn (M 96) j)) {Q : Int → Prop} (h1 : StpOk (M 96) (M 100 2) j → Q 1) (h0 : ¬ StpOk (M 96) (M 100 2) j → Q 0) {v : Int} (hv : v = 2 + 5 * (j : Int)) : f_X12_isReachAt v M Q := by
  obtain ⟨hG, -⟩ := ibn_good hH hV hb (j := j) (by omega) hs
  obtain ⟨d1, d2, d3, d4, d5⟩ := id hH
  have b0 := hb (2 + 5 * j) (by omega)
  have b1 := hb (2 + 5 * j + 1) (by omega)
  have b2 := hb (2 + 5 * j + 2) (by omega)
  have b3 := hb (2 + 5 * j + 3) (by omega)
  have b4 := hb (2 + 5 * j + 4) (by omega)
  unfold f_X12_isReachAt
  rw [hv, show (2 + 5 * (j : Int)).toNat = 2 + 5 * j by omega, show (2 + 5 * (j : Int) + 1).toNat = 2 + 5 * j + 1 by omega, show (2 + 5 * (j : Int) + 2).toNat = 2 + 5 * j + 2 by omega, show (2 + 5 * (j : Int) + 3).toNat = 2 + 5 * j + 3 by omega, show (2 + 5 * (j : Int) + 4).toNat = 2 + 5 * j + 4 by omega]
  refine ⟨by omega, ?_⟩
  rintro _ rfl
  refine ⟨by omega, ?_⟩
  rintro _ rfl
  refine ⟨fun c => h0 (fun z => by have := z.1; omega), fun c => ⟨fun c1 => h0 (fun z => by have := z.2.1; omega), fun c1 => ?_⟩⟩
  obtain ⟨x, hx⟩ : ∃ x : Nat, M 96 (2 + 5 * j) = x := ⟨(M 96 (2 + 5 * j)).toNat, by omega⟩
  obtain ⟨y, hy⟩ : ∃ y : Nat, M 96 (2 + 5 * j + 1) = y := ⟨(M 96 (2 + 5 * j + 1)).toNat, by omega⟩
  have hx' : (M 96 (2 + 5 * j)).toNat = x := by omega
  have hy' : (M 96 (2 + 5 * j + 1)).toNat = y := by omega
  rw [hx, hy]
  refine r_comes (n := 99) rfl hN hG.1 (by rw [ibn_P]; omega) (by rw [ibn_P]; omega) (fun hr => ⟨fun z => absurd z (by omega), fun _ => h0 (fun z => z.2.2.2.2.2 (by rw [hx', hy']; exact hr))⟩) (fun hr => ⟨fun _ => ⟨by omega, ?_⟩, fun z => absurd rfl z⟩)
  refine r_isIn (fun l1 l2 => ⟨fun z => absurd z (by omega), fun _ => ⟨by omega, fun c2 => h0 (fun z => by have := z.2.2.2.1; omega), fun c2 => ⟨by omega, fun c3 => h1 ?_, fun c3 => r_isRiver hV (fun u1 u2 => ⟨fun z => absurd z (by omega), fun _ => h1 ?_⟩) (fun u => ⟨fun _ => h0 (fun z => ?_), fun z => absurd rfl z⟩)⟩⟩⟩) (fun l => ⟨fun _ => h0 (fun z => l z.2.2.1), fun z => absurd rfl z⟩)
  · exact ⟨by omega, by omega, ⟨l1, l2⟩, by omega, Or.inl c3, by rw [hx', hy']; exact hr⟩
  · exact ⟨by omega, by omega, ⟨l1, l2⟩, by omega, Or.inr u2, by rw [hx', hy']; exact hr⟩
  · rcases z.2.2.2.2.1 with w | w
    · exact c3 w
    · exact u ⟨by omega, w⟩
theorem r_isImage (hb : ∀ k, k < T → 0 ≤ M 96 k ∧ M 96 k ≤ 255) (hT : T ≤ 1600) (hV : 0 ≤ M 100 2 ∧ M 100 2 ≤ 10) {v : Int} (hv : v = T) {Q : Int → Mem → Prop} (h1 : ImOk (M 96) (M 100 2) T → ∀ M' : Mem, (∀ c, c ≠ 99 → M' c = M c) → NetR M' 99 (ibn (M 96) (M 96 1).toNat) → M' 99 2 = M 100 2 → (∀ p, p < 20 → M' 99 (3 + p) = 0) → (∀ u, u < 10 → M' 99 (23 + u) = M 100 (23 + u)) → Q 1 M') (h0 : ¬ ImOk (M 96) (M 100 2) T → ∀ M' : Mem, (∀ c, c ≠ 99 → M' c = M c) → Q 0 M') : f_X12_isImage v M Q := by
  have hno : ¬ HdOk (M 96) T → Q 0 M := fun z => h0 (fun y => z y.1) M (fun _ _ => rfl)
  unfold f_X12_isImage
  rw [hv]
  refine ⟨fun c => hno (fun z => by have := z.1; omega), fun c => ?_⟩
  have z0 := hb 0 (by omega)
  have z1 := hb 1 (by omega)
  refine r_isIn (fun l1 l2 => ⟨fun z => absurd z (by omega), fun _ => ⟨fun c1 => hno (fun z => by have := z.2.2.1; omega), fun c1 => ⟨by unfold inR; omega, fun c2 => hno (fun z => by have := z.2.2.2.1; omega), fun c2 => ⟨by omega, by unfold inR; omega, ?_⟩⟩⟩⟩) (fun l => ⟨fun _ => hno (fun z => l z.2.1), fun z => absurd rfl z⟩)
  have hl : lenS (shp 96) = 1600 := rfl
  refine r_last (m := T - 1) (by omega) (by omega) (fun k hk => hb k (by omega)) (by omega) ?_
  rw [show ((T : Int) - 1).toNat = T - 1 by omega]
  refine ⟨fun c3 => ?_, fun c3 => hno (fun z => c3 z.2.2.2.2)⟩
  have hH : HdOk (M 96) T := ⟨by omega, ⟨l1, l2⟩, by omega, by omega, c3⟩
  refine jn_use (P := fun J => ∀ M1 : Mem, (∀ c, c ≠ 99 → M1 c = M c) → M1 99 1 = 0 → M1 99 2 = M 100 2 → (∀ p, p < 20 → M1 99 (3 + p) = 0) → (∀ u, u < 10 → M1 99 (23 + u) = M 100 (23 + u)) → J M1) ?_ ?_
  · intro M1 a1 a2 a3 a4 a5
    rintro _ rfl
    rw [a1 96 (by omega)]
    have hN0 : NetR (st M1 99 0 (M 96 0)) 99 (ibn (M 96) 0) := ⟨by rw [st_s, if_pos rfl, ibn_P]; omega, by rw [st_s, if_neg (by omega), a2]; rfl, fun r hr => by rw [ibn_R] at hr; omega⟩
    refine wl2_inv (I := fun (x : Int) (M' : Mem) => ∃ j : Nat, x = 2 + 5 * (j : Int) ∧ (j : Int) ≤ M 96 1 ∧ (∀ c, c ≠ 99 → M' c = M c) ∧ (∀ i, i < j → StpOk (M 96) (M 100 2) i) ∧ NetR M' 99 (ibn (M 96) j) ∧ M' 99 2 = M 100 2 ∧ (∀ p, p < 20 → M' 99 (3 + p) = 0) ∧ (∀ u, u < 10 → M' 99 (23 + u) = M 100 (23 + u))) (μ := fun (x : Int) (_ : Mem) => ((T : Int) - x).toNat) ?_ 5000 _ _ ⟨0, by omega, by omega, fun c hc => by rw [st_o hc]; exact a1 c hc, fun i hi => by omega, hN0, by rw [st_s, if_neg (by omega)]; exact a3, fun p hp => by rw [st_s, if_neg (by omega)]; exact a4 p hp, fun u hu => by rw [st_s, if_neg (by omega)]; exact a5 u hu⟩ (by omega)
    rintro rec x M' ⟨j, rfl, hj, g1, g2, g3, g4, g5, g6⟩ hrec
    unfold X12_isImage_b132
    have e96 : M' 96 = M 96 := g1 96 (by omega)
    have e100 : M' 100 = M 100 := g1 100 (by omega)
    refine ⟨fun d => ?_, fun d => ?_⟩
    · have e : (M 96 1).toNat = j := by omega
      refine h1 ⟨hH, fun i hi => g2 i (by omega)⟩ M' g1 (by rw [e]; exact g3) g4 g5 g6
    · have hj' : (j : Int) < M 96 1 := by omega
      refine r_isReachAt (M := M') (T := T) (j := j) (by rw [e96]; exact hb) hT (by rw [e96]; exact hH) (by rw [e100]; exact hV) (by rw [e96]; exact hj') (by rw [e96, e100]; exact g2) (by rw [e96]; exact g3) (fun hok => ⟨fun _ => ⟨by omega, by omega, by omega, by omega, by omega, ?_⟩, fun z => absurd z (by omega)⟩) (fun hn => ⟨fun z => absurd rfl z, fun _ => h0 (fun z => hn (by rw [e96, e100]; exact z.2 j hj')) M' g1⟩) rfl
      rw [e96, e100] at hok
      rw [e96, show (2 + 5 * (j : Int)).toNat = 2 + 5 * j by omega, show (2 + 5 * (j : Int) + 1).toNat = 2 + 5 * j + 1 by omega, show (2 + 5 * (j : Int) + 2).toNat = 2 + 5 * j + 2 by omega, show (2 + 5 * (j : Int) + 3).toNat = 2 + 5 * j + 3 by omega, show (2 + 5 * (j : Int) + 4).toNat = 2 + 5 * j + 4 by omega]
      have b0 := hb (2 + 5 * j) (by omega)
      have b1 := hb (2 + 5 * j + 1) (by omega)
      obtain ⟨x, hx⟩ : ∃ x : Nat, M 96 (2 + 5 * j) = x := ⟨(M 96 (2 + 5 * j)).toNat, by omega⟩
      obtain ⟨y, hy⟩ : ∃ y : Nat, M 96 (2 + 5 * j + 1) = y := ⟨(M 96 (2 + 5 * j + 1)).toNat, by omega⟩
      have hx' : (M 96 (2 + 5 * j)).toNat = x := by omega
      have hy' : (M 96 (2 + 5 * j + 1)).toNat = y := by omega
      refine jn_use (P := fun J => J (if M 96 (2 + 5 * j + 4) = 255 then -1 else M 96 (2 + 5 * j + 4))) ?_ (fun J hJ => ⟨fun z => by rw [if_neg z] at hJ; exact hJ, fun z => by rw [if_pos z] at hJ; exact hJ⟩)
      rw [hx, hy]
      refine r_lay (a := 99) rfl g3 (by rw [ibn_R]; omega) (fun M2 k1 k2 k3 => ⟨by unfold inR; omega, ?_⟩)
      rintro _ rfl
      refine hrec _ _ ⟨j + 1, by omega, by omega, fun c hc => by rw [k1 c hc]; exact g1 c hc, fun i hi => ?_, ?_, by rw [k2 2 (by omega) (by omega)]; exact g4, fun p hp => by rw [k2 _ (by omega) (by omega)]; exact g5 p hp, fun u hu => by rw [k2 _ (by omega) (by omega)]; exact g6 u hu⟩ (by omega)
      · by_cases z : i = j
        · rw [z]; exact hok
        · exact g2 i (by omega)
      · show NetR M2 99 ((ibn (M 96) j).add (M 96 (2 + 5 * j)).toNat (M 96 (2 + 5 * j + 1)).toNat (M 96 (2 + 5 * j + 2)) (M 96 (2 + 5 * j + 3)) (if M 96 (2 + 5 * j + 4) = 255 then -1 else M 96 (2 + 5 * j + 4)))
        rw [hx', hy']
        exact k3
  · intro J hJ
    refine wl2_inv (I := fun (x : Int) (M' : Mem) => ∃ k : Nat, x = k ∧ k ≤ 183 ∧ (∀ c, c ≠ 99 → M' c = M c) ∧ ∀ i, i < k → M' 99 i = if i = 2 ∨ (23 ≤ i ∧ i < 33) then M 100 i else 0) (μ := fun (x : Int) (_ : Mem) => 183 - x.toNat) ?_ 5000 _ _ ⟨0, rfl, by omega, fun c _ => rfl, fun i hi => by omega⟩ (by simp)
    rintro rec x M' ⟨k, rfl, hk, g1, g2⟩ hrec
    unfold X12_isImage_b72
    refine ⟨fun d => hJ M' g1 (by rw [g2 1 (by omega), if_neg (by omega)]) (by rw [g2 2 (by omega), if_pos (by omega)]) (fun p hp => by rw [g2 _ (by omega), if_neg (by omega)]) (fun u hu => by rw [g2 _ (by omega), if_pos (by omega)]), fun d => ?_⟩
    have hgo : ∀ y : Int, y = (if k = 2 ∨ (23 ≤ k ∧ k < 33) then M 100 k else 0) → ∀ M_31 : Mem, M_31 = st M' 99 k y → inR ((k : Int) + 1) ∧ ∀ v2_32 : Int, v2_32 = (k : Int) + 1 → rec v2_32 M_31 := by
      intro y hy
      rintro _ rfl
      refine ⟨by unfold inR; omega, ?_⟩
      rintro _ rfl
      refine hrec _ _ ⟨k + 1, by omega, by omega, fun c hc => by rw [st_o hc]; exact g1 c hc, fun i hi => ?_⟩ (by omega)
      rw [st_s]
      by_cases z : i = k
      · rw [if_pos z, z]; exact hy
      · rw [if_neg z]; exact g2 i (by omega)
    rw [tn, g1 100 (by omega)]
    refine jn_use (P := fun J => ¬ (23 ≤ k ∧ k < 33) → J (k : Int) M') (fun hn => ⟨fun z => ⟨by omega, hgo 0 (by rw [if_neg (by omega)])⟩, fun z => ⟨by omega, by omega, ?_⟩⟩) (fun J' hJ' => ⟨fun z => hJ' (by omega), fun z => ⟨fun y => ⟨by omega, hgo _ (by rw [if_pos (by omega)])⟩, fun y => hJ' (by omega)⟩⟩)
    rw [tn, g1 100 (by omega)]
    exact hgo _ (by rw [if_pos (by omega)])
end
