/-! has -/
def mxx (f : Nat → Int) : Nat → Int
  | 0 => 0
  | k + 1 => max (mxx f k) (f k)
def szz (s : Nat → Bool) (c : Nat → Int) : Nat → Int
  | 0 => 0
  | k + 1 => if s k = true then nz (szz s c k + c k) else szz s c k
theorem mxx_congr {f g : Nat → Int} : ∀ {k : Nat}, (∀ i, i < k → f i = g i) → mxx f k = mxx g k
  | 0, _ => rfl
  | k + 1, h => by unfold mxx; rw [mxx_congr (fun i hi => h i (by omega)), h k (by omega)]
theorem szz_congr {s : Nat → Bool} {f g : Nat → Int} : ∀ {k : Nat}, (∀ i, i < k → f i = g i) → szz s f k = szz s g k
  | 0, _ => rfl
  | k + 1, h => by unfold szz; rw [szz_congr (fun i hi => h i (by omega)), h k (by omega)]
theorem szz_more {s : Nat → Bool} {f : Nat → Int} {k : Nat} : ∀ j, (∀ i, k ≤ i → s i = false) → szz s f (k + j) = szz s f k
  | 0, _ => rfl
  | j + 1, h => by
    show (if s (k + j) = true then _ else szz s f (k + j)) = _
    rw [if_neg (by rw [h (k + j) (by omega)]; simp), szz_more j h]
theorem cnt_more2 {f : Nat → Bool} {k : Nat} (j : Nat) (h : ∀ i, k ≤ i → f i = false) : cnt f (k + j) = cnt f k := by
  rw [cnt_split, cnt_false (fun i _ => h (k + i) (by omega))]; rfl
section
variable {M : Mem} {N : Nt} {n a : Nat}
theorem x_howManyPart (hN : NetX M a N) (hW : Wf N) {Q : Int → Prop} (h : Q (cnt (fun p => decide (2 ≤ M (n + 4) p)) N.P : Int)) : f_X1_howManyPart n a M Q := by
  have hP := hW.1
  unfold f_X1_howManyPart
  refine wl2_inv (I := fun (s v : Int) => ∃ k : Nat, v = k ∧ k ≤ N.P ∧ s = (cnt (fun p => decide (2 ≤ M (n + 4) p)) k : Int)) (μ := fun (_ v : Int) => N.P - v.toNat) ?_ 5000 _ _ ⟨0, rfl, by omega, rfl⟩ (by simp; omega)
  rintro rec s v ⟨k, rfl, hk, rfl⟩ hrec
  unfold X1_howManyPart_b4
  rw [hN.1]
  have hl := cnt_le (fun p => decide (2 ≤ M (n + 4) p)) k
  refine ⟨fun c => by rw [show k = N.P by omega]; exact h, fun c => ⟨by omega, ?_⟩⟩
  rw [tn]
  refine ⟨fun c1 => ⟨by unfold inR; omega, ?_⟩, fun c1 => ⟨by unfold inR; omega, ?_⟩⟩
  · rintro _ rfl
    exact hrec _ _ ⟨k + 1, by omega, by omega, by rw [cnt_s, if_neg (by simp; omega)]; rfl⟩ (by omega)
  · rintro _ rfl
    refine ⟨by unfold inR; omega, ?_⟩
    rintro _ rfl
    exact hrec _ _ ⟨k + 1, by omega, by omega, by rw [cnt_s, if_pos (by simp; omega)]; omega⟩ (by omega)
theorem x_greatestMet (hN : NetX M a N) (hW : Wf N) {Q : Int → Prop} (h : Q (mxx (M (n + 10)) N.R)) : f_X1_greatestMet n a M Q := by
  have hR := hW.2.1
  unfold f_X1_greatestMet
  refine wl2_inv (I := fun (s v : Int) => ∃ k : Nat, v = k ∧ k ≤ N.R ∧ s = mxx (M (n + 10)) k) (μ := fun (_ v : Int) => N.R - v.toNat) ?_ 5000 _ _ ⟨0, rfl, by omega, rfl⟩ (by simp; omega)
  rintro rec s v ⟨k, rfl, hk, rfl⟩ hrec
  unfold X1_greatestMet_b4
  rw [hN.2.1]
  refine ⟨fun c => by rw [show k = N.R by omega]; exact h, fun c => ⟨by omega, ?_⟩⟩
  rw [tn]
  rintro _ rfl
  refine ⟨by unfold inR; omega, ?_⟩
  rintro _ rfl
  exact hrec _ _ ⟨k + 1, by omega, by omega, rfl⟩ (by omega)
theorem x_sumAt {x : Int} {Q : Int → Prop} (h : Q (szz (tb x) (M (n + 2)) 20)) : f_X2_sumAt n x M Q := by
  unfold f_X2_sumAt
  refine wl2_inv (I := fun (s v : Int) => ∃ k : Nat, v = k ∧ k ≤ 20 ∧ s = szz (tb x) (M (n + 2)) k) (μ := fun (_ v : Int) => 20 - v.toNat) ?_ 5000 _ _ ⟨0, rfl, by omega, rfl⟩ (by simp)
  rintro rec s v ⟨k, rfl, hk, rfl⟩ hrec
  unfold X2_sumAt_b4
  refine ⟨fun c => by rw [show k = 20 by omega]; exact h, fun c => ?_⟩
  rw [bit_1 (show k < 32 by omega), show (k : Int) + 1 = ((k + 1 : Nat) : Int) by omega, nz_n (by omega), tn]
  refine ⟨fun c1 => ?_, fun c1 => ⟨by omega, ?_⟩⟩
  · rintro _ rfl
    exact hrec _ _ ⟨k + 1, by omega, by omega, by rw [szz, if_neg c1]⟩ (by omega)
  · rintro _ rfl
    rintro _ rfl
    exact hrec _ _ ⟨k + 1, by omega, by omega, by rw [szz, if_pos c1]⟩ (by omega)
theorem r_partings (hN : NetR M 100 N) (hW : Wf N) {Q : Int → Prop} (h : Q (cnt (fun p => decide (2 ≤ M 103 p)) N.P : Int)) : f_X12_partings M Q := by
  have hP := hW.1
  unfold f_X12_partings
  refine wl2_inv (I := fun (s v : Int) => ∃ k : Nat, v = k ∧ k ≤ N.P ∧ s = (cnt (fun p => decide (2 ≤ M 103 p)) k : Int)) (μ := fun (_ v : Int) => N.P - v.toNat) ?_ 5000 _ _ ⟨0, rfl, by omega, rfl⟩ (by simp; omega)
  rintro rec s v ⟨k, rfl, hk, rfl⟩ hrec
  unfold X12_partings_b4
  have hl := cnt_le (fun p => decide (2 ≤ M 103 p)) k
  refine r_places hN ⟨fun c => by rw [show k = N.P by omega]; exact h, fun c => ⟨by omega, ?_⟩⟩
  have hgo : ∀ f : Int, f = (if 2 ≤ M 103 k then 1 else 0) → inR ((cnt (fun p => decide (2 ≤ M 103 p)) k : Int) + f) ∧ ∀ v1_10 : Int, v1_10 = (cnt (fun p => decide (2 ≤ M 103 p)) k : Int) + f → inR ((k : Int) + 1) ∧ ∀ v2_11 : Int, v2_11 = (k : Int) + 1 → rec v1_10 v2_11 := by
    rintro _ rfl
    refine ⟨by unfold inR; split <;> omega, ?_⟩
    rintro _ rfl
    refine ⟨by unfold inR; omega, ?_⟩
    rintro _ rfl
    refine hrec _ _ ⟨k + 1, by omega, by omega, ?_⟩ (by omega)
    rw [cnt_s]
    by_cases z : 2 ≤ M 103 k
    · rw [if_pos z, if_pos (by simpa using z)]; omega
    · rw [if_neg z, if_neg (by simpa using z)]; omega
  rw [tn]
  refine jn_use (P := fun J => (2 ≤ M 103 k → J 1) ∧ (¬ 2 ≤ M 103 k → J 0)) ⟨fun z => r_flag (fun y => absurd y (by omega)) (fun _ => hgo 1 (by rw [if_pos z])), fun z => r_flag (fun _ => hgo 0 (by rw [if_neg z])) (fun y => absurd rfl y)⟩ (fun J hJ => ⟨fun z => hJ.2 (by omega), fun z => hJ.1 (by omega)⟩)
theorem r_greatestMet (hN : NetR M 100 N) (hW : Wf N) {Q : Int → Prop} (h : Q (mxx (M 111) N.R)) : f_X12_greatestMet M Q := by
  have hR := hW.2.1
  unfold f_X12_greatestMet
  refine wl2_inv (I := fun (s v : Int) => ∃ k : Nat, v = k ∧ k ≤ N.R ∧ s = mxx (M 111) k) (μ := fun (_ v : Int) => N.R - v.toNat) ?_ 5000 _ _ ⟨0, rfl, by omega, rfl⟩ (by simp; omega)
  rintro rec s v ⟨k, rfl, hk, rfl⟩ hrec
  unfold X12_greatestMet_b4
  refine r_reaches hN ⟨fun c => by rw [show k = N.R by omega]; exact h, fun c => ⟨by omega, ?_⟩⟩
  rw [tn]
  refine ⟨fun c1 => ⟨by unfold inR; omega, ?_⟩, fun c1 => ?_⟩
  · rintro _ rfl
    exact hrec _ _ ⟨k + 1, by omega, by omega, by rw [mxx, Int.max_eq_left c1]⟩ (by omega)
  · rintro _ rfl
    refine ⟨by unfold inR; omega, ?_⟩
    rintro _ rfl
    exact hrec _ _ ⟨k + 1, by omega, by omega, by rw [mxx, Int.max_eq_right (by omega)]⟩ (by omega)
theorem r_mouthFlow {x : Int} (hN : NetR M 100 N) (hW : Wf N) (hio : ∀ p, p < N.P → M 102 p = nin N p ∧ M 103 p = nout N p) (hx : ∀ p, tb x p = true ↔ isM N p) {Q : Int → Prop} (h : Q (szz (tb x) (M 106) N.P)) : f_X12_mouthFlow M Q := by
  have hP := hW.1
  unfold f_X12_mouthFlow
  refine wl2_inv (I := fun (s v : Int) => ∃ k : Nat, v = k ∧ k ≤ N.P ∧ s = szz (tb x) (M 106) k) (μ := fun (_ v : Int) => N.P - v.toNat) ?_ 5000 _ _ ⟨0, rfl, by omega, rfl⟩ (by simp; omega)
  rintro rec s v ⟨k, rfl, hk, rfl⟩ hrec
  unfold X12_mouthFlow_b4
  refine r_places hN ⟨fun c => by rw [show k = N.P by omega]; exact h, fun c => ?_⟩
  rw [show (k : Int) + 1 = ((k + 1 : Nat) : Int) by omega, nz_n (by omega), tn]
  refine r_isMouth hW (by omega) hio (fun s => ⟨fun z => absurd z (by omega), fun _ => ⟨by omega, ?_⟩⟩) (fun s => ⟨fun _ => ?_, fun z => absurd rfl z⟩)
  · rintro _ rfl
    rintro _ rfl
    exact hrec _ _ ⟨k + 1, by omega, by omega, by rw [szz, if_pos ((hx k).mpr s)]⟩ (by omega)
  · rintro _ rfl
    exact hrec _ _ ⟨k + 1, by omega, by omega, by rw [szz, if_neg (fun z => s ((hx k).mp z))]⟩ (by omega)
theorem r_mouths {x : Int} (hN : NetR M 100 N) (hW : Wf N) (hio : ∀ p, p < N.P → M 102 p = nin N p ∧ M 103 p = nout N p) (hx : ∀ p, tb x p = true ↔ isM N p) {Q : Int → Prop} (h : Q (cnt (tb x) N.P : Int)) : f_X12_mouths M Q := by
  have hP := hW.1
  unfold f_X12_mouths
  refine wl2_inv (I := fun (s v : Int) => ∃ k : Nat, v = k ∧ k ≤ N.P ∧ s = (cnt (tb x) k : Int)) (μ := fun (_ v : Int) => N.P - v.toNat) ?_ 5000 _ _ ⟨0, rfl, by omega, rfl⟩ (by simp; omega)
  rintro rec s v ⟨k, rfl, hk, rfl⟩ hrec
  unfold X12_mouths_b4
  have hl := cnt_le (tb x) k
  refine r_places hN ⟨fun c => by rw [show k = N.P by omega]; exact h, fun c => ?_⟩
  refine r_isMouth hW (by omega) hio (fun s => r_flag (fun z => absurd z (by omega)) (fun _ => ⟨by unfold inR; omega, ?_⟩)) (fun s => r_flag (fun _ => ⟨by unfold inR; omega, ?_⟩) (fun z => absurd rfl z))
  · rintro _ rfl
    refine ⟨by unfold inR; omega, ?_⟩
    rintro _ rfl
    exact hrec _ _ ⟨k + 1, by omega, by omega, by rw [cnt_s, if_pos ((hx k).mpr s)]; omega⟩ (by omega)
  · rintro _ rfl
    refine ⟨by unfold inR; omega, ?_⟩
    rintro _ rfl
    exact hrec _ _ ⟨k + 1, by omega, by omega, by rw [cnt_s, if_neg (fun z => s ((hx k).mp z))]; omega⟩ (by omega)
theorem q_has {a : Int} (hC : Core M N) (e1 : M 0 5 = M 100 2) (e2 : M 58 0 = M 95 41) (e3 : M 63 0 = M 95 38) {Q : Int → Int → Mem → Prop} (h : ∀ (r : Int) (M2 : Mem), Qf M M2 → Core M2 N → Q r r M2) : f_X11_has a M (fun r => f_X12_has a M (fun r2 M2 => Q r r2 M2)) := by
  obtain ⟨h1, h2, h3, h4, h5⟩ := id hC
  have hR := h3.1.2.1
  have hP := h3.1.1
  have hsr := h4.1.src hP
  have hmo := h4.1.mou hP
  obtain ⟨-, -, -, -, -, -, s6, s7, -⟩ := id h4.1
  have hbe : ∀ i, N.P ≤ i → tb (M 20 12) i = false := fun i hi => by
    cases q : tb (M 20 12) i
    · rfl
    · have := ((s7.2 i).mp q).1; omega
  have c20 : cnt (tb (M 20 12)) 20 = cnt (tb (M 20 12)) N.P := by
    have := cnt_more2 (20 - N.P) hbe
    rwa [show N.P + (20 - N.P) = 20 by omega] at this
  have s20 : szz (tb (M 20 12)) (M (31 + 2)) 20 = szz (tb (M 20 12)) (M (31 + 2)) N.P := by
    have := szz_more (f := M (31 + 2)) (20 - N.P) hbe
    rwa [show N.P + (20 - N.P) = 20 by omega] at this
  unfold f_X11_has f_X12_has
  refine ⟨fun c => q_lays hC (fun M2 k1 k2 k3 k4 => ?_), fun c => q_lays hC (fun M2 k1 k2 k3 k4 => ?_), fun c => q_lays hC (fun M2 k1 k2 k3 k4 => ?_), fun c => x_bitCount hsr.1 hsr.2 (q_lays hC (fun M2 k1 k2 k3 k4 => ?_)), fun c => x_bitCount hmo.1 hmo.2 (q_lays hC (fun M2 k1 k2 k3 k4 => ?_)), fun c => x_howManyPart h1 h3.1 (q_lays hC (fun M2 k1 k2 k3 k4 => ?_)), fun c => q_lays hC (fun M2 k1 k2 k3 k4 => ?_), fun c => q_lays hC (fun M2 k1 k2 k3 k4 => ?_), fun c => x_sumAt (q_lays hC (fun M2 k1 k2 k3 k4 => ?_)), fun c => x_greatestMet h1 h3.1 (q_lays hC (fun M2 k1 k2 k3 k4 => ?_)), fun c => q_lays hC (fun M2 k1 k2 k3 k4 => ?_)⟩
  all_goals refine ⟨fun d => ?_, fun d => ?_, fun d => ?_, fun d => ?_, fun d => ?_, fun d => ?_, fun d => ?_, fun d => ?_, fun d => ?_, fun d => ?_, fun d => ?_⟩
  all_goals first
    | (exfalso; omega)
    | skip
  · exact r_places k2.2.1 (by rw [h1.1]; exact h _ _ k1 k2)
  · exact r_reaches k2.2.1 (by rw [h1.2.1]; exact h _ _ k1 k2)
  · rw [e1, ← k1.1 100 (by omega) (by omega) (by omega)]; exact h _ _ k1 k2
  · refine r_sources k2.2.1 h3.1 k3.1.2.1 (fun x x1 x2 => ?_)
    have e : x = M 20 11 := bits_eq x1 s6.1 x2 s6.2
    rw [e]
    exact r_count (by rw [cnt_30 hsr.2]; exact h _ _ k1 k2)
  · refine r_mouths k2.2.1 h3.1 k3.1.2.1 s7.2 ?_
    rw [c20]
    exact h _ _ k1 k2
  · refine r_partings k2.2.1 h3.1 ?_
    rw [cnt_congr (f := fun p => decide (2 ≤ M2 103 p)) (g := fun p => decide (2 ≤ M (20 + 4) p)) (fun p hp => by rw [← (k4.1 p hp).2.1])]
    exact h _ _ k1 k2
  · rw [e2, ← k1.2 41 (by omega)]; exact h _ _ k1 k2
  · rw [e3, ← k1.2 38 (by omega)]; exact h _ _ k1 k2
  · refine r_mouthFlow k2.2.1 h3.1 k3.1.2.1 s7.2 ?_
    rw [s20, szz_congr (f := M2 106) (g := M (31 + 2)) (fun p hp => (k4.1 p hp).2.2.2.2.2.2.symm)]
    exact h _ _ k1 k2
  · refine r_greatestMet k2.2.1 h3.1 ?_
    rw [mxx_congr (f := M2 111) (g := M (20 + 10)) (fun r hr => (k4.2.1 r hr).2.1.symm)]
    exact h _ _ k1 k2
  · exact h _ _ k1 k2
end
