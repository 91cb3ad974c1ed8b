/-! what was seen: fits, tells -/
theorem tb_shl0 {p : Nat} (hp : p < 32) (i : Nat) : tb (bShl 0 (p : Int)) i = false := by
  rcases Nat.lt_or_ge i 32 with hi | hi
  · unfold bShl
    rw [tb_toInt, ofI, show Int32.ofInt 0 = 0 from rfl, b_shl p hp 0 hi, b_0]
    simp
  · exact tb_big hi
/-- the rows seen, on both sides -/
def SeenS (M : Mem) (n : Nat) : Prop := M 63 0 = n ∧ M 95 38 = n ∧ n ≤ 12 ∧ ∀ i, i < n → M 64 i = M 123 (2 * i) ∧ M 65 i = M 123 (2 * i + 1) ∧ 0 ≤ M 64 i ∧ (M 65 i = 0 ∨ M 65 i = 1)
def Dye (N : Nt) (r p : Nat) : Prop := N.hd r = p ∨ Up (Ew N.R (-1)) N.hd N.ft p (N.hd r)
def FitP (M : Mem) (N : Nt) (n p : Nat) : Prop := ∀ i, i < n → (Dye N (M 64 i).toNat p ↔ M 65 i = 1)
section
variable {M : Mem} {N : Nt} {n : Nat}
theorem x_fitsAt {p : Nat} {w : Int} (hS : SeenS M n) (hN : NetX M 12 N) (hW : Wf N) (hf : ∀ i, i < n → M 64 i < N.R) (hw : ∀ q, tb w q = true ↔ q = p ∨ Up (Ew N.R (-1)) N.hd N.ft p q) {Q : Int → Prop} (h1 : FitP M N n p → Q 1) (h0 : ¬ FitP M N n p → Q 0) : f_X8_fitsAt 12 w M Q := by
  obtain ⟨s1, s2, s3, s4⟩ := hS
  have hP := hW.1
  have hR := hW.2.1
  unfold f_X8_fitsAt
  refine wl1_inv (I := fun (v : Int) => ∃ k : Nat, v = k ∧ k ≤ n ∧ ∀ i, i < k → (Dye N (M 64 i).toNat p ↔ M 65 i = 1)) (μ := fun (v : Int) => n - v.toNat) ?_ 5000 _ ⟨0, rfl, by omega, fun i hi => by omega⟩ (by simp; omega)
  rintro rec v ⟨k, rfl, hk, g1⟩ hrec
  unfold X8_fitsAt_b2
  rw [s1]
  refine ⟨fun c => h1 (fun i hi => g1 i (by omega)), fun c => ⟨by omega, ?_⟩⟩
  obtain ⟨u1, u2, u3, u4⟩ := s4 k (by omega)
  have u5 := hf k (by omega)
  rw [tn]
  obtain ⟨r, hr⟩ : ∃ r : Nat, M 64 k = r := ⟨(M 64 k).toNat, by omega⟩
  refine ⟨by omega, ?_⟩
  rw [hr, tn, (hN.2.2 r (by omega)).1]
  have hl := (hW.2.2 r (by omega)).1
  have hd : tb w (N.hd r) = true ↔ Dye N r p := by
    rw [hw]
    rfl
  have hd2 : (bAnd (bShr w (N.hd r : Int)) 1 = M 65 k) ↔ (Dye N r p ↔ M 65 k = 1) := by
    rw [bit_val w (show N.hd r < 32 by omega)]
    by_cases z : tb w (N.hd r) = true
    · rw [if_pos z]
      exact ⟨fun y => ⟨fun _ => y.symm, fun _ => hd.mp z⟩, fun y => (y.mp (hd.mp z)).symm⟩
    · rw [if_neg z]
      refine ⟨fun y => ⟨fun t => absurd (hd.mpr t) z, fun t => by omega⟩, fun y => ?_⟩
      rcases u4 with t | t
      · exact t.symm
      · exact absurd (hd.mpr (y.mpr t)) z
  rw [hd2]
  refine ⟨fun c1 => ⟨by unfold inR; omega, ?_⟩, fun c1 => h0 (fun z => c1 (by have := z k (by omega); rw [hr, tn] at this; exact this))⟩
  rintro _ rfl
  refine hrec _ ⟨k + 1, by omega, by omega, fun i hi => ?_⟩ (by omega)
  by_cases e : i = k
  · rw [e, hr, tn]; exact c1
  · exact g1 i (by omega)
theorem x_fitting (hS : SeenS M n) (hN : NetX M 12 N) (hW : Wf N) (hD : BitsDown N (M 26)) {Q : Int → Prop} (h1 : ∀ x : Int, 0 < n → (∀ i, i < n → M 64 i < N.R) → inR x → (∀ p, tb x p = true ↔ p < N.P ∧ FitP M N n p) → Q x) (h0 : ¬ (0 < n ∧ ∀ i, i < n → M 64 i < N.R) → Q (-1)) : f_X8_fitting 12 26 M Q := by
  obtain ⟨s1, s2, s3, s4⟩ := id hS
  have hP := hW.1
  unfold f_X8_fitting
  rw [s1]
  refine ⟨fun c => ?_, fun c => h0 (fun z => by omega)⟩
  refine jn_use (P := fun J => (∀ i, i < n → M 64 i < N.R) → J) ?_ ?_
  · intro hf
    refine wl2_inv (I := fun (x v : Int) => inR x ∧ ∃ k : Nat, v = k ∧ k ≤ N.P ∧ ∀ p, tb x p = true ↔ p < k ∧ FitP M N n p) (μ := fun (_ v : Int) => N.P - v.toNat) ?_ 5000 _ _ ⟨in0, 0, rfl, by omega, fun p => by rw [tb_0]; simp⟩ (by simp; omega)
    rintro rec x v ⟨hx, k, rfl, hk, g1⟩ hrec
    unfold X8_fitting_b45
    have hl : lenS (shp 26) = 20 := rfl
    rw [hN.1, hl]
    refine ⟨fun c1 => h1 x (by omega) hf hx (by rw [show N.P = k by omega]; exact g1), fun c1 => ⟨by omega, ?_⟩⟩
    rw [tn]
    refine x_fitsAt (p := k) hS hN hW hf (fun q => ?_) (fun z => ⟨fun y => absurd y (by omega), fun _ => ?_⟩) (fun z => ⟨fun _ => ⟨by unfold inR; omega, ?_⟩, fun y => absurd rfl y⟩)
    · rw [tb_or, tb_one (by omega)]
      simp only [Bool.or_eq_true, decide_eq_true_eq]
      rw [(hD k (by omega)).2 q]
      exact Or.comm
    · rintro _ rfl
      refine ⟨by unfold inR; omega, ?_⟩
      rintro _ rfl
      refine hrec _ _ ⟨bOr_in _ _, k + 1, by omega, by omega, fun p => ?_⟩ (by omega)
      rw [tb_or, tb_one (by omega)]
      simp only [Bool.or_eq_true, decide_eq_true_eq]
      rw [g1 p]
      constructor
      · rintro (y | y)
        · exact ⟨by omega, y.2⟩
        · rw [y]; exact ⟨by omega, z⟩
      · rintro ⟨y1, y2⟩
        rcases Nat.lt_or_ge p k with u | u
        · exact Or.inl ⟨u, y2⟩
        · exact Or.inr (by omega)
    · rintro _ rfl
      refine hrec _ _ ⟨hx, k + 1, by omega, by omega, fun p => ?_⟩ (by omega)
      rw [g1 p]
      constructor
      · exact fun y => ⟨by omega, y.2⟩
      · rintro ⟨y1, y2⟩
        refine ⟨?_, y2⟩
        rcases Nat.lt_or_ge p k with u | u
        · exact u
        · rw [show p = k by omega] at y2; exact absurd y2 z
  · intro J hJ
    refine wl1_inv (I := fun (v : Int) => ∃ k : Nat, v = k ∧ k ≤ n ∧ ∀ i, i < k → M 64 i < N.R) (μ := fun (v : Int) => n - v.toNat) ?_ 5000 _ ⟨0, rfl, by omega, fun i hi => by omega⟩ (by simp; omega)
    rintro rec v ⟨k, rfl, hk, g1⟩ hrec
    unfold X8_fitting_b11
    rw [s1]
    refine ⟨fun c1 => hJ (fun i hi => g1 i (by omega)), fun c1 => ⟨by omega, ?_⟩⟩
    rw [tn]
    refine x_isReach hN (fun r hr e => ⟨fun _ => ⟨by unfold inR; omega, ?_⟩, fun z => absurd z (by omega)⟩) (fun hno => ⟨fun z => absurd rfl z, fun _ => h0 (fun z => ?_)⟩)
    · rintro _ rfl
      refine hrec _ ⟨k + 1, by omega, by omega, fun i hi => ?_⟩ (by omega)
      by_cases e2 : i = k
      · rw [e2, e]; omega
      · exact g1 i (by omega)
    · have u := s4 k (by omega)
      have := z.2 k (by omega)
      omega
theorem r_canFit (hS : SeenS M n) (hN : NetR M 100 N) (hW : Wf N) {Q : Int → Prop} (h1 : 0 < n → (∀ i, i < n → M 64 i < N.R) → Q 1) (h0 : ¬ (0 < n ∧ ∀ i, i < n → M 64 i < N.R) → Q 0) : f_X12_canFit M Q := by
  obtain ⟨s1, s2, s3, s4⟩ := id hS
  unfold f_X12_canFit
  rw [s2]
  refine jn_use (P := fun J => (∀ i, i < n → M 64 i < N.R) → J) ?_ ?_
  · intro hf
    exact ⟨fun c => h0 (fun z => by omega), fun c => h1 (by omega) hf⟩
  · intro J hJ
    refine wl1_inv (I := fun (v : Int) => ∃ k : Nat, v = k ∧ k ≤ n ∧ ∀ i, i < k → M 64 i < N.R) (μ := fun (v : Int) => n - v.toNat) ?_ 5000 _ ⟨0, rfl, by omega, fun i hi => by omega⟩ (by simp; omega)
    rintro rec v ⟨k, rfl, hk, g1⟩ hrec
    unfold X12_canFit_b2
    rw [s2]
    refine ⟨fun c1 => hJ (fun i hi => g1 i (by omega)), fun c1 => ⟨by omega, ?_⟩⟩
    obtain ⟨u1, u2, u3, u4⟩ := s4 k (by omega)
    rw [show (2 * (k : Int)).toNat = 2 * k by omega, ← u1]
    refine r_isReach hN hW (fun r hr e => ⟨fun _ => ⟨by unfold inR; omega, ?_⟩, fun z => absurd z (by omega)⟩) (fun hno => ⟨fun z => absurd rfl z, fun _ => h0 (fun z => ?_)⟩)
    · rintro _ rfl
      refine hrec _ ⟨k + 1, by omega, by omega, fun i hi => ?_⟩ (by omega)
      by_cases e2 : i = k
      · rw [e2, e]; omega
      · exact g1 i (by omega)
    · have := z.2 k (by omega)
      omega
theorem r_isDyed {r p : Nat} (hN : NetR M 100 N) (hW : Wf N) (hF : RFig M N) (hr : r < N.R) (hp : p < N.P) {Q : Int → Prop} (h1 : Dye N r p → Q 1) (h0 : ¬ Dye N r p → Q 0) : f_X12_isDyed (r : Int) (p : Int) M Q := by
  have hP := hW.1
  have hl := (hW.2.2 r hr).1
  obtain ⟨-, hd⟩ := hF.2.2.2.1 p hp
  unfold f_X12_isDyed
  refine r_hd hN hW hr ⟨fun c => h1 (Or.inl (by omega)), fun c => ⟨by omega, r_hd hN hW hr ?_⟩⟩
  rw [tn]
  refine r_isOf (by omega) (fun t => ⟨fun z => absurd z (by omega), fun _ => h1 (Or.inr ((hd _).mp t))⟩) (fun t => ⟨fun _ => h0 (fun z => ?_), fun z => absurd rfl z⟩)
  rcases z with z | z
  · exact c (by omega)
  · rw [(hd _).mpr z] at t; cases t
theorem SeenS.of {M' : Mem} (h : SeenS M n) (e1 : M' 63 = M 63) (e2 : M' 64 = M 64) (e3 : M' 65 = M 65) (e4 : M' 95 38 = M 95 38) (e5 : M' 123 = M 123) : SeenS M' n := by
  unfold SeenS
  rw [e1, e2, e3, e4, e5]
  exact h
theorem SeenS.qf {M' : Mem} (h : SeenS M n) (hq : Qf M M') : SeenS M' n := h.of (hq.1 63 (by omega) (by omega) (by omega)) (hq.1 64 (by omega) (by omega) (by omega)) (hq.1 65 (by omega) (by omega) (by omega)) (hq.2 38 (by omega)) (hq.1 123 (by omega) (by omega) (by omega))
theorem r_fitting (hC : Core M N) (hS : SeenS M n) (hf : ∀ i, i < n → M 64 i < N.R) {Q : Int → Mem → Prop} (h : ∀ (x : Int) (M' : Mem), Qf M M' → Core M' N → AllR M' N → Sm M M' N → inR x → (∀ p, tb x p = true ↔ p < N.P ∧ FitP M N n p) → Q x M') : f_X12_fitting M Q := by
  obtain ⟨h1, h2, h3, h4, h5⟩ := id hC
  have hP := h3.1.1
  unfold f_X12_fitting
  refine q_lays hC (fun M1 k1 k2 k3 k4 => ?_)
  have hS1 := hS.qf k1
  obtain ⟨s1, s2, s3, s4⟩ := id hS1
  have e64 : M1 64 = M 64 := k1.1 64 (by omega) (by omega) (by omega)
  have e65 : M1 65 = M 65 := k1.1 65 (by omega) (by omega) (by omega)
  rw [← e64] at hf
  have hFP : ∀ p, FitP M N n p ↔ FitP M1 N n p := fun p => by unfold FitP; rw [e64, e65]
  refine wl2_inv (I := fun (x v : Int) => inR x ∧ ∃ k : Nat, v = k ∧ k ≤ N.P ∧ ∀ p, tb x p = true ↔ p < k ∧ FitP M1 N n p) (μ := fun (_ v : Int) => N.P - v.toNat) ?_ 5000 _ _ ⟨in0, 0, rfl, by omega, fun p => by rw [tb_0]; simp⟩ (by simp; omega)
  rintro rec x v ⟨hx, k, rfl, hk, g1⟩ hrec
  unfold X12_fitting_b8
  refine r_places k2.2.1 ⟨fun c => h x M1 k1 k2 k3 k4 hx (fun p => by rw [g1 p, hFP p, show N.P = k by omega]), fun c => ?_⟩
  refine jn_use (P := fun J => (FitP M1 N n k → J 1) ∧ (¬ FitP M1 N n k → J 0)) ⟨fun z => r_flag (fun y => absurd y (by omega)) (fun _ => ?_), fun z => r_flag (fun _ => ?_) (fun y => absurd rfl y)⟩ ?_
  · rintro _ rfl
    refine ⟨by unfold inR; omega, ?_⟩
    rintro _ rfl
    refine hrec _ _ ⟨bOr_in _ _, k + 1, by omega, by omega, fun p => ?_⟩ (by omega)
    rw [tb_or, tb_one (by omega)]
    simp only [Bool.or_eq_true, decide_eq_true_eq]
    rw [g1 p]
    constructor
    · rintro (y | y)
      · exact ⟨by omega, y.2⟩
      · rw [y]; exact ⟨by omega, z⟩
    · rintro ⟨y1, y2⟩
      rcases Nat.lt_or_ge p k with u | u
      · exact Or.inl ⟨u, y2⟩
      · exact Or.inr (by omega)
  · rintro _ rfl
    refine ⟨by unfold inR; omega, ?_⟩
    rintro _ rfl
    refine hrec _ _ ⟨bOr_in _ _, k + 1, by omega, by omega, fun p => ?_⟩ (by omega)
    rw [tb_or, tb_shl0 (by omega), Bool.or_false, g1 p]
    constructor
    · exact fun y => ⟨by omega, y.2⟩
    · rintro ⟨y1, y2⟩
      refine ⟨?_, y2⟩
      rcases Nat.lt_or_ge p k with u | u
      · exact u
      · rw [show p = k by omega] at y2; exact absurd y2 z
  · intro J hJ
    refine wl2_inv (I := fun (s v : Int) => ∃ j : Nat, v = j ∧ j ≤ n ∧ ((s = 1 ∧ ∀ i, i < j → (Dye N (M1 64 i).toNat k ↔ M1 65 i = 1)) ∨ (s = 0 ∧ ¬ FitP M1 N n k))) (μ := fun (_ v : Int) => n - v.toNat) ?_ 5000 _ _ ⟨0, rfl, by omega, Or.inl ⟨rfl, fun i hi => by omega⟩⟩ (by simp; omega)
    rintro rec' s v ⟨j, rfl, hj, i1⟩ hrec'
    unfold X12_fitting_b21
    rw [s2]
    refine ⟨fun c2 => ?_, fun c2 => ⟨fun c3 => ⟨by unfold inR; omega, ?_⟩, fun c3 => ⟨by omega, ?_⟩⟩⟩
    · rcases i1 with ⟨y1, y2⟩ | ⟨y1, y2⟩
      · rw [y1]; exact hJ.1 (fun i hi => y2 i (by omega))
      · rw [y1]; exact hJ.2 y2
    · rintro _ rfl
      rcases i1 with ⟨y1, y2⟩ | ⟨y1, y2⟩
      · omega
      · exact hrec' _ _ ⟨j + 1, by omega, by omega, Or.inr ⟨rfl, y2⟩⟩ (by omega)
    · rcases i1 with ⟨y1, y2⟩ | ⟨y1, y2⟩
      · obtain ⟨u1, u2, u3, u4⟩ := s4 j (by omega)
        have u5 := hf j (by omega)
        obtain ⟨r, hr⟩ : ∃ r : Nat, M1 64 j = r := ⟨(M1 64 j).toNat, by omega⟩
        rw [show (2 * (j : Int)).toNat = 2 * j by omega, show (2 * (j : Int) + 1).toNat = 2 * j + 1 by omega, ← u1, ← u2, hr]
        have hgood : (Dye N r k ↔ M1 65 j = 1) → inR ((j : Int) + 1) ∧ ∀ z : Int, z = (j : Int) + 1 → rec' 1 z := fun hh => by
          refine ⟨by unfold inR; omega, ?_⟩
          rintro _ rfl
          refine hrec' _ _ ⟨j + 1, by omega, by omega, Or.inl ⟨rfl, fun i hi => ?_⟩⟩ (by omega)
          by_cases e : i = j
          · rw [e, hr, tn]; exact hh
          · exact y2 i (by omega)
        have hbad : ¬ (Dye N r k ↔ M1 65 j = 1) → inR ((j : Int) + 1) ∧ ∀ z : Int, z = (j : Int) + 1 → rec' 0 z := fun hh => by
          refine ⟨by unfold inR; omega, ?_⟩
          rintro _ rfl
          refine hrec' _ _ ⟨j + 1, by omega, by omega, Or.inr ⟨rfl, fun z => hh ?_⟩⟩ (by omega)
          have := z j (by omega)
          rw [hr, tn] at this
          exact this
        refine r_isDyed k2.2.1 h3.1 k3.1 (by omega) (by omega) (fun t => r_flag (fun z => absurd z (by omega)) (fun _ => ⟨by omega, fun d => hbad (fun z => d (z.mp t).symm), fun d => hgood ⟨fun _ => d.symm, fun _ => t⟩⟩)) (fun t => r_flag (fun _ => ⟨by omega, fun d => hbad (fun z => ?_), fun d => hgood ⟨fun y => absurd y t, fun y => by omega⟩⟩) (fun z => absurd rfl z))
        rcases u4 with y | y
        · exact d y.symm
        · exact t (z.mpr y)
      · exact absurd y1 c3
theorem q_fits (hC : Core M N) (hS : SeenS M n) {Q : Int → Int → Mem → Prop} (h : ∀ (r : Int) (M2 : Mem), Qf M M2 → Core M2 N → Q r r M2) : f_X11_fits M (fun r => f_X12_fits M (fun r2 M2 => Q r r2 M2)) := by
  obtain ⟨h1, h2, h3, h4, h5⟩ := id hC
  unfold f_X11_fits f_X12_fits
  refine x_fitting hS h1 h3.1 h4.1.2.2.2.1 (fun x hn hf hx hb => ?_) (fun hno => ?_)
  · refine r_canFit hS h2 h3.1 (fun _ _ => ⟨fun z => absurd z (by omega), fun _ => r_fitting hC hS hf (fun x' M1 k1 k2 _ _ hx' hb' => ?_)⟩) (fun z => absurd ⟨hn, hf⟩ z)
    rw [bits_eq hx hx' hb hb']
    exact h _ _ k1 k2
  · exact r_canFit hS h2 h3.1 (fun z1 z2 => absurd ⟨z1, z2⟩ hno) (fun _ => ⟨fun _ => h _ _ (Qf.refl M) hC, fun z => absurd rfl z⟩)
end
