/-! tells -/
def dyb (N : Nt) (u : Nat → Int) (r p : Nat) : Bool := tb (u (N.hd r)) p || decide (p = N.hd r)
/-- how many are left at the most -/
def lft (N : Nt) (u : Nat → Int) (x : Int) (r : Nat) : Int := max (cnt (fun p => tb x p && dyb N u r p) 20 : Int) ((cnt (tb x) 20 : Int) - (cnt (fun p => tb x p && dyb N u r p) 20 : Int))
def Amn (L : Nat → Int) (k b : Nat) : Prop := b < k ∧ (∀ r, r < k → L b ≤ L r) ∧ ∀ r, r < b → L b < L r
theorem Amn.uniq {L : Nat → Int} {k b b' : Nat} (h : Amn L k b) (h' : Amn L k b') : b = b' := by
  rcases Nat.lt_trichotomy b b' with z | z | z
  · have a1 := h'.2.2 b z
    have a2 := h.2.1 b' h'.1
    omega
  · exact z
  · have a1 := h.2.2 b' z
    have a2 := h'.2.1 b h.1
    omega
theorem Amn.keep {L : Nat → Int} {k b : Nat} (h : Amn L k b) (hl : L b ≤ L k) : Amn L (k + 1) b := ⟨by have := h.1; omega, fun r hr => by
  by_cases e : r = k
  · rw [e]; exact hl
  · exact h.2.1 r (by omega), h.2.2⟩
theorem Amn.take {L : Nat → Int} {k b : Nat} (h : Amn L k b) (hl : L k < L b) : Amn L (k + 1) k := ⟨by omega, fun r hr => by
  by_cases e : r = k
  · rw [e]; omega
  · have := h.2.1 r (by omega); omega, fun r hr => by have := h.2.1 r hr; omega⟩
theorem Amn.one {L : Nat → Int} : Amn L 1 0 := ⟨by omega, fun r hr => by rw [show r = 0 by omega]; omega, fun r hr => by omega⟩
section
variable {M : Mem} {N : Nt} {n : Nat}
theorem x_leftAtMost {x : Int} {r : Nat} (hN : NetX M 12 N) (hW : Wf N) (hU : BitsUp N (M 25)) (hx : inR x) (hb : ∀ i, tb x i = true → i < 20) (hr : r < N.R) {Q : Int → Prop} (h : Q (lft N (M 25) x r)) : f_X1_leftAtMost 20 12 x (r : Int) M Q := by
  have hP := hW.1
  have hR := hW.2.1
  have hl := (hW.2.2 r hr).1
  unfold f_X1_leftAtMost
  refine ⟨by omega, ?_⟩
  rintro _ rfl
  rw [tn, (hN.2.2 r hr).1]
  refine ⟨by omega, ?_⟩
  rw [tn]
  have e : ∀ p, tb (bAnd x (bOr (M (20 + 5) (N.hd r)) (bShl 1 (N.hd r : Int)))) p = (tb x p && dyb N (M 25) r p) := fun p => by
    rw [tb_and, tb_or, tb_one (by omega)]
    rfl
  refine x_bitCount (bAnd_in _ _) (fun i hi => hb i (by rw [e i, Bool.and_eq_true] at hi; exact hi.1)) (x_bitCount hx hb ?_)
  rw [cnt_congr (f := tb (bAnd x (bOr (M (20 + 5) (N.hd r)) (bShl 1 (N.hd r : Int))))) (g := fun p => tb x p && dyb N (M 25) r p) (n := 20) (fun p _ => e p)]
  have l1 := cnt_le (fun p => tb x p && dyb N (M 25) r p) 20
  have l2 := cnt_le (tb x) 20
  exact ⟨by unfold inR; omega, h⟩
theorem x_telling {x : Int} (hN : NetX M 12 N) (hW : Wf N) (hU : BitsUp N (M 25)) (hx : inR x) (hb : ∀ i, tb x i = true → i < 20) (hR0 : 0 < N.R) {Q : Int → Prop} (h : ∀ b : Nat, Amn (lft N (M 25) x) N.R b → Q (b : Int)) : f_X1_telling 20 12 x M Q := by
  have hR := hW.2.1
  unfold f_X1_telling
  refine wl3_inv (I := fun (a f w : Int) => ∃ k : Nat, w = k ∧ k ≤ N.R ∧ ((k = 0 ∧ a = -1) ∨ ∃ b : Nat, a = b ∧ f = lft N (M 25) x b ∧ Amn (lft N (M 25) x) k b)) (μ := fun (_ _ w : Int) => N.R - w.toNat) ?_ 5000 _ _ _ ⟨0, rfl, by omega, Or.inl ⟨rfl, rfl⟩⟩ (by simp; omega)
  rintro rec a f w ⟨k, rfl, hk, g1⟩ hrec
  unfold X1_telling_b8
  rw [hN.2.1]
  refine ⟨fun c => ?_, fun c => x_leftAtMost hN hW hU hx hb (by omega) ?_⟩
  · rcases g1 with ⟨z, -⟩ | ⟨b, z1, z2, z3⟩
    · omega
    · rw [z1]; exact h b (by rw [show N.R = k by omega]; exact z3)
  · refine ⟨fun c1 => ⟨by unfold inR; omega, ?_⟩, fun c1 => ⟨fun c2 => ⟨by unfold inR; omega, ?_⟩, fun c2 => ⟨by unfold inR; omega, ?_⟩⟩⟩
    · rintro _ rfl
      refine hrec _ _ _ ⟨k + 1, by omega, by omega, Or.inr ⟨k, rfl, rfl, ?_⟩⟩ (by omega)
      rcases g1 with ⟨z, -⟩ | ⟨b, z1, -⟩
      · subst z; exact Amn.one
      · omega
    · rintro _ rfl
      refine hrec _ _ _ ⟨k + 1, by omega, by omega, ?_⟩ (by omega)
      rcases g1 with ⟨-, z⟩ | ⟨b, z1, z2, z3⟩
      · exact absurd z c1
      · exact Or.inr ⟨b, z1, z2, z3.keep (by omega)⟩
    · rintro _ rfl
      refine hrec _ _ _ ⟨k + 1, by omega, by omega, ?_⟩ (by omega)
      rcases g1 with ⟨-, z⟩ | ⟨b, z1, z2, z3⟩
      · exact absurd z c1
      · exact Or.inr ⟨k, rfl, rfl, z3.take (by omega)⟩
theorem r_mostBy {x : Int} {r : Nat} {u : Nat → Int} (hN : NetR M 100 N) (hW : Wf N) (hF : RFig M N) (hu : ∀ p, p < N.P → ∀ q, tb (u p) q = true ↔ Up (Ew N.R (-1)) N.hd N.ft q p) (hb : ∀ i, tb x i = true → i < N.P) (hr : r < N.R) {Q : Int → Prop} (h : Q (lft N u x r)) : f_X12_mostBy (r : Int) x M Q := by
  have hP := hW.1
  have hl := (hW.2.2 r hr).1
  have hdy : ∀ p, dyb N u r p = true ↔ Dye N r p := fun p => by
    unfold dyb Dye
    simp only [Bool.or_eq_true, decide_eq_true_eq]
    rw [hu _ hl p]
    exact ⟨fun z => z.elim Or.inr (fun y => Or.inl y.symm), fun z => z.elim (fun y => Or.inr y.symm) Or.inl⟩
  obtain ⟨f, hf⟩ : ∃ f : Nat → Bool, f = fun p => tb x p && dyb N u r p := ⟨_, rfl⟩
  have e20 : cnt f 20 = cnt f N.P := by
    have e : 20 = N.P + (20 - N.P) := by omega
    rw [e, cnt_more2 (k := N.P) (20 - N.P) (fun i hi => ?_)]
    rw [hf]
    cases q : tb x i
    · simp [q]
    · have := hb i q; omega
  unfold lft at h
  rw [← hf] at h
  unfold f_X12_mostBy
  refine jn_use (P := fun J => J (cnt f 20 : Int)) ?_ ?_
  · refine r_count ?_
    rw [cnt_30 (fun i hi => by have := hb i hi; omega)]
    have l1 := cnt_le f 20
    have l2 := cnt_le (tb x) 20
    refine ⟨by unfold inR; omega, ?_⟩
    rintro _ rfl
    refine ⟨fun c => ?_, fun c => ?_⟩
    · rw [Int.max_eq_right c] at h; exact h
    · rw [Int.max_eq_left (by omega)] at h; exact h
  · intro J hJ
    rw [e20] at hJ
    refine wl2_inv (I := fun (s v : Int) => ∃ k : Nat, v = k ∧ k ≤ N.P ∧ s = (cnt f k : Int)) (μ := fun (_ v : Int) => N.P - v.toNat) ?_ 5000 _ _ ⟨0, rfl, by omega, rfl⟩ (by simp; omega)
    rintro rec s v ⟨k, rfl, hk, rfl⟩ hrec
    unfold X12_mostBy_b5
    have hlk := cnt_le f k
    refine r_places hN ⟨fun c => by rw [show k = N.P by omega]; exact hJ, fun c => ?_⟩
    have hfk : f k = true ↔ tb x k = true ∧ Dye N r k := by rw [hf, ← hdy k]; simp
    have hgo : ∀ y : Int, y = (if f k = true then 1 else 0) → inR ((cnt f k : Int) + y) ∧ ∀ v1_10 : Int, v1_10 = (cnt f k : Int) + y → inR ((k : Int) + 1) ∧ ∀ v2_11 : Int, v2_11 = (k : Int) + 1 → rec v1_10 v2_11 := by
      rintro _ rfl
      refine ⟨by unfold inR; split <;> omega, ?_⟩
      rintro _ rfl
      refine ⟨by unfold inR; omega, ?_⟩
      rintro _ rfl
      refine hrec _ _ ⟨k + 1, by omega, by omega, ?_⟩ (by omega)
      rw [cnt_s]
      split <;> simp
    have h1 : f k = true → f_X12_flag 1 M (fun r_14 => inR ((cnt f k : Int) + r_14) ∧ ∀ v3_17 : Int, v3_17 = (cnt f k : Int) + r_14 → inR ((k : Int) + 1) ∧ ∀ v4_18 : Int, v4_18 = (k : Int) + 1 → rec v3_17 v4_18) := fun z => r_flag (fun y => absurd y (by omega)) (fun _ => hgo 1 (by rw [if_pos z]))
    have h0 : ¬ f k = true → f_X12_flag 0 M (fun r_14 => inR ((cnt f k : Int) + r_14) ∧ ∀ v3_17 : Int, v3_17 = (cnt f k : Int) + r_14 → inR ((k : Int) + 1) ∧ ∀ v4_18 : Int, v4_18 = (k : Int) + 1 → rec v3_17 v4_18) := fun z => r_flag (fun _ => hgo 0 (by rw [if_neg z])) (fun y => absurd rfl y)
    refine r_isOf (by omega) (fun t => jn_use (P := fun J => (f k = true → J 1) ∧ (¬ f k = true → J 0)) ⟨h1, h0⟩ (fun J hJ => ⟨fun z => absurd z (by omega), fun _ => ?_⟩)) (fun t => jn_use (P := fun J => (f k = true → J 1) ∧ (¬ f k = true → J 0)) ⟨h1, h0⟩ (fun J hJ => ⟨fun _ => hJ.2 (fun z => by rw [(hfk.mp z).1] at t; cases t), fun z => absurd rfl z⟩))
    exact r_isDyed hN hW hF hr (by omega) (fun d => ⟨fun z => absurd z (by omega), fun _ => hJ.1 (hfk.mpr ⟨t, d⟩)⟩) (fun d => ⟨fun _ => hJ.2 (fun z => d (hfk.mp z).2), fun z => absurd rfl z⟩)
theorem q_tells {a : Int} (hC : Core M N) (hS : SeenS M n) {Q : Int → Int → Mem → Prop} (h : ∀ (r : Int) (M2 : Mem), Qf M M2 → Core M2 N → Q r r M2) : f_X11_tells a M (fun r => f_X12_tells a M (fun r2 M2 => Q r r2 M2)) := by
  obtain ⟨h1, h2, h3, h4, h5⟩ := id hC
  have hP := h3.1.1
  have hR := h3.1.2.1
  have hU : BitsUp N (M 25) := h4.1.2.2.1
  unfold f_X11_tells
  refine x_fitting hS h1 h3.1 h4.1.2.2.2.1 (fun x hn hf hx hb => ?_) (fun hno => ⟨fun _ => ?_, fun z => absurd rfl z⟩)
  · have hbP : ∀ i, tb x i = true → i < N.P := fun i hi => ((hb i).mp hi).1
    have hb20 : ∀ i, tb x i = true → i < 20 := fun i hi => by have := hbP i hi; omega
    obtain ⟨m, m1, m2, m3⟩ := small_nat hx hb20
    have hR0 : 0 < N.R := by have := hf 0 hn; have := hS.2.2.2 0 hn; omega
    have hcan : ∀ Q : Int → Prop, Q 1 → f_X12_canFit M Q := fun Q hQ => r_canFit hS h2 h3.1 (fun _ _ => hQ) (fun z => absurd ⟨hn, hf⟩ z)
    refine ⟨fun c => by omega, fun c => ⟨fun c1 => ?_, fun c1 => ?_⟩⟩
    · refine x_telling h1 h3.1 hU hx hb20 hR0 (fun b hA => ?_)
      have href : ∀ y : Int, (0 ≤ a ∧ a ≤ 1) → (a = 0 → y = b) → (a = 1 → y = lft N (M 25) x b) → f_X12_tells a M (fun r2 M2 => Q y r2 M2) := by
        intro y ha q0 q1
        unfold f_X12_tells
        refine hcan _ ⟨fun z => absurd z (by omega), fun _ => r_isIn (fun _ _ => ⟨fun _ => r_fitting hC hS hf (fun x' M1 k1 k2 k3 k4 hx' hb' => ?_), fun z => absurd z (by omega)⟩) (fun z => absurd ha z)⟩
        rw [← bits_eq hx hx' hb hb']
        refine ⟨fun _ => ?_, fun z => absurd z c1⟩
        have hu : ∀ p, p < N.P → ∀ q, tb (M 25 p) q = true ↔ Up (Ew N.R (-1)) N.hd N.ft q p := fun p hp => (hU p (by omega)).2
        refine jn_use (P := fun J => J (b : Int)) ?_ ?_
        · refine ⟨fun d => r_mostBy k2.2.1 h3.1 k3.1 hu hbP hA.1 ?_, fun d => ?_⟩
          · rw [q1 (by omega)]; exact h _ _ k1 k2
          · rw [q0 d]; exact h _ _ k1 k2
        · intro J hJ
          refine wl2_inv (I := fun (s v : Int) => ∃ k b' : Nat, v = k ∧ k ≤ N.R ∧ s = b' ∧ Amn (lft N (M 25) x) k b') (μ := fun (_ v : Int) => N.R - v.toNat) ?_ 5000 _ _ ⟨1, 0, rfl, by omega, rfl, Amn.one⟩ (by omega)
          rintro rec s v ⟨k, b', rfl, hk, rfl, g1⟩ hrec
          unfold X12_tells_b35
          refine r_reaches k2.2.1 ⟨fun d => ?_, fun d => r_mostBy k2.2.1 h3.1 k3.1 hu hbP (by omega) (r_mostBy k2.2.1 h3.1 k3.1 hu hbP (by have := g1.1; omega) ⟨fun d1 => ⟨by unfold inR; omega, ?_⟩, fun d1 => ⟨by unfold inR; omega, ?_⟩⟩)⟩
          · rw [show k = N.R by omega] at g1
            rw [g1.uniq hA]; exact hJ
          · rintro _ rfl
            exact hrec _ _ ⟨k + 1, b', by omega, by omega, rfl, g1.keep d1⟩ (by omega)
          · rintro _ rfl
            exact hrec _ _ ⟨k + 1, k, by omega, by omega, rfl, g1.take (by omega)⟩ (by omega)
      refine ⟨fun d => href _ (by omega) (fun _ => rfl) (fun z => by omega), fun d => ⟨fun _ => x_leftAtMost h1 h3.1 hU hx hb20 hA.1 (href _ (by omega) (fun z => by omega) (fun _ => rfl)), fun z => by omega⟩, fun d => ?_⟩
      unfold f_X12_tells
      exact hcan _ ⟨fun z => absurd z (by omega), fun _ => r_isIn (fun _ _ => by omega) (fun _ => ⟨fun z => absurd rfl z, fun _ => h _ _ (Qf.refl M) hC⟩)⟩
    · unfold f_X12_tells
      refine hcan _ ⟨fun z => absurd z (by omega), fun _ => r_isIn (fun _ _ => ⟨fun _ => r_fitting hC hS hf (fun x' M1 k1 k2 k3 k4 hx' hb' => ?_), fun z => absurd z (by omega)⟩) (fun _ => ⟨fun z => absurd rfl z, fun _ => h _ _ (Qf.refl M) hC⟩)⟩
      rw [← bits_eq hx hx' hb hb']
      exact ⟨fun z => absurd c1 z, fun _ => h _ _ k1 k2⟩
  · unfold f_X12_tells
    exact r_canFit hS h2 h3.1 (fun z1 z2 => absurd ⟨z1, z2⟩ hno) (fun _ => ⟨fun _ => h _ _ (Qf.refl M) hC, fun z => absurd rfl z⟩)
end
