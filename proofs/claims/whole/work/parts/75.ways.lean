/-! ways -/
def lexf (N : Nt) (pos : Nat → Nat) (i j : Nat) (q : Nat) : Bool := decide (pos (N.ft q) < i ∨ (pos (N.ft q) = i ∧ q < j))
theorem lexf_skip {N : Nt} {pos : Nat → Nat} {k j : Nat} (h : pos (N.ft j) ≠ k) (q : Nat) : lexf N pos k (j + 1) q = lexf N pos k j q := by
  unfold lexf
  simp only [decide_eq_decide]
  constructor
  · rintro (z | z)
    · exact Or.inl z
    · refine Or.inr ⟨z.1, ?_⟩
      rcases Nat.lt_or_ge q j with y | y
      · exact y
      · have : q = j := by omega
        subst this
        exact absurd z.1 h
  · rintro (z | z)
    · exact Or.inl z
    · exact Or.inr (by omega)
theorem lexf_new {N : Nt} {pos : Nat → Nat} {k j : Nat} (h : pos (N.ft j) = k) (q : Nat) : lexf N pos k (j + 1) q = (lexf N pos k j q || decide (q = j)) := by
  rw [Bool.eq_iff_iff]
  unfold lexf
  simp only [decide_eq_true_eq, Bool.or_eq_true]
  constructor
  · rintro (z | z)
    · exact Or.inl (Or.inl z)
    · by_cases e : q = j
      · exact Or.inr e
      · exact Or.inl (Or.inr (by omega))
  · rintro ((z | z) | z)
    · exact Or.inl z
    · exact Or.inr (by omega)
    · subst z; exact Or.inr ⟨h, by omega⟩
theorem lexf_end {N : Nt} {pos : Nat → Nat} {k q : Nat} (hq : q < N.R) : lexf N pos k N.R q = lexf N pos (k + 1) 0 q := by
  unfold lexf
  simp only [decide_eq_decide]
  omega
theorem sm_0 {f : Nat → Int} : ∀ {n : Nat}, (∀ i, i < n → f i = 0) → sm f n = 0
  | 0, _ => rfl
  | n + 1, h => by unfold sm; rw [sm_0 (fun i hi => h i (by omega)), h n (by omega)]; rfl
theorem bp_new {N : Nt} {b bp : Nat → Nat} (hbp : ∀ q, q < N.R → bp q < N.R ∧ b (bp q) = q) (hbpb : ∀ k, k < N.R → bp (b k) = k) {i q : Nat} (hi : i < N.R) (hq : q < N.R) : decide (bp q < i + 1) = (decide (bp q < i) || decide (q = b i)) := by
  rw [Bool.eq_iff_iff]
  simp only [decide_eq_true_eq, Bool.or_eq_true]
  obtain ⟨z1, z2⟩ := hbp q hq
  constructor
  · intro z
    rcases Nat.lt_or_ge (bp q) i with y | y
    · exact Or.inl y
    · refine Or.inr ?_
      rw [← z2, show bp q = i by omega]
  · rintro (z | z)
    · omega
    · rw [z, hbpb i hi]; omega
def Wys (N : Nt) (fr : Nat) (S : Nat → Bool) (T : Nat → Int) : Prop := ∀ p, p < N.P → 0 ≤ T p ∧ T p ≤ 1000000000 ∧ T p = min 1000000000 ((if p = fr then 1 else 0) + sm (fun q => if N.ft q = p ∧ S q = true then T (N.hd q) else 0) N.R)
theorem Wys.congr {N : Nt} {fr : Nat} {S S' : Nat → Bool} {T : Nat → Int} (h : Wys N fr S T) (e : ∀ q, q < N.R → S q = S' q) : Wys N fr S' T := fun p hp => by
  obtain ⟨h1, h2, h3⟩ := h p hp
  refine ⟨h1, h2, ?_⟩
  rw [show sm (fun q => if N.ft q = p ∧ S' q = true then T (N.hd q) else 0) N.R = sm (fun q => if N.ft q = p ∧ S q = true then T (N.hd q) else 0) N.R from sm_congr (fun q hq => by rw [e q hq])]
  exact h3
theorem Wys.step {N : Nt} (hG : Good N) {fr r : Nat} {S S' : Nat → Bool} {T T' : Nat → Int} (h : Wys N fr S T) (hr : r < N.R) (h0 : S r = false) (h1 : ∀ q, q < N.R → S q = true → N.hd q ≠ N.ft r) (hS : ∀ q, q < N.R → S' q = (S q || decide (q = r))) (e1 : T' (N.ft r) = min (T (N.ft r) + T (N.hd r)) 1000000000) (e2 : ∀ p, p < N.P → p ≠ N.ft r → T' p = T p) : Wys N fr S' T' := by
  have hw := hG.1.2.2
  have hhf : N.hd r ≠ N.ft r := fun e => hG.2.irrefl (a := N.hd r) (Up_iff.mpr ⟨r, Ew_all hr, e.symm, Or.inl rfl⟩)
  intro p hp
  obtain ⟨a1, a2, a3⟩ := h p hp
  obtain ⟨b1, b2, b3⟩ := h (N.hd r) (hw r hr).1
  by_cases e : p = N.ft r
  · subst e
    have hs : sm (fun q => if N.ft q = N.ft r ∧ S' q = true then T' (N.hd q) else 0) N.R = sm (fun q => if N.ft q = N.ft r ∧ S q = true then T (N.hd q) else 0) N.R + T (N.hd r) := by
      refine sm_add hr (fun q hq hqr => ?_) ?_
      · rw [hS q hq]
        simp only [hqr, decide_false, Bool.or_false]
        by_cases z : N.ft q = N.ft r ∧ S q = true
        · rw [if_pos z, if_pos z, e2 _ (hw q hq).1 (h1 q hq z.2)]
        · rw [if_neg z, if_neg z]
      · rw [if_pos ⟨rfl, by rw [hS r hr]; simp⟩, if_neg (fun z => by rw [h0] at z; cases z.2), e2 _ (hw r hr).1 hhf]; omega
    rw [hs, e1]
    refine ⟨by omega, by omega, by omega⟩
  · have hs : sm (fun q => if N.ft q = p ∧ S' q = true then T' (N.hd q) else 0) N.R = sm (fun q => if N.ft q = p ∧ S q = true then T (N.hd q) else 0) N.R := by
      refine sm_congr (fun q hq => ?_)
      rw [hS q hq]
      by_cases hqr : q = r
      · subst hqr
        rw [if_neg (fun z => e z.1.symm), if_neg (fun z => e z.1.symm)]
      · simp only [hqr, decide_false, Bool.or_false]
        by_cases z : N.ft q = p ∧ S q = true
        · rw [if_pos z, if_pos z, e2 _ (hw q hq).1 (h1 q hq z.2)]
        · rw [if_neg z, if_neg z]
    rw [hs, e2 p hp e]
    exact ⟨a1, a2, a3⟩
theorem Wys.uniq {N : Nt} (hG : Good N) {fr : Nat} {S : Nat → Bool} {T T' : Nat → Int} (h : Wys N fr S T) (h' : Wys N fr S T') : ∀ p, p < N.P → T p = T' p := by
  refine hG.2.ind (C := fun p => p < N.P → T p = T' p) (fun p ih hp => ?_)
  rw [(h p hp).2.2, (h' p hp).2.2]
  congr 2
  refine sm_congr (fun q hq => ?_)
  by_cases z : N.ft q = p ∧ S q = true
  · rw [if_pos z, if_pos z, ih q (Ew_all hq) z.1 (hG.1.2.2 q hq).1]
  · rw [if_neg z, if_neg z]
section
variable {M : Mem} {N : Nt}
/-- only rows that a look uses again have changed -/
theorem Core.scr {M' : Mem} (h : Core M N) (e : ∀ c, ¬ (68 ≤ c ∧ c ≤ 93) → ¬ (116 ≤ c ∧ c ≤ 122) → M' c = M c) : Qf M M' ∧ Core M' N := by
  have hq : Qf M M' := ⟨fun c _ z1 z2 => e c z1 (by omega), fun j _ => by rw [e 95 (by omega) (by omega)]⟩
  exact ⟨hq, h.of hq (fun z => (h.2.2.2.2 (by rw [← e 95 (by omega) (by omega)]; exact z)).of h.2.2.1.1 (fun c _ _ => e c (by omega) (by omega)))⟩
theorem x_howManyWays {fr to : Nat} (hN : NetX M 12 N) (hG : Good N) (hF : FigX M 20 N) (hfr : fr < N.P) (hto : to < N.P) {Q : Int → Mem → Prop} (h : ∀ M' : Mem, (∀ c, c ≠ 69 → M' c = M c) → Wys N fr (fun _ => true) (M' 69) → Q (M' 69 to) M') : f_X7_howManyWays 12 20 (fr : Int) (to : Int) M Q := by
  obtain ⟨hP20, hR30, hr⟩ := id hG.1
  obtain ⟨⟨gg, pos, b, t1, t2, hB, t4⟩, -⟩ := id hF
  obtain ⟨bp, hbp⟩ := hB.inv
  obtain ⟨b1, b2, b3, b4, b5⟩ := hB
  have hbpb : ∀ k, k < N.R → bp (b k) = k := fun k hk => b2 _ _ (hbp _ (b1 k hk)).1 hk (hbp _ (b1 k hk)).2
  unfold f_X7_howManyWays
  rintro _ rfl
  refine ⟨by omega, ?_⟩
  rintro _ rfl
  rw [tn]
  refine wl2_inv (I := fun (v : Int) (M' : Mem) => ∃ i : Nat, v = i ∧ i ≤ N.R ∧ (∀ c, c ≠ 69 → M' c = M c) ∧ Wys N fr (fun q => decide (bp q < i)) (M' 69)) (μ := fun (v : Int) (_ : Mem) => N.R - v.toNat) ?_ 5000 _ _ ⟨0, rfl, by omega, fun c hc => by rw [st_o hc, fil_n hc], fun p hp => ?_⟩ (by simp; omega)
  rotate_left
  · rw [sm_0 (fun q _ => by rw [if_neg (by simp)]), st_s, fil_e, if_pos (show p < 20 by omega)]
    by_cases e : p = fr
    · rw [if_pos e]; omega
    · rw [if_neg e]; omega
  rintro rec v M' ⟨i, rfl, hi, g1, g2⟩ hrec
  unfold X7_howManyWays_b18
  have hN' : NetX M' 12 N := hN.of (fun c _ _ => g1 c (by omega))
  rw [hN'.2.1]
  refine ⟨fun c => ⟨by omega, ?_⟩, fun c => ⟨by omega, ?_⟩⟩
  · rw [tn]
    exact h M' g1 (g2.congr (fun q hq => by have := (hbp q hq).1; simp; omega))
  · have hiR : i < N.R := by omega
    rintro _ rfl
    rw [tn, g1 (20 + 2) (by omega), t4 i hiR]
    have hbi := b1 i hiR
    obtain ⟨x1, x2, x3, -, -⟩ := hN'.2.2 (b i) hbi
    obtain ⟨w1, w2, w3, w4, -⟩ := hr (b i) hbi
    refine ⟨by omega, ?_⟩
    rw [tn, x1, x2]
    refine ⟨by omega, by omega, ?_⟩
    rw [tn, tn]
    have A := g2 (N.ft (b i)) w2
    have B := g2 (N.hd (b i)) w1
    refine ⟨by unfold inR; omega, ?_⟩
    rintro _ rfl
    rintro _ rfl
    refine ⟨by unfold inR; omega, ?_⟩
    rintro _ rfl
    refine hrec _ _ ⟨i + 1, by omega, by omega, fun c hc => by rw [st_o hc]; exact g1 c hc, ?_⟩ (by omega)
    refine g2.step hG hbi (by rw [hbpb i hiR]; simp) (fun q hq hs e => ?_) (fun q hq => bp_new hbp hbpb hiR hq) (by rw [st_s, if_pos rfl]) (fun p hp e => by rw [st_s, if_neg e])
    simp only [decide_eq_true_eq] at hs
    have := b4 i (bp q) hiR (hbp q hq).1 (by rw [(hbp q hq).2]; exact e.symm)
    omega
theorem r_laysWays {fr : Nat} (hN : NetR M 100 N) (hG : Good N) (hF : RFig M N) (hfr : fr < N.P) {Q : Mem → Prop} (h : ∀ M' : Mem, (∀ c, c ≠ 116 → M' c = M c) → Wys N fr (fun _ => true) (M' 116) → Q M') : f_X12_laysWays (fr : Int) M Q := by
  obtain ⟨hP20, hR30, hr⟩ := id hG.1
  obtain ⟨⟨g, pos, ⟨t1, t2, t3⟩, ho⟩, -⟩ := id hF
  unfold f_X12_laysWays
  refine jn_use (P := fun J => ∀ M1 : Mem, (∀ c, c ≠ 116 → M1 c = M c) → (∀ p, p < N.P → M1 116 p = if p = fr then 1 else 0) → J M1) ?_ ?_
  · intro M1 f1 f2
    refine wl2_inv (I := fun (v : Int) (M' : Mem) => ∃ k : Nat, v = (k : Int) ∧ k ≤ N.P ∧ (∀ c, c ≠ 116 → M' c = M c) ∧ Wys N fr (lexf N pos k 0) (M' 116)) (μ := fun (v : Int) (_ : Mem) => N.P - v.toNat) ?_ 5000 _ _ ⟨0, rfl, by omega, f1, fun p hp => ?_⟩ (by simp; omega)
    rotate_left
    · rw [sm_0 (fun q _ => by rw [if_neg (by unfold lexf; simp)]), f2 p hp]
      by_cases e : p = fr
      · rw [if_pos e]; omega
      · rw [if_neg e]; omega
    rintro rec v M' ⟨k, rfl, hk, g1, g2⟩ hrec
    unfold X12_laysWays_b38
    have hN' : NetR M' 100 N := hN.of (g1 100 (by omega))
    refine r_places hN' ⟨fun c => ?_, fun c => ?_⟩
    · refine h M' g1 (g2.congr (fun q hq => ?_))
      have := (t2 _ (hr q hq).2.1).1
      unfold lexf
      simp; omega
    · refine wl2_inv (I := fun (v : Int) (M' : Mem) => ∃ j : Nat, v = j ∧ j ≤ N.R ∧ (∀ c, c ≠ 116 → M' c = M c) ∧ Wys N fr (lexf N pos k j) (M' 116)) (μ := fun (v : Int) (_ : Mem) => N.R - v.toNat) ?_ 5000 _ _ ⟨0, rfl, by omega, g1, g2⟩ (by simp; omega)
      clear g1 g2 hN'
      rintro rec' v M' ⟨j, rfl, hj, g1, g2⟩ hrec'
      unfold X12_laysWays_b48
      have hN' : NetR M' 100 N := hN.of (g1 100 (by omega))
      refine r_reaches hN' ⟨fun c2 => ⟨by unfold inR; omega, ?_⟩, fun c2 => ?_⟩
      · rintro _ rfl
        have e : j = N.R := by omega
        subst e
        exact hrec _ _ ⟨k + 1, by omega, by omega, g1, g2.congr (fun q hq => lexf_end hq)⟩ (by omega)
      · have hjR : j < N.R := by omega
        obtain ⟨w1, w2, w3, w4, -⟩ := hr j hjR
        have hor : M' 101 k = g k := by rw [g1 101 (by omega)]; exact ho k (by omega)
        refine r_ft hN' hG.1 hjR ⟨by omega, ?_⟩
        rw [tn, hor]
        refine ⟨fun c3 => ⟨by unfold inR; omega, ?_⟩, fun c3 => ⟨by omega, r_hd hN' hG.1 hjR ⟨by omega, ?_⟩⟩⟩
        · rintro _ rfl
          have hne : pos (N.ft j) ≠ k := fun e => c3 (by rw [← e, (t2 _ w2).2])
          exact hrec' _ _ ⟨j + 1, by omega, by omega, g1, g2.congr (fun q _ => (lexf_skip hne q).symm)⟩ (by omega)
        · have hfk : N.ft j = g k := by omega
          have hpk : pos (N.ft j) = k := by rw [hfk]; exact (t1 k (by omega)).2
          rw [tn, tn, ← hfk]
          have A := g2 (N.ft j) w2
          have B := g2 (N.hd j) w1
          have hst : ∀ x : Int, x = min (M' 116 (N.ft j) + M' 116 (N.hd j)) 1000000000 → ∀ M_24 : Mem, M_24 = st M' 116 (N.ft j) x → inR ((j : Int) + 1) ∧ ∀ v3_25 : Int, v3_25 = (j : Int) + 1 → rec' v3_25 M_24 := by
            rintro x hx
            rintro _ rfl
            refine ⟨by unfold inR; omega, ?_⟩
            rintro _ rfl
            refine hrec' _ _ ⟨j + 1, by omega, by omega, fun c q => by rw [st_o q]; exact g1 c q, ?_⟩ (by omega)
            refine g2.step hG hjR (by unfold lexf; simp; omega) (fun q hq hs e => ?_) (fun q _ => lexf_new hpk q) (by rw [st_s, if_pos rfl]; exact hx) (fun p hp e => by rw [st_s, if_neg e])
            have z := t3 q hq
            unfold lexf at hs
            simp only [decide_eq_true_eq] at hs
            rw [e, hpk] at z
            omega
          refine ⟨by unfold inL; omega, ?_⟩
          rintro _ rfl
          rw [cmpI_le]
          refine ⟨fun c4 => ⟨by unfold inR; omega, hst _ (by omega)⟩, fun c4 => hst _ (by omega)⟩
  · intro J hJ
    refine wl2_inv (I := fun (v : Int) (M' : Mem) => ∃ k : Nat, v = k ∧ k ≤ N.P ∧ (∀ c, c ≠ 116 → M' c = M c) ∧ (∀ p, p < k → M' 116 p = if p = fr then 1 else 0)) (μ := fun (v : Int) (_ : Mem) => N.P - v.toNat) ?_ 5000 _ _ ⟨0, rfl, by omega, fun c _ => rfl, fun p hp => by omega⟩ (by simp; omega)
    rintro rec v M' ⟨k, rfl, hk, g1, g2⟩ hrec
    unfold X12_laysWays_b2
    have hN' : NetR M' 100 N := hN.of (g1 100 (by omega))
    refine r_places hN' ⟨fun c => ?_, fun c => ?_⟩
    · have e : k = N.P := by omega
      subst e
      exact hJ M' g1 g2
    · have hst : ∀ x : Int, x = (if k = fr then 1 else 0) → (0 ≤ (k : Int) ∧ (k : Int) < 20) ∧ ∀ M_42 : Mem, M_42 = st M' 116 ((k : Int).toNat) x → inR ((k : Int) + 1) ∧ ∀ v2_43 : Int, v2_43 = (k : Int) + 1 → rec v2_43 M_42 := by
        intro x hx
        refine ⟨by omega, ?_⟩
        rintro _ rfl
        refine ⟨by unfold inR; omega, ?_⟩
        rintro _ rfl
        refine hrec _ _ ⟨k + 1, by omega, by omega, fun c q1 => by rw [st_o q1]; exact g1 c q1, fun p hp => ?_⟩ (by omega)
        rw [st_s, tn]
        by_cases q : p = k
        · rw [if_pos q, hx, q]
        · rw [if_neg q]; exact g2 p (by omega)
      refine jn_use (P := fun J => (k = fr → J 1) ∧ (k ≠ fr → J 0)) ⟨fun z => r_flag (fun y => absurd y (by omega)) (fun _ => hst 1 (by rw [if_pos z])), fun z => r_flag (fun _ => hst 0 (by rw [if_neg z])) (fun y => absurd rfl y)⟩ (fun J hJ => ⟨fun z => hJ.2 (by omega), fun z => hJ.1 (by omega)⟩)
theorem q_ways {a b : Int} (hC : Core M N) {Q : Int → Int → Mem → Prop} (h : ∀ (r : Int) (M2 : Mem), Qf M M2 → Core M2 N → Q r r M2) : f_X11_ways a b M (fun r M1 => f_X12_ways a b M1 (fun r2 M2 => Q r r2 M2)) := by
  obtain ⟨h1, h2, h3, h4, h5⟩ := id hC
  have hP := h3.1.1
  unfold f_X11_ways
  have hok : ∀ (M' : Mem) (p : Nat) (Q : Int → Prop), NetR M' 100 N → p < N.P → Q 1 → f_X12_isPlace (p : Int) M' Q := fun M' p Q hR hp hQ => r_isPlace hR h3.1 (fun _ _ _ => hQ) (fun z => by omega)
  refine x_isPlace h1 (fun p hp e => ⟨fun z => absurd z (by omega), fun _ => ?_⟩) (fun hno => ⟨fun _ => ?_, fun z => absurd rfl z⟩)
  · subst e
    refine x_isPlace h1 (fun q hq e => ⟨fun _ => ?_, fun z => absurd z (by omega)⟩) (fun hno => ⟨fun z => absurd rfl z, fun _ => ?_⟩)
    · subst e
      refine x_howManyWays h1 h3 h4.1 hp hq (fun M1 a1 a2 => ?_)
      obtain ⟨hq1, hC1⟩ := hC.scr (M' := M1) (fun c _ _ => a1 c (by omega))
      unfold f_X12_ways
      refine hok _ p _ hC1.2.1 hp ⟨fun z => absurd z (by omega), fun _ => hok _ q _ hC1.2.1 hq ⟨fun _ => q_lays hC1 (fun M2 k1 k2 k3 k4 => r_laysWays k2.2.1 h3 k3.1 hp (fun M3 c1 c2 => ⟨by omega, ?_⟩)), fun z => absurd z (by omega)⟩⟩
      rw [tn, a2.uniq h3 c2 q hq]
      obtain ⟨hq3, hC3⟩ := k2.scr (M' := M3) (fun c _ _ => c1 c (by omega))
      exact h _ _ ((hq1.trans k1).trans hq3) hC3
    · unfold f_X12_ways
      exact hok _ p _ h2 hp ⟨fun z => absurd z (by omega), fun _ => r_isPlace h2 h3.1 (fun p hp e => by omega) (fun _ => ⟨fun z => absurd rfl z, fun _ => h _ _ (Qf.refl M) hC⟩)⟩
  · unfold f_X12_ways
    exact r_isPlace h2 h3.1 (fun p hp e => by omega) (fun _ => ⟨fun _ => h _ _ (Qf.refl M) hC, fun z => absurd rfl z⟩)
end
