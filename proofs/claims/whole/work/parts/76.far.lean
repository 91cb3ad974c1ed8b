/-! far -/
def btr (v a b : Int) : Prop := (v = 0 → a ≤ b) ∧ (v ≠ 0 → b ≤ a)
def Far (N : Nt) (v : Int) (H : Nat → Int) (fr : Nat) (S : Nat → Bool) (T : Nat → Int) : Prop := ∀ p, p < N.P → -1 ≤ T p ∧ T p ≤ H p ∧ (T p = -1 ∨ (p = fr ∧ T p = 0) ∨ ∃ q, q < N.R ∧ S q = true ∧ N.ft q = p ∧ 0 ≤ T (N.hd q) ∧ T p = T (N.hd q) + N.ln q) ∧ (p = fr → 0 ≤ T p ∧ btr v (T p) 0) ∧ (∀ q, q < N.R → S q = true → N.ft q = p → 0 ≤ T (N.hd q) → 0 ≤ T p ∧ btr v (T p) (T (N.hd q) + N.ln q))
theorem Far.congr {N : Nt} {v : Int} {H : Nat → Int} {fr : Nat} {S S' : Nat → Bool} {T : Nat → Int} (h : Far N v H fr S T) (e : ∀ q, q < N.R → S q = S' q) : Far N v H fr S' T := fun p hp => by
  obtain ⟨h1, h2, h3, h4, h5⟩ := h p hp
  refine ⟨h1, h2, ?_, h4, fun q hq hs => h5 q hq (by rw [e q hq]; exact hs)⟩
  rcases h3 with z | z | ⟨q, z1, z2, z3⟩
  · exact Or.inl z
  · exact Or.inr (Or.inl z)
  · exact Or.inr (Or.inr ⟨q, z1, by rw [← e q z1]; exact z2, z3⟩)
theorem Far.step {N : Nt} (hG : Good N) {v : Int} {H : Nat → Int} (hH : ∀ r, r < N.R → H (N.hd r) + N.ln r ≤ H (N.ft r)) {fr r : Nat} {S S' : Nat → Bool} {T T' : Nat → Int} (h : Far N v H fr S T) (hr : r < N.R) (h1 : ∀ q, q < N.R → S q = true → N.hd q ≠ N.ft r) (hS : ∀ q, q < N.R → S' q = (S q || decide (q = r))) {y : Int} (e1 : T' (N.ft r) = y) (hy : (T (N.hd r) = -1 ∧ y = T (N.ft r)) ∨ (T (N.hd r) ≠ -1 ∧ T (N.ft r) = -1 ∧ y = T (N.hd r) + N.ln r) ∨ (T (N.hd r) ≠ -1 ∧ T (N.ft r) ≠ -1 ∧ (y = T (N.ft r) ∨ y = T (N.hd r) + N.ln r) ∧ btr v y (T (N.ft r)) ∧ btr v y (T (N.hd r) + N.ln r))) (e2 : ∀ p, p < N.P → p ≠ N.ft r → T' p = T p) : Far N v H fr S' T' := by
  have hw := hG.1.2.2
  have hhf : N.hd r ≠ N.ft r := fun e => hG.2.irrefl (a := N.hd r) (Up_iff.mpr ⟨r, Ew_all hr, e.symm, Or.inl rfl⟩)
  have hS' : ∀ q, q < N.R → S' q = true → (S q = true ∨ q = r) ∧ T' (N.hd q) = T (N.hd q) := fun q hq hs => by
    rw [hS q hq] at hs
    simp only [Bool.or_eq_true, decide_eq_true_eq] at hs
    refine ⟨hs, e2 _ (hw q hq).1 ?_⟩
    rcases hs with z | z
    · exact h1 q hq z
    · rw [z]; exact hhf
  have hS2 : ∀ q, q < N.R → S q = true → S' q = true := fun q hq hs => by rw [hS q hq, hs]; rfl
  have hSr : S' r = true := by rw [hS r hr]; simp
  have hl := (hw r hr).2.2.1
  intro p hp
  obtain ⟨a1, a2, a3, a4, a5⟩ := h p hp
  obtain ⟨c1, c2, -⟩ := h (N.hd r) (hw r hr).1
  by_cases e : p = N.ft r
  · subst e
    rw [e1]
    have hHr := hH r hr
    have hold : (∃ q, q < N.R ∧ S q = true ∧ N.ft q = N.ft r ∧ 0 ≤ T (N.hd q) ∧ y = T (N.hd q) + N.ln q) → ∃ q, q < N.R ∧ S' q = true ∧ N.ft q = N.ft r ∧ 0 ≤ T' (N.hd q) ∧ y = T' (N.hd q) + N.ln q := by
      rintro ⟨q, z1, z2, z3, z4, z5⟩
      have z6 := hS2 q z1 z2
      exact ⟨q, z1, z6, z3, by rw [(hS' q z1 z6).2]; exact z4, by rw [(hS' q z1 z6).2]; exact z5⟩
    have hnew : 0 ≤ T (N.hd r) → y = T (N.hd r) + N.ln r → ∃ q, q < N.R ∧ S' q = true ∧ N.ft q = N.ft r ∧ 0 ≤ T' (N.hd q) ∧ y = T' (N.hd q) + N.ln q := fun z1 z2 => ⟨r, hr, hSr, rfl, by rw [(hS' r hr hSr).2]; exact z1, by rw [(hS' r hr hSr).2]; exact z2⟩
    rcases hy with ⟨y1, y2⟩ | ⟨y1, y2, y3⟩ | ⟨y1, y2, y3, y4, y5⟩
    · subst y2
      refine ⟨a1, a2, ?_, a4, fun q hq hs hf hh => ?_⟩
      · rcases a3 with z | z | z
        · exact Or.inl z
        · exact Or.inr (Or.inl z)
        · exact Or.inr (Or.inr (hold z))
      · obtain ⟨z1, z2⟩ := hS' q hq hs
        rw [z2] at hh ⊢
        rcases z1 with z | z
        · exact a5 q hq z hf hh
        · subst z; omega
    · refine ⟨by omega, by omega, Or.inr (Or.inr (hnew (by omega) y3)), fun z => by have := (a4 z).1; omega, fun q hq hs hf hh => ?_⟩
      obtain ⟨z1, z2⟩ := hS' q hq hs
      rw [z2] at hh ⊢
      rcases z1 with z | z
      · have := (a5 q hq z hf hh).1; omega
      · subst z; unfold btr; omega
    · refine ⟨by omega, by omega, ?_, fun z => ?_, fun q hq hs hf hh => ?_⟩
      · rcases y3 with y3 | y3
        · rw [← y3] at a3
          rcases a3 with z | z | z
          · exact Or.inl z
          · exact Or.inr (Or.inl z)
          · exact Or.inr (Or.inr (hold z))
        · exact Or.inr (Or.inr (hnew (by omega) y3))
      · obtain ⟨z1, z2⟩ := a4 z
        unfold btr at *
        omega
      · obtain ⟨z1, z2⟩ := hS' q hq hs
        rw [z2] at hh ⊢
        rcases z1 with z | z
        · have z4 := a5 q hq z hf hh
          unfold btr at *
          omega
        · subst z
          refine ⟨by omega, y5⟩
  · rw [e2 p hp e]
    refine ⟨a1, a2, ?_, a4, fun q hq hs hf hh => ?_⟩
    · rcases a3 with z | z | ⟨q, z1, z2, z3, z4, z5⟩
      · exact Or.inl z
      · exact Or.inr (Or.inl z)
      · have z6 := hS2 q z1 z2
        exact Or.inr (Or.inr ⟨q, z1, z6, z3, by rw [(hS' q z1 z6).2]; exact z4, by rw [(hS' q z1 z6).2]; exact z5⟩)
    · obtain ⟨z1, z2⟩ := hS' q hq hs
      rw [z2] at hh ⊢
      rcases z1 with z | z
      · exact a5 q hq z hf hh
      · subst z; exact absurd hf.symm e
theorem Far.uniq {N : Nt} (hG : Good N) {v : Int} {H H' : Nat → Int} {fr : Nat} {S : Nat → Bool} {T T' : Nat → Int} (h : Far N v H fr S T) (h' : Far N v H' fr S T') : ∀ p, p < N.P → T p = T' p := by
  refine hG.2.ind (C := fun p => p < N.P → T p = T' p) (fun p ih hp => ?_)
  obtain ⟨a1, a2, a3, a4, a5⟩ := h p hp
  obtain ⟨b1, b2, b3, b4, b5⟩ := h' p hp
  have k1 : T p = -1 ∨ (0 ≤ T' p ∧ btr v (T' p) (T p)) := by
    rcases a3 with z | ⟨z1, z2⟩ | ⟨q, z1, z2, z3, z4, z5⟩
    · exact Or.inl z
    · rw [z2]; exact Or.inr (b4 z1)
    · have e := ih q (Ew_all z1) z3 (hG.1.2.2 q z1).1
      rw [z5]
      rw [e] at z4 ⊢
      exact Or.inr (b5 q z1 z2 z3 z4)
  have k2 : T' p = -1 ∨ (0 ≤ T p ∧ btr v (T p) (T' p)) := by
    rcases b3 with z | ⟨z1, z2⟩ | ⟨q, z1, z2, z3, z4, z5⟩
    · exact Or.inl z
    · rw [z2]; exact Or.inr (a4 z1)
    · have e := ih q (Ew_all z1) z3 (hG.1.2.2 q z1).1
      rw [z5]
      rw [← e] at z4 ⊢
      exact Or.inr (a5 q z1 z2 z3 z4)
  unfold btr at *
  omega
section
variable {M : Mem} {N : Nt}
theorem x_lengthOfWay {fr to : Nat} {v : Int} (hN : NetX M 12 N) (hG : Good N) (hF : FigX M 20 N) (hfr : fr < N.P) (hto : to < N.P) {Q : Int → Mem → Prop} (h : ∀ M' : Mem, (∀ c, c ≠ 69 → M' c = M c) → Far N v (M 27) fr (fun _ => true) (M' 69) → Q (M' 69 to) M') : f_X7_lengthOfWay 12 20 (fr : Int) (to : Int) v M Q := by
  obtain ⟨hP20, hR30, hr⟩ := id hG.1
  obtain ⟨⟨gg, pos, b, t1, t2, hB, t4⟩, -, -, -, hH, -⟩ := id hF
  obtain ⟨bp, hbp⟩ := hB.inv
  obtain ⟨b1, b2, b3, b4, b5⟩ := hB
  have hbpb : ∀ k, k < N.R → bp (b k) = k := fun k hk => b2 _ _ (hbp _ (b1 k hk)).1 hk (hbp _ (b1 k hk)).2
  have hHs : ∀ r, r < N.R → M 27 (N.hd r) + N.ln r ≤ M 27 (N.ft r) := fun r hr' => (hH _ (hr r hr').2.1).2.2.1 r hr' rfl
  unfold f_X7_lengthOfWay
  rintro _ rfl
  refine ⟨by omega, ?_⟩
  rintro _ rfl
  rw [tn]
  refine wl2_inv (I := fun (x : Int) (M' : Mem) => ∃ i : Nat, x = i ∧ i ≤ N.R ∧ (∀ c, c ≠ 69 → M' c = M c) ∧ Far N v (M 27) fr (fun q => decide (bp q < i)) (M' 69)) (μ := fun (x : Int) (_ : Mem) => N.R - x.toNat) ?_ 5000 _ _ ⟨0, rfl, by omega, fun c hc => by rw [st_o hc, fil_n hc], fun p hp => ?_⟩ (by simp; omega)
  rotate_left
  · have hp0 := (hH p hp).1
    have hp0 : 0 ≤ M 27 p := hp0
    have ev : st (fil M 69 20 (-1)) 69 fr 0 69 p = if p = fr then 0 else -1 := by rw [st_s, fil_e, if_pos (show p < 20 by omega)]
    rw [ev]
    refine ⟨by split <;> omega, by split <;> omega, ?_, fun z => by rw [if_pos z]; unfold btr; omega, fun q _ hs => by simp at hs⟩
    by_cases e : p = fr
    · rw [if_pos e]; exact Or.inr (Or.inl ⟨e, rfl⟩)
    · rw [if_neg e]; exact Or.inl rfl
  rintro rec x M' ⟨i, rfl, hi, g1, g2⟩ hrec
  unfold X7_lengthOfWay_b18
  have hN' : NetX M' 12 N := hN.of (fun c _ _ => g1 c (by omega))
  rw [hN'.2.1]
  refine ⟨fun c => ⟨by omega, ?_⟩, fun c => ⟨by omega, ?_⟩⟩
  · rw [tn]
    exact h M' g1 (g2.congr (fun q hq => by have := (hbp q hq).1; simp; omega))
  · have hiR : i < N.R := by omega
    rintro _ rfl
    rw [tn, g1 (20 + 2) (by omega), t4 i hiR]
    have hbi := b1 i hiR
    obtain ⟨x1, x2, x3, -, -⟩ := hN'.2.2 (b i) hbi
    obtain ⟨w1, w2, w3, w4, -⟩ := hr (b i) hbi
    refine ⟨by omega, ?_⟩
    rw [tn, x1, x2, x3]
    refine ⟨by omega, ?_⟩
    rw [tn, tn]
    obtain ⟨A1, A2, -⟩ := g2 (N.ft (b i)) w2
    obtain ⟨B1, B2, -⟩ := g2 (N.hd (b i)) w1
    have H1 := (hH (N.hd (b i)) w1).2.1
    have H1 : M 27 (N.hd (b i)) ≤ 2970 := H1
    have hns : ∀ q, q < N.R → decide (bp q < i) = true → N.hd q ≠ N.ft (b i) := fun q hq hs e => by
      simp only [decide_eq_true_eq] at hs
      have := b4 i (bp q) hiR (hbp q hq).1 (by rw [(hbp q hq).2]; exact e.symm)
      omega
    have hskip : (M' 69 (N.hd (b i)) = -1 ∨ (M' 69 (N.hd (b i)) ≠ -1 ∧ M' 69 (N.ft (b i)) ≠ -1 ∧ btr v (M' 69 (N.ft (b i))) (M' 69 (N.hd (b i)) + N.ln (b i)))) → inR ((i : Int) + 1) ∧ ∀ z : Int, z = (i : Int) + 1 → rec z M' := fun hh => by
      refine ⟨by unfold inR; omega, ?_⟩
      rintro _ rfl
      refine hrec _ _ ⟨i + 1, by omega, by omega, g1, ?_⟩ (by omega)
      refine g2.step hG hHs hbi hns (fun q hq => bp_new hbp hbpb hiR hq) rfl ?_ (fun p hp e => rfl)
      rcases hh with z | ⟨z1, z2, z3⟩
      · exact Or.inl ⟨z, rfl⟩
      · exact Or.inr (Or.inr ⟨z1, z2, Or.inl rfl, by unfold btr; omega, z3⟩)
    refine ⟨fun c1 => ⟨by unfold inR; omega, ?_⟩, fun c1 => hskip (Or.inl c1)⟩
    rintro _ rfl
    refine ⟨by omega, ?_⟩
    rintro _ rfl
    refine jn_use (P := fun J => (M' 69 (N.ft (b i)) = -1 ∨ btr v (M' 69 (N.hd (b i)) + N.ln (b i)) (M' 69 (N.ft (b i)))) → J) ?_ ?_
    · intro hh
      rintro _ rfl
      refine ⟨by unfold inR; omega, ?_⟩
      rintro _ rfl
      refine hrec _ _ ⟨i + 1, by omega, by omega, fun c hc => by rw [st_o hc]; exact g1 c hc, ?_⟩ (by omega)
      refine g2.step hG hHs hbi hns (fun q hq => bp_new hbp hbpb hiR hq) (y := M' 69 (N.hd (b i)) + N.ln (b i)) (by rw [st_s, if_pos rfl]) ?_ (fun p hp e => by rw [st_s, if_neg e])
      by_cases z : M' 69 (N.ft (b i)) = -1
      · exact Or.inr (Or.inl ⟨c1, z, rfl⟩)
      · exact Or.inr (Or.inr ⟨c1, z, Or.inr rfl, hh.elim (fun y => absurd y z) id, by unfold btr; omega⟩)
    · intro J hJ
      refine ⟨fun c2 => hJ (Or.inl c2), fun c2 => ⟨fun c3 => ⟨fun c4 => hskip (Or.inr ⟨c1, c2, by unfold btr; omega⟩), fun c4 => hJ (Or.inr (by unfold btr; omega))⟩, fun c3 => ⟨fun c4 => hskip (Or.inr ⟨c1, c2, by unfold btr; omega⟩), fun c4 => hJ (Or.inr (by unfold btr; omega))⟩⟩⟩
theorem r_laysFar {fr : Nat} {v : Int} (hN : NetR M 100 N) (hG : Good N) (hF : RFig M N) (hfr : fr < N.P) {Q : Mem → Prop} (h : ∀ M' : Mem, (∀ c, c ≠ 116 → M' c = M c) → Far N v (M 108) fr (fun _ => true) (M' 116) → Q M') : f_X12_laysFar (fr : Int) v M Q := by
  obtain ⟨hP20, hR30, hr⟩ := id hG.1
  obtain ⟨⟨g, pos, ⟨t1, t2, t3⟩, ho⟩, -, -, -, hH, -⟩ := id hF
  have hHs : ∀ r, r < N.R → M 108 (N.hd r) + N.ln r ≤ M 108 (N.ft r) := fun r hr' => (hH _ (hr r hr').2.1).2.2.1 r hr' rfl
  unfold f_X12_laysFar
  refine jn_use (P := fun J => ∀ M1 : Mem, (∀ c, c ≠ 116 → M1 c = M c) → (∀ p, p < N.P → M1 116 p = if p = fr then 0 else -1) → J M1) ?_ ?_
  · intro M1 f1 f2
    refine wl2_inv (I := fun (x : Int) (M' : Mem) => ∃ k : Nat, x = (k : Int) ∧ k ≤ N.P ∧ (∀ c, c ≠ 116 → M' c = M c) ∧ Far N v (M 108) fr (lexf N pos k 0) (M' 116)) (μ := fun (x : Int) (_ : Mem) => N.P - x.toNat) ?_ 5000 _ _ ⟨0, rfl, by omega, f1, fun p hp => ?_⟩ (by simp; omega)
    rotate_left
    · have hp0 := (hH p hp).1
      rw [f2 p hp]
      refine ⟨by split <;> omega, by split <;> omega, ?_, fun z => by rw [if_pos z]; unfold btr; omega, fun q _ hs => by unfold lexf at hs; simp at hs⟩
      by_cases e : p = fr
      · rw [if_pos e]; exact Or.inr (Or.inl ⟨e, rfl⟩)
      · rw [if_neg e]; exact Or.inl rfl
    rintro rec x M' ⟨k, rfl, hk, g1, g2⟩ hrec
    unfold X12_laysFar_b36
    have hN' : NetR M' 100 N := hN.of (g1 100 (by omega))
    refine r_places hN' ⟨fun c => ?_, fun c => ?_⟩
    · refine h M' g1 (g2.congr (fun q hq => ?_))
      have := (t2 _ (hr q hq).2.1).1
      unfold lexf
      simp; omega
    · refine wl2_inv (I := fun (x : Int) (M' : Mem) => ∃ j : Nat, x = j ∧ j ≤ N.R ∧ (∀ c, c ≠ 116 → M' c = M c) ∧ Far N v (M 108) fr (lexf N pos k j) (M' 116)) (μ := fun (x : Int) (_ : Mem) => N.R - x.toNat) ?_ 5000 _ _ ⟨0, rfl, by omega, g1, g2⟩ (by simp; omega)
      clear g1 g2 hN'
      rintro rec' x M' ⟨j, rfl, hj, g1, g2⟩ hrec'
      unfold X12_laysFar_b47
      have hN' : NetR M' 100 N := hN.of (g1 100 (by omega))
      refine r_reaches hN' ⟨fun c2 => ⟨by unfold inR; omega, ?_⟩, fun c2 => ?_⟩
      · rintro _ rfl
        have e : j = N.R := by omega
        subst e
        exact hrec _ _ ⟨k + 1, by omega, by omega, g1, g2.congr (fun q hq => lexf_end hq)⟩ (by omega)
      · have hjR : j < N.R := by omega
        obtain ⟨w1, w2, w3, w4, -⟩ := hr j hjR
        have hor : M' 101 k = g k := by rw [g1 101 (by omega)]; exact ho k (by omega)
        refine r_hd hN' hG.1 hjR (r_ft hN' hG.1 hjR ⟨by omega, ?_⟩)
        rw [tn, hor]
        refine ⟨fun c3 => ⟨by unfold inR; omega, ?_⟩, fun c3 => ⟨by omega, ?_⟩⟩
        · rintro _ rfl
          have hne : pos (N.ft j) ≠ k := fun e => c3 (by rw [← e, (t2 _ w2).2])
          exact hrec' _ _ ⟨j + 1, by omega, by omega, g1, g2.congr (fun q _ => (lexf_skip hne q).symm)⟩ (by omega)
        · have hfk : N.ft j = g k := by omega
          have hpk : pos (N.ft j) = k := by rw [hfk]; exact (t1 k (by omega)).2
          rw [tn, tn, ← hfk]
          obtain ⟨A1, A2, -⟩ := g2 (N.ft j) w2
          obtain ⟨B1, B2, -⟩ := g2 (N.hd j) w1
          have H1 := (hH (N.hd j) w1).2.1
          have hns : ∀ q, q < N.R → lexf N pos k j q = true → N.hd q ≠ N.ft j := fun q hq hs e => by
            have z := t3 q hq
            unfold lexf at hs
            simp only [decide_eq_true_eq] at hs
            rw [e, hpk] at z
            omega
          have hskip : (M' 116 (N.hd j) = -1 ∨ (M' 116 (N.hd j) ≠ -1 ∧ M' 116 (N.ft j) ≠ -1 ∧ btr v (M' 116 (N.ft j)) (M' 116 (N.hd j) + N.ln j))) → inR ((j : Int) + 1) ∧ ∀ z : Int, z = (j : Int) + 1 → rec' z M' := fun hh => by
            refine ⟨by unfold inR; omega, ?_⟩
            rintro _ rfl
            refine hrec' _ _ ⟨j + 1, by omega, by omega, g1, ?_⟩ (by omega)
            refine g2.step hG hHs hjR hns (fun q _ => lexf_new hpk q) rfl ?_ (fun p hp e => rfl)
            rcases hh with z | ⟨z1, z2, z3⟩
            · exact Or.inl ⟨z, rfl⟩
            · exact Or.inr (Or.inr ⟨z1, z2, Or.inl rfl, by unfold btr; omega, z3⟩)
          rw [cmpI_ge]
          refine ⟨fun c4 => r_ln hN' hG.1 hjR ⟨by unfold inL; omega, ?_⟩, fun c4 => hskip (Or.inl (by omega))⟩
          rintro _ rfl
          refine ⟨by omega, ?_⟩
          refine jn_use (P := fun J => (M' 116 (N.ft j) = -1 ∨ btr v (M' 116 (N.hd j) + N.ln j) (M' 116 (N.ft j))) → J) ?_ ?_
          · intro hh
            refine ⟨by unfold inR; omega, ?_⟩
            rintro _ rfl
            refine ⟨by unfold inR; omega, ?_⟩
            rintro _ rfl
            refine hrec' _ _ ⟨j + 1, by omega, by omega, fun c hc => by rw [st_o hc]; exact g1 c hc, ?_⟩ (by omega)
            refine g2.step hG hHs hjR hns (fun q _ => lexf_new hpk q) (y := M' 116 (N.hd j) + N.ln j) (by rw [st_s, if_pos rfl]) ?_ (fun p hp e => by rw [st_s, if_neg e])
            by_cases z : M' 116 (N.ft j) = -1
            · exact Or.inr (Or.inl ⟨by omega, z, rfl⟩)
            · exact Or.inr (Or.inr ⟨by omega, z, Or.inr rfl, hh.elim (fun y => absurd y z) id, by unfold btr; omega⟩)
          · intro J hJ
            rw [cmpI_lt, cmpI_ge, cmpI_le]
            refine ⟨fun c2 => hJ (Or.inl (by omega)), fun c2 => ⟨fun c3 => ⟨fun c5 => hskip (Or.inr ⟨by omega, by omega, by unfold btr; omega⟩), fun c5 => hJ (Or.inr (by unfold btr; omega))⟩, fun c3 => ⟨fun c5 => hskip (Or.inr ⟨by omega, by omega, by unfold btr; omega⟩), fun c5 => hJ (Or.inr (by unfold btr; omega))⟩⟩⟩
  · intro J hJ
    refine wl2_inv (I := fun (x : Int) (M' : Mem) => ∃ k : Nat, x = k ∧ k ≤ N.P ∧ (∀ c, c ≠ 116 → M' c = M c) ∧ (∀ p, p < k → M' 116 p = if p = fr then 0 else -1)) (μ := fun (x : Int) (_ : Mem) => N.P - x.toNat) ?_ 5000 _ _ ⟨0, rfl, by omega, fun c _ => rfl, fun p hp => by omega⟩ (by simp; omega)
    rintro rec x M' ⟨k, rfl, hk, g1, g2⟩ hrec
    unfold X12_laysFar_b2
    have hN' : NetR M' 100 N := hN.of (g1 100 (by omega))
    refine r_places hN' ⟨fun c => ?_, fun c => ?_⟩
    · have e : k = N.P := by omega
      subst e
      exact hJ M' g1 g2
    · have hst : ∀ x : Int, x = (if k = fr then 0 else -1) → (0 ≤ (k : Int) ∧ (k : Int) < 20) ∧ ∀ M_42 : Mem, M_42 = st M' 116 ((k : Int).toNat) x → inR ((k : Int) + 1) ∧ ∀ v2_43 : Int, v2_43 = (k : Int) + 1 → rec v2_43 M_42 := by
        intro x hx
        refine ⟨by omega, ?_⟩
        rintro _ rfl
        refine ⟨by unfold inR; omega, ?_⟩
        rintro _ rfl
        refine hrec _ _ ⟨k + 1, by omega, by omega, fun c q1 => by rw [st_o q1]; exact g1 c q1, fun p hp => ?_⟩ (by omega)
        rw [st_s, tn]
        by_cases q : p = k
        · rw [if_pos q, hx, q]
        · rw [if_neg q]; exact g2 p (by omega)
      exact ⟨fun z => hst (-1) (by rw [if_neg (by omega)]), fun z => hst 0 (by rw [if_pos (by omega)])⟩
theorem q_far {a b d : Int} (hC : Core M N) {Q : Int → Int → Mem → Prop} (h : ∀ (r : Int) (M2 : Mem), Qf M M2 → Core M2 N → Q r r M2) : f_X11_far a b d M (fun r M1 => f_X12_far a b d M1 (fun r2 M2 => Q r r2 M2)) := by
  obtain ⟨h1, h2, h3, h4, h5⟩ := id hC
  have hP := h3.1.1
  unfold f_X11_far
  have hok : ∀ (M' : Mem) (p : Nat) (Q : Int → Prop), NetR M' 100 N → p < N.P → Q 1 → f_X12_isPlace (p : Int) M' Q := fun M' p Q hR hp hQ => r_isPlace hR h3.1 (fun _ _ _ => hQ) (fun z => by omega)
  refine x_isPlace h1 (fun p hp e => ⟨fun z => absurd z (by omega), fun _ => ?_⟩) (fun hno => ⟨fun _ => ?_, fun z => absurd rfl z⟩)
  · subst e
    refine x_isPlace h1 (fun q hq e => ⟨fun z => absurd z (by omega), fun _ => ?_⟩) (fun hno => ⟨fun _ => ?_, fun z => absurd rfl z⟩)
    · subst e
      have hbad : ¬ (0 ≤ d ∧ d ≤ 1) → f_X12_far (p : Int) (q : Int) d M (fun r2 M2 => Q (-1) r2 M2) := fun hd => by
        unfold f_X12_far
        exact hok _ p _ h2 hp ⟨fun z => absurd z (by omega), fun _ => hok _ q _ h2 hq ⟨fun z => absurd z (by omega), fun _ => r_isIn (fun z1 z2 => absurd ⟨z1, z2⟩ hd) (fun _ => ⟨fun z => absurd rfl z, fun _ => h _ _ (Qf.refl M) hC⟩)⟩⟩
      refine ⟨fun c => hbad (by omega), fun c => ⟨fun c2 => ?_, fun c2 => hbad (by omega)⟩⟩
      have hgo : ∀ v : Int, v = (if d = 1 then 1 else 0) → f_X7_lengthOfWay 12 20 (p : Int) (q : Int) v M (fun r M1 => f_X12_far (p : Int) (q : Int) d M1 (fun r2 M2 => Q r r2 M2)) := by
        intro v hv
        refine x_lengthOfWay h1 h3 h4.1 hp hq (fun M1 a1 a2 => ?_)
        obtain ⟨hq1, hC1⟩ := hC.scr (M' := M1) (fun c _ _ => a1 c (by omega))
        unfold f_X12_far
        refine hok _ p _ hC1.2.1 hp ⟨fun z => absurd z (by omega), fun _ => hok _ q _ hC1.2.1 hq ⟨fun z => absurd z (by omega), fun _ => r_isIn (fun _ _ => ⟨fun _ => q_lays hC1 (fun M2 k1 k2 k3 k4 => ?_), fun z => absurd z (by omega)⟩) (fun z => by omega)⟩⟩
        have hend : ∀ v' : Int, v' = v → f_X12_laysFar (p : Int) v' M2 (fun M_9 => (0 ≤ (q : Int) ∧ (q : Int) < 20) ∧ Q (M1 69 q) (M_9 116 ((q : Int).toNat)) M_9) := by
          rintro _ rfl
          refine r_laysFar k2.2.1 h3 k3.1 hp (fun M3 c1 c2 => ⟨by omega, ?_⟩)
          rw [tn, a2.uniq h3 c2 q hq]
          obtain ⟨hq3, hC3⟩ := k2.scr (M' := M3) (fun c _ _ => c1 c (by omega))
          exact h _ _ ((hq1.trans k1).trans hq3) hC3
        exact jn_use (P := fun J => ∀ v' : Int, v' = v → J v') hend (fun J hJ => ⟨fun z => hJ 0 (by rw [hv, if_neg z]), fun z => hJ 1 (by rw [hv, if_pos z])⟩)
      exact jn_use (P := fun J => ∀ v : Int, v = (if d = 1 then 1 else 0) → J v) hgo (fun J hJ => ⟨fun z => hJ 0 (by rw [if_neg z]), fun z => hJ 1 (by rw [if_pos z])⟩)
    · unfold f_X12_far
      exact hok _ p _ h2 hp ⟨fun z => absurd z (by omega), fun _ => r_isPlace h2 h3.1 (fun p hp e => by omega) (fun _ => ⟨fun _ => h _ _ (Qf.refl M) hC, fun z => absurd rfl z⟩)⟩
  · unfold f_X12_far
    exact r_isPlace h2 h3.1 (fun p hp e => by omega) (fun _ => ⟨fun _ => h _ _ (Qf.refl M) hC, fun z => absurd rfl z⟩)
end
