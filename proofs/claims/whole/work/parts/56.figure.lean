/-! all figures of the class -/
def BitsUp (N : Nt) (u : Nat → Int) : Prop := ∀ p, p < 20 → inR (u p) ∧ ∀ q, tb (u p) q = true ↔ Up (Ew N.R (-1)) N.hd N.ft q p
def BitsDown (N : Nt) (u : Nat → Int) : Prop := ∀ p, p < 20 → inR (u p) ∧ ∀ q, tb (u p) q = true ↔ Up (Ew N.R (-1)) N.hd N.ft p q
def FigX (M : Mem) (n : Nat) (N : Nt) : Prop := (∃ g pos b, Topo N g pos ∧ (∀ i, i < N.P → M (n + 1) i = g i) ∧ ByH N b ∧ (∀ k, k < N.R → M (n + 2) k = b k)) ∧ (∀ p, p < 20 → M (n + 3) p = nin N p ∧ M (n + 4) p = nout N p) ∧ BitsUp N (M (n + 5)) ∧ BitsDown N (M (n + 6)) ∧ Hgt N.R N.hd N.ft N.ln N.P (M (n + 7)) ∧ Hgt N.R N.ft N.hd N.ln N.P (M (n + 8)) ∧ (inR (M n 11) ∧ ∀ p, tb (M n 11) p = true ↔ isS N p) ∧ (inR (M n 12) ∧ ∀ p, tb (M n 12) p = true ↔ isM N p) ∧ (∀ r, r < N.R → M (n + 9) r = bAnd (bOr (M (n + 5) (N.hd r)) (bShl 1 (N.hd r : Int))) (M n 11)) ∧ Mtt N (M (n + 9)) (M (n + 10)) ∧ Flw N (-1) (M (n + 12)) (M (n + 13))
def StX (M : Mem) (n g : Nat) (N : Nt) (w : Int) : Prop := (∀ p, p < 20 → MIn N (M (g + 12)) (M (g + 7)) w p (M (n + 1) p)) ∧ (∀ p, p < 20 → MOut N (M (g + 12)) w p (M (n + 2) p)) ∧ Jnd N (M (n + 1)) (M (n + 2)) (M (n + 3)) (M (n + 4)) ∧ Brn N (M (n + 3)) (M (n + 5)) ∧ ∃ c1, Crw N (M (n + 3)) (M (n + 4)) (M (g + 10)) c1 (M (n + 6))
theorem FigX.of {M M' : Mem} {n : Nat} {N : Nt} (h : FigX M n N) (e : ∀ c, n ≤ c → c ≤ n + 13 → M' c = M c) : FigX M' n N := by
  unfold FigX
  rw [e n (by omega) (by omega), e (n + 1) (by omega) (by omega), e (n + 2) (by omega) (by omega), e (n + 3) (by omega) (by omega), e (n + 4) (by omega) (by omega), e (n + 5) (by omega) (by omega), e (n + 6) (by omega) (by omega), e (n + 7) (by omega) (by omega), e (n + 8) (by omega) (by omega), e (n + 9) (by omega) (by omega), e (n + 10) (by omega) (by omega), e (n + 12) (by omega) (by omega), e (n + 13) (by omega) (by omega)]
  exact h
theorem StX.of {M M' : Mem} {n g : Nat} {N : Nt} {w : Int} (h : StX M n g N w) (e : ∀ c, n < c → c ≤ n + 6 → M' c = M c) (e2 : ∀ c, g < c → c ≤ g + 13 → M' c = M c) : StX M' n g N w := by
  unfold StX
  rw [e (n + 1) (by omega) (by omega), e (n + 2) (by omega) (by omega), e (n + 3) (by omega) (by omega), e (n + 4) (by omega) (by omega), e (n + 5) (by omega) (by omega), e (n + 6) (by omega) (by omega), e2 (g + 7) (by omega) (by omega), e2 (g + 10) (by omega) (by omega), e2 (g + 12) (by omega) (by omega)]
  exact h
section
variable {M : Mem} {N : Nt} {n a g : Nat}
theorem x_figure (hN : NetX M a N) (hG : Good N) (ha : a + 5 < n) (hl : lenS (shp (n + 2)) = 30) {Q : Mem → Prop} (h : ∀ M' : Mem, (∀ c, c < n ∨ n + 15 < c → M' c = M c) → FigX M' n N → Q M') : f_X1_figure n a M Q := by
  have hW := hG.1
  unfold f_X1_figure
  refine x_countEnds hN hW ha (fun M1 a1 a2 a3 a4 a5 => ?_)
  refine x_sortPlaces (hN.of (fun c _ _ => a1 c (by omega) (by omega) (by omega))) hG ha (fun M2 gg pos b1 b2 b3 => ?_)
  have hN2 : NetX M2 a N := hN.of (fun c _ _ => by rw [b1 c (by omega) (by omega), a1 c (by omega) (by omega) (by omega)])
  refine x_sortReaches hN2 hG ha b2 b3 (fun M3 b c1 c2 c3 => ?_)
  have hN3 : NetX M3 a N := hN2.of (fun c _ _ => c1 c (by omega))
  refine x_lookUp hN3 hW ha c2 c3 (fun M4 d1 d2 d3 => ?_)
  have hN4 : NetX M4 a N := hN3.of (fun c _ _ => d1 c (by omega) (by omega))
  have hb4 : ∀ k, k < N.R → M4 (n + 2) k = b k := by rw [d1 (n + 2) (by omega) (by omega)]; exact c3
  refine x_lookDown hN4 hW ha c2 hb4 (fun M5 e1 e2 e3 => ?_)
  have hN5 : NetX M5 a N := hN4.of (fun c _ _ => e1 c (by omega) (by omega))
  have hb5 : ∀ k, k < N.R → M5 (n + 2) k = b k := by rw [e1 (n + 2) (by omega) (by omega)]; exact hb4
  refine x_spread hl (by omega) hN5 hW (by omega) c2 hb5 (fun M6 f1 f2 => ?_)
  have hN6 : NetX M6 a N := hN5.of (fun c _ _ => f1 c (by omega))
  refine x_findSprings hN6 hW ha (fun M7 g1 g2 => ?_)
  have hN7 : NetX M7 a N := hN6.of (fun c _ _ => g1 c (by omega))
  have hb7 : ∀ k, k < N.R → M7 (n + 2) k = b k := by rw [g1 (n + 2) (by omega), f1 (n + 2) (by omega)]; exact hb5
  refine x_findMet hN7 hW ha c2 hb7 (fun M8 h1 h2 => ?_)
  have z : ∀ c, c ≠ n + 10 → c ≠ n + 9 → (c < n + 12 ∨ n + 15 < c) → c ≠ n + 6 → c ≠ n + 8 → M8 c = M4 c := fun c q1 q2 q3 q4 q5 => by rw [h1 c q1, g1 c q2, f1 c (by omega), e1 c q4 q5]
  refine h M8 (fun c hc => ?_) ⟨⟨gg, pos, b, b2, ?_, c2, ?_⟩, ?_, ?_, ?_, ?_, ?_, ?_, ?_, ?_, ?_, ?_⟩
  · rw [z c (by omega) (by omega) (by omega) (by omega) (by omega), d1 c (by omega) (by omega), c1 c (by omega), b1 c (by omega) (by omega), a1 c (by omega) (by omega) (by omega)]
  · rw [z _ (by omega) (by omega) (by omega) (by omega) (by omega), d1 _ (by omega) (by omega), c1 _ (by omega)]; exact b3
  · rw [z _ (by omega) (by omega) (by omega) (by omega) (by omega)]; exact hb4
  · rw [z (n + 3) (by omega) (by omega) (by omega) (by omega) (by omega), z (n + 4) (by omega) (by omega) (by omega) (by omega) (by omega), d1 _ (by omega) (by omega), d1 _ (by omega) (by omega), c1 _ (by omega), c1 _ (by omega), b1 _ (by omega) (by omega), b1 _ (by omega) (by omega)]; exact a3
  · rw [z _ (by omega) (by omega) (by omega) (by omega) (by omega)]; exact d2
  · rw [h1 _ (by omega), g1 _ (by omega), f1 _ (by omega)]; exact e2
  · rw [z _ (by omega) (by omega) (by omega) (by omega) (by omega)]; exact d3
  · rw [h1 _ (by omega), g1 _ (by omega), f1 _ (by omega)]; exact e3
  · rw [z n (by omega) (by omega) (by omega) (by omega) (by omega), d1 _ (by omega) (by omega), c1 _ (by omega), b1 _ (by omega) (by omega)]; exact a4
  · rw [z n (by omega) (by omega) (by omega) (by omega) (by omega), d1 _ (by omega) (by omega), c1 _ (by omega), b1 _ (by omega) (by omega)]; exact a5
  · intro r hr
    rw [h1 (n + 9) (by omega), h1 (n + 5) (by omega), h1 n (by omega), g1 (n + 5) (by omega), g1 n (by omega)]
    exact g2 r hr
  · rw [h1 (n + 9) (by omega)]; exact h2
  · rw [h1 (n + 12) (by omega), h1 (n + 13) (by omega), g1 (n + 12) (by omega), g1 (n + 13) (by omega)]; exact f2
theorem x_build {s : Nat} {w : Int} (hN : NetX M a N) (hG : Good N) (ha : a + 5 < n) (hg : g + 15 < n) (hF : FigX M g N) (hw : 0 ≤ w ∧ w < 3) (hs : w = 2 → s + 6 < n ∧ StX M s g N 0) {Q : Mem → Prop} (h : ∀ M' : Mem, (∀ c, c < n + 1 ∨ n + 6 < c → M' c = M c) → StX M' n g N w → Q M') : f_X9_build n a g w s M Q := by
  have hW := hG.1
  obtain ⟨⟨gg, pos, b, t1, t2, t3, t4⟩, -, -, -, hH, -⟩ := id hF
  have hP := hW.1
  have hend : ∀ M1 : Mem, (∀ c, c ≠ n + 1 → c ≠ n + 2 → M1 c = M c) → (∀ p, p < 20 → MIn N (M (g + 12)) (M (g + 7)) w p (M1 (n + 1) p)) → (∀ p, p < 20 → MOut N (M (g + 12)) w p (M1 (n + 2) p)) → f_X9_join n a M1 (fun M_4 => f_X9_findBranches n a g M_4 (fun M_5 => f_X9_findCrowns n a g M_5 (fun M_6 => Q M_6))) := by
    intro M1 f1 f2 f3
    have hN1 : NetX M1 a N := hN.of (fun c _ _ => f1 c (by omega) (by omega))
    refine x_join hN1 hW ha (fun p hp => (f2 p (by omega)).rng) (fun p hp => (f3 p (by omega)).rng) (fun M2 a1 a2 => ?_)
    have hN2 : NetX M2 a N := hN1.of (fun c _ _ => a1 c (by omega) (by omega))
    have hx : Nxt N (M2 (n + 3)) (M2 (n + 4)) := a2.nxt hW (fun p hp => f2 p (by omega)) (fun p hp => f3 p (by omega))
    refine x_findBranches hN2 hW ha hg t3 (by rw [a1 _ (by omega) (by omega), f1 _ (by omega) (by omega)]; exact t4) hx (fun M3 b1 b2 => ?_)
    have hN3 : NetX M3 a N := hN2.of (fun c _ _ => b1 c (by omega))
    have hx3 : Nxt N (M3 (n + 3)) (M3 (n + 4)) := by rw [b1 _ (by omega), b1 _ (by omega)]; exact hx
    refine x_findCrowns hN3 hW ha hg t3 (by rw [b1 _ (by omega), a1 _ (by omega) (by omega), f1 _ (by omega) (by omega)]; exact t4) hx3 (fun M4 c1 d1 d2 => ?_)
    have y : ∀ c, c ≠ n + 1 → c ≠ n + 2 → c ≠ n + 3 → c ≠ n + 4 → c ≠ n + 5 → c ≠ n + 6 → M4 c = M c := fun c q1 q2 q3 q4 q5 q6 => by rw [d1 c q6, b1 c q5, a1 c q3 q4, f1 c q1 q2]
    refine h M4 (fun c hc => y c (by omega) (by omega) (by omega) (by omega) (by omega) (by omega)) ⟨?_, ?_, ?_, ?_, c1, ?_⟩
    · rw [y (g + 12) (by omega) (by omega) (by omega) (by omega) (by omega) (by omega), y (g + 7) (by omega) (by omega) (by omega) (by omega) (by omega) (by omega), d1 _ (by omega), b1 _ (by omega), a1 _ (by omega) (by omega)]; exact f2
    · rw [y (g + 12) (by omega) (by omega) (by omega) (by omega) (by omega) (by omega), d1 _ (by omega), b1 _ (by omega), a1 _ (by omega) (by omega)]; exact f3
    · rw [d1 (n + 1) (by omega), d1 (n + 2) (by omega), d1 (n + 3) (by omega), d1 (n + 4) (by omega), b1 (n + 1) (by omega), b1 (n + 2) (by omega), b1 (n + 3) (by omega), b1 (n + 4) (by omega), a1 (n + 1) (by omega) (by omega), a1 (n + 2) (by omega) (by omega)]; exact a2
    · rw [d1 (n + 3) (by omega), d1 (n + 5) (by omega), b1 (n + 3) (by omega)]; exact b2
    · rw [d1 (n + 3) (by omega), d1 (n + 4) (by omega), d1 (g + 10) (by omega)]; exact d2
  have hmains : ∀ v : Int, v = (if w = 1 then 1 else 0) → f_X9_findMains n a g v M (fun M_2 => jn (τ := Mem → Prop) (fun (M_3 : Mem) => f_X9_join n a M_3 (fun M_4 => f_X9_findBranches n a g M_4 (fun M_5 => f_X9_findCrowns n a g M_5 (fun M_6 => Q M_6)))) (fun J28 => (¬ w = 2 → (J28 M_2)) ∧ (w = 2 → (f_X9_preferNames n a s M_2 (fun M_7 => J28 M_7))))) := by
    intro v hv
    refine x_findMains hN hW ha hg (fun p hp => ⟨(hH p hp).1, (hH p hp).2.1⟩) (fun M1 f1 f2 f3 => ?_)
    refine jn_use (P := fun J => ∀ M2 : Mem, (∀ c, c ≠ n + 1 → c ≠ n + 2 → M2 c = M c) → (∀ p, p < 20 → MIn N (M (g + 12)) (M (g + 7)) w p (M2 (n + 1) p)) → (∀ p, p < 20 → MOut N (M (g + 12)) w p (M2 (n + 2) p)) → J M2) hend ?_
    intro J hJ
    refine ⟨fun c => hJ M1 f1 (fun p hp => Or.inl ⟨c, by rw [← hv]; exact f2 p hp⟩) (fun p hp => Or.inl ⟨c, f3 p hp⟩), fun c => ?_⟩
    obtain ⟨s1, s2, s3, -⟩ := hs c
    have hv0 : v = 0 := by rw [hv, if_neg (by omega)]
    have ew : wgt N (M (g + 12)) (M (g + 7)) 0 = M (g + 12) := by funext r; unfold wgt; rw [if_pos rfl]
    rw [hv0, ew] at f2
    have hN1 : NetX M1 a N := hN.of (fun c _ _ => f1 c (by omega) (by omega))
    have k1 : ∀ p, p < 20 → Fam N.R (fun r => N.ft r = p) (M (g + 12)) (M (s + 1) p) := fun p hp => by
      rcases s2 p hp with ⟨-, q⟩ | ⟨q, -⟩
      · rw [if_neg (by omega), ew] at q; exact q
      · omega
    have k2 : ∀ p, p < 20 → Fam N.R (fun r => N.hd r = p) (M (g + 12)) (M (s + 2) p) := fun p hp => by
      rcases s3 p hp with ⟨-, q⟩ | ⟨q, -⟩
      · exact q
      · omega
    refine x_preferNames (w := M (g + 12)) hN1 hW ha (by omega) (by rw [f1 _ (by omega) (by omega)]; exact k1) (by rw [f1 _ (by omega) (by omega)]; exact k2) f2 f3 (fun M2 g1 g2 g3 => ?_)
    rw [f1 (s + 2) (by omega) (by omega)] at g2
    rw [f1 (s + 1) (by omega) (by omega)] at g3
    exact hJ M2 (fun c h1 h2 => by rw [g1 c h1 h2]; exact f1 c h1 h2) (fun p hp => Or.inr ⟨c, _, k2 p hp, g2 p hp⟩) (fun p hp => Or.inr ⟨c, _, k1 p hp, g3 p hp⟩)
  unfold f_X9_build
  refine jn_use (P := fun J => ∀ v : Int, v = (if w = 1 then 1 else 0) → J v) hmains ?_
  intro J hJ
  exact ⟨fun c => hJ 0 (by rw [if_neg c]), fun c => hJ 1 (by rw [if_pos c])⟩
end
/-- what is asked of a stem where it is read: the mains of the places that are -/
def StW (M : Mem) (n g : Nat) (N : Nt) (w : Int) : Prop := (∀ p, p < N.P → MIn N (M (g + 12)) (M (g + 7)) w p (M (n + 1) p)) ∧ (∀ p, p < N.P → MOut N (M (g + 12)) w p (M (n + 2) p)) ∧ Jnd N (M (n + 1)) (M (n + 2)) (M (n + 3)) (M (n + 4)) ∧ Brn N (M (n + 3)) (M (n + 5)) ∧ ∃ c1, Crw N (M (n + 3)) (M (n + 4)) (M (g + 10)) c1 (M (n + 6))
theorem StX.weak {M : Mem} {n g : Nat} {N : Nt} {w : Int} (h : StX M n g N w) (hP : N.P ≤ 20) : StW M n g N w := ⟨fun p hp => h.1 p (by omega), fun p hp => h.2.1 p (by omega), h.2.2⟩
theorem StW.of {M M' : Mem} {n g : Nat} {N : Nt} {w : Int} (h : StW M n g N w) (e : ∀ c, n ≤ c → c ≤ n + 6 → M' c = M c) (e2 : ∀ c, g ≤ c → c ≤ g + 13 → M' c = M c) : StW M' n g N w := by
  unfold StW
  rw [e (n + 1) (by omega) (by omega), e (n + 2) (by omega) (by omega), e (n + 3) (by omega) (by omega), e (n + 4) (by omega) (by omega), e (n + 5) (by omega) (by omega), e (n + 6) (by omega) (by omega), e2 (g + 12) (by omega) (by omega), e2 (g + 7) (by omega) (by omega), e2 (g + 10) (by omega) (by omega)]
  exact h
def AllX (M : Mem) (N : Nt) : Prop := FigX M 20 N ∧ StW M 37 20 N 0 ∧ StW M 44 20 N 1 ∧ StW M 51 20 N 2
theorem AllX.of {M M' : Mem} {N : Nt} (h : AllX M N) (e : ∀ c, 20 ≤ c → c ≤ 57 → M' c = M c) : AllX M' N := ⟨h.1.of (fun c _ _ => e c (by omega) (by omega)), h.2.1.of (fun c _ _ => e c (by omega) (by omega)) (fun c _ _ => e c (by omega) (by omega)), h.2.2.1.of (fun c _ _ => e c (by omega) (by omega)) (fun c _ _ => e c (by omega) (by omega)), h.2.2.2.of (fun c _ _ => e c (by omega) (by omega)) (fun c _ _ => e c (by omega) (by omega))⟩
theorem x_figureAll {M : Mem} {N : Nt} (hN : NetX M 12 N) (hG : Good N) {Q : Mem → Prop} (h : ∀ M' : Mem, (∀ c, c < 20 ∨ 57 < c → M' c = M c) → AllX M' N → Q M') : f_X11_figure M Q := by
  unfold f_X11_figure
  refine x_figure hN hG (by omega) rfl (fun M1 a1 a2 => ?_)
  have hN1 : NetX M1 12 N := hN.of (fun c _ _ => a1 c (by omega))
  refine wl2_inv (I := fun (v : Int) (M' : Mem) => ∃ k : Nat, v = k ∧ k ≤ 3 ∧ (∀ c, c < 37 ∨ 57 < c → M' c = M1 c) ∧ (0 < k → StX M' 37 20 N 0) ∧ (1 < k → StX M' 44 20 N 1) ∧ (2 < k → StX M' 51 20 N 2)) (μ := fun (v : Int) (_ : Mem) => 3 - v.toNat) ?_ 5000 _ _ ⟨0, rfl, by omega, fun c _ => rfl, fun z => by omega, fun z => by omega, fun z => by omega⟩ (by simp)
  rintro rec v M' ⟨k, rfl, hk, g1, g2, g3, g4⟩ hrec
  unfold X11_figure_b13
  have hN' : NetX M' 12 N := hN1.of (fun c _ _ => g1 c (by omega))
  have hF : FigX M' 20 N := a2.of (fun c _ _ => g1 c (by omega))
  refine ⟨fun c => h M' (fun c hc => by rw [g1 c (by omega), a1 c (by omega)]) ⟨hF, (g2 (by omega)).weak hG.1.1, (g3 (by omega)).weak hG.1.1, (g4 (by omega)).weak hG.1.1⟩, fun c => ⟨by omega, ?_⟩⟩
  rw [tn]
  refine x_build hN' hG (by omega) (by omega) hF (by omega) (fun e => ⟨by omega, g2 (by omega)⟩) (fun M2 b1 b2 => ⟨by unfold inR; omega, ?_⟩)
  rintro _ rfl
  refine hrec _ _ ⟨k + 1, by omega, by omega, fun c hc => by rw [b1 c (by omega)]; exact g1 c hc, fun _ => ?_, fun z => ?_, fun z => ?_⟩ (by omega)
  · rcases Nat.eq_zero_or_pos k with q | q
    · subst q; exact b2
    · exact (g2 q).of (fun c _ _ => b1 c (by omega)) (fun c _ _ => b1 c (by omega))
  · rcases Nat.lt_or_ge 1 k with q | q
    · exact (g3 q).of (fun c _ _ => b1 c (by omega)) (fun c _ _ => b1 c (by omega))
    · have : k = 1 := by omega
      subst this; exact b2
  · have : k = 2 := by omega
    subst this; exact b2
