/-! figures of class and reference are the same -/
theorem bits_eq {x y : Int} {C : Nat → Prop} (hx : inR x) (hy : inR y) (h1 : ∀ q, tb x q = true ↔ C q) (h2 : ∀ q, tb y q = true ↔ C q) : x = y :=
  tb_ext hx hy (fun i _ => by rw [Bool.eq_iff_iff, h1 i, h2 i])
section
variable {M M' : Mem} {N : Nt} {n : Nat}
theorem Good.acy (hG : Good N) : Acy (fun r => r < N.R) N.hd N.ft := hG.2.mono (fun r hr => Ew_all hr)
theorem same_fig (hG : Good N) (hX : FigX M n N) (hR : RFig M' N) : (∀ p, p < N.P → M (n + 3) p = M' 102 p ∧ M (n + 4) p = M' 103 p ∧ M (n + 5) p = M' 105 p ∧ M (n + 6) p = M' 104 p ∧ M (n + 7) p = M' 108 p ∧ M (n + 8) p = M' 109 p ∧ M (n + 13) p = M' 106 p) ∧ (∀ r, r < N.R → M (n + 9) r = M' 110 r ∧ M (n + 10) r = M' 111 r ∧ M (n + 12) r = M' 107 r) := by
  have hP := hG.1.1
  have hr := hG.1.2.2
  obtain ⟨-, x1, x2, x3, x4, x5, x6, -, x8, x9, x10⟩ := hX
  obtain ⟨-, r1, r2, r3, r4, r5, ⟨x, rx1, rx2, r6⟩, r7, r8⟩ := hR
  have up : ∀ p, p < N.P → M (n + 5) p = M' 105 p := fun p hp => bits_eq (x2 p (by omega)).1 (r2 p hp).1 (x2 p (by omega)).2 (r2 p hp).2
  have dn : ∀ p, p < N.P → M (n + 6) p = M' 104 p := fun p hp => bits_eq (x3 p (by omega)).1 (r3 p hp).1 (x3 p (by omega)).2 (r3 p hp).2
  have h7 := Hgt.uniq hG.acy (fun r hr' => (hr r hr').1) x4 r4 (fun r hr' => by have := (hr r hr').2.2.1; omega)
  have h8 := Hgt.uniq (hG.acy.rev (R := N.R) (fun r hr' => hr')) (fun r hr' => (hr r hr').2.1) x5 r5 (fun r hr' => by have := (hr r hr').2.2.1; omega)
  have hf := Flw.uniq hG x10 r8
  have hsrc : M n 11 = x := bits_eq x6.1 rx1 x6.2 rx2
  have hs : ∀ r, r < N.R → M (n + 9) r = M' 110 r := fun r hr' => by rw [x8 r hr', r6 r hr', hsrc, up _ (hr r hr').1]
  have hm := Mtt.uniq hG (fun q hq => (hs q hq).symm) x9 r7
  refine ⟨fun p hp => ⟨?_, ?_, up p hp, dn p hp, h7 p hp, h8 p hp, hf.1 p hp⟩, fun r hr' => ⟨hs r hr', hm r hr', hf.2 r hr' (by omega)⟩⟩
  · rw [(x1 p (by omega)).1, (r1 p hp).1]
  · rw [(x1 p (by omega)).2, (r1 p hp).2]
theorem StW.nxt {g : Nat} {w : Int} (hW : Wf N) (h : StW M n g N w) : Nxt N (M (n + 3)) (M (n + 4)) := h.2.2.1.nxt hW (fun p hp => h.1 p hp) (fun p hp => h.2.1 p hp)
theorem same_st {w g : Nat} (hG : Good N) (hF : FigX M g N) (hX : StW M n g N (w : Int)) (hRF : RFig M' N) (hR : RSt M' N w) : ∀ r, r < N.R → M (n + 3) r = rw_ M' 112 w r ∧ M (n + 4) r = rw_ M' 113 w r ∧ M (n + 5) r = rw_ M' 114 w r ∧ M (n + 6) r = rw_ M' 115 w r := by
  have hP := hG.1.1
  have hr := hG.1.2.2
  obtain ⟨sp, sr⟩ := same_fig hG hF hRF
  have hnx := hX.nxt hG.1
  have hnr := hR.nxt hG.1
  obtain ⟨x1, x2, x3, x4, c1, x5⟩ := hX
  obtain ⟨I, O, d1, r1, r2, r3, r4, r5⟩ := hR
  have ei : ∀ p, p < N.P → M (n + 1) p = I p := fun p hp => MIn.uniq hG.1 (fun r hr' => (sr r hr').2.2.symm) (fun q hq => (sp q hq).2.2.2.2.1.symm) (x1 p hp) (r1 p hp)
  have eo : ∀ p, p < N.P → M (n + 2) p = O p := fun p hp => MOut.uniq (fun r hr' => (sr r hr').2.2.symm) (x2 p hp) (r2 p hp)
  have en : ∀ r, r < N.R → M (n + 3) r = rw_ M' 112 w r := fun r hr' => by rw [(x3 r hr').1, (r3 r hr').1, ei _ (hr r hr').2.1, eo _ (hr r hr').2.1]
  have eb : ∀ r, r < N.R → M (n + 4) r = rw_ M' 113 w r := fun r hr' => by rw [(x3 r hr').2, (r3 r hr').2, ei _ (hr r hr').1, eo _ (hr r hr').1]
  have e5 := Brn.uniq hG hnx x4 (r4.congr hnr en (fun _ _ => rfl))
  have e6 := Crw.uniq hG hnx x5 (r5.congr hnr en eb (fun r hr' => (sr r hr').2.1) (fun _ _ => rfl))
  exact fun r hr' => ⟨en r hr', eb r hr', e5 r hr', e6 r hr'⟩
theorem AllX.st (h : AllX M N) {w : Nat} (hw : w < 3) : StW M (37 + 7 * w) 20 N (w : Int) := by
  rcases w with _ | _ | _ | w
  · exact h.2.1
  · exact h.2.2.1
  · exact h.2.2.2
  · omega
end
