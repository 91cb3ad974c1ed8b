/-! the reference's lays, and that it says what the class says -/
def RSt (M : Mem) (N : Nt) (w : Nat) : Prop := ∃ I O c1 : Nat → Int, (∀ p, p < N.P → MIn N (M 107) (M 108) (w : Int) p (I p)) ∧ (∀ p, p < N.P → MOut N (M 107) (w : Int) p (O p)) ∧ Jnd N I O (rw_ M 112 w) (rw_ M 113 w) ∧ Brn N (rw_ M 112 w) (rw_ M 114 w) ∧ Crw N (rw_ M 112 w) (rw_ M 113 w) (M 111) c1 (rw_ M 115 w)
def RFig (M : Mem) (N : Nt) : Prop := (∃ g pos, Topo N g pos ∧ ∀ i, i < N.P → M 101 i = g i) ∧ (∀ p, p < N.P → M 102 p = nin N p ∧ M 103 p = nout N p) ∧ (∀ p, p < N.P → inR (M 105 p) ∧ ∀ q, tb (M 105 p) q = true ↔ Up (Ew N.R (-1)) N.hd N.ft q p) ∧ (∀ p, p < N.P → inR (M 104 p) ∧ ∀ q, tb (M 104 p) q = true ↔ Up (Ew N.R (-1)) N.hd N.ft p q) ∧ Hgt N.R N.hd N.ft N.ln N.P (M 108) ∧ Hgt N.R N.ft N.hd N.ln N.P (M 109) ∧ (∃ x, inR x ∧ (∀ p, tb x p = true ↔ isS N p) ∧ ∀ r, r < N.R → M 110 r = bAnd (bOr (M 105 (N.hd r)) (bShl 1 (N.hd r : Int))) x) ∧ Mtt N (M 110) (M 111) ∧ Flw N (-1) (M 107) (M 106)
def AllR (M : Mem) (N : Nt) : Prop := RFig M N ∧ ∀ w, w < 3 → RSt M N w
theorem RFig.of {M M' : Mem} {N : Nt} (h : RFig M N) (e : ∀ c, 101 ≤ c → c ≤ 111 → M' c = M c) : RFig M' N := by
  unfold RFig
  rw [e 101 (by omega) (by omega), e 102 (by omega) (by omega), e 103 (by omega) (by omega), e 104 (by omega) (by omega), e 105 (by omega) (by omega), e 106 (by omega) (by omega), e 107 (by omega) (by omega), e 108 (by omega) (by omega), e 109 (by omega) (by omega), e 110 (by omega) (by omega), e 111 (by omega) (by omega)]
  exact h
theorem Brn.congr {N : Nt} {nx nx' bf br br' : Nat → Int} (hn : Nxt N nx bf) (e1 : ∀ r, r < N.R → nx' r = nx r) (e2 : ∀ r, r < N.R → br' r = br r) (h : Brn N nx br) : Brn N nx' br' := fun r hr => by
  obtain ⟨a1, a2, a3, a4⟩ := h r hr
  rw [e1 r hr, e2 r hr]
  refine ⟨a1, a2, fun z => ?_, fun z => ?_⟩
  · rw [a3 z]
    rcases hn.1 r hr with y | ⟨c, z1, z2, -⟩
    · exact absurd y z
    · rw [z1, tn, e2 c z2]
  · obtain ⟨l, l1, l2⟩ := a4 z
    exact ⟨l, l1.congr (fun q hq _ => (e2 q hq).symm), l2⟩
theorem Crw.congr {N : Nt} {nx nx' bf bf' mt mt' c1 cr cr' : Nat → Int} (hn : Nxt N nx bf) (e1 : ∀ r, r < N.R → nx' r = nx r) (e2 : ∀ r, r < N.R → bf' r = bf r) (e3 : ∀ r, r < N.R → mt' r = mt r) (e4 : ∀ r, r < N.R → cr' r = cr r) (h : Crw N nx bf mt c1 cr) : Crw N nx' bf' mt' c1 cr' := fun r hr => by
  obtain ⟨a1, a2, a3, a4⟩ := h r hr
  rw [e1 r hr, e2 r hr, e3 r hr, e4 r hr]
  refine ⟨a1, a2, a3, fun z => ?_⟩
  rw [a4 z]
  rcases hn.1 r hr with y | ⟨c, z1, z2, -⟩
  · exact absurd y z
  · rw [z1, tn, e4 c z2]
theorem Crw.uniq {N : Nt} (hG : Good N) {nx bf mt c1 cr c1' cr' : Nat → Int} (hn : Nxt N nx bf) (h : Crw N nx bf mt c1 cr) (h' : Crw N nx bf mt c1' cr') : ∀ r, r < N.R → cr r = cr' r := by
  have k1 : ∀ p, ∀ r, r < N.R → N.hd r = p → c1 r = c1' r := by
    refine hG.2.ind (C := fun p => ∀ r, r < N.R → N.hd r = p → c1 r = c1' r) (fun p ih r hr e => ?_)
    obtain ⟨a1, a2, -⟩ := h r hr
    obtain ⟨b1, b2, -⟩ := h' r hr
    rcases hn.2 r hr with z | ⟨c, z1, z2, z3, -⟩
    · rw [a1 z, b1 z]
    · rw [a2 (by omega), b2 (by omega), z1, tn, ih c (Ew_all z2) (by rw [z3, e]) c z2 rfl]
  have k2 : ∀ p, ∀ r, r < N.R → N.ft r = p → cr r = cr' r := by
    refine hG.2.ind_up (R := N.R) (fun r hr => hr.1) (C := fun p => ∀ r, r < N.R → N.ft r = p → cr r = cr' r) (fun p ih r hr e => ?_)
    obtain ⟨-, -, a1, a2⟩ := h r hr
    obtain ⟨-, -, b1, b2⟩ := h' r hr
    rcases hn.1 r hr with z | ⟨c, z1, z2, z3, -⟩
    · rw [a1 z, b1 z, k1 _ r hr rfl]
    · rw [a2 (by omega), b2 (by omega), z1, tn, ih c (Ew_all z2) (by rw [z3, e]) c z2 rfl]
  exact fun r hr => k2 _ r hr rfl
theorem RSt.nxt {M : Mem} {N : Nt} {w : Nat} (hW : Wf N) (h : RSt M N w) : Nxt N (rw_ M 112 w) (rw_ M 113 w) := by
  obtain ⟨I, O, c1, h1, h2, h3, -⟩ := h
  exact h3.nxt hW h1 h2
theorem RSt.of {M M' : Mem} {N : Nt} {w : Nat} (hW : Wf N) (h : RSt M N w) (e1 : M' 107 = M 107) (e2 : M' 108 = M 108) (e3 : M' 111 = M 111) (e4 : ∀ c r, 112 ≤ c → c ≤ 115 → r < N.R → rw_ M' c w r = rw_ M c w r) : RSt M' N w := by
  have hn := h.nxt hW
  obtain ⟨I, O, c1, h1, h2, h3, h4, h5⟩ := h
  refine ⟨I, O, c1, by rw [e1, e2]; exact h1, by rw [e1]; exact h2, fun r hr => ?_, h4.congr hn (fun r hr => e4 112 r (by omega) (by omega) hr) (fun r hr => e4 114 r (by omega) (by omega) hr), h5.congr hn (fun r hr => e4 112 r (by omega) (by omega) hr) (fun r hr => e4 113 r (by omega) (by omega) hr) (fun r hr => by rw [e3]) (fun r hr => e4 115 r (by omega) (by omega) hr)⟩
  rw [e4 112 r (by omega) (by omega) hr, e4 113 r (by omega) (by omega) hr]
  exact h3 r hr
theorem AllR.of {M M' : Mem} {N : Nt} (hW : Wf N) (h : AllR M N) (e : ∀ c, 101 ≤ c → c ≤ 115 → M' c = M c) : AllR M' N :=
  ⟨h.1.of (fun c h1 h2 => e c h1 (by omega)), fun w hw => (h.2 w hw).of hW (e 107 (by omega) (by omega)) (e 108 (by omega) (by omega)) (e 111 (by omega) (by omega)) (fun c r h1 h2 _ => by unfold rw_; rw [e c (by omega) h2])⟩
section
variable {M : Mem} {N : Nt}
theorem r_laysStems {w : Nat} (hw : w < 3) (hN : NetR M 100 N) (hG : Good N) (hF : RFig M N) {Q : Mem → Prop} (h : ∀ M' : Mem, (∀ c, c < 112 ∨ 115 < c → M' c = M c) → (∀ c, OnlyW M M' c w) → RSt M' N w → Q M') : f_X12_laysStems (w : Int) M Q := by
  have hW := hG.1
  obtain ⟨hP20, hR30, hr⟩ := id hW
  obtain ⟨⟨g, pos, ht, hor⟩, -, -, -, hH, -⟩ := id hF
  have hh : ∀ p, p < N.P → 0 ≤ M 108 p ∧ M 108 p ≤ 2970 := fun p hp => ⟨(hH p hp).1, (hH p hp).2.1⟩
  unfold f_X12_laysStems
  refine jn_use (P := fun J => ∀ M1 : Mem, (∀ c, c ≠ 112 → c ≠ 113 → M1 c = M c) → (∀ c, OnlyW M M1 c w) → (∀ r, r < N.R → rw_ M1 112 w r = -1 ∧ rw_ M1 113 w r = -1) → J M1) ?_ ?_
  · intro M1 f1 f2 f3
    refine jn_use (P := fun J => ∀ (M2 : Mem) (I O : Nat → Int), (∀ c, c ≠ 112 → c ≠ 113 → M2 c = M c) → (∀ c, OnlyW M M2 c w) → (∀ p, p < N.P → MIn N (M 107) (M 108) (w : Int) p (I p)) → (∀ p, p < N.P → MOut N (M 107) (w : Int) p (O p)) → Jnd N I O (rw_ M2 112 w) (rw_ M2 113 w) → J M2) ?_ ?_
    · intro M2 I O a1 a2 a3 a4 a5
      have hN2 : NetR M2 100 N := hN.of (a1 100 (by omega) (by omega))
      have hx : Nxt N (rw_ M2 112 w) (rw_ M2 113 w) := a5.nxt hW a3 a4
      refine r_laysBranches hw hN2 hW ht (by rw [a1 101 (by omega) (by omega)]; exact hor) hx (fun M3 b1 b2 b3 => ?_)
      have e112 : rw_ M3 112 w = rw_ M2 112 w := by unfold rw_; rw [b1 112 (by omega)]
      have e113 : rw_ M3 113 w = rw_ M2 113 w := by unfold rw_; rw [b1 113 (by omega)]
      have hx3 : Nxt N (rw_ M3 112 w) (rw_ M3 113 w) := by rw [e112, e113]; exact hx
      obtain ⟨c1, cr, hC⟩ := Crw_ex hW ht (mt := M3 111) hx3
      refine r_laysCrowns hw (hN2.of (b1 100 (by omega))) hW ht hx3 hC (fun M4 d1 d2 d3 => ?_)
      have y : ∀ c, c ≠ 112 → c ≠ 113 → c ≠ 114 → c ≠ 115 → M4 c = M c := fun c q1 q2 q3 q4 => by rw [d1 c q4, b1 c q3, a1 c q1 q2]
      have r4 : ∀ c, c ≠ 115 → rw_ M4 c w = rw_ M3 c w := fun c hc => by unfold rw_; rw [d1 c hc]
      refine h M4 (fun c hc => y c (by omega) (by omega) (by omega) (by omega)) (fun c i hi => ?_) ⟨I, O, c1, ?_, ?_, ?_, ?_, ?_⟩
      · by_cases q : c = 115
        · subst q; rw [d2 i hi, b1 115 (by omega)]; exact a2 115 i hi
        · rw [d1 c q]
          by_cases q2 : c = 114
          · subst q2; rw [b2 i hi]; exact a2 114 i hi
          · rw [b1 c q2]; exact a2 c i hi
      · rw [y 107 (by omega) (by omega) (by omega) (by omega), y 108 (by omega) (by omega) (by omega) (by omega)]; exact a3
      · rw [y 107 (by omega) (by omega) (by omega) (by omega)]; exact a4
      · rw [r4 112 (by omega), r4 113 (by omega), e112, e113]; exact a5
      · rw [r4 112 (by omega), r4 114 (by omega), e112]; exact b3
      · rw [r4 112 (by omega), r4 113 (by omega), d1 111 (by omega)]
        exact hC.congr hx3 (fun _ _ => rfl) (fun _ _ => rfl) (fun _ _ => rfl) d3
    · intro J hJ
      refine wl2_inv (I := fun (v : Int) (M' : Mem) => ∃ k : Nat, v = k ∧ k ≤ N.P ∧ (∀ c, c ≠ 112 → c ≠ 113 → M' c = M c) ∧ (∀ c, OnlyW M M' c w) ∧ ∃ I O : Nat → Int, (∀ p, p < k → MIn N (M 107) (M 108) (w : Int) p (I p)) ∧ (∀ p, p < k → MOut N (M 107) (w : Int) p (O p)) ∧ (∀ r : Nat, r < N.R → (rw_ M' 112 w r = if N.ft r < k ∧ I (N.ft r) = (r : Int) then O (N.ft r) else -1) ∧ (rw_ M' 113 w r = if N.hd r < k ∧ O (N.hd r) = (r : Int) then I (N.hd r) else -1))) (μ := fun (v : Int) (_ : Mem) => N.P - v.toNat) ?_ 5000 _ _ ⟨0, rfl, by omega, f1, f2, fun _ => 0, fun _ => 0, fun p hp => by omega, fun p hp => by omega, fun r hr' => ?_⟩ (by simp; omega)
      rotate_left
      · rw [if_neg (by omega), if_neg (by omega)]; exact f3 r hr'
      rintro rec v M' ⟨k, rfl, hk, g1, g2, I, O, g3, g4, g5⟩ hrec
      unfold X12_laysStems_b40
      have hN' : NetR M' 100 N := hN.of (g1 100 (by omega) (by omega))
      refine r_places hN' ⟨fun c => ?_, fun c => ?_⟩
      · have e : k = N.P := by omega
        subst e
        refine hJ M' I O g1 g2 g3 g4 (fun r hr' => ?_)
        obtain ⟨w1, w2, -⟩ := hr r hr'
        obtain ⟨y1, y2⟩ := g5 r hr'
        simp only [w1, w2, true_and] at y1 y2
        exact ⟨y1, y2⟩
      · have hkP : k < N.P := by omega
        have hh' : ∀ p, p < N.P → 0 ≤ M' 108 p ∧ M' 108 p ≤ 2970 := by rw [g1 108 (by omega) (by omega)]; exact hh
        refine r_mainIn hN' hW hh' (fun x hx => r_mainOut hN' hW hh' (fun y hy => ?_))
        rw [g1 107 (by omega) (by omega), g1 108 (by omega) (by omega)] at hx
        rw [g1 107 (by omega) (by omega)] at hy
        have hfin : ∀ M2 : Mem, (∀ c, c ≠ 112 → c ≠ 113 → M2 c = M c) → (∀ c, OnlyW M M2 c w) → (∀ r : Nat, r < N.R → (rw_ M2 112 w r = if N.ft r = k ∧ x = (r : Int) then y else rw_ M' 112 w r) ∧ (rw_ M2 113 w r = if N.hd r = k ∧ y = (r : Int) then x else rw_ M' 113 w r)) → inR ((k : Int) + 1) ∧ ∀ v2_13 : Int, v2_13 = (k : Int) + 1 → rec v2_13 M2 := by
          intro M2 q1 q2 q3
          refine ⟨by unfold inR; omega, ?_⟩
          rintro _ rfl
          refine hrec _ _ ⟨k + 1, by omega, by omega, q1, q2, fun p => if p = k then x else I p, fun p => if p = k then y else O p, fun p hp => ?_, fun p hp => ?_, fun r hr' => ?_⟩ (by omega)
          · dsimp only
            by_cases e : p = k
            · subst e; rw [if_pos rfl]; exact hx
            · rw [if_neg e]; exact g3 p (by omega)
          · dsimp only
            by_cases e : p = k
            · subst e; rw [if_pos rfl]; exact hy
            · rw [if_neg e]; exact g4 p (by omega)
          · obtain ⟨u1, u2⟩ := q3 r hr'
            obtain ⟨v1, v2⟩ := g5 r hr'
            rw [u1, u2, v1, v2]
            dsimp only
            refine ⟨?_, ?_⟩
            · by_cases e : N.ft r = k
              · simp only [e, if_true, true_and, show k < k + 1 by omega, show ¬ k < k by omega, false_and, if_false]
              · rw [if_neg (fun z => e z.1)]
                simp only [if_neg e]
                by_cases z : N.ft r < k ∧ I (N.ft r) = (r : Int)
                · rw [if_pos z, if_pos ⟨by omega, z.2⟩]
                · rw [if_neg z, if_neg (fun u => z ⟨by omega, u.2⟩)]
            · by_cases e : N.hd r = k
              · simp only [e, if_true, true_and, show k < k + 1 by omega, show ¬ k < k by omega, false_and, if_false]
              · rw [if_neg (fun z => e z.1)]
                simp only [if_neg e]
                by_cases z : N.hd r < k ∧ O (N.hd r) = (r : Int)
                · rw [if_pos z, if_pos ⟨by omega, z.2⟩]
                · rw [if_neg z, if_neg (fun u => z ⟨by omega, u.2⟩)]
        have hkeep : x = -1 ∨ y = -1 → ∀ r : Nat, r < N.R → (rw_ M' 112 w r = if N.ft r = k ∧ x = (r : Int) then y else rw_ M' 112 w r) ∧ (rw_ M' 113 w r = if N.hd r = k ∧ y = (r : Int) then x else rw_ M' 113 w r) := fun hxy r hr' => by
          obtain ⟨v1, v2⟩ := g5 r hr'
          refine ⟨?_, ?_⟩
          · by_cases z : N.ft r = k ∧ x = (r : Int)
            · rw [if_pos z, v1, if_neg (by omega)]; omega
            · rw [if_neg z]
          · by_cases z : N.hd r = k ∧ y = (r : Int)
            · rw [if_pos z, v2, if_neg (by omega)]; omega
            · rw [if_neg z]
        refine ⟨fun c1 => hfin M' g1 g2 (hkeep (Or.inl c1)), fun c1 => ⟨fun c2 => ?_, fun c2 => hfin M' g1 g2 (hkeep (Or.inr c2))⟩⟩
        rcases hx.rng with z | ⟨i, i1, i2, i3⟩
        · exact absurd z c1
        rcases hy.rng with z | ⟨o, o1, o2, o3⟩
        · exact absurd z c2
        subst i1
        subst o1
        refine r_by hw (by omega) ⟨by omega, ?_⟩
        rw [tn]
        rintro _ rfl
        refine r_by hw (by omega) ⟨by omega, ?_⟩
        rw [tn]
        rintro _ rfl
        refine hfin _ (fun c q1 q2 => by rw [st_o q2, st_o q1]; exact g1 c q1 q2) (fun c => ?_) (fun r hr' => ?_)
        · by_cases q : c = 113
          · subst q
            exact only_st (by omega) (fun j hj => by rw [st_o (by omega)]; exact g2 113 j hj)
          · intro j hj
            rw [st_o q]
            by_cases q2 : c = 112
            · subst q2; exact only_st (by omega) (g2 112) j hj
            · rw [st_o q2]; exact g2 c j hj
        · rw [rw_o (show 112 ≠ 113 by omega), rw_st (by omega) (by omega), rw_st (by omega) (by omega), rw_o (show 113 ≠ 112 by omega)]
          refine ⟨?_, ?_⟩
          · by_cases e : r = i
            · subst e; rw [if_pos rfl, if_pos ⟨i3, rfl⟩]
            · rw [if_neg e, if_neg (by omega)]
          · by_cases e : r = o
            · subst e; rw [if_pos rfl, if_pos ⟨o3, rfl⟩]
            · rw [if_neg e, if_neg (by omega)]
  · intro J hJ
    refine wl2_inv (I := fun (v : Int) (M' : Mem) => ∃ k : Nat, v = k ∧ k ≤ N.R ∧ (∀ c, c ≠ 112 → c ≠ 113 → M' c = M c) ∧ (∀ c, OnlyW M M' c w) ∧ (∀ r, r < k → rw_ M' 112 w r = -1 ∧ rw_ M' 113 w r = -1)) (μ := fun (v : Int) (_ : Mem) => N.R - v.toNat) ?_ 5000 _ _ ⟨0, rfl, by omega, fun c _ _ => rfl, fun c i _ => rfl, fun p hp => by omega⟩ (by simp; omega)
    rintro rec v M' ⟨k, rfl, hk, g1, g2, g3⟩ hrec
    unfold X12_laysStems_b2
    have hN' : NetR M' 100 N := hN.of (g1 100 (by omega) (by omega))
    refine r_reaches hN' ⟨fun c => ?_, fun c => r_by hw (by omega) ⟨by omega, ?_⟩⟩
    · have e : k = N.R := by omega
      subst e
      exact hJ M' g1 g2 g3
    · rw [tn]
      rintro _ rfl
      refine r_by hw (by omega) ⟨by omega, ?_⟩
      rw [tn]
      rintro _ rfl
      refine ⟨by unfold inR; omega, ?_⟩
      rintro _ rfl
      refine hrec _ _ ⟨k + 1, by omega, by omega, fun c q1 q2 => by rw [st_o q2, st_o q1]; exact g1 c q1 q2, fun c => ?_, fun r hr' => ?_⟩ (by omega)
      · by_cases q : c = 113
        · subst q
          exact only_st (by omega) (fun j hj => by rw [st_o (by omega)]; exact g2 113 j hj)
        · intro j hj
          rw [st_o q]
          by_cases q2 : c = 112
          · subst q2; exact only_st (by omega) (g2 112) j hj
          · rw [st_o q2]; exact g2 c j hj
      · rw [rw_o (show 112 ≠ 113 by omega), rw_st (by omega) (by omega), rw_st (by omega) (by omega), rw_o (show 113 ≠ 112 by omega)]
        by_cases e : r = k
        · subst e; rw [if_pos rfl, if_pos rfl]; exact ⟨rfl, rfl⟩
        · rw [if_neg e, if_neg e]; exact g3 r (by omega)
theorem r_lays (hN : NetR M 100 N) (hG : Good N) (hL : ¬ M 95 15 = 0 → AllR M N) {Q : Mem → Prop} (h : ∀ M' : Mem, (∀ c, c ≠ 95 → (c < 101 ∨ 115 < c) → M' c = M c) → (∀ j, j ≠ 15 → M' 95 j = M 95 j) → ¬ M' 95 15 = 0 → AllR M' N → Q M') : f_X12_lays M Q := by
  have hW := hG.1
  unfold f_X12_lays
  refine ⟨fun c => ?_, fun c => h M (fun _ _ _ => rfl) (fun _ _ => rfl) c (hL c)⟩
  rintro _ rfl
  have hN1 : NetR (st M 95 15 1) 100 N := hN.of (st_o (by omega))
  refine r_laysOrder hN1 hG (fun M2 g pos a1 a2 a3 a4 => ?_)
  have hN2 : NetR M2 100 N := hN1.of (a1 100 (by omega) (by omega) (by omega))
  refine r_laysBeyond hN2 hW a2 a3 (fun M3 b1 b2 b3 b4 b5 => ?_)
  have hN3 : NetR M3 100 N := hN2.of (b1 100 (by omega) (by omega) (by omega) (by omega))
  have i3 : ∀ p, p < N.P → M3 102 p = nin N p ∧ M3 103 p = nout N p := by rw [b1 102 (by omega) (by omega) (by omega) (by omega), b1 103 (by omega) (by omega) (by omega) (by omega)]; exact a4
  have o3 : ∀ i, i < N.P → M3 101 i = g i := by rw [b1 101 (by omega) (by omega) (by omega) (by omega)]; exact a3
  refine r_laysFlow hN3 hW a2 o3 (fun p hp => (i3 p hp).2) (fun M4 c1 c2 => ?_)
  have hN4 : NetR M4 100 N := hN3.of (c1 100 (by omega) (by omega))
  refine r_laysMet hN4 hW a2 (by rw [c1 101 (by omega) (by omega)]; exact o3) (by rw [c1 102 (by omega) (by omega), c1 103 (by omega) (by omega)]; exact i3) (fun M5 x d1 d2 d3 d4 d5 => ?_)
  have hN5 : NetR M5 100 N := hN4.of (d1 100 (by omega) (by omega))
  have hF5 : RFig M5 N := by
    refine ⟨⟨g, pos, a2, ?_⟩, ?_, ?_, ?_, ?_, ?_, ⟨x, d2, d3, ?_⟩, d5, ?_⟩
    · rw [d1 101 (by omega) (by omega), c1 101 (by omega) (by omega)]; exact o3
    · rw [d1 102 (by omega) (by omega), d1 103 (by omega) (by omega), c1 102 (by omega) (by omega), c1 103 (by omega) (by omega)]; exact i3
    · rw [d1 105 (by omega) (by omega), c1 105 (by omega) (by omega)]; exact b2
    · rw [d1 104 (by omega) (by omega), c1 104 (by omega) (by omega)]; exact b3
    · rw [d1 108 (by omega) (by omega), c1 108 (by omega) (by omega)]; exact b4
    · rw [d1 109 (by omega) (by omega), c1 109 (by omega) (by omega)]; exact b5
    · rw [d1 105 (by omega) (by omega)]; exact d4
    · rw [d1 107 (by omega) (by omega), d1 106 (by omega) (by omega)]; exact c2
  refine wl2_inv (I := fun (v : Int) (M' : Mem) => ∃ k : Nat, v = k ∧ k ≤ 3 ∧ (∀ c, c < 112 ∨ 115 < c → M' c = M5 c) ∧ ∀ w, w < k → RSt M' N w) (μ := fun (v : Int) (_ : Mem) => 3 - v.toNat) ?_ 5000 _ _ ⟨0, rfl, by omega, fun c _ => rfl, fun w hw => by omega⟩ (by simp)
  rintro rec v M' ⟨k, rfl, hk, g1, g2⟩ hrec
  unfold X12_lays_b31
  have hF' : RFig M' N := hF5.of (fun c _ _ => g1 c (by omega))
  have hy : ∀ c, c < 101 ∨ 115 < c → M' c = st M 95 15 1 c := fun c hc => by rw [g1 c (by omega), d1 c (by omega) (by omega), c1 c (by omega) (by omega), b1 c (by omega) (by omega) (by omega) (by omega), a1 c (by omega) (by omega) (by omega)]
  refine ⟨fun c => h M' (fun c q1 q2 => by rw [hy c q2, st_o q1]) (fun j hj => by rw [hy 95 (by omega), st_s, if_neg hj]) (by rw [hy 95 (by omega), st_s, if_pos rfl]; omega) ⟨hF', fun w hw => g2 w (by omega)⟩, fun c => ?_⟩
  refine r_laysStems (by omega) (hN5.of (g1 100 (by omega))) hG hF' (fun M2 e1 e2 e3 => ⟨by unfold inR; omega, ?_⟩)
  rintro _ rfl
  refine hrec _ _ ⟨k + 1, by omega, by omega, fun c hc => by rw [e1 c hc]; exact g1 c hc, fun w hw => ?_⟩ (by omega)
  by_cases q : w = k
  · subst q; exact e3
  · refine (g2 w (by omega)).of hW (e1 107 (by omega)) (e1 108 (by omega)) (e1 111 (by omega)) (fun c r _ _ hr => ?_)
    have hR := hW.2.1
    unfold rw_
    rw [e2 c (30 * w + r) (by omega)]
end
