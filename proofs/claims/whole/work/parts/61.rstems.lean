/-! the reference's stems -/
section
variable {M : Mem} {N : Nt}
theorem r_end {r : Nat} {e : Int} {ef : Nat → Nat} (he : (e = 0 ∧ ef = N.hd) ∨ (e = 1 ∧ ef = N.ft)) (hN : NetR M 100 N) (hW : Wf N) (hr : r < N.R) {Q : Int → Prop} (h : Q (ef r)) : f_X12_its (r : Int) e M Q := by
  rcases he with ⟨rfl, rfl⟩ | ⟨rfl, rfl⟩
  · exact r_hd hN hW hr h
  · exact r_ft hN hW hr h
theorem r_greatest {p : Nat} {e v : Int} {ef : Nat → Nat} (he : (e = 0 ∧ ef = N.hd) ∨ (e = 1 ∧ ef = N.ft)) (hN : NetR M 100 N) (hW : Wf N) (hh : ∀ p, p < N.P → 0 ≤ M 108 p ∧ M 108 p ≤ 2970) {Q : Int → Prop} (h : ∀ x : Int, Fam N.R (fun r => ef r = p) (wgt N (M 107) (M 108) v) x → Q x) : f_X12_greatest (p : Int) e v M Q := by
  obtain ⟨hP20, hR30, hr⟩ := id hW
  unfold f_X12_greatest
  refine wl2_inv (I := fun (x i : Int) => ∃ k : Nat, i = k ∧ k ≤ N.R ∧ Fam k (fun r => ef r = p) (wgt N (M 107) (M 108) v) x) (μ := fun (_ i : Int) => N.R - i.toNat) ?_ 5000 _ _ ⟨0, rfl, by omega, Fam.zero⟩ (by simp; omega)
  rintro rec x i ⟨k, rfl, hk, hF⟩ hrec
  unfold X12_greatest_b6
  refine r_reaches hN ⟨fun c => ?_, fun c => ?_⟩
  · have e : k = N.R := by omega
    subst e
    exact h x hF
  · have hkR : k < N.R := by omega
    have hgo : ∀ y : Int, Fam (k + 1) (fun r => ef r = p) (wgt N (M 107) (M 108) v) y → inR ((k : Int) + 1) ∧ ∀ z : Int, z = (k : Int) + 1 → rec y z := fun y hy => by
      refine ⟨by unfold inR; omega, ?_⟩
      rintro _ rfl
      exact hrec _ _ ⟨k + 1, by omega, by omega, hy⟩ (by omega)
    refine r_end he hN hW hkR ⟨fun c1 => ⟨fun c2 => hgo k (by rw [c2] at hF; exact hF.first (by omega)), fun c2 => ?_⟩, fun c1 => hgo x (hF.skip (by omega))⟩
    obtain ⟨b, e1, e2, e3⟩ := hF.nat c2
    subst e1
    obtain ⟨w1, w2, w3, w4, -⟩ := hr k hkR
    obtain ⟨u1, u2, u3, u4, -⟩ := hr b (by omega)
    have hk1 := hh _ w1
    have hk2 := hh _ u1
    refine ⟨fun c3 => ⟨by omega, by omega, ?_⟩, fun c3 => ?_⟩
    · rw [tn, tn]
      exact ⟨fun c4 => hgo _ (hF.keep (by unfold wgt; rw [if_pos c3, if_pos c3]; exact c4)), fun c4 => hgo _ (hF.over (by omega) (by unfold wgt; rw [if_pos c3, if_pos c3]; omega))⟩
    · refine r_hd hN hW hkR ⟨by omega, r_ln hN hW hkR (r_hd hN hW (by omega) ⟨by omega, r_ln hN hW (by omega) ?_⟩)⟩
      rw [tn, tn]
      exact ⟨by unfold inR; omega, by unfold inR; omega, fun c4 => hgo _ (hF.keep (by unfold wgt; rw [if_neg c3, if_neg c3]; exact c4)), fun c4 => hgo _ (hF.over (by omega) (by unfold wgt; rw [if_neg c3, if_neg c3]; omega))⟩
theorem wgt_0 (N : Nt) (f h : Nat → Int) : wgt N f h 0 = f := by funext r; unfold wgt; rw [if_pos rfl]
theorem r_calledAs {p : Nat} {e o : Int} {ef eg : Nat → Nat} (he : (e = 0 ∧ ef = N.hd) ∨ (e = 1 ∧ ef = N.ft)) (hN : NetR M 100 N) (hW : Wf N) (hh : ∀ p, p < N.P → 0 ≤ M 108 p ∧ M 108 p ≤ 2970) (ho : Fam N.R (fun r => eg r = p) (M 107) o) {Q : Int → Prop} (h : ∀ x : Int, CalV N ef (M 107) p o x → Q x) : f_X12_calledAs (p : Int) e o M Q := by
  obtain ⟨hP20, hR30, hr⟩ := id hW
  unfold f_X12_calledAs
  refine jn_use (P := fun J => (∀ r, r < N.R → ¬ Cs N ef p o r) → J) (fun hno => ?_) ?_
  · refine r_greatest he hN hW hh (fun x hx => h x (Or.inr ⟨hno, ?_⟩))
    rw [wgt_0] at hx; exact hx
  · intro J hJ
    refine ⟨fun c => hJ (fun r _ z => z.2.2.1 c), fun c => ?_⟩
    obtain ⟨b, e1, e2, e3⟩ := ho.nat c
    subst e1
    refine r_rv hN hW e2 ⟨fun c1 => hJ (fun r _ z => z.2.1 (by rw [← z.2.2.2, tn]; exact c1)), fun c1 => ?_⟩
    refine wl1_inv (I := fun (i : Int) => ∃ k : Nat, i = k ∧ k ≤ N.R ∧ ∀ r, r < k → ¬ Cs N ef p (b : Int) r) (μ := fun (i : Int) => N.R - i.toNat) ?_ 5000 _ ⟨0, rfl, by omega, fun r hr => by omega⟩ (by simp; omega)
    rintro rec i ⟨k, rfl, hk, i1⟩ hrec
    unfold X12_calledAs_b18
    refine r_reaches hN ⟨fun c2 => hJ (fun r hr' => i1 r (by omega)), fun c2 => ?_⟩
    have hkR : k < N.R := by omega
    have hgo : ¬ Cs N ef p (b : Int) k → inR ((k : Int) + 1) ∧ ∀ z : Int, z = (k : Int) + 1 → rec z := fun hh => by
      refine ⟨by unfold inR; omega, ?_⟩
      rintro _ rfl
      refine hrec _ ⟨k + 1, by omega, by omega, fun r hr' => ?_⟩ (by omega)
      rcases Nat.lt_or_ge r k with z | z
      · exact i1 r z
      · rw [show r = k by omega]; exact hh
    refine r_end he hN hW hkR ⟨fun c3 => hgo (fun z => by have := z.1; omega), fun c3 => r_rv hN hW hkR (r_rv hN hW e2 ⟨fun c4 => hgo (fun z => by have := z.2.2.2; rw [tn] at this; omega), fun c4 => h _ (Or.inl ⟨k, rfl, hkR, ⟨by omega, by omega, c, by rw [tn]; omega⟩, i1⟩)⟩)⟩
theorem r_mainIn {p : Nat} {w : Int} (hN : NetR M 100 N) (hW : Wf N) (hh : ∀ p, p < N.P → 0 ≤ M 108 p ∧ M 108 p ≤ 2970) {Q : Int → Prop} (h : ∀ x : Int, MIn N (M 107) (M 108) w p x → Q x) : f_X12_mainIn (p : Int) w M Q := by
  unfold f_X12_mainIn
  refine ⟨fun c => ?_, fun c => ?_⟩
  · refine jn_use (P := fun J => ∀ v : Int, v = (if w = 1 then 1 else 0) → J v) ?_ (fun J hJ => ⟨fun c1 => hJ 0 (by rw [if_neg c1]), fun c1 => hJ 1 (by rw [if_pos c1])⟩)
    rintro _ rfl
    exact r_greatest (ef := N.ft) (Or.inr ⟨rfl, rfl⟩) hN hW hh (fun x hx => h x (Or.inl ⟨c, hx⟩))
  · refine r_greatest (ef := N.hd) (Or.inl ⟨rfl, rfl⟩) hN hW hh (fun o ho => ?_)
    rw [wgt_0] at ho
    exact r_calledAs (ef := N.ft) (eg := N.hd) (Or.inr ⟨rfl, rfl⟩) hN hW hh ho (fun x hx => h x (Or.inr ⟨c, o, ho, hx⟩))
theorem r_mainOut {p : Nat} {w : Int} (hN : NetR M 100 N) (hW : Wf N) (hh : ∀ p, p < N.P → 0 ≤ M 108 p ∧ M 108 p ≤ 2970) {Q : Int → Prop} (h : ∀ x : Int, MOut N (M 107) w p x → Q x) : f_X12_mainOut (p : Int) w M Q := by
  unfold f_X12_mainOut
  refine ⟨fun c => ?_, fun c => ?_⟩
  · refine r_greatest (ef := N.hd) (Or.inl ⟨rfl, rfl⟩) hN hW hh (fun x hx => h x (Or.inl ⟨c, ?_⟩))
    rw [wgt_0] at hx; exact hx
  · refine r_greatest (ef := N.ft) (Or.inr ⟨rfl, rfl⟩) hN hW hh (fun o ho => ?_)
    rw [wgt_0] at ho
    exact r_calledAs (ef := N.hd) (eg := N.ft) (Or.inl ⟨rfl, rfl⟩) hN hW hh ho (fun x hx => h x (Or.inr ⟨c, o, ho, hx⟩))
theorem r_by {w r : Nat} (hw : w < 3) (hr : r < 30) {Q : Int → Prop} (h : Q ((30 * w + r : Nat) : Int)) : f_X12_by (w : Int) (r : Int) M Q := by
  refine ⟨by unfold inR; omega, ?_⟩
  rw [show 30 * (w : Int) + r = ((30 * w + r : Nat) : Int) by omega]
  exact h
/-- a row of a way -/
def rw_ (M : Mem) (c w : Nat) (r : Nat) : Int := M c (30 * w + r)
theorem r_leastBranch {p w : Nat} (hw : w < 3) (hN : NetR M 100 N) (hW : Wf N) (hb : ∀ q, q < N.R → N.hd q = p → 1 ≤ rw_ M 114 w q) {Q : Int → Prop} (h : ∀ l : Int, Lst N (rw_ M 114 w) p l → Q l) : f_X12_leastBranch (p : Int) (w : Int) M Q := by
  obtain ⟨hP20, hR30, hr⟩ := id hW
  unfold f_X12_leastBranch
  refine wl2_inv (I := fun (l v : Int) => ∃ k : Nat, v = k ∧ k ≤ N.R ∧ ((l = 0 ∧ ∀ q, q < k → N.hd q ≠ p) ∨ (1 ≤ l ∧ (∃ q, q < k ∧ N.hd q = p ∧ rw_ M 114 w q = l) ∧ ∀ q, q < k → N.hd q = p → l ≤ rw_ M 114 w q))) (μ := fun (_ v : Int) => N.R - v.toNat) ?_ 5000 _ _ ⟨0, rfl, by omega, Or.inl ⟨rfl, fun q hq => by omega⟩⟩ (by simp; omega)
  rintro rec l v ⟨k, rfl, hk, i1⟩ hrec
  unfold X12_leastBranch_b5
  refine r_reaches hN ⟨fun c => ?_, fun c => ?_⟩
  · have e : k = N.R := by omega
    subst e
    refine h l ?_
    rcases i1 with i1 | ⟨-, i1⟩
    · exact Or.inl i1
    · exact Or.inr i1
  · have hkR : k < N.R := by omega
    have hst : ∀ l' : Int, ((l' = 0 ∧ ∀ q, q < k + 1 → N.hd q ≠ p) ∨ (1 ≤ l' ∧ (∃ q, q < k + 1 ∧ N.hd q = p ∧ rw_ M 114 w q = l') ∧ ∀ q, q < k + 1 → N.hd q = p → l' ≤ rw_ M 114 w q)) → inR ((k : Int) + 1) ∧ ∀ v4_4 : Int, v4_4 = (k : Int) + 1 → rec l' v4_4 := fun l' hh => by
      refine ⟨by unfold inR; omega, ?_⟩
      rintro _ rfl
      exact hrec _ _ ⟨k + 1, by omega, by omega, hh⟩ (by omega)
    refine r_hd hN hW hkR ⟨fun c1 => hst l ?_, fun c1 => ?_⟩
    · rcases i1 with ⟨i1, i2⟩ | ⟨i0, ⟨q, i1, i2⟩, i3⟩
      · refine Or.inl ⟨i1, fun q hq => ?_⟩
        rcases Nat.lt_or_ge q k with z | z
        · exact i2 q z
        · rw [show q = k by omega]; omega
      · refine Or.inr ⟨i0, ⟨q, by omega, i2⟩, fun q hq e => ?_⟩
        rcases Nat.lt_or_ge q k with z | z
        · exact i3 q z e
        · rw [show q = k by omega] at e; omega
    · have hb1 := hb k hkR (by omega)
      refine jn_use (P := fun J => (l = 0 ∨ rw_ M 114 w k < l) → J) (fun hj => r_by hw (by omega) ⟨by omega, ?_⟩) ?_
      · rw [tn]
        rintro _ rfl
        refine hst _ (Or.inr ⟨hb1, ⟨k, by omega, by omega, rfl⟩, fun q hq e => ?_⟩)
        show rw_ M 114 w k ≤ _
        rcases Nat.lt_or_ge q k with z | z
        · rcases i1 with ⟨i1, i2⟩ | ⟨i0, i1, i3⟩
          · exact absurd e (i2 q z)
          · have := i3 q z e; omega
        · rw [show q = k by omega]; omega
      · intro J hJ
        refine ⟨fun c2 => hJ (Or.inl c2), fun c2 => r_by hw (by omega) ⟨by omega, ?_⟩⟩
        rw [tn]
        refine ⟨fun c3 => hst l ?_, fun c3 => hJ (Or.inr (by unfold rw_; omega))⟩
        rcases i1 with ⟨i1, i2⟩ | ⟨i0, ⟨q, i1, i2⟩, i3⟩
        · exact absurd i1 c2
        · refine Or.inr ⟨i0, ⟨q, by omega, i2⟩, fun q hq e => ?_⟩
          rcases Nat.lt_or_ge q k with z | z
          · exact i3 q z e
          · rw [show q = k by omega]; exact c3
theorem r_topOf {w r : Nat} {pos : Nat → Nat} {nx : Nat → Int} {C : Nat → Prop} (hw : w < 3) (hr : r < N.R) (hR : N.R ≤ 30) (hP : ∀ r, r < N.R → pos (N.hd r) < pos (N.ft r) ∧ pos (N.hd r) < 20) (hn : Nxt N nx (rw_ M 113 w)) (h0 : C r) (hs : ∀ c d : Nat, c < N.R → d < N.R → C c → rw_ M 113 w c = d → C d) {Q : Int → Prop} (h : ∀ t : Nat, t < N.R → C t → rw_ M 113 w t = -1 → Q t) : f_X12_topOf (r : Int) (w : Int) M Q := by
  unfold f_X12_topOf
  refine wl1_inv (I := fun (v : Int) => ∃ t : Nat, v = t ∧ t < N.R ∧ C t) (μ := fun (v : Int) => pos (N.hd v.toNat)) ?_ 5000 _ ⟨r, rfl, hr, h0⟩ (by rw [tn]; have := (hP r hr).2; omega)
  rintro rec v ⟨t, rfl, ht, hC⟩ hrec
  unfold X12_topOf_b2
  refine r_by hw (by omega) ⟨by omega, ?_⟩
  rw [tn]
  refine ⟨fun c => h t ht hC c, fun c => r_by hw (by omega) ⟨by omega, ?_⟩⟩
  rw [tn]
  rintro _ rfl
  rcases hn.2 t ht with z | ⟨d, z1, z2, z3, -⟩
  · exact absurd z c
  · have z1' : M 113 (30 * w + t) = d := z1
    rw [z1']
    refine hrec _ ⟨d, rfl, z2, hs t d ht z2 hC z1⟩ ?_
    rw [tn, tn, ← z3]
    exact (hP d z2).1
end
