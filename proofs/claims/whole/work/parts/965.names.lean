/-! reading: what both readers hold; names -/
def Drf : Type := Nt × Nat × (Nat → Int) × (Nat → Int) × (Nat → Int) × (Nat → Int)
def Drf.N (D : Drf) : Nt := D.1
def Drf.V (D : Drf) : Nat := D.2.1
def Drf.X (D : Drf) : Nat → Int := D.2.2.1
def Drf.Y (D : Drf) : Nat → Int := D.2.2.2.1
def Drf.U (D : Drf) : Nat → Int := D.2.2.2.2.1
def Drf.Z (D : Drf) : Nat → Int := D.2.2.2.2.2
def DrX (M : Mem) (D : Drf) : Prop := NetX M 4 D.N ∧ M 3 3 = D.V ∧ (∀ p, p < D.N.P → M 10 p = D.X p) ∧ ∀ v, v < D.V → M 11 v = D.U v
def DrR (M : Mem) (D : Drf) : Prop := NetR M 99 D.N ∧ M 99 2 = D.V ∧ (∀ p, p < D.N.P → M 99 (3 + p) = D.Y p) ∧ ∀ v, v < D.V → M 99 (23 + v) = D.Z v
def DOk (D : Drf) : Prop := Good D.N ∧ D.V ≤ 10 ∧ (∀ r, r < D.N.R → D.N.rv r < D.V) ∧ (∀ p, p < D.N.P → Nm (D.X p) (D.Y p)) ∧ ∀ v, v < D.V → Nm (D.U v) (D.Z v)
/-- what the class's reader may touch -/
def FrX (M0 M : Mem) : Prop := ∀ d, d ≠ 3 → ¬ (4 ≤ d ∧ d ≤ 11) → M d = M0 d
def FrR (M0 M : Mem) : Prop := (∀ d, d ≠ 95 → d ≠ 99 → M d = M0 d) ∧ ∀ j, j ≠ 2 → j ≠ 4 → j ≠ 5 → j ≠ 6 → j ≠ 11 → j ≠ 14 → M 95 j = M0 95 j
/-- the class reads on at p -/
def XS (M0 : Mem) (T : Nat) (D : Drf) (p : Nat) (M : Mem) : Prop := FrX M0 M ∧ M 3 7 = p ∧ p ≤ T ∧ M 3 4 = 0 ∧ M 3 5 = -1 ∧ DrX M D
/-- the class has failed -/
def XF (M0 : Mem) (a c : Int) (M : Mem) : Prop := FrX M0 M ∧ M 3 4 = a ∧ M 3 5 = c
def RS (M0 : Mem) (T : Nat) (D : Drf) (p : Nat) (e : Int) (k : Nat) (M : Mem) : Prop := FrR M0 M ∧ M 95 2 = p ∧ p ≤ T ∧ M 95 4 = e ∧ M 95 5 = 0 ∧ M 95 6 = -1 ∧ M 95 14 = k ∧ DrR M D
def JK (M0 : Mem) (T : Nat) (a c : Int) (k : Nat) (M : Mem) : Prop := FrR M0 M ∧ (∃ p : Nat, p ≤ T ∧ M 95 2 = p) ∧ M 95 5 = a ∧ M 95 6 = c ∧ M 95 14 = k
def NmO (B : Nat → Int) (T s q : Nat) (x y : Int) : Prop := Wnd B T s q ∧ s < q ∧ q - s ≤ 6 ∧ (∀ k, k < 6 → x32 (wl_ B s) (q - s) ≠ ocd k) ∧ x = (x32 (wl_ B s) (q - s) : Int) ∧ y = (y27 (wl_ B s) (q - s) : Int)
def NmB (B : Nat → Int) (T s c : Nat) : Prop := ∃ q, Wnd B T s q ∧ (((q = s ∨ (q - s ≤ 6 ∧ ∃ k, k < 6 ∧ x32 (wl_ B s) (q - s) = ocd k)) ∧ c = s) ∨ (6 < q - s ∧ c = s + 6))
section
variable {M0 M M' : Mem} {B : Nat → Int} {T p q k : Nat} {D : Drf} {e : Int}
theorem NmO.nm {s : Nat} {x y : Int} (h : NmO B T s q x y) : Nm x y := ⟨q - s, wl_ B s, h.2.2.1, h.1.letters, h.2.2.2.2.1, h.2.2.2.2.2⟩
theorem DrX.at_ (h : DrX M D) (hA : At M M' q) : DrX M' D := by
  unfold DrX at *
  refine ⟨h.1.of (fun c _ _ => hA.1 c (by omega)), ?_, ?_⟩
  · rw [hA.2.1 3 (by omega)]; exact h.2.1
  · rw [hA.1 10 (by omega), hA.1 11 (by omega)]; exact h.2.2
theorem FrX.at_ (h : FrX M0 M) (hA : At M M' q) : FrX M0 M' := fun d h1 h2 => by rw [hA.1 d h1, h d h1 h2]
theorem XS.at_ (h : XS M0 T D p M) (hA : At M M' q) (hq : q ≤ T) : XS M0 T D q M' := ⟨h.1.at_ hA, hA.2.2, hq, by rw [hA.2.1 4 (by omega)]; exact h.2.2.2.1, by rw [hA.2.1 5 (by omega)]; exact h.2.2.2.2.1, h.2.2.2.2.2.at_ hA⟩
theorem XS.bt (h : XS M0 T D p M) (hB : Bt M0 B T) : Bt M B T := hB.of (h.1 1 (by omega) (by omega)) (h.1 2 (by omega) (by omega))
theorem FrR.rb (h : FrR M0 M) (hB : Rb M0 B T) : Rb M B T := hB.of (h.2 3 (by omega) (by omega) (by omega) (by omega) (by omega) (by omega)) (h.1 96 (by omega) (by omega))
theorem FrR.own (h : FrR M0 M) (hO : Own M0) : Own M := by
  unfold Own at *
  rw [h.1 98 (by omega) (by omega)]
  exact hO
theorem FrR.next (h : FrR M0 M) (e1 : ∀ c, c ≠ 95 → c ≠ 99 → M' c = M c) (e2 : ∀ j, j ≠ 2 → j ≠ 4 → j ≠ 5 → j ≠ 6 → j ≠ 11 → j ≠ 14 → M' 95 j = M 95 j) : FrR M0 M' := ⟨fun d h1 h2 => by rw [e1 d h1 h2, h.1 d h1 h2], fun j h1 h2 h3 h4 h5 h6 => by rw [e2 j h1 h2 h3 h4 h5 h6, h.2 j h1 h2 h3 h4 h5 h6]⟩
theorem DrR.of (h : DrR M D) (e : M' 99 = M 99) : DrR M' D := by
  unfold DrR at *
  rw [e]
  exact ⟨h.1.of e, h.2⟩
theorem RS.rt (h : RS M0 T D p e k M) (hA : Rt M M' q) (hq : q ≤ T) : RS M0 T D q e k M' := ⟨h.1.next (fun c h1 _ => hA.1 c h1) (fun j h1 _ _ _ _ _ => hA.2.1 j h1), hA.2.2, hq, by rw [hA.2.1 4 (by omega)]; exact h.2.2.2.1, by rw [hA.2.1 5 (by omega)]; exact h.2.2.2.2.1, by rw [hA.2.1 6 (by omega)]; exact h.2.2.2.2.2.1, by rw [hA.2.1 14 (by omega)]; exact h.2.2.2.2.2.2.1, h.2.2.2.2.2.2.2.of (hA.1 99 (by omega))⟩
theorem RS.re {e' : Int} (h : RS M0 T D p e k M) (hA : Re M M' q e') (hq : q ≤ T) : RS M0 T D q e' k M' := ⟨h.1.next (fun c h1 _ => hA.1 c h1) (fun j h1 h2 _ _ _ _ => hA.2.1 j h1 h2), hA.2.2.1, hq, hA.2.2.2, by rw [hA.2.1 5 (by omega) (by omega)]; exact h.2.2.2.2.1, by rw [hA.2.1 6 (by omega) (by omega)]; exact h.2.2.2.2.2.1, by rw [hA.2.1 14 (by omega) (by omega)]; exact h.2.2.2.2.2.2.1, h.2.2.2.2.2.2.2.of (hA.1 99 (by omega))⟩
theorem RS.set {v : Int} (h : RS M0 T D p e k M) (hv : v = q) (hq : q ≤ T) : RS M0 T D q e k (st M 95 2 v) := h.rt ((Rt.refl h.2.1).set hv) hq
theorem RS.np {v : Int} (h : RS M0 T D p e k M) : RS M0 T D p e k (st M 95 11 v) := by
  have o : ∀ j, j ≠ 11 → st M 95 11 v 95 j = M 95 j := fun j hj => by rw [st_s, if_neg hj]
  refine ⟨h.1.next (fun c h1 _ => by rw [st_o h1]) (fun j _ _ _ _ h5 _ => o j h5), ?_, h.2.2.1, ?_, ?_, ?_, ?_, h.2.2.2.2.2.2.2.of (by rw [st_o (by omega)])⟩
  · rw [o 2 (by omega)]; exact h.2.1
  · rw [o 4 (by omega)]; exact h.2.2.2.1
  · rw [o 5 (by omega)]; exact h.2.2.2.2.1
  · rw [o 6 (by omega)]; exact h.2.2.2.2.2.1
  · rw [o 14 (by omega)]; exact h.2.2.2.2.2.2.1
theorem RS.en {v : Int} (h : RS M0 T D p e k M) : RS M0 T D p v k (st M 95 4 v) := by
  have o : ∀ j, j ≠ 4 → st M 95 4 v 95 j = M 95 j := fun j hj => by rw [st_s, if_neg hj]
  refine ⟨h.1.next (fun c h1 _ => by rw [st_o h1]) (fun j _ h2 _ _ _ _ => o j h2), ?_, h.2.2.1, ?_, ?_, ?_, ?_, h.2.2.2.2.2.2.2.of (by rw [st_o (by omega)])⟩
  · rw [o 2 (by omega)]; exact h.2.1
  · rw [st_s, if_pos rfl]
  · rw [o 5 (by omega)]; exact h.2.2.2.2.1
  · rw [o 6 (by omega)]; exact h.2.2.2.2.2.1
  · rw [o 14 (by omega)]; exact h.2.2.2.2.2.2.1
theorem t_fail {a c : Int} (h : RS M0 T D p e k M) {Q : Mem → Prop} (hQ : ∀ M' : Mem, JK M0 T a c k M' → Q M') : f_X12_fail a c M Q := by
  unfold f_X12_fail
  refine ⟨fun _ M1 e1 M2 e2 => hQ M2 ?_, fun z => absurd h.2.2.2.2.1 z⟩
  have o : ∀ j, j ≠ 5 → j ≠ 6 → M2 95 j = M 95 j := fun j h5 h6 => by rw [e2, st_s, if_neg h6, e1, st_s, if_neg h5]
  refine ⟨h.1.next (fun c h1 _ => by rw [e2, st_o h1, e1, st_o h1]) (fun j _ _ h3 h4 _ _ => o j h3 h4), ⟨p, h.2.2.1, by rw [o 2 (by omega) (by omega)]; exact h.2.1⟩, by rw [e2, st_s, if_neg (by omega), e1, st_s, if_pos rfl], by rw [e2, st_s, if_pos rfl], by rw [o 14 (by omega) (by omega)]; exact h.2.2.2.2.2.2.1⟩
theorem k_fail {a c : Int} (h : FrX M0 M) {Q : Int → Mem → Prop} (hQ : ∀ M' : Mem, XF M0 a c M' → Q 0 M') : f_X6_fail a c M Q := by
  unfold f_X6_fail
  intro M1 e1 M2 e2
  exact hQ M2 ⟨fun d h1 h2 => by rw [e2, st_o h1, e1, st_o h1, h d h1 h2], by rw [e2, st_s, if_neg (by omega), e1, st_s, if_pos rfl], by rw [e2, st_s, if_pos rfl]⟩
/-! what a reader that has failed does: nothing -/
theorem JK.fail {a c a' c' : Int} (h : JK M0 T a c k M) (ha : a ≠ 0) {Q : Mem → Prop} (hQ : Q M) : f_X12_fail a' c' M Q := by
  unfold f_X12_fail
  exact ⟨fun z => absurd (h.2.2.1.symm.trans z) ha, fun _ => hQ⟩
theorem JK.ne {a c : Int} (h : JK M0 T a c k M) (ha : a ≠ 0) : M 95 5 ≠ 0 := fun z => ha (h.2.2.1.symm.trans z)
theorem t_asksBad {j : Nat} (h5 : M 95 5 ≠ 0) {Q : Mem → Prop} (h : Q M) : f_X12_asks (j : Int) M Q := by
  unfold f_X12_asks
  exact ⟨fun _ => h, fun z => absurd z h5⟩
theorem t_signBad {v : Int} (h5 : M 95 5 ≠ 0) {Q : Int → Mem → Prop} (h : Q 0 M) : f_X12_takesSign v M Q := by
  unfold f_X12_takesSign
  exact ⟨fun _ => h, fun z => absurd z h5⟩
theorem t_asksSignBad {v : Int} (h5 : M 95 5 ≠ 0) {Q : Mem → Prop} (h : Q M) : f_X12_asksSign v M Q := by
  unfold f_X12_asksSign
  exact ⟨fun _ => h, fun z => absurd z h5⟩
theorem t_nameBadS (h5 : M 95 5 ≠ 0) {Q : Int → Mem → Prop} (h : Q 0 M) : f_X12_name M Q := by
  unfold f_X12_name
  exact ⟨fun z => absurd z h5, fun _ => h⟩
theorem t_numberBad {a b : Int} (h5 : M 95 5 ≠ 0) {Q : Int → Mem → Prop} (h : Q a M) : f_X12_number a b M Q := by
  unfold f_X12_number
  exact ⟨fun z => absurd z h5, fun _ => h⟩
theorem t_riverBad (h5 : M 95 5 ≠ 0) {Q : Int → Mem → Prop} (h : Q (-1) M) : f_X12_riverTold M Q := by
  unfold f_X12_riverTold
  exact t_nameBadS h5 ⟨fun z => absurd z h5, fun _ => h⟩
theorem t_placeBad (h5 : M 95 5 ≠ 0) {Q : Int → Mem → Prop} (h : Q 0 M) : f_X12_placeTold M Q := by
  unfold f_X12_placeTold
  refine t_nameBadS h5 ?_
  refine jn_use (P := fun J => J 0) ?_ (fun J hJ => ⟨fun _ => hJ, fun z => absurd z h5⟩)
  exact jn_use (P := fun J => J M) ⟨fun _ => h, fun z => absurd z h5⟩ (fun J hJ => ⟨fun _ => hJ, fun z => absurd z h5⟩)
theorem k_readName (hB : Bt M0 B T) (h : XS M0 T D p M) {Q : Int → Mem → Prop} (h1 : ∀ (M' : Mem) (q : Nat) (x y : Int), NmO B T p q x y → x ≠ -1 → XS M0 T D q M' → Q x M') (h0 : ∀ (M' : Mem) (c : Nat), NmB B T p c → XF M0 1 c M' → Q (-1) M') : f_X6_readName M Q := by
  unfold f_X6_readName
  have hB' := h.bt hB
  have hp := h.2.1
  have hT := hB.2.1
  have hpT := h.2.2.1
  refine k_wordEnd hB' hp hpT (fun q hW => ?_)
  have hqT := hW.2.1
  have hpq := hW.1
  rw [hp]
  refine ⟨by unfold inR; omega, fun c => ?_, fun c => ⟨by unfold inR; omega, k_fail h.1 (fun M' hF => h0 M' (p + 6) ⟨q, hW, Or.inr ⟨by omega, rfl⟩⟩ (by rw [show ((p + 6 : Nat) : Int) = (p : Int) + 6 by omega]; exact hF))⟩⟩
  refine k_wordTo hB' hp hW (fun h6 => ?_) (fun h6 => by omega) rfl
  refine jn_use (P := fun J => (q = p ∨ (q - p ≤ 6 ∧ ∃ k, k < 6 ∧ x32 (wl_ B p) (q - p) = ocd k)) → J M) (fun z => ?_) ?_
  · rw [hp]
    exact k_fail h.1 (fun M' hF => h0 M' p ⟨q, hW, Or.inl ⟨z, rfl⟩⟩ hF)
  intro J hJ
  have hpos : p < q → 0 < x32 (wl_ B p) (q - p) := fun z => by
    have a := x32_at (k := 0) h6 hW.letters (by omega)
    have b := hW.letters 0 (by omega)
    rw [if_pos (by omega)] at a
    have := a.2
    rcases Nat.eq_zero_or_pos (x32 (wl_ B p) (q - p)) with w | w
    · rw [w] at this; simp at this; omega
    · exact w
  refine ⟨fun z => hJ (Or.inl ?_), fun z => ?_⟩
  · rcases Nat.lt_or_ge p q with w | w
    · have := hpos w; omega
    · omega
  have own : (∃ k, k < 6 ∧ x32 (wl_ B p) (q - p) = ocd k) → J M := fun w => hJ (Or.inr ⟨h6, w⟩)
  unfold f_X6_isOwnWord
  refine ⟨fun w => ⟨fun u => absurd u (by omega), fun _ => own ⟨0, by omega, by show _ = 642876816; omega⟩⟩, fun w0 => ⟨fun w => ⟨fun u => absurd u (by omega), fun _ => own ⟨1, by omega, by show _ = 8488114; omega⟩⟩, fun w1 => ⟨fun w => ⟨fun u => absurd u (by omega), fun _ => own ⟨2, by omega, by show _ = 500; omega⟩⟩, fun w2 => ⟨fun w => ⟨fun u => absurd u (by omega), fun _ => own ⟨3, by omega, by show _ = 244204; omega⟩⟩, fun w3 => ⟨fun w => ⟨fun u => absurd u (by omega), fun _ => own ⟨4, by omega, by show _ = 642127161; omega⟩⟩, fun w4 => ⟨fun w5 => ⟨fun _ => ?_, fun u => absurd rfl u⟩, fun w => ⟨fun u => absurd u (by omega), fun _ => own ⟨5, by omega, by show _ = 139866147; omega⟩⟩⟩⟩⟩⟩⟩⟩
  intro M6 e6
  rw [e6]
  refine h1 _ q _ (y27 (wl_ B p) (q - p) : Int) ⟨hW, ?_, h6, fun k hk u => ?_, rfl, rfl⟩ (by omega) (h.at_ ((At.refl hp).set rfl) hqT)
  · rcases Nat.lt_or_ge p q with w | w
    · exact w
    · rw [show q - p = 0 by omega] at z; exact absurd rfl z
  · obtain rfl | rfl | rfl | rfl | rfl | rfl : k = 0 ∨ k = 1 ∨ k = 2 ∨ k = 3 ∨ k = 4 ∨ k = 5 := by omega
    · exact w0 (by rw [u]; rfl)
    · exact w1 (by rw [u]; rfl)
    · exact w2 (by rw [u]; rfl)
    · exact w3 (by rw [u]; rfl)
    · exact w4 (by rw [u]; rfl)
    · exact w5 (by rw [u]; rfl)
end
