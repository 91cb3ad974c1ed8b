/-! reading: one place of the list -/
def Drf.plc (D : Drf) (x y : Int) : Drf := ((D.N.P + 1, D.N.R, D.N.hd, D.N.ft, D.N.ln, D.N.gf, D.N.rv), D.V, fun i => if i = D.N.P then x else D.X i, fun i => if i = D.N.P then y else D.Y i, D.U, D.Z)
def PlB (B : Nat → Int) (T : Nat) (D : Drf) (s : Nat) (a : Int) (c : Nat) : Prop := (D.N.P = 20 ∧ s < T ∧ a = 5 ∧ c = s) ∨ (¬ (D.N.P = 20 ∧ s < T) ∧ NmB B T s c ∧ a = 1) ∨ (¬ D.N.P = 20 ∧ a = 3 ∧ c = s ∧ ∃ (q i : Nat) (x y : Int), NmO B T s q x y ∧ Fnd D.Y D.N.P y i)
section
variable {M0 M M' : Mem} {B : Nat → Int} {T p q k s : Nat} {D : Drf} {e : Int}
theorem PlB.uniq {a a' : Int} {c c' : Nat} (h : PlB B T D s a c) (h' : PlB B T D s a' c') : a' = a ∧ c' = c := by
  rcases h with ⟨h1, h2, h3, h4⟩ | ⟨h1, h2, h3⟩ | ⟨h1, h2, h3, q, i, x, y, h4, h5⟩ <;> rcases h' with ⟨g1, g2, g3, g4⟩ | ⟨g1, g2, g3⟩ | ⟨g1, g2, g3, q', i', x', y', g4, g5⟩
  · omega
  · exact absurd ⟨h1, h2⟩ g1
  · exact absurd h1 g1
  · exact absurd ⟨g1, g2⟩ h1
  · exact ⟨by omega, h2.uniq g2⟩
  · exact absurd h2 g4.no
  · exact absurd g1 h1
  · exact absurd g2 h4.no
  · omega
theorem PlB.no {a x y : Int} {c : Nat} (hn : NmO B T s q x y) (hr : Fnd D.Y D.N.P y (-1)) (hP : D.N.P < 20) : ¬ PlB B T D s a c := by
  rintro (⟨h1, h2, h3, h4⟩ | ⟨h1, h2, h3⟩ | ⟨h1, h2, h3, q', i, x', y', h4, h5⟩)
  · omega
  · exact hn.no h2
  · obtain ⟨rfl, rfl, rfl⟩ := hn.uniq h4
    have := hr.uniq h5
    omega
theorem DOk.plc {x y : Int} (h : DOk D) (hR : D.N.R = 0) (hP : D.N.P < 20) (hn : Nm x y) : DOk (D.plc x y) := by
  have z : ∀ r, ¬ r < D.N.R := fun r hr => by omega
  refine ⟨⟨⟨hP, h.1.1.2.1, fun r hr => absurd hr (z r)⟩, fun _ => 0, fun r hr => absurd hr.1 (z r)⟩, h.2.1, fun r hr => absurd hr (z r), fun v hv => ?_, h.2.2.2.2⟩
  have hv' : v < D.N.P + 1 := hv
  show Nm (if v = D.N.P then x else D.X v) (if v = D.N.P then y else D.Y v)
  by_cases z : v = D.N.P
  · rw [if_pos z, if_pos z]; exact hn
  · rw [if_neg z, if_neg z]; exact h.2.2.2.1 v (by omega)
theorem k_newPlace (hB : Bt M0 B T) (hD : DOk D) (h : XS M0 T D p M) {Q : Int → Mem → Prop} (h1 : ∀ (M' : Mem) (s q : Nat) (x y : Int), Skp B T p s → NmO B T s q x y → Fnd D.Y D.N.P y (-1) → D.N.P < 20 → XS M0 T (D.plc x y) q M' → Q 1 M') (h0 : ∀ (M' : Mem) (s : Nat) (a : Int) (c : Nat), Skp B T p s → a ≠ 0 → PlB B T D s a c → XF M0 a c M' → Q 0 M') : f_X6_readNewPlace M Q := by
  unfold f_X6_readNewPlace
  have hP := hD.1.1.1
  have hl : D.N.P ≤ lenS (shp 10) := by rw [show lenS (shp 10) = 20 by decide +kernel]; exact hP
  refine k_skip (h.bt hB) h.2.1 h.2.2.1 (fun M1 s hs hA => ?_)
  have hX := h.at_ hA hs.2.1
  have hd0 := hX.2.2.2.2.2
  refine jn_use (P := fun J => ¬ (D.N.P = 20 ∧ s < T) → J M1) (fun hc => ?_) (fun J hJ => ?_)
  · intro v2 e2
    rw [hX.2.1] at e2
    refine k_readName hB hX (fun M2 q x y hn hx hX2 => ⟨fun _ => ?_, fun w => absurd w hx⟩) (fun M2 c hb hXF => ⟨fun w => absurd rfl w, fun _ => h0 M2 s 1 c hs (by omega) (Or.inr (Or.inl ⟨hc, hb, rfl⟩)) hXF⟩)
    have hd := hX2.2.2.2.2.2
    have hsT : s < T := by have := hn.2.1; have := hn.1.2.1; omega
    have hP20 : ¬ D.N.P = 20 := fun z => hc ⟨z, hsT⟩
    refine k_find hl (by omega) hd.1.1 hd.2.2.1 (fun r hr => ⟨fun w => ?_, fun w => ?_⟩)
    · subst w
      rw [hd.1.1]
      refine ⟨fun u => by omega, fun u => ⟨by omega, fun M9 e9 => ?_⟩⟩
      rw [tn] at e9
      have a0 : M9 4 0 = (D.N.P : Int) := by rw [e9, st_o (by omega)]; exact hd.1.1
      rw [a0]
      refine ⟨by unfold inR; omega, fun M11 e11 => ?_⟩
      have oc : ∀ c, c ≠ 4 → c ≠ 10 → M11 c = M2 c := fun c c1 c2 => by rw [e11, st_o c1, e9, st_o c2]
      have o4 : ∀ j, j ≠ 0 → M11 4 j = M2 4 j := fun j hj => by rw [e11, st_s, if_neg hj, e9, st_o (by omega)]
      have hd1 := hd.1.2.2
      refine h1 M11 s q x y hs hn (hr.yr hD hn.nm) (by omega) ⟨fun d d1 d2 => by rw [oc d (by omega) (by omega)]; exact hX2.1 d d1 d2, by rw [oc 3 (by omega) (by omega)]; exact hX2.2.1, hX2.2.2.1, by rw [oc 3 (by omega) (by omega)]; exact hX2.2.2.2.1, by rw [oc 3 (by omega) (by omega)]; exact hX2.2.2.2.2.1, ⟨?_, ?_, fun r hr => ?_⟩, by rw [oc 3 (by omega) (by omega)]; exact hd.2.1, fun v hv => ?_, fun v hv => by rw [oc 11 (by omega) (by omega)]; exact hd.2.2.2 v hv⟩
      · rw [e11, st_s, if_pos rfl]; show (D.N.P : Int) + 1 = ((D.N.P + 1 : Nat) : Int); omega
      · rw [o4 1 (by omega)]; exact hd.1.2.1
      · rw [oc (4 + 1) (by omega) (by omega), oc (4 + 2) (by omega) (by omega), oc (4 + 3) (by omega) (by omega), oc (4 + 4) (by omega) (by omega), oc (4 + 5) (by omega) (by omega)]
        exact hd1 r hr
      · have hv' : v < D.N.P + 1 := hv
        show M11 10 v = if v = D.N.P then x else D.X v
        rw [e11, st_o (by omega), e9, st_s]
        by_cases z : v = D.N.P
        · rw [if_pos z, if_pos z]
        · rw [if_neg z, if_neg z]; exact hd.2.2.1 v (by omega)
    · obtain ⟨i, ei, hi⟩ := hr.at_ w
      subst ei
      rw [e2]
      exact k_fail hX2.1 (fun M3 hXF => h0 M3 s 3 s hs (by omega) (Or.inr (Or.inr ⟨hP20, rfl, rfl, q, i, x, y, hn, hr.yr hD hn.nm⟩)) hXF)
  · rw [hd0.1.1, (hX.bt hB).1, hX.2.1]
    refine ⟨fun w => hJ (fun z => by omega), fun w => ⟨fun u => hJ (fun z => by omega), fun u => ?_⟩⟩
    exact k_fail hX.1 (fun M3 hXF => h0 M3 s 5 s hs (by omega) (Or.inl ⟨by omega, by omega, rfl, rfl⟩) hXF)
theorem t_plStep {rec : Int → Mem → Prop} {Qp : Mem → Prop} (hB : Rb M0 B T) (hO : Own M0) (hD : DOk D) (hR : D.N.R = 0) (h : RS M0 T D p e k M) (hs : Skp B T p s) (hf : Fre B T p e) (h4 : ∀ (M' : Mem) (q : Nat) (x y : Int), NmO B T s q x y → Fnd D.Y D.N.P y (-1) → D.N.P < 20 → RS M0 T (D.plc x y) q q k M' → f_X12_takesSign 44 M' (fun r M => rec r M)) (h0 : ∀ (M' : Mem) (a : Int) (c : Nat), a ≠ 0 → PlB B T D s a c → JK M0 T a c k M' → rec 0 M') : X12_placesTold_b13 Qp rec 1 M := by
  unfold X12_placesTold_b13
  have hP := hD.1.1.1
  have hV := hD.2.1
  refine ⟨fun w => absurd w (by omega), fun _ => t_look (h.1.rb hB) h.2.1 h.2.2.1 (fun M5 s5 hs5 hA => ?_)⟩
  have es := hs.uniq hs5
  subst es
  have hR5 := h.rt hA hs.2.1
  have hf5 := hf.skp hs
  have hd5 := hR5.2.2.2.2.2.2.2
  /- all that follows a failure -/
  refine jn_use (P := fun J => (¬ D.N.P = 20 → J M5) ∧ (∀ (M6 : Mem) (a : Int) (c : Nat), a ≠ 0 → PlB B T D s a c → JK M0 T a c k M6 → J M6)) ⟨fun hP20 => ?_, fun M6 a c ha hpl hJ6 => ?_⟩ (fun J hJ => ?_)
  · refine t_name hB hO hR5 hs.self (hf5.he hs.self) (fun M8 q x y hn hR8 h11 => ?_) (fun M8 c hb hJ8 => ?_)
    · have hd8 := hR8.2.2.2.2.2.2.2
      obtain ⟨r, hr⟩ := Fnd.ex (f := D.Y) (x := y) D.N.P
      refine jn_use (P := fun J => (r = -1 → J M8) ∧ (∀ M9 : Mem, r ≠ -1 → JK M0 T 3 s k M9 → J M9)) ⟨fun er => ?_, fun M9 er hJ9 => ?_⟩ (fun J hJ => ⟨fun w => absurd hR8.2.2.2.2.1 w, fun _ => t_named (o := 3) (by omega) (by omega) rfl hd8.1.1 hd8.2.2.1 hr ⟨fun w => hJ.1 w, fun w => ?_⟩⟩)
      · subst er
        refine jn_use (P := fun J => ∀ M16 : Mem, RS M0 T (D.plc x y) q q k M16 → J M16) (fun M16 hR16 => h4 M16 q x y hn hr (by omega) hR16) (fun J hJ => ⟨fun w => absurd hR8.2.2.2.2.1 w, fun _ => ?_⟩)
        rw [hd8.1.1]
        refine ⟨by omega, fun M14 e14 => ?_⟩
        rw [show (3 : Int) + (D.N.P : Int) = ((3 + D.N.P : Nat) : Int) by omega, tn] at e14
        have a0 : M14 99 0 = (D.N.P : Int) := by rw [e14, st_s, if_neg (by omega)]; exact hd8.1.1
        rw [a0]
        refine ⟨by unfold inR; omega, fun M16 e16 => hJ M16 ?_⟩
        have oo : ∀ j, j ≠ 0 → j ≠ 3 + D.N.P → M16 99 j = M8 99 j := fun j j1 j2 => by rw [e16, st_s, if_neg j1, e14, st_s, if_neg j2]
        have oc : ∀ c, c ≠ 99 → M16 c = M8 c := fun c c1 => by rw [e16, st_o c1, e14, st_o c1]
        refine ⟨hR8.1.next (fun c _ c2 => oc c c2) (fun j _ _ _ _ _ _ => by rw [oc 95 (by omega)]), by rw [oc 95 (by omega)]; exact hR8.2.1, hR8.2.2.1, by rw [oc 95 (by omega)]; exact hR8.2.2.2.1, by rw [oc 95 (by omega)]; exact hR8.2.2.2.2.1, by rw [oc 95 (by omega)]; exact hR8.2.2.2.2.2.1, by rw [oc 95 (by omega)]; exact hR8.2.2.2.2.2.2.1, ⟨?_, by rw [oo 1 (by omega) (by omega)]; exact hd8.1.2.1, fun r hr => ?_⟩, by rw [oo 2 (by omega) (by omega)]; exact hd8.2.1, fun v hv => ?_, fun v hv => ?_⟩
        · rw [e16, st_s, if_pos rfl]; show (D.N.P : Int) + 1 = ((D.N.P + 1 : Nat) : Int); omega
        · have hr' : r < D.N.R := hr
          omega
        · have hv' : v < D.N.P + 1 := hv
          show M16 99 (3 + v) = if v = D.N.P then y else D.Y v
          by_cases z : v = D.N.P
          · rw [if_pos z, e16, st_s, if_neg (by omega), e14, st_s, if_pos (by omega)]
          · rw [if_neg z, oo _ (by omega) (by omega)]; exact hd8.2.2.1 v (by omega)
        · have hv' : v < D.V := hv
          rw [oo _ (by omega) (by omega)]; exact hd8.2.2.2 v hv'
      · obtain ⟨i, ei, hi⟩ := hr.at_ er
        subst ei
        exact jn_use (P := fun J => J M9) (t_signBad (hJ9.ne (by omega)) (h0 M9 3 s (by omega) (Or.inr (Or.inr ⟨hP20, rfl, rfl, q, i, x, y, hn, hr⟩)) hJ9)) (fun J hJ => ⟨fun _ => hJ, fun w => absurd w (hJ9.ne (by omega))⟩)
      · rw [h11]
        exact t_fail hR8 (fun M9 hJ9 => hJ.2 M9 w hJ9)
    · refine jn_use (P := fun J => J M8) ?_ (fun J hJ => ⟨fun _ => hJ, fun w => absurd w (hJ8.ne (by omega))⟩)
      exact jn_use (P := fun J => J M8) (t_signBad (hJ8.ne (by omega)) (h0 M8 1 c (by omega) (Or.inr (Or.inl ⟨fun z => hP20 z.1, hb, rfl⟩)) hJ8)) (fun J hJ => ⟨fun _ => hJ, fun w => absurd w (hJ8.ne (by omega))⟩)
  · refine t_nameBadS (hJ6.ne ha) ?_
    refine jn_use (P := fun J => J M6) ?_ (fun J hJ => ⟨fun _ => hJ, fun w => absurd w (hJ6.ne ha)⟩)
    exact jn_use (P := fun J => J M6) (t_signBad (hJ6.ne ha) (h0 M6 a c ha hpl hJ6)) (fun J hJ => ⟨fun _ => hJ, fun w => absurd w (hJ6.ne ha)⟩)
  · rw [hd5.1.1, hR5.2.1, (hR5.1.rb hB).1]
    refine ⟨fun w => hJ.1 (fun z => w (by omega)), fun w => ?_⟩
    refine jn_use (P := fun J => (s < T → J 5) ∧ (¬ s < T → J 1)) ⟨fun z => t_fail hR5 (fun M6 hJ6 => hJ.2 M6 5 s (by omega) (Or.inl ⟨by omega, z, rfl, rfl⟩) hJ6), fun z => t_fail hR5 (fun M6 hJ6 => hJ.2 M6 1 s (by omega) (Or.inr (Or.inl ⟨fun u => z u.2, ⟨s, ⟨Nat.le_refl _, hs.2.1, fun i i1 i2 => by omega, fun u => absurd u z⟩, Or.inl ⟨Or.inl rfl, rfl⟩⟩, rfl⟩)) hJ6)⟩ (fun J hJ => ?_)
    have := hs.2.1
    exact ⟨fun u => hJ.1 (by omega), fun u => hJ.2 (by omega)⟩
end
