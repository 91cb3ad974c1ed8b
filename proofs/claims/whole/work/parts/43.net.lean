/-! a net: how many places, reaches; ends, lengths, yields, rivers -/
def Nt : Type := Nat × Nat × (Nat → Nat) × (Nat → Nat) × (Nat → Int) × (Nat → Int) × (Nat → Int)
def Nt.P (N : Nt) : Nat := N.1
def Nt.R (N : Nt) : Nat := N.2.1
def Nt.hd (N : Nt) : Nat → Nat := N.2.2.1
def Nt.ft (N : Nt) : Nat → Nat := N.2.2.2.1
def Nt.ln (N : Nt) : Nat → Int := N.2.2.2.2.1
def Nt.gf (N : Nt) : Nat → Int := N.2.2.2.2.2.1
def Nt.rv (N : Nt) : Nat → Int := N.2.2.2.2.2.2
def NetX (M : Mem) (a : Nat) (N : Nt) : Prop := M a 0 = N.P ∧ M a 1 = N.R ∧ ∀ r, r < N.R → M (a + 1) r = N.hd r ∧ M (a + 2) r = N.ft r ∧ M (a + 3) r = N.ln r ∧ M (a + 4) r = N.gf r ∧ M (a + 5) r = N.rv r
def NetR (M : Mem) (a : Nat) (N : Nt) : Prop := M a 0 = N.P ∧ M a 1 = N.R ∧ ∀ r, r < N.R → M a (33 + 5 * r) = N.hd r ∧ M a (34 + 5 * r) = N.ft r ∧ M a (35 + 5 * r) = N.ln r ∧ M a (36 + 5 * r) = N.gf r ∧ M a (37 + 5 * r) = N.rv r
def Wf (N : Nt) : Prop := N.P ≤ 20 ∧ N.R ≤ 30 ∧ ∀ r, r < N.R → N.hd r < N.P ∧ N.ft r < N.P ∧ 1 ≤ N.ln r ∧ N.ln r ≤ 99 ∧ 0 ≤ N.gf r ∧ N.gf r ≤ 99 ∧ -1 ≤ N.rv r ∧ N.rv r < 10
def Ew (R : Nat) (wo : Int) : Nat → Prop := fun r => r < R ∧ (r : Int) ≠ wo
theorem Rch_lt {N : Nt} (hW : Wf N) {wo : Int} {a b : Nat} (ha : a < N.P) (h : Rch (Ew N.R wo) N.hd N.ft a b) : b < N.P := h.hand (C := fun p => p < N.P) ha (fun r hr _ => (hW.2.2 r hr.1).2.1)
theorem tn (k : Nat) : ((k : Nat) : Int).toNat = k := Int.toNat_natCast k
/-- more bits, and not the same number: one bit more below P -/
theorem cnt_more {x y : Int} {P : Nat} (hx : inR x) (hy : inR y) (h : ∀ p, tb x p = true → tb y p = true) (hne : y ≠ x) (hP : ∀ p, tb y p = true → p < P) : cnt (tb x) P < cnt (tb y) P := by
  have : ∃ p, p < 32 ∧ ¬ tb y p = tb x p := by
    rcases Classical.em (∃ p, p < 32 ∧ ¬ tb y p = tb x p) with q | q
    · exact q
    · exact absurd (tb_ext hy hx (fun i hi => by
        rcases Classical.em (tb y i = tb x i) with z | z
        · exact z
        · exact absurd ⟨i, hi, z⟩ q)) hne
  obtain ⟨p, hp, hd⟩ := this
  have h1 := h p
  cases hx2 : tb x p
  · have hy2 : tb y p = true := by
      cases hy2 : tb y p
      · rw [hx2, hy2] at hd; exact absurd rfl hd
      · rfl
    exact cnt_grow (fun i _ => h i) (hP p hy2) hx2 hy2
  · rw [h1 hx2, hx2] at hd; exact absurd rfl hd
/-- Net.leads -/
theorem x_leads {M : Mem} {n : Nat} {N : Nt} {a b : Nat} {wo : Int} (hN : NetX M n N) (hW : Wf N) (ha : a < N.P) (hb : b < N.P) {Q : Int → Prop} (h1 : Rch (Ew N.R wo) N.hd N.ft a b → Q 1) (h0 : ¬ Rch (Ew N.R wo) N.hd N.ft a b → Q 0) : f_X5_leads n a b wo M Q := by
  obtain ⟨hP20, hR30, hr⟩ := id hW
  obtain ⟨hp, hR, hx⟩ := id hN
  unfold f_X5_leads
  rintro _ rfl
  refine jn_use (P := fun J => ∀ come : Int, (∀ p, tb come p = true ↔ Rch (Ew N.R wo) N.hd N.ft a p) → J come) ?_ ?_
  · intro come hc
    refine ⟨fun c => h0 ?_, fun c => h1 ?_⟩
    · rw [← hc b]; intro q; exact c ((bit_1 (by omega)).mpr q)
    · exact (hc b).mp ((bit_1 (by omega)).mp c)
  · intro J hJ
    have hone : ∀ p, tb (bShl 1 (a : Int)) p = true ↔ p = a := fun p => by rw [tb_one (by omega)]; simp
    refine wl2_inv (I := fun (come v : Int) => inR come ∧ ∃ k : Nat, v = k ∧ tb come a = true ∧ (∀ p, tb come p = true → Rch (Ew N.R wo) N.hd N.ft a p) ∧ k + 1 ≤ cnt (tb come) N.P) (μ := fun (_ v : Int) => N.P - v.toNat) ?_ 5000 _ _ ⟨bShl_in _ _, 0, rfl, (hone a).mpr rfl, fun p q => by rw [(hone p).mp q]; exact Rch.refl, cnt_pos.mpr ⟨a, ha, (hone a).mpr rfl⟩⟩ (by simp; omega)
    rintro rec come v ⟨hin, k, rfl, g1, g2, g3⟩ hrec
    unfold X5_leads_b8
    rw [hp]
    have hcl := cnt_le (tb come) N.P
    refine ⟨fun c => by omega, fun c => ?_⟩
    refine jn_use (P := fun J' => ∀ c' : Int, inR c' → (∀ p, tb come p = true → tb c' p = true) → (∀ p, tb c' p = true → Rch (Ew N.R wo) N.hd N.ft a p) → (c' = come → ∀ r, Ew N.R wo r → tb come (N.hd r) = true → tb come (N.ft r) = true) → J' c') ?_ ?_
    · intro c' i1 i2 i3 i4
      refine ⟨fun q => ⟨by unfold inR; omega, ?_⟩, fun q => ?_⟩
      · rintro _ rfl
        have := cnt_more (P := N.P) hin i1 i2 q (fun p hp' => Rch_lt hW ha (i3 p hp'))
        exact hrec _ _ ⟨i1, k + 1, by omega, i2 a g1, i3, by omega⟩ (by omega)
      · subst q
        exact hJ _ (fun p => ⟨g2 p, fun hh => hh.hand (C := fun p => tb c' p = true) g1 (i4 rfl)⟩)
    · intro J' hJ'
      refine wl2_inv (I := fun (c' v : Int) => inR c' ∧ ∃ j : Nat, v = j ∧ j ≤ N.R ∧ (∀ p, tb come p = true → tb c' p = true) ∧ (∀ p, tb c' p = true → Rch (Ew N.R wo) N.hd N.ft a p) ∧ (c' = come → ∀ r, r < j → (r : Int) ≠ wo → tb come (N.hd r) = true → tb come (N.ft r) = true)) (μ := fun (_ v : Int) => N.R - v.toNat) ?_ 5000 _ _ ⟨hin, 0, rfl, by omega, fun _ q => q, g2, fun _ r q => by omega⟩ (by simp; omega)
      rintro rec' c' v ⟨i1, j, rfl, hj, i2, i3, i4⟩ hrec'
      unfold X5_leads_b24
      rw [hR]
      refine ⟨fun c => hJ' c' i1 i2 i3 (fun e r hr => i4 e r (by have := hr.1; omega) hr.2), fun c => ?_⟩
      have hjR : j < N.R := by omega
      obtain ⟨x1, x2, -, -, -⟩ := hx j hjR
      obtain ⟨w1, w2, -⟩ := hr j hjR
      rw [tn, x1, x2]
      refine ⟨fun q => ⟨by unfold inR; omega, ?_⟩, fun q => ⟨by omega, fun q2 => ⟨by unfold inR; omega, ?_⟩, fun q2 => ?_⟩⟩
      · rintro _ rfl
        exact hrec' _ _ ⟨i1, j + 1, by omega, by omega, i2, i3, fun e r hr hw => i4 e r (by omega) hw⟩ (by omega)
      · rintro _ rfl
        refine hrec' _ _ ⟨i1, j + 1, by omega, by omega, i2, i3, fun e r hr hw hh => ?_⟩ (by omega)
        rcases Nat.lt_or_ge r j with z | z
        · exact i4 e r z hw hh
        · have : r = j := by omega
          subst this
          rw [e] at q2
          exact absurd ((bit_1 (by omega)).mpr hh) q2
      · rintro _ rfl
        refine ⟨by unfold inR; omega, ?_⟩
        rintro _ rfl
        have hhd : tb c' (N.hd j) = true := (bit_1 (by omega)).mp q2
        have hor : ∀ p, tb (bOr c' (bShl 1 (N.ft j : Int))) p = true ↔ tb c' p = true ∨ p = N.ft j := fun p => by rw [tb_or, tb_one (by omega)]; simp
        refine hrec' _ _ ⟨bOr_in _ _, j + 1, by omega, by omega, fun p z => (hor p).mpr (Or.inl (i2 p z)), fun p z => ?_, fun e r hr hw hh => ?_⟩ (by omega)
        · rcases (hor p).mp z with z | z
          · exact i3 p z
          · rw [z]; exact (i3 _ hhd).step ⟨hjR, fun e => q (by omega)⟩
        · have hft : ∀ p, tb c' p = true → tb come p = true := fun p z => by rw [← e]; exact (hor p).mpr (Or.inl z)
          have e2 : c' = come := tb_ext i1 hin (fun i hi => by
            cases h1 : tb c' i <;> cases h2 : tb come i
            · rfl
            · rw [i2 i h2] at h1; cases h1
            · rw [hft i h1] at h2; cases h2
            · rfl)
          rcases Nat.lt_or_ge r j with z | z
          · exact i4 e2 r z hw hh
          · have : r = j := by omega
            subst this
            rw [← e]
            exact (hor _).mpr (Or.inr rfl)
