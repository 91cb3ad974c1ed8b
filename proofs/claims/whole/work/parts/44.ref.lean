/-! small methods -/
theorem st_v (M : Mem) (c i : Nat) (v : Int) (d j : Nat) : st M c i v d j = if d = c then (if j = i then v else M d j) else M d j := by
  unfold st
  by_cases h : d = c
  · subst h; simp
  · simp [h]
theorem fil_v (M : Mem) (c n : Nat) (v : Int) (d j : Nat) : fil M c n v d j = if d = c then (if j < n then v else M d j) else M d j := by
  unfold fil
  by_cases h : d = c
  · subst h; simp
  · simp [h]
theorem cpy_v (M : Mem) (a x c y n : Nat) (d j : Nat) : cpy M a x c y n d j = if d = c then (if y ≤ j ∧ j < y + n then M a (x + (j - y)) else M d j) else M d j := by
  unfold cpy
  by_cases h : d = c
  · subst h; simp
  · simp [h]
theorem cmpI_lt (a b : Int) : cmpI a b < 0 ↔ a < b := by unfold cmpI; split <;> (try split) <;> omega
theorem cmpI_gt (a b : Int) : 0 < cmpI a b ↔ b < a := by unfold cmpI; split <;> (try split) <;> omega
theorem cmpI_le (a b : Int) : cmpI a b ≤ 0 ↔ a ≤ b := by unfold cmpI; split <;> (try split) <;> omega
theorem cmpI_ge (a b : Int) : 0 ≤ cmpI a b ↔ b ≤ a := by unfold cmpI; split <;> (try split) <;> omega
theorem r_isIn {v a b : Int} {M : Mem} {Q : Int → Prop} (h1 : a ≤ v → v ≤ b → Q 1) (h0 : ¬ (a ≤ v ∧ v ≤ b) → Q 0) : f_X12_isIn v a b M Q := by
  unfold f_X12_isIn
  rw [cmpI_lt, cmpI_gt]
  exact ⟨fun c => h0 (by omega), fun c => ⟨fun d => h0 (by omega), fun d => h1 (by omega) (by omega)⟩⟩
theorem r_flag {v : Int} {M : Mem} {Q : Int → Prop} (h0 : v = 0 → Q 0) (h1 : v ≠ 0 → Q 1) : f_X12_flag v M Q := ⟨h0, h1⟩
theorem r_isOf {x : Int} {p : Nat} {M : Mem} {Q : Int → Prop} (hp : p < 32) (h1 : tb x p = true → Q 1) (h0 : tb x p = false → Q 0) : f_X12_isOf x (p : Int) M Q := by
  unfold f_X12_isOf
  rw [bit_1 hp]
  exact ⟨fun c => h0 (by simpa using c), h1⟩
theorem r_reachAt {r k : Nat} {M : Mem} {Q : Int → Prop} (hr : r ≤ 1000) (hk : k ≤ 4) (h : Q ((33 + 5 * r + k : Nat) : Int)) : f_X12_reachAt (r : Int) (k : Int) M Q := by
  refine ⟨by unfold inR; omega, ?_⟩
  rw [show (33 + 5 * (r : Int)) + (k : Int) = ((33 + 5 * r + k : Nat) : Int) by omega]
  exact h
theorem r_its {r k : Nat} {M : Mem} {Q : Int → Prop} (hr : r < 30) (hk : k ≤ 4) (h : Q (M 100 (33 + 5 * r + k))) : f_X12_its (r : Int) (k : Int) M Q :=
  r_reachAt (by omega) hk ⟨by omega, by rw [tn]; exact h⟩
section
variable {M : Mem} {N : Nt}
theorem NetR.its0 {a r : Nat} (h : NetR M a N) (hr : r < N.R) : M a (33 + 5 * r + 0) = N.hd r := (h.2.2 r hr).1
theorem NetR.its1 {a r : Nat} (h : NetR M a N) (hr : r < N.R) : M a (33 + 5 * r + 1) = N.ft r := by have := (h.2.2 r hr).2.1; rwa [show 34 + 5 * r = 33 + 5 * r + 1 by omega] at this
theorem NetR.its2 {a r : Nat} (h : NetR M a N) (hr : r < N.R) : M a (33 + 5 * r + 2) = N.ln r := by have := (h.2.2 r hr).2.2.1; rwa [show 35 + 5 * r = 33 + 5 * r + 2 by omega] at this
theorem NetR.its3 {a r : Nat} (h : NetR M a N) (hr : r < N.R) : M a (33 + 5 * r + 3) = N.gf r := by have := (h.2.2 r hr).2.2.2.1; rwa [show 36 + 5 * r = 33 + 5 * r + 3 by omega] at this
theorem NetR.its4 {a r : Nat} (h : NetR M a N) (hr : r < N.R) : M a (33 + 5 * r + 4) = N.rv r := by have := (h.2.2 r hr).2.2.2.2; rwa [show 37 + 5 * r = 33 + 5 * r + 4 by omega] at this
theorem r_hd {r : Nat} {Q : Int → Prop} (hN : NetR M 100 N) (hW : Wf N) (hr : r < N.R) (h : Q (N.hd r)) : f_X12_its (r : Int) 0 M Q := r_its (k := 0) (by have := hW.2.1; omega) (by omega) (by rw [hN.its0 hr]; exact h)
theorem r_ft {r : Nat} {Q : Int → Prop} (hN : NetR M 100 N) (hW : Wf N) (hr : r < N.R) (h : Q (N.ft r)) : f_X12_its (r : Int) 1 M Q := r_its (k := 1) (by have := hW.2.1; omega) (by omega) (by rw [hN.its1 hr]; exact h)
theorem r_ln {r : Nat} {Q : Int → Prop} (hN : NetR M 100 N) (hW : Wf N) (hr : r < N.R) (h : Q (N.ln r)) : f_X12_its (r : Int) 2 M Q := r_its (k := 2) (by have := hW.2.1; omega) (by omega) (by rw [hN.its2 hr]; exact h)
theorem r_gf {r : Nat} {Q : Int → Prop} (hN : NetR M 100 N) (hW : Wf N) (hr : r < N.R) (h : Q (N.gf r)) : f_X12_its (r : Int) 3 M Q := r_its (k := 3) (by have := hW.2.1; omega) (by omega) (by rw [hN.its3 hr]; exact h)
theorem r_rv {r : Nat} {Q : Int → Prop} (hN : NetR M 100 N) (hW : Wf N) (hr : r < N.R) (h : Q (N.rv r)) : f_X12_its (r : Int) 4 M Q := r_its (k := 4) (by have := hW.2.1; omega) (by omega) (by rw [hN.its4 hr]; exact h)
theorem r_places {Q : Int → Prop} (hN : NetR M 100 N) (h : Q (N.P : Int)) : f_X12_places M Q := by unfold f_X12_places; rw [hN.1]; exact h
theorem r_reaches {Q : Int → Prop} (hN : NetR M 100 N) (h : Q (N.R : Int)) : f_X12_reaches M Q := by unfold f_X12_reaches; rw [hN.2.1]; exact h
theorem r_isPlace {v : Int} {Q : Int → Prop} (hN : NetR M 100 N) (hW : Wf N) (h1 : ∀ p : Nat, p < N.P → v = p → Q 1) (h0 : (v < 0 ∨ (N.P : Int) ≤ v) → Q 0) : f_X12_isPlace v M Q := by
  refine r_places hN ⟨by have := hW.1; unfold inR; omega, ?_⟩
  exact r_isIn (fun a b => h1 v.toNat (by omega) (by omega)) (fun a => h0 (by omega))
theorem r_isReach {v : Int} {Q : Int → Prop} (hN : NetR M 100 N) (hW : Wf N) (h1 : ∀ p : Nat, p < N.R → v = p → Q 1) (h0 : (v < 0 ∨ (N.R : Int) ≤ v) → Q 0) : f_X12_isReach v M Q := by
  refine r_reaches hN ⟨by have := hW.2.1; unfold inR; omega, ?_⟩
  exact r_isIn (fun a b => h1 v.toNat (by omega) (by omega)) (fun a => h0 (by omega))
theorem x_isPlace {n : Nat} {v : Int} {Q : Int → Prop} (hN : NetX M n N) (h1 : ∀ p : Nat, p < N.P → v = p → Q 1) (h0 : (v < 0 ∨ (N.P : Int) ≤ v) → Q 0) : f_X5_isPlace n v M Q := by
  unfold f_X5_isPlace
  rw [hN.1]
  exact ⟨fun a => h0 (by omega), fun a => ⟨fun b => h0 (by omega), fun b => h1 v.toNat (by omega) (by omega)⟩⟩
theorem x_isReach {n : Nat} {v : Int} {Q : Int → Prop} (hN : NetX M n N) (h1 : ∀ p : Nat, p < N.R → v = p → Q 1) (h0 : (v < 0 ∨ (N.R : Int) ≤ v) → Q 0) : f_X5_isReach n v M Q := by
  unfold f_X5_isReach
  rw [hN.2.1]
  exact ⟨fun a => h0 (by omega), fun a => ⟨fun b => h0 (by omega), fun b => h1 v.toNat (by omega) (by omega)⟩⟩
/-- the reference's comes -/
theorem r_comes {n : Nat} {a b : Nat} {wo : Int} (hl : lenS (shp n) = 183) (hN : NetR M n N) (hW : Wf N) (ha : a < N.P) (hb : b < N.P) {Q : Int → Prop} (h1 : Rch (Ew N.R wo) N.hd N.ft a b → Q 1) (h0 : ¬ Rch (Ew N.R wo) N.hd N.ft a b → Q 0) : f_X12_comes n a b wo M Q := by
  obtain ⟨hP20, hR30, hr⟩ := id hW
  obtain ⟨hp, hR, hx⟩ := id hN
  unfold f_X12_comes
  rintro _ rfl
  refine jn_use (P := fun J => ∀ come : Int, (∀ p, tb come p = true ↔ Rch (Ew N.R wo) N.hd N.ft a p) → J come) ?_ ?_
  · intro come hc
    exact r_isOf (by omega) (fun c => h1 ((hc b).mp c)) (fun c => h0 (by rw [← hc b, c]; simp))
  · intro J hJ
    have hone : ∀ p, tb (bShl 1 (a : Int)) p = true ↔ p = a := fun p => by rw [tb_one (by omega)]; simp
    refine wl2_inv (I := fun (come was : Int) => inR come ∧ tb come a = true ∧ (∀ p, tb come p = true → Rch (Ew N.R wo) N.hd N.ft a p) ∧ (was = come → ∀ r, Ew N.R wo r → tb come (N.hd r) = true → tb come (N.ft r) = true)) (μ := fun (come was : Int) => 2 * (N.P - cnt (tb come) N.P) + (if was = come then 0 else 1)) ?_ 5000 _ _ ⟨bShl_in _ _, (hone a).mpr rfl, fun p q => by rw [(hone p).mp q]; exact Rch.refl, fun e => ?_⟩ (by split <;> omega)
    rotate_left
    · have := (hone a).mpr rfl
      rw [← e, tb_0] at this
      cases this
    rintro rec come was ⟨hin, g1, g2, g3⟩ hrec
    unfold X12_comes_b8
    refine ⟨fun c => hJ _ (fun p => ⟨g2 p, fun hh => hh.hand (C := fun p => tb come p = true) g1 (g3 c)⟩), fun c => ?_⟩
    refine wl2_inv (I := fun (c' v : Int) => inR c' ∧ ∃ j : Nat, v = j ∧ j ≤ N.R ∧ (∀ p, tb come p = true → tb c' p = true) ∧ (∀ p, tb c' p = true → Rch (Ew N.R wo) N.hd N.ft a p) ∧ (c' = come → ∀ r, r < j → (r : Int) ≠ wo → tb come (N.hd r) = true → tb come (N.ft r) = true)) (μ := fun (_ v : Int) => N.R - v.toNat) ?_ 5000 _ _ ⟨hin, 0, rfl, by omega, fun _ q => q, g2, fun _ r q => by omega⟩ (by simp; omega)
    rintro rec' c' v ⟨i1, j, rfl, hj, i2, i3, i4⟩ hrec'
    unfold X12_comes_b22
    rw [hR, hl]
    refine ⟨by omega, fun c2 => ?_, fun c2 => ?_⟩
    · refine hrec _ _ ⟨i1, i2 a g1, i3, fun e r hr hh => ?_⟩ ?_
      · rw [← e]
        rw [← e] at hh
        exact i4 e.symm r (by have := hr.1; omega) hr.2 hh
      · by_cases e : come = c'
        · subst e; rw [if_pos rfl, if_neg c]; omega
        · have := cnt_more (P := N.P) hin i1 i2 (fun z => e z.symm) (fun p hp' => Rch_lt hW ha (i3 p hp'))
          have := cnt_le (tb c') N.P
          rw [if_neg e, if_neg c]; omega
    · have hjR : j < N.R := by omega
      obtain ⟨w1, w2, -⟩ := hr j hjR
      refine ⟨fun q => ⟨by unfold inR; omega, ?_⟩, fun q => ?_⟩
      · rintro _ rfl
        exact hrec' _ _ ⟨i1, j + 1, by omega, by omega, i2, i3, fun e r hr hw => i4 e r (by omega) hw⟩ (by omega)
      · refine r_reachAt (k := 0) (by omega) (by omega) ⟨by omega, ?_⟩
        rw [tn, hN.its0 hjR]
        refine r_isOf (by omega) (fun q2 => ⟨fun z => absurd z (by omega), fun _ => ?_⟩) (fun q2 => ⟨fun _ => ⟨by unfold inR; omega, ?_⟩, fun z => absurd rfl z⟩)
        · refine r_reachAt (k := 1) (by omega) (by omega) ⟨by omega, ?_⟩
          rw [tn, hN.its1 hjR]
          rintro _ rfl
          refine ⟨by unfold inR; omega, ?_⟩
          rintro _ rfl
          have hor : ∀ p, tb (bOr c' (bShl 1 (N.ft j : Int))) p = true ↔ tb c' p = true ∨ p = N.ft j := fun p => by rw [tb_or, tb_one (by omega)]; simp
          refine hrec' _ _ ⟨bOr_in _ _, j + 1, by omega, by omega, fun p z => (hor p).mpr (Or.inl (i2 p z)), fun p z => ?_, fun e r hr hw hh => ?_⟩ (by omega)
          · rcases (hor p).mp z with z | z
            · exact i3 p z
            · rw [z]; exact (i3 _ q2).step ⟨hjR, fun e => q (by omega)⟩
          · have hft : ∀ p, tb c' p = true → tb come p = true := fun p z => by rw [← e]; exact (hor p).mpr (Or.inl z)
            have e2 : c' = come := tb_ext i1 hin (fun i hi => by
              cases h1 : tb c' i <;> cases h2 : tb come i
              · rfl
              · rw [i2 i h2] at h1; cases h1
              · rw [hft i h1] at h2; cases h2
              · rfl)
            rcases Nat.lt_or_ge r j with z | z
            · exact i4 e2 r z hw hh
            · have : r = j := by omega
              subst this
              rw [← e]
              exact (hor _).mpr (Or.inr rfl)
        · rintro _ rfl
          refine hrec' _ _ ⟨i1, j + 1, by omega, by omega, i2, i3, fun e r hr hw hh => ?_⟩ (by omega)
          rcases Nat.lt_or_ge r j with z | z
          · exact i4 e r z hw hh
          · have : r = j := by omega
            subst this
            rw [e, hh] at q2
            cases q2
end
