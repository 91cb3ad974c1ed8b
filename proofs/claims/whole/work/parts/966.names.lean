/-! reading: names on the other side; finding them -/
theorem Skp.self {B : Nat → Int} {T p s : Nat} (h : Skp B T p s) : Skp B T s s := ⟨Nat.le_refl _, h.2.1, fun i h1 h2 => by omega, h.2.2.2⟩
theorem NmO.uniq {B : Nat → Int} {T s q q' : Nat} {x y x' y' : Int} (h : NmO B T s q x y) (h' : NmO B T s q' x' y') : q' = q ∧ x' = x ∧ y' = y := by
  have e := h.1.uniq h'.1
  subst e
  exact ⟨rfl, by rw [h.2.2.2.2.1, h'.2.2.2.2.1], by rw [h.2.2.2.2.2, h'.2.2.2.2.2]⟩
theorem NmO.no {B : Nat → Int} {T s q c : Nat} {x y : Int} (h : NmO B T s q x y) : ¬ NmB B T s c := by
  rintro ⟨q', hW, z⟩
  have e := h.1.uniq hW
  subst e
  have a := h.2.1
  have b := h.2.2.1
  rcases z with ⟨z | ⟨-, k, hk, z⟩, -⟩ | ⟨z, -⟩
  · omega
  · exact h.2.2.2.1 k hk z
  · omega
theorem NmB.uniq {B : Nat → Int} {T s c c' : Nat} (h : NmB B T s c) (h' : NmB B T s c') : c' = c := by
  obtain ⟨q, hW, z⟩ := h
  obtain ⟨q', hW', z'⟩ := h'
  have e := hW.uniq hW'
  subst e
  rcases z with ⟨z1, z⟩ | ⟨z1, z⟩ <;> rcases z' with ⟨z1', z'⟩ | ⟨z1', z'⟩
  · omega
  · rcases z1 with z1 | ⟨z1, -⟩ <;> omega
  · rcases z1' with z1' | ⟨z1', -⟩ <;> omega
  · omega
def Fnd (f : Nat → Int) (n : Nat) (x r : Int) : Prop := (r = -1 ∧ ∀ i, i < n → f i ≠ x) ∨ ∃ i : Nat, r = i ∧ i < n ∧ f i = x ∧ ∀ j, j < i → f j ≠ x
theorem Fnd.uniq {f : Nat → Int} {n : Nat} {x r r' : Int} (h : Fnd f n x r) (h' : Fnd f n x r') : r' = r := by
  rcases h with ⟨a, b⟩ | ⟨i, a, b, c, d⟩ <;> rcases h' with ⟨a', b'⟩ | ⟨i', a', b', c', d'⟩
  · omega
  · exact absurd c' (b i' b')
  · exact absurd c (b' i b)
  · rcases Nat.lt_trichotomy i i' with z | z | z
    · exact absurd c (d' i z)
    · omega
    · exact absurd c' (d i' z)
theorem Fnd.same {f g : Nat → Int} {n : Nat} {x y r : Int} (hx : Nm x y) (hf : ∀ i, i < n → Nm (f i) (g i)) (h : Fnd f n x r) : Fnd g n y r := by
  rcases h with ⟨a, b⟩ | ⟨i, a, b, c, d⟩
  · exact Or.inl ⟨a, fun i hi z => b i hi (((hf i hi).same hx).mpr z)⟩
  · exact Or.inr ⟨i, a, b, ((hf i b).same hx).mp c, fun j hj z => d j hj (((hf j (by omega)).same hx).mpr z)⟩
section
variable {M0 M M' : Mem} {B : Nat → Int} {T p q k : Nat} {D : Drf} {e : Int}
theorem k_find {a0 n : Nat} {f : Nat → Int} {x v : Int} (hl : n ≤ lenS (shp a0)) (hn : n ≤ 30) (hv : v = n) (hf : ∀ i, i < n → M a0 i = f i) {Q : Int → Prop} (h : ∀ r : Int, Fnd f n x r → Q r) : f_X6_find a0 v x M Q := by
  unfold f_X6_find
  subst hv
  refine wl1_inv (I := fun v : Int => ∃ i : Nat, v = i ∧ i ≤ n ∧ ∀ j, j < i → f j ≠ x) (μ := fun v : Int => n - v.toNat) ?_ 5000 _ ⟨0, rfl, by omega, fun j hj => by omega⟩ (by omega)
  rintro rec _ ⟨i, rfl, hi, hj⟩ hrec
  unfold X6_find_b2
  refine ⟨fun c => h (-1) (Or.inl ⟨rfl, fun j hj' => hj j (by omega)⟩), fun c => ⟨by omega, ?_⟩⟩
  rw [tn, hf i (by omega)]
  refine ⟨fun z => ⟨by unfold inR; omega, fun v e => hrec v ⟨i + 1, by omega, by omega, fun j hj' => ?_⟩ (by omega)⟩, fun z => h i (Or.inr ⟨i, rfl, by omega, z, hj⟩)⟩
  by_cases y : j = i
  · rw [y]; exact z
  · exact hj j (by omega)
theorem t_named {o n : Nat} {f : Nat → Int} {y v w r : Int} (hl : o + n ≤ 183) (hn : n ≤ 30) (hw : w = o) (hv : v = n) (hf : ∀ i, i < n → M 99 (o + i) = f i) (hr : Fnd f n y r) {Q : Int → Prop} (h : Q r) : f_X12_named 99 w v y M Q := by
  unfold f_X12_named
  subst hv
  subst hw
  have hL : lenS (shp 99) = 183 := by decide +kernel
  refine wl1_inv (I := fun v : Int => ∃ i : Nat, v = i ∧ i ≤ n ∧ ∀ j, j < i → f j ≠ y) (μ := fun v : Int => n - v.toNat) ?_ 5000 _ ⟨0, rfl, by omega, fun j hj => by omega⟩ (by omega)
  rintro rec _ ⟨i, rfl, hi, hj⟩ hrec
  unfold X12_named_b3
  rw [hL]
  refine ⟨fun c => ?_, fun c => ⟨by omega, ?_⟩⟩
  · rw [hr.uniq (r' := -1) (Or.inl ⟨rfl, fun j hj' => hj j (by omega)⟩)]; exact h
  rw [show ((o : Int) + i) = ((o + i : Nat) : Int) by omega, tn, hf i (by omega)]
  refine ⟨fun z => ⟨by unfold inR; omega, fun v e => hrec v ⟨i + 1, by omega, by omega, fun j hj' => ?_⟩ (by omega)⟩, fun z => ?_⟩
  · by_cases u : j = i
    · rw [u]; exact z
    · exact hj j (by omega)
  · rw [hr.uniq (r' := (i : Int)) (Or.inr ⟨i, rfl, by omega, z, hj⟩)]; exact h
theorem t_name {s : Nat} (hB : Rb M0 B T) (hO : Own M0) (h : RS M0 T D p e k M) (hs : Skp B T p s) (he : s < T → ltr (B s) → (s : Int) ≠ e) {Q : Int → Mem → Prop} (h1 : ∀ (M' : Mem) (q : Nat) (x y : Int), NmO B T s q x y → RS M0 T D q q k M' → M' 95 11 = s → Q y M') (h0 : ∀ (M' : Mem) (c : Nat), NmB B T s c → JK M0 T 1 c k M' → Q 0 M') : f_X12_name M Q := by
  unfold f_X12_name
  have hT := hB.2.1
  have e4 := h.2.2.2.1
  have h5 := h.2.2.2.2.1
  refine ⟨fun _ => ?_, fun z => absurd h5 z⟩
  have key : ∀ (J24 : Mem → Prop), (∀ M' : Mem, RS M0 T D s e k M' → NmB B T s s → J24 M') → (∀ M2 : Mem, RS M0 T D s e k M2 → s < T → ltr (B s) → f_X12_ownHere M2 (fun r_9 M_10 => (r_9 = (-1) → (∀ M_11 : Mem, M_11 = st M_10 95 11 (M_10 95 2) → jn (τ := Mem → Prop) (fun (M_12 : Mem) => f_X12_fail 1 (M_12 95 2) M_12 (fun M_13 => Q 0 M_13)) (fun J100 => wl2 (X12_name_b60 Q J100) 5000 0 M_11))) ∧ (¬ (r_9 = (-1)) → (J24 M_10)))) := by
    intro J24 hJ M2 hR hsT hlt
    have hB2 := hR.1.rb hB
    refine t_ownHere hB2 (hR.1.own hO) hR.2.1 hR.2.2.1 hR.2.2.2.2.1 (fun M3 s' q r hs' hA hw hW hr => ?_) (fun M3 s' hs' hA hw => ?_)
    · have es := hs.self.uniq hs'
      subst es
      have hR3 := hR.rt hA hR.2.2.1
      have hqT := hW.2.1
      refine ⟨fun er M4 e4 => ?_, fun er => hJ M3 hR3 ⟨q, hW, Or.inl ⟨Or.inr ?_, rfl⟩⟩⟩
      · have hno : ∀ k, k < 6 → ¬ (q - s ≤ 6 ∧ x32 (wl_ B s) (q - s) = ocd k) := fun k hk z => by have := (hr.2 k hk).mpr z; omega
        have hsq : s < q := by
          rcases Nat.lt_or_ge s q with z | z
          · exact z
          · have : s = q := by have := hW.1; omega
            exact absurd hlt (by rw [this]; exact hW.2.2.2 (by omega))
        rw [hR3.2.1] at e4
        have hR4 : RS M0 T D s e k M4 := by rw [e4]; exact hR3.np
        have h11 : M4 95 11 = s := by rw [e4, st_s, if_pos rfl]
        refine jn_use (P := fun J => ∀ M5 : Mem, 6 < q - s → RS M0 T D (s + 6) e k M5 → J M5) (fun M5 h6 hR5 => ?_) ?_
        · rw [hR5.2.1]
          exact t_fail hR5 (fun M' hJk => h0 M' (s + 6) ⟨q, hW, Or.inr ⟨h6, rfl⟩⟩ hJk)
        intro J hJ100
        refine wl2_inv (I := fun (v : Int) (M5 : Mem) => ∃ i : Nat, s ≤ i ∧ i ≤ q ∧ i - s ≤ 6 ∧ v = (y27 (wl_ B s) (i - s) : Int) ∧ RS M0 T D i e k M5 ∧ M5 95 11 = s) (μ := fun (_ : Int) (M5 : Mem) => T - (M5 95 2).toNat) ?_ 5000 _ _ ⟨s, by omega, by omega, by omega, by rw [Nat.sub_self]; rfl, hR4, h11⟩ (by omega)
        rintro rec _ M5 ⟨i, i1, i2, i3, rfl, hR5, i11⟩ hrec
        unfold X12_name_b60
        have hB5 := hR5.1.rb hB
        have hend : i = q → ∀ M6 : Mem, M6 = st M5 95 4 (M5 95 2) → Q (y27 (wl_ B s) (i - s) : Int) M6 := fun z M6 e6 => by
          subst z
          refine h1 M6 i (x32 (wl_ B s) (i - s) : Int) _ ⟨hW, hsq, i3, fun k hk u => hno k hk ⟨i3, u⟩, rfl, rfl⟩ ?_ ?_
          · rw [e6, hR5.2.1]; exact hR5.en
          · rw [e6, st_s, if_neg (by omega)]; exact i11
        rw [hB5.1, hR5.2.1, i11]
        rw [hR5.2.1] at hend
        refine ⟨fun c => hend (by omega), fun c => ⟨by omega, ?_⟩⟩
        rw [tn, (hB5.2.2 i (by omega)).1]
        by_cases z : i = q
        · exact t_isLetter (fun y => absurd y (by rw [z]; exact hW.2.2.2 (by omega))) (fun _ => ⟨fun _ => hend z, fun w => absurd rfl w⟩)
        · refine t_isLetter (fun y => ⟨fun w => absurd w (by omega), fun _ => ⟨by unfold inR; omega, fun w => ?_, fun w => hJ100 M5 (by omega) ?_⟩⟩) (fun y => absurd (hW.2.2.1 i i1 (by omega)) y)
          · have hy := y27_lt (L := wl_ B s) (n := i + 1 - s) (fun j hj => hW.letters j (by omega))
            have h27 : (27 : Nat) ^ (i + 1 - s) ≤ 27 ^ 6 := Nat.pow_le_pow_right (by omega) (by omega)
            have h276 : (27 : Nat) ^ 6 = 387420489 := rfl
            have hst : y27 (wl_ B s) (i + 1 - s) = 27 * y27 (wl_ B s) (i - s) + wl_ B s (i - s) := by
              rw [show i + 1 - s = (i - s) + 1 by omega]; rfl
            have hw : (wl_ B s (i - s) : Int) = B i - 96 := by
              unfold wl_
              rw [show s + (i - s) = i by omega]
              unfold ltr at y
              omega
            refine ⟨by unfold inR; unfold ltr at y; omega, fun v ev => ⟨by unfold inR; omega, fun M6 e6 => ?_⟩⟩
            have hR6 : RS M0 T D (i + 1) e k M6 := by rw [e6]; exact hR5.set (by omega) (by omega)
            refine hrec v M6 ⟨i + 1, by omega, by omega, by omega, by omega, hR6, by rw [e6, st_s, if_neg (by omega)]; exact i11⟩ ?_
            show T - (M6 95 2).toNat < T - (M5 95 2).toNat
            rw [hR6.2.1, hR5.2.1]; omega
          · have : i = s + 6 := by omega
            rw [← this]; exact hR5
      · rcases hr.1 with z | ⟨k, hk, z⟩
        · exact absurd z er
        · have := (hr.2 k hk).mp z
          exact ⟨this.1, k, hk, this.2⟩
    · have es := hs.self.uniq hs'
      subst es
      refine absurd ⟨hsT, hlt, ?_⟩ hw
      rw [hR.2.2.2.1]
      exact he hsT hlt
  have hB1 := h.1.rb hB
  refine t_isWordHere hB1 h.2.1 h.2.2.1 h5 (fun M2 s' hs' hA hw => ?_) (fun M2 s' hs' hA hw => ?_)
  all_goals
    have es := hs.uniq hs'
    subst es
    have hR2 := h.rt hA hs.2.1
    refine jn_use (P := fun J => ∀ M' : Mem, RS M0 T D s e k M' → NmB B T s s → J M') (fun M3 hR3 hb => ?_) ?_
    · refine t_look (hR3.1.rb hB) hR3.2.1 hR3.2.2.1 (fun M4 s' hs' hA4 => ?_)
      have es := hs.self.uniq hs'
      subst es
      have hR4 := hR3.rt hA4 hs.2.1
      refine jn_use (P := fun J => J (s : Int)) (t_fail hR4 (fun M' hJk => h0 M' s hb hJk)) (fun J hJ => ⟨fun z => ?_, fun z => ?_⟩)
      · rw [hR4.2.1]; exact hJ
      · have : s = T := by
          rcases Nat.lt_or_ge s T with w | w
          · rw [if_pos w] at z
            have := (hB.2.2 s w).2
            omega
          · have := hs.2.1
            omega
        rw [(hR4.1.rb hB).1, ← this]; exact hJ
    intro J hJ
  · exact ⟨fun z => absurd z (by omega), fun _ => key J hJ M2 hR2 hw.1 hw.2.1⟩
  · refine ⟨fun _ => hJ M2 hR2 ⟨s, ⟨by omega, hs.2.1, fun i i1 i2 => by omega, fun z y => hw ⟨z, y, ?_⟩⟩, Or.inl ⟨Or.inl rfl, rfl⟩⟩, fun z => absurd rfl z⟩
    rw [e4]
    exact he z y
end
