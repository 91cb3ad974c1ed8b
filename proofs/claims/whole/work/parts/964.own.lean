/-! reading: finding and taking an own word -/
def ois : Nat → Nat × Nat
  | 0 => (0, 0)
  | c + 1 => if ownW.getD c 0 = 32 then ((ois c).1 + 1, c + 1) else ois c
theorem ois_at : ∀ c : Fin 35, ownW.getD c 0 = 32 → (ois c).1 < 6 ∧ (ois c).2 = ost (ois c).1 ∧ c.val = ost (ois c).1 + oln (ois c).1 := by decide +kernel
theorem ois_le : ∀ c : Fin 36, (ois c).2 ≤ c.val ∧ (ois c).1 ≤ 6 := by decide +kernel
theorem ois_end : (ois 35).1 = 6 := by decide +kernel
theorem ocd_inj : ∀ k k' : Fin 6, ocd k = ocd k' → k = k' := by decide +kernel
theorem ocd_pos : ∀ k : Fin 6, 0 < ocd k ∧ ocd k < 1073741824 := by decide +kernel
/-- the places and ended move -/
def Re (M M' : Mem) (q : Nat) (e : Int) : Prop := (∀ c, c ≠ 95 → M' c = M c) ∧ (∀ j, j ≠ 2 → j ≠ 4 → M' 95 j = M 95 j) ∧ M' 95 2 = q ∧ M' 95 4 = e
/-- own word k is the next word behind p, from s to q -/
def Wrd (B : Nat → Int) (T p k s q : Nat) : Prop := Skp B T p s ∧ Wnd B T s q ∧ q - s ≤ 6 ∧ x32 (wl_ B s) (q - s) = ocd k
section
variable {M M' M2 : Mem} {B : Nat → Int} {T p q : Nat}
theorem Wrd.pos {k s : Nat} (hk : k < 6) (h : Wrd B T p k s q) : s < q ∧ s < T ∧ ltr (B s) := by
  obtain ⟨h1, h2, h3, h4⟩ := h
  have c := (ocd_pos ⟨k, hk⟩).1
  dsimp only at c
  have : s < q := by
    rcases Nat.lt_or_ge s q with z | z
    · exact z
    · rw [show q - s = 0 by omega] at h4
      unfold x32 at h4
      omega
  exact ⟨this, by have := h2.2.1; omega, h2.2.2.1 s (by omega) this⟩
theorem t_ownHere (hB : Rb M B T) (hO : Own M) (hp : M 95 2 = p) (hpT : p ≤ T) (h5 : M 95 5 = 0) {Q : Int → Mem → Prop} (h1 : ∀ (M' : Mem) (s q : Nat) (r : Int), Skp B T p s → Rt M M' s → WdH B T s (M 95 4) → Wnd B T s q → OwR B s q r → Q r M') (h0 : ∀ (M' : Mem) (s : Nat), Skp B T p s → Rt M M' s → ¬ WdH B T s (M 95 4) → Q (-1) M') : f_X12_ownHere M Q := by
  unfold f_X12_ownHere
  have hT := hB.2.1
  refine t_isWordHere hB hp hpT h5 (fun M' s hs hA hw => ⟨fun _ => ?_, fun w => absurd w (by omega)⟩) (fun M' s hs hA hw => ⟨fun w => absurd rfl w, fun _ => h0 M' s hs hA hw⟩)
  have hB' := hA.rb hB
  have hO' : Own M' := by unfold Own at *; rw [hA.1 98 (by omega)]; exact hO
  have e2 := hA.2.2
  refine jn_use (P := fun J => ∀ (v : Int) (q : Nat), v = ((q - s : Nat) : Int) → Wnd B T s q → J v) ?_ ?_
  · rintro v q hv hW
    subst hv
    have hsq := hW.1
    have hqT := hW.2.1
    refine wl3_inv (I := fun (v2 v3 v4 : Int) => ∃ c : Nat, v4 = c ∧ c ≤ 35 ∧ v2 = (ois c).1 ∧ v3 = (ois c).2 ∧ ∀ k, k < (ois c).1 → ¬ (q - s = oln k ∧ Lik B s (ost k) (oln k))) (μ := fun (_ _ v4 : Int) => 35 - v4.toNat) ?_ 5000 _ _ _ ⟨0, rfl, by omega, rfl, rfl, fun k hk => absurd hk (Nat.not_lt_zero _)⟩ (by omega)
    rintro rec v2 v3 v4 ⟨c, rfl, hc, rfl, rfl, hno⟩ hrec
    unfold X12_ownHere_b54
    have hle := ois_le ⟨c, by omega⟩
    dsimp only at hle
    refine ⟨fun z => ?_, fun z => ⟨by omega, ?_⟩⟩
    · have ec : c = 35 := by omega
      rw [ec, ois_end] at hno
      refine h1 M' s q (-1) hs hA hw hW ⟨Or.inl rfl, fun k hk => ?_⟩
      rw [own_iff hW hk]
      exact ⟨fun w => by omega, fun w => absurd w (hno k hk)⟩
    rw [tn, hO' c (by omega)]
    have hat := ois_at ⟨c, by omega⟩
    dsimp only at hat
    have hnx : ois (c + 1) = if ownW.getD c 0 = 32 then ((ois c).1 + 1, c + 1) else ois c := rfl
    refine ⟨fun y => ⟨by unfold inR; omega, fun v e => hrec _ _ v ⟨c + 1, by omega, by omega, by rw [hnx, if_neg y], by rw [hnx, if_neg y], by rw [hnx, if_neg y]; exact hno⟩ (by omega)⟩, fun y => ?_⟩
    obtain ⟨g1, g2, g3⟩ := hat y
    rw [if_pos y] at hnx
    have next : ¬ (q - s = oln (ois c).1 ∧ Lik B s (ost (ois c).1) (oln (ois c).1)) → inR (((ois c).1 : Int) + 1) ∧ ∀ v2 : Int, v2 = ((ois c).1 : Int) + 1 → inR ((c : Int) + 1) ∧ ∀ v3 : Int, v3 = (c : Int) + 1 → ∀ v4 : Int, v4 = (c : Int) + 1 → rec v2 v3 v4 := fun hn => by
      refine ⟨by unfold inR; omega, fun v2 e2 => ⟨by unfold inR; omega, fun v3 e3 v4 e4 => hrec v2 v3 v4 ⟨c + 1, by omega, by omega, by rw [hnx]; omega, by rw [hnx]; omega, fun k hk => ?_⟩ (by omega)⟩⟩
      rw [hnx] at hk
      by_cases w : k = (ois c).1
      · rw [w]; exact hn
      · exact hno k (by omega)
    refine ⟨by unfold inR; omega, fun w => next (fun x => w (by omega)), fun w => ?_⟩
    have el : q - s = oln (ois c).1 := by omega
    rw [g2]
    refine t_isLike hB' hO' e2 (by omega) (by omega) (fun x => ⟨fun u => absurd u (by omega), fun _ => ?_⟩) (fun x => ⟨fun _ => ?_, fun u => absurd rfl u⟩)
    · refine h1 M' s q _ hs hA hw hW ⟨Or.inr ⟨_, g1, rfl⟩, fun k hk => ?_⟩
      have hm := (own_iff hW g1).mpr ⟨el, by rw [← el]; exact x⟩
      constructor
      · intro u
        have : (ois c).1 = k := by omega
        rw [← this]; exact hm
      · intro u
        have := ocd_inj ⟨_, g1⟩ ⟨k, hk⟩ (by dsimp only; rw [← hm.2, ← u.2])
        rw [Fin.mk.injEq] at this
        omega
    · have nx := next (fun u => x (by rw [el]; exact u.2))
      exact nx
  intro J hJ
  refine wl1_inv (I := fun v : Int => ∃ k : Nat, v = k ∧ s + k ≤ T ∧ ∀ i, s ≤ i → i < s + k → ltr (B i)) (μ := fun v : Int => T - s - v.toNat) ?_ 5000 _ ⟨0, rfl, by have := hw.1; omega, fun i h1 h2 => by omega⟩ (by omega)
  rintro rec _ ⟨k, rfl, hk, hl⟩ hrec
  unfold X12_ownHere_b11
  rw [e2, hB'.1]
  refine ⟨by unfold inR; omega, fun c => hJ _ (s + k) (by omega) ⟨by omega, hk, hl, fun z => by omega⟩, fun c => ⟨by omega, ?_⟩⟩
  rw [show ((s : Int) + k) = ((s + k : Nat) : Int) by omega, tn, (hB'.2.2 (s + k) (by omega)).1]
  refine t_isLetter (fun z => ⟨fun w => absurd w (by omega), fun _ => ⟨by unfold inR; omega, fun v e => hrec v ⟨k + 1, by omega, by omega, fun i i1 i2 => ?_⟩ (by omega)⟩⟩) (fun z => ⟨fun _ => hJ _ (s + k) (by omega) ⟨by omega, hk, hl, fun _ => z⟩, fun w => absurd rfl w⟩)
  by_cases y : i = s + k
  · rw [y]; exact z
  · exact hl i i1 (by omega)
theorem t_ownBad (h5 : M 95 5 ≠ 0) {Q : Int → Mem → Prop} (h : Q (-1) M) : f_X12_ownHere M Q := by
  unfold f_X12_ownHere f_X12_isWordHere
  exact ⟨fun _ => ⟨fun w => absurd rfl w, fun _ => h⟩, fun w => absurd w h5⟩
theorem t_takesBad {k : Nat} (h5 : M 95 5 ≠ 0) {Q : Int → Mem → Prop} (h : Q 0 M) : f_X12_takes (k : Int) M Q := by
  unfold f_X12_takes
  exact t_ownBad h5 ⟨fun w => absurd w (by omega), fun _ => h⟩
theorem t_takes {k : Nat} (hk : k < 6) (hB : Rb M B T) (hO : Own M) (hp : M 95 2 = p) (hpT : p ≤ T) (h5 : M 95 5 = 0) {Q : Int → Mem → Prop} (h1 : ∀ (M' : Mem) (s q : Nat), Wrd B T p k s q → (s : Int) ≠ M 95 4 → Re M M' q q → Q 1 M') (h0 : ∀ (M' : Mem) (s : Nat), Skp B T p s → Rt M M' s → ((s : Int) ≠ M 95 4 → ∀ q, ¬ Wrd B T p k s q) → Q 0 M') : f_X12_takes (k : Int) M Q := by
  unfold f_X12_takes
  have hT := hB.2.1
  refine t_ownHere hB hO hp hpT h5 (fun M' s q r hs hA hw hW hr => ⟨fun e => ?_, fun e => h0 M' s hs hA (fun _ q' w => e ?_)⟩) (fun M' s hs hA hw => ⟨fun e => absurd e (by omega), fun _ => h0 M' s hs hA (fun y q' w => hw ⟨(w.pos hk).2.1, (w.pos hk).2.2, y⟩)⟩)
  · have hm := (hr.2 k hk).mp e
    have hB' := hA.rb hB
    have hqT := hW.2.1
    have hsq := hW.1
    have fin : ∀ M2 : Mem, Rt M' M2 q → ∀ M4 : Mem, M4 = st M2 95 4 (M2 95 2) → Q 1 M4 := fun M2 hA2 M4 e4 => by
      have hA3 := hA.trans hA2
      refine h1 M4 s q ⟨hs, hW, hm.1, hm.2⟩ hw.2.2 ⟨fun c hc => by rw [e4, st_o hc, hA3.1 c hc], fun j j1 j2 => by rw [e4, st_s, if_neg j2, hA3.2.1 j j1], by rw [e4, st_s, if_neg (by omega)]; exact hA3.2.2, by rw [e4, st_s, if_pos rfl]; exact hA3.2.2⟩
    refine wl1_inv (I := fun M2 : Mem => ∃ i, Rt M' M2 i ∧ s ≤ i ∧ i ≤ q) (μ := fun M2 : Mem => T - (M2 95 2).toNat) ?_ 5000 _ ⟨s, Rt.refl hA.2.2, by omega, hsq⟩ (by omega)
    rintro rec M2 ⟨i, hA2, i1, i2⟩ hrec
    have hB2 := hA2.rb hB'
    have e2 := hA2.2.2
    unfold X12_takes_b10
    have hif : i = q → ∀ M4 : Mem, M4 = st M2 95 4 (M2 95 2) → Q 1 M4 := fun z => fin M2 (by rw [← z]; exact hA2)
    refine ⟨fun c => hif ?_, fun c => ?_⟩
    · rw [hB2.1, e2] at c; omega
    rw [hB2.1, e2] at c
    rw [e2]
    rw [e2] at hif
    refine ⟨by omega, ?_⟩
    rw [tn, (hB2.2.2 i (by omega)).1]
    by_cases z : i = q
    · exact t_isLetter (fun y => absurd y (by rw [z]; exact hW.2.2.2 (by omega))) (fun _ => ⟨fun _ => hif z, fun w => absurd rfl w⟩)
    · refine t_isLetter (fun y => ⟨fun w => absurd w (by omega), fun _ => ⟨by unfold inR; omega, fun M5 e5 => ?_⟩⟩) (fun y => absurd (hW.2.2.1 i i1 (by omega)) y)
      have hA5 : Rt M' M5 (i + 1) := by rw [e5]; exact hA2.set (by omega)
      exact hrec M5 ⟨i + 1, hA5, by omega, by omega⟩ (by rw [hA5.2.2, e2]; omega)
  · have := w.2.1.uniq hW
    subst this
    exact (hr.2 k hk).mpr w.2.2
theorem k_takeWord {k : Nat} (hk : k < 6) (hB : Bt M B T) (hp : M 3 7 = p) (hpT : p ≤ T) {v : Int} (hv : v = (ocd k : Int)) {Q : Int → Mem → Prop} (h1 : ∀ (M' : Mem) (s q : Nat), Wrd B T p k s q → At M M' q → Q 1 M') (h0 : ∀ (M' : Mem) (s : Nat), Skp B T p s → At M M' s → (∀ q, ¬ Wrd B T p k s q) → Q 0 M') : f_X6_takeWord v M Q := by
  unfold f_X6_takeWord
  have hc := ocd_pos ⟨k, hk⟩
  dsimp only at hc
  refine k_skip hB hp hpT (fun M' s hs hA => ?_)
  have hB' := hA.bt hB
  refine k_wordEnd hB' hA.2.2 hs.2.1 (fun q hW => k_wordTo hB' hA.2.2 hW (fun h6 => ⟨fun e => fun M6 e6 => ?_, fun e => h0 M' s hs hA (fun q' w => e ?_)⟩) (fun h6 => ⟨fun e => by omega, fun _ => h0 M' s hs hA (fun q' w => ?_)⟩) rfl)
  · rw [e6]
    exact h1 _ s q ⟨hs, hW, h6, by omega⟩ (hA.set rfl)
  · have := w.2.1.uniq hW
    subst this
    rw [w.2.2.2, hv]
  · have := w.2.1.uniq hW
    subst this
    have := w.2.2.1
    omega
end
