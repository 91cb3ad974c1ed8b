/-! waves -/
def hrf (N : Nt) (mo : Nat → Int) (pl : Nat) : Nat → Nat → Int → Int
  | 0, _, _ => -1
  | k + 1, p, h => if p = pl then h else if mo p = -1 then -1 else hrf N mo pl k (N.ft (mo p).toNat) (h + N.ln (mo p).toNat)
def MoR (N : Nt) (mo : Nat → Int) : Prop := ∀ p, p < N.P → mo p = -1 ∨ ∃ b : Nat, mo p = b ∧ b < N.R ∧ N.hd b = p
def hws (N : Nt) (mo : Nat → Int) (x : Int) (pl p : Nat) : Int := if tb x p = true then hrf N mo pl 25 p 0 else -1
def nem (hw : Nat → Int) (p : Nat) : Bool := decide (hw p ≠ -1)
def wst (c : Int → Int) (y : Int × Int) (h : Int) : Int × Int := if y.2 < c h ∨ (c h = y.2 ∧ h < y.1) then (h, c h) else y
def wsq (c : Int → Int) (hw : Nat → Int) (y : Int × Int) : Nat → Int × Int
  | 0 => y
  | k + 1 => if hw k = -1 then wsq c hw y k else wst c (wsq c hw y k) (hw k)
def wsr (c : Int → Int) (R : Nat → Int) (y : Int × Int) : Nat → Int × Int
  | 0 => y
  | i + 1 => wst c (wsr c R y i) (R i)
def lsq (hw : Nat → Int) : Nat → Int
  | 0 => -1
  | k + 1 => if hw k = -1 then lsq hw k else max (lsq hw k) (hw k)
def lsr (R : Nat → Int) : Nat → Int
  | 0 => -1
  | i + 1 => max (lsr R i) (R i)
theorem nem_t {hw : Nat → Int} {k : Nat} (h : ¬ hw k = -1) : cnt (nem hw) (k + 1) = cnt (nem hw) k + 1 := by rw [cnt_s, if_pos (by unfold nem; simp [h])]
theorem nem_f {hw : Nat → Int} {k : Nat} (h : hw k = -1) : cnt (nem hw) (k + 1) = cnt (nem hw) k := by rw [cnt_s, if_neg (by unfold nem; simp [h])]; rfl
theorem cnt_idx {hw R : Nat → Int} {v : Int} : ∀ {k : Nat}, (∀ p, p < k → ¬ hw p = -1 → R (cnt (nem hw) p) = hw p) → cnt (fun i => decide (R i = v)) (cnt (nem hw) k) = cnt (fun p => decide (¬ hw p = -1 ∧ hw p = v)) k
  | 0, _ => rfl
  | k + 1, h => by
    have ih := cnt_idx (v := v) (k := k) (fun p hp => h p (by omega))
    by_cases z : hw k = -1
    · rw [nem_f z, ih, cnt_s _ k, if_neg (by simp [z])]
      rfl
    · rw [nem_t z, cnt_s, ih, cnt_s _ k, h k (by omega) z]
      by_cases y : hw k = v
      · rw [if_pos (by simp [y]), if_pos (by simp only [decide_eq_true_eq]; exact ⟨z, y⟩)]
      · rw [if_neg (by simp [y]), if_neg (by simp only [decide_eq_true_eq]; exact fun u => y u.2)]
theorem wsr_idx {c : Int → Int} {hw R : Nat → Int} {y : Int × Int} : ∀ {k : Nat}, (∀ p, p < k → ¬ hw p = -1 → R (cnt (nem hw) p) = hw p) → wsr c R y (cnt (nem hw) k) = wsq c hw y k
  | 0, _ => rfl
  | k + 1, h => by
    have ih := wsr_idx (c := c) (y := y) (k := k) (fun p hp => h p (by omega))
    unfold wsq
    by_cases z : hw k = -1
    · rw [nem_f z, ih, if_pos z]
    · rw [nem_t z, if_neg z]
      unfold wsr
      rw [ih, h k (by omega) z]
theorem lsr_idx {hw R : Nat → Int} : ∀ {k : Nat}, (∀ p, p < k → ¬ hw p = -1 → R (cnt (nem hw) p) = hw p) → lsr R (cnt (nem hw) k) = lsq hw k
  | 0, _ => rfl
  | k + 1, h => by
    have ih := lsr_idx (k := k) (fun p hp => h p (by omega))
    unfold lsq
    by_cases z : hw k = -1
    · rw [nem_f z, ih, if_pos z]
    · rw [nem_t z, if_neg z]
      unfold lsr
      rw [ih, h k (by omega) z]
/-- the two beginnings come to the same as soon as one comes -/
theorem wsq_two {c : Int → Int} {hw : Nat → Int} : ∀ {k : Nat}, (∀ p, p < k → ¬ hw p = -1 → 1 ≤ c (hw p)) → (cnt (nem hw) k = 0 ∧ wsq c hw (-1, 0) k = (-1, 0) ∧ wsq c hw (-1, -1) k = (-1, -1)) ∨ (0 < cnt (nem hw) k ∧ wsq c hw (-1, 0) k = wsq c hw (-1, -1) k ∧ (wsq c hw (-1, 0) k).2 = c (wsq c hw (-1, 0) k).1)
  | 0, _ => Or.inl ⟨rfl, rfl, rfl⟩
  | k + 1, h => by
    have ih := wsq_two (k := k) (fun p hp => h p (by omega))
    have hk := h k (by omega)
    unfold wsq
    by_cases z : hw k = -1
    · rw [nem_f z, if_pos z, if_pos z]; exact ih
    · rw [nem_t z, if_neg z, if_neg z]
      have hc := hk z
      refine Or.inr ⟨by omega, ?_⟩
      rcases ih with ⟨a1, a2, a3⟩ | ⟨a1, a2, a3⟩
      · rw [a2, a3]
        unfold wst
        rw [if_pos (Or.inl (by show (0 : Int) < c (hw k); omega)), if_pos (Or.inl (by show (-1 : Int) < c (hw k); omega))]
        exact ⟨rfl, rfl⟩
      · rw [← a2]
        refine ⟨rfl, ?_⟩
        unfold wst
        split
        · rfl
        · exact a3
section
variable {M : Mem} {N : Nt}
theorem x_hourAt {s pl : Nat} (hN : NetX M 12 N) (hG : Good N) {g pos : Nat → Nat} (ht : Topo N g pos) (hmo : MoR N (M 39)) (hs : s < N.P) (hpl : pl < N.P) {Q : Int → Prop} (h : Q (hrf N (M 39) pl 25 s 0)) : f_X7_hourAt 12 39 (s : Int) (pl : Int) M Q := by
  obtain ⟨hP20, hR30, hr⟩ := id hG.1
  obtain ⟨t1, t2, t3⟩ := id ht
  obtain ⟨v, hv⟩ : ∃ v, v = hrf N (M 39) pl 25 s 0 := ⟨_, rfl⟩
  rw [← hv] at h
  unfold f_X7_hourAt
  refine jn_use (P := fun J => J (pl : Int) v) ⟨fun z => absurd rfl z, fun _ => h⟩ ?_
  intro J hJ
  refine wl3_inv (I := fun (a b w : Int) => ∃ (p i : Nat), a = p ∧ w = i ∧ p < N.P ∧ i ≤ pos p ∧ 0 ≤ b ∧ b ≤ 99 * i ∧ hrf N (M 39) pl (25 - i) p b = v) (μ := fun (_ _ w : Int) => 30 - w.toNat) ?_ 5000 _ _ _ ⟨s, 0, rfl, rfl, hs, by omega, by omega, by omega, hv.symm⟩ (by simp)
  rintro rec a b w ⟨p, i, rfl, rfl, hp, hi, hb0, hb1, hf⟩ hrec
  unfold X7_hourAt_b9
  have hl39 : lenS (shp 39) = 20 := rfl
  have hpp := (t2 p hp).1
  rw [hN.1, hl39]
  obtain ⟨k, hk⟩ : ∃ k, 25 - i = k + 1 := ⟨24 - i, by omega⟩
  rw [hk] at hf
  unfold hrf at hf
  refine ⟨fun c => by omega, fun c => ⟨fun c1 => ?_, fun c1 => ⟨by omega, ?_⟩⟩⟩
  · rw [if_pos (show p = pl by omega)] at hf
    rw [hf, c1]; exact hJ
  · rw [if_neg (show ¬ p = pl by omega)] at hf
    rintro _ rfl
    rw [tn]
    refine ⟨fun c2 => ?_, fun c2 => ?_⟩
    · rw [if_neg c2] at hf
      rcases hmo p hp with z | ⟨r, z1, z2, z3⟩
      · exact absurd z c2
      · rw [z1, tn] at hf
        rw [z1]
        obtain ⟨-, x2, x3, -⟩ := hN.2.2 r z2
        obtain ⟨w1, w2, w3, w4, -⟩ := hr r z2
        have hps := t3 r z2
        rw [z3] at hps
        refine ⟨by omega, ?_⟩
        rw [tn, x2, x3]
        refine ⟨by unfold inR; omega, ?_⟩
        rintro _ rfl
        rintro _ rfl
        refine ⟨by unfold inR; omega, ?_⟩
        rintro _ rfl
        exact hrec _ _ _ ⟨N.ft r, i + 1, rfl, by omega, w2, by omega, by omega, by omega, by rw [show 25 - (i + 1) = k by omega]; exact hf⟩ (by omega)
    · rw [if_pos c2] at hf
      rw [hf]; exact h
theorem r_hourOf {mo : Nat → Int} {s pl : Nat} (hN : NetR M 100 N) (hG : Good N) {g pos : Nat → Nat} (ht : Topo N g pos) (hh : ∀ p, p < N.P → 0 ≤ M 108 p ∧ M 108 p ≤ 2970) (hmo : MoR N mo) (hmx : ∀ p x, p < N.P → MOut N (M 107) 0 p x → x = mo p) (hs : s < N.P) (hpl : pl < N.P) {Q : Int → Prop} (h : Q (hrf N mo pl 25 s 0)) : f_X12_hourOf (s : Int) (pl : Int) M Q := by
  obtain ⟨hP20, hR30, hr⟩ := id hG.1
  obtain ⟨t1, t2, t3⟩ := id ht
  obtain ⟨v, hv⟩ : ∃ v, v = hrf N mo pl 25 s 0 := ⟨_, rfl⟩
  rw [← hv] at h
  unfold f_X12_hourOf
  refine wl2_inv (I := fun (a b : Int) => ∃ (p i : Nat), a = p ∧ p < N.P ∧ i ≤ pos p ∧ 0 ≤ b ∧ b ≤ 99 * i ∧ hrf N mo pl (25 - i) p b = v) (μ := fun (a _ : Int) => 30 - pos a.toNat) ?_ 5000 _ _ ⟨s, 0, rfl, hs, by omega, by omega, by omega, hv.symm⟩ (by omega)
  rintro rec a b ⟨p, i, rfl, hp, hi, hb0, hb1, hf⟩ hrec
  unfold X12_hourOf_b5
  have hpp := (t2 p hp).1
  obtain ⟨k, hk⟩ : ∃ k, 25 - i = k + 1 := ⟨24 - i, by omega⟩
  rw [hk] at hf
  unfold hrf at hf
  refine ⟨fun c1 => ?_, fun c1 => r_mainOut hN hG.1 hh (fun x hx => ?_)⟩
  · rw [if_pos (show p = pl by omega)] at hf
    rw [hf]; exact h
  · rw [if_neg (show ¬ p = pl by omega)] at hf
    rw [hmx p x hp hx]
    refine ⟨fun c2 => ?_, fun c2 => ?_⟩
    · rw [if_neg c2] at hf
      rcases hmo p hp with z | ⟨r, z1, z2, z3⟩
      · exact absurd z c2
      · rw [z1, tn] at hf
        rw [z1]
        obtain ⟨w1, w2, w3, w4, -⟩ := hr r z2
        have hps := t3 r z2
        have hpf := (t2 _ w2).1
        rw [z3] at hps
        refine r_ln hN hG.1 z2 ⟨by unfold inR; omega, ?_⟩
        rintro _ rfl
        refine r_ft hN hG.1 z2 (hrec _ _ ⟨N.ft r, i + 1, rfl, w2, by omega, by omega, by omega, by rw [show 25 - (i + 1) = k by omega]; exact hf⟩ ?_)
        rw [tn, tn]
        omega
    · rw [if_pos c2] at hf
      rw [hf]; exact h
theorem x_sendWaves {x : Int} {pl : Nat} (hN : NetX M 12 N) (hG : Good N) {g pos : Nat → Nat} (ht : Topo N g pos) (hmo : MoR N (M 39)) (hpl : pl < N.P) {Q : Mem → Prop} (h : ∀ M' : Mem, (∀ c, c ≠ 68 → c ≠ 71 → M' c = M c) → M' 68 3 = (cnt (nem (hws N (M 39) x pl)) N.P : Int) → (∀ p, p < N.P → ¬ hws N (M 39) x pl p = -1 → M' 71 (cnt (nem (hws N (M 39) x pl)) p) = hws N (M 39) x pl p) → Q M') : f_X7_sendWaves 12 x 39 (pl : Int) M Q := by
  obtain ⟨hP20, hR30, hr⟩ := id hG.1
  obtain ⟨hw, hhw⟩ : ∃ hw, hw = hws N (M 39) x pl := ⟨_, rfl⟩
  rw [← hhw] at h
  unfold f_X7_sendWaves
  rintro _ rfl
  refine wl2_inv (I := fun (v : Int) (M' : Mem) => ∃ k : Nat, v = k ∧ k ≤ N.P ∧ (∀ c, c ≠ 68 → c ≠ 71 → M' c = M c) ∧ M' 68 3 = (cnt (nem hw) k : Int) ∧ (∀ p, p < k → ¬ hw p = -1 → M' 71 (cnt (nem hw) p) = hw p)) (μ := fun (v : Int) (_ : Mem) => N.P - v.toNat) ?_ 5000 _ _ ⟨0, rfl, by omega, fun c q1 _ => by rw [st_o q1], by rw [st_s, if_pos rfl]; rfl, fun p hp => by omega⟩ (by simp; omega)
  rintro rec v M' ⟨k, rfl, hk, g1, g2, g3⟩ hrec
  unfold X7_sendWaves_b8
  have hN' : NetX M' 12 N := hN.of (fun c _ _ => g1 c (by omega) (by omega))
  have e39 : M' 39 = M 39 := g1 39 (by omega) (by omega)
  rw [hN'.1]
  refine ⟨fun c => ?_, fun c => ?_⟩
  · have e : k = N.P := by omega
    subst e
    exact h M' g1 g2 g3
  · have hkP : k < N.P := by omega
    have hcl := cnt_le (nem hw) k
    refine jn_use (P := fun J => J (hw k)) ?_ ?_
    · refine ⟨fun c1 => ⟨by unfold inR; omega, ?_⟩, fun c1 => ⟨by omega, ?_⟩⟩
      · rintro _ rfl
        refine hrec _ _ ⟨k + 1, by omega, by omega, g1, by rw [nem_f c1]; exact g2, fun p hp hne => ?_⟩ (by omega)
        by_cases e : p = k
        · rw [e] at hne; exact absurd c1 hne
        · exact g3 p (by omega) hne
      · rintro _ rfl
        rw [g2, tn, st_o (show 68 ≠ 71 by omega), g2]
        refine ⟨by unfold inR; omega, ?_⟩
        rintro _ rfl
        refine ⟨by unfold inR; omega, ?_⟩
        rintro _ rfl
        refine hrec _ _ ⟨k + 1, by omega, by omega, fun c q1 q2 => by rw [st_o q1, st_o q2]; exact g1 c q1 q2, by rw [st_s, if_pos rfl, nem_t c1]; omega, fun p hp hne => ?_⟩ (by omega)
        rw [st_o (show 71 ≠ 68 by omega), st_s]
        by_cases e : p = k
        · rw [e, if_pos rfl]
        · have hlt : cnt (nem hw) p < cnt (nem hw) k := by
            have h1 := nem_t hne
            have h2 : cnt (nem hw) (p + 1) ≤ cnt (nem hw) k := by
              have h3 := cnt_split (nem hw) (p + 1) (k - (p + 1))
              rw [show p + 1 + (k - (p + 1)) = k by omega] at h3
              omega
            omega
          rw [if_neg (by omega)]
          exact g3 p (by omega) hne
    · intro J hJ
      rw [bit_1 (show k < 32 by omega)]
      rw [hhw] at hJ
      unfold hws at hJ
      refine ⟨fun c1 => ?_, fun c1 => ?_⟩
      · rw [if_neg c1] at hJ; exact hJ
      · rw [if_pos c1] at hJ
        exact x_hourAt hN' hG ht (by rw [e39]; exact hmo) hkP hpl (by rw [e39]; exact hJ)
def cms (R : Nat → Int) (A : Nat) (v : Int) : Int := (cnt (fun i => decide (R i = v)) A : Int)
theorem x_comingAt {A : Nat} {v : Int} (hA : M 68 3 = A) (hA2 : A ≤ 20) {Q : Int → Prop} (h : Q (cms (M 71) A v)) : f_X7_comingAt v M Q := by
  unfold f_X7_comingAt
  refine wl2_inv (I := fun (s w : Int) => ∃ k : Nat, w = k ∧ k ≤ A ∧ s = cms (M 71) k v) (μ := fun (_ w : Int) => A - w.toNat) ?_ 5000 _ _ ⟨0, rfl, by omega, rfl⟩ (by simp; omega)
  rintro rec s w ⟨k, rfl, hk, rfl⟩ hrec
  unfold X7_comingAt_b4
  rw [hA]
  have hl := cnt_le (fun i => decide (M 71 i = v)) k
  have hc : cms (M 71) k v = (cnt (fun i => decide (M 71 i = v)) k : Int) := rfl
  refine ⟨fun c => by rw [show k = A by omega]; exact h, fun c => ⟨by omega, ?_⟩⟩
  rw [tn]
  refine ⟨fun c1 => ⟨by unfold inR; omega, ?_⟩, fun c1 => ⟨by unfold inR; omega, ?_⟩⟩
  · rintro _ rfl
    refine hrec _ _ ⟨k + 1, by omega, by omega, ?_⟩ (by omega)
    unfold cms
    rw [cnt_s, if_neg (by simp [c1])]; rfl
  · rintro _ rfl
    refine ⟨by unfold inR; omega, ?_⟩
    rintro _ rfl
    refine hrec _ _ ⟨k + 1, by omega, by omega, ?_⟩ (by omega)
    unfold cms
    rw [cnt_s, if_pos (by simp [c1])]; omega
theorem x_hourOfMost {A : Nat} (hA : M 68 3 = A) (hA2 : A ≤ 20) {Q : Int → Prop} (h : Q (wsr (cms (M 71) A) (M 71) (-1, 0) A).1) : f_X7_hourOfMost M Q := by
  unfold f_X7_hourOfMost
  refine wl3_inv (I := fun (a b w : Int) => ∃ k : Nat, w = k ∧ k ≤ A ∧ (a, b) = wsr (cms (M 71) A) (M 71) (-1, 0) k) (μ := fun (_ _ w : Int) => A - w.toNat) ?_ 5000 _ _ _ ⟨0, rfl, by omega, rfl⟩ (by simp; omega)
  rintro rec a b w ⟨k, rfl, hk, hab⟩ hrec
  unfold X7_hourOfMost_b6
  rw [hA]
  refine ⟨fun c => ?_, fun c => ⟨by omega, x_comingAt hA hA2 ?_⟩⟩
  · obtain rfl : k = A := by omega
    rw [← hab] at h
    exact h
  · rw [tn]
    have hs : wsr (cms (M 71) A) (M 71) (-1, 0) (k + 1) = wst (cms (M 71) A) (a, b) (M 71 k) := by rw [hab]; rfl
    have hskip : ¬ (b < cms (M 71) A (M 71 k) ∨ (cms (M 71) A (M 71 k) = b ∧ M 71 k < a)) → inR ((k : Int) + 1) ∧ ∀ z : Int, z = (k : Int) + 1 → rec a b z := fun hh => by
      refine ⟨by unfold inR; omega, ?_⟩
      rintro _ rfl
      refine hrec _ _ _ ⟨k + 1, by omega, by omega, ?_⟩ (by omega)
      rw [hs]
      unfold wst
      rw [if_neg hh]
    refine jn_use (P := fun J => (b < cms (M 71) A (M 71 k) ∨ (cms (M 71) A (M 71 k) = b ∧ M 71 k < a)) → J (k : Int)) ?_ ?_
    · intro hh
      refine ⟨by omega, ?_⟩
      rintro _ rfl
      refine ⟨by unfold inR; omega, ?_⟩
      rintro _ rfl
      refine hrec _ _ _ ⟨k + 1, by omega, by omega, ?_⟩ (by omega)
      rw [hs, tn]
      unfold wst
      rw [if_pos hh]
    · intro J hJ
      exact ⟨fun c1 => hJ (Or.inl c1), fun c1 => ⟨fun c2 => hskip (fun z => by omega), fun c2 => ⟨fun c3 => hskip (fun z => by omega), fun c3 => hJ (Or.inr ⟨c2, by omega⟩)⟩⟩⟩
theorem x_lastHour {A : Nat} (hA : M 68 3 = A) (hA2 : A ≤ 20) {Q : Int → Prop} (h : Q (lsr (M 71) A)) : f_X7_lastHour M Q := by
  unfold f_X7_lastHour
  refine wl2_inv (I := fun (a w : Int) => ∃ k : Nat, w = k ∧ k ≤ A ∧ a = lsr (M 71) k) (μ := fun (_ w : Int) => A - w.toNat) ?_ 5000 _ _ ⟨0, rfl, by omega, rfl⟩ (by simp; omega)
  rintro rec a w ⟨k, rfl, hk, rfl⟩ hrec
  unfold X7_lastHour_b4
  rw [hA]
  refine ⟨fun c => by rw [show k = A by omega]; exact h, fun c => ⟨by omega, ?_⟩⟩
  rw [tn]
  rintro _ rfl
  refine ⟨by unfold inR; omega, ?_⟩
  rintro _ rfl
  exact hrec _ _ ⟨k + 1, by omega, by omega, rfl⟩ (by omega)
end
