/-! reading: the document's own words -/
theorem x32_inj {L L' : Nat → Nat} {n n' : Nat} (hn : n ≤ 6) (hn' : n' ≤ 6) (h : ∀ i, i < n → 1 ≤ L i ∧ L i ≤ 26) (h' : ∀ i, i < n' → 1 ≤ L' i ∧ L' i ≤ 26) (e : x32 L n = x32 L' n') : n = n' ∧ ∀ i, i < n → L i = L' i := by
  have a : ∀ k, k ≤ 5 → (if k < n then L k else 0) = if k < n' then L' k else 0 := fun k hk => by
    rw [← (x32_at hn h hk).2, ← (x32_at hn' h' hk).2, e]
  have en : n = n' := by
    rcases Nat.lt_trichotomy n n' with z | z | z
    · have := a n (by omega)
      rw [if_neg (by omega), if_pos z] at this
      have := h' n z
      omega
    · exact z
    · have := a n' (by omega)
      rw [if_neg (show ¬ n' < n' by omega), if_pos z] at this
      have := h n' z
      omega
  subst en
  refine ⟨rfl, fun i hi => ?_⟩
  have := a i (by omega)
  rw [if_pos hi, if_pos hi] at this
  exact this
theorem x32_congr {L L' : Nat → Nat} : ∀ {n : Nat}, (∀ i, i < n → L i = L' i) → x32 L n = x32 L' n
  | 0, _ => rfl
  | n + 1, h => by
    unfold x32
    rw [x32_congr (n := n) (fun i hi => h i (by omega)), h n (by omega)]
theorem y27_congr {L L' : Nat → Nat} : ∀ {n : Nat}, (∀ i, i < n → L i = L' i) → y27 L n = y27 L' n
  | 0, _ => rfl
  | n + 1, h => by
    unfold y27
    rw [y27_congr (n := n) (fun i hi => h i (by omega)), h n (by omega)]
theorem y27_inj {L L' : Nat → Nat} : ∀ {n n' : Nat}, (∀ i, i < n → 1 ≤ L i ∧ L i ≤ 26) → (∀ i, i < n' → 1 ≤ L' i ∧ L' i ≤ 26) → y27 L n = y27 L' n' → n = n' ∧ ∀ i, i < n → L i = L' i
  | 0, 0, _, _, _ => ⟨rfl, fun i hi => by omega⟩
  | 0, n' + 1, _, h', e => by
    have := y27_pos h' (by omega)
    rw [← e] at this
    exact absurd this (by unfold y27; omega)
  | n + 1, 0, h, _, e => by
    have := y27_pos h (by omega)
    rw [e] at this
    exact absurd this (by unfold y27; omega)
  | n + 1, n' + 1, h, h', e => by
    have a1 := h n (by omega)
    have a2 := h' n' (by omega)
    unfold y27 at e
    obtain ⟨b1, b2⟩ := y27_inj (n := n) (n' := n') (fun i hi => h i (by omega)) (fun i hi => h' i (by omega)) (by omega)
    subst b1
    refine ⟨rfl, fun i hi => ?_⟩
    by_cases z : i = n
    · rw [z]; omega
    · exact b2 i (by omega)
theorem Nm.same {x y x' y' : Int} (h : Nm x y) (h' : Nm x' y') : x = x' ↔ y = y' := by
  obtain ⟨n, L, h1, h2, rfl, rfl⟩ := h
  obtain ⟨n', L', h1', h2', rfl, rfl⟩ := h'
  constructor
  · intro e
    obtain ⟨e1, e2⟩ := x32_inj h1 h1' h2 h2' (by omega)
    subst e1
    rw [y27_congr e2]
  · intro e
    obtain ⟨e1, e2⟩ := y27_inj h2 h2' (by omega)
    subst e1
    rw [x32_congr e2]
def ost (k : Nat) : Nat := [0, 7, 13, 16, 21, 28].getD k 0
def oln (k : Nat) : Nat := [6, 5, 2, 4, 6, 6].getD k 0
def ocd (k : Nat) : Nat := [642876816, 8488114, 500, 244204, 642127161, 139866147].getD k 0
theorem ocd_is : ∀ k : Fin 6, ocd k = x32 (fun i => (ownW.getD (ost k + i) 0 - 96).toNat) (oln k) ∧ oln k ≤ 6 ∧ (∀ i : Fin 6, i < oln k → 97 ≤ ownW.getD (ost k + i) 0 ∧ ownW.getD (ost k + i) 0 ≤ 122) := by decide +kernel
/-- at p stand the n letters of the own words from s on -/
def Lik (B : Nat → Int) (p s n : Nat) : Prop := ∀ i, i < n → ownW.getD (s + i) 0 = B (p + i)
theorem own_iff {B : Nat → Int} {T p q k : Nat} (hW : Wnd B T p q) (hk : k < 6) : (q - p ≤ 6 ∧ x32 (wl_ B p) (q - p) = ocd k) ↔ (q - p = oln k ∧ Lik B p (ost k) (oln k)) := by
  obtain ⟨c1, c2, c3⟩ := ocd_is ⟨k, hk⟩
  dsimp only at c1 c2 c3
  have hl : ∀ i, i < oln k → 1 ≤ (ownW.getD (ost k + i) 0 - 96).toNat ∧ (ownW.getD (ost k + i) 0 - 96).toNat ≤ 26 := fun i hi => by
    have := c3 ⟨i, by omega⟩ hi
    dsimp only at this
    omega
  constructor
  · rintro ⟨h1, h2⟩
    rw [c1] at h2
    obtain ⟨e1, e2⟩ := x32_inj h1 c2 hW.letters hl h2
    refine ⟨e1, fun i hi => ?_⟩
    have a := e2 i (by omega)
    have b := hW.2.2.1 (p + i) (by omega) (by omega)
    have d := c3 ⟨i, by omega⟩ hi
    dsimp only at d
    unfold ltr at b
    unfold wl_ at a
    omega
  · rintro ⟨h1, h2⟩
    refine ⟨by omega, ?_⟩
    rw [c1, h1]
    exact x32_congr (fun i hi => by unfold wl_; rw [h2 i hi])
/-- which own word stands from p to q, or none -/
def OwR (B : Nat → Int) (p q : Nat) (r : Int) : Prop := (r = -1 ∨ ∃ k : Nat, k < 6 ∧ r = k) ∧ ∀ k : Nat, k < 6 → (r = k ↔ (q - p ≤ 6 ∧ x32 (wl_ B p) (q - p) = ocd k))
/-- only the other reader's place moves -/
def Rt (M M' : Mem) (q : Nat) : Prop := (∀ c, c ≠ 95 → M' c = M c) ∧ (∀ j, j ≠ 2 → M' 95 j = M 95 j) ∧ M' 95 2 = q
def Rb (M : Mem) (B : Nat → Int) (T : Nat) : Prop := M 95 3 = T ∧ T ≤ 1600 ∧ ∀ k : Nat, k < T → M 96 k = B k ∧ 0 ≤ B k ∧ B k ≤ 255
section
variable {M M' M2 : Mem} {B : Nat → Int} {T p q : Nat}
theorem Rt.refl (e : M 95 2 = p) : Rt M M p := ⟨fun _ _ => rfl, fun _ _ => rfl, e⟩
theorem Rt.trans {r : Nat} (h : Rt M M' q) (h2 : Rt M' M2 r) : Rt M M2 r := ⟨fun c hc => by rw [h2.1 c hc, h.1 c hc], fun j hj => by rw [h2.2.1 j hj, h.2.1 j hj], h2.2.2⟩
theorem Rt.set {v : Int} {r : Nat} (h : Rt M M' q) (e : v = r) : Rt M (st M' 95 2 v) r := ⟨fun c hc => by rw [st_o hc, h.1 c hc], fun j hj => by rw [st_s, if_neg hj, h.2.1 j hj], by rw [st_s, if_pos rfl, e]⟩
theorem Rb.of (h : Rb M B T) (e1 : M' 95 3 = M 95 3) (e2 : M' 96 = M 96) : Rb M' B T := by
  unfold Rb at *
  rw [e1, e2]
  exact h
theorem Rt.rb (h : Rt M M' q) (hB : Rb M B T) : Rb M' B T := hB.of (h.2.1 3 (by omega)) (h.1 96 (by omega))
theorem t_look (hB : Rb M B T) (hp : M 95 2 = p) (hpT : p ≤ T) {Q : Int → Mem → Prop} (h : ∀ (M' : Mem) (q : Nat), Skp B T p q → Rt M M' q → Q (if q < T then B q else -1) M') : f_X12_look M Q := by
  unfold f_X12_look
  have hT := hB.2.1
  refine jn_use (P := fun J => ∀ (M' : Mem) (q : Nat), Skp B T p q → Rt M M' q → J M') ?_ ?_
  · intro M' q hs hA
    have hB' := hA.rb hB
    rw [hB'.1, hA.2.2]
    have hh := h M' q hs hA
    refine ⟨fun c => ?_, fun c => ⟨by omega, ?_⟩⟩
    · rw [if_neg (by omega)] at hh; exact hh
    · rw [if_pos (by omega)] at hh; rw [tn, (hB'.2.2 q (by omega)).1]; exact hh
  intro J hJ
  refine wl1_inv (I := fun M' : Mem => ∃ q, Rt M M' q ∧ p ≤ q ∧ q ≤ T ∧ ∀ i, p ≤ i → i < q → blk (B i)) (μ := fun M' : Mem => T - (M' 95 2).toNat) ?_ 5000 _ ⟨p, Rt.refl hp, by omega, hpT, fun i h1 h2 => by omega⟩ (by omega)
  rintro rec M' ⟨q, hA, h1, h2, h3⟩ hrec
  have hB' := hA.rb hB
  have a3 := hA.2.2
  unfold X12_look_b0
  rw [hB'.1, a3]
  have go : q < T → blk (B q) → rec (st M' 95 2 ((q : Int) + 1)) := fun z1 z2 => by
    have hA' : Rt M (st M' 95 2 ((q : Int) + 1)) (q + 1) := hA.set (by omega)
    refine hrec _ ⟨q + 1, hA', by omega, by omega, fun i i1 i2 => ?_⟩ ?_
    · by_cases z : i = q
      · rw [z]; exact z2
      · exact h3 i i1 (by omega)
    · show T - (st M' 95 2 ((q : Int) + 1) 95 2).toNat < T - (M' 95 2).toNat
      rw [hA'.2.2, a3]; omega
  refine ⟨fun c => hJ M' q ⟨h1, h2, h3, fun z => by omega⟩ hA, fun c => ⟨by omega, ?_⟩⟩
  have hq : q < T := by omega
  rw [tn, (hB'.2.2 q hq).1]
  refine ⟨fun z => ⟨by unfold inR; omega, ?_⟩, fun z => ⟨fun z2 => hJ M' q ⟨h1, h2, h3, fun _ y => y.elim z z2⟩ hA, fun z2 => ⟨by unfold inR; omega, ?_⟩⟩⟩
  · intro M5 e; rw [e]; exact go hq (Or.inl z)
  · intro M5 e; rw [e]; exact go hq (Or.inr z2)
/-- a word stands at s, and not right behind a number -/
def WdH (B : Nat → Int) (T s : Nat) (e : Int) : Prop := s < T ∧ ltr (B s) ∧ (s : Int) ≠ e
theorem t_isWordHere (hB : Rb M B T) (hp : M 95 2 = p) (hpT : p ≤ T) (h5 : M 95 5 = 0) {Q : Int → Mem → Prop} (h1 : ∀ (M' : Mem) (s : Nat), Skp B T p s → Rt M M' s → WdH B T s (M 95 4) → Q 1 M') (h0 : ∀ (M' : Mem) (s : Nat), Skp B T p s → Rt M M' s → ¬ WdH B T s (M 95 4) → Q 0 M') : f_X12_isWordHere M Q := by
  unfold f_X12_isWordHere
  refine ⟨fun c => absurd h5 c, fun _ => t_look hB hp hpT (fun M' s hs hA => ?_)⟩
  have e2 := hA.2.2
  have e4 := hA.2.1 4 (by omega)
  by_cases z : s < T
  · rw [if_pos z]
    refine t_isLetter (fun y => ⟨fun w => absurd w (by omega), fun _ => ⟨fun w => ?_, fun w => ?_⟩⟩) (fun y => ⟨fun _ => h0 M' s hs hA (fun w => y w.2.1), fun w => absurd rfl w⟩)
    · rw [e2, e4] at w; exact h0 M' s hs hA (fun x => x.2.2 w)
    · rw [e2, e4] at w; exact h1 M' s hs hA ⟨z, y, w⟩
  · rw [if_neg z]
    exact t_isLetter (fun y => absurd y.1 (by omega)) (fun _ => ⟨fun _ => h0 M' s hs hA (fun w => z w.1), fun w => absurd rfl w⟩)
theorem t_isLike {s m : Nat} (hB : Rb M B T) (hO : Own M) (hp : M 95 2 = p) (hm : p + m ≤ T) (hs : s + m ≤ 35) {Q : Int → Prop} (h1 : Lik B p s m → Q 1) (h0 : ¬ Lik B p s m → Q 0) : f_X12_isLike (s : Int) (m : Int) M Q := by
  unfold f_X12_isLike
  have hT := hB.2.1
  refine wl1_inv (I := fun v : Int => ∃ k : Nat, v = k ∧ k ≤ m ∧ Lik B p s k) (μ := fun v : Int => m - v.toNat) ?_ 5000 _ ⟨0, rfl, by omega, fun i hi => by omega⟩ (by omega)
  rintro rec _ ⟨k, rfl, hk, hl⟩ hrec
  unfold X12_isLike_b2
  rw [hp]
  refine ⟨fun c => h1 ?_, fun c => ⟨by omega, by omega, ?_⟩⟩
  · have e : k = m := by omega
    rw [← e]; exact hl
  rw [show ((s : Int) + k) = ((s + k : Nat) : Int) by omega, show ((p : Int) + k) = ((p + k : Nat) : Int) by omega, tn, tn, hO (s + k) (by omega), (hB.2.2 (p + k) (by omega)).1]
  refine ⟨fun z => ⟨by unfold inR; omega, fun v e => hrec v ⟨k + 1, by omega, by omega, fun i hi => ?_⟩ (by omega)⟩, fun z => h0 (fun y => z (y k (by omega)))⟩
  by_cases y : i = k
  · rw [y]; exact z
  · exact hl i (by omega)
end
