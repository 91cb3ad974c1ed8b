/-! reading: blanks, words, numbers of words -/
def blk (b : Int) : Prop := b = 10 ∨ b = 32
def ltr (b : Int) : Prop := 97 ≤ b ∧ b ≤ 122
def dgt (b : Int) : Prop := 48 ≤ b ∧ b ≤ 57
/-- from p on, q is the first place behind blanks -/
def Skp (B : Nat → Int) (T p q : Nat) : Prop := p ≤ q ∧ q ≤ T ∧ (∀ i, p ≤ i → i < q → blk (B i)) ∧ (q < T → ¬ blk (B q))
/-- from p on, q is the first place behind letters -/
def Wnd (B : Nat → Int) (T p q : Nat) : Prop := p ≤ q ∧ q ≤ T ∧ (∀ i, p ≤ i → i < q → ltr (B i)) ∧ (q < T → ¬ ltr (B q))
theorem Skp.uniq {B : Nat → Int} {T p q q' : Nat} (h : Skp B T p q) (h' : Skp B T p q') : q = q' := by
  rcases Nat.lt_trichotomy q q' with z | z | z
  · exact absurd (h'.2.2.1 q h.1 z) (h.2.2.2 (by have := h'.2.1; omega))
  · exact z
  · exact absurd (h.2.2.1 q' h'.1 z) (h'.2.2.2 (by have := h.2.1; omega))
theorem Wnd.uniq {B : Nat → Int} {T p q q' : Nat} (h : Wnd B T p q) (h' : Wnd B T p q') : q = q' := by
  rcases Nat.lt_trichotomy q q' with z | z | z
  · exact absurd (h'.2.2.1 q h.1 z) (h.2.2.2 (by have := h'.2.1; omega))
  · exact z
  · exact absurd (h.2.2.1 q' h'.1 z) (h'.2.2.2 (by have := h.2.1; omega))
/-- the letters of the word at p -/
def wl_ (B : Nat → Int) (p i : Nat) : Nat := (B (p + i) - 96).toNat
theorem Wnd.letters {B : Nat → Int} {T p q : Nat} (h : Wnd B T p q) : ∀ i, i < q - p → 1 ≤ wl_ B p i ∧ wl_ B p i ≤ 26 := fun i hi => by
  have := h.2.2.1 (p + i) (by omega) (by omega)
  unfold ltr at this
  unfold wl_
  omega
/-- only the reader's place moves -/
def At (M M' : Mem) (q : Nat) : Prop := (∀ c, c ≠ 3 → M' c = M c) ∧ (∀ j, j ≠ 7 → M' 3 j = M 3 j) ∧ M' 3 7 = q
section
variable {M M' M2 : Mem} {B : Nat → Int} {T p q : Nat}
theorem At.refl (e : M 3 7 = p) : At M M p := ⟨fun _ _ => rfl, fun _ _ => rfl, e⟩
theorem At.trans {r : Nat} (h : At M M' q) (h2 : At M' M2 r) : At M M2 r := ⟨fun c hc => by rw [h2.1 c hc, h.1 c hc], fun j hj => by rw [h2.2.1 j hj, h.2.1 j hj], h2.2.2⟩
theorem At.set {v : Int} {r : Nat} (h : At M M' q) (e : v = r) : At M (st M' 3 7 v) r := ⟨fun c hc => by rw [st_o hc, h.1 c hc], fun j hj => by rw [st_s, if_neg hj, h.2.1 j hj], by rw [st_s, if_pos rfl, e]⟩
theorem At.bt (h : At M M' q) (hB : Bt M B T) : Bt M' B T := hB.of (h.1 1 (by omega)) (h.1 2 (by omega))
theorem k_skip (hB : Bt M B T) (hp : M 3 7 = p) (hpT : p ≤ T) {Q : Mem → Prop} (h : ∀ (M' : Mem) (q : Nat), Skp B T p q → At M M' q → Q M') : f_X6_skipBlanks M Q := by
  unfold f_X6_skipBlanks
  have hT := hB.2.1
  refine wl1_inv (I := fun M' : Mem => ∃ q, At M M' q ∧ p ≤ q ∧ q ≤ T ∧ ∀ i, p ≤ i → i < q → blk (B i)) (μ := fun M' : Mem => T - (M' 3 7).toNat) ?_ 5000 _ ⟨p, At.refl hp, by omega, hpT, fun i h1 h2 => by omega⟩ (by omega)
  rintro rec M' ⟨q, hA, h1, h2, h3⟩ hrec
  have hB' := hA.bt hB
  have a3 := hA.2.2
  unfold X6_skipBlanks_b0
  rw [hB'.1, a3]
  have go : q < T → blk (B q) → rec (st M' 3 7 ((q : Int) + 1)) := fun z1 z2 => by
    have hA' : At M (st M' 3 7 ((q : Int) + 1)) (q + 1) := hA.set (by omega)
    refine hrec _ ⟨q + 1, hA', by omega, by omega, fun i i1 i2 => ?_⟩ ?_
    · by_cases z : i = q
      · rw [z]; exact z2
      · exact h3 i i1 (by omega)
    · show T - (st M' 3 7 ((q : Int) + 1) 3 7).toNat < T - (M' 3 7).toNat
      rw [hA'.2.2, a3]; omega
  refine ⟨fun c => h M' q ⟨h1, h2, h3, fun z => by omega⟩ hA, fun c => ?_⟩
  have hq : q < T := by omega
  refine b_at hB' hq rfl ⟨fun z => ⟨by unfold inR; omega, ?_⟩, fun z => b_at hB' hq rfl ⟨fun z2 => h M' q ⟨h1, h2, h3, fun _ y => y.elim z z2⟩ hA, fun z2 => ⟨by unfold inR; omega, ?_⟩⟩⟩
  · intro M5 e; rw [e]; exact go hq (Or.inl z)
  · intro M5 e; rw [e]; exact go hq (Or.inr z2)
theorem k_isLetter {v : Int} {Q : Int → Prop} (h1 : ltr v → Q 1) (h0 : ¬ ltr v → Q 0) : f_X6_isLetter v M Q := by
  unfold f_X6_isLetter
  unfold ltr at *
  exact ⟨fun c => h0 (by omega), fun c => ⟨fun c2 => h0 (by omega), fun c2 => h1 (by omega)⟩⟩
theorem t_isLetter {v : Int} {Q : Int → Prop} (h1 : ltr v → Q 1) (h0 : ¬ ltr v → Q 0) : f_X12_isLetter v M Q := by
  unfold f_X12_isLetter
  unfold ltr at *
  exact ⟨fun c => h0 (by omega), fun c => ⟨fun c2 => h0 (by omega), fun c2 => h1 (by omega)⟩⟩
theorem k_isDigit {v : Int} {Q : Int → Prop} (h1 : dgt v → Q 1) (h0 : ¬ dgt v → Q 0) : f_X6_isDigit v M Q := by
  unfold f_X6_isDigit
  unfold dgt at *
  exact ⟨fun c => h0 (by omega), fun c => ⟨fun c2 => h0 (by omega), fun c2 => h1 (by omega)⟩⟩
theorem t_isDigit {v : Int} {Q : Int → Prop} (h1 : dgt v → Q 1) (h0 : ¬ dgt v → Q 0) : f_X12_isDigit v M Q := by
  unfold f_X12_isDigit
  unfold dgt at *
  exact ⟨fun c => h0 (by omega), fun c => ⟨fun c2 => h0 (by omega), fun c2 => h1 (by omega)⟩⟩
theorem k_wordEnd (hB : Bt M B T) (hp : M 3 7 = p) (hpT : p ≤ T) {Q : Int → Prop} (h : ∀ q : Nat, Wnd B T p q → Q q) : f_X6_wordEnd M Q := by
  unfold f_X6_wordEnd
  have hT := hB.2.1
  rw [hp]
  intro v e
  replace e := e.symm
  subst e
  refine wl1_inv (I := fun v : Int => ∃ q : Nat, v = q ∧ p ≤ q ∧ q ≤ T ∧ ∀ i, p ≤ i → i < q → ltr (B i)) (μ := fun v : Int => T - v.toNat) ?_ 5000 _ ⟨p, rfl, by omega, hpT, fun i h1 h2 => by omega⟩ (by omega)
  rintro rec _ ⟨q, rfl, h1, h2, h3⟩ hrec
  unfold X6_wordEnd_b5
  rw [hB.1]
  refine ⟨fun c => h q ⟨h1, h2, h3, fun z => by omega⟩, fun c => ?_⟩
  have hq : q < T := by omega
  refine b_at hB hq rfl (k_isLetter (fun z => ⟨fun y => absurd y (by omega), fun _ => ⟨by unfold inR; omega, ?_⟩⟩) (fun z => ⟨fun _ => h q ⟨h1, h2, h3, fun _ => z⟩, fun y => absurd rfl y⟩))
  intro v e
  refine hrec v ⟨q + 1, by omega, by omega, by omega, fun i i1 i2 => ?_⟩ (by omega)
  by_cases z2 : i = q
  · rw [z2]; exact z
  · exact h3 i i1 (by omega)
theorem x32_lt {L : Nat → Nat} : ∀ {n : Nat}, (∀ i, i < n → 1 ≤ L i ∧ L i ≤ 26) → x32 L n < 32 ^ n
  | 0, _ => by simp [x32]
  | n + 1, h => by
    have h1 := x32_lt (n := n) (fun i hi => h i (by omega))
    have h2 := h n (by omega)
    have h3 : L n * 32 ^ n ≤ 26 * 32 ^ n := Nat.mul_le_mul_right _ h2.2
    unfold x32
    rw [Nat.pow_succ]
    omega
theorem k_wordTo (hB : Bt M B T) (hp : M 3 7 = p) (hW : Wnd B T p q) {Q : Int → Prop} (h1 : q - p ≤ 6 → Q (x32 (wl_ B p) (q - p) : Int)) (h0 : 6 < q - p → Q (-1)) {v : Int} (hv : v = q) : f_X6_wordTo v M Q := by
  obtain ⟨w1, w2, w3, w4⟩ := id hW
  have hT := hB.2.1
  have hL := hW.letters
  unfold f_X6_wordTo
  rw [hp, hv]
  refine ⟨by unfold inR; omega, fun c => ?_, fun c => h0 (by omega)⟩
  refine wl2_inv (I := fun (x v : Int) => ∃ k : Nat, v = k ∧ k ≤ q - p ∧ x = (x32 (wl_ B p) k : Int)) (μ := fun (_ v : Int) => q - p - v.toNat) ?_ 5000 _ _ ⟨0, rfl, by omega, rfl⟩ (by omega)
  rintro rec _ _ ⟨k, rfl, hk, rfl⟩ hrec
  unfold X6_wordTo_b17
  rw [hp]
  refine ⟨fun c2 => ?_, fun c2 => ⟨by unfold inR; omega, ?_⟩⟩
  · have e : k = q - p := by omega
    rw [e]; exact h1 (by omega)
  refine b_at (k := p + k) hB (by omega) (by omega) (fun v2 e2 => ⟨by unfold inR; omega, ?_⟩)
  intro v3 e3
  refine hrec v2 v3 ⟨k + 1, by omega, by omega, ?_⟩ (by omega)
  have hk6 : k < 6 := by omega
  have hl := hL k (by omega)
  have hx := x32_lt (L := wl_ B p) (n := k) (fun i hi => hL i (by omega))
  have hb := w3 (p + k) (by omega) (by omega)
  have eb : B (p + k) = ((wl_ B p k + 96 : Nat) : Int) := by unfold ltr at hb; unfold wl_; omega
  have e5 : (2 : Nat) ^ (5 * k) = 32 ^ k := by rw [Nat.pow_mul]
  have hbig : x32 (wl_ B p) k + wl_ B p k * 32 ^ k < 1073741824 := by
    have h2 := x32_lt (L := wl_ B p) (n := k + 1) (fun i hi => hL i (by omega))
    have h3 : (32 : Nat) ^ (k + 1) ≤ 32 ^ 6 := Nat.pow_le_pow_right (by omega) (by omega)
    unfold x32 at h2
    have h4 : (32 : Nat) ^ 6 = 1073741824 := rfl
    omega
  rw [e2, eb, bAnd31 (by omega), show (wl_ B p k + 96) % 32 = wl_ B p k by omega, show (5 * (k : Int)) = ((5 * k : Nat) : Int) by omega, bOrShl (by rw [e5]; exact hx) (by omega) (by rw [e5]; omega), e5]
  rfl
end
