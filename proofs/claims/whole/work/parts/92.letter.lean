/-! whole numbers as bits; names -/
theorem tb_shr (x : Int) {s i : Nat} (hs : s < 32) (hi : i < 32) : tb (bShr x (s : Int)) i = if s + i < 32 then tb x (s + i) else tb x 31 := by
  unfold bShr
  rw [tb_toInt, ofI, b_sshr s hs _ hi]
  rfl
theorem tb_shl (x : Int) {s i : Nat} (hs : s < 32) (hi : i < 32) : tb (bShl x (s : Int)) i = (decide (s ≤ i) && tb x (i - s)) := by
  unfold bShl
  rw [tb_toInt, ofI, b_shl s hs _ hi]
  rfl
theorem bShr_nat {a s : Nat} (ha : a < 2147483648) (hs : s < 32) : bShr (a : Int) (s : Int) = ((a / 2 ^ s : Nat) : Int) := by
  have hle : a / 2 ^ s ≤ a := Nat.div_le_self _ _
  have hbig : ∀ j, 31 ≤ j → a.testBit j = false := fun j hj => Nat.testBit_lt_two_pow (Nat.lt_of_lt_of_le (show a < 2 ^ 31 by omega) (Nat.pow_le_pow_right (by omega) hj))
  obtain ⟨q, hq⟩ : ∃ q, q = a / 2 ^ s := ⟨_, rfl⟩
  rw [← hq] at hle ⊢
  refine tb_ext (bShr_in _ _) (by unfold inR; omega) (fun i hi => ?_)
  have e : tb (q : Int) i = a.testBit (i + s) := by
    rw [tb_nat, hq, Nat.testBit_div_two_pow]
    simp [hi]
  rw [tb_shr _ hs hi, e]
  by_cases z : s + i < 32
  · rw [if_pos z, tb_nat, Nat.add_comm s i]
    have : i + s < 32 := by omega
    simp [this]
  · rw [if_neg z, tb_nat, hbig 31 (by omega), hbig (i + s) (by omega)]
    simp
theorem bAnd31 {a : Nat} (ha : a < 2147483648) : bAnd (a : Int) 31 = ((a % 32 : Nat) : Int) := by
  have h := bAnd_nat (b := 31) ha
  rw [show ((31 : Nat) : Int) = 31 from rfl, show (31 : Nat) = 2 ^ 5 - 1 from rfl, Nat.and_two_pow_sub_one_eq_mod] at h
  exact h
theorem bAnd127 {a : Nat} (ha : a < 2147483648) : bAnd (a : Int) 127 = ((a % 128 : Nat) : Int) := by
  have h := bAnd_nat (b := 127) ha
  rw [show ((127 : Nat) : Int) = 127 from rfl, show (127 : Nat) = 2 ^ 7 - 1 from rfl, Nat.and_two_pow_sub_one_eq_mod] at h
  exact h
theorem bAnd15 {a : Nat} (ha : a < 2147483648) : bAnd (a : Int) 15 = ((a % 16 : Nat) : Int) := by
  have h := bAnd_nat (b := 15) ha
  rw [show ((15 : Nat) : Int) = 15 from rfl, show (15 : Nat) = 2 ^ 4 - 1 from rfl, Nat.and_two_pow_sub_one_eq_mod] at h
  exact h
theorem bOrShl {a b s : Nat} (ha : a < 2 ^ s) (hs : s < 32) (h : a + b * 2 ^ s < 2147483648) : bOr (a : Int) (bShl (b : Int) (s : Int)) = ((a + b * 2 ^ s : Nat) : Int) := by
  refine tb_ext (bOr_in _ _) (by unfold inR; omega) (fun i hi => ?_)
  rw [tb_or, tb_shl _ hs hi, tb_nat, tb_nat, tb_nat, show a + b * 2 ^ s = 2 ^ s * b + a by rw [Nat.mul_comm]; omega, Nat.testBit_two_pow_mul_add _ ha]
  by_cases z : i < s
  · rw [if_pos z]
    simp [hi, Nat.not_le.mpr z]
  · rw [if_neg z, Nat.testBit_lt_two_pow (Nat.lt_of_lt_of_le ha (Nat.pow_le_pow_right (by omega) (Nat.not_lt.mp z)))]
    have : i - s < 32 := by omega
    simp [hi, Nat.not_lt.mp z, this]
def y27 (L : Nat → Nat) : Nat → Nat
  | 0 => 0
  | i + 1 => 27 * y27 L i + L i
def x32 (L : Nat → Nat) : Nat → Nat
  | 0 => 0
  | i + 1 => x32 L i + L i * 32 ^ i
/-- one name on both sides -/
def Nm (x y : Int) : Prop := ∃ (n : Nat) (L : Nat → Nat), n ≤ 6 ∧ (∀ i, i < n → 1 ≤ L i ∧ L i ≤ 26) ∧ x = (x32 L n : Int) ∧ y = (y27 L n : Int)
theorem Nm.zero : Nm 0 0 := ⟨0, fun _ => 0, by omega, fun i hi => by omega, rfl, rfl⟩
theorem y27_lt {L : Nat → Nat} : ∀ {n : Nat}, (∀ i, i < n → 1 ≤ L i ∧ L i ≤ 26) → y27 L n < 27 ^ n
  | 0, _ => by simp [y27]
  | n + 1, h => by
    have h1 := y27_lt (n := n) (fun i hi => h i (by omega))
    have h2 := h n (by omega)
    unfold y27
    rw [Nat.pow_succ]
    omega
theorem y27_pos {L : Nat → Nat} {n : Nat} (h : ∀ i, i < n → 1 ≤ L i ∧ L i ≤ 26) (hn : 0 < n) : 0 < y27 L n := by
  obtain ⟨m, rfl⟩ : ∃ m, n = m + 1 := ⟨n - 1, by omega⟩
  have := h m (by omega)
  unfold y27
  omega
theorem x32_at {L : Nat → Nat} {n k : Nat} (hn : n ≤ 6) (h : ∀ i, i < n → 1 ≤ L i ∧ L i ≤ 26) (hk : k ≤ 5) : x32 L n < 1073741824 ∧ x32 L n / 2 ^ (5 * k) % 32 = if k < n then L k else 0 := by
  have h0 := h 0
  have h1 := h 1
  have h2 := h 2
  have h3 := h 3
  have h4 := h 4
  have h5 := h 5
  obtain rfl | rfl | rfl | rfl | rfl | rfl | rfl : n = 0 ∨ n = 1 ∨ n = 2 ∨ n = 3 ∨ n = 4 ∨ n = 5 ∨ n = 6 := by omega
  all_goals
    obtain rfl | rfl | rfl | rfl | rfl | rfl : k = 0 ∨ k = 1 ∨ k = 2 ∨ k = 3 ∨ k = 4 ∨ k = 5 := by omega
  all_goals
    simp only [x32, Nat.reducePow, Nat.reduceMul, Nat.reduceLT, if_true, if_false]
    first | omega | simp
section
variable {M : Mem} {N : Nt}
theorem x_letterOf {x y : Int} {k n : Nat} {L : Nat → Nat} (hn : n ≤ 6) (hL : ∀ i, i < n → 1 ≤ L i ∧ L i ≤ 26) (hx : x = (x32 L n : Int)) (hk : k ≤ 5) {Q : Int → Prop} (h : Q ((if k < n then L k else 0 : Nat) : Int)) : f_X11_letterOf x (k : Int) M Q := by
  obtain ⟨h1, h2⟩ := x32_at (k := k) hn hL hk
  unfold f_X11_letterOf
  rw [hx, show (5 * (k : Int)) = ((5 * k : Nat) : Int) by omega, bShr_nat (by omega) (by omega), bAnd31 (by have : x32 L n / 2 ^ (5 * k) ≤ x32 L n := Nat.div_le_self _ _; omega), h2]
  exact h
theorem q_letter {a b d : Int} (hC : Core M N) (e1 : M 0 5 = M 100 2) (hv : 0 ≤ M 100 2 ∧ M 100 2 ≤ 10) (hp : ∀ p, p < N.P → Nm (M 18 p) (M 100 (3 + p))) (hr : ∀ v : Nat, (v : Int) < M 100 2 → Nm (M 19 v) (M 100 (23 + v))) {Q : Int → Int → Prop} (h : ∀ r : Int, Q r r) : f_X11_letter a b d M (fun r => f_X12_letter a b d M (fun r2 => Q r r2)) := by
  obtain ⟨h1, h2, h3, h4, h5⟩ := id hC
  have hP := h3.1.1
  have hbad : ¬ ((0 ≤ d ∧ d ≤ 5) ∧ ((a = 0 ∧ 0 ≤ b ∧ b < N.P) ∨ (a = 1 ∧ 0 ≤ b ∧ b < M 100 2))) → f_X12_letter a b d M (fun r2 => Q (-1) r2) := fun hh => by
    unfold f_X12_letter
    refine r_isIn (fun z1 z2 => ⟨fun z => absurd z (by omega), fun _ => r_isIn (fun y1 y2 => ⟨fun z => absurd z (by omega), fun _ => ?_⟩) (fun _ => ⟨fun _ => h _, fun z => absurd rfl z⟩)⟩) (fun _ => ⟨fun _ => h _, fun z => absurd rfl z⟩)
    refine jn_use (P := fun _ => True) trivial (fun J _ => ⟨fun c => r_isRiver hv (fun u1 u2 => absurd ⟨⟨y1, y2⟩, Or.inr ⟨by omega, u1, u2⟩⟩ hh) (fun _ => ⟨fun z => absurd rfl z, fun _ => h _⟩), fun c => r_isPlace h2 h3.1 (fun p hp e => absurd ⟨⟨y1, y2⟩, Or.inl ⟨c, by omega, by omega⟩⟩ hh) (fun _ => ⟨fun _ => h _, fun z => absurd rfl z⟩)⟩)
  unfold f_X11_letter
  rw [e1, h1.1]
  refine ⟨fun c => hbad (by omega), fun c => ⟨fun c1 => hbad (by omega), fun c1 => ⟨fun c2 => ?_, fun c2 => hbad (by omega)⟩⟩⟩
  obtain ⟨k, rfl⟩ : ∃ k : Nat, d = k := ⟨d.toNat, by omega⟩
  obtain ⟨w, rfl⟩ : ∃ w : Nat, b = w := ⟨b.toNat, by omega⟩
  have href : ∀ (o : Nat) (n : Nat) (L : Nat → Nat), ((a = 0 ∧ o = 3 ∧ w < N.P) ∨ (a = 1 ∧ o = 23 ∧ (w : Int) < M 100 2)) → n ≤ 6 → (∀ i, i < n → 1 ≤ L i ∧ L i ≤ 26) → M 100 (o + w) = (y27 L n : Int) → f_X12_letter a (w : Int) (k : Int) M (fun r2 => Q ((if k < n then L k else 0 : Nat) : Int) r2) := by
    intro o n L ho hn hL hy
    unfold f_X12_letter
    refine r_isIn (fun z1 z2 => ⟨fun z => absurd z (by omega), fun _ => r_isIn (fun y1 y2 => ⟨fun z => absurd z (by omega), fun _ => ?_⟩) (fun z => by omega)⟩) (fun z => by omega)
    refine jn_use (P := fun J => J) ?_ (fun J hJ => ⟨fun c => r_isRiver hv (fun _ _ => ⟨fun _ => hJ, fun z => absurd z (by omega)⟩) (fun z => by omega), fun c => r_isPlace h2 h3.1 (fun _ _ _ => ⟨fun z => absurd z (by omega), fun _ => hJ⟩) (fun z => by omega)⟩)
    refine jn_use (P := fun J => J (o : Int)) ?_ (fun J hJ => ⟨fun c => by rw [show (o : Int) = 23 by omega] at hJ; exact hJ, fun c => by rw [show (o : Int) = 3 by omega] at hJ; exact hJ⟩)
    refine ⟨by omega, ?_⟩
    rintro _ rfl
    rw [show ((o : Int) + (w : Int)).toNat = o + w by omega, hy]
    refine jn_use (P := fun J => J (n : Int)) ?_ ?_
    · refine ⟨by unfold inR; omega, ?_⟩
      rintro _ rfl
      refine jn_use (P := fun J => (∀ v : Int, (k < n → v = (y27 L (k + 1) : Int)) → J v)) ?_ ?_
      · intro v hv'
        refine ⟨fun c => ?_, fun c => ?_⟩
        · rw [if_neg (by omega)]; exact h _
        · have hkn : k < n := by omega
          have hlk := hL k hkn
          rw [if_pos hkn, hv' hkn, Int.tmod_eq_emod_of_nonneg (by omega)]
          have e : ((y27 L (k + 1) : Nat) : Int) % 27 = (L k : Int) := by
            show ((27 * y27 L k + L k : Nat) : Int) % 27 = _
            omega
          rw [e]; exact h _
      · intro J hJ
        refine wl2_inv (I := fun (v i : Int) => ∃ m : Nat, i = (m : Int) - 1 ∧ m ≤ n ∧ v = (y27 L m : Int) ∧ (k < n → k < m)) (μ := fun (_ i : Int) => (i + 1).toNat) ?_ 5000 _ _ ⟨n, rfl, by omega, rfl, fun z => z⟩ (by omega)
        rintro rec v i ⟨m, rfl, hm, rfl, hkm⟩ hrec
        unfold X12_letter_b97
        refine ⟨fun c => hJ _ (fun z => by rw [show m = k + 1 by have := hkm z; omega]), fun c => ?_⟩
        obtain ⟨j, rfl⟩ : ∃ j, m = j + 1 := ⟨m - 1, by omega⟩
        have hlj := hL j (by omega)
        rintro _ rfl
        refine ⟨by unfold inR; omega, ?_⟩
        rintro _ rfl
        refine hrec _ _ ⟨j, by omega, by omega, ?_, fun z => by omega⟩ (by omega)
        rw [Int.tdiv_eq_ediv_of_nonneg (by omega)]
        show ((27 * y27 L j + L j : Nat) : Int) / 27 = _
        omega
    · intro J hJ
      refine wl2_inv (I := fun (s v : Int) => ∃ m : Nat, m ≤ n ∧ s = (n : Int) - m ∧ v = (y27 L m : Int)) (μ := fun (s _ : Int) => ((n : Int) - s).toNat) ?_ 5000 _ _ ⟨n, by omega, by omega, rfl⟩ (by omega)
      rintro rec s v ⟨m, hm, rfl, rfl⟩ hrec
      unfold X12_letter_b73
      refine ⟨fun c => ?_, fun c => ⟨by unfold inR; omega, ?_⟩⟩
      · have e : m = 0 := by
          rcases Nat.eq_zero_or_pos m with z | z
          · exact z
          · have := y27_pos (L := L) (n := m) (fun i hi => hL i (by omega)) z
            omega
        rw [e, show (n : Int) - ((0 : Nat) : Int) = n by omega]; exact hJ
      · obtain ⟨j, rfl⟩ : ∃ j, m = j + 1 := ⟨m - 1, by
          rcases Nat.eq_zero_or_pos m with z | z
          · subst z; exact absurd (show ((y27 L 0 : Nat) : Int) ≤ 0 from Int.le_refl 0) c
          · omega⟩
        have hlj := hL j (by omega)
        rintro _ rfl
        rintro _ rfl
        refine hrec _ _ ⟨j, by omega, by omega, ?_⟩ (by omega)
        rw [Int.tdiv_eq_ediv_of_nonneg (by omega)]
        show ((27 * y27 L j + L j : Nat) : Int) / 27 = _
        omega
  refine jn_use (P := fun J => ¬ (a = 0 ∧ w < N.P) → J) ?_ ?_
  · intro hno
    refine ⟨fun c3 => hbad (by omega), fun c3 => ⟨fun c4 => hbad (by omega), fun c4 => ⟨by omega, ?_⟩⟩⟩
    rw [tn]
    obtain ⟨n, L, u1, u2, u3, u4⟩ := hr w (by omega)
    exact x_letterOf (y := 0) u1 u2 u3 (by omega) (href 23 n L (Or.inr ⟨c3, rfl, by omega⟩) u1 u2 u4)
  · intro J hJ
    refine ⟨fun c3 => hJ (fun z => c3 z.1), fun c3 => ⟨fun c4 => hJ (by omega), fun c4 => ⟨by omega, ?_⟩⟩⟩
    rw [tn]
    obtain ⟨n, L, u1, u2, u3, u4⟩ := hp w (by omega)
    exact x_letterOf (y := 0) u1 u2 u3 (by omega) (href 3 n L (Or.inl ⟨c3, rfl, by omega⟩) u1 u2 u4)
end
