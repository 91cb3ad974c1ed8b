/-! how many bits -/
theorem tb_nat (a i : Nat) : tb (a : Int) i = (decide (i < 32) && a.testBit i) := by
  unfold tb bt
  rw [ofI]
  exact BitVec.getLsbD_ofNat 32 a i
theorem bAnd_nat {a b : Nat} (ha : a < 2147483648) : bAnd (a : Int) (b : Int) = ((a &&& b : Nat) : Int) := by
  have hle : a &&& b ≤ a := Nat.and_le_left
  refine tb_ext (bAnd_in _ _) (by unfold inR; omega) (fun i hi => ?_)
  rw [tb_and, tb_nat, tb_nat, tb_nat, Nat.testBit_and]
  simp [hi]
theorem u_sh : ∀ k, k < 32 → ((nI k).toUInt32 &&& Int32.toUInt32 31) = UInt32.ofNat k := by decide +kernel
theorem bUsh_nat {a k : Nat} (ha : a < 2147483648) (hk : k < 32) : bUsh (a : Int) (k : Int) = ((a / 2 ^ k : Nat) : Int) := by
  unfold bUsh
  rw [ofI, ofI, u_sh k hk]
  have hn : ((nI a).toUInt32 >>> UInt32.ofNat k).toNat = a / 2 ^ k := by
    rw [UInt32.toNat_shiftRight, Nat.shiftRight_eq_div_pow]
    have e1 : (nI a).toUInt32.toNat = a := by
      show (BitVec.ofNat 32 a).toNat = a
      rw [BitVec.toNat_ofNat]; omega
    have e2 : (UInt32.ofNat k).toNat % 32 = k := by
      rw [UInt32.toNat_ofNat']; omega
    rw [e1, e2]
  have hle : a / 2 ^ k ≤ a := Nat.div_le_self _ _
  show BitVec.toInt ((nI a).toUInt32 >>> UInt32.ofNat k).toBitVec = _
  have hn2 : ((nI a).toUInt32 >>> UInt32.ofNat k).toBitVec.toNat = a / 2 ^ k := hn
  rw [BitVec.toInt_eq_toNat_of_lt (by rw [hn2]; omega), hn2]
theorem land_split {k x y m m' : Nat} (hx : x < 2 ^ k) (hm : m < 2 ^ k) : (2 ^ k * y + x) &&& (2 ^ k * m' + m) = 2 ^ k * (y &&& m') + (x &&& m) := by
  have hxm : x &&& m < 2 ^ k := Nat.lt_of_le_of_lt Nat.and_le_left hx
  refine Nat.eq_of_testBit_eq (fun j => ?_)
  rw [Nat.testBit_and, Nat.testBit_two_pow_mul_add _ hx, Nat.testBit_two_pow_mul_add _ hm, Nat.testBit_two_pow_mul_add _ hxm]
  split <;> rw [Nat.testBit_and]
theorem land3 {x y z m : Nat} (hx : x < 256) (hy : y < 256) (hm : m < 256) (hz : z < 256) {mm : Nat} (hmm : mm = 65536 * (256 * m + m) + 256 * m + m) : (65536 * z + 256 * y + x) &&& mm = 65536 * (z &&& m) + 256 * (y &&& m) + (x &&& m) := by
  have e1 : 65536 * z + 256 * y + x = 2 ^ 8 * (2 ^ 8 * z + y) + x := by omega
  have e2 : mm = 2 ^ 8 * (2 ^ 8 * (2 ^ 8 * m + m) + m) + m := by omega
  have e3 : z &&& (2 ^ 8 * m + m) = z &&& m := by
    have := land_split (k := 8) (x := z) (y := 0) (m := m) (m' := m) hz hm
    simpa using this
  rw [e1, e2, land_split (k := 8) hx hm, land_split (k := 8) hy hm, e3]
  omega
def A1 (a : Nat) : Nat := a - (a / 2 &&& 85)
def A2 (a : Nat) : Nat := (a &&& 51) + (a / 4 &&& 51)
def A3 (a : Nat) : Nat := (a + a / 16) % 16
def c8 (a : Nat) : Nat := cnt (fun i => a.testBit i) 8
theorem pc_1 : ∀ a, a < 256 → (a / 2 &&& 85) ≤ a ∧ (128 + a / 2 &&& 85) = (a / 2 &&& 85) := by decide +kernel
theorem pc_2 : ∀ a, a < 256 → A1 a < 256 ∧ A2 (A1 a) % 16 ≤ 4 ∧ A2 (A1 a) / 16 ≤ 4 ∧ A3 (A2 (A1 a)) = c8 a := by decide +kernel
theorem pc_3 : ∀ a, a < 256 → ∀ c, c < 4 → (64 * c + a / 4 &&& 51) = (a / 4 &&& 51) := by decide +kernel
theorem pc_4 : ∀ a, a < 256 → (a &&& 15) = a % 16 := by decide +kernel
theorem bitCount_nat {n : Nat} (hn : n < 1048576) {M : Mem} {Q : Int → Prop} (h : Q ((c8 (n % 256) + c8 (n / 256 % 256) + c8 (n / 65536) : Nat) : Int)) : f_J6_bitCount_0f7a4 (n : Int) M Q := by
  have g0 := pc_1 (n % 256) (by omega)
  have g1 := pc_1 (n / 256 % 256) (by omega)
  have g2 := pc_1 (n / 65536) (by omega)
  obtain ⟨n0, h0⟩ : ∃ n0, n0 = n % 256 := ⟨_, rfl⟩
  obtain ⟨n1, h1⟩ : ∃ n1, n1 = n / 256 % 256 := ⟨_, rfl⟩
  obtain ⟨n2, h2⟩ : ∃ n2, n2 = n / 65536 := ⟨_, rfl⟩
  rw [← h0] at g0 h
  rw [← h1] at g1 h
  rw [← h2] at g2 h
  have b0 : n0 < 256 := by omega
  have b1 : n1 < 256 := by omega
  have b2 : n2 < 16 := by omega
  have hnn : n = 65536 * n2 + 256 * n1 + n0 := by omega
  have half : ∀ c a, c < 2 → a < 256 → (128 * c + a / 2 &&& 85) = (a / 2 &&& 85) := fun c a hc ha => by
    rcases Nat.lt_or_ge c 1 with z | z
    · rw [show c = 0 by omega]; simp
    · rw [show c = 1 by omega]; exact (pc_1 a ha).2
  have s1 : (n / 2 ^ 1 &&& 1431655765) = 65536 * (n2 / 2 &&& 85) + 256 * (n1 / 2 &&& 85) + (n0 / 2 &&& 85) := by
    rw [show n / 2 ^ 1 = 65536 * (n2 / 2) + 256 * (128 * (n2 % 2) + n1 / 2) + (128 * (n1 % 2) + n0 / 2) by omega, land3 (m := 85) (by omega) (by omega) (by omega) (by omega) (by omega), half _ _ (by omega) b1, half _ _ (by omega) b0]
  have p0 := pc_2 n0 b0
  have p1 := pc_2 n1 b1
  have p2 := pc_2 n2 (by omega)
  obtain ⟨x0, e0⟩ : ∃ x, x = A1 n0 := ⟨_, rfl⟩
  obtain ⟨x1, e1⟩ : ∃ x, x = A1 n1 := ⟨_, rfl⟩
  obtain ⟨x2, e2⟩ : ∃ x, x = A1 n2 := ⟨_, rfl⟩
  rw [← e0] at p0
  rw [← e1] at p1
  rw [← e2] at p2
  have v2 : n - (n / 2 ^ 1 &&& 1431655765) = 65536 * x2 + 256 * x1 + x0 := by
    rw [s1, e0, e1, e2]; unfold A1; omega
  have v2le : (n / 2 ^ 1 &&& 1431655765) ≤ n := by rw [s1]; omega
  have s2 : ((65536 * x2 + 256 * x1 + x0) / 2 ^ 2 &&& 858993459) = 65536 * (x2 / 4 &&& 51) + 256 * (x1 / 4 &&& 51) + (x0 / 4 &&& 51) := by
    rw [show (65536 * x2 + 256 * x1 + x0) / 2 ^ 2 = 65536 * (x2 / 4) + 256 * (64 * (x2 % 4) + x1 / 4) + (64 * (x1 % 4) + x0 / 4) by omega, land3 (m := 51) (by omega) (by omega) (by omega) (by omega) (by omega), pc_3 _ p1.1 _ (by omega), pc_3 _ p0.1 _ (by omega)]
  have s3 : ((65536 * x2 + 256 * x1 + x0) &&& 858993459) = 65536 * (x2 &&& 51) + 256 * (x1 &&& 51) + (x0 &&& 51) := land3 (m := 51) p0.1 p1.1 (by omega) p2.1 (by omega)
  obtain ⟨y0, f0⟩ : ∃ x, x = A2 x0 := ⟨_, rfl⟩
  obtain ⟨y1, f1⟩ : ∃ x, x = A2 x1 := ⟨_, rfl⟩
  obtain ⟨y2, f2⟩ : ∃ x, x = A2 x2 := ⟨_, rfl⟩
  rw [← f0] at p0
  rw [← f1] at p1
  rw [← f2] at p2
  have v4 : ((65536 * x2 + 256 * x1 + x0) &&& 858993459) + ((65536 * x2 + 256 * x1 + x0) / 2 ^ 2 &&& 858993459) = 65536 * y2 + 256 * y1 + y0 := by
    rw [s2, s3, f0, f1, f2]; unfold A2; omega
  have v5 : ((65536 * y2 + 256 * y1 + y0) + (65536 * y2 + 256 * y1 + y0) / 2 ^ 4 &&& 252645135) = 65536 * A3 y2 + 256 * A3 y1 + A3 y0 := by
    rw [show (65536 * y2 + 256 * y1 + y0) + (65536 * y2 + 256 * y1 + y0) / 2 ^ 4 = 65536 * (y2 + y2 / 16) + 256 * (y1 + 16 * (y2 % 16) + y1 / 16) + (y0 + 16 * (y1 % 16) + y0 / 16) by omega, land3 (m := 15) (by omega) (by omega) (by omega) (by omega) (by omega), pc_4 _ (by omega), pc_4 _ (by omega), pc_4 _ (by omega)]
    unfold A3; omega
  have q0 : c8 n0 ≤ 8 := cnt_le _ _
  have q1 : c8 n1 ≤ 8 := cnt_le _ _
  have q2 : c8 n2 ≤ 8 := cnt_le _ _
  rw [p0.2.2.2, p1.2.2.2, p2.2.2.2] at v5
  unfold f_J6_bitCount_0f7a4
  have k1 : bAnd (bUsh (n : Int) 1) 1431655765 = ((n / 2 ^ 1 &&& 1431655765 : Nat) : Int) := by
    rw [show (1 : Int) = ((1 : Nat) : Int) from rfl, bUsh_nat (by omega) (by omega), show (1431655765 : Int) = ((1431655765 : Nat) : Int) from rfl, bAnd_nat (by omega)]
  rw [k1]
  refine ⟨by unfold inR; omega, ?_⟩
  rintro _ rfl
  rw [show (n : Int) - ((n / 2 ^ 1 &&& 1431655765 : Nat) : Int) = ((65536 * x2 + 256 * x1 + x0 : Nat) : Int) by rw [← v2]; omega]
  have hv2 : 65536 * x2 + 256 * x1 + x0 ≤ n := by rw [← v2]; omega
  obtain ⟨V2, hV2⟩ : ∃ v, v = 65536 * x2 + 256 * x1 + x0 := ⟨_, rfl⟩
  rw [← hV2] at v4 hv2 ⊢
  have k2 : bAnd (V2 : Int) 858993459 = ((V2 &&& 858993459 : Nat) : Int) := by
    rw [show (858993459 : Int) = ((858993459 : Nat) : Int) from rfl, bAnd_nat (by omega)]
  have k3 : bAnd (bUsh (V2 : Int) 2) 858993459 = ((V2 / 2 ^ 2 &&& 858993459 : Nat) : Int) := by
    rw [show (2 : Int) = ((2 : Nat) : Int) from rfl, bUsh_nat (by omega) (by omega), show (858993459 : Int) = ((858993459 : Nat) : Int) from rfl, bAnd_nat (by omega)]
  rw [k2, k3, show ((V2 &&& 858993459 : Nat) : Int) + ((V2 / 2 ^ 2 &&& 858993459 : Nat) : Int) = ((65536 * y2 + 256 * y1 + y0 : Nat) : Int) by rw [← v4]; omega]
  obtain ⟨V4, hV4⟩ : ∃ v, v = 65536 * y2 + 256 * y1 + y0 := ⟨_, rfl⟩
  rw [← hV4] at v5 ⊢
  refine ⟨by unfold inR; omega, ?_⟩
  rintro _ rfl
  rintro _ rfl
  rw [show (4 : Int) = ((4 : Nat) : Int) from rfl, bUsh_nat (by omega) (by omega), show (252645135 : Int) = ((252645135 : Nat) : Int) from rfl, show (V4 : Int) + ((V4 / 2 ^ 4 : Nat) : Int) = ((V4 + V4 / 2 ^ 4 : Nat) : Int) by omega, bAnd_nat (by omega), v5]
  rw [show (8 : Int) = ((8 : Nat) : Int) from rfl, bUsh_nat (by omega) (by omega)]
  refine ⟨by unfold inR; omega, ?_⟩
  rintro _ rfl
  rw [show ((65536 * c8 n2 + 256 * c8 n1 + c8 n0 : Nat) : Int) + (((65536 * c8 n2 + 256 * c8 n1 + c8 n0) / 2 ^ 8 : Nat) : Int) = ((65536 * c8 n2 + 256 * (c8 n1 + c8 n2) + (c8 n0 + c8 n1) : Nat) : Int) by omega]
  rw [show (16 : Int) = ((16 : Nat) : Int) from rfl, bUsh_nat (by omega) (by omega)]
  refine ⟨by unfold inR; omega, ?_⟩
  rintro _ rfl
  rw [show (63 : Int) = ((63 : Nat) : Int) from rfl, show ((65536 * c8 n2 + 256 * (c8 n1 + c8 n2) + (c8 n0 + c8 n1) : Nat) : Int) + (((65536 * c8 n2 + 256 * (c8 n1 + c8 n2) + (c8 n0 + c8 n1)) / 2 ^ 16 : Nat) : Int) = ((65536 * c8 n2 + 256 * (c8 n1 + c8 n2) + (c8 n0 + c8 n1) + c8 n2 : Nat) : Int) by omega, bAnd_nat (by omega), show 63 = 2 ^ 6 - 1 from rfl, Nat.and_two_pow_sub_one_eq_mod]
  rw [show (65536 * c8 n2 + 256 * (c8 n1 + c8 n2) + (c8 n0 + c8 n1) + c8 n2) % 2 ^ 6 = c8 n0 + c8 n1 + c8 n2 by omega]
  exact h
