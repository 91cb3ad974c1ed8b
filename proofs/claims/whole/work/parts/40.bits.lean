/-! bits of whole numbers -/
def bt (x : Int32) (i : Nat) : Bool := x.toBitVec.getLsbD i
theorem b_ext {x y : Int32} (h : ∀ i, i < 32 → bt x i = bt y i) : x = y := Int32.toBitVec_inj.mp (BitVec.eq_of_getLsbD_eq (fun i hi => h i hi))
theorem b_or (x y : Int32) (i : Nat) : bt (x ||| y) i = (bt x i || bt y i) := by unfold bt; rw [Int32.toBitVec_or, BitVec.getLsbD_or]
theorem b_and (x y : Int32) (i : Nat) : bt (x &&& y) i = (bt x i && bt y i) := by unfold bt; rw [Int32.toBitVec_and, BitVec.getLsbD_and]
theorem b_xor (x y : Int32) (i : Nat) : bt (x ^^^ y) i = (bt x i ^^ bt y i) := by unfold bt; rw [Int32.toBitVec_xor, BitVec.getLsbD_xor]
theorem b_big {x : Int32} {i : Nat} (h : 32 ≤ i) : bt x i = false := BitVec.getLsbD_of_ge _ _ h
theorem b_m1 : ∀ i, i < 32 → bt (-1) i = true := by decide +kernel
theorem b_0 (i : Nat) : bt 0 i = false := BitVec.getLsbD_zero
theorem s_l : ∀ n, n < 32 → ((nI n &&& 31).toBitVec.smod 32).toNat = n := by decide +kernel
theorem b_shl (n : Nat) (hn : n < 32) (x : Int32) {i : Nat} (hi : i < 32) : bt (x <<< (nI n &&& 31)) i = (decide (n ≤ i) && bt x (i - n)) := by
  unfold bt
  rw [Int32.toBitVec_shiftLeft]
  show (x.toBitVec <<< ((nI n &&& 31).toBitVec.smod 32).toNat).getLsbD i = _
  rw [s_l n hn, BitVec.getLsbD_shiftLeft]
  rcases Nat.lt_or_ge i n with h | h
  · simp [h, Nat.not_le.mpr h]
  · simp [hi, h, Nat.not_lt.mpr h]
theorem b_sshr (n : Nat) (hn : n < 32) (x : Int32) {i : Nat} (hi : i < 32) : bt (x >>> (nI n &&& 31)) i = if n + i < 32 then bt x (n + i) else bt x 31 := by
  unfold bt
  rw [Int32.toBitVec_shiftRight]
  show (x.toBitVec.sshiftRight ((nI n &&& 31).toBitVec.smod 32).toNat).getLsbD i = _
  rw [s_l n hn, BitVec.getLsbD_sshiftRight, BitVec.msb_eq_getLsbD_last]
  simp [hi]
theorem b_1 : ∀ i, i < 32 → bt 1 i = decide (i = 0) := by decide +kernel
theorem ofI (n : Nat) : Int32.ofInt (n : Int) = nI n := Int32.ofInt_eq_ofNat
def tb (x : Int) (i : Nat) : Bool := bt (Int32.ofInt x) i
theorem tb_toInt (x : Int32) (i : Nat) : tb x.toInt i = bt x i := by unfold tb; rw [Int32.ofInt_toInt]
theorem tb_or (x y : Int) (i : Nat) : tb (bOr x y) i = (tb x i || tb y i) := by unfold bOr; rw [tb_toInt, b_or]; rfl
theorem tb_and (x y : Int) (i : Nat) : tb (bAnd x y) i = (tb x i && tb y i) := by unfold bAnd; rw [tb_toInt, b_and]; rfl
theorem tb_xor (x y : Int) (i : Nat) : tb (bXor x y) i = (tb x i ^^ tb y i) := by unfold bXor; rw [tb_toInt, b_xor]; rfl
theorem tb_0 (i : Nat) : tb 0 i = false := b_0 i
theorem tb_m1 {i : Nat} (h : i < 32) : tb (-1) i = true := b_m1 i h
theorem tb_not (x : Int) {i : Nat} (h : i < 32) : tb (bXor x (-1)) i = !tb x i := by rw [tb_xor, tb_m1 h]; simp
theorem tb_big {x : Int} {i : Nat} (h : 32 ≤ i) : tb x i = false := b_big h
theorem tb_one {p : Nat} (hp : p < 32) (i : Nat) : tb (bShl 1 (p : Int)) i = decide (i = p) := by
  rcases Nat.lt_or_ge i 32 with hi | hi
  · unfold bShl
    rw [tb_toInt, ofI, show Int32.ofInt 1 = 1 from rfl, b_shl p hp 1 hi]
    rcases Nat.lt_or_ge i p with h | h
    · have : ¬ i = p := by omega
      simp [Nat.not_le.mpr h, this]
    · rw [b_1 _ (by omega)]
      simp only [h, decide_true, Bool.true_and]
      congr 1
      simp only [eq_iff_iff]
      omega
  · rw [tb_big hi]
    have : ¬ i = p := by omega
    simp [this]
theorem tb_ext {x y : Int} (hx : inR x) (hy : inR y) (h : ∀ i, i < 32 → tb x i = tb y i) : x = y := by
  have e : Int32.ofInt x = Int32.ofInt y := b_ext h
  have := congrArg Int32.toInt e
  rwa [to32 hx, to32 hy] at this
/-- the test of a bit -/
theorem bit_val (x : Int) {p : Nat} (hp : p < 32) : bAnd (bShr x (p : Int)) 1 = if tb x p = true then 1 else 0 := by
  have e : Int32.ofInt (bShr x (p : Int)) &&& Int32.ofInt 1 = if tb x p = true then (1 : Int32) else 0 := by
    apply b_ext
    intro i hi
    rw [b_and]
    unfold bShr
    rw [Int32.ofInt_toInt, ofI, b_sshr p hp _ hi, show Int32.ofInt 1 = 1 from rfl, b_1 i hi]
    by_cases h0 : i = 0
    · subst h0
      simp only [Nat.add_zero, hp, if_true, decide_true, Bool.and_true]
      show tb x p = _
      cases h : tb x p
      · simp [b_0]
      · simp; rfl
    · simp only [h0, decide_false, Bool.and_false]
      cases h : tb x p
      · simp [b_0]
      · simp only [if_true]; rw [b_1 i hi]; simp [h0]
  unfold bAnd
  rw [e]
  cases h : tb x p <;> simp
theorem bit_1 {x : Int} {p : Nat} (hp : p < 32) : bAnd (bShr x (p : Int)) 1 = 1 ↔ tb x p = true := by
  rw [bit_val x hp]
  cases h : tb x p <;> simp
theorem bit_0 {x : Int} {p : Nat} (hp : p < 32) : bAnd (bShr x (p : Int)) 1 = 0 ↔ tb x p = false := by
  rw [bit_val x hp]
  cases h : tb x p <;> simp
theorem and_0 {x y : Int} : bAnd x y = 0 ↔ ∀ i, i < 32 → ¬ (tb x i = true ∧ tb y i = true) := by
  constructor
  · intro h i hi hh
    have := tb_and x y i
    rw [h, tb_0, hh.1, hh.2] at this
    simp at this
  · intro h
    apply tb_ext (bAnd_in _ _) in0
    intro i hi
    rw [tb_and, tb_0]
    have := h i hi
    cases h1 : tb x i <;> cases h2 : tb y i <;> simp_all
