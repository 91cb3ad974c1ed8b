/-! the world: 127 cells at B, B + 1 ..; a memory gives a whole number to each place of each cell -/
abbrev Mem : Type := Nat → Nat → Int
def inR (x : Int) : Prop := -2147483648 ≤ x ∧ x ≤ 2147483647
def inL (x : Int) : Prop := -9223372036854775808 ≤ x ∧ x ≤ 9223372036854775807
def MR (M : Mem) : Prop := ∀ c i, inR (M c i)
def st (M : Mem) (c i : Nat) (v : Int) : Mem := fun d => if d = c then (fun j => if j = i then v else M c j) else M d
theorem st_ne {M : Mem} {c i d : Nat} {v : Int} (h : d ≠ c) : st M c i v d = M d := by simp [st, h]
theorem st_at (M : Mem) (c i : Nat) (v : Int) : st M c i v c = fun j => if j = i then v else M c j := by simp [st]
theorem MR_st {M : Mem} {c i : Nat} {v : Int} (h : MR M) (hv : inR v) : MR (st M c i v) := by
  intro d j
  by_cases hd : d = c
  · subst hd
    rw [st_at]
    by_cases hj : j = i
    · simp [hj]; exact hv
    · simp [hj]; exact h d j
  · rw [st_ne hd]; exact h d j
/-- the first n places of a cell all become v -/
def fil (M : Mem) (c n : Nat) (v : Int) : Mem := fun d => if d = c then (fun j => if j < n then v else M c j) else M d
theorem fil_ne {M : Mem} {c n d : Nat} {v : Int} (h : d ≠ c) : fil M c n v d = M d := by simp [fil, h]
theorem fil_at (M : Mem) (c n : Nat) (v : Int) : fil M c n v c = fun j => if j < n then v else M c j := by simp [fil]
theorem MR_fil {M : Mem} {c n : Nat} {v : Int} (h : MR M) (hv : inR v) : MR (fil M c n v) := by
  intro d j
  by_cases hd : d = c
  · subst hd
    rw [fil_at]
    by_cases hj : j < n
    · simp [hj]; exact hv
    · simp [hj]; exact h d j
  · rw [fil_ne hd]; exact h d j
/-- n places of the cell a from x on go to the cell c from y on -/
def cpy (M : Mem) (a x c y n : Nat) : Mem := fun d => if d = c then (fun j => if y ≤ j ∧ j < y + n then M a (x + (j - y)) else M c j) else M d
theorem cpy_ne {M : Mem} {a x c y n d : Nat} (h : d ≠ c) : cpy M a x c y n d = M d := by simp [cpy, h]
theorem cpy_at (M : Mem) (a x c y n : Nat) : cpy M a x c y n c = fun j => if y ≤ j ∧ j < y + n then M a (x + (j - y)) else M c j := by simp [cpy]
theorem MR_cpy {M : Mem} {a x c y n : Nat} (h : MR M) : MR (cpy M a x c y n) := by
  intro d j
  by_cases hd : d = c
  · subst hd
    rw [cpy_at]
    by_cases hj : y ≤ j ∧ j < y + n
    · simp [hj]; exact h a _
    · simp [hj]; exact h d j
  · rw [cpy_ne hd]; exact h d j
/-- what is left of a whole number in 32 bits -/
def nz (x : Int) : Int := (Int32.ofInt x).toInt
theorem nz_in (x : Int) : inR (nz x) := ⟨by have := Int32.le_toInt (Int32.ofInt x); unfold nz; omega, by have := Int32.toInt_lt (Int32.ofInt x); unfold nz; omega⟩
theorem to32 {x : Int} (h : inR x) : (Int32.ofInt x).toInt = x := Int32.toInt_ofInt_of_le (by have := h.1; omega) (by have := h.2; omega)
theorem nz_eq {x : Int} (h : inR x) : nz x = x := to32 h
theorem to64 {x : Int} (h : inL x) : (Int64.ofInt x).toInt = x := Int64.toInt_ofInt_of_le (by have := h.1; omega) (by have := h.2; omega)
theorem inL_of {x : Int} (h : inR x) : inL x := ⟨by have := h.1; omega, by have := h.2; omega⟩
theorem clamp32 {x : Int} {n : Nat} (h0 : 0 ≤ x) (h1 : x < n) (hn : n ≤ 70000) : (Int32.ofInt x).toNatClampNeg = x.toNat := Int32.toNatClampNeg_ofInt_of_le (by omega) (by omega)
theorem vin32 {x : Int} {n : Nat} (h0 : 0 ≤ x) (h1 : x < n) (hn : n ≤ 70000) : vp_in (Int32.ofInt x) n := by
  rw [vp_in_iff, to32 ⟨by omega, by omega⟩]
  exact ⟨h0, h1⟩
/-! bits, as whole numbers -/
def bAnd (a b : Int) : Int := (Int32.ofInt a &&& Int32.ofInt b).toInt
def bOr (a b : Int) : Int := (Int32.ofInt a ||| Int32.ofInt b).toInt
def bXor (a b : Int) : Int := (Int32.ofInt a ^^^ Int32.ofInt b).toInt
def bShl (a b : Int) : Int := (Int32.ofInt a <<< (Int32.ofInt b &&& 31)).toInt
def bShr (a b : Int) : Int := (Int32.ofInt a >>> (Int32.ofInt b &&& 31)).toInt
def bUsh (a b : Int) : Int := ((Int32.ofInt a).toUInt32 >>> ((Int32.ofInt b).toUInt32 &&& Int32.toUInt32 31)).toInt32.toInt
def bByte (a : Int) : Int := ((Int32.ofInt a).toInt8.toInt32).toInt
theorem in_32 (x : Int32) : inR x.toInt := ⟨by have := Int32.le_toInt x; omega, by have := Int32.toInt_lt x; omega⟩
theorem bAnd_in (a b : Int) : inR (bAnd a b) := in_32 _
theorem bOr_in (a b : Int) : inR (bOr a b) := in_32 _
theorem bXor_in (a b : Int) : inR (bXor a b) := in_32 _
theorem bShl_in (a b : Int) : inR (bShl a b) := in_32 _
theorem bShr_in (a b : Int) : inR (bShr a b) := in_32 _
theorem bUsh_in (a b : Int) : inR (bUsh a b) := in_32 _
theorem bByte_in (a : Int) : inR (bByte a) := in_32 _
theorem tdiv_in {a b : Int} (ha : inR a) (hb : 0 < b) : inR (a.tdiv b) := by
  obtain ⟨h1, h2⟩ := ha
  rcases Int.le_total 0 a with h | h
  · have e1 : 0 ≤ a.tdiv b := Int.tdiv_nonneg h (by omega)
    have e2 : a.tdiv b ≤ a := Int.tdiv_le_self _ h
    exact ⟨by omega, by omega⟩
  · have e : a.tdiv b = - ((-a).tdiv b) := by rw [Int.neg_tdiv]; omega
    have e1 : 0 ≤ (-a).tdiv b := Int.tdiv_nonneg (by omega) (by omega)
    have e2 : (-a).tdiv b ≤ -a := Int.tdiv_le_self _ (by omega)
    exact ⟨by omega, by omega⟩
theorem emod_le_a {a b : Int} (h : 0 ≤ a) (hb : 0 < b) : a % b ≤ a := by
  rcases Int.lt_or_le a b with q | q
  · rw [Int.emod_eq_of_lt h q]; exact Int.le_refl _
  · have := Int.emod_lt_of_pos a hb; omega
theorem tmod_in {a b : Int} (ha : inR a) (hb : 0 < b) : inR (a.tmod b) := by
  obtain ⟨h1, h2⟩ := ha
  rcases Int.le_total 0 a with h | h
  · have e1 : 0 ≤ a.tmod b := Int.tmod_nonneg _ h
    have e2 : a.tmod b ≤ a := by rw [Int.tmod_eq_emod_of_nonneg h]; exact emod_le_a h hb
    exact ⟨by omega, by omega⟩
  · have e : a.tmod b = - ((-a).tmod b) := by rw [Int.neg_tmod]; omega
    have e1 : 0 ≤ (-a).tmod b := Int.tmod_nonneg _ (by omega)
    have e2 : (-a).tmod b ≤ -a := by rw [Int.tmod_eq_emod_of_nonneg (by omega)]; exact emod_le_a (by omega) hb
    exact ⟨by omega, by omega⟩
theorem max_in {a b : Int} (ha : inR a) (hb : inR b) : inR (max a b) := by unfold inR at *; omega
theorem min_in {a b : Int} (ha : inR a) (hb : inR b) : inR (min a b) := by unfold inR at *; omega
/-- how longs compare -/
def cmpI (a b : Int) : Int := if b < a then 1 else if a = b then 0 else -1
theorem cmpI_in (a b : Int) : inR (cmpI a b) := by unfold cmpI; split <;> (try split) <;> exact ⟨by omega, by omega⟩
/-! the shapes of the cells: an array is (kind, length), kinds 0 int, 1 byte, 2 char, 3 boolean, 4 long, 5 references to Stems; an object is (its class's number, its fields): .inl k a reference to the cell k, .inr 0 an int or boolean, .inr 1 a long -/
abbrev Sh : Type := (Nat × Nat) ⊕ (Nat × List (Nat ⊕ Nat))
def shL : List Sh := [
  .inr (11, [.inl 1, .inl 3, .inl 12, .inl 18, .inl 19, .inr 0, .inl 20, .inl 36, .inl 58, .inl 60, .inl 63, .inl 66, .inl 68, .inl 72, .inl 78, .inl 94, .inr 0]),
  .inr (10, [.inl 2, .inr 0]),
  .inl (1, 1600),
  .inr (6, [.inl 4, .inl 10, .inl 11, .inr 0, .inr 0, .inr 0, .inl 1, .inr 0]),
  .inr (5, [.inr 0, .inr 0, .inl 5, .inl 6, .inl 7, .inl 8, .inl 9]),
  .inl (0, 30),
  .inl (0, 30),
  .inl (0, 30),
  .inl (0, 30),
  .inl (0, 30),
  .inl (0, 20),
  .inl (0, 10),
  .inr (5, [.inr 0, .inr 0, .inl 13, .inl 14, .inl 15, .inl 16, .inl 17]),
  .inl (0, 30),
  .inl (0, 30),
  .inl (0, 30),
  .inl (0, 30),
  .inl (0, 30),
  .inl (0, 20),
  .inl (0, 10),
  .inr (1, [.inl 21, .inl 22, .inl 23, .inl 24, .inl 25, .inl 26, .inl 27, .inl 28, .inl 29, .inl 30, .inl 31, .inr 0, .inr 0]),
  .inl (0, 20),
  .inl (0, 30),
  .inl (0, 20),
  .inl (0, 20),
  .inl (0, 20),
  .inl (0, 20),
  .inl (0, 20),
  .inl (0, 20),
  .inl (0, 30),
  .inl (0, 30),
  .inr (2, [.inl 32, .inl 33, .inl 34, .inl 35]),
  .inl (0, 30),
  .inl (0, 20),
  .inl (0, 20),
  .inl (0, 20),
  .inl (5, 3),
  .inr (9, [.inl 38, .inl 39, .inl 40, .inl 41, .inl 42, .inl 43]),
  .inl (0, 20),
  .inl (0, 20),
  .inl (0, 30),
  .inl (0, 30),
  .inl (0, 30),
  .inl (0, 30),
  .inr (9, [.inl 45, .inl 46, .inl 47, .inl 48, .inl 49, .inl 50]),
  .inl (0, 20),
  .inl (0, 20),
  .inl (0, 30),
  .inl (0, 30),
  .inl (0, 30),
  .inl (0, 30),
  .inr (9, [.inl 52, .inl 53, .inl 54, .inl 55, .inl 56, .inl 57]),
  .inl (0, 20),
  .inl (0, 20),
  .inl (0, 30),
  .inl (0, 30),
  .inl (0, 30),
  .inl (0, 30),
  .inr (3, [.inr 0, .inr 0, .inl 59]),
  .inl (0, 640),
  .inr (0, [.inr 0, .inr 0, .inl 61, .inl 62]),
  .inl (0, 4),
  .inl (0, 120),
  .inr (8, [.inr 0, .inl 64, .inl 65]),
  .inl (0, 12),
  .inl (0, 12),
  .inr (4, [.inr 0, .inl 67]),
  .inl (0, 153),
  .inr (7, [.inl 69, .inl 70, .inl 71, .inr 0]),
  .inl (0, 20),
  .inl (0, 30),
  .inl (0, 20),
  .inr (5, [.inr 0, .inr 0, .inl 73, .inl 74, .inl 75, .inl 76, .inl 77]),
  .inl (0, 30),
  .inl (0, 30),
  .inl (0, 30),
  .inl (0, 30),
  .inl (0, 30),
  .inr (1, [.inl 79, .inl 80, .inl 81, .inl 82, .inl 83, .inl 84, .inl 85, .inl 86, .inl 87, .inl 88, .inl 89, .inr 0, .inr 0]),
  .inl (0, 20),
  .inl (0, 30),
  .inl (0, 20),
  .inl (0, 20),
  .inl (0, 20),
  .inl (0, 20),
  .inl (0, 20),
  .inl (0, 20),
  .inl (0, 30),
  .inl (0, 30),
  .inr (2, [.inl 90, .inl 91, .inl 92, .inl 93]),
  .inl (0, 30),
  .inl (0, 20),
  .inl (0, 20),
  .inl (0, 20),
  .inl (0, 6),
  .inr (12, [.inl 96, .inr 0, .inr 0, .inr 0, .inr 0, .inr 0, .inr 0, .inr 0, .inr 0, .inl 97, .inl 98, .inr 0, .inl 99, .inl 100, .inr 0, .inr 0, .inl 101, .inl 102, .inl 103, .inl 104, .inl 105, .inl 106, .inl 107, .inl 108, .inl 109, .inl 110, .inl 111, .inl 112, .inl 113, .inl 114, .inl 115, .inl 116, .inl 117, .inl 118, .inl 119, .inl 120, .inl 121, .inl 122, .inr 0, .inl 123, .inl 124, .inr 0, .inr 0, .inr 0, .inr 0, .inl 125, .inr 1, .inl 126, .inr 0]),
  .inl (0, 1600),
  .inl (0, 6),
  .inl (2, 35),
  .inl (0, 183),
  .inl (0, 183),
  .inl (0, 20),
  .inl (0, 20),
  .inl (0, 20),
  .inl (0, 20),
  .inl (0, 20),
  .inl (0, 20),
  .inl (0, 30),
  .inl (0, 20),
  .inl (0, 20),
  .inl (0, 30),
  .inl (0, 30),
  .inl (0, 90),
  .inl (0, 90),
  .inl (0, 90),
  .inl (0, 90),
  .inl (4, 20),
  .inl (0, 20),
  .inl (0, 30),
  .inl (0, 183),
  .inl (0, 30),
  .inl (3, 30),
  .inl (0, 20),
  .inl (0, 24),
  .inl (0, 3660),
  .inl (0, 120),
  .inl (0, 153)]
def shp (i : Nat) : Sh := shL.getD i (.inl (9, 0))
theorem shL_len : shL.length = 127 := by decide +kernel
theorem shp_lt {i : Nat} (h : shp i ≠ .inl (9, 0)) : i < 127 := by
  rcases Nat.lt_or_ge i 127 with q | q
  · exact q
  · exact absurd (by unfold shp; rw [List.getD_eq_getElem?_getD, List.getElem?_eq_none (by rw [shL_len]; exact q)]; rfl) h
theorem shp_ltA {i k n : Nat} (h : shp i = .inl (k, n)) (hk : k ≠ 9) : i < 127 := shp_lt (by rw [h]; intro q; injection q with q; injection q with q1 q2; exact hk q1)
theorem shp_ltO {i c : Nat} {fs : List (Nat ⊕ Nat)} (h : shp i = .inr (c, fs)) : i < 127 := shp_lt (by rw [h]; intro q; cases q)
def fv (B : Nat) (f : Nat → Int) (j : Nat) (t : Nat ⊕ Nat) : Value := match t with
  | .inl k => .ref (B + k)
  | .inr 0 => .int (Int32.ofInt (f j))
  | .inr _ => .long (Int64.ofInt (f j))
def fvs (B : Nat) (f : Nat → Int) : Nat → List (Nat ⊕ Nat) → List Value
  | _, [] => []
  | j, t :: ts => fv B f j t :: fvs B f (j + 1) ts
theorem fvs_at (B : Nat) (f : Nat → Int) : ∀ (ts : List (Nat ⊕ Nat)) (j k : Nat), (fvs B f j ts)[k]? = (ts[k]?).map (fv B f (j + k))
  | [], _, _ => by simp [fvs]
  | t :: ts, j, 0 => by simp [fvs]
  | t :: ts, j, k + 1 => by
    have h := fvs_at B f ts (j + 1) k
    simp only [fvs, List.getElem?_cons_succ]
    rw [h, show j + 1 + k = j + (k + 1) by omega]
theorem fvs_len (B : Nat) (f : Nat → Int) : ∀ (ts : List (Nat ⊕ Nat)) (j : Nat), (fvs B f j ts).length = ts.length
  | [], _ => rfl
  | t :: ts, j => by simp [fvs, fvs_len B f ts (j + 1)]
theorem fv_ne {B : Nat} {f : Nat → Int} {k j : Nat} {v : Int} (h : j ≠ k) (t : Nat ⊕ Nat) : fv B (fun q => if q = k then v else f q) j t = fv B f j t := by
  rcases t with t | t
  · rfl
  · cases t <;> simp [fv, h]
theorem fvs_set {B : Nat} {f : Nat → Int} {ts : List (Nat ⊕ Nat)} {k : Nat} {t : Nat ⊕ Nat} {v : Int} (ht : ts[k]? = some t) : (fvs B f 0 ts).set k (fv B (fun q => if q = k then v else f q) k t) = fvs B (fun q => if q = k then v else f q) 0 ts := by
  apply List.ext_getElem?
  intro q
  rw [List.getElem?_set, fvs_at, fvs_at, fvs_len]
  by_cases hq : k = q
  · subst hq
    have hl := (List.getElem?_eq_some_iff.mp ht).1
    simp only [if_true, hl, ht, Option.map_some, Nat.zero_add]
  · simp only [hq, if_false, Nat.zero_add]
    cases ts[q]? with
    | none => rfl
    | some u => simp only [Option.map_some]; rw [fv_ne (Ne.symm hq)]
def arC (B : Nat) (f : Nat → Int) (k : Nat) : (Nat → Int32) ⊕ (Nat → Int64) ⊕ (Nat → UInt32) ⊕ (Nat → UInt64) ⊕ (Nat → Option Nat) :=
  if k = 4 then .inr (.inl (fun j => Int64.ofInt (f j))) else if k = 5 then .inr (.inr (.inr (.inr (fun j => some (B + (37 + 7 * j)))))) else .inl (fun j => Int32.ofInt (f j))
def cellE (B : Nat) (K : Nat → ClassId) (f : Nat → Int) (t : Sh) : va_E := match t with
  | .inl (k, n) => .inl (K k, n, arC B f k)
  | .inr (c, ts) => .inr (c, fvs B f 0 ts)
def wsM (B : Nat) (K : Nat → ClassId) (M : Mem) : va_W := (List.range 127).map (fun i => (B + i, cellE B K (M i) (shp i)))
def AA (B : Nat) : Nat → Prop := fun q => B ≤ q ∧ q < B + 127
theorem wsM_at {B : Nat} {K : Nat → ClassId} {M : Mem} {i : Nat} (h : i < 127) : (wsM B K M)[i]? = some (B + i, cellE B K (M i) (shp i)) := by
  unfold wsM
  rw [List.getElem?_map, List.getElem?_range h]
  rfl
theorem wsM_len (B : Nat) (K : Nat → ClassId) (M : Mem) : (wsM B K M).length = 127 := by simp [wsM]
theorem wsM_of {B : Nat} {K : Nat → ClassId} {M : Mem} {k : Nat} {q : Nat × va_E} (h : (wsM B K M)[k]? = some q) : k < 127 ∧ q.1 = B + k := by
  have hk : k < 127 := by rw [← wsM_len B K M]; exact (List.getElem?_eq_some_iff.mp h).1
  rw [wsM_at hk] at h
  exact ⟨hk, by rw [← Option.some.inj h]⟩
theorem wsM_D (B : Nat) (K : Nat → ClassId) (M : Mem) : va_D (AA B) (wsM B K M) := by
  refine ⟨fun i j p q hi hj e => ?_, fun k q hk => ?_⟩
  · have h1 := wsM_of hi
    have h2 := wsM_of hj
    omega
  · have h1 := wsM_of hk
    exact ⟨by omega, by omega⟩
theorem wsM_set {B : Nat} {K : Nat → ClassId} {M M' : Mem} {i : Nat} (hi : i < 127) (hM : ∀ d, d ≠ i → M' d = M d) : (wsM B K M).set i (B + i, cellE B K (M' i) (shp i)) = wsM B K M' := by
  apply List.ext_getElem?
  intro k
  rw [List.getElem?_set, wsM_len]
  by_cases hk : i = k
  · subst hk
    simp only [if_true, hi, wsM_at hi]
  · simp only [hk, if_false]
    rcases Nat.lt_or_ge k 127 with q | q
    · rw [wsM_at q, wsM_at q, hM k (Ne.symm hk)]
    · rw [List.getElem?_eq_none (by rw [wsM_len]; exact q), List.getElem?_eq_none (by rw [wsM_len]; exact q)]
theorem cellE_i {B : Nat} {K : Nat → ClassId} {f : Nat → Int} {i k n : Nat} (hs : shp i = .inl (k, n)) (hk : k < 4) : cellE B K f (shp i) = .inl (K k, n, .inl (fun j => Int32.ofInt (f j))) := by
  rw [hs]
  simp only [cellE, arC]
  rw [if_neg (by omega), if_neg (by omega)]
theorem cellE_l {B : Nat} {K : Nat → ClassId} {f : Nat → Int} {i n : Nat} (hs : shp i = .inl (4, n)) : cellE B K f (shp i) = .inl (K 4, n, .inr (.inl (fun j => Int64.ofInt (f j)))) := by
  rw [hs]; rfl
theorem cellE_q {B : Nat} {K : Nat → ClassId} {f : Nat → Int} {i n : Nat} (hs : shp i = .inl (5, n)) : cellE B K f (shp i) = .inl (K 5, n, .inr (.inr (.inr (.inr (fun j => some (B + (37 + 7 * j))))))) := by
  rw [hs]; rfl
theorem cellE_o {B : Nat} {K : Nat → ClassId} {f : Nat → Int} {i c : Nat} {fs : List (Nat ⊕ Nat)} (hs : shp i = .inr (c, fs)) : cellE B K f (shp i) = .inr (c, fvs B f 0 fs) := by
  rw [hs]; rfl
def tyM (K : Nat → ClassId) : List (ClassId × FieldType) := [(K 0, .int), (K 1, .byte), (K 2, .char), (K 3, .boolean), (K 4, .long), (K 5, .object "RiverRanks$Stems")]
abbrev J (x : Int) : Value := .int (Int32.ofInt x)
abbrev JL (x : Int) : Value := .long (Int64.ofInt x)
theorem J_toInt (x : Int32) : J x.toInt = .int x := by show Value.int (Int32.ofInt x.toInt) = _; rw [Int32.ofInt_toInt]
theorem J_nz (x : Int) : J (nz x) = J x := by show Value.int (Int32.ofInt (Int32.ofInt x).toInt) = _; rw [Int32.ofInt_toInt]
def Cx (p : Program) (s : State) (m : MethodId) (args : Array Value) (meth : Method) (c : Code) (D : va_G) (K : Nat → ClassId) (cc : ByteArray) (nL : Nat) (own : String) (ret : Option FieldType) : Prop :=
  p.tables.exec = Jvm.exec ∧ c.code = cc ∧ c.maxLocals = nL ∧ s.vm.findClass own = some m.cls ∧ (∀ w ∈ TW, w.before args s = true) ∧ va_K D vwCl (tyM K) s ∧ meth.sig.returnType = ret ∧ meth.locks = false
def G (p : Program) (l : Launch) (e : Env) (R : Room) (s : State) (m : MethodId) (args : Array Value) (below : List Frame) (meth : Method) (c : Code) (B : Nat) (D : va_G) (K : Nat → ClassId) (nL nc ns : Nat) (Z : State → Prop) (M : Mem) (pc : Nat) (lv : List (Nat × Value)) (sk : List Value) : Prop :=
  ∀ (H : Heap) (locs : List Loc) (ls : Array Slot), va_P D vwCl (wsM B K M) H → va_S (AA B) s.heap H locs → lv_has ls nL lv → W p l e R s m args below meth c H locs nc ns Z (F0 m pc ls sk)
section
variable {p : Program} {l : Launch} {e : Env} {R : Room} {s : State} {m : MethodId} {args : Array Value} {below : List Frame} {meth : Method} {c : Code} {B : Nat} {D : va_G} {K : Nat → ClassId} {cc : ByteArray} {nL nc ns : Nat} {own : String} {ret : Option FieldType} {Z : State → Prop} {M : Mem} {pc : Nat} {lv : List (Nat × Value)} {sk : List Value}
theorem g_nz {x : Int} (kk : G p l e R s m args below meth c B D K nL nc ns Z M pc lv (J (nz x) :: sk)) : G p l e R s m args below meth c B D K nL nc ns Z M pc lv (J x :: sk) := by rw [J_nz] at kk; exact kk
theorem g_iconst (h : Cx p s m args meth c D K cc nL own ret) {n : Int} (d : decode cc pc = .ok (.iconst n, 1)) (kk : G p l e R s m args below meth c B D K nL nc ns Z M (pc + 1) lv (J n :: sk)) : G p l e R s m args below meth c B D K nL nc ns Z M pc lv sk :=
  fun H locs ls hP hS hv => lv_iconst h.1 h.2.1 d rfl (kk H locs ls hP hS hv)
theorem g_bipush (h : Cx p s m args meth c D K cc nL own ret) {n : Int} (d : decode cc pc = .ok (.bipush n, 2)) (hn : (Int8.ofInt n).toInt32 = Int32.ofInt n) (kk : G p l e R s m args below meth c B D K nL nc ns Z M (pc + 2) lv (J n :: sk)) : G p l e R s m args below meth c B D K nL nc ns Z M pc lv sk :=
  fun H locs ls hP hS hv => lv_bipush h.1 h.2.1 d hn (kk H locs ls hP hS hv)
theorem g_sipush (h : Cx p s m args meth c D K cc nL own ret) {n : Int} (d : decode cc pc = .ok (.sipush n, 3)) (hn : (Int16.ofInt n).toInt32 = Int32.ofInt n) (kk : G p l e R s m args below meth c B D K nL nc ns Z M (pc + 3) lv (J n :: sk)) : G p l e R s m args below meth c B D K nL nc ns Z M pc lv sk :=
  fun H locs ls hP hS hv => lv_sipush h.1 h.2.1 d hn (kk H locs ls hP hS hv)
theorem g_ldc (h : Cx p s m args meth c D K cc nL own ret) {i : Nat} {n : Int} {v : Int32} (hw : Cond.constant own i v ∈ TW) (hn : v = Int32.ofInt n) (d : decode cc pc = .ok (.ldc i, 2)) (kk : G p l e R s m args below meth c B D K nL nc ns Z M (pc + 2) lv (J n :: sk)) : G p l e R s m args below meth c B D K nL nc ns Z M pc lv sk := by
  subst hn
  exact fun H locs ls hP hS hv => lv_ldc h.1 h.2.1 h.2.2.2.1 (h.2.2.2.2.1 _ hw) d (kk H locs ls hP hS hv)
theorem g_ldcw (h : Cx p s m args meth c D K cc nL own ret) {i : Nat} {n : Int} {v : Int32} (hw : Cond.constant own i v ∈ TW) (hn : v = Int32.ofInt n) (d : decode cc pc = .ok (.ldc_w i, 3)) (kk : G p l e R s m args below meth c B D K nL nc ns Z M (pc + 3) lv (J n :: sk)) : G p l e R s m args below meth c B D K nL nc ns Z M pc lv sk := by
  subst hn
  exact fun H locs ls hP hS hv => lv_ldcw h.1 h.2.1 h.2.2.2.1 (h.2.2.2.2.1 _ hw) d (kk H locs ls hP hS hv)
theorem g_ldc2 (h : Cx p s m args meth c D K cc nL own ret) {i : Nat} {n : Int} {v : Int64} (hw : Cond.constantLong own i v ∈ TW) (hn : v = Int64.ofInt n) (d : decode cc pc = .ok (.ldc2_w i, 3)) (kk : G p l e R s m args below meth c B D K nL nc ns Z M (pc + 3) lv (JL n :: sk)) : G p l e R s m args below meth c B D K nL nc ns Z M pc lv sk := by
  subst hn
  exact fun H locs ls hP hS hv => lv_ldc2 h.1 h.2.1 h.2.2.2.1 (h.2.2.2.2.1 _ hw) d (kk H locs ls hP hS hv)
theorem g_lconst (h : Cx p s m args meth c D K cc nL own ret) {k : Fin 2} {n : Int} (d : decode cc pc = .ok (.lconst k, 1)) (hn : Int64.ofNat (k : Nat) = Int64.ofInt n) (kk : G p l e R s m args below meth c B D K nL nc ns Z M (pc + 1) lv (JL n :: sk)) : G p l e R s m args below meth c B D K nL nc ns Z M pc lv sk :=
  fun H locs ls hP hS hv => lv_lconst h.1 h.2.1 d hn (kk H locs ls hP hS hv)
theorem g_iload_n (h : Cx p s m args meth c D K cc nL own ret) {k : Fin 4} {x : Int} {i : Nat} (j : Nat) (d : decode cc pc = .ok (.iload_n k, 1)) (hi : (k : Nat) = i) (hl : lv[j]? = some (i, J x)) (kk : G p l e R s m args below meth c B D K nL nc ns Z M (pc + 1) lv (J x :: sk)) : G p l e R s m args below meth c B D K nL nc ns Z M pc lv sk :=
  fun H locs ls hP hS hv => lv_iload_n h.1 h.2.1 d hi (lv_at hv j hl) (kk H locs ls hP hS hv)
theorem g_iload (h : Cx p s m args meth c D K cc nL own ret) {x : Int} {i : Nat} (j : Nat) (d : decode cc pc = .ok (.iload i, 2)) (hl : lv[j]? = some (i, J x)) (kk : G p l e R s m args below meth c B D K nL nc ns Z M (pc + 2) lv (J x :: sk)) : G p l e R s m args below meth c B D K nL nc ns Z M pc lv sk :=
  fun H locs ls hP hS hv => lv_iload h.1 h.2.1 d (lv_at hv j hl) (kk H locs ls hP hS hv)
theorem g_lload_n (h : Cx p s m args meth c D K cc nL own ret) {k : Fin 4} {x : Int} {i : Nat} (j : Nat) (d : decode cc pc = .ok (.lload_n k, 1)) (hi : (k : Nat) = i) (hl : lv[j]? = some (i, JL x)) (kk : G p l e R s m args below meth c B D K nL nc ns Z M (pc + 1) lv (JL x :: sk)) : G p l e R s m args below meth c B D K nL nc ns Z M pc lv sk :=
  fun H locs ls hP hS hv => lv_lload_n h.1 h.2.1 d hi (lv_at hv j hl) (kk H locs ls hP hS hv)
theorem g_lload (h : Cx p s m args meth c D K cc nL own ret) {x : Int} {i : Nat} (j : Nat) (d : decode cc pc = .ok (.lload i, 2)) (hl : lv[j]? = some (i, JL x)) (kk : G p l e R s m args below meth c B D K nL nc ns Z M (pc + 2) lv (JL x :: sk)) : G p l e R s m args below meth c B D K nL nc ns Z M pc lv sk :=
  fun H locs ls hP hS hv => lv_lload h.1 h.2.1 d (lv_at hv j hl) (kk H locs ls hP hS hv)
theorem g_aload_n (h : Cx p s m args meth c D K cc nL own ret) {k : Fin 4} {x : Nat} {i : Nat} (j : Nat) (d : decode cc pc = .ok (.aload_n k, 1)) (hi : (k : Nat) = i) (hl : lv[j]? = some (i, .ref x)) (kk : G p l e R s m args below meth c B D K nL nc ns Z M (pc + 1) lv (.ref x :: sk)) : G p l e R s m args below meth c B D K nL nc ns Z M pc lv sk :=
  fun H locs ls hP hS hv => lv_aload_n h.1 h.2.1 d hi (lv_at hv j hl) (kk H locs ls hP hS hv)
theorem g_aload (h : Cx p s m args meth c D K cc nL own ret) {x : Nat} {i : Nat} (j : Nat) (d : decode cc pc = .ok (.aload i, 2)) (hl : lv[j]? = some (i, .ref x)) (kk : G p l e R s m args below meth c B D K nL nc ns Z M (pc + 2) lv (.ref x :: sk)) : G p l e R s m args below meth c B D K nL nc ns Z M pc lv sk :=
  fun H locs ls hP hS hv => lv_aload h.1 h.2.1 d (lv_at hv j hl) (kk H locs ls hP hS hv)
theorem g_istore_n (h : Cx p s m args meth c D K cc nL own ret) {k : Fin 4} {x : Int} {i : Nat} (lv' : List (Nat × Value)) (d : decode cc pc = .ok (.istore_n k, 1)) (hi : (k : Nat) = i) (hn : i < nL) (hl : (i, J x) :: lv.filter (fun q => !(q.1 == i) && !(q.1 + 1 == i && q.2.category == 2)) = lv') (kk : G p l e R s m args below meth c B D K nL nc ns Z M (pc + 1) lv' sk) : G p l e R s m args below meth c B D K nL nc ns Z M pc lv (J x :: sk) :=
  fun H locs ls hP hS hv => lv_istore_n h.1 h.2.1 d hi hv hn hl (fun ls' hv' => kk H locs ls' hP hS hv')
theorem g_istore (h : Cx p s m args meth c D K cc nL own ret) {x : Int} {i : Nat} (lv' : List (Nat × Value)) (d : decode cc pc = .ok (.istore i, 2)) (hn : i < nL) (hl : (i, J x) :: lv.filter (fun q => !(q.1 == i) && !(q.1 + 1 == i && q.2.category == 2)) = lv') (kk : G p l e R s m args below meth c B D K nL nc ns Z M (pc + 2) lv' sk) : G p l e R s m args below meth c B D K nL nc ns Z M pc lv (J x :: sk) :=
  fun H locs ls hP hS hv => lv_istore h.1 h.2.1 d hv hn hl (fun ls' hv' => kk H locs ls' hP hS hv')
theorem g_lstore (h : Cx p s m args meth c D K cc nL own ret) {x : Int} {i : Nat} (lv' : List (Nat × Value)) (d : decode cc pc = .ok (.lstore i, 2)) (hn : i + 1 < nL) (hl : (i, JL x) :: lv.filter (fun q => !(q.1 == i) && (!(q.1 == i + 1) && !(q.1 + 1 == i && q.2.category == 2))) = lv') (kk : G p l e R s m args below meth c B D K nL nc ns Z M (pc + 2) lv' sk) : G p l e R s m args below meth c B D K nL nc ns Z M pc lv (JL x :: sk) :=
  fun H locs ls hP hS hv => lv_lstore h.1 h.2.1 d hv hn hl (fun ls' hv' => kk H locs ls' hP hS hv')
theorem g_astore_n (h : Cx p s m args meth c D K cc nL own ret) {k : Fin 4} {x : Nat} {i : Nat} (lv' : List (Nat × Value)) (d : decode cc pc = .ok (.astore_n k, 1)) (hi : (k : Nat) = i) (hn : i < nL) (hl : (i, Value.ref x) :: lv.filter (fun q => !(q.1 == i) && !(q.1 + 1 == i && q.2.category == 2)) = lv') (kk : G p l e R s m args below meth c B D K nL nc ns Z M (pc + 1) lv' sk) : G p l e R s m args below meth c B D K nL nc ns Z M pc lv (.ref x :: sk) :=
  fun H locs ls hP hS hv => lv_astore_n h.1 h.2.1 d hi hv hn hl (fun ls' hv' => kk H locs ls' hP hS hv')
theorem g_astore (h : Cx p s m args meth c D K cc nL own ret) {x : Nat} {i : Nat} (lv' : List (Nat × Value)) (d : decode cc pc = .ok (.astore i, 2)) (hn : i < nL) (hl : (i, Value.ref x) :: lv.filter (fun q => !(q.1 == i) && !(q.1 + 1 == i && q.2.category == 2)) = lv') (kk : G p l e R s m args below meth c B D K nL nc ns Z M (pc + 2) lv' sk) : G p l e R s m args below meth c B D K nL nc ns Z M pc lv (.ref x :: sk) :=
  fun H locs ls hP hS hv => lv_astore h.1 h.2.1 d hv hn hl (fun ls' hv' => kk H locs ls' hP hS hv')
theorem g_iinc (h : Cx p s m args meth c D K cc nL own ret) {x n : Int} {i : Nat} (j : Nat) (lv' : List (Nat × Value)) (d : decode cc pc = .ok (.iinc i n, 3)) (hj : lv[j]? = some (i, J x)) (hn : i < nL) (hl : (i, J (x + n)) :: lv.filter (fun q => !(q.1 == i) && !(q.1 + 1 == i && q.2.category == 2)) = lv') (kk : G p l e R s m args below meth c B D K nL nc ns Z M (pc + 3) lv' sk) : G p l e R s m args below meth c B D K nL nc ns Z M pc lv sk :=
  fun H locs ls hP hS hv => lv_iinc h.1 h.2.1 d hv hj (Int32.ofInt_add x n).symm hn hl (fun ls' hv' => kk H locs ls' hP hS hv')
theorem g_iadd (h : Cx p s m args meth c D K cc nL own ret) {a b : Int} (d : decode cc pc = .ok (.iadd, 1)) (kk : G p l e R s m args below meth c B D K nL nc ns Z M (pc + 1) lv (J (a + b) :: sk)) : G p l e R s m args below meth c B D K nL nc ns Z M pc lv (J b :: J a :: sk) :=
  fun H locs ls hP hS hv => lv_iadd h.1 h.2.1 d (by rw [← Int32.ofInt_add]; exact kk H locs ls hP hS hv)
theorem g_isub (h : Cx p s m args meth c D K cc nL own ret) {a b : Int} (d : decode cc pc = .ok (.isub, 1)) (kk : G p l e R s m args below meth c B D K nL nc ns Z M (pc + 1) lv (J (a - b) :: sk)) : G p l e R s m args below meth c B D K nL nc ns Z M pc lv (J b :: J a :: sk) :=
  fun H locs ls hP hS hv => lv_isub h.1 h.2.1 d (by rw [← Int32.ofInt_sub]; exact kk H locs ls hP hS hv)
theorem g_imul (h : Cx p s m args meth c D K cc nL own ret) {a b : Int} (d : decode cc pc = .ok (.imul, 1)) (kk : G p l e R s m args below meth c B D K nL nc ns Z M (pc + 1) lv (J (a * b) :: sk)) : G p l e R s m args below meth c B D K nL nc ns Z M pc lv (J b :: J a :: sk) :=
  fun H locs ls hP hS hv => lv_imul h.1 h.2.1 d (by rw [← Int32.ofInt_mul]; exact kk H locs ls hP hS hv)
theorem ne0_32 {b : Int} (hb : inR b) (h0 : b ≠ 0) : ¬ Int32.ofInt b = 0 := fun q => h0 (by have := congrArg Int32.toInt q; rw [to32 hb] at this; simpa using this)
theorem g_idiv (h : Cx p s m args meth c D K cc nL own ret) {a b : Int} (ha : inR a) (hb : inR b) (h0 : b ≠ 0) (d : decode cc pc = .ok (.idiv, 1)) (kk : G p l e R s m args below meth c B D K nL nc ns Z M (pc + 1) lv (J (a.tdiv b) :: sk)) : G p l e R s m args below meth c B D K nL nc ns Z M pc lv (J b :: J a :: sk) :=
  fun H locs ls hP hS hv => lv_idiv h.1 h.2.1 d (ne0_32 hb h0) (by rw [← Int32.ofInt_tdiv ha.1 ha.2 hb.1 hb.2]; exact kk H locs ls hP hS hv)
theorem g_irem (h : Cx p s m args meth c D K cc nL own ret) {a b : Int} (ha : inR a) (hb : inR b) (h0 : b ≠ 0) (d : decode cc pc = .ok (.irem, 1)) (kk : G p l e R s m args below meth c B D K nL nc ns Z M (pc + 1) lv (J (a.tmod b) :: sk)) : G p l e R s m args below meth c B D K nL nc ns Z M pc lv (J b :: J a :: sk) :=
  fun H locs ls hP hS hv => lv_irem h.1 h.2.1 d (ne0_32 hb h0) (by
    rw [← Int32.ofInt_tdiv ha.1 ha.2 hb.1 hb.2, ← Int32.ofInt_mul, ← Int32.ofInt_sub, show a - a.tdiv b * b = a.tmod b by rw [Int.tmod_def, Int.mul_comm]]
    exact kk H locs ls hP hS hv)
theorem g_iand (h : Cx p s m args meth c D K cc nL own ret) {a b : Int} (d : decode cc pc = .ok (.iand, 1)) (kk : G p l e R s m args below meth c B D K nL nc ns Z M (pc + 1) lv (J (bAnd a b) :: sk)) : G p l e R s m args below meth c B D K nL nc ns Z M pc lv (J b :: J a :: sk) :=
  fun H locs ls hP hS hv => lv_iand h.1 h.2.1 d (by have := kk H locs ls hP hS hv; unfold bAnd at this; rw [J_toInt] at this; exact this)
theorem g_ior (h : Cx p s m args meth c D K cc nL own ret) {a b : Int} (d : decode cc pc = .ok (.ior, 1)) (kk : G p l e R s m args below meth c B D K nL nc ns Z M (pc + 1) lv (J (bOr a b) :: sk)) : G p l e R s m args below meth c B D K nL nc ns Z M pc lv (J b :: J a :: sk) :=
  fun H locs ls hP hS hv => lv_ior h.1 h.2.1 d (by have := kk H locs ls hP hS hv; unfold bOr at this; rw [J_toInt] at this; exact this)
theorem g_ixor (h : Cx p s m args meth c D K cc nL own ret) {a b : Int} (d : decode cc pc = .ok (.ixor, 1)) (kk : G p l e R s m args below meth c B D K nL nc ns Z M (pc + 1) lv (J (bXor a b) :: sk)) : G p l e R s m args below meth c B D K nL nc ns Z M pc lv (J b :: J a :: sk) :=
  fun H locs ls hP hS hv => lv_ixor h.1 h.2.1 d (by have := kk H locs ls hP hS hv; unfold bXor at this; rw [J_toInt] at this; exact this)
theorem g_ishl (h : Cx p s m args meth c D K cc nL own ret) {a b : Int} (d : decode cc pc = .ok (.ishl, 1)) (kk : G p l e R s m args below meth c B D K nL nc ns Z M (pc + 1) lv (J (bShl a b) :: sk)) : G p l e R s m args below meth c B D K nL nc ns Z M pc lv (J b :: J a :: sk) :=
  fun H locs ls hP hS hv => lv_ishl h.1 h.2.1 d (by have := kk H locs ls hP hS hv; unfold bShl at this; rw [J_toInt] at this; exact this)
theorem g_ishr (h : Cx p s m args meth c D K cc nL own ret) {a b : Int} (d : decode cc pc = .ok (.ishr, 1)) (kk : G p l e R s m args below meth c B D K nL nc ns Z M (pc + 1) lv (J (bShr a b) :: sk)) : G p l e R s m args below meth c B D K nL nc ns Z M pc lv (J b :: J a :: sk) :=
  fun H locs ls hP hS hv => lv_ishr h.1 h.2.1 d (by have := kk H locs ls hP hS hv; unfold bShr at this; rw [J_toInt] at this; exact this)
theorem g_iushr (h : Cx p s m args meth c D K cc nL own ret) {a b : Int} (d : decode cc pc = .ok (.iushr, 1)) (kk : G p l e R s m args below meth c B D K nL nc ns Z M (pc + 1) lv (J (bUsh a b) :: sk)) : G p l e R s m args below meth c B D K nL nc ns Z M pc lv (J b :: J a :: sk) :=
  fun H locs ls hP hS hv => lv_iushr h.1 h.2.1 d (by unfold bUsh; rw [Int32.ofInt_toInt]) (kk H locs ls hP hS hv)
theorem g_i2b (h : Cx p s m args meth c D K cc nL own ret) {a : Int} (d : decode cc pc = .ok (.i2b, 1)) (kk : G p l e R s m args below meth c B D K nL nc ns Z M (pc + 1) lv (J (bByte a) :: sk)) : G p l e R s m args below meth c B D K nL nc ns Z M pc lv (J a :: sk) :=
  fun H locs ls hP hS hv => lv_i2b h.1 h.2.1 d (by unfold bByte; rw [Int32.ofInt_toInt]) (kk H locs ls hP hS hv)
theorem g_i2l (h : Cx p s m args meth c D K cc nL own ret) {a : Int} (ha : inR a) (d : decode cc pc = .ok (.i2l, 1)) (kk : G p l e R s m args below meth c B D K nL nc ns Z M (pc + 1) lv (JL a :: sk)) : G p l e R s m args below meth c B D K nL nc ns Z M pc lv (J a :: sk) :=
  fun H locs ls hP hS hv => lv_i2l h.1 h.2.1 d (Int32.toInt64_ofInt ha.1 ha.2) (kk H locs ls hP hS hv)
theorem g_l2i (h : Cx p s m args meth c D K cc nL own ret) {a : Int} (d : decode cc pc = .ok (.l2i, 1)) (kk : G p l e R s m args below meth c B D K nL nc ns Z M (pc + 1) lv (J a :: sk)) : G p l e R s m args below meth c B D K nL nc ns Z M pc lv (JL a :: sk) :=
  fun H locs ls hP hS hv => lv_l2i h.1 h.2.1 d Int64.toInt32_ofInt (kk H locs ls hP hS hv)
theorem g_ladd (h : Cx p s m args meth c D K cc nL own ret) {a b : Int} (d : decode cc pc = .ok (.ladd, 1)) (kk : G p l e R s m args below meth c B D K nL nc ns Z M (pc + 1) lv (JL (a + b) :: sk)) : G p l e R s m args below meth c B D K nL nc ns Z M pc lv (JL b :: JL a :: sk) :=
  fun H locs ls hP hS hv => lv_ladd h.1 h.2.1 d (by rw [← Int64.ofInt_add]; exact kk H locs ls hP hS hv)
theorem g_lmul (h : Cx p s m args meth c D K cc nL own ret) {a b : Int} (d : decode cc pc = .ok (.lmul, 1)) (kk : G p l e R s m args below meth c B D K nL nc ns Z M (pc + 1) lv (JL (a * b) :: sk)) : G p l e R s m args below meth c B D K nL nc ns Z M pc lv (JL b :: JL a :: sk) :=
  fun H locs ls hP hS hv => lv_lmul h.1 h.2.1 d (by rw [← Int64.ofInt_mul]; exact kk H locs ls hP hS hv)
theorem ne0_64 {b : Int} (hb : inL b) (h0 : b ≠ 0) : ¬ Int64.ofInt b = 0 := fun q => h0 (by have := congrArg Int64.toInt q; rw [to64 hb] at this; simpa using this)
theorem g_ldiv (h : Cx p s m args meth c D K cc nL own ret) {a b : Int} (ha : inL a) (hb : inL b) (h0 : b ≠ 0) (d : decode cc pc = .ok (.ldiv, 1)) (kk : G p l e R s m args below meth c B D K nL nc ns Z M (pc + 1) lv (JL (a.tdiv b) :: sk)) : G p l e R s m args below meth c B D K nL nc ns Z M pc lv (JL b :: JL a :: sk) :=
  fun H locs ls hP hS hv => lv_ldiv h.1 h.2.1 d (ne0_64 hb h0) (by rw [← Int64.ofInt_tdiv ha.1 ha.2 hb.1 hb.2]; exact kk H locs ls hP hS hv)
theorem g_lrem (h : Cx p s m args meth c D K cc nL own ret) {a b : Int} (ha : inL a) (hb : inL b) (h0 : b ≠ 0) (d : decode cc pc = .ok (.lrem, 1)) (kk : G p l e R s m args below meth c B D K nL nc ns Z M (pc + 1) lv (JL (a.tmod b) :: sk)) : G p l e R s m args below meth c B D K nL nc ns Z M pc lv (JL b :: JL a :: sk) :=
  fun H locs ls hP hS hv => lv_lrem h.1 h.2.1 d (ne0_64 hb h0) (by
    rw [← Int64.ofInt_tdiv ha.1 ha.2 hb.1 hb.2, ← Int64.ofInt_mul, ← Int64.ofInt_sub, show a - a.tdiv b * b = a.tmod b by rw [Int.tmod_def, Int.mul_comm]]
    exact kk H locs ls hP hS hv)
theorem g_lcmp (h : Cx p s m args meth c D K cc nL own ret) {a b : Int} (ha : inL a) (hb : inL b) (d : decode cc pc = .ok (.lcmp, 1)) (kk : G p l e R s m args below meth c B D K nL nc ns Z M (pc + 1) lv (J (cmpI a b) :: sk)) : G p l e R s m args below meth c B D K nL nc ns Z M pc lv (JL b :: JL a :: sk) :=
  fun H locs ls hP hS hv => W.lcmp h.1 h.2.1 d (by
    have e : lg_cmp (Int64.ofInt a) (Int64.ofInt b) = Int32.ofInt (cmpI a b) := by
      unfold lg_cmp cmpI
      simp only [gt_iff_lt, Int64.lt_iff_toInt_lt, ← Int64.toInt_inj, to64 ha, to64 hb]
      split
      · rfl
      · split <;> rfl
    rw [e]
    exact kk H locs ls hP hS hv)
theorem g_dup (h : Cx p s m args meth c D K cc nL own ret) {v : Value} (d : decode cc pc = .ok (.dup, 1)) (hc : v.category = 1) (kk : G p l e R s m args below meth c B D K nL nc ns Z M (pc + 1) lv (v :: v :: sk)) : G p l e R s m args below meth c B D K nL nc ns Z M pc lv (v :: sk) :=
  fun H locs ls hP hS hv => lv_dup h.1 h.2.1 d hc (kk H locs ls hP hS hv)
theorem g_dup2 (h : Cx p s m args meth c D K cc nL own ret) {v w : Value} (d : decode cc pc = .ok (.dup2, 1)) (hc : v.category = 1) (hc2 : w.category = 1) (kk : G p l e R s m args below meth c B D K nL nc ns Z M (pc + 1) lv (v :: w :: v :: w :: sk)) : G p l e R s m args below meth c B D K nL nc ns Z M pc lv (v :: w :: sk) :=
  fun H locs ls hP hS hv => lv_dup2_11 h.1 h.2.1 d hc hc2 (kk H locs ls hP hS hv)
theorem g_pop (h : Cx p s m args meth c D K cc nL own ret) {v : Value} (d : decode cc pc = .ok (.pop, 1)) (hc : v.category = 1) (kk : G p l e R s m args below meth c B D K nL nc ns Z M (pc + 1) lv sk) : G p l e R s m args below meth c B D K nL nc ns Z M pc lv (v :: sk) :=
  fun H locs ls hP hS hv => lv_pop h.1 h.2.1 d hc (kk H locs ls hP hS hv)
theorem g_goto (h : Cx p s m args meth c D K cc nL own ret) {off : Int} (tgt : Nat) (d : decode cc pc = .ok (.goto off, 3)) (ht : (pc : Int) + off = (tgt : Int)) (kk : G p l e R s m args below meth c B D K nL nc ns Z M tgt lv sk) : G p l e R s m args below meth c B D K nL nc ns Z M pc lv sk :=
  fun H locs ls hP hS hv => lv_goto h.1 h.2.1 d ht (kk H locs ls hP hS hv)
theorem lt32 {a b : Int} (ha : inR a) (hb : inR b) : Int32.ofInt a < Int32.ofInt b ↔ a < b := by rw [Int32.lt_iff_toInt_lt, to32 ha, to32 hb]
theorem le32 {a b : Int} (ha : inR a) (hb : inR b) : Int32.ofInt a ≤ Int32.ofInt b ↔ a ≤ b := by rw [Int32.le_iff_toInt_le, to32 ha, to32 hb]
theorem eq32 {a b : Int} (ha : inR a) (hb : inR b) : Int32.ofInt a = Int32.ofInt b ↔ a = b := by rw [← Int32.toInt_inj, to32 ha, to32 hb]
theorem in0 : inR 0 := ⟨by omega, by omega⟩
theorem g_icmp_eq (h : Cx p s m args meth c D K cc nL own ret) {a b off : Int} (tgt : Nat) (ha : inR a) (hb : inR b) (d : decode cc pc = .ok (.if_icmp .eq off, 3)) (ht : (pc : Int) + off = (tgt : Int)) (kt : a = b → G p l e R s m args below meth c B D K nL nc ns Z M tgt lv sk) (kf : ¬ (a = b) → G p l e R s m args below meth c B D K nL nc ns Z M (pc + 3) lv sk) : G p l e R s m args below meth c B D K nL nc ns Z M pc lv (J b :: J a :: sk) :=
  fun H locs ls hP hS hv => lv_icmp_eq h.1 h.2.1 d ht (fun q => kt ((eq32 ha hb).mp q) H locs ls hP hS hv) (fun q => kf (fun z => q ((eq32 ha hb).mpr z)) H locs ls hP hS hv)
theorem g_if_eq (h : Cx p s m args meth c D K cc nL own ret) {a off : Int} (tgt : Nat) (ha : inR a) (d : decode cc pc = .ok (.ifCond .eq off, 3)) (ht : (pc : Int) + off = (tgt : Int)) (kt : a = 0 → G p l e R s m args below meth c B D K nL nc ns Z M tgt lv sk) (kf : ¬ (a = 0) → G p l e R s m args below meth c B D K nL nc ns Z M (pc + 3) lv sk) : G p l e R s m args below meth c B D K nL nc ns Z M pc lv (J a :: sk) :=
  fun H locs ls hP hS hv => lv_if_eq h.1 h.2.1 d ht (fun q => kt ((eq32 ha in0).mp q) H locs ls hP hS hv) (fun q => kf (fun z => q ((eq32 ha in0).mpr z)) H locs ls hP hS hv)
theorem g_icmp_ne (h : Cx p s m args meth c D K cc nL own ret) {a b off : Int} (tgt : Nat) (ha : inR a) (hb : inR b) (d : decode cc pc = .ok (.if_icmp .ne off, 3)) (ht : (pc : Int) + off = (tgt : Int)) (kt : ¬ a = b → G p l e R s m args below meth c B D K nL nc ns Z M tgt lv sk) (kf : a = b → G p l e R s m args below meth c B D K nL nc ns Z M (pc + 3) lv sk) : G p l e R s m args below meth c B D K nL nc ns Z M pc lv (J b :: J a :: sk) :=
  fun H locs ls hP hS hv => lv_icmp_ne h.1 h.2.1 d ht (fun q => kt ((not_congr (eq32 ha hb)).mp q) H locs ls hP hS hv) (fun q => kf ((eq32 ha hb).mp q) H locs ls hP hS hv)
theorem g_if_ne (h : Cx p s m args meth c D K cc nL own ret) {a off : Int} (tgt : Nat) (ha : inR a) (d : decode cc pc = .ok (.ifCond .ne off, 3)) (ht : (pc : Int) + off = (tgt : Int)) (kt : ¬ a = 0 → G p l e R s m args below meth c B D K nL nc ns Z M tgt lv sk) (kf : a = 0 → G p l e R s m args below meth c B D K nL nc ns Z M (pc + 3) lv sk) : G p l e R s m args below meth c B D K nL nc ns Z M pc lv (J a :: sk) :=
  fun H locs ls hP hS hv => lv_if_ne h.1 h.2.1 d ht (fun q => kt ((not_congr (eq32 ha in0)).mp q) H locs ls hP hS hv) (fun q => kf ((eq32 ha in0).mp q) H locs ls hP hS hv)
theorem g_icmp_lt (h : Cx p s m args meth c D K cc nL own ret) {a b off : Int} (tgt : Nat) (ha : inR a) (hb : inR b) (d : decode cc pc = .ok (.if_icmp .lt off, 3)) (ht : (pc : Int) + off = (tgt : Int)) (kt : a < b → G p l e R s m args below meth c B D K nL nc ns Z M tgt lv sk) (kf : ¬ (a < b) → G p l e R s m args below meth c B D K nL nc ns Z M (pc + 3) lv sk) : G p l e R s m args below meth c B D K nL nc ns Z M pc lv (J b :: J a :: sk) :=
  fun H locs ls hP hS hv => lv_icmp_lt h.1 h.2.1 d ht (fun q => kt ((lt32 ha hb).mp q) H locs ls hP hS hv) (fun q => kf (fun z => q ((lt32 ha hb).mpr z)) H locs ls hP hS hv)
theorem g_if_lt (h : Cx p s m args meth c D K cc nL own ret) {a off : Int} (tgt : Nat) (ha : inR a) (d : decode cc pc = .ok (.ifCond .lt off, 3)) (ht : (pc : Int) + off = (tgt : Int)) (kt : a < 0 → G p l e R s m args below meth c B D K nL nc ns Z M tgt lv sk) (kf : ¬ (a < 0) → G p l e R s m args below meth c B D K nL nc ns Z M (pc + 3) lv sk) : G p l e R s m args below meth c B D K nL nc ns Z M pc lv (J a :: sk) :=
  fun H locs ls hP hS hv => lv_if_lt h.1 h.2.1 d ht (fun q => kt ((lt32 ha in0).mp q) H locs ls hP hS hv) (fun q => kf (fun z => q ((lt32 ha in0).mpr z)) H locs ls hP hS hv)
theorem g_icmp_ge (h : Cx p s m args meth c D K cc nL own ret) {a b off : Int} (tgt : Nat) (ha : inR a) (hb : inR b) (d : decode cc pc = .ok (.if_icmp .ge off, 3)) (ht : (pc : Int) + off = (tgt : Int)) (kt : b ≤ a → G p l e R s m args below meth c B D K nL nc ns Z M tgt lv sk) (kf : ¬ (b ≤ a) → G p l e R s m args below meth c B D K nL nc ns Z M (pc + 3) lv sk) : G p l e R s m args below meth c B D K nL nc ns Z M pc lv (J b :: J a :: sk) :=
  fun H locs ls hP hS hv => lv_icmp_ge h.1 h.2.1 d ht (fun q => kt ((le32 hb ha).mp q) H locs ls hP hS hv) (fun q => kf (fun z => q ((le32 hb ha).mpr z)) H locs ls hP hS hv)
theorem g_if_ge (h : Cx p s m args meth c D K cc nL own ret) {a off : Int} (tgt : Nat) (ha : inR a) (d : decode cc pc = .ok (.ifCond .ge off, 3)) (ht : (pc : Int) + off = (tgt : Int)) (kt : 0 ≤ a → G p l e R s m args below meth c B D K nL nc ns Z M tgt lv sk) (kf : ¬ (0 ≤ a) → G p l e R s m args below meth c B D K nL nc ns Z M (pc + 3) lv sk) : G p l e R s m args below meth c B D K nL nc ns Z M pc lv (J a :: sk) :=
  fun H locs ls hP hS hv => lv_if_ge h.1 h.2.1 d ht (fun q => kt ((le32 in0 ha).mp q) H locs ls hP hS hv) (fun q => kf (fun z => q ((le32 in0 ha).mpr z)) H locs ls hP hS hv)
theorem g_icmp_gt (h : Cx p s m args meth c D K cc nL own ret) {a b off : Int} (tgt : Nat) (ha : inR a) (hb : inR b) (d : decode cc pc = .ok (.if_icmp .gt off, 3)) (ht : (pc : Int) + off = (tgt : Int)) (kt : b < a → G p l e R s m args below meth c B D K nL nc ns Z M tgt lv sk) (kf : ¬ (b < a) → G p l e R s m args below meth c B D K nL nc ns Z M (pc + 3) lv sk) : G p l e R s m args below meth c B D K nL nc ns Z M pc lv (J b :: J a :: sk) :=
  fun H locs ls hP hS hv => lv_icmp_gt h.1 h.2.1 d ht (fun q => kt ((lt32 hb ha).mp q) H locs ls hP hS hv) (fun q => kf (fun z => q ((lt32 hb ha).mpr z)) H locs ls hP hS hv)
theorem g_if_gt (h : Cx p s m args meth c D K cc nL own ret) {a off : Int} (tgt : Nat) (ha : inR a) (d : decode cc pc = .ok (.ifCond .gt off, 3)) (ht : (pc : Int) + off = (tgt : Int)) (kt : 0 < a → G p l e R s m args below meth c B D K nL nc ns Z M tgt lv sk) (kf : ¬ (0 < a) → G p l e R s m args below meth c B D K nL nc ns Z M (pc + 3) lv sk) : G p l e R s m args below meth c B D K nL nc ns Z M pc lv (J a :: sk) :=
  fun H locs ls hP hS hv => lv_if_gt h.1 h.2.1 d ht (fun q => kt ((lt32 in0 ha).mp q) H locs ls hP hS hv) (fun q => kf (fun z => q ((lt32 in0 ha).mpr z)) H locs ls hP hS hv)
theorem g_icmp_le (h : Cx p s m args meth c D K cc nL own ret) {a b off : Int} (tgt : Nat) (ha : inR a) (hb : inR b) (d : decode cc pc = .ok (.if_icmp .le off, 3)) (ht : (pc : Int) + off = (tgt : Int)) (kt : a ≤ b → G p l e R s m args below meth c B D K nL nc ns Z M tgt lv sk) (kf : ¬ (a ≤ b) → G p l e R s m args below meth c B D K nL nc ns Z M (pc + 3) lv sk) : G p l e R s m args below meth c B D K nL nc ns Z M pc lv (J b :: J a :: sk) :=
  fun H locs ls hP hS hv => lv_icmp_le h.1 h.2.1 d ht (fun q => kt ((le32 ha hb).mp q) H locs ls hP hS hv) (fun q => kf (fun z => q ((le32 ha hb).mpr z)) H locs ls hP hS hv)
theorem g_if_le (h : Cx p s m args meth c D K cc nL own ret) {a off : Int} (tgt : Nat) (ha : inR a) (d : decode cc pc = .ok (.ifCond .le off, 3)) (ht : (pc : Int) + off = (tgt : Int)) (kt : a ≤ 0 → G p l e R s m args below meth c B D K nL nc ns Z M tgt lv sk) (kf : ¬ (a ≤ 0) → G p l e R s m args below meth c B D K nL nc ns Z M (pc + 3) lv sk) : G p l e R s m args below meth c B D K nL nc ns Z M pc lv (J a :: sk) :=
  fun H locs ls hP hS hv => lv_if_le h.1 h.2.1 d ht (fun q => kt ((le32 ha in0).mp q) H locs ls hP hS hv) (fun q => kf (fun z => q ((le32 ha in0).mpr z)) H locs ls hP hS hv)
end
