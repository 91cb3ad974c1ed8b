/-! counting and adding up over the first numbers -/
def cnt (f : Nat → Bool) : Nat → Nat
  | 0 => 0
  | n + 1 => cnt f n + (if f n = true then 1 else 0)
theorem cnt_le (f : Nat → Bool) : ∀ n, cnt f n ≤ n
  | 0 => Nat.le_refl 0
  | n + 1 => by have := cnt_le f n; unfold cnt; split <;> omega
theorem cnt_congr {f g : Nat → Bool} : ∀ {n : Nat}, (∀ i, i < n → f i = g i) → cnt f n = cnt g n
  | 0, _ => rfl
  | n + 1, h => by unfold cnt; rw [cnt_congr (fun i hi => h i (by omega)), h n (by omega)]
theorem cnt_all {f : Nat → Bool} : ∀ {n : Nat}, cnt f n = n → ∀ i, i < n → f i = true
  | n + 1, h, i, hi => by
    have hl := cnt_le f n
    unfold cnt at h
    by_cases hn : f n = true
    · rw [if_pos hn] at h
      rcases Nat.lt_or_ge i n with q | q
      · exact cnt_all (by omega) i q
      · rw [show i = n by omega]; exact hn
    · rw [if_neg hn] at h; omega
theorem cnt_full {f : Nat → Bool} : ∀ {n : Nat}, (∀ i, i < n → f i = true) → cnt f n = n
  | 0, _ => rfl
  | n + 1, h => by unfold cnt; rw [cnt_full (fun i hi => h i (by omega)), if_pos (h n (by omega))]
theorem cnt_mono {f g : Nat → Bool} : ∀ {n : Nat}, (∀ i, i < n → f i = true → g i = true) → cnt f n ≤ cnt g n
  | 0, _ => Nat.le_refl 0
  | n + 1, h => by
    have h1 := cnt_mono (n := n) (fun i hi => h i (by omega))
    have h2 := h n (by omega)
    unfold cnt
    by_cases hn : f n = true
    · rw [if_pos hn, if_pos (h2 hn)]; omega
    · rw [if_neg hn]; split <;> omega
theorem cnt_grow {f g : Nat → Bool} : ∀ {n k : Nat}, (∀ i, i < n → f i = true → g i = true) → k < n → f k = false → g k = true → cnt f n < cnt g n
  | n + 1, k, h, hk, h1, h2 => by
    unfold cnt
    rcases Nat.lt_or_ge k n with q | q
    · have h3 := cnt_grow (n := n) (fun i hi => h i (by omega)) q h1 h2
      have h4 := h n (by omega)
      by_cases hn : f n = true
      · rw [if_pos hn, if_pos (h4 hn)]; omega
      · rw [if_neg hn]; split <;> omega
    · have e : k = n := by omega
      subst e
      have h3 := cnt_mono (n := k) (fun i hi => h i (by omega))
      rw [if_neg (by rw [h1]; decide), if_pos h2]; omega
theorem cnt_add {f g : Nat → Bool} : ∀ {n k : Nat}, k < n → f k = false → (∀ i, i < n → g i = (f i || decide (i = k))) → cnt g n = cnt f n + 1
  | n + 1, k, hk, h1, h2 => by
    unfold cnt
    rcases Nat.lt_or_ge k n with q | q
    · rw [cnt_add (n := n) q h1 (fun i hi => h2 i (by omega)), h2 n (by omega)]
      have : ¬ n = k := by omega
      simp only [this, decide_false, Bool.or_false]
      omega
    · have e : k = n := by omega
      subst e
      rw [cnt_congr (f := g) (g := f) (n := k) (fun i hi => by rw [h2 i (by omega)]; simp [Nat.ne_of_lt hi]), h2 k (by omega), h1]
      simp
theorem cnt_ex {f : Nat → Bool} : ∀ {n : Nat}, cnt f n < n → ∃ i, i < n ∧ f i = false
  | 0, h => by omega
  | n + 1, h => by
    unfold cnt at h
    by_cases hn : f n = true
    · rw [if_pos hn] at h
      obtain ⟨i, hi, h1⟩ := cnt_ex (f := f) (n := n) (by omega)
      exact ⟨i, by omega, h1⟩
    · exact ⟨n, by omega, by simpa using hn⟩
theorem cnt_pos {f : Nat → Bool} : ∀ {n : Nat}, 0 < cnt f n ↔ ∃ i, i < n ∧ f i = true
  | 0 => by simp [cnt]
  | n + 1 => by
    have ih := cnt_pos (f := f) (n := n)
    unfold cnt
    by_cases hn : f n = true
    · rw [if_pos hn]
      exact ⟨fun _ => ⟨n, by omega, hn⟩, fun _ => by omega⟩
    · rw [if_neg hn, Nat.add_zero, ih]
      constructor
      · rintro ⟨i, h1, h2⟩; exact ⟨i, by omega, h2⟩
      · rintro ⟨i, h1, h2⟩
        rcases Nat.lt_or_ge i n with q | q
        · exact ⟨i, q, h2⟩
        · exact absurd (by rw [show n = i by omega]; exact h2) hn
theorem cnt_false {f : Nat → Bool} {n : Nat} (h : ∀ i, i < n → f i = false) : cnt f n = 0 := by
  rcases Nat.eq_zero_or_pos (cnt f n) with q | q
  · exact q
  · obtain ⟨i, h1, h2⟩ := cnt_pos.mp q
    rw [h i h1] at h2
    cases h2
/-- a function from the first n numbers to themselves that is one to one takes every value -/
theorem pigeon {n : Nat} {g : Nat → Nat} (h1 : ∀ i, i < n → g i < n) (h2 : ∀ i j, i < n → j < n → g i = g j → i = j) : ∀ p, p < n → ∃ i, i < n ∧ g i = p := by
  have key : ∀ k, k ≤ n → cnt (fun p => (List.range k).any (fun i => g i == p)) n = k := by
    intro k
    induction k with
    | zero => intro _; exact cnt_false (fun i _ => by simp)
    | succ k ih =>
      intro hk
      rw [cnt_add (k := g k) (f := fun p => (List.range k).any (fun i => g i == p)) (h1 k (by omega)) ?_ ?_, ih (by omega)]
      · simp only [List.any_eq_false, List.mem_range, beq_iff_eq]
        intro i hi e
        have := h2 i k (by omega) (by omega) e
        omega
      · intro p _
        rw [List.range_succ, List.any_append]
        congr 1
        simp only [List.any_cons, List.any_nil, Bool.or_false]
        rw [Bool.eq_iff_iff]
        simp only [beq_iff_eq, decide_eq_true_eq]
        exact ⟨fun h => h.symm, fun h => h.symm⟩
  intro p hp
  have h3 := cnt_all (key n (Nat.le_refl n)) p hp
  simp only [List.any_eq_true, List.mem_range, beq_iff_eq] at h3
  obtain ⟨i, hi, e⟩ := h3
  exact ⟨i, hi, e⟩
def sm (f : Nat → Int) : Nat → Int
  | 0 => 0
  | n + 1 => sm f n + f n
theorem sm_congr {f g : Nat → Int} : ∀ {n : Nat}, (∀ i, i < n → f i = g i) → sm f n = sm g n
  | 0, _ => rfl
  | n + 1, h => by unfold sm; rw [sm_congr (fun i hi => h i (by omega)), h n (by omega)]
theorem sm_add {f g : Nat → Int} {v : Int} : ∀ {n k : Nat}, k < n → (∀ i, i < n → i ≠ k → g i = f i) → g k = f k + v → sm g n = sm f n + v
  | n + 1, k, hk, h1, h2 => by
    unfold sm
    rcases Nat.lt_or_ge k n with q | q
    · rw [sm_add (n := n) q (fun i hi => h1 i (by omega)) h2, h1 n (by omega) (by omega)]; omega
    · have e : k = n := by omega
      subst e
      rw [sm_congr (f := g) (g := f) (n := k) (fun i hi => h1 i (by omega) (by omega)), h2]; omega
theorem sm_le {f : Nat → Int} {b : Int} : ∀ {n : Nat}, (∀ i, i < n → f i ≤ b) → sm f n ≤ n * b
  | 0, _ => by simp [sm]
  | n + 1, h => by
    have h1 := sm_le (n := n) (fun i hi => h i (by omega))
    have h2 := h n (by omega)
    unfold sm
    have : ((n + 1 : Nat) : Int) * b = n * b + b := by rw [Int.natCast_add, Int.add_mul]; simp
    omega
theorem sm_nn {f : Nat → Int} : ∀ {n : Nat}, (∀ i, i < n → 0 ≤ f i) → 0 ≤ sm f n
  | 0, _ => by simp [sm]
  | n + 1, h => by
    have h1 := sm_nn (n := n) (fun i hi => h i (by omega))
    have h2 := h n (by omega)
    unfold sm
    omega
