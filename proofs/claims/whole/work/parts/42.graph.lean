/-! ways: E says which reaches there are, hd and ft are their ends -/
def pth (E : Nat → Prop) (hd ft : Nat → Nat) : Nat → Nat → Nat → Prop
  | 0, a, b => a = b
  | k + 1, a, b => ∃ r, E r ∧ ft r = b ∧ pth E hd ft k a (hd r)
def Rch (E : Nat → Prop) (hd ft : Nat → Nat) (a b : Nat) : Prop := ∃ k, pth E hd ft k a b
def Up (E : Nat → Prop) (hd ft : Nat → Nat) (a b : Nat) : Prop := ∃ k, pth E hd ft (k + 1) a b
def Acy (E : Nat → Prop) (hd ft : Nat → Nat) : Prop := ∃ t : Nat → Nat, ∀ r, E r → t (hd r) < t (ft r)
section
variable {E F : Nat → Prop} {hd ft : Nat → Nat} {a b c : Nat}
theorem pth_trans {j k : Nat} (h1 : pth E hd ft k a b) : ∀ {c : Nat}, pth E hd ft j b c → pth E hd ft (k + j) a c := by
  induction j with
  | zero => intro c h; cases h; exact h1
  | succ j ih =>
    rintro c ⟨r, h2, h3, h4⟩
    exact ⟨r, h2, h3, ih h4⟩
theorem pth_front {k : Nat} : ∀ {c : Nat}, pth E hd ft (k + 1) a c → ∃ r, E r ∧ hd r = a ∧ pth E hd ft k (ft r) c := by
  induction k with
  | zero =>
    rintro c ⟨r, h1, h2, h3⟩
    exact ⟨r, h1, h3.symm, h2⟩
  | succ k ih =>
    rintro c ⟨r, h1, h2, h3⟩
    obtain ⟨q, g1, g2, g3⟩ := ih h3
    exact ⟨q, g1, g2, r, h1, h2, g3⟩
theorem pth_cons {k r : Nat} (h : E r) (h2 : pth E hd ft k (ft r) c) : pth E hd ft (k + 1) (hd r) c := by
  have h1 : pth E hd ft 1 (hd r) (ft r) := ⟨r, h, rfl, rfl⟩
  have := pth_trans h1 h2
  rwa [Nat.add_comm] at this
theorem pth_mono (h : ∀ r, E r → F r) {k : Nat} : ∀ {b : Nat}, pth E hd ft k a b → pth F hd ft k a b := by
  induction k with
  | zero => intro b h; exact h
  | succ k ih =>
    rintro b ⟨r, h1, h2, h3⟩
    exact ⟨r, h r h1, h2, ih h3⟩
theorem Rch.refl : Rch E hd ft a a := ⟨0, rfl⟩
theorem Rch.step {r : Nat} (h : Rch E hd ft a (hd r)) (hr : E r) : Rch E hd ft a (ft r) := by
  obtain ⟨k, h⟩ := h
  exact ⟨k + 1, r, hr, rfl, h⟩
theorem Rch.trans (h1 : Rch E hd ft a b) (h2 : Rch E hd ft b c) : Rch E hd ft a c := by
  obtain ⟨k, h1⟩ := h1
  obtain ⟨j, h2⟩ := h2
  exact ⟨k + j, pth_trans h1 h2⟩
theorem Rch.of_edge {r : Nat} (hr : E r) : Rch E hd ft (hd r) (ft r) := Rch.refl.step hr
/-- what holds at the beginning and is handed down holds at the end -/
theorem Rch.hand {C : Nat → Prop} (h : Rch E hd ft a b) (h0 : C a) (hs : ∀ r, E r → C (hd r) → C (ft r)) : C b := by
  obtain ⟨k, h⟩ := h
  induction k generalizing b with
  | zero => cases h; exact h0
  | succ k ih =>
    obtain ⟨r, h1, h2, h3⟩ := h
    rw [← h2]
    exact hs r h1 (ih h3)
theorem Rch_iff : Rch E hd ft a b ↔ a = b ∨ Up E hd ft a b := by
  constructor
  · rintro ⟨k, h⟩
    rcases k with _ | k
    · exact Or.inl h
    · exact Or.inr ⟨k, h⟩
  · rintro (h | ⟨k, h⟩)
    · exact ⟨0, h⟩
    · exact ⟨k + 1, h⟩
theorem Up_iff : Up E hd ft a b ↔ ∃ r, E r ∧ ft r = b ∧ (a = hd r ∨ Up E hd ft a (hd r)) := by
  constructor
  · rintro ⟨k, r, h1, h2, h3⟩
    exact ⟨r, h1, h2, Rch_iff.mp ⟨k, h3⟩⟩
  · rintro ⟨r, h1, h2, h3⟩
    obtain ⟨k, h3⟩ := Rch_iff.mpr h3
    exact ⟨k, r, h1, h2, h3⟩
theorem Up_iff_front : Up E hd ft a b ↔ ∃ r, E r ∧ hd r = a ∧ (ft r = b ∨ Up E hd ft (ft r) b) := by
  constructor
  · rintro ⟨k, h⟩
    obtain ⟨r, h1, h2, h3⟩ := pth_front h
    exact ⟨r, h1, h2, Rch_iff.mp ⟨k, h3⟩⟩
  · rintro ⟨r, h1, h2, h3⟩
    obtain ⟨k, h3⟩ := Rch_iff.mpr h3
    rw [← h2]
    exact ⟨k, pth_cons h1 h3⟩
theorem Up.rch (h : Up E hd ft a b) : Rch E hd ft a b := Rch_iff.mpr (Or.inr h)
theorem Up.trans (h1 : Up E hd ft a b) (h2 : Up E hd ft b c) : Up E hd ft a c := by
  obtain ⟨k, h1⟩ := h1
  obtain ⟨j, h2⟩ := h2
  have := pth_trans h1 h2
  exact ⟨k + 1 + j, by rw [show k + 1 + j + 1 = k + 1 + (j + 1) by omega]; exact this⟩
theorem Up.trans_rch (h1 : Up E hd ft a b) (h2 : Rch E hd ft b c) : Up E hd ft a c := by
  rcases Rch_iff.mp h2 with h | h
  · rw [← h]; exact h1
  · exact h1.trans h
theorem Rch.trans_up (h1 : Rch E hd ft a b) (h2 : Up E hd ft b c) : Up E hd ft a c := by
  rcases Rch_iff.mp h1 with h | h
  · rw [h]; exact h2
  · exact h.trans h2
theorem pth_rank {t : Nat → Nat} (ht : ∀ r, E r → t (hd r) < t (ft r)) {k : Nat} : ∀ {b : Nat}, pth E hd ft k a b → t a + k ≤ t b := by
  induction k with
  | zero => intro b h; cases h; exact Nat.le_refl _
  | succ k ih =>
    rintro b ⟨r, h1, h2, h3⟩
    have := ih h3
    have := ht r h1
    rw [h2] at this
    omega
theorem Acy.irrefl (h : Acy E hd ft) : ¬ Up E hd ft a a := by
  obtain ⟨t, ht⟩ := h
  rintro ⟨k, hk⟩
  have := pth_rank ht hk
  omega
theorem Acy.asymm (h : Acy E hd ft) (h1 : Up E hd ft a b) : ¬ Rch E hd ft b a := fun h2 => h.irrefl (h1.trans_rch h2)
/-- from the sources down -/
theorem Acy.ind (h : Acy E hd ft) {C : Nat → Prop} (hs : ∀ p, (∀ r, E r → ft r = p → C (hd r)) → C p) : ∀ p, C p := by
  obtain ⟨t, ht⟩ := h
  have key : ∀ n p, t p < n → C p := by
    intro n
    induction n with
    | zero => intro p hp; omega
    | succ n ih =>
      intro p hp
      refine hs p (fun r hr e => ih (hd r) ?_)
      have := ht r hr
      rw [e] at this
      omega
  exact fun p => key (t p + 1) p (by omega)
theorem bound_of (t : Nat → Nat) : ∀ R : Nat, ∃ T, ∀ r, r < R → t r ≤ T
  | 0 => ⟨0, fun r h => by omega⟩
  | R + 1 => by
    obtain ⟨T, hT⟩ := bound_of t R
    refine ⟨T + t R, fun r h => ?_⟩
    rcases Nat.lt_or_ge r R with q | q
    · have := hT r q; omega
    · rw [show r = R by omega]; omega
theorem Acy.rev {R : Nat} (h : Acy E hd ft) (hE : ∀ r, E r → r < R) : Acy E ft hd := by
  obtain ⟨t, ht⟩ := h
  obtain ⟨T, hT⟩ := bound_of (fun r => t (ft r)) R
  refine ⟨fun p => T - t p, fun r hr => ?_⟩
  have h1 := ht r hr
  have h2 := hT r (hE r hr)
  show T - t (ft r) < T - t (hd r)
  omega
/-- from the mouths up -/
theorem Acy.ind_up {R : Nat} (h : Acy E hd ft) (hE : ∀ r, E r → r < R) {C : Nat → Prop} (hs : ∀ p, (∀ r, E r → hd r = p → C (ft r)) → C p) : ∀ p, C p := (h.rev hE).ind hs
theorem Acy.mono (h : Acy E hd ft) (hF : ∀ r, F r → E r) : Acy F hd ft := by
  obtain ⟨t, ht⟩ := h
  exact ⟨t, fun r hr => ht r (hF r hr)⟩
theorem pth_congr {hd' ft' : Nat → Nat} (h1 : ∀ r, E r → hd' r = hd r ∧ ft' r = ft r) {k : Nat} : ∀ {b : Nat}, pth E hd ft k a b → pth E hd' ft' k a b := by
  induction k with
  | zero => intro b h; exact h
  | succ k ih =>
    rintro b ⟨r, g1, g2, g3⟩
    obtain ⟨e1, e2⟩ := h1 r g1
    exact ⟨r, g1, e2.trans g2, by rw [e1]; exact ih g3⟩
/-- one reach more, from x to y, where no way led from y to x -/
theorem Acy.add {hd' ft' : Nat → Nat} {x y : Nat} (h : Acy E hd ft) (hno : ¬ Rch E hd ft y x) (hF : ∀ r, F r → (E r ∧ hd' r = hd r ∧ ft' r = ft r) ∨ (hd' r = x ∧ ft' r = y)) : Acy F hd' ft' := by
  obtain ⟨t, ht⟩ := h
  have hdec : ∀ p, Decidable (Rch E hd ft y p) := fun p => Classical.propDecidable _
  refine ⟨fun p => t p + (if Rch E hd ft y p then t x + 1 else 0), fun r hr => ?_⟩
  rcases hF r hr with ⟨h1, e1, e2⟩ | ⟨e1, e2⟩
  · show t (hd' r) + _ < t (ft' r) + _
    rw [e1, e2]
    have h2 := ht r h1
    by_cases q : Rch E hd ft y (hd r)
    · rw [if_pos q, if_pos (q.step h1)]; omega
    · rw [if_neg q]; split <;> omega
  · show t (hd' r) + _ < t (ft' r) + _
    rw [e1, e2, if_neg hno, if_pos Rch.refl]
    omega
end
