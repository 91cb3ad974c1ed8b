/-! acts upon nets -/
def Nt.add (N : Nt) (a b : Nat) (l g v : Int) : Nt := (N.P, N.R + 1, fun r => if r = N.R then a else N.hd r, fun r => if r = N.R then b else N.ft r, fun r => if r = N.R then l else N.ln r, fun r => if r = N.R then g else N.gf r, fun r => if r = N.R then v else N.rv r)
def Nt.more (N : Nt) : Nt := (N.P + 1, N.R, N.hd, N.ft, N.ln, N.gf, N.rv)
def skp (k r : Nat) : Nat := if r < k then r else r + 1
def Nt.drop (N : Nt) (k : Nat) : Nt := (N.P, N.R - 1, fun r => N.hd (skp k r), fun r => N.ft (skp k r), fun r => N.ln (skp k r), fun r => N.gf (skp k r), fun r => N.rv (skp k r))
def Nt.cut (N : Nt) (k : Nat) (n : Int) : Nt := (N.P + 1, N.R + 1, fun r => if r = N.R then N.P else N.hd r, fun r => if r = N.R then N.ft k else if r = k then N.P else N.ft r, fun r => if r = N.R then N.ln k - n else if r = k then n else N.ln r, fun r => if r = N.R then 0 else N.gf r, fun r => if r = N.R then N.rv k else N.rv r)
def Nt.turn (N : Nt) (k : Nat) : Nt := (N.P, N.R, fun r => if r = k then N.ft k else N.hd r, fun r => if r = k then N.hd k else N.ft r, N.ln, N.gf, N.rv)
def Nt.give (N : Nt) (k : Nat) (g : Int) : Nt := (N.P, N.R, N.hd, N.ft, N.ln, fun r => if r = k then g else N.gf r, N.rv)
def Nt.name (N : Nt) (k : Nat) (v : Int) : Nt := (N.P, N.R, N.hd, N.ft, N.ln, N.gf, fun r => if r = k then v else N.rv r)
section
variable {M : Mem} {N : Nt}
theorem x_lay {n a b : Nat} {l g v : Int} {Q : Mem → Prop} (hN : NetX M n N) (hR : N.R < 30) (h : ∀ M', (∀ c, c < n ∨ n + 5 < c → M' c = M c) → NetX M' n (N.add a b l g v) → Q M') : f_X5_lay n a b l g v M Q := by
  obtain ⟨hp, hr, hx⟩ := hN
  have e1 : M n 1 = (N.R : Int) := hr
  unfold f_X5_lay
  simp only [st_v, e1, tn, show ¬ n = n + 1 by omega, show ¬ n = n + 2 by omega, show ¬ n = n + 3 by omega, show ¬ n = n + 4 by omega, show ¬ n = n + 5 by omega, if_false, forall_eq]
  refine ⟨by omega, by omega, by omega, by omega, by omega, by unfold inR; omega, ?_⟩
  refine h _ (fun c hc => ?_) ⟨?_, ?_, fun r hr' => ?_⟩
  · simp only [st, show ¬ c = n by omega, show ¬ c = n + 1 by omega, show ¬ c = n + 2 by omega, show ¬ c = n + 3 by omega, show ¬ c = n + 4 by omega, show ¬ c = n + 5 by omega, if_false]
  · simp [st_v]; exact hp
  · simp [st_v, Nt.add, Nt.R]
  · have hr2 : r < N.R + 1 := hr'
    rcases Nat.lt_or_ge r N.R with q | q
    · obtain ⟨a1, a2, a3, a4, a5⟩ := hx r q
      have hne : ¬ r = N.R := by omega
      refine ⟨?_, ?_, ?_, ?_, ?_⟩ <;> simp [st_v, Nt.add, Nt.hd, Nt.ft, Nt.ln, Nt.gf, Nt.rv, Nat.ne_of_lt q]
      · rw [a1]; simp [Nt.hd]
      · rw [a2]; simp [Nt.ft]
      · rw [a3]; simp [Nt.ln]
      · rw [a4]; simp [Nt.gf]
      · rw [a5]; simp [Nt.rv]
    · have : r = N.R := by omega
      subst this
      refine ⟨?_, ?_, ?_, ?_, ?_⟩ <;> simp [st_v, Nt.add, Nt.hd, Nt.ft, Nt.ln, Nt.gf, Nt.rv]
theorem x_copyFrom {n m : Nat} {Q : Mem → Prop} (hN : NetX M m N) (hR : N.R ≤ 30) (hd : n + 5 < m ∨ m + 5 < n) (h : ∀ M', (∀ c, c < n ∨ n + 5 < c → M' c = M c) → NetX M' n N → Q M') : f_X5_copyFrom n m M Q := by
  obtain ⟨hp, hr, hx⟩ := hN
  unfold f_X5_copyFrom
  simp only [st_v, cpy_v, hp, hr, tn, show ¬ n = n + 1 by omega, show ¬ n = n + 2 by omega, show ¬ n = n + 3 by omega, show ¬ n = n + 4 by omega, show ¬ n = n + 5 by omega, show ¬ m = n by omega, if_false, if_true, forall_eq, show ¬ (1 : Nat) = 0 by omega]
  refine ⟨by omega, by omega, by omega, by omega, by omega, ?_⟩
  refine h _ (fun c hc => ?_) ⟨?_, ?_, fun r hr' => ?_⟩
  · simp only [st, cpy, show ¬ c = n by omega, show ¬ c = n + 1 by omega, show ¬ c = n + 2 by omega, show ¬ c = n + 3 by omega, show ¬ c = n + 4 by omega, show ¬ c = n + 5 by omega, if_false]
  · simp [st_v, cpy_v]
  · simp [st_v, cpy_v]
  · obtain ⟨a1, a2, a3, a4, a5⟩ := hx r hr'
    have f1 : ∀ i j, i ≤ 5 → j ≤ 5 → ¬ m + i = n + j := fun i j _ _ => by omega
    have f2 : ∀ i, i ≤ 5 → ¬ m + i = n := fun i _ => by omega
    refine ⟨?_, ?_, ?_, ?_, ?_⟩ <;> simp [st_v, cpy_v, hr', f1, f2] <;> assumption
theorem skp_lt {k r R : Nat} (hk : k < R) (hr : r < R - 1) : skp k r < R := by unfold skp; split <;> omega
theorem x_take {n k : Nat} {Q : Mem → Prop} (hN : NetX M n N) (hW : Wf N) (hk : k < N.R) (h : ∀ M', (∀ c, c < n ∨ n + 5 < c → M' c = M c) → NetX M' n (N.drop k) → Q M') : f_X5_take n k M Q := by
  obtain ⟨hp, hr, hx⟩ := hN
  have hR := hW.2.1
  unfold f_X5_take
  rw [hr]
  refine ⟨by unfold inR; omega, ?_⟩
  rintro _ rfl
  have e1 : ((N.R : Int) - k - 1).toNat = N.R - k - 1 := by omega
  have e2 : ((k : Int) + 1).toNat = k + 1 := by omega
  simp only [st_v, cpy_v, hr, e1, e2, tn, show ¬ n = n + 1 by omega, show ¬ n = n + 2 by omega, show ¬ n = n + 3 by omega, show ¬ n = n + 4 by omega, show ¬ n = n + 5 by omega, if_false, forall_eq]
  refine ⟨by omega, by omega, by omega, by omega, by omega, by unfold inR; omega, ?_⟩
  refine h _ (fun c hc => ?_) ⟨?_, ?_, fun r hr' => ?_⟩
  · simp only [st, cpy, show ¬ c = n by omega, show ¬ c = n + 1 by omega, show ¬ c = n + 2 by omega, show ¬ c = n + 3 by omega, show ¬ c = n + 4 by omega, show ¬ c = n + 5 by omega, if_false]
  · simp [st_v, cpy_v]; exact hp
  · show _ = ((N.R - 1 : Nat) : Int)
    simp [st_v, cpy_v]; omega
  · have hr2 : r < N.R - 1 := hr'
    obtain ⟨a1, a2, a3, a4, a5⟩ := hx (skp k r) (skp_lt hk hr2)
    show _ = ((N.hd (skp k r) : Nat) : Int) ∧ _ = ((N.ft (skp k r) : Nat) : Int) ∧ _ = N.ln (skp k r) ∧ _ = N.gf (skp k r) ∧ _ = N.rv (skp k r)
    rw [← a1, ← a2, ← a3, ← a4, ← a5]
    rcases Nat.lt_or_ge r k with q | q
    · have e3 : skp k r = r := by unfold skp; rw [if_pos q]
      have e4 : ¬ k ≤ r := by omega
      rw [e3]
      refine ⟨?_, ?_, ?_, ?_, ?_⟩ <;> simp [st_v, cpy_v, e4]
    · have e3 : skp k r = k + 1 + (r - k) := by unfold skp; rw [if_neg (by omega)]; omega
      have e4 : k ≤ r ∧ r < k + (N.R - k - 1) := by omega
      rw [e3]
      refine ⟨?_, ?_, ?_, ?_, ?_⟩ <;> simp [st_v, cpy_v, e4]
theorem x_reverse {n k : Nat} {Q : Mem → Prop} (hN : NetX M n N) (hW : Wf N) (hk : k < N.R) (h : ∀ M', (∀ c, c < n ∨ n + 5 < c → M' c = M c) → NetX M' n (N.turn k) → Q M') : f_X5_reverse n k M Q := by
  obtain ⟨hp, hr, hx⟩ := hN
  have hR := hW.2.1
  unfold f_X5_reverse
  refine ⟨by omega, ?_⟩
  rintro _ rfl
  simp only [tn, forall_eq]
  refine h _ (fun c hc => ?_) ⟨?_, ?_, fun r hr' => ?_⟩
  · simp only [st, show ¬ c = n + 1 by omega, show ¬ c = n + 2 by omega, if_false]
  · simp [st_v]; exact hp
  · simp [st_v]; exact hr
  · have hr2 : r < N.R := hr'
    obtain ⟨a1, a2, a3, a4, a5⟩ := hx r hr2
    obtain ⟨b1, b2, b3, b4, b5⟩ := hx k hk
    show _ = ((if r = k then N.ft k else N.hd r : Nat) : Int) ∧ _ = ((if r = k then N.hd k else N.ft r : Nat) : Int) ∧ _ = N.ln r ∧ _ = N.gf r ∧ _ = N.rv r
    by_cases q : r = k
    · subst q
      refine ⟨?_, ?_, ?_, ?_, ?_⟩ <;> simp [st_v] <;> assumption
    · refine ⟨?_, ?_, ?_, ?_, ?_⟩ <;> simp [st_v, q] <;> assumption
theorem x_split {n k : Nat} {t : Int} {Q : Mem → Prop} (hN : NetX M n N) (hW : Wf N) (hk : k < N.R) (hP : N.P < 20) (hR : N.R < 30) (ht : 1 ≤ t) (ht2 : t < N.ln k) (h : ∀ M', (∀ c, c < n ∨ n + 5 < c → M' c = M c) → NetX M' n (N.cut k t) → Q M') : f_X5_split n k t M Q := by
  obtain ⟨hp, hr, hx⟩ := id hN
  obtain ⟨b1, b2, b3, b4, b5⟩ := hx k hk
  obtain ⟨-, -, w3, w4, -⟩ := hW.2.2 k hk
  unfold f_X5_split
  rintro _ rfl
  refine ⟨by rw [hp]; unfold inR; omega, ?_⟩
  rintro _ rfl
  refine ⟨by omega, ?_⟩
  have c1 : st M n 0 (M n 0 + 1) (n + 2) k = N.ft k := by simp [st_v]; exact b2
  have c2 : st M n 0 (M n 0 + 1) (n + 3) k = N.ln k := by simp [st_v]; exact b3
  have c3 : st M n 0 (M n 0 + 1) (n + 5) k = N.rv k := by simp [st_v]; exact b5
  rw [tn, c1, c2, c3, hp]
  refine ⟨by unfold inR; omega, ?_⟩
  have hN2 : NetX (st M n 0 ((N.P : Int) + 1)) n N.more := by
    refine ⟨by simp [st_v]; rfl, by simp [st_v]; exact hr, fun r hr' => ?_⟩
    obtain ⟨a1, a2, a3, a4, a5⟩ := hx r hr'
    refine ⟨?_, ?_, ?_, ?_, ?_⟩ <;> simp [st_v] <;> assumption
  refine x_lay (a := N.P) (b := N.ft k) hN2 hR (fun M' f1 hN3 => ?_)
  simp only [forall_eq]
  obtain ⟨d1, d2, d3⟩ := hN3
  refine h _ (fun c hc => ?_) ⟨?_, ?_, fun r hr' => ?_⟩
  · simp only [st, show ¬ c = n + 2 by omega, show ¬ c = n + 3 by omega, if_false]
    rw [f1 c hc]
    simp only [st, show ¬ c = n by omega, if_false]
  · simp [st_v]; exact d1
  · simp [st_v]; exact d2
  · obtain ⟨z1, z2, z3, z4, z5⟩ := d3 r hr'
    have a1 : M' (n + 1) r = ((if r = N.R then N.P else N.hd r : Nat) : Int) := z1
    have a2 : M' (n + 2) r = ((if r = N.R then N.ft k else N.ft r : Nat) : Int) := z2
    have a3 : M' (n + 3) r = (if r = N.R then N.ln k - t else N.ln r) := z3
    have a4 : M' (n + 4) r = (if r = N.R then 0 else N.gf r) := z4
    have a5 : M' (n + 5) r = (if r = N.R then N.rv k else N.rv r) := z5
    clear z1 z2 z3 z4 z5
    show _ = ((if r = N.R then N.P else N.hd r : Nat) : Int) ∧ _ = ((if r = N.R then N.ft k else if r = k then N.P else N.ft r : Nat) : Int) ∧ _ = (if r = N.R then N.ln k - t else if r = k then t else N.ln r) ∧ _ = (if r = N.R then 0 else N.gf r) ∧ _ = (if r = N.R then N.rv k else N.rv r)
    have hkR : ¬ k = N.R := by omega
    by_cases q : r = k
    · subst q
      rw [if_neg hkR] at a1 a4 a5
      refine ⟨?_, ?_, ?_, ?_, ?_⟩ <;> simp only [st_v, hkR, if_false, if_true, show ¬ n + 1 = n + 2 by omega, show ¬ n + 1 = n + 3 by omega, show ¬ n + 2 = n + 3 by omega, show ¬ n + 3 = n + 2 by omega, show ¬ n + 4 = n + 2 by omega, show ¬ n + 4 = n + 3 by omega, show ¬ n + 5 = n + 2 by omega, show ¬ n + 5 = n + 3 by omega] <;> assumption
    · refine ⟨?_, ?_, ?_, ?_, ?_⟩ <;> simp only [st_v, q, if_false, if_true, show ¬ n + 1 = n + 2 by omega, show ¬ n + 1 = n + 3 by omega, show ¬ n + 2 = n + 3 by omega, show ¬ n + 3 = n + 2 by omega, show ¬ n + 4 = n + 2 by omega, show ¬ n + 4 = n + 3 by omega, show ¬ n + 5 = n + 2 by omega, show ¬ n + 5 = n + 3 by omega] <;> assumption
end
/-! what acts keep -/
def Good (N : Nt) : Prop := Wf N ∧ Acy (Ew N.R (-1)) N.hd N.ft
theorem Ew_all {R r : Nat} (h : r < R) : Ew R (-1) r := ⟨h, by omega⟩
theorem good_add {N : Nt} {a b : Nat} {l g v : Int} (h : Good N) (ha : a < N.P) (hb : b < N.P) (hR : N.R < 30) (hl : 1 ≤ l ∧ l ≤ 99) (hg : 0 ≤ g ∧ g ≤ 99) (hv : -1 ≤ v ∧ v < 10) (hno : ¬ Rch (Ew N.R (-1)) N.hd N.ft b a) : Good (N.add a b l g v) := by
  obtain ⟨⟨h1, h2, h3⟩, h4⟩ := h
  refine ⟨⟨h1, by show N.R + 1 ≤ 30; omega, fun r hr => ?_⟩, h4.add hno (fun r hr => ?_)⟩
  · have hr : r < N.R + 1 := hr
    show (if r = N.R then a else N.hd r) < N.P ∧ (if r = N.R then b else N.ft r) < N.P ∧ 1 ≤ (if r = N.R then l else N.ln r) ∧ (if r = N.R then l else N.ln r) ≤ 99 ∧ 0 ≤ (if r = N.R then g else N.gf r) ∧ (if r = N.R then g else N.gf r) ≤ 99 ∧ -1 ≤ (if r = N.R then v else N.rv r) ∧ (if r = N.R then v else N.rv r) < 10
    by_cases q : r = N.R
    · simp only [q, if_true]; omega
    · simp only [q, if_false]; exact h3 r (by omega)
  · have hr : r < N.R + 1 := hr.1
    show (_ ∧ (if r = N.R then a else N.hd r) = N.hd r ∧ (if r = N.R then b else N.ft r) = N.ft r) ∨ ((if r = N.R then a else N.hd r) = a ∧ (if r = N.R then b else N.ft r) = b)
    by_cases q : r = N.R
    · right; simp [q]
    · left; exact ⟨Ew_all (by omega), by simp [q], by simp [q]⟩
theorem good_drop {N : Nt} {k : Nat} (h : Good N) (hk : k < N.R) : Good (N.drop k) := by
  obtain ⟨⟨h1, h2, h3⟩, t, h4⟩ := h
  refine ⟨⟨h1, by show N.R - 1 ≤ 30; omega, fun r hr => h3 _ (skp_lt hk hr)⟩, t, fun r hr => h4 _ (Ew_all (skp_lt hk hr.1))⟩
theorem good_turn {N : Nt} {k : Nat} (h : Good N) (hk : k < N.R) (hno : ¬ Rch (Ew N.R k) N.hd N.ft (N.hd k) (N.ft k)) : Good (N.turn k) := by
  obtain ⟨⟨h1, h2, h3⟩, h4⟩ := h
  have h5 : Acy (Ew N.R k) N.hd N.ft := h4.mono (fun r hr => Ew_all hr.1)
  refine ⟨⟨h1, h2, fun r hr => ?_⟩, h5.add (x := N.ft k) (y := N.hd k) hno (fun r hr => ?_)⟩
  · have hr : r < N.R := hr
    have w1 := h3 r hr
    have w2 := h3 k hk
    show (if r = k then N.ft k else N.hd r) < N.P ∧ (if r = k then N.hd k else N.ft r) < N.P ∧ _
    by_cases q : r = k
    · simp only [q, if_true]
      subst q
      exact ⟨w1.2.1, w1.1, w1.2.2⟩
    · simp only [q, if_false]; exact w1
  · have hr : r < N.R := hr.1
    show (_ ∧ (if r = k then N.ft k else N.hd r) = N.hd r ∧ (if r = k then N.hd k else N.ft r) = N.ft r) ∨ ((if r = k then N.ft k else N.hd r) = N.ft k ∧ (if r = k then N.hd k else N.ft r) = N.hd k)
    by_cases q : r = k
    · right; simp [q]
    · left; exact ⟨⟨hr, by omega⟩, by simp [q], by simp [q]⟩
theorem good_cut {N : Nt} {k : Nat} {t : Int} (h : Good N) (hk : k < N.R) (hP : N.P < 20) (hR : N.R < 30) (ht : 1 ≤ t) (ht2 : t < N.ln k) : Good (N.cut k t) := by
  obtain ⟨⟨h1, h2, h3⟩, u, h4⟩ := h
  have w2 := h3 k hk
  refine ⟨⟨by show N.P + 1 ≤ 20; omega, by show N.R + 1 ≤ 30; omega, fun r hr => ?_⟩, fun p => if p = N.P then 2 * u (N.hd k) + 1 else 2 * u p, fun r hr => ?_⟩
  · have hr : r < N.R + 1 := hr
    show (if r = N.R then N.P else N.hd r) < N.P + 1 ∧ (if r = N.R then N.ft k else if r = k then N.P else N.ft r) < N.P + 1 ∧ 1 ≤ (if r = N.R then N.ln k - t else if r = k then t else N.ln r) ∧ (if r = N.R then N.ln k - t else if r = k then t else N.ln r) ≤ 99 ∧ 0 ≤ (if r = N.R then 0 else N.gf r) ∧ (if r = N.R then 0 else N.gf r) ≤ 99 ∧ -1 ≤ (if r = N.R then N.rv k else N.rv r) ∧ (if r = N.R then N.rv k else N.rv r) < 10
    by_cases q : r = N.R
    · simp only [q, if_true]; omega
    · have w1 := h3 r (by omega)
      by_cases q2 : r = k
      · subst q2; simp only [q, if_false, if_true]; omega
      · simp only [q, q2, if_false]; omega
  · have hr : r < N.R + 1 := hr.1
    have hkR : ¬ k = N.R := by omega
    show (if (if r = N.R then N.P else N.hd r) = N.P then 2 * u (N.hd k) + 1 else 2 * u (if r = N.R then N.P else N.hd r)) < (if (if r = N.R then N.ft k else if r = k then N.P else N.ft r) = N.P then 2 * u (N.hd k) + 1 else 2 * u (if r = N.R then N.ft k else if r = k then N.P else N.ft r))
    have e1 := h4 k (Ew_all hk)
    by_cases q : r = N.R
    · subst q
      simp only [if_true, show ¬ N.ft k = N.P by omega, if_false]
      omega
    · have w1 := h3 r (by omega)
      by_cases q2 : r = k
      · subst q2
        simp only [q, if_false, if_true, show ¬ N.hd r = N.P by omega]
        omega
      · have e2 := h4 r (Ew_all (by omega))
        simp only [q, q2, if_false, show ¬ N.hd r = N.P by omega, show ¬ N.ft r = N.P by omega]
        omega
theorem good_give {N : Nt} {k : Nat} {g : Int} (h : Good N) (hg : 0 ≤ g ∧ g ≤ 99) : Good (N.give k g) := by
  obtain ⟨⟨h1, h2, h3⟩, h4⟩ := h
  refine ⟨⟨h1, h2, fun r hr => ?_⟩, h4⟩
  have w1 := h3 r hr
  show _ ∧ _ ∧ _ ∧ _ ∧ 0 ≤ (if r = k then g else N.gf r) ∧ (if r = k then g else N.gf r) ≤ 99 ∧ _
  by_cases q : r = k
  · simp only [q, if_true]; subst q; exact ⟨w1.1, w1.2.1, w1.2.2.1, w1.2.2.2.1, hg.1, hg.2, w1.2.2.2.2.2.2⟩
  · simp only [q, if_false]; exact w1
theorem good_name {N : Nt} {k : Nat} {v : Int} (h : Good N) (hv : -1 ≤ v ∧ v < 10) : Good (N.name k v) := by
  obtain ⟨⟨h1, h2, h3⟩, h4⟩ := h
  refine ⟨⟨h1, h2, fun r hr => ?_⟩, h4⟩
  have w1 := h3 r hr
  show _ ∧ _ ∧ _ ∧ _ ∧ _ ∧ _ ∧ -1 ≤ (if r = k then v else N.rv r) ∧ (if r = k then v else N.rv r) < 10
  by_cases q : r = k
  · simp only [q, if_true]; subst q; exact ⟨w1.1, w1.2.1, w1.2.2.1, w1.2.2.2.1, w1.2.2.2.2.1, w1.2.2.2.2.2.1, hv.1, hv.2⟩
  · simp only [q, if_false]; exact w1
