/-! stems -/
/-- A adds f up along the stem -/
def Acc (N : Nt) (nx : Nat → Int) (f A : Nat → Int) : Prop := ∀ r, r < N.R → (nx r = -1 → A r = f r) ∧ ∀ d : Nat, nx r = d → A r = f r + A d
theorem acc_ex {N : Nt} {nx bf : Nat → Int} {pos : Nat → Nat} (hn : Nxt N nx bf) (hp : ∀ r, r < N.R → pos (N.hd r) < pos (N.ft r) ∧ pos (N.hd r) < 20) (f : Nat → Int) : ∃ A, Acc N nx f A := by
  obtain ⟨A, h⟩ := fix_ex (t := fun r => 20 - pos (N.hd r)) (F := fun r g => if r < N.R ∧ nx r ≠ -1 then f r + g (nx r).toNat else f r) (fun r g g' h => by
    by_cases q : r < N.R ∧ nx r ≠ -1
    · rw [if_pos q, if_pos q]
      rcases hn.1 r q.1 with z | ⟨c, z1, z2, z3, -⟩
      · exact absurd z q.2
      · have a1 := hp r q.1
        have a2 := hp c z2
        rw [z1, tn, h c (by rw [z3]; omega)]
    · rw [if_neg q, if_neg q])
  refine ⟨A, fun r hr => ⟨fun z => ?_, fun d z => ?_⟩⟩
  · rw [h r, if_neg (fun y => y.2 z)]
  · have := h r
    rw [if_pos ⟨hr, by omega⟩, z, tn] at this
    exact this
theorem Acc.pos {N : Nt} {nx bf : Nat → Int} {pos : Nat → Nat} {f A : Nat → Int} (hn : Nxt N nx bf) (hp : ∀ r, r < N.R → pos (N.hd r) < pos (N.ft r) ∧ pos (N.hd r) < 20) (h : Acc N nx f A) (hf : ∀ r, r < N.R → 1 ≤ f r) : ∀ r, r < N.R → 1 ≤ A r := by
  have key : ∀ m r, r < N.R → 20 - pos (N.hd r) < m → 1 ≤ A r := by
    intro m
    induction m with
    | zero => intro r _ z; omega
    | succ m ih =>
      intro r hr z
      have h0 := hf r hr
      rcases hn.1 r hr with y | ⟨c, y1, y2, y3, -⟩
      · rw [(h r hr).1 y]; exact h0
      · have a1 := hp r hr
        have a2 := hp c y2
        have := ih c y2 (by rw [y3]; rw [y3] at a2; omega)
        rw [(h r hr).2 c y1]; omega
  exact fun r hr => key _ r hr (Nat.lt_succ_self _)
section
variable {M : Mem} {N : Nt} {n a : Nat} {pos : Nat → Nat}
theorem x_lengthOf {t : Nat} {A bf : Nat → Int} (hN : NetX M a N) (hW : Wf N) (ht : t < N.R) (hp : ∀ r, r < N.R → pos (N.hd r) < pos (N.ft r) ∧ pos (N.hd r) < 20) (hn : Nxt N (M (n + 3)) bf) (hA : Acc N (M (n + 3)) N.ln A) {Q : Int → Prop} (h : Q (A t)) : f_X9_lengthOf n a (t : Int) M Q := by
  have hR := hW.2.1
  unfold f_X9_lengthOf
  refine wl3_inv (I := fun (s v i : Int) => ∃ k : Nat, i = k ∧ 0 ≤ s ∧ s ≤ 99 * k ∧ ((v = -1 ∧ s = A t ∧ k ≤ 20) ∨ ∃ c : Nat, v = c ∧ c < N.R ∧ s + A c = A t ∧ k ≤ pos (N.hd c))) (μ := fun (_ _ i : Int) => 30 - i.toNat) ?_ 5000 _ _ _ ⟨0, rfl, by omega, by omega, Or.inr ⟨t, rfl, ht, by omega, by omega⟩⟩ (by simp)
  rintro rec s v i ⟨k, rfl, hs0, hs1, hI⟩ hrec
  unfold X9_lengthOf_b8
  rcases hI with ⟨rfl, rfl, hk⟩ | ⟨c, rfl, hc, hsum, hk⟩
  · exact ⟨fun z => by omega, fun z => ⟨fun _ => h, fun y => absurd rfl y⟩⟩
  · have hpc := hp c hc
    obtain ⟨-, -, w3, w4, -⟩ := hW.2.2 c hc
    refine ⟨fun z => by omega, fun z => ⟨fun y => by omega, fun _ => ⟨by omega, ?_⟩⟩⟩
    rw [tn, (hN.2.2 c hc).2.2.1]
    refine ⟨by unfold inR; omega, ?_⟩
    rintro _ rfl
    rintro _ rfl
    refine ⟨by unfold inR; omega, ?_⟩
    rintro _ rfl
    refine hrec _ _ _ ⟨k + 1, by omega, by omega, by omega, ?_⟩ (by omega)
    rcases hn.1 c hc with y | ⟨d, y1, y2, y3, -⟩
    · have := (hA c hc).1 y
      exact Or.inl ⟨y, by omega, by omega⟩
    · have := (hA c hc).2 d y1
      exact Or.inr ⟨d, y1, y2, by omega, by rw [y3]; omega⟩
theorem r_stemOf {t w : Nat} {v : Int} {A bf : Nat → Int} (hw : w < 3) (hN : NetR M 100 N) (hW : Wf N) (ht : t < N.R) (hp : ∀ r, r < N.R → pos (N.hd r) < pos (N.ft r) ∧ pos (N.hd r) < 20) (hn : Nxt N (rw_ M 112 w) bf) (hA : Acc N (rw_ M 112 w) (fun r => if v = 0 then 1 else N.ln r) A) {Q : Int → Prop} (h : Q (A t)) : f_X12_stemOf (t : Int) (w : Int) v M Q := by
  have hR := hW.2.1
  unfold f_X12_stemOf
  refine wl2_inv (I := fun (s u : Int) => 0 ≤ s ∧ ((u = -1 ∧ s = A t) ∨ ∃ c : Nat, u = c ∧ c < N.R ∧ s + A c = A t ∧ s ≤ 99 * (pos (N.hd c) : Int))) (μ := fun (_ u : Int) => if u = -1 then 0 else 1 + (20 - pos (N.hd u.toNat))) ?_ 5000 _ _ ⟨by omega, Or.inr ⟨t, rfl, ht, by omega, by omega⟩⟩ (by split <;> omega)
  rintro rec s u ⟨hs0, hI⟩ hrec
  unfold X12_stemOf_b6
  rcases hI with ⟨rfl, rfl⟩ | ⟨c, rfl, hc, hsum, hk⟩
  · exact ⟨fun _ => h, fun y => absurd rfl y⟩
  · have hpc := hp c hc
    obtain ⟨-, -, w3, w4, -⟩ := hW.2.2 c hc
    refine ⟨fun y => by omega, fun _ => ?_⟩
    refine jn_use (P := fun J => J (if v = 0 then 1 else N.ln c)) ?_ (fun J hJ => ⟨fun z => by rw [if_pos z] at hJ; exact hJ, fun z => by rw [if_neg z] at hJ; exact r_ln hN hW hc hJ⟩)
    have hf : 1 ≤ (if v = 0 then (1 : Int) else N.ln c) ∧ (if v = 0 then (1 : Int) else N.ln c) ≤ 99 := by split <;> omega
    refine ⟨by unfold inR; omega, ?_⟩
    rintro _ rfl
    refine r_by hw (by omega) ⟨by omega, ?_⟩
    rw [tn]
    rintro _ rfl
    rcases hn.1 c hc with y | ⟨d, y1, y2, y3, -⟩
    · have e := (hA c hc).1 y
      have y' : M 112 (30 * w + c) = -1 := y
      rw [y']
      refine hrec _ _ ⟨by omega, Or.inl ⟨rfl, ?_⟩⟩ (by rw [if_pos rfl, if_neg (by omega)]; omega)
      dsimp only at e
      omega
    · have e := (hA c hc).2 d y1
      have y1' : M 112 (30 * w + c) = d := y1
      have hpd := hp d y2
      rw [y3] at hpd
      rw [y1']
      dsimp only at e
      refine hrec _ _ ⟨by omega, Or.inr ⟨d, rfl, y2, by omega, by rw [y3]; omega⟩⟩ ?_
      rw [if_neg (by omega), if_neg (by omega), tn, tn, y3]
      omega
theorem x_howManyStems (hN : NetX M a N) (hW : Wf N) {Q : Int → Prop} (h : Q (cnt (fun r => decide (M (n + 4) r = -1)) N.R : Int)) : f_X9_howManyStems n a M Q := by
  have hR := hW.2.1
  unfold f_X9_howManyStems
  refine wl2_inv (I := fun (s v : Int) => ∃ k : Nat, v = k ∧ k ≤ N.R ∧ s = (cnt (fun r => decide (M (n + 4) r = -1)) k : Int)) (μ := fun (_ v : Int) => N.R - v.toNat) ?_ 5000 _ _ ⟨0, rfl, by omega, rfl⟩ (by simp; omega)
  rintro rec s v ⟨k, rfl, hk, rfl⟩ hrec
  unfold X9_howManyStems_b4
  rw [hN.2.1]
  have hl := cnt_le (fun r => decide (M (n + 4) r = -1)) k
  refine ⟨fun c => by rw [show k = N.R by omega]; exact h, fun c => ⟨by omega, ?_⟩⟩
  rw [tn]
  refine ⟨fun c1 => ⟨by unfold inR; omega, ?_⟩, fun c1 => ⟨by unfold inR; omega, ?_⟩⟩
  · rintro _ rfl
    exact hrec _ _ ⟨k + 1, by omega, by omega, by rw [cnt_s, if_neg (by simpa using c1)]; rfl⟩ (by omega)
  · rintro _ rfl
    refine ⟨by unfold inR; omega, ?_⟩
    rintro _ rfl
    exact hrec _ _ ⟨k + 1, by omega, by omega, by rw [cnt_s, if_pos (by simpa using c1)]; omega⟩ (by omega)
theorem x_longest {A : Nat → Int} (hN : NetX M a N) (hW : Wf N) (hp : ∀ r, r < N.R → pos (N.hd r) < pos (N.ft r) ∧ pos (N.hd r) < 20) (hn : Nxt N (M (n + 3)) (M (n + 4))) (hA : Acc N (M (n + 3)) N.ln A) {Q : Int → Prop} (h : ∀ x : Int, Fam N.R (fun r => M (n + 4) r = -1) A x → Q x) : f_X9_longest n a M Q := by
  have hR := hW.2.1
  have hA1 := hA.pos hn hp (fun r hr => (hW.2.2 r hr).2.2.1)
  unfold f_X9_longest
  refine wl3_inv (I := fun (x s v : Int) => ∃ k : Nat, v = k ∧ k ≤ N.R ∧ Fam k (fun r => M (n + 4) r = -1) A x ∧ (x = -1 → s = 0) ∧ (∀ b : Nat, x = b → s = A b) ∧ 0 ≤ s) (μ := fun (_ _ v : Int) => N.R - v.toNat) ?_ 5000 _ _ _ ⟨0, rfl, by omega, Fam.zero, fun _ => rfl, fun b z => by omega, by omega⟩ (by simp; omega)
  rintro rec x s v ⟨k, rfl, hk, hF, i1, i2, i3⟩ hrec
  unfold X9_longest_b7
  rw [hN.2.1]
  refine ⟨fun c => by rw [show k = N.R by omega] at hF; exact h x hF, fun c => ⟨by omega, ?_⟩⟩
  have hkR : k < N.R := by omega
  have hgo : ∀ y s' : Int, Fam (k + 1) (fun r => M (n + 4) r = -1) A y → (y = -1 → s' = 0) → (∀ b : Nat, y = b → s' = A b) → 0 ≤ s' → inR ((k : Int) + 1) ∧ ∀ v4 : Int, v4 = (k : Int) + 1 → rec y s' v4 := fun y s' q1 q2 q3 q4 => by
    refine ⟨by unfold inR; omega, ?_⟩
    rintro _ rfl
    exact hrec _ _ _ ⟨k + 1, by omega, by omega, q1, q2, q3, q4⟩ (by omega)
  rw [tn]
  refine jn_use (P := fun J => (M (n + 4) k ≠ -1 → J 0) ∧ (M (n + 4) k = -1 → J (A k))) ⟨fun z => ⟨fun _ => hgo x s (hF.skip z) i1 i2 i3, fun y => by omega⟩, fun z => ?_⟩ (fun J hJ => ⟨hJ.1, fun z => x_lengthOf hN hW hkR hp hn hA (hJ.2 z)⟩)
  have hk1 := hA1 k hkR
  by_cases e : x = -1
  · have := i1 e
    refine ⟨fun y => by omega, fun y => hgo k (A k) (by rw [e] at hF; exact hF.first z) (fun q => by omega) (fun b q => by rw [show k = b by omega]) (by omega)⟩
  · obtain ⟨b, b1, b2, b3⟩ := hF.nat e
    subst b1
    have := i2 b rfl
    exact ⟨fun y => hgo b s (hF.keep (by omega)) i1 i2 i3, fun y => hgo k (A k) (hF.over z (by omega)) (fun q => by omega) (fun b q => by rw [show k = b by omega]) (by omega)⟩
end
