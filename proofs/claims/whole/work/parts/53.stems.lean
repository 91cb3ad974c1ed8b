/-! stems: the mains -/
/-- the first of the greatest -/
def Fam (R : Nat) (sel : Nat → Prop) (w : Nat → Int) (x : Int) : Prop := (x = -1 ∧ ∀ r, r < R → ¬ sel r) ∨ ∃ b : Nat, x = b ∧ b < R ∧ sel b ∧ (∀ r, r < R → sel r → w r ≤ w b) ∧ (∀ r, r < b → sel r → w r < w b)
theorem Fam.uniq {R : Nat} {sel : Nat → Prop} {w : Nat → Int} {x y : Int} (h : Fam R sel w x) (h' : Fam R sel w y) : x = y := by
  rcases h with ⟨h1, h2⟩ | ⟨b, h1, h2, h3, h4, h5⟩ <;> rcases h' with ⟨k1, k2⟩ | ⟨c, k1, k2, k3, k4, k5⟩
  · omega
  · exact absurd k3 (h2 c k2)
  · exact absurd h3 (k2 b h2)
  · have e1 := h4 c k2 k3
    have e2 := k4 b h2 h3
    rcases Nat.lt_trichotomy b c with z | z | z
    · have := k5 b z h3; omega
    · omega
    · have := h5 c z k3; omega
theorem Fam.congr {R : Nat} {sel : Nat → Prop} {w w' : Nat → Int} {x : Int} (e : ∀ r, r < R → w' r = w r) (h : Fam R sel w x) : Fam R sel w' x := by
  rcases h with h | ⟨b, h1, h2, h3, h4, h5⟩
  · exact Or.inl h
  · exact Or.inr ⟨b, h1, h2, h3, fun r z1 z2 => by rw [e r z1, e b h2]; exact h4 r z1 z2, fun r z1 z2 => by rw [e r (by omega), e b h2]; exact h5 r z1 z2⟩
section
variable {k : Nat} {sel : Nat → Prop} {w : Nat → Int} {x : Int}
theorem Fam.zero : Fam 0 sel w (-1) := Or.inl ⟨rfl, fun r hr => by omega⟩
theorem Fam.skip (h : Fam k sel w x) (hs : ¬ sel k) : Fam (k + 1) sel w x := by
  rcases h with ⟨h1, h2⟩ | ⟨b, h1, h2, h3, h4, h5⟩
  · refine Or.inl ⟨h1, fun r hr => ?_⟩
    rcases Nat.lt_or_ge r k with z | z
    · exact h2 r z
    · rw [show r = k by omega]; exact hs
  · refine Or.inr ⟨b, h1, by omega, h3, fun r hr z2 => ?_, h5⟩
    rcases Nat.lt_or_ge r k with z | z
    · exact h4 r z z2
    · rw [show r = k by omega] at z2; exact absurd z2 hs
theorem Fam.first (h : Fam k sel w (-1)) (hs : sel k) : Fam (k + 1) sel w k := by
  rcases h with ⟨h1, h2⟩ | ⟨b, h1, h2, h3, h4, h5⟩
  · refine Or.inr ⟨k, rfl, by omega, hs, fun r hr z2 => ?_, fun r hr z2 => absurd z2 (h2 r hr)⟩
    rcases Nat.lt_or_ge r k with z | z
    · exact absurd z2 (h2 r z)
    · rw [show r = k by omega]; omega
  · omega
theorem Fam.keep {b : Nat} (h : Fam k sel w b) (hw : w k ≤ w b) : Fam (k + 1) sel w b := by
  rcases h with ⟨h1, h2⟩ | ⟨b', h1, h2, h3, h4, h5⟩
  · omega
  · have e : b' = b := by omega
    subst e
    refine Or.inr ⟨b', h1, by omega, h3, fun r hr z2 => ?_, h5⟩
    rcases Nat.lt_or_ge r k with z | z
    · exact h4 r z z2
    · rw [show r = k by omega]; exact hw
theorem Fam.over {b : Nat} (h : Fam k sel w b) (hs : sel k) (hw : w b < w k) : Fam (k + 1) sel w k := by
  rcases h with ⟨h1, h2⟩ | ⟨b', h1, h2, h3, h4, h5⟩
  · omega
  · have e : b' = b := by omega
    subst e
    refine Or.inr ⟨k, rfl, by omega, hs, fun r hr z2 => ?_, fun r hr z2 => ?_⟩
    · rcases Nat.lt_or_ge r k with z | z
      · have := h4 r z z2; omega
      · rw [show r = k by omega]; omega
    · have := h4 r hr z2; omega
theorem Fam.nat (h : Fam k sel w x) (hx : ¬ x = -1) : ∃ b : Nat, x = b ∧ b < k ∧ sel b := by
  rcases h with ⟨h1, h2⟩ | ⟨b, h1, h2, h3, h4, h5⟩
  · exact absurd h1 hx
  · exact ⟨b, h1, h2, h3⟩
end
def wgt (N : Nt) (f h : Nat → Int) (v : Int) (r : Nat) : Int := if v = 0 then f r else h (N.hd r) + N.ln r
/-- called as the one o that runs on the other side of p -/
def Cs (N : Nt) (e : Nat → Nat) (p : Nat) (o : Int) (r : Nat) : Prop := e r = p ∧ N.rv r ≠ -1 ∧ o ≠ -1 ∧ N.rv o.toNat = N.rv r
def CalV (N : Nt) (e : Nat → Nat) (f : Nat → Int) (p : Nat) (o x : Int) : Prop := (∃ c : Nat, x = c ∧ c < N.R ∧ Cs N e p o c ∧ ∀ r, r < c → ¬ Cs N e p o r) ∨ ((∀ r, r < N.R → ¬ Cs N e p o r) ∧ Fam N.R (fun r => e r = p) f x)
theorem CalV.uniq {N : Nt} {e : Nat → Nat} {f : Nat → Int} {p : Nat} {o x y : Int} (h : CalV N e f p o x) (h' : CalV N e f p o y) : x = y := by
  rcases h with ⟨c, h1, h2, h3, h4⟩ | ⟨h1, h2⟩ <;> rcases h' with ⟨d, k1, k2, k3, k4⟩ | ⟨k1, k2⟩
  · rcases Nat.lt_trichotomy c d with z | z | z
    · exact absurd h3 (k4 c z)
    · omega
    · exact absurd k3 (h4 d z)
  · exact absurd h3 (k1 c h2)
  · exact absurd k3 (h1 d k2)
  · exact h2.uniq k2
theorem CalV.congr {N : Nt} {e : Nat → Nat} {f f' : Nat → Int} {p : Nat} {o x : Int} (hf : ∀ r, r < N.R → f' r = f r) (h : CalV N e f p o x) : CalV N e f' p o x := by
  rcases h with h | ⟨h1, h2⟩
  · exact Or.inl h
  · exact Or.inr ⟨h1, h2.congr hf⟩
theorem CalV.rng {N : Nt} {e : Nat → Nat} {f : Nat → Int} {p : Nat} {o x : Int} (h : CalV N e f p o x) : x = -1 ∨ ∃ c : Nat, x = c ∧ c < N.R ∧ e c = p := by
  rcases h with ⟨c, h1, h2, h3, h4⟩ | ⟨h1, ⟨h2, -⟩ | ⟨b, h2, h3, h4, -⟩⟩
  · exact Or.inr ⟨c, h1, h2, h3.1⟩
  · exact Or.inl h2
  · exact Or.inr ⟨b, h2, h3, h4⟩
/-- which runs on to a place, by a way -/
def MIn (N : Nt) (f h : Nat → Int) (w : Int) (p : Nat) (x : Int) : Prop := (w ≠ 2 ∧ Fam N.R (fun r => N.ft r = p) (wgt N f h (if w = 1 then 1 else 0)) x) ∨ (w = 2 ∧ ∃ o, Fam N.R (fun r => N.hd r = p) f o ∧ CalV N N.ft f p o x)
def MOut (N : Nt) (f : Nat → Int) (w : Int) (p : Nat) (x : Int) : Prop := (w ≠ 2 ∧ Fam N.R (fun r => N.hd r = p) f x) ∨ (w = 2 ∧ ∃ i, Fam N.R (fun r => N.ft r = p) f i ∧ CalV N N.hd f p i x)
section
variable {N : Nt} {f f' h h' : Nat → Int} {w : Int} {p : Nat} {x y : Int}
theorem MIn.uniq (hW : Wf N) (hf : ∀ r, r < N.R → f' r = f r) (hh : ∀ q, q < N.P → h' q = h q) (h1 : MIn N f h w p x) (h2 : MIn N f' h' w p y) : x = y := by
  rcases h1 with ⟨h0, h1⟩ | ⟨h0, o, h1, h3⟩ <;> rcases h2 with ⟨k0, k1⟩ | ⟨k0, o', k1, k3⟩
  · refine Fam.uniq h1 (k1.congr (fun r hr => ?_))
    unfold wgt
    rw [hf r hr, hh _ (hW.2.2 r hr).1]
  · exact absurd k0 h0
  · exact absurd h0 k0
  · have e : o = o' := h1.uniq (k1.congr (fun r hr => (hf r hr).symm))
    subst e
    exact h3.uniq (k3.congr (fun r hr => (hf r hr).symm))
theorem MOut.uniq (hf : ∀ r, r < N.R → f' r = f r) (h1 : MOut N f w p x) (h2 : MOut N f' w p y) : x = y := by
  rcases h1 with ⟨h0, h1⟩ | ⟨h0, o, h1, h3⟩ <;> rcases h2 with ⟨k0, k1⟩ | ⟨k0, o', k1, k3⟩
  · exact Fam.uniq h1 (k1.congr (fun r hr => (hf r hr).symm))
  · exact absurd k0 h0
  · exact absurd h0 k0
  · have e : o = o' := h1.uniq (k1.congr (fun r hr => (hf r hr).symm))
    subst e
    exact h3.uniq (k3.congr (fun r hr => (hf r hr).symm))
theorem MIn.rng (h : MIn N f h w p x) : x = -1 ∨ ∃ c : Nat, x = c ∧ c < N.R ∧ N.ft c = p := by
  rcases h with ⟨-, ⟨h2, -⟩ | ⟨b, h2, h3, h4, -⟩⟩ | ⟨-, o, -, h⟩
  · exact Or.inl h2
  · exact Or.inr ⟨b, h2, h3, h4⟩
  · exact h.rng
theorem MOut.rng (h : MOut N f w p x) : x = -1 ∨ ∃ c : Nat, x = c ∧ c < N.R ∧ N.hd c = p := by
  rcases h with ⟨-, ⟨h2, -⟩ | ⟨b, h2, h3, h4, -⟩⟩ | ⟨-, o, -, h⟩
  · exact Or.inl h2
  · exact Or.inr ⟨b, h2, h3, h4⟩
  · exact h.rng
end
section
variable {M : Mem} {N : Nt} {n a g : Nat}
theorem x_weight {r : Nat} {v : Int} (hN : NetX M a N) (hW : Wf N) (hr : r < N.R) (hh : ∀ p, p < N.P → 0 ≤ M (g + 7) p ∧ M (g + 7) p ≤ 2970) {Q : Int → Prop} (h : Q (wgt N (M (g + 12)) (M (g + 7)) v r)) : f_X9_weight a g r v M Q := by
  obtain ⟨w1, w2, w3, w4, -⟩ := hW.2.2 r hr
  obtain ⟨x1, x2, x3, -, -⟩ := hN.2.2 r hr
  have := hW.1
  have := hW.2.1
  have := hh _ w1
  unfold wgt at h
  refine ⟨fun c => ⟨by omega, ?_⟩, fun c => ⟨by omega, ?_⟩⟩
  · rw [if_pos c] at h; rw [tn]; exact h
  · rw [if_neg c] at h
    rw [tn, x1, x3, tn, Int.add_comm]
    exact ⟨by omega, by unfold inR; omega, h⟩
theorem x_findMains {v : Int} (hN : NetX M a N) (hW : Wf N) (ha : a + 5 < n) (hg : g + 15 < n) (hh : ∀ p, p < N.P → 0 ≤ M (g + 7) p ∧ M (g + 7) p ≤ 2970) {Q : Mem → Prop} (h : ∀ M' : Mem, (∀ c, c ≠ n + 1 → c ≠ n + 2 → M' c = M c) → (∀ p, p < 20 → Fam N.R (fun r => N.ft r = p) (wgt N (M (g + 12)) (M (g + 7)) v) (M' (n + 1) p)) → (∀ p, p < 20 → Fam N.R (fun r => N.hd r = p) (M (g + 12)) (M' (n + 2) p)) → Q M') : f_X9_findMains n a g v M Q := by
  obtain ⟨hP20, hR30, hr⟩ := id hW
  unfold f_X9_findMains
  rintro _ rfl
  rintro _ rfl
  refine wl2_inv (I := fun (i : Int) (M' : Mem) => ∃ k : Nat, i = k ∧ k ≤ N.R ∧ (∀ c, c ≠ n + 1 → c ≠ n + 2 → M' c = M c) ∧ (∀ p, p < 20 → Fam k (fun r => N.ft r = p) (wgt N (M (g + 12)) (M (g + 7)) v) (M' (n + 1) p)) ∧ (∀ p, p < 20 → Fam k (fun r => N.hd r = p) (M (g + 12)) (M' (n + 2) p))) (μ := fun (v : Int) (_ : Mem) => N.R - v.toNat) ?_ 5000 _ _ ⟨0, rfl, by omega, fun c h1 h2 => by rw [fil_n h2, fil_n h1], fun p hp => ?_, fun p hp => ?_⟩ (by simp; omega)
  rotate_left
  · rw [fil_n (by omega), fil_e, if_pos hp]; exact Fam.zero
  · rw [fil_e, if_pos hp]; exact Fam.zero
  rintro rec i M' ⟨k, rfl, hk, g1, g2, g3⟩ hrec
  unfold X9_findMains_b28
  have hN' : NetX M' a N := hN.of (fun c _ _ => g1 c (by omega) (by omega))
  rw [hN'.2.1]
  refine ⟨fun c => ?_, fun c => ⟨by omega, ?_⟩⟩
  · have e : k = N.R := by omega
    subst e
    exact h M' g1 g2 g3
  · have hkR : k < N.R := by omega
    obtain ⟨x1, x2, -⟩ := hN'.2.2 k hkR
    obtain ⟨w1, w2, -⟩ := hr k hkR
    rw [tn, x2, tn]
    refine ⟨by omega, ?_⟩
    rintro _ rfl
    refine jn_use (P := fun J => ∀ M2 : Mem, (∀ c, c ≠ n + 1 → M2 c = M' c) → (∀ p, p < 20 → Fam (k + 1) (fun r => N.ft r = p) (wgt N (M (g + 12)) (M (g + 7)) v) (M2 (n + 1) p)) → J M2) ?_ ?_
    · intro M2 f1 f2
      have hN2 : NetX M2 a N := hN'.of (fun c _ _ => f1 c (by omega))
      have hfl : M2 (g + 11 + 1) = M (g + 12) := by rw [f1 _ (by omega), g1 _ (by omega) (by omega)]
      have ho : ∀ p, M2 (n + 2) p = M' (n + 2) p := fun p => by rw [f1 _ (by omega)]
      rw [(hN2.2.2 k hkR).1, tn, hfl]
      refine ⟨by omega, ?_⟩
      rintro _ rfl
      have hcur := g3 (N.hd k) (by omega)
      rw [ho]
      have hother : ∀ p, p < 20 → p ≠ N.hd k → Fam (k + 1) (fun r => N.hd r = p) (M (g + 12)) (M' (n + 2) p) := fun p hp e => (g3 p hp).skip (fun z => e z.symm)
      refine jn_use (P := fun J => Fam (k + 1) (fun r => N.hd r = N.hd k) (M (g + 12)) k → J (k : Int)) ?_ ?_
      · intro hf
        rw [tn, (hN2.2.2 k hkR).1, tn]
        refine ⟨by omega, by omega, ?_⟩
        rintro _ rfl
        refine ⟨by unfold inR; omega, ?_⟩
        rintro _ rfl
        refine hrec _ _ ⟨k + 1, by omega, by omega, fun c h1 h2 => by rw [st_o h2, f1 c h1]; exact g1 c h1 h2, fun p hp => by rw [st_o (by omega)]; exact f2 p hp, fun p hp => ?_⟩ (by omega)
        rw [st_s]
        by_cases e : p = N.hd k
        · subst e; rw [if_pos rfl]; exact hf
        · rw [if_neg e, ho]; exact hother p hp e
      · intro J hJ
        refine ⟨fun c1 => hJ ?_, fun c1 => ?_⟩
        · rw [c1] at hcur; exact hcur.first rfl
        · obtain ⟨b, e1, e2, e3⟩ := hcur.nat c1
          rw [e1] at hcur ⊢
          rw [tn]
          refine ⟨by omega, fun c2 => ⟨by unfold inR; omega, ?_⟩, fun c2 => hJ (hcur.over rfl (by omega))⟩
          rintro _ rfl
          refine hrec _ _ ⟨k + 1, by omega, by omega, fun c h1 h2 => by rw [f1 c h1]; exact g1 c h1 h2, f2, fun p hp => ?_⟩ (by omega)
          rw [ho]
          by_cases e : p = N.hd k
          · subst e; rw [e1]; exact hcur.keep c2
          · exact hother p hp e
    · intro J hJ
      have hcur := g2 (N.ft k) (by omega)
      have hh' : ∀ p, p < N.P → 0 ≤ M' (g + 7) p ∧ M' (g + 7) p ≤ 2970 := by rw [g1 (g + 7) (by omega) (by omega)]; exact hh
      have hother : ∀ p, p < 20 → p ≠ N.ft k → Fam (k + 1) (fun r => N.ft r = p) (wgt N (M (g + 12)) (M (g + 7)) v) (M' (n + 1) p) := fun p hp e => (g2 p hp).skip (fun z => e z.symm)
      have hset : Fam (k + 1) (fun r => N.ft r = N.ft k) (wgt N (M (g + 12)) (M (g + 7)) v) k → ∀ M_22 : Mem, M_22 = st M' (n + 1) (N.ft k) k → J M_22 := by
        intro hf
        rintro _ rfl
        refine hJ _ (fun c hc => st_o hc) (fun p hp => ?_)
        rw [st_s]
        by_cases e : p = N.ft k
        · subst e; rw [if_pos rfl]; exact hf
        · rw [if_neg e]; exact hother p hp e
      refine ⟨fun c1 => hset ?_, fun c1 => ?_⟩
      · rw [c1] at hcur; exact hcur.first rfl
      · obtain ⟨b, e1, e2, e3⟩ := hcur.nat c1
        rw [e1] at hcur ⊢
        refine x_weight hN' hW hkR hh' (x_weight hN' hW (by omega) hh' ?_)
        rw [g1 (g + 12) (by omega) (by omega), g1 (g + 7) (by omega) (by omega)]
        refine ⟨fun c2 => hJ M' (fun c _ => rfl) (fun p hp => ?_), fun c2 => hset (hcur.over rfl (by omega))⟩
        by_cases e : p = N.ft k
        · subst e; rw [e1]; exact hcur.keep c2
        · exact hother p hp e
end
