/-! stems: names, joins, branches, crowns -/
def Lst (N : Nt) (br : Nat → Int) (p : Nat) (l : Int) : Prop := (l = 0 ∧ ∀ q, q < N.R → N.hd q ≠ p) ∨ ((∃ q, q < N.R ∧ N.hd q = p ∧ br q = l) ∧ ∀ q, q < N.R → N.hd q = p → l ≤ br q)
theorem Lst.uniq {N : Nt} {br br' : Nat → Int} {p : Nat} {l l' : Int} (e : ∀ q, q < N.R → N.hd q = p → br q = br' q) (h : Lst N br p l) (h' : Lst N br' p l') : l = l' := by
  rcases h with ⟨h1, h2⟩ | ⟨⟨q, h1, h2, h3⟩, h4⟩ <;> rcases h' with ⟨k1, k2⟩ | ⟨⟨q', k1, k2, k3⟩, k4⟩
  · omega
  · exact absurd k2 (h2 q' k1)
  · exact absurd h2 (k2 q h1)
  · have a1 := h4 q' k1 k2
    have a2 := k4 q h1 h2
    have a3 := e q h1 h2
    have a4 := e q' k1 k2
    omega
theorem Lst.congr {N : Nt} {br br' : Nat → Int} {p : Nat} {l : Int} (e : ∀ q, q < N.R → N.hd q = p → br q = br' q) (h : Lst N br p l) : Lst N br' p l := by
  rcases h with h | ⟨⟨q, h1, h2, h3⟩, h4⟩
  · exact Or.inl h
  · exact Or.inr ⟨⟨q, h1, h2, by rw [← e q h1 h2]; exact h3⟩, fun q z1 z2 => by rw [← e q z1 z2]; exact h4 q z1 z2⟩
def Brn (N : Nt) (nx br : Nat → Int) : Prop := ∀ r, r < N.R → 1 ≤ br r ∧ br r ≤ 30 ∧ (nx r ≠ -1 → br r = br (nx r).toNat) ∧ (nx r = -1 → ∃ l, Lst N br (N.ft r) l ∧ br r = 1 + l)
def Crw (N : Nt) (nx bf mt c1 cr : Nat → Int) : Prop := ∀ r, r < N.R → (bf r = -1 → c1 r = max (mt r) 0) ∧ (bf r ≠ -1 → c1 r = max (mt r) (c1 (bf r).toNat)) ∧ (nx r = -1 → cr r = c1 r) ∧ (nx r ≠ -1 → cr r = cr (nx r).toNat)
/-- going on: nx r begins where r ends -/
def Nxt (N : Nt) (nx bf : Nat → Int) : Prop := (∀ r, r < N.R → nx r = -1 ∨ ∃ c : Nat, nx r = c ∧ c < N.R ∧ N.hd c = N.ft r ∧ bf c = r) ∧ (∀ r, r < N.R → bf r = -1 ∨ ∃ c : Nat, bf r = c ∧ c < N.R ∧ N.ft c = N.hd r ∧ nx c = r)
def Jnd (N : Nt) (I O nx bf : Nat → Int) : Prop := ∀ r : Nat, r < N.R → (nx r = if I (N.ft r) = (r : Int) then O (N.ft r) else -1) ∧ (bf r = if O (N.hd r) = (r : Int) then I (N.hd r) else -1)
theorem Jnd.nxt {N : Nt} (hW : Wf N) {f h : Nat → Int} {w : Int} {I O nx bf : Nat → Int} (hI : ∀ p, p < N.P → MIn N f h w p (I p)) (hO : ∀ p, p < N.P → MOut N f w p (O p)) (hJ : Jnd N I O nx bf) : Nxt N nx bf := by
  refine ⟨fun r hr => ?_, fun r hr => ?_⟩
  · obtain ⟨w1, w2, -⟩ := hW.2.2 r hr
    rw [(hJ r hr).1]
    by_cases q : I (N.ft r) = (r : Int)
    · rw [if_pos q]
      rcases (hO _ w2).rng with z | ⟨c, z1, z2, z3⟩
      · exact Or.inl z
      · refine Or.inr ⟨c, z1, z2, z3, ?_⟩
        rw [(hJ c z2).2, z3, if_pos z1, q]
    · rw [if_neg q]; exact Or.inl rfl
  · obtain ⟨w1, w2, -⟩ := hW.2.2 r hr
    rw [(hJ r hr).2]
    by_cases q : O (N.hd r) = (r : Int)
    · rw [if_pos q]
      rcases (hI _ w1).rng with z | ⟨c, z1, z2, z3⟩
      · exact Or.inl z
      · refine Or.inr ⟨c, z1, z2, z3, ?_⟩
        rw [(hJ c z2).1, z3, if_pos z1, q]
    · rw [if_neg q]; exact Or.inl rfl
theorem Brn.uniq {N : Nt} (hG : Good N) {nx bf br br' : Nat → Int} (hn : Nxt N nx bf) (h : Brn N nx br) (h' : Brn N nx br') : ∀ r, r < N.R → br r = br' r := by
  have key : ∀ p, ∀ r, r < N.R → N.ft r = p → br r = br' r := by
    refine hG.2.ind_up (R := N.R) (fun r hr => hr.1) (C := fun p => ∀ r, r < N.R → N.ft r = p → br r = br' r) (fun p ih r hr e => ?_)
    obtain ⟨-, -, a1, a2⟩ := h r hr
    obtain ⟨-, -, b1, b2⟩ := h' r hr
    rcases hn.1 r hr with z | ⟨c, z1, z2, z3, -⟩
    · obtain ⟨l, l1, l2⟩ := a2 z
      obtain ⟨l', l3, l4⟩ := b2 z
      rw [l2, l4, l1.uniq (fun q hq eq => ih q (Ew_all hq) (by rw [eq, e]) q hq rfl) l3]
    · have hne : nx r ≠ -1 := by omega
      rw [a1 hne, b1 hne, z1, tn]
      exact ih c (Ew_all z2) (by rw [z3, e]) c z2 rfl
  exact fun r hr => key _ r hr rfl
section
variable {M : Mem} {N : Nt} {n a g : Nat}
theorem x_preferNames {s : Nat} {w : Nat → Int} (hN : NetX M a N) (hW : Wf N) (ha : a + 5 < n) (hs : s + 2 < n) (hi : ∀ p, p < 20 → Fam N.R (fun r => N.ft r = p) w (M (s + 1) p)) (ho : ∀ p, p < 20 → Fam N.R (fun r => N.hd r = p) w (M (s + 2) p)) (hi2 : ∀ p, p < 20 → Fam N.R (fun r => N.ft r = p) w (M (n + 1) p)) (ho2 : ∀ p, p < 20 → Fam N.R (fun r => N.hd r = p) w (M (n + 2) p)) {Q : Mem → Prop} (h : ∀ M' : Mem, (∀ c, c ≠ n + 1 → c ≠ n + 2 → M' c = M c) → (∀ p, p < 20 → CalV N N.ft w p (M (s + 2) p) (M' (n + 1) p)) → (∀ p, p < 20 → CalV N N.hd w p (M (s + 1) p) (M' (n + 2) p)) → Q M') : f_X9_preferNames n a s M Q := by
  obtain ⟨hP20, hR30, hr⟩ := id hW
  unfold f_X9_preferNames
  rw [hN.2.1]
  refine ⟨by unfold inR; omega, ?_⟩
  rintro _ rfl
  have hX : ∃ X : (Nat → Nat) → Nat → Int → Nat → Int → Prop, X = fun (e : Nat → Nat) (p : Nat) (o : Int) (j : Nat) (x : Int) => (∃ c : Nat, x = c ∧ (j ≤ c ∧ c < N.R) ∧ Cs N e p o c ∧ ∀ r, j ≤ r → r < c → ¬ Cs N e p o r) ∨ ((∀ r, j ≤ r → r < N.R → ¬ Cs N e p o r) ∧ Fam N.R (fun r => e r = p) w x) := ⟨_, rfl⟩
  obtain ⟨X, hX⟩ := hX
  have hskip : ∀ e p o j x, X e p o (j + 1) x → ¬ Cs N e p o j → X e p o j x := by
    intro e p o j x h1 h2
    rw [hX] at h1 ⊢
    rcases h1 with ⟨c, z1, z2, z3, z4⟩ | ⟨z1, z2⟩
    · refine Or.inl ⟨c, z1, by omega, z3, fun r y1 y2 => ?_⟩
      rcases Nat.lt_or_ge j r with u | u
      · exact z4 r u y2
      · rw [show r = j by omega]; exact h2
    · refine Or.inr ⟨fun r y1 y2 => ?_, z2⟩
      rcases Nat.lt_or_ge j r with u | u
      · exact z1 r u y2
      · rw [show r = j by omega]; exact h2
  have hset : ∀ e p o j, j < N.R → Cs N e p o j → X e p o j (j : Int) := by
    intro e p o j hj h1
    rw [hX]
    exact Or.inl ⟨j, rfl, by omega, h1, fun r y1 y2 => by omega⟩
  refine wl2_inv (I := fun (v : Int) (M' : Mem) => ∃ j : Nat, v = (j : Int) - 1 ∧ j ≤ N.R ∧ (∀ c, c ≠ n + 1 → c ≠ n + 2 → M' c = M c) ∧ (∀ p, p < 20 → X N.ft p (M (s + 2) p) j (M' (n + 1) p)) ∧ (∀ p, p < 20 → X N.hd p (M (s + 1) p) j (M' (n + 2) p))) (μ := fun (v : Int) (_ : Mem) => (v + 1).toNat) ?_ 5000 _ _ ⟨N.R, rfl, by omega, fun c _ _ => rfl, fun p hp => ?_, fun p hp => ?_⟩ (by omega)
  rotate_left
  · rw [hX]; exact Or.inr ⟨fun r y1 y2 => by omega, hi2 p hp⟩
  · rw [hX]; exact Or.inr ⟨fun r y1 y2 => by omega, ho2 p hp⟩
  rintro rec v M' ⟨j, rfl, hj, g1, g2, g3⟩ hrec
  unfold X9_preferNames_b7
  have hN' : NetX M' a N := hN.of (fun c _ _ => g1 c (by omega) (by omega))
  refine ⟨fun c => ?_, fun c => ⟨by omega, ?_⟩⟩
  · have e : j = 0 := by omega
    subst e
    rw [hX] at g2 g3
    refine h M' g1 (fun p hp => ?_) (fun p hp => ?_)
    · rcases g2 p hp with ⟨c, z1, z2, z3, z4⟩ | ⟨z1, z2⟩
      · exact Or.inl ⟨c, z1, z2.2, z3, fun r y => z4 r (by omega) y⟩
      · exact Or.inr ⟨fun r y => z1 r (by omega) y, z2⟩
    · rcases g3 p hp with ⟨c, z1, z2, z3, z4⟩ | ⟨z1, z2⟩
      · exact Or.inl ⟨c, z1, z2.2, z3, fun r y => z4 r (by omega) y⟩
      · exact Or.inr ⟨fun r y => z1 r (by omega) y, z2⟩
  · obtain ⟨k, rfl⟩ : ∃ k, j = k + 1 := ⟨j - 1, by omega⟩
    rw [show ((k + 1 : Nat) : Int) - 1 = (k : Int) by omega, tn]
    have hkR : k < N.R := by omega
    obtain ⟨x1, x2, -, -, x5⟩ := hN'.2.2 k hkR
    obtain ⟨w1, w2, -⟩ := hr k hkR
    rw [x5, x2, tn]
    have hstep : ∀ M2 : Mem, (∀ c, c ≠ n + 1 → c ≠ n + 2 → M2 c = M c) → (∀ p, p < 20 → X N.ft p (M (s + 2) p) k (M2 (n + 1) p)) → (∀ p, p < 20 → X N.hd p (M (s + 1) p) k (M2 (n + 2) p)) → inR ((k : Int) + (-1)) ∧ ∀ v3_11 : Int, v3_11 = (k : Int) + (-1) → rec v3_11 M2 := by
      intro M2 f1 f2 f3
      refine ⟨by unfold inR; omega, ?_⟩
      rintro _ rfl
      exact hrec _ _ ⟨k, by omega, by omega, f1, f2, f3⟩ (by omega)
    refine ⟨fun c1 => ⟨by omega, ?_⟩, fun c1 => hstep M' g1 (fun p hp => hskip _ _ _ _ _ (g2 p hp) (fun z => z.2.1 c1)) (fun p hp => hskip _ _ _ _ _ (g3 p hp) (fun z => z.2.1 c1))⟩
    rintro _ rfl
    refine jn_use (P := fun J => ∀ M2 : Mem, (∀ c, c ≠ n + 1 → M2 c = M' c) → (∀ p, p < 20 → X N.ft p (M (s + 2) p) k (M2 (n + 1) p)) → J M2) ?_ ?_
    · intro M2 f1 f2
      have hN2 : NetX M2 a N := hN'.of (fun c _ _ => f1 c (by omega))
      have hf : ∀ c, c ≠ n + 1 → c ≠ n + 2 → M2 c = M c := fun c h1 h2 => by rw [f1 c h1]; exact g1 c h1 h2
      have g3' : ∀ p, p < 20 → X N.hd p (M (s + 1) p) (k + 1) (M2 (n + 2) p) := fun p hp => by rw [f1 (n + 2) (by omega)]; exact g3 p hp
      rw [(hN2.2.2 k hkR).1, (hN2.2.2 k hkR).2.2.2.2, tn]
      refine ⟨by omega, ?_⟩
      rintro _ rfl
      rw [hf (s + 1) (by omega) (by omega)]
      refine ⟨fun c2 => hstep M2 hf f2 (fun p hp => hskip _ _ _ _ _ (g3' p hp) (fun z => by have z1 := z.1; subst z1; exact z.2.2.1 c2)), fun c2 => ?_⟩
      obtain ⟨b, e1, e2, e3⟩ := (hi (N.hd k) (by omega)).nat c2
      rw [e1, tn, (hN2.2.2 b e2).2.2.2.2]
      refine ⟨by omega, fun c3 => hstep M2 hf f2 (fun p hp => hskip _ _ _ _ _ (g3' p hp) (fun z => ?_)), fun c3 => ?_⟩
      · have z1 := z.1; subst z1
        have z2 := z.2.2.2
        rw [e1, tn] at z2
        exact c3 z2
      · rintro _ rfl
        refine hstep _ (fun c h1 h2 => by rw [st_o h2]; exact hf c h1 h2) (fun p hp => by rw [st_o (by omega)]; exact f2 p hp) (fun p hp => ?_)
        rw [st_s]
        by_cases e : p = N.hd k
        · subst e
          rw [if_pos rfl]
          exact hset _ _ _ _ hkR ⟨rfl, c1, c2, by rw [e1, tn]; exact c3⟩
        · rw [if_neg e]; exact hskip _ _ _ _ _ (g3' p hp) (fun z => e z.1.symm)
    · intro J hJ
      rw [g1 (s + 2) (by omega) (by omega)]
      refine ⟨fun c2 => hJ M' (fun c _ => rfl) (fun p hp => hskip _ _ _ _ _ (g2 p hp) (fun z => by have z1 := z.1; subst z1; exact z.2.2.1 c2)), fun c2 => ?_⟩
      obtain ⟨b, e1, e2, e3⟩ := (ho (N.ft k) (by omega)).nat c2
      rw [e1, tn, (hN'.2.2 b e2).2.2.2.2]
      refine ⟨by omega, fun c3 => hJ M' (fun c _ => rfl) (fun p hp => hskip _ _ _ _ _ (g2 p hp) (fun z => ?_)), fun c3 => ?_⟩
      · have z1 := z.1; subst z1
        have z2 := z.2.2.2
        rw [e1, tn] at z2
        exact c3 z2
      · rintro _ rfl
        refine hJ _ (fun c hc => st_o hc) (fun p hp => ?_)
        rw [st_s]
        by_cases e : p = N.ft k
        · subst e
          rw [if_pos rfl]
          exact hset _ _ _ _ hkR ⟨rfl, c1, c2, by rw [e1, tn]; exact c3⟩
        · rw [if_neg e]; exact hskip _ _ _ _ _ (g2 p hp) (fun z => e z.1.symm)
theorem x_join (hN : NetX M a N) (hW : Wf N) (ha : a + 5 < n) (hI : ∀ p, p < N.P → M (n + 1) p = -1 ∨ ∃ c : Nat, M (n + 1) p = c ∧ c < N.R ∧ N.ft c = p) (hO : ∀ p, p < N.P → M (n + 2) p = -1 ∨ ∃ c : Nat, M (n + 2) p = c ∧ c < N.R ∧ N.hd c = p) {Q : Mem → Prop} (h : ∀ M' : Mem, (∀ c, c ≠ n + 3 → c ≠ n + 4 → M' c = M c) → Jnd N (M (n + 1)) (M (n + 2)) (M' (n + 3)) (M' (n + 4)) → Q M') : f_X9_join n a M Q := by
  obtain ⟨hP20, hR30, hr⟩ := id hW
  unfold f_X9_join
  rintro _ rfl
  rintro _ rfl
  refine wl2_inv (I := fun (v : Int) (M' : Mem) => ∃ k : Nat, v = k ∧ k ≤ N.P ∧ (∀ c, c ≠ n + 3 → c ≠ n + 4 → M' c = M c) ∧ (∀ r : Nat, r < N.R → (M' (n + 3) r = if N.ft r < k ∧ M (n + 1) (N.ft r) = (r : Int) then M (n + 2) (N.ft r) else -1) ∧ (M' (n + 4) r = if N.hd r < k ∧ M (n + 2) (N.hd r) = (r : Int) then M (n + 1) (N.hd r) else -1))) (μ := fun (v : Int) (_ : Mem) => N.P - v.toNat) ?_ 5000 _ _ ⟨0, rfl, by omega, fun c h1 h2 => by rw [fil_n h2, fil_n h1], fun r hr' => ⟨?_, ?_⟩⟩ (by simp; omega)
  rotate_left
  · rw [fil_n (by omega), fil_e, if_pos (by omega), if_neg (by omega)]
  · rw [fil_e, if_pos (by omega), if_neg (by omega)]
  rintro rec v M' ⟨k, rfl, hk, g1, g2⟩ hrec
  unfold X9_join_b18
  have hN' : NetX M' a N := hN.of (fun c _ _ => g1 c (by omega) (by omega))
  rw [hN'.1]
  refine ⟨fun c => ?_, fun c => ⟨by omega, ?_⟩⟩
  · have e : k = N.P := by omega
    subst e
    refine h M' g1 (fun r hr' => ?_)
    obtain ⟨w1, w2, -⟩ := hr r hr'
    obtain ⟨y1, y2⟩ := g2 r hr'
    simp only [w1, w2, true_and] at y1 y2
    exact ⟨y1, y2⟩
  · have hkP : k < N.P := by omega
    rw [tn, g1 (n + 1) (by omega) (by omega), g1 (n + 2) (by omega) (by omega)]
    rintro _ rfl
    rintro _ rfl
    have hsame : (M (n + 1) k = -1 ∨ M (n + 2) k = -1) → inR ((k : Int) + 1) ∧ ∀ v2_8 : Int, v2_8 = (k : Int) + 1 → rec v2_8 M' := fun hh => by
      refine ⟨by unfold inR; omega, ?_⟩
      rintro _ rfl
      refine hrec _ _ ⟨k + 1, by omega, by omega, g1, fun r hr' => ?_⟩ (by omega)
      obtain ⟨y1, y2⟩ := g2 r hr'
      rw [y1, y2]
      refine ⟨?_, ?_⟩
      · by_cases z : N.ft r = k
        · rw [if_neg (by omega), z]
          by_cases u : M (n + 1) k = (r : Int)
          · rw [if_pos ⟨by omega, u⟩]; omega
          · rw [if_neg (fun y => u y.2)]
        · by_cases u : N.ft r < k ∧ M (n + 1) (N.ft r) = (r : Int)
          · rw [if_pos u, if_pos ⟨by omega, u.2⟩]
          · rw [if_neg u, if_neg (fun y => u ⟨by omega, y.2⟩)]
      · by_cases z : N.hd r = k
        · rw [if_neg (by omega), z]
          by_cases u : M (n + 2) k = (r : Int)
          · rw [if_pos ⟨by omega, u⟩]; omega
          · rw [if_neg (fun y => u y.2)]
        · by_cases u : N.hd r < k ∧ M (n + 2) (N.hd r) = (r : Int)
          · rw [if_pos u, if_pos ⟨by omega, u.2⟩]
          · rw [if_neg u, if_neg (fun y => u ⟨by omega, y.2⟩)]
    refine ⟨fun c1 => hsame (Or.inl c1), fun c1 => ⟨fun c2 => hsame (Or.inr c2), fun c2 => ?_⟩⟩
    rcases hI k hkP with z | ⟨i, i1, i2, i3⟩
    · exact absurd z c1
    rcases hO k hkP with z | ⟨o, o1, o2, o3⟩
    · exact absurd z c2
    rw [i1, o1, tn, tn]
    refine ⟨by omega, ?_⟩
    rintro _ rfl
    refine ⟨by omega, ?_⟩
    rintro _ rfl
    refine ⟨by unfold inR; omega, ?_⟩
    rintro _ rfl
    refine hrec _ _ ⟨k + 1, by omega, by omega, fun c h1 h2 => by rw [st_o h2, st_o h1]; exact g1 c h1 h2, fun r hr' => ?_⟩ (by omega)
    obtain ⟨y1, y2⟩ := g2 r hr'
    rw [st_o (show n + 3 ≠ n + 4 by omega), st_s, st_s, st_o (show n + 4 ≠ n + 3 by omega), y1, y2]
    refine ⟨?_, ?_⟩
    · by_cases z : r = i
      · subst z; rw [if_pos rfl, if_pos ⟨by omega, by rw [i3]; exact i1⟩, i3, o1]
      · rw [if_neg z]
        by_cases u : N.ft r < k ∧ M (n + 1) (N.ft r) = (r : Int)
        · rw [if_pos u, if_pos ⟨by omega, u.2⟩]
        · rw [if_neg u, if_neg]
          rintro ⟨v1, v2⟩
          by_cases y : N.ft r = k
          · rw [y, i1] at v2; omega
          · exact u ⟨by omega, v2⟩
    · by_cases z : r = o
      · subst z; rw [if_pos rfl, if_pos ⟨by omega, by rw [o3]; exact o1⟩, o3, i1]
      · rw [if_neg z]
        by_cases u : N.hd r < k ∧ M (n + 2) (N.hd r) = (r : Int)
        · rw [if_pos u, if_pos ⟨by omega, u.2⟩]
        · rw [if_neg u, if_neg]
          rintro ⟨v1, v2⟩
          by_cases y : N.hd r = k
          · rw [y, o1] at v2; omega
          · exact u ⟨by omega, v2⟩
end
