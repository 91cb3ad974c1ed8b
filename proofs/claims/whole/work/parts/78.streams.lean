/-! streams -/
theorem cnt_inj {f : Nat → Bool} {h : Nat → Nat} {n : Nat} : ∀ {m : Nat} {g : Nat → Bool}, (∀ x, x < m → f x = true → h x < n ∧ g (h x) = true) → (∀ x y, x < m → y < m → f x = true → f y = true → h x = h y → x = y) → cnt f m ≤ cnt g n
  | 0, g, _, _ => by simp [cnt]
  | m + 1, g, h1, h2 => by
    rw [cnt_s]
    by_cases hf : f m = true
    · rw [if_pos hf]
      obtain ⟨k1, k2⟩ := h1 m (by omega) hf
      have e : cnt g n = cnt (fun y => g y && decide (y ≠ h m)) n + 1 := by
        refine cnt_add (k := h m) k1 (by simp) (fun i _ => ?_)
        by_cases z : i = h m
        · rw [z, k2]; simp
        · simp [z]
      have := cnt_inj (f := f) (h := h) (n := n) (m := m) (g := fun y => g y && decide (y ≠ h m)) (fun x hx hfx => ⟨(h1 x (by omega) hfx).1, by
        rw [(h1 x (by omega) hfx).2]
        simp only [Bool.true_and, decide_eq_true_eq]
        intro z
        have := h2 x m (by omega) (by omega) hfx hf z
        omega⟩) (fun x y hx hy => h2 x y (by omega) (by omega))
      omega
    · rw [if_neg hf]
      exact cnt_inj (fun x hx => h1 x (by omega)) (fun x y hx hy => h2 x y (by omega) (by omega))
def Adj (N : Nt) (V : Nat → Bool) (a b : Nat) : Prop := a < N.R ∧ b < N.R ∧ V a = true ∧ V b = true ∧ N.ft a = N.hd b
def Inv_ (N : Nt) (V : Nat → Bool) (f : Nat → Nat) : Prop := ∀ a b, Adj N V a b → f a = f b
/-- one of each heap that hangs together -/
def Rep (N : Nt) (V : Nat → Bool) (L : Nat → Nat) : Prop := ∀ x, x < N.R → L x < N.R ∧ (V x = true → V (L x) = true) ∧ ∀ f, Inv_ N V f → f (L x) = f x
theorem Rep.le_ {N : Nt} {V : Nat → Bool} {L C : Nat → Nat} (h1 : Rep N V L) (h2 : Inv_ N V L) (k1 : Rep N V C) : cnt (fun x => V x && decide (L x = x)) N.R ≤ cnt (fun x => V x && decide (C x = x)) N.R ∨ ¬ Inv_ N V C := by
  by_cases k2 : Inv_ N V C
  · refine Or.inl (cnt_inj (h := C) (fun x hx hf => ?_) (fun x y hx hy hf hg e => ?_))
    · simp only [Bool.and_eq_true, decide_eq_true_eq] at hf ⊢
      exact ⟨(k1 x hx).1, (k1 x hx).2.1 hf.1, (k1 x hx).2.2 C k2⟩
    · simp only [Bool.and_eq_true, decide_eq_true_eq] at hf hg
      have a1 := (k1 x hx).2.2 L h2
      have a2 := (k1 y hy).2.2 L h2
      rw [e] at a1
      omega
  · exact Or.inr k2
theorem Rep.same {N : Nt} {V : Nat → Bool} {L C : Nat → Nat} (h1 : Rep N V L) (h2 : Inv_ N V L) (k1 : Rep N V C) (k2 : Inv_ N V C) : cnt (fun x => V x && decide (L x = x)) N.R = cnt (fun x => V x && decide (C x = x)) N.R := by
  have a := (h1.le_ h2 k1).resolve_right (fun z => z k2)
  have b := (k1.le_ k2 h1).resolve_right (fun z => z h2)
  omega
def vis (m : Nat → Int) (k : Int) (x : Nat) : Bool := decide (m x = k)
def Uf (N : Nt) (V : Nat → Bool) (c : Nat → Int) (L : Nat → Nat) (m : Nat) : Prop := Rep N V L ∧ m = cnt (fun x => V x && decide (L x = x)) N.R ∧ ∃ (pr dp : Nat → Nat) (D : Nat), D + m ≤ cnt V N.R ∧ ∀ x, x < N.R → c x = pr x ∧ pr x < N.R ∧ L (pr x) = L x ∧ pr (L x) = L x ∧ (pr x = x → L x = x) ∧ (L x = x → dp x = 0) ∧ (pr x ≠ x → dp (pr x) < dp x) ∧ dp x ≤ D
section
variable {M : Mem} {N : Nt} {V : Nat → Bool} {L : Nat → Nat} {m : Nat}
theorem Uf.root (hU : Uf N V (M 70) L m) {x : Nat} (hx : x < N.R) : L (L x) = L x := by
  obtain ⟨h1, -, pr, dp, D, -, h⟩ := hU
  exact (h (L x) (h1 x hx).1).2.2.2.2.1 (h x hx).2.2.2.1
theorem x_leader {x : Nat} (hR : N.R ≤ 30) (hU : Uf N V (M 70) L m) (hx : x < N.R) (hV : V x = true) {Q : Int → Prop} (h : Q (L x : Int)) : f_X7_leader (x : Int) M Q := by
  have hrt := hU.root hx
  obtain ⟨h1, hm, pr, dp, D, hD, hh⟩ := hU
  have hm1 : 0 < m := by
    rw [hm]
    refine cnt_pos.mpr ⟨L x, (h1 x hx).1, ?_⟩
    simp only [Bool.and_eq_true, decide_eq_true_eq]
    exact ⟨(h1 x hx).2.1 hV, hrt⟩
  have hc := cnt_le V N.R
  unfold f_X7_leader
  refine wl2_inv (I := fun (a v : Int) => ∃ y k : Nat, a = y ∧ v = k ∧ y < N.R ∧ L y = L x ∧ dp y + k ≤ D) (μ := fun (_ v : Int) => 30 - v.toNat) ?_ 5000 _ _ ⟨x, 0, rfl, rfl, hx, rfl, by have := (hh x hx).2.2.2.2.2.2.2; omega⟩ (by simp)
  rintro rec a v ⟨y, k, rfl, rfl, hy, e, hd⟩ hrec
  unfold X7_leader_b4
  obtain ⟨u1, u2, u3, u4, u5, u6, u7, u8⟩ := hh y hy
  refine ⟨fun c => by omega, fun c => ⟨by omega, ?_⟩⟩
  rw [tn, u1]
  refine ⟨fun c1 => ?_, fun c1 => ?_⟩
  · have := u5 (by omega)
    rw [← this, e]; exact h
  · rintro _ rfl
    refine ⟨by unfold inR; omega, ?_⟩
    rintro _ rfl
    have := u7 (by omega)
    exact hrec _ _ ⟨pr y, k + 1, rfl, by omega, u2, by rw [u3, e], by omega⟩ (by omega)
theorem Uf.join {M' : Mem} (hU : Uf N V (M 70) L m) {r s : Nat} (hA : Adj N V r s) (hne : L r ≠ L s) (he : ∀ x, M' 70 x = if x = L s then (L r : Int) else M 70 x) : Uf N V (M' 70) (fun x => if L x = L s then L r else L x) (m - 1) ∧ 0 < m := by
  have hrr := hU.root hA.1
  have hrs := hU.root hA.2.1
  obtain ⟨h1, hm, pr, dp, D, hD, hh⟩ := hU
  have hr := h1 r hA.1
  have hs := h1 s hA.2.1
  have hcnt : cnt (fun x => V x && decide (L x = x)) N.R = cnt (fun x => V x && decide ((if L x = L s then L r else L x) = x)) N.R + 1 := by
    refine cnt_add (k := L s) hs.1 ?_ (fun i hi => ?_)
    · rw [if_pos hrs]; simp [hne]
    · rw [Bool.eq_iff_iff]
      simp only [Bool.and_eq_true, decide_eq_true_eq, Bool.or_eq_true]
      by_cases z : L i = L s
      · rw [if_pos z]
        constructor
        · rintro ⟨a1, a2⟩; exact Or.inr (by omega)
        · rintro (⟨a1, a2⟩ | a)
          · rw [← a2, hrr] at z; exact absurd z hne
          · subst a; exact ⟨hs.2.1 hA.2.2.2.1, hrs⟩
      · rw [if_neg z]
        constructor
        · exact fun a => Or.inl a
        · rintro (a | a)
          · exact a
          · subst a; exact absurd hrs z
  refine ⟨⟨fun x hx => ?_, by show m - 1 = cnt (fun x => V x && decide ((if L x = L s then L r else L x) = x)) N.R; omega, fun x => if x = L s then L r else pr x, fun x => if L x = L s then dp x + 1 else dp x, D + 1, by omega, fun x hx => ?_⟩, by omega⟩
  · obtain ⟨a1, a2, a3⟩ := h1 x hx
    by_cases z : L x = L s
    · dsimp only
      rw [if_pos z]
      refine ⟨hr.1, fun _ => hr.2.1 hA.2.2.1, fun f hf => ?_⟩
      rw [hr.2.2 f hf, hf r s hA, ← hs.2.2 f hf, ← z, a3 f hf]
    · dsimp only
      rw [if_neg z]
      exact ⟨a1, a2, a3⟩
  · obtain ⟨u1, u2, u3, u4, u5, u6, u7, u8⟩ := hh x hx
    obtain ⟨r1, r2, r3, r4, r5, r6, r7, r8⟩ := hh (L r) hr.1
    obtain ⟨s1, s2, s3, s4, s5, s6, s7, s8⟩ := hh (L s) hs.1
    have hr0 := r6 hrr
    have hs0 := s6 hrs
    dsimp only
    by_cases e : x = L s
    · subst e
      refine ⟨by rw [he, if_pos rfl, if_pos rfl], ?_, ?_, ?_, ?_, ?_, ?_, ?_⟩
      · rw [if_pos rfl]; exact hr.1
      · rw [if_pos rfl, if_pos hrs, hrr, if_neg hne]
      · rw [if_pos hrs, if_neg hne]
        have := (hh r hA.1).2.2.2.1
        exact this
      · rw [if_pos rfl]; exact fun z => absurd z hne
      · rw [if_pos hrs]; exact fun z => absurd z hne
      · intro _
        rw [if_pos rfl, if_pos hrs, hrr, if_neg hne]; omega
      · rw [if_pos hrs]; omega
    · refine ⟨by rw [he, if_neg e, if_neg e]; exact u1, by rw [if_neg e]; exact u2, by rw [if_neg e, u3], ?_, ?_, ?_, ?_, ?_⟩
      · by_cases z : L x = L s
        · rw [if_pos z, if_neg hne]; exact (hh r hA.1).2.2.2.1
        · rw [if_neg z, if_neg z]; exact u4
      · rw [if_neg e]
        intro z
        have := u5 z
        rw [if_neg (by rw [this]; exact e)]; exact this
      · by_cases z : L x = L s
        · rw [if_pos z, if_pos z]
          intro w
          rw [← w, hrr] at z
          exact absurd z hne
        · rw [if_neg z, if_neg z]; exact u6
      · rw [if_neg e]
        intro z
        rw [u3]
        have := u7 z
        split <;> omega
      · split <;> omega
end
section
variable {M : Mem} {N : Nt}
theorem x_howManyStreams {v : Int} (hN : NetX M 12 N) (hW : Wf N) {Q : Int → Mem → Prop} (h : ∀ (M' : Mem) (L : Nat → Nat), (∀ c, c ≠ 70 → M' c = M c) → Rep N (vis (M 30) v) L → Inv_ N (vis (M 30) v) L → Q (cnt (fun x => vis (M 30) v x && decide (L x = x)) N.R : Int) M') : f_X7_howManyStreams 12 30 v M Q := by
  obtain ⟨hP20, hR30, hr⟩ := id hW
  have hvis : ∀ x, vis (M 30) v x = true ↔ M 30 x = v := fun x => by unfold vis; simp
  unfold f_X7_howManyStreams
  refine jn_use (P := fun J => ∀ (m : Nat) (M' : Mem), (∀ c, c ≠ 70 → M' c = M c) → (∀ x, x < N.R → M' 70 x = x) → m = cnt (vis (M 30) v) N.R → J (m : Int) M') ?_ ?_
  · intro m M1 f1 f2 f3
    have hl := cnt_le (vis (M 30) v) N.R
    have hU0 : Uf N (vis (M 30) v) (M1 70) (fun x => x) m := ⟨fun x hx => ⟨hx, fun z => z, fun f _ => rfl⟩, by rw [f3]; exact cnt_congr (fun i _ => by simp), fun x => x, fun _ => 0, 0, by omega, fun x hx => ⟨f2 x hx, hx, rfl, rfl, fun _ => rfl, fun _ => rfl, fun z => absurd rfl z, Nat.le_refl 0⟩⟩
    refine wl3_inv (I := fun (m w : Int) (M' : Mem) => ∃ (n i : Nat) (L : Nat → Nat), m = n ∧ n ≤ 30 ∧ w = i ∧ i ≤ N.R ∧ (∀ c, c ≠ 70 → M' c = M c) ∧ Uf N (vis (M 30) v) (M' 70) L n ∧ ∀ a b, a < i → Adj N (vis (M 30) v) a b → L a = L b) (μ := fun (_ w : Int) (_ : Mem) => N.R - w.toNat) ?_ 5000 _ _ _ ⟨m, 0, fun x => x, rfl, by omega, rfl, by omega, f1, hU0, fun a b ha => by omega⟩ (by simp; omega)
    rintro rec mm w M' ⟨n, i, L, rfl, hn, rfl, hi, g1, g2, g3⟩ hrec
    unfold X7_howManyStreams_b44
    have hN' : NetX M' 12 N := hN.of (fun c _ _ => g1 c (by omega))
    rw [hN'.2.1]
    refine ⟨fun c => ?_, fun c => ?_⟩
    · rw [g2.2.1]
      exact h M' L g1 g2.1 (fun a b hab => g3 a b (by have := hab.1; omega) hab)
    · refine wl3_inv (I := fun (m w : Int) (M' : Mem) => ∃ (n j : Nat) (L : Nat → Nat), m = n ∧ n ≤ 30 ∧ w = j ∧ j ≤ N.R ∧ (∀ c, c ≠ 70 → M' c = M c) ∧ Uf N (vis (M 30) v) (M' 70) L n ∧ ∀ a b, (a < i ∨ (a = i ∧ b < j)) → Adj N (vis (M 30) v) a b → L a = L b) (μ := fun (_ w : Int) (_ : Mem) => N.R - w.toNat) ?_ 5000 _ _ _ ⟨n, 0, L, rfl, hn, rfl, by omega, g1, g2, fun a b hab => g3 a b (by omega)⟩ (by simp; omega)
      clear g1 g2 g3 hN' hn n L
      rintro rec' mm w M' ⟨n, j, L, rfl, hn, rfl, hj, g1, g2, g3⟩ hrec'
      unfold X7_howManyStreams_b56
      have hN' : NetX M' 12 N := hN.of (fun c _ _ => g1 c (by omega))
      have hl30 : lenS (shp 30) = 30 := rfl
      rw [hN'.2.1, hl30]
      refine ⟨fun c2 => ⟨by unfold inR; omega, ?_⟩, fun c2 => ⟨by omega, ?_⟩⟩
      · rintro _ rfl
        exact hrec _ _ _ ⟨n, i + 1, L, rfl, hn, by omega, by omega, g1, g2, fun a b ha hab => g3 a b (by have := hab.2.1; omega) hab⟩ (by omega)
      · have hiR : i < N.R := by omega
        have hjR : j < N.R := by omega
        obtain ⟨xi1, xi2, -⟩ := hN'.2.2 i hiR
        obtain ⟨xj1, xj2, -⟩ := hN'.2.2 j hjR
        rw [tn, tn, g1 30 (by omega), xi2, xj1]
        have hskip : (Adj N (vis (M 30) v) i j → L i = L j) → inR ((j : Int) + 1) ∧ ∀ z : Int, z = (j : Int) + 1 → rec' (n : Int) z M' := fun hh => by
          refine ⟨by unfold inR; omega, ?_⟩
          rintro _ rfl
          refine hrec' _ _ _ ⟨n, j + 1, L, rfl, hn, by omega, by omega, g1, g2, fun a b hab had => ?_⟩ (by omega)
          by_cases z : a = i ∧ b = j
          · rw [z.1, z.2] at had ⊢; exact hh had
          · exact g3 a b (by omega) had
        refine ⟨fun c3 => hskip (fun z => absurd ((hvis i).mp z.2.2.1) c3), fun c3 => ⟨by omega, fun c4 => hskip (fun z => absurd ((hvis j).mp z.2.2.2.1) c4), fun c4 => ⟨by omega, by omega, fun c5 => hskip (fun z => absurd (by rw [z.2.2.2.2]) c5), fun c5 => ?_⟩⟩⟩
        have hA : Adj N (vis (M 30) v) i j := ⟨hiR, hjR, (hvis i).mpr c3, (hvis j).mpr c4, by omega⟩
        refine x_leader hR30 g2 hiR hA.2.2.1 (x_leader hR30 g2 hjR hA.2.2.2.1 ⟨fun c6 => hskip (fun _ => by omega), fun c6 => ?_⟩)
        have hne : L i ≠ L j := fun e => c6 (by rw [e])
        have hLj := (g2.1 j hjR).1
        refine ⟨by omega, ?_⟩
        rintro _ rfl
        obtain ⟨k1, k2⟩ := g2.join (M' := st M' 70 (L j) (L i : Int)) hA hne (fun x => by rw [st_s])
        refine ⟨by unfold inR; omega, ?_⟩
        rintro _ rfl
        refine ⟨by unfold inR; omega, ?_⟩
        rintro _ rfl
        rw [tn]
        refine hrec' _ _ _ ⟨n - 1, j + 1, _, by omega, by omega, by omega, by omega, fun c hc => by rw [st_o hc]; exact g1 c hc, k1, fun a b hab had => ?_⟩ (by omega)
        by_cases z : a = i ∧ b = j
        · rw [z.1, z.2, if_neg hne, if_pos rfl]
        · rw [g3 a b (by omega) had]
  · intro J hJ
    refine wl3_inv (I := fun (m w : Int) (M' : Mem) => ∃ i : Nat, w = i ∧ i ≤ N.R ∧ m = (cnt (vis (M 30) v) i : Int) ∧ (∀ c, c ≠ 70 → M' c = M c) ∧ (∀ x, x < i → M' 70 x = x)) (μ := fun (_ w : Int) (_ : Mem) => N.R - w.toNat) ?_ 5000 _ _ _ ⟨0, rfl, by omega, rfl, fun c _ => rfl, fun x hx => by omega⟩ (by simp; omega)
    rintro rec mm w M' ⟨i, rfl, hi, rfl, g1, g2⟩ hrec
    unfold X7_howManyStreams_b6
    have hN' : NetX M' 12 N := hN.of (fun c _ _ => g1 c (by omega))
    have hl30 : lenS (shp 30) = 30 := rfl
    rw [hN'.2.1, hl30]
    have hl := cnt_le (vis (M 30) v) i
    refine ⟨fun c => ?_, fun c => ⟨by omega, ?_⟩⟩
    · have e : i = N.R := by omega
      subst e
      exact hJ _ M' g1 g2 rfl
    · rintro _ rfl
      rw [tn, st_o (show 30 ≠ 70 by omega), g1 30 (by omega)]
      have hrow : ∀ x, x < i + 1 → st M' 70 i (i : Int) 70 x = x := fun x hx => by
        rw [st_s]
        by_cases e : x = i
        · rw [if_pos e, e]
        · rw [if_neg e]; exact g2 x (by omega)
      refine ⟨by omega, fun c1 => ⟨by unfold inR; omega, ?_⟩, fun c1 => ⟨by unfold inR; omega, ?_⟩⟩
      · rintro _ rfl
        exact hrec _ _ _ ⟨i + 1, by omega, by omega, by rw [cnt_s, if_neg (fun z => c1 ((hvis i).mp z))]; rfl, fun c hc => by rw [st_o hc]; exact g1 c hc, hrow⟩ (by omega)
      · rintro _ rfl
        refine ⟨by unfold inR; omega, ?_⟩
        rintro _ rfl
        exact hrec _ _ _ ⟨i + 1, by omega, by omega, by rw [cnt_s, if_pos ((hvis i).mpr c1)]; omega, fun c hc => by rw [st_o hc]; exact g1 c hc, hrow⟩ (by omega)
end
