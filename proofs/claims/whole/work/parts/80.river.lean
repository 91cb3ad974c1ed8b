/-! rivers -/
theorem cnt_img {f g : Nat → Bool} {h : Nat → Nat} {n m : Nat} (hh : ∀ p, p < n → g p = true → ∃ q, q < m ∧ f q = true ∧ h q = p) : cnt g n ≤ cnt f m := by
  have : ∀ p, ∃ q, p < n → g p = true → q < m ∧ f q = true ∧ h q = p := fun p => by
    by_cases z : p < n ∧ g p = true
    · obtain ⟨q, y⟩ := hh p z.1 z.2
      exact ⟨q, fun _ _ => y⟩
    · exact ⟨0, fun z1 z2 => absurd ⟨z1, z2⟩ z⟩
  refine cnt_inj (h := fun p => Classical.choose (this p)) (fun p hp hg => ?_) (fun p q hp hq hg hg' e => ?_)
  · obtain ⟨a1, a2, -⟩ := Classical.choose_spec (this p) hp hg
    exact ⟨a1, a2⟩
  · obtain ⟨-, -, a3⟩ := Classical.choose_spec (this p) hp hg
    obtain ⟨-, -, b3⟩ := Classical.choose_spec (this q) hq hg'
    have e' : Classical.choose (this p) = Classical.choose (this q) := e
    rw [← a3, ← b3, e']
theorem cnt_del {f : Nat → Bool} {n a : Nat} (ha : a < n) (hf : f a = true) : cnt f n = cnt (fun y => f y && decide (y ≠ a)) n + 1 := by
  refine cnt_add (k := a) ha (by simp) (fun i _ => ?_)
  by_cases z : i = a
  · rw [z, hf]; simp
  · simp [z]
theorem cnt_one {f : Nat → Bool} {n : Nat} : cnt f n = 1 ↔ ∃ a, a < n ∧ f a = true ∧ ∀ i, i < n → f i = true → i = a := by
  constructor
  · intro h
    obtain ⟨a, h1, h2⟩ := cnt_pos.mp (show 0 < cnt f n by omega)
    refine ⟨a, h1, h2, fun i hi hf => ?_⟩
    have e := cnt_del h1 h2
    apply Classical.byContradiction
    intro hne
    have : 0 < cnt (fun y => f y && decide (y ≠ a)) n := cnt_pos.mpr ⟨i, hi, by simp [hf, hne]⟩
    omega
  · rintro ⟨a, h1, h2, h3⟩
    rw [cnt_del h1 h2, cnt_false (fun i hi => ?_)]
    cases q : f i
    · simp
    · simp [h3 i hi q]
/-- as many values as there are things: no two have the same -/
theorem inj_iff {f g : Nat → Bool} {h : Nat → Nat} {n m : Nat} (h1 : ∀ q, q < m → f q = true → h q < n ∧ g (h q) = true) (h2 : ∀ p, p < n → g p = true → ∃ q, q < m ∧ f q = true ∧ h q = p) : ¬ cnt g n < cnt f m ↔ ∀ a b, a < m → b < m → f a = true → f b = true → h a = h b → a = b := by
  constructor
  · intro hn a b ha hb fa fb e
    apply Classical.byContradiction
    intro hne
    have e1 := cnt_del hb fb
    have e2 : cnt g n ≤ cnt (fun y => f y && decide (y ≠ b)) m := cnt_img (h := h) (fun p hp hg => by
      obtain ⟨q, q1, q2, q3⟩ := h2 p hp hg
      by_cases z : q = b
      · exact ⟨a, ha, by simp [fa, hne], by rw [e, ← z, q3]⟩
      · exact ⟨q, q1, by simp [q2, z], q3⟩)
    omega
  · intro hi
    have := cnt_inj (f := f) (g := g) (h := h) (n := n) (m := m) h1 hi
    omega
/-- all in one row -/
def Row (N : Nt) (V : Nat → Bool) : Prop := (∀ q, q < N.R → V q = false) ∨ ((∀ a b, a < N.R → b < N.R → V a = true → V b = true → N.hd a = N.hd b → a = b) ∧ (∀ a b, a < N.R → b < N.R → V a = true → V b = true → N.ft a = N.ft b → a = b) ∧ ∃ h0, ∀ p, ((∃ q, q < N.R ∧ V q = true ∧ N.hd q = p) ∧ ¬ ∃ q, q < N.R ∧ V q = true ∧ N.ft q = p) ↔ p = h0)
section
variable {M : Mem} {N : Nt}
theorem x_isTorn {v : Int} (hN : NetX M 12 N) (hW : Wf N) {Q : Int → Prop} (h1 : Row N (vis N.rv v) → Q 0) (h0 : ¬ Row N (vis N.rv v) → Q 1) : f_X5_isTorn 12 v M Q := by
  obtain ⟨hP20, hR30, hr⟩ := id hW
  obtain ⟨V, hV⟩ : ∃ V, V = vis N.rv v := ⟨_, rfl⟩
  have hvis : ∀ x, V x = true ↔ N.rv x = v := fun x => by rw [hV]; unfold vis; simp
  rw [← hV] at h0 h1
  unfold f_X5_isTorn
  refine jn_use (P := fun J => ∀ x y : Int, inR x → inR y → (∀ p, tb x p = true ↔ ∃ q, q < N.R ∧ V q = true ∧ N.hd q = p) → (∀ p, tb y p = true ↔ ∃ q, q < N.R ∧ V q = true ∧ N.ft q = p) → J x y (cnt V N.R : Int)) ?_ ?_
  · intro x y hx hy bx bY
    have lx : ∀ i, tb x i = true → i < 20 := fun i hi => by
      obtain ⟨q, z1, z2, z3⟩ := (bx i).mp hi
      have := (hr q z1).1; omega
    have ly : ∀ i, tb y i = true → i < 20 := fun i hi => by
      obtain ⟨q, z1, z2, z3⟩ := (bY i).mp hi
      have := (hr q z1).2.1; omega
    have ix := inj_iff (f := V) (g := tb x) (h := N.hd) (n := 20) (m := N.R) (fun q hq hv => ⟨lx _ ((bx _).mpr ⟨q, hq, hv, rfl⟩), (bx _).mpr ⟨q, hq, hv, rfl⟩⟩) (fun p _ hp => (bx p).mp hp)
    have iy := inj_iff (f := V) (g := tb y) (h := N.ft) (n := 20) (m := N.R) (fun q hq hv => ⟨ly _ ((bY _).mpr ⟨q, hq, hv, rfl⟩), (bY _).mpr ⟨q, hq, hv, rfl⟩⟩) (fun p _ hp => (bY p).mp hp)
    refine ⟨fun c => ?_, fun c => h1 (Or.inl (fun q hq => ?_))⟩
    · have hne : ¬ ∀ q, q < N.R → V q = false := fun z => c (by rw [cnt_false z]; rfl)
      refine x_bitCount hx lx ⟨fun c1 => h0 (fun z => z.elim (fun y => hne y) (fun y => absurd (ix.mpr y.1) (fun w => w (by omega)))), fun c1 => x_bitCount hy ly ⟨fun c2 => h0 (fun z => z.elim (fun y => hne y) (fun y => absurd (iy.mpr y.2.1) (fun w => w (by omega)))), fun c2 => ?_⟩⟩
      have hz : ∀ p, tb (bAnd x (bXor y (-1))) p = true ↔ (∃ q, q < N.R ∧ V q = true ∧ N.hd q = p) ∧ ¬ ∃ q, q < N.R ∧ V q = true ∧ N.ft q = p := fun p => by
        rw [← bx p, ← bY p]
        rcases Nat.lt_or_ge p 32 with z | z
        · rw [tb_and, tb_not _ z]; simp
        · rw [tb_big z, tb_big (x := x) z]; simp
      refine x_bitCount (bAnd_in _ _) (fun i hi => lx i ((bx i).mpr ((hz i).mp hi).1)) ?_
      have hone := cnt_one (f := tb (bAnd x (bXor y (-1)))) (n := 20)
      refine ⟨fun c3 => h1 (Or.inr ⟨ix.mp (by omega), iy.mp (by omega), ?_⟩), fun c3 => h0 (fun z => z.elim (fun y => hne y) (fun y => c3 ?_))⟩
      · obtain ⟨a, a1, a2, a3⟩ := hone.mp (by omega)
        refine ⟨a, fun p => ?_⟩
        rw [← hz p]
        exact ⟨fun z => a3 p (lx p ((bx p).mpr ((hz p).mp z).1)) z, fun z => by rw [z]; exact a2⟩
      · obtain ⟨-, -, a, ha⟩ := y
        have h2 : tb (bAnd x (bXor _ (-1))) a = true := (hz a).mpr ((ha a).mpr rfl)
        have := hone.mpr ⟨a, lx a ((bx a).mpr ((hz a).mp h2).1), h2, fun i _ hi => (ha i).mp ((hz i).mp hi)⟩
        omega
    · cases z : V q
      · rfl
      · have := cnt_pos.mpr ⟨q, hq, z⟩
        omega
  · intro J hJ
    refine wl4_inv (I := fun (x y m w : Int) => inR x ∧ inR y ∧ ∃ k : Nat, w = k ∧ k ≤ N.R ∧ (∀ p, tb x p = true ↔ ∃ q, q < k ∧ V q = true ∧ N.hd q = p) ∧ (∀ p, tb y p = true ↔ ∃ q, q < k ∧ V q = true ∧ N.ft q = p) ∧ m = (cnt V k : Int)) (μ := fun (_ _ _ w : Int) => N.R - w.toNat) ?_ 5000 _ _ _ _ ⟨in0, in0, 0, rfl, by omega, fun p => by rw [tb_0]; simp, fun p => by rw [tb_0]; simp, rfl⟩ (by simp; omega)
    rintro rec x y m w ⟨hx, hy, k, rfl, hk, bx, bY, rfl⟩ hrec
    unfold X5_isTorn_b10
    rw [hN.2.1]
    have hl := cnt_le V k
    refine ⟨fun c => ?_, fun c => ⟨by omega, ?_⟩⟩
    · rw [show k = N.R by omega] at bx bY ⊢
      exact hJ x y hx hy bx bY
    · have hkR : k < N.R := by omega
      obtain ⟨x1, x2, -, -, x5⟩ := hN.2.2 k hkR
      obtain ⟨w1, w2, -⟩ := hr k hkR
      rw [tn, x1, x2, x5]
      refine ⟨fun c1 => ⟨by unfold inR; omega, ?_⟩, fun c1 => ?_⟩
      · have hf : V k = false := by
          cases z : V k
          · rfl
          · exact absurd ((hvis k).mp z) c1
        have hsk : ∀ (g : Nat → Nat) p, (∃ q, q < k ∧ V q = true ∧ g q = p) ↔ ∃ q, q < k + 1 ∧ V q = true ∧ g q = p := fun g p => by
          constructor
          · rintro ⟨q, z1, z2⟩; exact ⟨q, by omega, z2⟩
          · rintro ⟨q, z1, z2, z3⟩
            refine ⟨q, ?_, z2, z3⟩
            rcases Nat.lt_or_ge q k with u | u
            · exact u
            · rw [show q = k by omega, hf] at z2; cases z2
        rintro _ rfl
        exact hrec _ _ _ _ ⟨hx, hy, k + 1, by omega, by omega, fun p => by rw [bx p]; exact hsk N.hd p, fun p => by rw [bY p]; exact hsk N.ft p, by rw [cnt_s, if_neg (by rw [hf]; simp)]; rfl⟩ (by omega)
      · have ht : V k = true := (hvis k).mpr c1
        have hnw : ∀ (z : Int) (g : Nat → Nat), g k < 32 → (∀ p, tb z p = true ↔ ∃ q, q < k ∧ V q = true ∧ g q = p) → ∀ p, tb (bOr z (bShl 1 (g k : Int))) p = true ↔ ∃ q, q < k + 1 ∧ V q = true ∧ g q = p := fun z g hg hz p => by
          rw [tb_or, tb_one hg]
          simp only [Bool.or_eq_true, decide_eq_true_eq]
          rw [hz p]
          constructor
          · rintro (⟨q, z1, z2⟩ | u)
            · exact ⟨q, by omega, z2⟩
            · exact ⟨k, by omega, ht, u.symm⟩
          · rintro ⟨q, z1, z2, z3⟩
            rcases Nat.lt_or_ge q k with u | u
            · exact Or.inl ⟨q, u, z2, z3⟩
            · rw [show q = k by omega] at z3; exact Or.inr z3.symm
        rintro _ rfl
        rintro _ rfl
        refine ⟨by unfold inR; omega, ?_⟩
        rintro _ rfl
        refine ⟨by unfold inR; omega, ?_⟩
        rintro _ rfl
        exact hrec _ _ _ _ ⟨bOr_in _ _, bOr_in _ _, k + 1, by omega, by omega, hnw x N.hd (by omega) bx, hnw y N.ft (by omega) bY, by rw [cnt_s, if_pos ht]; omega⟩ (by omega)
/-- what the reference holds of those that it has come by -/
def Chn (N : Nt) (pos : Nat → Nat) (V : Nat → Bool) (S : Nat → Prop) (l : Int) : Prop := (l = -1 ∧ ∀ q, ¬ S q) ∨ ∃ (a h0 : Nat), l = a ∧ S a ∧ (∃ q, S q ∧ N.hd q = h0) ∧ (∀ q, q < N.R → V q = true → pos h0 ≤ pos (N.hd q)) ∧ (∀ q, S q → pos (N.hd q) ≤ pos (N.hd a) ∧ pos (N.ft q) ≤ pos (N.ft a)) ∧ (∀ q, S q → q ≠ a → ∃ q', S q' ∧ N.hd q' = N.ft q) ∧ (∀ q, S q → N.hd q = h0 ∨ ∃ q', S q' ∧ N.ft q' = N.hd q) ∧ (∀ p q, S p → S q → N.hd p = N.hd q → p = q) ∧ (∀ p q, S p → S q → N.ft p = N.ft q → p = q)
theorem Chn.row {g pos : Nat → Nat} {V : Nat → Bool} {l : Int} (ht : Topo N g pos) (h : Chn N pos V (fun q => q < N.R ∧ V q = true) l) : Row N V := by
  rcases h with ⟨-, h⟩ | ⟨a, h0, -, a1, ⟨q0, q1, q2⟩, a3, a4, a5, a6, a7, a8⟩
  · exact Or.inl (fun q hq => by
      cases z : V q
      · rfl
      · exact absurd ⟨hq, z⟩ (h q))
  · refine Or.inr ⟨fun p q hp hq vp vq => a7 p q ⟨hp, vp⟩ ⟨hq, vq⟩, fun p q hp hq vp vq => a8 p q ⟨hp, vp⟩ ⟨hq, vq⟩, h0, fun p => ?_⟩
    constructor
    · rintro ⟨⟨q, z1, z2, z3⟩, z4⟩
      rcases a6 q ⟨z1, z2⟩ with y | ⟨q', y1, y2⟩
      · rw [← z3, y]
      · exact absurd ⟨q', y1.1, y1.2, by rw [y2, z3]⟩ z4
    · intro e
      subst e
      refine ⟨⟨q0, q1.1, q1.2, q2⟩, ?_⟩
      rintro ⟨q, z1, z2, z3⟩
      have y1 := a3 q z1 z2
      have y2 := ht.2.2 q z1
      rw [z3] at y2
      omega
theorem r_isTorn {v : Int} (hN : NetR M 100 N) (hG : Good N) (hF : RFig M N) {Q : Int → Prop} (h1 : Row N (vis N.rv v) → Q 0) (h0 : ¬ Row N (vis N.rv v) → Q 1) : f_X12_isTorn v M Q := by
  obtain ⟨hP20, hR30, hr⟩ := id hG.1
  obtain ⟨⟨g, pos, ht, ho⟩, -⟩ := id hF
  obtain ⟨t1, t2, t3⟩ := id ht
  obtain ⟨V, hV⟩ : ∃ V, V = vis N.rv v := ⟨_, rfl⟩
  have hvis : ∀ x, V x = true ↔ N.rv x = v := fun x => by rw [hV]; unfold vis; simp
  rw [← hV] at h0 h1
  have hinj : ∀ p q, p < N.P → q < N.P → pos p = pos q → p = q := fun p q hp hq e => by rw [← (t2 p hp).2, ← (t2 q hq).2, e]
  let S : Nat → Nat → Nat → Prop := fun k j q => (q < N.R ∧ V q = true) ∧ lexl N pos k j q = true
  unfold f_X12_isTorn
  refine wl2_inv (I := fun (l w : Int) => ∃ k : Nat, w = k ∧ k ≤ N.P ∧ Chn N pos V (S k 0) l) (μ := fun (_ w : Int) => N.P - w.toNat) ?_ 5000 _ _ ⟨0, rfl, by omega, Or.inl ⟨rfl, fun q hq => by have := hq.2; unfold lexl at this; simp at this⟩⟩ (by simp; omega)
  rintro rec l w ⟨k, rfl, hk, hc⟩ hrec
  unfold X12_isTorn_b4
  refine r_places hN ⟨fun c => h1 ?_, fun c => ?_⟩
  · have e : S k 0 = fun q => q < N.R ∧ V q = true := by
      funext q
      apply propext
      constructor
      · exact fun z => z.1
      · intro z
        refine ⟨z, ?_⟩
        have := (t2 _ (hr q z.1).1).1
        unfold lexl
        simp; omega
    rw [e] at hc
    exact hc.row ht
  · refine wl2_inv (I := fun (l w : Int) => ∃ j : Nat, w = j ∧ j ≤ N.R ∧ Chn N pos V (S k j) l) (μ := fun (_ w : Int) => N.R - w.toNat) ?_ 5000 _ _ ⟨0, rfl, by omega, hc⟩ (by simp; omega)
    clear hc l
    rintro rec' l w ⟨j, rfl, hj, hc⟩ hrec'
    unfold X12_isTorn_b15
    refine r_reaches hN ⟨fun c2 => ⟨by unfold inR; omega, ?_⟩, fun c2 => ?_⟩
    · rintro _ rfl
      have e : S k j = S (k + 1) 0 := by
        funext q
        apply propext
        have : j = N.R := by omega
        subst this
        constructor
        · exact fun z => ⟨z.1, by rw [← lexl_end z.1.1]; exact z.2⟩
        · exact fun z => ⟨z.1, by rw [lexl_end z.1.1]; exact z.2⟩
      rw [e] at hc
      exact hrec _ _ ⟨k + 1, by omega, by omega, hc⟩ (by omega)
    · have hjR : j < N.R := by omega
      obtain ⟨w1, w2, -⟩ := hr j hjR
      have hskip : ¬ (V j = true ∧ pos (N.hd j) = k) → inR ((j : Int) + 1) ∧ ∀ z : Int, z = (j : Int) + 1 → rec' l z := fun hh => by
        refine ⟨by unfold inR; omega, ?_⟩
        rintro _ rfl
        have e : S k j = S k (j + 1) := by
          funext q
          apply propext
          by_cases y : pos (N.hd j) = k
          · constructor
            · exact fun z => ⟨z.1, (lexl_new y q).mpr (Or.inl z.2)⟩
            · intro z
              refine ⟨z.1, ?_⟩
              rcases (lexl_new y q).mp z.2 with u | u
              · exact u
              · exact absurd ⟨by rw [← u]; exact z.1.2, y⟩ hh
          · show _ ∧ _ ↔ _ ∧ _
            rw [lexl_skip y q]
        rw [e] at hc
        exact hrec' _ _ ⟨j + 1, by omega, by omega, hc⟩ (by omega)
      refine r_rv hN hG.1 hjR ⟨fun c3 => hskip (fun z => c3 ((hvis j).mp z.1)), fun c3 => r_hd hN hG.1 hjR ⟨by omega, ?_⟩⟩
      rw [tn, ho k (by omega)]
      refine ⟨fun c4 => hskip (fun z => c4 (by rw [← z.2, (t2 _ w1).2])), fun c4 => ?_⟩
      have hVj : V j = true := (hvis j).mpr c3
      have hhk : N.hd j = g k := by omega
      have hpk : pos (N.hd j) = k := by rw [hhk]; exact (t1 k (by omega)).2
      have hnw : ∀ q, S k (j + 1) q ↔ S k j q ∨ q = j := fun q => by
        constructor
        · intro z
          rcases (lexl_new hpk q).mp z.2 with u | u
          · exact Or.inl ⟨z.1, u⟩
          · exact Or.inr u
        · rintro (z | z)
          · exact ⟨z.1, (lexl_new hpk q).mpr (Or.inl z.2)⟩
          · subst z; exact ⟨⟨hjR, hVj⟩, (lexl_new hpk q).mpr (Or.inr rfl)⟩
      have hnj : ¬ S k j j := fun z => by have := z.2; unfold lexl at this; simp at this; omega
      have hin : ∀ q, q < N.R → V q = true → ¬ S k j q → k ≤ pos (N.hd q) := fun q hq hv hs => by
        rcases Nat.lt_or_ge (pos (N.hd q)) k with y | y
        · exact absurd ⟨⟨hq, hv⟩, by unfold lexl; simp; omega⟩ hs
        · exact y
      have hgo : Chn N pos V (S k (j + 1)) (j : Int) → inR ((j : Int) + 1) ∧ ∀ z : Int, z = (j : Int) + 1 → rec' (j : Int) z := fun hh => by
        refine ⟨by unfold inR; omega, ?_⟩
        rintro _ rfl
        exact hrec' _ _ ⟨j + 1, by omega, by omega, hh⟩ (by omega)
      rcases hc with ⟨hl, hc⟩ | ⟨a, h0', hl, a1, a2, a3, a4, a5, a6, a7, a8⟩
      · refine ⟨fun _ => hgo (Or.inr ⟨j, N.hd j, rfl, (hnw j).mpr (Or.inr rfl), ⟨j, (hnw j).mpr (Or.inr rfl), rfl⟩, fun q hq hv => by rw [hpk]; exact hin q hq hv (hc q), ?_⟩), fun z => absurd hl z⟩
        have hone : ∀ q, S k (j + 1) q → q = j := fun q z => ((hnw q).mp z).elim (fun y => absurd y (hc q)) id
        refine ⟨fun q z => by rw [hone q z]; exact ⟨Nat.le_refl _, Nat.le_refl _⟩, fun q z y => absurd (hone q z) y, fun q z => Or.inl (by rw [hone q z]), fun p q zp zq _ => by rw [hone p zp, hone q zq], fun p q zp zq _ => by rw [hone p zp, hone q zq]⟩
      · refine ⟨fun z => by omega, fun _ => ?_⟩
        subst hl
        refine r_ft hN hG.1 a1.1.1 ⟨fun c5 => hgo (Or.inr ⟨j, h0', rfl, (hnw j).mpr (Or.inr rfl), ?_⟩), fun c5 => h0 (fun hrow => ?_)⟩
        · have hfa : N.ft a = N.hd j := by omega
          have hta := t3 a a1.1.1
          have htj := t3 j hjR
          rw [hfa] at hta
          have hhne : ∀ q, S k j q → N.hd q ≠ N.hd j := fun q z e => by
            have := (a4 q z).1
            rw [e] at this
            omega
          have hfne : ∀ q, S k j q → N.ft q ≠ N.ft j := fun q z e => by
            have := (a4 q z).2
            rw [e, hfa] at this
            omega
          obtain ⟨q0, q1, q2⟩ := a2
          refine ⟨⟨q0, (hnw _).mpr (Or.inl q1), q2⟩, a3, fun q z => ?_, fun q z y => ?_, fun q z => ?_, fun p q zp zq e => ?_, fun p q zp zq e => ?_⟩
          · rcases (hnw q).mp z with y | y
            · have u := a4 q y
              rw [hfa] at u
              omega
            · rw [y]; exact ⟨Nat.le_refl _, Nat.le_refl _⟩
          · rcases (hnw q).mp z with u | u
            · by_cases e : q = a
              · exact ⟨j, (hnw j).mpr (Or.inr rfl), by rw [e, hfa]⟩
              · obtain ⟨q', b1, b2⟩ := a5 q u e
                exact ⟨q', (hnw _).mpr (Or.inl b1), b2⟩
            · exact absurd u y
          · rcases (hnw q).mp z with u | u
            · rcases a6 q u with y | ⟨q', b1, b2⟩
              · exact Or.inl y
              · exact Or.inr ⟨q', (hnw _).mpr (Or.inl b1), b2⟩
            · exact Or.inr ⟨a, (hnw _).mpr (Or.inl a1), by rw [u, hfa]⟩
          · rcases (hnw p).mp zp with u | u <;> rcases (hnw q).mp zq with u' | u'
            · exact a7 p q u u' e
            · rw [u'] at e; exact absurd e (hhne p u)
            · rw [u] at e; exact absurd e.symm (hhne q u')
            · omega
          · rcases (hnw p).mp zp with u | u <;> rcases (hnw q).mp zq with u' | u'
            · exact a8 p q u u' e
            · rw [u'] at e; exact absurd e (hfne p u)
            · rw [u] at e; exact absurd e.symm (hfne q u')
            · omega
        · rcases hrow with z | ⟨z1, z2, hx, z3⟩
          · rw [z j hjR] at hVj; cases hVj
          · obtain ⟨q0, q1, q2⟩ := a2
            have hf0 : ¬ ∃ q, q < N.R ∧ V q = true ∧ N.ft q = h0' := by
              rintro ⟨q, y1, y2, y3⟩
              have u1 := a3 q y1 y2
              have u2 := t3 q y1
              rw [y3] at u2
              omega
            have e0 : h0' = hx := (z3 h0').mp ⟨⟨q0, q1.1.1, q1.1.2, q2⟩, hf0⟩
            have hj0 : N.hd j ≠ hx := fun e => by
              have := z1 q0 j q1.1.1 hjR q1.1.2 hVj (by rw [q2, e0, e])
              rw [this] at q1
              exact hnj q1
            have hex : ∃ q, q < N.R ∧ V q = true ∧ N.ft q = N.hd j := by
              apply Classical.byContradiction
              intro hno
              exact hj0 ((z3 _).mp ⟨⟨j, hjR, hVj, rfl⟩, hno⟩)
            obtain ⟨q, y1, y2, y3⟩ := hex
            have hqs : S k j q := by
              apply Classical.byContradiction
              intro hno
              have u1 := hin q y1 y2 hno
              have u2 := t3 q y1
              rw [y3, hpk] at u2
              omega
            have hqa : q ≠ a := fun e => c5 (by rw [← e, y3, hhk])
            obtain ⟨q', b1, b2⟩ := a5 q hqs hqa
            have := z1 q' j b1.1.1 hjR b1.1.2 hVj (by rw [b2, y3])
            rw [this] at b1
            exact hnj b1
end
