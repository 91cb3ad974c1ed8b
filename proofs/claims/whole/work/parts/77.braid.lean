/-! braids -/
def Ev (N : Nt) (q : Nat) : Nat → Prop := fun r => r < N.R ∧ N.ft r ≠ q
/-- one comes from v to an end without coming through q -/
def Esc (N : Nt) (q v : Nat) : Prop := ∃ m, nout N m = 0 ∧ Rch (Ev N q) N.hd N.ft v m
def Thr (N : Nt) (T : Nat → Int) : Prop := ∀ v, v < N.P → inR (T v) ∧ ∀ q, q < 32 → (tb (T v) q = true ↔ q = v ∨ (0 < nout N v ∧ ∀ r, r < N.R → N.hd r = v → tb (T (N.ft r)) q = true))
def Prb (N : Nt) (v q : Nat) : Prop := Up (Ew N.R (-1)) N.hd N.ft v q ∧ ¬ Esc N q v
def Mnb (N : Nt) (v p : Nat) : Prop := Prb N v p ∧ ∀ q, Up (Ew N.R (-1)) N.hd N.ft q p → ¬ Prb N v q
def Brd (N : Nt) (v : Nat) (x : Int) : Prop := (x = -1 ∧ ∀ p, p < N.P → ¬ Mnb N v p) ∨ ∃ p : Nat, x = p ∧ p < N.P ∧ Mnb N v p
section
variable {N : Nt}
theorem nout_ex {v : Nat} (h : 0 < nout N v) : ∃ r, r < N.R ∧ N.hd r = v := by
  obtain ⟨r, hr, e⟩ := (cnt_pos (f := fun r => decide (N.hd r = v)) (n := N.R)).mp h
  exact ⟨r, hr, by simpa using e⟩
theorem nout_pos {r : Nat} (h : r < N.R) : 0 < nout N (N.hd r) := (cnt_pos (f := fun q => decide (N.hd q = N.hd r)) (n := N.R)).mpr ⟨r, h, by simp⟩
theorem nin_pos {r : Nat} (h : r < N.R) : 0 < nin N (N.ft r) := (cnt_pos (f := fun q => decide (N.ft q = N.ft r)) (n := N.R)).mpr ⟨r, h, by simp⟩
theorem Thr.esc {T : Nat → Int} (hG : Good N) (h : Thr N T) {q : Nat} (hq : q < 32) : ∀ v, v < N.P → (tb (T v) q = true ↔ q = v ∨ ¬ Esc N q v) := by
  refine hG.2.ind_up (R := N.R) (fun r hr => hr.1) (C := fun v => v < N.P → (tb (T v) q = true ↔ q = v ∨ ¬ Esc N q v)) (fun v ih hv => ?_)
  rw [(h v hv).2 q hq]
  by_cases e : q = v
  · exact ⟨fun _ => Or.inl e, fun _ => Or.inl e⟩
  · constructor
    · rintro (z | ⟨h0, hall⟩)
      · exact absurd z e
      · refine Or.inr ?_
        rintro ⟨m, hm, hp⟩
        rcases Rch_iff.mp hp with z | z
        · subst z; omega
        · obtain ⟨r, z1, z2, z3⟩ := Up_iff_front.mp z
          rcases (ih r (Ew_all z1.1) z2 (hG.1.2.2 r z1.1).2.1).mp (hall r z1.1 z2) with y | y
          · exact z1.2 y.symm
          · exact y ⟨m, hm, Rch_iff.mpr z3⟩
    · rintro (z | hno)
      · exact absurd z e
      · have h0 : 0 < nout N v := by
          rcases Nat.eq_zero_or_pos (nout N v) with z | z
          · exact absurd ⟨v, z, Rch.refl⟩ hno
          · exact z
        refine Or.inr ⟨h0, fun r hr e2 => (ih r (Ew_all hr) e2 (hG.1.2.2 r hr).2.1).mpr ?_⟩
        by_cases y : q = N.ft r
        · exact Or.inl y
        · refine Or.inr ?_
          rintro ⟨m, hm, hp⟩
          refine hno ⟨m, hm, ?_⟩
          have hs : Rch (Ev N q) N.hd N.ft (N.hd r) (N.ft r) := Rch.of_edge ⟨hr, fun z => y z.symm⟩
          rw [e2] at hs
          exact hs.trans hp
theorem ends_ex (hG : Good N) : ∀ v, ∃ m, nout N m = 0 ∧ Rch (Ew N.R (-1)) N.hd N.ft v m := by
  refine hG.2.ind_up (R := N.R) (fun r hr => hr.1) (C := fun v => ∃ m, nout N m = 0 ∧ Rch (Ew N.R (-1)) N.hd N.ft v m) (fun v ih => ?_)
  rcases Nat.eq_zero_or_pos (nout N v) with z | z
  · exact ⟨v, z, Rch.refl⟩
  · obtain ⟨r, hr, e⟩ := nout_ex z
    obtain ⟨m, h1, h2⟩ := ih r (Ew_all hr) e
    have hs : Rch (Ew N.R (-1)) N.hd N.ft (N.hd r) (N.ft r) := Rch.of_edge (Ew_all hr)
    rw [e] at hs
    exact ⟨m, h1, hs.trans h2⟩
theorem esc_down (hG : Good N) {q v : Nat} (hne : q ≠ v) (h : ¬ Esc N q v) : Up (Ew N.R (-1)) N.hd N.ft v q := by
  apply Classical.byContradiction
  intro hno
  obtain ⟨m, h1, h2⟩ := ends_ex hG v
  refine h ⟨m, h1, ?_⟩
  refine (h2.hand (C := fun x => Rch (Ew N.R (-1)) N.hd N.ft v x ∧ Rch (Ev N q) N.hd N.ft v x) ⟨Rch.refl, Rch.refl⟩ (fun r hr hh => ?_)).2
  refine ⟨hh.1.step hr, hh.2.step ⟨hr.1, fun e => hno ?_⟩⟩
  exact Up_iff.mpr ⟨r, hr, e, Rch_iff.mp hh.1⟩
theorem Prb.cmp (hG : Good N) {v p q : Nat} (hp : Prb N v p) (hq : Prb N v q) : p = q ∨ Up (Ew N.R (-1)) N.hd N.ft p q ∨ Up (Ew N.R (-1)) N.hd N.ft q p := by
  by_cases e : p = q
  · exact Or.inl e
  · refine Or.inr ?_
    by_cases z : Rch (Ev N q) N.hd N.ft v p
    · refine Or.inl (esc_down hG (fun y => e y.symm) ?_)
      rintro ⟨m, h1, h2⟩
      exact hq.2 ⟨m, h1, z.trans h2⟩
    · have hh := hp.1.rch.hand (C := fun x => Rch (Ev N q) N.hd N.ft v x ∨ Rch (Ew N.R (-1)) N.hd N.ft q x) (Or.inl Rch.refl) (fun r hr hh => by
        rcases hh with y | y
        · by_cases w : N.ft r = q
          · exact Or.inr (by rw [w]; exact Rch.refl)
          · exact Or.inl (y.step ⟨hr.1, w⟩)
        · exact Or.inr (y.step hr))
      rcases hh with y | y
      · exact absurd y z
      · rcases Rch_iff.mp y with w | w
        · exact absurd w.symm e
        · exact Or.inr w
theorem Mnb.uniq (hG : Good N) {v p q : Nat} (hp : Mnb N v p) (hq : Mnb N v q) : p = q := by
  rcases hp.1.cmp hG hq.1 with z | z | z
  · exact z
  · exact absurd hp.1 (hq.2 p z)
  · exact absurd hq.1 (hp.2 q z)
theorem Brd.uniq (hG : Good N) {v : Nat} {x y : Int} (hx : Brd N v x) (hy : Brd N v y) : x = y := by
  rcases hx with ⟨h1, h2⟩ | ⟨p, h1, h2, h3⟩ <;> rcases hy with ⟨k1, k2⟩ | ⟨q, k1, k2, k3⟩
  · omega
  · exact absurd k3 (h2 q k2)
  · exact absurd h3 (k2 p h2)
  · rw [h1, k1, h3.uniq hG k3]
theorem Up.lt {g pos : Nat → Nat} (ht : Topo N g pos) {a b : Nat} (h : Up (Ew N.R (-1)) N.hd N.ft a b) : pos a < pos b := by
  obtain ⟨k, h⟩ := h
  have := pth_rank (t := pos) (fun r hr => ht.2.2 r hr.1) h
  omega
theorem Up.left (hW : Wf N) {a b : Nat} (h : Up (Ew N.R (-1)) N.hd N.ft a b) : a < N.P := by
  obtain ⟨r, z1, z2, -⟩ := Up_iff_front.mp h
  rw [← z2]
  exact (hW.2.2 r z1.1).1
theorem Up.right (hW : Wf N) {a b : Nat} (h : Up (Ew N.R (-1)) N.hd N.ft a b) : b < N.P := by
  obtain ⟨r, z1, z2, -⟩ := Up_iff.mp h
  rw [← z2]
  exact (hW.2.2 r z1.1).2.1
end
section
variable {M : Mem} {N : Nt}
theorem x_comeBeside {n a v p : Nat} {b : Nat → Nat} (hN : NetX M a N) (hW : Wf N) (hB : ByH N b) (hb : ∀ k, k < N.R → M (n + 2) k = b k) (hv : v < N.P) (hp : p < N.P) {Q : Int → Prop} (h : ∀ x : Int, inR x → (∀ q, tb x q = true ↔ Rch (Ev N p) N.hd N.ft v q) → Q x) : f_X1_comeBeside n a (v : Int) (p : Int) M Q := by
  obtain ⟨hP20, hR30, hr⟩ := id hW
  obtain ⟨b1, b2, b3, b4, b5⟩ := hB
  have hone : ∀ q, tb (bShl 1 (v : Int)) q = true ↔ q = v := fun q => by rw [tb_one (by omega)]; simp
  unfold f_X1_comeBeside
  rintro _ rfl
  refine wl2_inv (I := fun (x w : Int) => inR x ∧ ∃ i : Nat, w = i ∧ i ≤ N.R ∧ tb x v = true ∧ (∀ q, tb x q = true → Rch (Ev N p) N.hd N.ft v q) ∧ (∀ k, k < i → N.ft (b k) ≠ p → tb x (N.hd (b k)) = true → tb x (N.ft (b k)) = true)) (μ := fun (_ w : Int) => N.R - w.toNat) ?_ 5000 _ _ ⟨bShl_in _ _, 0, rfl, by omega, (hone v).mpr rfl, fun q z => by rw [(hone q).mp z]; exact Rch.refl, fun k hk => by omega⟩ (by simp; omega)
  rintro rec x w ⟨hin, i, rfl, hi, g1, g2, g3⟩ hrec
  unfold X1_comeBeside_b8
  rw [hN.2.1]
  refine ⟨fun c => h x hin (fun q => ⟨g2 q, fun hh => hh.hand (C := fun q => tb x q = true) g1 (fun r hr' hq => ?_)⟩), fun c => ⟨by omega, ?_⟩⟩
  · obtain ⟨k, z1, z2⟩ := b3 r hr'.1
    subst z2
    exact g3 k (by omega) hr'.2 hq
  · have hiR : i < N.R := by omega
    have hbi := b1 i hiR
    obtain ⟨x1, x2, -⟩ := hN.2.2 (b i) hbi
    obtain ⟨w1, w2, -⟩ := hr (b i) hbi
    rintro _ rfl
    rw [tn, hb i hiR]
    refine ⟨by omega, ?_⟩
    rw [tn, x1, x2]
    have hskip : (N.ft (b i) ≠ p → tb x (N.hd (b i)) = true → tb x (N.ft (b i)) = true) → inR ((i : Int) + 1) ∧ ∀ z : Int, z = (i : Int) + 1 → rec x z := fun hh => by
      refine ⟨by unfold inR; omega, ?_⟩
      rintro _ rfl
      refine hrec _ _ ⟨hin, i + 1, by omega, by omega, g1, g2, fun k hk => ?_⟩ (by omega)
      rcases Nat.lt_or_ge k i with y | y
      · exact g3 k y
      · rw [show k = i by omega]; exact hh
    rw [bit_1 (show N.hd (b i) < 32 by omega)]
    refine ⟨fun c1 => hskip (fun z => absurd (by omega) z), fun c1 => ⟨fun c2 => hskip (fun _ z => absurd z c2), fun c2 => ?_⟩⟩
    rintro _ rfl
    refine ⟨by unfold inR; omega, ?_⟩
    rintro _ rfl
    have hor : ∀ q, tb (bOr x (bShl 1 (N.ft (b i) : Int))) q = true ↔ tb x q = true ∨ q = N.ft (b i) := fun q => by rw [tb_or, tb_one (by omega)]; simp
    refine hrec _ _ ⟨bOr_in _ _, i + 1, by omega, by omega, (hor v).mpr (Or.inl g1), fun q z => ?_, fun k hk k2 k3 => ?_⟩ (by omega)
    · rcases (hor q).mp z with y | y
      · exact g2 q y
      · rw [y]; exact (g2 _ c2).step ⟨hbi, fun e => c1 (by omega)⟩
    · rcases Nat.lt_or_ge k i with y | y
      · rcases (hor _).mp k3 with u | u
        · exact (hor _).mpr (Or.inl (g3 k y k2 u))
        · have := b4 i k hiR (by omega) u.symm
          omega
      · rw [show k = i by omega]; exact (hor _).mpr (Or.inr rfl)
theorem x_joining {v : Nat} (hN : NetX M 12 N) (hG : Good N) (hF : FigX M 20 N) (hv : v < N.P) (h2 : 2 ≤ nout N v) {Q : Int → Prop} (h : ∀ x : Int, Brd N v x → Q x) : f_X1_joining 20 12 (v : Int) M Q := by
  obtain ⟨hP20, hR30, hr⟩ := id hG.1
  obtain ⟨⟨g, pos, b, ht, hg, hB, hb⟩, -, -, hD, -, -, -, hM, -⟩ := id hF
  unfold f_X1_joining
  refine wl1_inv (I := fun (w : Int) => ∃ i : Nat, w = i ∧ i ≤ N.P ∧ ∀ k, k < i → ¬ Prb N v (g k)) (μ := fun (w : Int) => N.P - w.toNat) ?_ 5000 _ ⟨0, rfl, by omega, fun k hk => by omega⟩ (by simp; omega)
  rintro rec w ⟨i, rfl, hi, g1⟩ hrec
  unfold X1_joining_b2
  rw [hN.1]
  refine ⟨fun c => h _ (Or.inl ⟨rfl, fun p hp hh => ?_⟩), fun c => ⟨by omega, ?_⟩⟩
  · obtain ⟨z1, z2⟩ := ht.2.1 p hp
    have := g1 (pos p) (by omega)
    rw [z2] at this
    exact this hh.1
  · have hiP : i < N.P := by omega
    obtain ⟨z1, z2⟩ := ht.1 i hiP
    rintro _ rfl
    rw [tn, tn, hg i hiP]
    refine ⟨by omega, ?_⟩
    rw [bit_1 (show g i < 32 by omega), (hD v (by omega)).2 (g i)]
    have hgo : ¬ Prb N v (g i) → inR ((i : Int) + 1) ∧ ∀ z : Int, z = (i : Int) + 1 → rec z := fun hh => by
      refine ⟨by unfold inR; omega, ?_⟩
      rintro _ rfl
      refine hrec _ ⟨i + 1, by omega, by omega, fun k hk => ?_⟩ (by omega)
      rcases Nat.lt_or_ge k i with y | y
      · exact g1 k y
      · rw [show k = i by omega]; exact hh
    refine ⟨fun c1 => hgo (fun z => c1 z.1), fun c1 => x_comeBeside hN hG.1 hB hb hv z1 (fun x k1 k2 => ?_)⟩
    have hE : bAnd x (M 20 12) = 0 ↔ ¬ Esc N (g i) v := by
      rw [and_0]
      constructor
      · rintro hh ⟨m, m1, m2⟩
        have hm : m < N.P := m2.hand (C := fun p => p < N.P) hv (fun r hr' _ => (hr r hr'.1).2.1)
        refine hh m (by omega) ⟨(k2 m).mpr m2, (hM.2 m).mpr ⟨hm, ?_, m1⟩⟩
        rcases Rch_iff.mp m2 with y | y
        · subst y; omega
        · obtain ⟨r, y1, y2, -⟩ := Up_iff.mp y
          rw [← y2]; exact nin_pos y1.1
      · rintro hh m _ ⟨y1, y2⟩
        exact hh ⟨m, ((hM.2 m).mp y2).2.2, (k2 m).mp y1⟩
    rw [hE]
    refine ⟨fun c2 => hgo (fun z => c2 z.2), fun c2 => h _ (Or.inr ⟨g i, rfl, z1, ⟨c1, c2⟩, fun q hq hh => ?_⟩)⟩
    have q1 := hq.lt ht
    have q2 := ht.2.1 q (hq.left hG.1)
    have := g1 (pos q) (by omega)
    rw [q2.2] at this
    exact this hh
theorem r_laysThrough (hN : NetR M 100 N) (hG : Good N) (hF : RFig M N) {Q : Mem → Prop} (h : ∀ M' : Mem, (∀ c, c ≠ 117 → M' c = M c) → Thr N (M' 117) → Q M') : f_X12_laysThrough M Q := by
  obtain ⟨hP20, hR30, hr⟩ := id hG.1
  obtain ⟨⟨g, pos, ⟨t1, t2, t3⟩, ho⟩, hio, -⟩ := id hF
  unfold f_X12_laysThrough
  refine r_places hN ⟨by unfold inR; omega, ?_⟩
  rintro _ rfl
  refine wl2_inv (I := fun (w : Int) (M' : Mem) => ∃ k : Nat, w = (k : Int) - 1 ∧ k ≤ N.P ∧ (∀ c, c ≠ 117 → M' c = M c) ∧ ∀ v, v < N.P → k ≤ pos v → inR (M' 117 v) ∧ ∀ q, q < 32 → (tb (M' 117 v) q = true ↔ q = v ∨ (0 < nout N v ∧ ∀ r, r < N.R → N.hd r = v → tb (M' 117 (N.ft r)) q = true))) (μ := fun (w : Int) (_ : Mem) => (w + 1).toNat) ?_ 5000 _ _ ⟨N.P, rfl, by omega, fun c _ => rfl, fun v hv hk => by have := (t2 v hv).1; omega⟩ (by omega)
  rintro rec w M' ⟨k, rfl, hk, g1, g2⟩ hrec
  unfold X12_laysThrough_b7
  refine ⟨fun c => h M' g1 (fun v hv => g2 v hv (by omega)), fun c => ⟨by omega, ?_⟩⟩
  obtain ⟨i, rfl⟩ : ∃ i, k = i + 1 := ⟨k - 1, by omega⟩
  rw [show ((i + 1 : Nat) : Int) - 1 = (i : Int) by omega]
  obtain ⟨z1, z2⟩ := t1 i (by omega)
  have hN' : NetR M' 100 N := hN.of (g1 100 (by omega))
  rintro _ rfl
  rw [tn, g1 101 (by omega), ho i (by omega)]
  refine jn_use (P := fun J => ∀ x : Int, (∀ q, q < 32 → (tb x q = true ↔ ∀ r, r < N.R → N.hd r = g i → tb (M' 117 (N.ft r)) q = true)) → J x) ?_ ?_
  · intro x hx
    refine ⟨by omega, ?_⟩
    rw [tn, g1 103 (by omega), (hio _ z1).2]
    have hst : ∀ y : Int, (∀ q, q < 32 → (tb (bOr y (bShl 1 (g i : Int))) q = true ↔ q = g i ∨ (0 < nout N (g i) ∧ ∀ r, r < N.R → N.hd r = g i → tb (M' 117 (N.ft r)) q = true))) → ∀ M_11 : Mem, M_11 = st M' 117 (g i) (bOr y (bShl 1 (g i : Int))) → inR ((i : Int) + (-1)) ∧ ∀ v1_12 : Int, v1_12 = (i : Int) + (-1) → rec v1_12 M_11 := by
      intro y hy
      rintro _ rfl
      refine ⟨by unfold inR; omega, ?_⟩
      rintro _ rfl
      refine hrec _ _ ⟨i, by omega, by omega, fun c hc => by rw [st_o hc]; exact g1 c hc, fun v hv hi => ?_⟩ (by omega)
      have hfe : ∀ r, r < N.R → i ≤ pos (N.hd r) → st M' 117 (g i) (bOr y (bShl 1 (g i : Int))) 117 (N.ft r) = M' 117 (N.ft r) := fun r hr' hp => by
        rw [st_s, if_neg (fun e => by have := t3 r hr'; rw [e, z2] at this; omega)]
      by_cases e : v = g i
      · subst e
        rw [st_s, if_pos rfl]
        refine ⟨bOr_in _ _, fun q hq => ?_⟩
        rw [hy q hq]
        constructor
        · rintro (u | ⟨u1, u2⟩)
          · exact Or.inl u
          · exact Or.inr ⟨u1, fun r hr' e2 => by rw [hfe r hr' (by rw [e2]; exact hi)]; exact u2 r hr' e2⟩
        · rintro (u | ⟨u1, u2⟩)
          · exact Or.inl u
          · exact Or.inr ⟨u1, fun r hr' e2 => by rw [← hfe r hr' (by rw [e2]; exact hi)]; exact u2 r hr' e2⟩
      · rw [st_s, if_neg e]
        have hlt : i + 1 ≤ pos v := by
          rcases Nat.lt_or_ge i (pos v) with u | u
          · exact u
          · exact absurd (by rw [← (t2 v hv).2, show pos v = i by omega]) e
        obtain ⟨u1, u2⟩ := g2 v hv hlt
        refine ⟨u1, fun q hq => ?_⟩
        rw [u2 q hq]
        constructor
        · rintro (u | ⟨u3, u4⟩)
          · exact Or.inl u
          · exact Or.inr ⟨u3, fun r hr' e2 => by rw [hfe r hr' (by rw [e2]; exact hi)]; exact u4 r hr' e2⟩
        · rintro (u | ⟨u3, u4⟩)
          · exact Or.inl u
          · exact Or.inr ⟨u3, fun r hr' e2 => by rw [← hfe r hr' (by rw [e2]; exact hi)]; exact u4 r hr' e2⟩
    refine ⟨fun c1 => hst x (fun q hq => ?_), fun c1 => hst 0 (fun q hq => ?_)⟩
    · rw [tb_or, tb_one (by omega)]
      simp only [Bool.or_eq_true, decide_eq_true_eq]
      rw [hx q hq]
      constructor
      · rintro (u | u)
        · exact Or.inr ⟨by omega, u⟩
        · exact Or.inl u
      · rintro (u | u)
        · exact Or.inr u
        · exact Or.inl u.2
    · rw [tb_or, tb_one (by omega), tb_0]
      simp only [Bool.false_or, decide_eq_true_eq]
      constructor
      · exact fun u => Or.inl u
      · rintro (u | u)
        · exact u
        · omega
  · intro J hJ
    refine wl2_inv (I := fun (x w : Int) => ∃ j : Nat, w = j ∧ j ≤ N.R ∧ ∀ q, q < 32 → (tb x q = true ↔ ∀ r, r < j → N.hd r = g i → tb (M' 117 (N.ft r)) q = true)) (μ := fun (_ w : Int) => N.R - w.toNat) ?_ 5000 _ _ ⟨0, rfl, by omega, fun q hq => ⟨fun _ r hr' => by omega, fun _ => tb_m1 hq⟩⟩ (by simp; omega)
    rintro rec' x w ⟨j, rfl, hj, i1⟩ hrec'
    unfold X12_laysThrough_b23
    refine r_reaches hN' ⟨fun c2 => ?_, fun c2 => ?_⟩
    · rw [show j = N.R by omega] at i1
      exact hJ x i1
    · have hjR : j < N.R := by omega
      obtain ⟨w1, w2, -⟩ := hr j hjR
      refine r_hd hN' hG.1 hjR ⟨fun c3 => ⟨by unfold inR; omega, ?_⟩, fun c3 => r_ft hN' hG.1 hjR ⟨by omega, ?_⟩⟩
      · rintro _ rfl
        refine hrec' _ _ ⟨j + 1, by omega, by omega, fun q hq => ?_⟩ (by omega)
        rw [i1 q hq]
        constructor
        · intro u r hr' e
          rcases Nat.lt_or_ge r j with y | y
          · exact u r y e
          · rw [show r = j by omega] at e; exact absurd (by omega) c3
        · exact fun u r hr' => u r (by omega)
      · rintro _ rfl
        refine ⟨by unfold inR; omega, ?_⟩
        rintro _ rfl
        refine hrec' _ _ ⟨j + 1, by omega, by omega, fun q hq => ?_⟩ (by omega)
        rw [tn, tb_and, Bool.and_eq_true, i1 q hq]
        constructor
        · rintro ⟨u1, u2⟩ r hr' e
          rcases Nat.lt_or_ge r j with y | y
          · exact u1 r y e
          · rw [show r = j by omega]; exact u2
        · exact fun u => ⟨fun r hr' => u r (by omega), u j (by omega) (by omega)⟩
theorem q_braid {a : Int} (hC : Core M N) {Q : Int → Int → Mem → Prop} (h : ∀ (r : Int) (M2 : Mem), Qf M M2 → Core M2 N → Q r r M2) : f_X11_braid a M (fun r => f_X12_braid a M (fun r2 M2 => Q r r2 M2)) := by
  obtain ⟨h1, h2, h3, h4, h5⟩ := id hC
  have hP := h3.1.1
  unfold f_X11_braid
  refine x_isPlace h1 (fun p hp e => ⟨fun z => absurd z (by omega), fun _ => ⟨by omega, ?_⟩⟩) (fun hno => ⟨fun _ => ?_, fun z => absurd rfl z⟩)
  · subst e
    have hout : M 24 p = nout N p := (h4.1.2.1 p (by omega)).2
    have hok : ∀ (Q : Int → Prop), Q 1 → f_X12_isPlace (p : Int) M Q := fun Q hQ => r_isPlace h2 h3.1 (fun _ _ _ => hQ) (fun z => by omega)
    rw [tn, hout]
    refine ⟨fun c => x_joining h1 h3 h4.1 hp (by omega) (fun x hx => ?_), fun c => ?_⟩
    · unfold f_X12_braid
      refine hok _ ⟨fun _ => q_lays hC (fun M2 k1 k2 k3 k4 => ⟨by omega, ?_⟩), fun z => absurd z (by omega)⟩
      rw [tn, (k3.1.2.1 p hp).2]
      refine ⟨fun _ => r_laysThrough k2.2.1 h3 k3.1 (fun M3 c1 c2 => ?_), fun z => absurd c z⟩
      obtain ⟨hq3, hC3⟩ := k2.scr (M' := M3) (fun c _ _ => c1 c (by omega))
      have hfin : ∀ y : Int, Brd N p y → Q x y M3 := fun y hy => by
        rw [hx.uniq h3 hy]; exact h _ _ (k1.trans hq3) hC3
      obtain ⟨X, hX⟩ : ∃ X, X = bAnd (M3 117 p) (bXor (bShl 1 (p : Int)) (-1)) := ⟨_, rfl⟩
      have hXb : ∀ q, q < 32 → (tb X q = true ↔ Prb N p q) := fun q hq => by
        rw [hX, tb_and, tb_not _ hq, tb_one (by omega), Bool.and_eq_true, c2.esc h3 hq p hp]
        simp only [Bool.not_eq_true', decide_eq_false_iff_not]
        constructor
        · rintro ⟨u | u, w⟩
          · exact absurd u w
          · exact ⟨esc_down h3 w u, u⟩
        · rintro ⟨u, w⟩
          exact ⟨Or.inr w, fun e => h3.2.irrefl (by rw [e] at u; exact u)⟩
      rw [← hX]
      intro X' hX'
      replace hX' := hX'.symm
      subst hX'
      have hup : ∀ q, q < N.P → (bAnd (M3 105 q) X = 0 ↔ ∀ i, Up (Ew N.R (-1)) N.hd N.ft i q → ¬ Prb N p i) := fun q hq => by
        rw [and_0, c1 105 (by omega)]
        obtain ⟨u1, u2⟩ := k3.1.2.2.1 q hq
        constructor
        · intro hh i hi hp'
          have := hi.left h3.1
          exact hh i (by omega) ⟨(u2 i).mpr hi, (hXb i (by omega)).mpr hp'⟩
        · rintro hh i hi ⟨w1, w2⟩
          exact hh i ((u2 i).mp w1) ((hXb i hi).mp w2)
      refine wl1_inv (I := fun (v : Int) => ∃ k : Nat, v = k ∧ k ≤ N.P ∧ ∀ i, i < k → ¬ Mnb N p i) (μ := fun (v : Int) => N.P - v.toNat) ?_ 5000 _ ⟨0, rfl, by omega, fun i hi => by omega⟩ (by simp; omega)
      rintro rec v ⟨k, rfl, hk, i1⟩ hrec
      unfold X12_braid_b45
      refine r_places hC3.2.1 ⟨fun c => hfin _ (Or.inl ⟨rfl, fun i hi => i1 i (by omega)⟩), fun c => ?_⟩
      have hgo : ¬ Mnb N p k → inR ((k : Int) + 1) ∧ ∀ z : Int, z = (k : Int) + 1 → rec z := fun hh => by
        refine ⟨by unfold inR; omega, ?_⟩
        rintro _ rfl
        refine hrec _ ⟨k + 1, by omega, by omega, fun i hi => ?_⟩ (by omega)
        rcases Nat.lt_or_ge i k with y | y
        · exact i1 i y
        · rw [show i = k by omega]; exact hh
      refine r_isOf (by omega) (fun t => ⟨fun z => absurd z (by omega), fun _ => ⟨by omega, ?_⟩⟩) (fun t => ⟨fun _ => hgo (fun z => by rw [(hXb k (by omega)).mpr z.1] at t; cases t), fun z => absurd rfl z⟩)
      rw [tn, hup k (by omega)]
      exact ⟨fun c1 => hgo (fun z => c1 z.2), fun c1 => hfin _ (Or.inr ⟨k, rfl, by omega, (hXb k (by omega)).mp t, c1⟩)⟩
    · unfold f_X12_braid
      refine hok _ ⟨fun _ => q_lays hC (fun M2 k1 k2 k3 k4 => ⟨by omega, ?_⟩), fun z => absurd z (by omega)⟩
      rw [tn, (k3.1.2.1 p hp).2]
      exact ⟨fun z => absurd z c, fun _ => h _ _ k1 k2⟩
  · unfold f_X12_braid
    exact r_isPlace h2 h3.1 (fun p hp e => by omega) (fun _ => ⟨fun z => absurd rfl z, fun _ => h _ _ (Qf.refl M) hC⟩)
end
