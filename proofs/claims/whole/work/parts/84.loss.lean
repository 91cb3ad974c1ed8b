/-! loss, starves -/
theorem cnt_skp {g : Nat → Bool} {k : Nat} (hg : g k = false) : ∀ r, cnt (fun i => g (skp k i)) r = if r ≤ k then cnt g r else cnt g (r + 1)
  | 0 => by rw [if_pos (by omega)]; rfl
  | r + 1 => by
    rw [cnt_s, cnt_skp hg r]
    rcases Nat.lt_trichotomy r k with z | z | z
    · have e : skp k r = r := by unfold skp; rw [if_pos z]
      rw [if_pos (show r ≤ k by omega), if_pos (show r + 1 ≤ k by omega), e, cnt_s]
    · have e : skp k r = r + 1 := by unfold skp; rw [if_neg (by omega)]
      rw [if_pos (show r ≤ k by omega), if_neg (show ¬ r + 1 ≤ k by omega), e, cnt_s g (r + 1), cnt_s g r, if_neg (c := g r = true) (by rw [z, hg]; simp)]
      omega
    · have e : skp k r = r + 1 := by unfold skp; rw [if_neg (by omega)]
      rw [if_neg (show ¬ r ≤ k by omega), if_neg (show ¬ r + 1 ≤ k by omega), e, cnt_s g (r + 1)]
theorem cnt_skp1 {g : Nat → Bool} {k : Nat} (hg : g k = false) (r : Nat) : cnt (fun i => g (skp k i)) r = cnt g (skp k r) := by
  rw [cnt_skp hg r]
  rcases Nat.lt_trichotomy r k with z | z | z
  · rw [if_pos (by omega), show skp k r = r by unfold skp; rw [if_pos z]]
  · rw [if_pos (by omega), show skp k r = r + 1 by unfold skp; rw [if_neg (by omega)], cnt_s, if_neg (by rw [z, hg]; simp)]
    omega
  · rw [if_neg (by omega), show skp k r = r + 1 by unfold skp; rw [if_neg (by omega)]]
theorem cnt_skpR {g : Nat → Bool} {k R : Nat} (hg : g k = false) (hk : k < R) : cnt (fun i => g (skp k i)) (R - 1) = cnt g R := by
  rw [cnt_skp hg (R - 1)]
  obtain ⟨m, rfl⟩ : ∃ m, R = m + 1 := ⟨R - 1, by omega⟩
  rw [show m + 1 - 1 = m by omega]
  by_cases z : m ≤ k
  · rw [if_pos z, cnt_s, if_neg (by rw [show m = k by omega, hg]; simp)]
    omega
  · rw [if_neg z]
theorem sm_skp {g : Nat → Int} {k : Nat} (hg : g k = 0) : ∀ r, sm (fun i => g (skp k i)) r = if r ≤ k then sm g r else sm g (r + 1)
  | 0 => by rw [if_pos (by omega)]; rfl
  | r + 1 => by
    unfold sm
    rw [sm_skp hg r]
    rcases Nat.lt_trichotomy r k with z | z | z
    · have e : skp k r = r := by unfold skp; rw [if_pos z]
      rw [if_pos (show r ≤ k by omega), if_pos (show r + 1 ≤ k by omega), e]
    · have e : skp k r = r + 1 := by unfold skp; rw [if_neg (by omega)]
      rw [if_pos (show r ≤ k by omega), if_neg (show ¬ r + 1 ≤ k by omega), e]
      show sm g r + g (r + 1) = sm g r + g r + g (r + 1)
      rw [z, hg]
      omega
    · have e : skp k r = r + 1 := by unfold skp; rw [if_neg (by omega)]
      rw [if_neg (show ¬ r ≤ k by omega), if_neg (show ¬ r + 1 ≤ k by omega), e]
theorem sm_skpR {g : Nat → Int} {k R : Nat} (hg : g k = 0) (hk : k < R) : sm (fun i => g (skp k i)) (R - 1) = sm g R := by
  rw [sm_skp hg (R - 1)]
  obtain ⟨m, rfl⟩ : ∃ m, R = m + 1 := ⟨R - 1, by omega⟩
  rw [show m + 1 - 1 = m by omega]
  by_cases z : m ≤ k
  · rw [if_pos z]
    show sm g m = sm g m + g m
    rw [show m = k by omega, hg]
    omega
  · rw [if_neg z]
theorem skp_ne (k r : Nat) : skp k r ≠ k := by unfold skp; split <;> omega
section
variable {N : Nt}
theorem sof_drop {k : Nat} (p q : Nat) : sof (N.drop k) (-1) p q = sof N (k : Int) p (skp k q) := by
  have h1 : (N.drop k).hd q = N.hd (skp k q) := rfl
  have h2 := skp_ne k q
  unfold sof
  rw [h1, decide_eq_decide]
  omega
theorem sof_no {k : Nat} (p : Nat) : sof N (k : Int) p k = false := by unfold sof; simp
theorem Flw.drop {k : Nat} (hk : k < N.R) {f c : Nat → Int} (h : Flw N (k : Int) f c) : Flw (N.drop k) (-1) (fun r => f (skp k r)) c := by
  refine ⟨fun r hr _ => ?_, fun p hp => ?_⟩
  · have hr' : r < N.R - 1 := hr
    have e1 : (N.drop k).gf r = N.gf (skp k r) := rfl
    have e2 : (N.drop k).hd r = N.hd (skp k r) := rfl
    have e3 : sho (N.drop k) (-1) (N.hd (skp k r)) = sho N (k : Int) (N.hd (skp k r)) := by
      unfold sho
      rw [show (N.drop k).R = N.R - 1 from rfl, ← cnt_skpR (g := sof N (k : Int) (N.hd (skp k r))) (sof_no _) hk]
      exact cnt_congr (fun i _ => sof_drop _ i)
    have e4 : cnt (sof (N.drop k) (-1) (N.hd (skp k r))) r = cnt (sof N (k : Int) (N.hd (skp k r))) (skp k r) := by
      rw [← cnt_skp1 (g := sof N (k : Int) (N.hd (skp k r))) (sof_no _)]
      exact cnt_congr (fun i _ => sof_drop _ i)
    have e5 := h.1 (skp k r) (skp_lt hk hr') (by have := skp_ne k r; omega)
    show f (skp k r) = _
    rw [e5, e1, e2]
    unfold shr
    rw [e2, e3, e4]
  · rw [h.2 p hp, show (N.drop k).R = N.R - 1 from rfl, ← sm_skpR (g := fun r => if N.ft r = p ∧ (r : Int) ≠ (k : Int) then f r else 0) (by rw [if_neg (by omega)]) hk]
    congr 1
    refine sm_congr (fun i _ => ?_)
    have e1 : (N.drop k).ft i = N.ft (skp k i) := rfl
    have h2 := skp_ne k i
    rw [e1]
    by_cases z : N.ft (skp k i) = p
    · rw [if_pos ⟨z, by omega⟩, if_pos ⟨z, by omega⟩]
    · rw [if_neg (fun y => z y.1), if_neg (fun y => z y.1)]
def LossV (N : Nt) (c : Nat → Int) (x : Int) (k : Nat) (v : Int) : Prop := ∃ f' c', Flw (N.drop k) (-1) f' c' ∧ v = nz (szz (tb x) c 20 - szz (tb x) c' 20)
theorem szz_P (hP : N.P ≤ 20) {x : Int} (hx : ∀ p, tb x p = true ↔ isM N p) (c : Nat → Int) : szz (tb x) c 20 = szz (tb x) c N.P := by
  have e : 20 = N.P + (20 - N.P) := by omega
  rw [e, szz_more (20 - N.P) (fun i hi => ?_)]
  cases q : tb x i
  · rfl
  · have := ((hx i).mp q).1; omega
theorem LossV.uniq (hG : Good N) {k : Nat} (hk : k < N.R) {c c2 : Nat → Int} {x : Int} (hx : ∀ p, tb x p = true ↔ isM N p) {v v' : Int} (hc : ∀ p, p < N.P → c p = c2 p) (h : LossV N c x k v) (h' : LossV N c2 x k v') : v = v' := by
  obtain ⟨f1, c1, h1, h2⟩ := h
  obtain ⟨f3, c3, h3, h4⟩ := h'
  have e := (Flw.uniq (good_drop hG hk) h1 h3).1
  rw [h2, h4, szz_P hG.1.1 hx c, szz_P hG.1.1 hx c1, szz_P hG.1.1 hx c2, szz_P hG.1.1 hx c3, szz_congr hc, szz_congr (f := c1) (g := c3) (k := N.P) (fun p hp => e p hp)]
theorem nz_s (x y : Int) : nz (x - nz y) = nz (x - y) := by
  unfold nz
  rw [Int32.ofInt_sub, Int32.ofInt_toInt, ← Int32.ofInt_sub]
theorem nz_sl (x y : Int) : nz (nz x - y) = nz (x - y) := by
  unfold nz
  rw [Int32.ofInt_sub, Int32.ofInt_toInt, ← Int32.ofInt_sub]
theorem szz_in {s : Nat → Bool} {c : Nat → Int} : ∀ k, inR (szz s c k)
  | 0 => in0
  | k + 1 => by
    unfold szz
    split
    · exact nz_in _
    · exact szz_in k
end
section
variable {M : Mem} {N : Nt}
theorem x_lossOf {k : Nat} (hN : NetX M 12 N) (hG : Good N) (hF : FigX M 20 N) (hk : k < N.R) {Q : Int → Mem → Prop} (h : ∀ (M' : Mem) (v : Int), (∀ c, c < 90 ∨ 93 < c → M' c = M c) → LossV N (M 33) (M 20 12) k v → 0 ≤ v → Q v M') : f_X11_lossOf (k : Int) M Q := by
  obtain ⟨⟨g, pos, b, ht, hg, hB, hb⟩, -, -, -, -, -, -, hM, -, -, hFl⟩ := id hF
  unfold f_X11_lossOf
  refine x_spread (n := 89) rfl (by omega) hN hG.1 (by omega) hB hb (fun M1 a1 a2 => ?_)
  refine x_sumAt (x_sumAt ?_)
  have e20 : M1 20 = M 20 := a1 20 (by omega)
  have e33 : M1 (31 + 2) = M 33 := a1 33 (by omega)
  have hl := loss_ge hG ht hFl a2 hM.2
  rw [e20, e33]
  have hv : nz (szz (tb (M 20 12)) (M 33) 20 - szz (tb (M 20 12)) (M1 (89 + 2)) 20) = szz (tb (M 20 12)) (M 33) 20 - szz (tb (M 20 12)) (M1 (89 + 2)) 20 := nz_eq (by
    have hl' : 0 ≤ szz (tb (M 20 12)) (M1 (89 + 2)) 20 ∧ szz (tb (M 20 12)) (M1 (89 + 2)) 20 ≤ szz (tb (M 20 12)) (M 33) 20 ∧ szz (tb (M 20 12)) (M 33) 20 ≤ 2970 := hl
    unfold inR; omega)
  refine h M1 _ (fun c hc => a1 c hc) ⟨_, _, a2.drop hk, rfl⟩ ?_
  rw [hv]
  have hl' : 0 ≤ szz (tb (M 20 12)) (M1 (89 + 2)) 20 ∧ szz (tb (M 20 12)) (M1 (89 + 2)) 20 ≤ szz (tb (M 20 12)) (M 33) 20 ∧ szz (tb (M 20 12)) (M 33) 20 ≤ 2970 := hl
  omega
theorem r_lossOf {k : Nat} (hC : Core M N) (hk : k < N.R) {Q : Int → Mem → Prop} (h : ∀ (M' : Mem) (v : Int), Qf M M' → Core M' N → LossV N (M 33) (M 20 12) k v → Q v M') : f_X12_lossOf (k : Int) M Q := by
  obtain ⟨h1, h2, h3, h4, h5⟩ := id hC
  have hP := h3.1.1
  have hR := h3.1.2.1
  obtain ⟨-, -, -, -, -, -, -, hM, -, -, -⟩ := id h4.1
  have hG' := good_drop h3 hk
  unfold f_X12_lossOf
  refine q_lays hC (fun M1 k1 k2 k3 k4 => ?_)
  have hio := k3.1.2.1
  obtain ⟨x, hx⟩ : ∃ x, x = M 20 12 := ⟨_, rfl⟩
  rw [← hx] at hM h
  refine jn_use (P := fun J => ∀ y : Int, (∀ p, tb y p = true ↔ isM N p) → J y) ?_ ?_
  · intro y hy
    refine r_mouthFlow (x := x) k2.2.1 h3.1 hio hM.2 (r_putsAside (fun M5 e1 e2 => ?_))
    have hN5 : NetR M5 100 N := k2.2.1.of (e1 100 (by omega))
    refine r_removes2 hN5 h3.1 hk (fun M6 f1 f2 f3 f4 => r_lays f4 hG' (fun z => absurd f1.2.2 z) (fun M7 g1 g2 g3 g4 => ?_))
    have hN7 : NetR M7 100 (N.drop k) := f4.of (g1 100 (by omega) (by omega))
    have hPd : (N.drop k).P = N.P := rfl
    refine jn_use (P := fun J => ∀ v : Int, v = nz (szz (tb x) (M1 106) N.P - szz (tb x) (M7 106) N.P) → J v) ?_ ?_
    · intro v hv
      refine r_takesBack (M0 := M1) (fun i hi => ?_) (fun i hi => ?_) k2.2.1 h3 (fun M9 i1 i2 i3 i4 => ?_)
      · rw [g1 119 (by omega) (by omega), f1.1 119 (by omega) (by omega), e2 i hi]
      · rw [g1 100 (by omega) (by omega), f3 i hi, e1 100 (by omega)]
      · have hq4 : Qf M1 M9 := ⟨fun c z1 z2 z3 => by
          by_cases e : c = 100
          · rw [e]; exact i1
          · rw [i2 c z1 e (by omega), g1 c z1 (by omega), f1.1 c e z1, e1 c (by omega)], fun j hj => by rw [i3 j hj, g2 j hj, f1.2.1 j hj, e1 95 (by omega)]⟩
        refine h _ _ (k1.trans hq4) (k2.of hq4 (fun _ => i4)) ⟨_, _, g4.1.2.2.2.2.2.2.2.2, ?_⟩
        rw [hv, szz_P hP hM.2, szz_P hP hM.2, szz_congr (f := M1 106) (g := M 33) (k := N.P) (fun p hp => ((k4.1 p hp).2.2.2.2.2.2).symm)]
    · intro J hJ
      refine wl2_inv (I := fun (v w : Int) => ∃ j : Nat, w = j ∧ j ≤ N.P ∧ v = nz (szz (tb x) (M1 106) N.P - szz (tb x) (M7 106) j)) (μ := fun (_ w : Int) => N.P - w.toNat) ?_ 5000 _ _ ⟨0, rfl, by omega, ?_⟩ (by simp; omega)
      rotate_left
      · show _ = nz (_ - 0)
        rw [Int.sub_zero, nz_eq (szz_in _)]
      rintro rec v w ⟨j, rfl, hj, rfl⟩ hrec
      unfold X12_lossOf_b57
      refine r_places hN7 ⟨fun c => ?_, fun c => ?_⟩
      · have e : j = N.P := by omega
        subst e
        exact hJ _ rfl
      · rw [show (j : Int) + 1 = ((j + 1 : Nat) : Int) by omega, nz_n (by omega)]
        refine r_isOf (by omega) (fun t => ⟨fun z => absurd z (by omega), fun _ => ⟨by omega, ?_⟩⟩) (fun t => ⟨fun _ => ?_, fun z => absurd rfl z⟩)
        · rintro _ rfl
          rintro _ rfl
          refine hrec _ _ ⟨j + 1, rfl, by omega, ?_⟩ (by omega)
          rw [tn, nz_sl]
          show _ = nz (_ - (if tb x j = true then nz (szz (tb x) (M7 106) j + M7 106 j) else szz (tb x) (M7 106) j))
          rw [if_pos ((hM.2 j).mpr ((hy j).mp t)), nz_s]
          congr 1
          omega
        · rintro _ rfl
          refine hrec _ _ ⟨j + 1, rfl, by omega, ?_⟩ (by omega)
          show _ = nz (_ - (if tb x j = true then nz (szz (tb x) (M7 106) j + M7 106 j) else szz (tb x) (M7 106) j))
          rw [if_neg (fun z => by rw [(hy j).mpr ((hM.2 j).mp z)] at t; cases t)]
  · intro J hJ
    refine wl2_inv (I := fun (y w : Int) => ∃ j : Nat, w = j ∧ j ≤ N.P ∧ (∀ p, tb y p = true ↔ p < j ∧ isM N p)) (μ := fun (_ w : Int) => N.P - w.toNat) ?_ 5000 _ _ ⟨0, rfl, by omega, fun p => by rw [tb_0]; simp⟩ (by simp; omega)
    rintro rec y w ⟨j, rfl, hj, g1⟩ hrec
    unfold X12_lossOf_b8
    refine r_places k2.2.1 ⟨fun c => hJ y (fun p => ?_), fun c => ?_⟩
    · rw [g1 p]
      exact ⟨fun z => z.2, fun z => ⟨by have := z.1; omega, z⟩⟩
    · rw [show (j : Int) + 1 = ((j + 1 : Nat) : Int) by omega, nz_n (by omega)]
      refine r_isMouth h3.1 (by omega) hio (fun s => ⟨fun z => absurd z (by omega), fun _ => ?_⟩) (fun s => ⟨fun _ => ?_, fun z => absurd rfl z⟩)
      · rintro _ rfl
        rintro _ rfl
        refine hrec _ _ ⟨j + 1, rfl, by omega, fun p => ?_⟩ (by omega)
        rw [tb_or, tb_one (by omega)]
        simp only [Bool.or_eq_true, decide_eq_true_eq]
        rw [g1 p]
        constructor
        · rintro (z | z)
          · exact ⟨by omega, z.2⟩
          · rw [z]; exact ⟨by omega, s⟩
        · rintro ⟨z1, z2⟩
          rcases Nat.lt_or_ge p j with y | y
          · exact Or.inl ⟨y, z2⟩
          · exact Or.inr (by omega)
      · rintro _ rfl
        refine hrec _ _ ⟨j + 1, rfl, by omega, fun p => ?_⟩ (by omega)
        rw [g1 p]
        constructor
        · exact fun z => ⟨by omega, z.2⟩
        · rintro ⟨z1, z2⟩
          refine ⟨?_, z2⟩
          rcases Nat.lt_or_ge p j with y | y
          · exact y
          · rw [show p = j by omega] at z2; exact absurd z2 s
theorem q_loss {a : Int} (hC : Core M N) {Q : Int → Int → Mem → Prop} (h : ∀ (r : Int) (M2 : Mem), Qf M M2 → Core M2 N → Q r r M2) : f_X11_loss a M (fun r M1 => f_X12_loss a M1 (fun r2 M2 => Q r r2 M2)) := by
  obtain ⟨h1, h2, h3, h4, h5⟩ := id hC
  obtain ⟨-, -, -, -, -, -, -, hM, -, -, -⟩ := id h4.1
  unfold f_X11_loss
  refine x_isReach h1 (fun k hk e => ⟨fun z => absurd z (by omega), fun _ => ?_⟩) (fun hno => ⟨fun _ => ?_, fun z => absurd rfl z⟩)
  · subst e
    refine x_lossOf h1 h3 h4.1 hk (fun M1 v a1 a2 a3 => ?_)
    obtain ⟨hq1, hC1⟩ := hC.scr (M' := M1) (fun c _ _ => a1 c (by omega))
    unfold f_X12_loss
    refine r_isReach hC1.2.1 h3.1 (fun _ _ _ => ⟨fun z => absurd z (by omega), fun _ => r_lossOf hC1 hk (fun M2 v' k1 k2 k3 => ?_)⟩) (fun z => by omega)
    rw [a1 33 (by omega), a1 20 (by omega)] at k3
    rw [a2.uniq h3 hk hM.2 (fun _ _ => rfl) k3]
    exact h _ _ (hq1.trans k1) k2
  · unfold f_X12_loss
    exact r_isReach h2 h3.1 (fun p hp e => by omega) (fun _ => ⟨fun _ => h _ _ (Qf.refl M) hC, fun z => absurd rfl z⟩)
def Bst (N : Nt) (c : Nat → Int) (x : Int) (k : Nat) (wo mo : Int) : Prop := ∃ (L : Nat → Int) (w : Nat), (∀ r, r < k → LossV N c x r (L r)) ∧ w < k ∧ wo = w ∧ mo = L w ∧ (∀ r, r < k → L r ≤ L w) ∧ ∀ r, r < w → L r < L w
theorem Bst.one {c : Nat → Int} {x v : Int} (h : LossV N c x 0 v) : Bst N c x 1 0 v := ⟨fun _ => v, 0, fun r hr => by rw [show r = 0 by omega]; exact h, by omega, rfl, rfl, fun _ _ => Int.le_refl _, fun r hr => by omega⟩
theorem Bst.keep {c : Nat → Int} {x v wo mo : Int} {k : Nat} (h : Bst N c x k wo mo) (hv : LossV N c x k v) (hle : v ≤ mo) : Bst N c x (k + 1) wo mo := by
  obtain ⟨L, w, h1, h2, h3, h4, h5, h6⟩ := h
  refine ⟨fun r => if r = k then v else L r, w, fun r hr => ?_, by omega, h3, ?_, fun r hr => ?_, fun r hr => ?_⟩
  · dsimp only
    by_cases e : r = k
    · rw [if_pos e, e]; exact hv
    · rw [if_neg e]; exact h1 r (by omega)
  · dsimp only
    rw [if_neg (by omega)]; exact h4
  · dsimp only
    rw [if_neg (show ¬ w = k by omega)]
    by_cases e : r = k
    · rw [if_pos e]; omega
    · rw [if_neg e]; exact h5 r (by omega)
  · dsimp only
    rw [if_neg (show ¬ w = k by omega), if_neg (by omega)]; exact h6 r hr
theorem Bst.take {c : Nat → Int} {x v wo mo : Int} {k : Nat} (h : Bst N c x k wo mo) (hv : LossV N c x k v) (hlt : mo < v) : Bst N c x (k + 1) k v := by
  obtain ⟨L, w, h1, h2, h3, h4, h5, h6⟩ := h
  refine ⟨fun r => if r = k then v else L r, k, fun r hr => ?_, by omega, rfl, ?_, fun r hr => ?_, fun r hr => ?_⟩
  · dsimp only
    by_cases e : r = k
    · rw [if_pos e, e]; exact hv
    · rw [if_neg e]; exact h1 r (by omega)
  · dsimp only
    rw [if_pos rfl]
  · dsimp only
    rw [if_pos rfl]
    by_cases e : r = k
    · rw [if_pos e]; omega
    · rw [if_neg e]
      have := h5 r (by omega)
      omega
  · dsimp only
    rw [if_pos rfl, if_neg (by omega)]
    have := h5 r (by omega)
    omega
theorem Bst.uniq (hG : Good N) {c : Nat → Int} {x wo mo wo' mo' : Int} (hx : ∀ p, tb x p = true ↔ isM N p) (h : Bst N c x N.R wo mo) (h' : Bst N c x N.R wo' mo') : wo = wo' ∧ mo = mo' := by
  obtain ⟨L, w, h1, h2, h3, h4, h5, h6⟩ := h
  obtain ⟨L', w', k1, k2, k3, k4, k5, k6⟩ := h'
  have e : ∀ r, r < N.R → L r = L' r := fun r hr => (h1 r hr).uniq hG hr hx (fun _ _ => rfl) (k1 r hr)
  have e1 := e w h2
  have e2 := e w' k2
  rcases Nat.lt_trichotomy w w' with z | z | z
  · have a := k6 w z
    have b := h5 w' k2
    omega
  · subst z
    omega
  · have a := h6 w' z
    have b := k5 w h2
    omega
theorem q_starves {a : Int} (hC : Core M N) {Q : Int → Int → Mem → Prop} (h : ∀ (r : Int) (M2 : Mem), Qf M M2 → Core M2 N → Q r r M2) : f_X11_starves a M (fun r M1 => f_X12_starves a M1 (fun r2 M2 => Q r r2 M2)) := by
  obtain ⟨h1, h2, h3, h4, h5⟩ := id hC
  have hR := h3.1.2.1
  obtain ⟨-, -, -, -, -, -, -, hM, -, -, -⟩ := id h4.1
  unfold f_X11_starves
  have hbad : ¬ (0 ≤ a ∧ a ≤ 1) → f_X12_starves a M (fun r2 M2 => Q (-1) r2 M2) := fun hh => by
    unfold f_X12_starves
    exact r_reaches h2 ⟨fun _ => h _ _ (Qf.refl M) hC, fun _ => r_isIn (fun z1 z2 => absurd ⟨z1, z2⟩ hh) (fun _ => ⟨fun z => absurd rfl z, fun _ => h _ _ (Qf.refl M) hC⟩)⟩
  refine ⟨fun c => hbad (by omega), fun c => ⟨fun c1 => ?_, fun c1 => hbad (by omega)⟩⟩
  refine jn_use (P := fun J => ∀ (wo mo : Int) (M1 : Mem), (∀ c, c < 90 ∨ 93 < c → M1 c = M c) → ((N.R = 0 ∧ wo = -1 ∧ mo = -1) ∨ Bst N (M 33) (M 20 12) N.R wo mo) → J wo mo M1) ?_ ?_
  · intro wo mo M1 a1 hB
    obtain ⟨hq1, hC1⟩ := hC.scr (M' := M1) (fun c _ _ => a1 c (by omega))
    have hend : ∀ (x : Int), (a = 0 → x = wo) → (a ≠ 0 → x = mo) → f_X12_starves a M1 (fun r2 M2 => Q x r2 M2) := by
      intro x q0 q1
      unfold f_X12_starves
      rcases hB with ⟨z1, z2, z3⟩ | hB
      · have hx1 : x = -1 := by
          by_cases e : a = 0
          · rw [q0 e, z2]
          · rw [q1 e, z3]
        rw [hx1]
        exact r_reaches hC1.2.1 ⟨fun _ => h _ _ hq1 hC1, fun z => absurd (by omega) z⟩
      · have hR0 : 0 < N.R := by obtain ⟨L, w, -, z, -⟩ := hB; omega
        refine r_reaches hC1.2.1 ⟨fun z => by omega, fun _ => r_isIn (fun _ _ => ⟨fun _ => ?_, fun z => absurd z (by omega)⟩) (fun z => by omega)⟩
        refine r_lossOf (k := 0) hC1 hR0 (fun M2 v k1 k2 k3 => ?_)
        rw [a1 33 (by omega), a1 20 (by omega)] at k3
        refine jn_use (P := fun J => ∀ (wo' mo' : Int) (M3 : Mem), Qf M M3 → Core M3 N → Bst N (M 33) (M 20 12) N.R wo' mo' → J wo' mo' M3) ?_ ?_
        · intro wo' mo' M3 b1 b2 b3
          obtain ⟨e1, e2⟩ := hB.uniq h3 hM.2 b3
          refine ⟨fun d => ?_, fun d => ?_⟩
          · rw [q1 d, e2]; exact h _ _ b1 b2
          · rw [q0 d, e1]; exact h _ _ b1 b2
        · intro J hJ
          refine wl4_inv (I := fun (wo' mo' w : Int) (M' : Mem) => ∃ j : Nat, w = j ∧ j ≤ N.R ∧ Qf M M' ∧ Core M' N ∧ Bst N (M 33) (M 20 12) j wo' mo') (μ := fun (_ _ w : Int) (_ : Mem) => N.R - w.toNat) ?_ 5000 _ _ _ _ ⟨1, rfl, by omega, hq1.trans k1, k2, Bst.one k3⟩ (by omega)
          rintro rec wo' mo' w M' ⟨j, rfl, hj, g1, g2, g3⟩ hrec
          unfold X12_starves_b30
          refine r_reaches g2.2.1 ⟨fun d => ?_, fun d => ?_⟩
          · have e : j = N.R := by omega
            subst e
            exact hJ _ _ _ g1 g2 g3
          · refine r_lossOf g2 (by omega) (fun M4 v' m1 m2 m3 => ?_)
            rw [g1.1 33 (by omega) (by omega) (by omega), g1.1 20 (by omega) (by omega) (by omega)] at m3
            refine ⟨fun d1 => ⟨by unfold inR; omega, ?_⟩, fun d1 => ⟨by unfold inR; omega, ?_⟩⟩
            · rintro _ rfl
              exact hrec _ _ _ _ ⟨j + 1, by omega, by omega, g1.trans m1, m2, g3.take m3 d1⟩ (by omega)
            · rintro _ rfl
              exact hrec _ _ _ _ ⟨j + 1, by omega, by omega, g1.trans m1, m2, g3.keep m3 (by omega)⟩ (by omega)
    exact ⟨fun d => hend _ (fun z => absurd z d) (fun _ => rfl), fun d => hend _ (fun _ => rfl) (fun z => absurd d z)⟩
  · intro J hJ
    refine wl4_inv (I := fun (wo mo w : Int) (M' : Mem) => ∃ j : Nat, w = j ∧ j ≤ N.R ∧ (∀ c, c < 90 ∨ 93 < c → M' c = M c) ∧ ((j = 0 ∧ wo = -1 ∧ mo = -1) ∨ Bst N (M 33) (M 20 12) j wo mo)) (μ := fun (_ _ w : Int) (_ : Mem) => N.R - w.toNat) ?_ 5000 _ _ _ _ ⟨0, rfl, by omega, fun c _ => rfl, Or.inl ⟨rfl, rfl, rfl⟩⟩ (by simp; omega)
    rintro rec wo mo w M' ⟨j, rfl, hj, g1, g2⟩ hrec
    unfold X11_starves_b18
    have hN' : NetX M' 12 N := h1.of (fun c _ _ => g1 c (by omega))
    have hF' : FigX M' 20 N := h4.1.of (fun c _ _ => g1 c (by omega))
    rw [hN'.2.1]
    refine ⟨fun d => hJ _ _ _ g1 ?_, fun d => x_lossOf hN' h3 hF' (by omega) (fun M4 v m1 m2 m3 => ?_)⟩
    · rw [show j = N.R by omega] at g2
      exact g2
    · rw [g1 33 (by omega), g1 20 (by omega)] at m2
      refine ⟨fun d1 => ⟨by unfold inR; omega, ?_⟩, fun d1 => ⟨by unfold inR; omega, ?_⟩⟩
      · rintro _ rfl
        refine hrec _ _ _ _ ⟨j + 1, by omega, by omega, fun c hc => by rw [m1 c hc, g1 c hc], Or.inr ?_⟩ (by omega)
        rcases g2 with ⟨z1, z2, z3⟩ | g2
        · omega
        · exact g2.keep m2 d1
      · rintro _ rfl
        refine hrec _ _ _ _ ⟨j + 1, by omega, by omega, fun c hc => by rw [m1 c hc, g1 c hc], Or.inr ?_⟩ (by omega)
        rcases g2 with ⟨z1, z2, z3⟩ | g2
        · subst z1; exact Bst.one m2
        · exact g2.take m2 (by omega)
end
