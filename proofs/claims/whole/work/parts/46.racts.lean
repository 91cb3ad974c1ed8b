/-! acts upon nets, the reference's -/
section
variable {M : Mem} {N : Nt}
theorem r_lay {a x y : Nat} {l g v : Int} {Q : Mem → Prop} (hl : lenS (shp a) = 183) (hN : NetR M a N) (hR : N.R < 30) (h : ∀ M', (∀ c, c ≠ a → M' c = M c) → (∀ i, i < 33 → i ≠ 1 → M' a i = M a i) → NetR M' a (N.add x y l g v) → Q M') : f_X12_laysReach a x y l g v M Q := by
  obtain ⟨hp, hr, hx⟩ := id hN
  unfold f_X12_laysReach
  rw [hl]
  refine ⟨by omega, ?_⟩
  rintro _ rfl
  rw [hr]
  refine r_reachAt (k := 0) (by omega) (by omega) ⟨by omega, ?_⟩
  rintro _ rfl
  refine r_reachAt (k := 1) (by omega) (by omega) ⟨by omega, ?_⟩
  rintro _ rfl
  refine r_reachAt (k := 2) (by omega) (by omega) ⟨by omega, ?_⟩
  rintro _ rfl
  refine r_reachAt (k := 3) (by omega) (by omega) ⟨by omega, ?_⟩
  rintro _ rfl
  refine r_reachAt (k := 4) (by omega) (by omega) ⟨by omega, ?_⟩
  rintro _ rfl
  simp only [tn]
  have e1 : st (st (st (st (st M a (33 + 5 * N.R + 0) x) a (33 + 5 * N.R + 1) y) a (33 + 5 * N.R + 2) l) a (33 + 5 * N.R + 3) g) a (33 + 5 * N.R + 4) v a 1 = N.R := by
    simp only [st_v, if_true]
    rw [if_neg (by omega), if_neg (by omega), if_neg (by omega), if_neg (by omega), if_neg (by omega)]
    exact hr
  rw [e1]
  refine ⟨by unfold inR; omega, ?_⟩
  rintro _ rfl
  refine h _ (fun c hc => ?_) (fun i hi hi1 => ?_) ⟨?_, ?_, fun r hr' => ?_⟩
  · simp only [st, hc, if_false]
  · simp only [st_v, if_true]
    rw [if_neg (by omega), if_neg (by omega), if_neg (by omega), if_neg (by omega), if_neg (by omega), if_neg (by omega)]
  · simp only [st_v, if_true]
    rw [if_neg (by omega), if_neg (by omega), if_neg (by omega), if_neg (by omega), if_neg (by omega), if_neg (by omega)]
    exact hp
  · simp only [st_v, if_true]; rfl
  · have hr2 : r < N.R + 1 := hr'
    show _ = ((if r = N.R then x else N.hd r : Nat) : Int) ∧ _ = ((if r = N.R then y else N.ft r : Nat) : Int) ∧ _ = (if r = N.R then l else N.ln r) ∧ _ = (if r = N.R then g else N.gf r) ∧ _ = (if r = N.R then v else N.rv r)
    simp only [st_v, if_true]
    rcases Nat.lt_or_ge r N.R with q | q
    · obtain ⟨a1, a2, a3, a4, a5⟩ := hx r q
      have hne : ¬ r = N.R := by omega
      simp only [hne, if_false]
      refine ⟨?_, ?_, ?_, ?_, ?_⟩ <;> (rw [if_neg (by omega), if_neg (by omega), if_neg (by omega), if_neg (by omega), if_neg (by omega), if_neg (by omega)]; assumption)
    · have e : r = N.R := by omega
      subst e
      simp only [if_true]
      refine ⟨?_, ?_, ?_, ?_, ?_⟩
      · rw [if_neg (by omega), if_neg (by omega), if_neg (by omega), if_neg (by omega), if_neg (by omega), if_pos (by omega)]
      · rw [if_neg (by omega), if_neg (by omega), if_neg (by omega), if_neg (by omega), if_pos (by omega)]
      · rw [if_neg (by omega), if_neg (by omega), if_neg (by omega), if_pos (by omega)]
      · rw [if_neg (by omega), if_neg (by omega), if_pos (by omega)]
      · rw [if_neg (by omega), if_pos (by omega)]
/-- what an act of the reference leaves: of the net's row what is ahead of the reaches; of its own fields all but isLaid -/
def Kept (M M' : Mem) : Prop := (∀ c, c ≠ 100 → c ≠ 95 → M' c = M c) ∧ (∀ i, i ≠ 15 → M' 95 i = M 95 i) ∧ M' 95 15 = 0
theorem r_turns {k : Nat} {Q : Mem → Prop} (hN : NetR M 100 N) (hW : Wf N) (hk : k < N.R) (h : ∀ M', Kept M M' → (∀ i, i < 33 → M' 100 i = M 100 i) → NetR M' 100 (N.turn k) → Q M') : f_X12_turns k M Q := by
  obtain ⟨hp, hr, hx⟩ := id hN
  have hR := hW.2.1
  unfold f_X12_turns
  refine r_hd hN hW hk (r_reachAt (k := 0) (by omega) (by omega) (r_ft hN hW hk ⟨by omega, ?_⟩))
  rintro _ rfl
  refine r_reachAt (k := 1) (by omega) (by omega) ⟨by omega, ?_⟩
  rintro _ rfl
  unfold f_X12_isOther
  rintro _ rfl
  simp only [tn]
  refine h _ ⟨fun c h1 h2 => ?_, fun i hi => ?_, ?_⟩ (fun i hi => ?_) ⟨?_, ?_, fun r hr' => ?_⟩
  · simp only [st, h1, h2, if_false]
  · simp only [st_v, if_true, hi, if_false, show ¬ (95 : Nat) = 100 by omega]
  · simp only [st_v, if_true]
  · simp only [st_v, if_true, if_false, show ¬ (100 : Nat) = 95 by omega]
    rw [if_neg (by omega), if_neg (by omega)]
  · simp only [st_v, if_true, if_false, show ¬ (100 : Nat) = 95 by omega]
    rw [if_neg (by omega), if_neg (by omega)]
    exact hp
  · simp only [st_v, if_true, if_false, show ¬ (100 : Nat) = 95 by omega]
    rw [if_neg (by omega), if_neg (by omega)]
    exact hr
  · have hr2 : r < N.R := hr'
    obtain ⟨a1, a2, a3, a4, a5⟩ := hx r hr2
    show _ = ((if r = k then N.ft k else N.hd r : Nat) : Int) ∧ _ = ((if r = k then N.hd k else N.ft r : Nat) : Int) ∧ _ = N.ln r ∧ _ = N.gf r ∧ _ = N.rv r
    simp only [st_v, if_true, if_false, show ¬ (100 : Nat) = 95 by omega]
    by_cases q : r = k
    · subst q
      simp only [if_true]
      refine ⟨?_, ?_, ?_, ?_, ?_⟩
      · rw [if_neg (by omega), if_pos (by omega)]
      · rw [if_pos (by omega)]
      · rw [if_neg (by omega), if_neg (by omega)]; exact a3
      · rw [if_neg (by omega), if_neg (by omega)]; exact a4
      · rw [if_neg (by omega), if_neg (by omega)]; exact a5
    · simp only [q, if_false]
      refine ⟨?_, ?_, ?_, ?_, ?_⟩ <;> (rw [if_neg (by omega), if_neg (by omega)]; assumption)
theorem r_removes {k : Nat} {Q : Mem → Prop} (hN : NetR M 100 N) (hW : Wf N) (hk : k < N.R) (h : ∀ M', Kept M M' → (∀ i, i < 33 → i ≠ 1 → M' 100 i = M 100 i) → NetR M' 100 (N.drop k) → Q M') : f_X12_removes k M Q := by
  obtain ⟨hp, hr, hx⟩ := id hN
  have hR := hW.2.1
  unfold f_X12_removes
  refine r_reachAt (k := 0) (by omega) (by omega) ?_
  refine jn_use (P := fun J => ∀ M' : Mem, (∀ c, c ≠ 100 → M' c = M c) → (∀ i, i < 33 + 5 * k → M' 100 i = M 100 i) → (∀ i, 33 + 5 * k ≤ i → i < 28 + 5 * N.R → M' 100 i = M 100 (i + 5)) → J M') ?_ ?_
  · intro M' f1 f2 f3
    have e1 : M' 100 1 = N.R := by rw [f2 1 (by omega)]; exact hr
    rw [e1]
    refine ⟨by unfold inR; omega, ?_⟩
    rintro _ rfl
    unfold f_X12_isOther
    rintro _ rfl
    refine h _ ⟨fun c h1 h2 => ?_, fun i hi => ?_, ?_⟩ (fun i hi hi1 => ?_) ⟨?_, ?_, fun r hr' => ?_⟩
    · simp only [st, h1, h2, if_false]; exact f1 c h1
    · simp only [st_v, if_true, hi, if_false, show ¬ (95 : Nat) = 100 by omega]; rw [f1 95 (by omega)]
    · simp only [st_v, if_true]
    · simp only [st_v, if_true, if_false, show ¬ (100 : Nat) = 95 by omega, hi1]
      exact f2 i (by omega)
    · simp only [st_v, if_true, if_false, show ¬ (100 : Nat) = 95 by omega, show ¬ (0 : Nat) = 1 by omega]
      rw [f2 0 (by omega)]; exact hp
    · simp only [st_v, if_true, if_false, show ¬ (100 : Nat) = 95 by omega]
      show _ = ((N.R - 1 : Nat) : Int)
      omega
    · have hr2 : r < N.R - 1 := hr'
      obtain ⟨a1, a2, a3, a4, a5⟩ := hx (skp k r) (skp_lt hk hr2)
      show _ = ((N.hd (skp k r) : Nat) : Int) ∧ _ = ((N.ft (skp k r) : Nat) : Int) ∧ _ = N.ln (skp k r) ∧ _ = N.gf (skp k r) ∧ _ = N.rv (skp k r)
      rw [← a1, ← a2, ← a3, ← a4, ← a5]
      simp only [st_v, if_true, if_false, show ¬ (100 : Nat) = 95 by omega]
      rcases Nat.lt_or_ge r k with q | q
      · have e3 : skp k r = r := by unfold skp; rw [if_pos q]
        rw [e3]
        refine ⟨?_, ?_, ?_, ?_, ?_⟩ <;> (rw [if_neg (by omega)]; exact f2 _ (by omega))
      · have e3 : skp k r = r + 1 := by unfold skp; rw [if_neg (by omega)]
        rw [e3]
        refine ⟨?_, ?_, ?_, ?_, ?_⟩ <;> (rw [if_neg (by omega), f3 _ (by omega) (by omega)]; exact congrArg (M 100) (by omega))
  · intro J hJ
    refine wl2_inv (I := fun (v : Int) (M' : Mem) => ∃ j : Nat, v = j ∧ 33 + 5 * k ≤ j ∧ j ≤ 28 + 5 * N.R ∧ (∀ c, c ≠ 100 → M' c = M c) ∧ (∀ i, i < 33 + 5 * k ∨ j ≤ i → M' 100 i = M 100 i) ∧ (∀ i, 33 + 5 * k ≤ i → i < j → M' 100 i = M 100 (i + 5))) (μ := fun (v : Int) (_ : Mem) => 200 - v.toNat) ?_ 5000 _ _ ⟨33 + 5 * k + 0, rfl, by omega, by omega, fun _ _ => rfl, fun _ _ => rfl, fun i h1 h2 => by omega⟩ (by simp; omega)
    rintro rec v M' ⟨j, rfl, h1, h2, f1, f2, f3⟩ hrec
    unfold X12_removes_b6 f_X12_reaches
    have e1 : M' 100 1 = N.R := by rw [f2 1 (Or.inl (by omega))]; exact hr
    rw [e1]
    refine ⟨by unfold inR; omega, ?_⟩
    rw [show (N.R : Int) - 1 = ((N.R - 1 : Nat) : Int) by omega]
    refine r_reachAt (k := 0) (by omega) (by omega) ⟨fun c => ?_, fun c => ⟨by omega, by omega, ?_⟩⟩
    · exact hJ M' f1 (fun i hi => f2 i (Or.inl hi)) (fun i h3 h4 => f3 i h3 (by omega))
    · rintro _ rfl
      refine ⟨by unfold inR; omega, ?_⟩
      rintro _ rfl
      rw [tn, show ((j : Int) + 5).toNat = j + 5 by omega]
      refine hrec _ _ ⟨j + 1, by omega, by omega, by omega, fun c hc => by rw [st_ne hc]; exact f1 c hc, fun i hi => ?_, fun i h3 h4 => ?_⟩ (by omega)
      · rw [st_v, if_pos rfl, if_neg (by omega)]; exact f2 i (by omega)
      · rw [st_v, if_pos rfl]
        by_cases q : i = j
        · rw [if_pos q, q]; exact f2 _ (Or.inr (by omega))
        · rw [if_neg q]; exact f3 i h3 (by omega)
theorem r_cuts {k : Nat} {t : Int} {Q : Mem → Prop} (hN : NetR M 100 N) (hW : Wf N) (hk : k < N.R) (hP : N.P < 20) (hR : N.R < 30) (ht : 1 ≤ t) (ht2 : t < N.ln k) (h : ∀ M', Kept M M' → (∀ i, i < 33 → i ≠ 0 → i ≠ 1 → i ≠ 3 + N.P → M' 100 i = M 100 i) → M' 100 (3 + N.P) = 0 → NetR M' 100 (N.cut k t) → Q M') : f_X12_cuts k t M Q := by
  obtain ⟨hp, hr, hx⟩ := id hN
  obtain ⟨b1, b2, b3, b4, b5⟩ := hx k hk
  obtain ⟨-, -, w3, w4, -⟩ := hW.2.2 k hk
  unfold f_X12_cuts
  refine r_places hN ⟨by omega, ?_⟩
  rintro _ rfl
  rw [show (3 + (N.P : Int)).toNat = 3 + N.P by omega]
  have e0 : st M 100 (3 + N.P) 0 100 0 = N.P := by simp only [st_v, if_true]; rw [if_neg (by omega)]; exact hp
  rw [e0]
  refine ⟨by unfold inR; omega, ?_⟩
  rintro _ rfl
  obtain ⟨M1, hM1⟩ : ∃ M1, M1 = st (st M 100 (3 + N.P) 0) 100 0 ((N.P : Int) + 1) := ⟨_, rfl⟩
  rw [← hM1]
  have g1 : ∀ c, c ≠ 100 → M1 c = M c := fun c hc => by rw [hM1, st_ne hc, st_ne hc]
  have g2 : ∀ i, i ≠ 0 → i ≠ 3 + N.P → M1 100 i = M 100 i := fun i h1 h2 => by rw [hM1]; simp only [st_v, if_true, h1, h2, if_false]
  have g3 : M1 100 0 = N.P + 1 := by rw [hM1]; simp only [st_v, if_true]
  have g4 : M1 100 (3 + N.P) = 0 := by rw [hM1]; simp only [st_v, if_true]; rw [if_neg (by omega)]
  have hN2 : NetR M1 100 N.more := by
    refine ⟨g3, by rw [g2 1 (by omega) (by omega)]; exact hr, fun r hr' => ?_⟩
    obtain ⟨a1, a2, a3, a4, a5⟩ := hx r hr'
    refine ⟨?_, ?_, ?_, ?_, ?_⟩ <;> (rw [g2 _ (by omega) (by omega)]; assumption)
  have hR2 : N.more.R = N.R := rfl
  refine r_its (k := 1) (by omega) (by omega) (r_its (k := 2) (by omega) (by omega) (r_its (k := 4) (by omega) (by omega) ?_))
  rw [hN2.its1 (by rw [hR2]; exact hk), hN2.its2 (by rw [hR2]; exact hk), hN2.its4 (by rw [hR2]; exact hk)]
  refine ⟨by show inR (N.ln k - t); unfold inR; omega, ?_⟩
  refine r_lay (a := 100) (x := N.P) (y := N.ft k) rfl hN2 hR (fun M2 f1 f2 hN3 => ?_)
  obtain ⟨d1, d2, d3⟩ := hN3
  refine r_reachAt (k := 1) (by omega) (by omega) ⟨by omega, ?_⟩
  rintro _ rfl
  refine r_reachAt (k := 2) (by omega) (by omega) ⟨by omega, ?_⟩
  rintro _ rfl
  unfold f_X12_isOther
  rintro _ rfl
  simp only [tn]
  refine h _ ⟨fun c h1 h2 => ?_, fun i hi => ?_, ?_⟩ (fun i hi hi0 hi1 hi3 => ?_) ?_ ⟨?_, ?_, fun r hr' => ?_⟩
  · simp only [st, h1, h2, if_false]; rw [f1 c h1, g1 c h1]
  · simp only [st_v, if_true, hi, if_false, show ¬ (95 : Nat) = 100 by omega]; rw [f1 95 (by omega), g1 95 (by omega)]
  · simp only [st_v, if_true]
  · simp only [st_v, if_true, if_false, show ¬ (100 : Nat) = 95 by omega]
    rw [if_neg (by omega), if_neg (by omega), f2 i hi hi1, g2 i hi0 hi3]
  · simp only [st_v, if_true, if_false, show ¬ (100 : Nat) = 95 by omega]
    rw [if_neg (by omega), if_neg (by omega), f2 _ (by omega) (by omega), g4]
  · simp only [st_v, if_true, if_false, show ¬ (100 : Nat) = 95 by omega]
    rw [if_neg (by omega), if_neg (by omega)]; exact d1
  · simp only [st_v, if_true, if_false, show ¬ (100 : Nat) = 95 by omega]
    rw [if_neg (by omega), if_neg (by omega)]; exact d2
  · obtain ⟨z1, z2, z3, z4, z5⟩ := d3 r hr'
    have a1 : M2 100 (33 + 5 * r) = ((if r = N.R then N.P else N.hd r : Nat) : Int) := z1
    have a2 : M2 100 (34 + 5 * r) = ((if r = N.R then N.ft k else N.ft r : Nat) : Int) := z2
    have a3 : M2 100 (35 + 5 * r) = (if r = N.R then N.ln k - t else N.ln r) := z3
    have a4 : M2 100 (36 + 5 * r) = (if r = N.R then 0 else N.gf r) := z4
    have a5 : M2 100 (37 + 5 * r) = (if r = N.R then N.rv k else N.rv r) := z5
    clear z1 z2 z3 z4 z5
    show _ = ((if r = N.R then N.P else N.hd r : Nat) : Int) ∧ _ = ((if r = N.R then N.ft k else if r = k then N.P else N.ft r : Nat) : Int) ∧ _ = (if r = N.R then N.ln k - t else if r = k then t else N.ln r) ∧ _ = (if r = N.R then 0 else N.gf r) ∧ _ = (if r = N.R then N.rv k else N.rv r)
    have hkR : ¬ k = N.R := by omega
    simp only [st_v, if_true, if_false, show ¬ (100 : Nat) = 95 by omega]
    by_cases q : r = k
    · subst q
      simp only [if_neg hkR, if_true]
      rw [if_neg hkR] at a1 a4 a5
      refine ⟨?_, ?_, ?_, ?_, ?_⟩
      · rw [if_neg (by omega), if_neg (by omega)]; exact a1
      · rw [if_neg (by omega), if_pos (by omega)]
      · rw [if_pos (by omega)]
      · rw [if_neg (by omega), if_neg (by omega)]; exact a4
      · rw [if_neg (by omega), if_neg (by omega)]; exact a5
    · simp only [q, if_false]
      refine ⟨?_, ?_, ?_, ?_, ?_⟩ <;> (rw [if_neg (by omega), if_neg (by omega)]; assumption)
/-! questions ahead of acts -/
theorem x_mayLay {n : Nat} {x y l g : Int} {Q : Int → Prop} (hN : NetX M n N) (hW : Wf N) (h1 : ∀ a b : Nat, a < N.P → b < N.P → x = a → y = b → N.R < 30 → 1 ≤ l → l ≤ 99 → 0 ≤ g → g ≤ 99 → ¬ Rch (Ew N.R (-1)) N.hd N.ft b a → Q 1) (h0 : ¬ (∃ a b : Nat, a < N.P ∧ b < N.P ∧ x = a ∧ y = b ∧ N.R < 30 ∧ (1 ≤ l ∧ l ≤ 99 ∧ 0 ≤ g ∧ g ≤ 99) ∧ ¬ Rch (Ew N.R (-1)) N.hd N.ft b a) → Q 0) : f_X5_mayLay n x y l g M Q := by
  unfold f_X5_mayLay
  refine x_isPlace hN (fun a ha ea => ⟨fun c => absurd c (by omega), fun _ => ?_⟩) (fun c => ⟨fun _ => h0 (fun ⟨a, b, z⟩ => by omega), fun c => absurd rfl c⟩)
  refine x_isPlace hN (fun b hb eb => ⟨fun c => absurd c (by omega), fun _ => ?_⟩) (fun c => ⟨fun _ => h0 (fun ⟨a, b, z⟩ => by omega), fun c => absurd rfl c⟩)
  rw [hN.2.1]
  refine ⟨fun c => h0 (fun ⟨a, b, z⟩ => by omega), fun c1 => ⟨fun c => h0 (fun ⟨a, b, z⟩ => by omega), fun c2 => ⟨fun c => h0 (fun ⟨a, b, z⟩ => by omega), fun c3 => ⟨fun c => h0 (fun ⟨a, b, z⟩ => by omega), fun c4 => ⟨fun c => h0 (fun ⟨a, b, z⟩ => by omega), fun c5 => ?_⟩⟩⟩⟩⟩
  rw [ea, eb]
  refine x_leads hN hW hb ha (fun q => ⟨fun _ => h0 ?_, fun c => absurd c (by omega)⟩) (fun q => ⟨fun c => absurd rfl c, fun _ => h1 a b ha hb ea eb (by omega) (by omega) (by omega) (by omega) (by omega) q⟩)
  rintro ⟨a', b', z1, z2, z3, z4, z5, z6, z7⟩
  rw [show a' = a by omega, show b' = b by omega] at z7
  exact z7 q
theorem r_canAdd {x y : Int} {Q : Int → Prop} (hN : NetR M 100 N) (hW : Wf N) (h1 : ∀ a b : Nat, a < N.P → b < N.P → x = a → y = b → N.R < 30 → ¬ Rch (Ew N.R (-1)) N.hd N.ft b a → Q 1) (h0 : ¬ (∃ a b : Nat, a < N.P ∧ b < N.P ∧ x = a ∧ y = b ∧ N.R < 30 ∧ ¬ Rch (Ew N.R (-1)) N.hd N.ft b a) → Q 0) : f_X12_canAdd x y M Q := by
  unfold f_X12_canAdd
  refine r_isPlace hN hW (fun a ha ea => ⟨fun c => absurd c (by omega), fun _ => ?_⟩) (fun c => ⟨fun _ => h0 (fun ⟨a, b, z⟩ => by omega), fun c => absurd rfl c⟩)
  refine r_isPlace hN hW (fun b hb eb => ⟨fun c => absurd c (by omega), fun _ => ?_⟩) (fun c => ⟨fun _ => h0 (fun ⟨a, b, z⟩ => by omega), fun c => absurd rfl c⟩)
  refine r_reaches hN ⟨fun c => h0 (fun ⟨a, b, z⟩ => by omega), fun c1 => ?_⟩
  rw [ea, eb]
  refine r_comes (n := 100) rfl hN hW hb ha (fun q => ⟨fun _ => h0 ?_, fun c => absurd c (by omega)⟩) (fun q => ⟨fun c => absurd rfl c, fun _ => h1 a b ha hb ea eb (by omega) q⟩)
  rintro ⟨a', b', z1, z2, z3, z4, z5, z7⟩
  rw [show a' = a by omega, show b' = b by omega] at z7
  exact z7 q
theorem x_mayReverse {n k : Nat} {Q : Int → Prop} (hN : NetX M n N) (hW : Wf N) (hk : k < N.R) (h1 : ¬ Rch (Ew N.R k) N.hd N.ft (N.hd k) (N.ft k) → Q 1) (h0 : Rch (Ew N.R k) N.hd N.ft (N.hd k) (N.ft k) → Q 0) : f_X5_mayReverse n k M Q := by
  unfold f_X5_mayReverse
  have hR := hW.2.1
  obtain ⟨a1, a2, -⟩ := hN.2.2 k hk
  obtain ⟨w1, w2, -⟩ := hW.2.2 k hk
  rw [tn, a1, a2]
  refine ⟨by omega, x_leads hN hW w1 w2 (fun q => ⟨fun _ => h0 q, fun c => absurd c (by omega)⟩) (fun q => ⟨fun c => absurd rfl c, fun _ => h1 q⟩)⟩
theorem r_canTurnIt {v : Int} {Q : Int → Prop} (hN : NetR M 100 N) (hW : Wf N) (h1 : ∀ k : Nat, k < N.R → v = k → ¬ Rch (Ew N.R k) N.hd N.ft (N.hd k) (N.ft k) → Q 1) (h0 : ∀ k : Nat, k < N.R → v = k → Rch (Ew N.R k) N.hd N.ft (N.hd k) (N.ft k) → Q 0) (h2 : (v < 0 ∨ (N.R : Int) ≤ v) → Q 0) : f_X12_canTurnIt v M Q := by
  unfold f_X12_canTurnIt
  refine r_isReach hN hW (fun k hk ek => ⟨fun c => absurd c (by omega), fun _ => ?_⟩) (fun c => ⟨fun _ => h2 c, fun c => absurd rfl c⟩)
  obtain ⟨w1, w2, -⟩ := hW.2.2 k hk
  rw [ek]
  exact r_hd hN hW hk (r_ft hN hW hk (r_comes (n := 100) rfl hN hW w1 w2 (fun q => ⟨fun _ => h0 k hk ek q, fun c => absurd c (by omega)⟩) (fun q => ⟨fun c => absurd rfl c, fun _ => h1 k hk ek q⟩)))
theorem x_maySplit {n : Nat} {x t : Int} {Q : Int → Prop} (hN : NetX M n N) (hW : Wf N) (h1 : ∀ k : Nat, k < N.R → x = k → 1 ≤ t → t < N.ln k → N.P < 20 → N.R < 30 → Q 1) (h0 : ¬ (∃ k : Nat, k < N.R ∧ x = k ∧ 1 ≤ t ∧ t < N.ln k ∧ N.P < 20 ∧ N.R < 30) → Q 0) : f_X5_maySplit n x t M Q := by
  unfold f_X5_maySplit
  have hR := hW.2.1
  refine x_isReach hN (fun k hk ek => ⟨fun c => absurd c (by omega), fun _ => ?_⟩) (fun c => ⟨fun _ => h0 (fun ⟨k, z⟩ => by omega), fun c => absurd rfl c⟩)
  obtain ⟨-, -, a3, -⟩ := hN.2.2 k hk
  rw [ek, tn, a3, hN.1, hN.2.1]
  have key : ∀ z : ∃ k' : Nat, k' < N.R ∧ x = k' ∧ 1 ≤ t ∧ t < N.ln k' ∧ N.P < 20 ∧ N.R < 30, 1 ≤ t ∧ t < N.ln k ∧ N.P < 20 ∧ N.R < 30 := by
    rintro ⟨k', z1, z2, z3⟩
    rw [show k' = k by omega] at z3
    exact z3
  refine ⟨fun c => h0 (fun z => by have := key z; omega), fun c1 => ⟨by omega, fun c => h0 (fun z => by have := key z; omega), fun c2 => ⟨fun c => h0 (fun z => by have := key z; omega), fun c3 => ⟨fun c => h0 (fun z => by have := key z; omega), fun c4 => h1 k hk ek (by omega) (by omega) (by omega) (by omega)⟩⟩⟩⟩
theorem r_canCut {x t : Int} {Q : Int → Prop} (hN : NetR M 100 N) (hW : Wf N) (h1 : ∀ k : Nat, k < N.R → x = k → 1 ≤ t → t < N.ln k → N.P < 20 → N.R < 30 → Q 1) (h0 : ¬ (∃ k : Nat, k < N.R ∧ x = k ∧ 1 ≤ t ∧ t < N.ln k ∧ N.P < 20 ∧ N.R < 30) → Q 0) : f_X12_canCut x t M Q := by
  unfold f_X12_canCut
  have hR := hW.2.1
  refine r_isReach hN hW (fun k hk ek => ⟨fun c => absurd c (by omega), fun _ => ?_⟩) (fun c => ⟨fun _ => h0 (fun ⟨k, z⟩ => by omega), fun c => absurd rfl c⟩)
  obtain ⟨-, -, w3, w4, -⟩ := hW.2.2 k hk
  rw [ek]
  have key : ∀ z : ∃ k' : Nat, k' < N.R ∧ x = k' ∧ 1 ≤ t ∧ t < N.ln k' ∧ N.P < 20 ∧ N.R < 30, 1 ≤ t ∧ t < N.ln k ∧ N.P < 20 ∧ N.R < 30 := by
    rintro ⟨k', z1, z2, z3⟩
    rw [show k' = k by omega] at z3
    exact z3
  refine r_ln hN hW hk ⟨by unfold inR; omega, r_isIn (fun c1 c2 => ⟨fun c => absurd c (by omega), fun _ => ?_⟩) (fun c => ⟨fun _ => h0 (fun z => by have := key z; omega), fun c => absurd rfl c⟩)⟩
  refine r_places hN ⟨fun c => h0 (fun z => by have := key z; omega), fun c3 => r_reaches hN ⟨fun c => h0 (fun z => by have := key z; omega), fun c4 => h1 k hk ek (by omega) (by omega) (by omega) (by omega)⟩⟩
end
