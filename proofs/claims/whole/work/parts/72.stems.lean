/-! stems, both sides -/
theorem Acc.congr {N : Nt} {nx nx' f f' A : Nat → Int} (e1 : ∀ r, r < N.R → nx' r = nx r) (e2 : ∀ r, r < N.R → f' r = f r) (h : Acc N nx f A) : Acc N nx' f' A := fun r hr => by
  rw [e1 r hr, e2 r hr]; exact h r hr
/-- how many reaches a stem has: by the chain and by adding up -/
theorem acc_one {N : Nt} {nx bf : Nat → Int} {pos : Nat → Nat} {A : Nat → Int} {t m : Nat} (hn : Nxt N nx bf) (hp : ∀ r, r < N.R → pos (N.hd r) < pos (N.ft r)) (ht : t < N.R) (hA : Acc N nx (fun _ => 1) A) (hm0 : 1 ≤ m) (hm2 : chn nx t m = -1) (hm3 : ∀ i, i < m → chn nx t i ≠ -1) : A t = m := by
  have key : ∀ i, i < m → ∀ c : Nat, c < N.R → chn nx t i = c → A t = (i : Int) + A c := by
    intro i
    induction i with
    | zero =>
      intro _ c hc e
      have : (t : Int) = c := e
      rw [show t = c by omega]; simp
    | succ i ih =>
      intro hi c hc e
      rcases chn_rng hn hp ht i with z | ⟨d, z1, z2, -⟩
      · exact absurd z (hm3 i (by omega))
      · have e2 : chn nx t (i + 1) = nx d := by
          show (if chn nx t i = -1 then -1 else _) = _
          rw [if_neg (by omega), z1, tn]
        have e3 := (hA d z2).2 c (by rw [← e2]; exact e)
        dsimp only at e3
        rw [ih (by omega) d z2 z1, e3]
        omega
  obtain ⟨i, rfl⟩ : ∃ i, m = i + 1 := ⟨m - 1, by omega⟩
  rcases chn_rng hn hp ht i with z | ⟨d, z1, z2, -⟩
  · exact absurd z (hm3 i (by omega))
  · have e2 : chn nx t (i + 1) = nx d := by
      show (if chn nx t i = -1 then -1 else _) = _
      rw [if_neg (by omega), z1, tn]
    have e3 := (hA d z2).1 (by rw [← e2]; exact hm2)
    dsimp only at e3
    rw [key i (by omega) d z2 z1, e3]
    omega
section
variable {M : Mem} {N : Nt} {n : Nat} {pos : Nat → Nat}
theorem r_stemsLoop {w : Nat} {A bf' : Nat → Int} {J : Int → Int → Prop} (hw : w < 3) (hN : NetR M 100 N) (hW : Wf N) (hp : ∀ r, r < N.R → pos (N.hd r) < pos (N.ft r) ∧ pos (N.hd r) < 20) (hn : Nxt N (rw_ M 112 w) bf') (hA : Acc N (rw_ M 112 w) N.ln A) (h : ∀ x : Int, Fam N.R (fun r => rw_ M 113 w r = -1) A x → J x (cnt (fun r => decide (rw_ M 113 w r = -1)) N.R : Int)) : wl3 (X12_stems_b38 (w : Int) M J) 5000 (-1) 0 0 := by
  have hR := hW.2.1
  have hA' : Acc N (rw_ M 112 w) (fun r => if (1 : Int) = 0 then 1 else N.ln r) A := hA.congr (fun _ _ => rfl) (fun r _ => by rw [if_neg (by omega)])
  refine wl3_inv (I := fun (x s v : Int) => ∃ k : Nat, v = k ∧ k ≤ N.R ∧ Fam k (fun r => rw_ M 113 w r = -1) A x ∧ s = (cnt (fun r => decide (rw_ M 113 w r = -1)) k : Int)) (μ := fun (_ _ v : Int) => N.R - v.toNat) ?_ 5000 _ _ _ ⟨0, rfl, by omega, Fam.zero, rfl⟩ (by simp; omega)
  rintro rec x s v ⟨k, rfl, hk, hF, rfl⟩ hrec
  unfold X12_stems_b38
  have hl := cnt_le (fun r => decide (rw_ M 113 w r = -1)) k
  refine r_reaches hN ⟨fun c => by rw [show k = N.R by omega] at hF ⊢; exact h x hF, fun c => r_by hw (by omega) ⟨by omega, ?_⟩⟩
  have hkR : k < N.R := by omega
  rw [tn]
  have hgo : ∀ y s' : Int, Fam (k + 1) (fun r => rw_ M 113 w r = -1) A y → s' = (cnt (fun r => decide (rw_ M 113 w r = -1)) (k + 1) : Int) → inR ((k : Int) + 1) ∧ ∀ v4 : Int, v4 = (k : Int) + 1 → rec y s' v4 := fun y s' q1 q2 => by
    refine ⟨by unfold inR; omega, ?_⟩
    rintro _ rfl
    exact hrec _ _ _ ⟨k + 1, by omega, by omega, q1, q2⟩ (by omega)
  refine ⟨fun c1 => hgo x _ (hF.skip c1) (by rw [cnt_s, if_neg (fun z : decide (rw_ M 113 w k = -1) = true => c1 (of_decide_eq_true z))]; rfl), fun c1 => ⟨by unfold inR; omega, ?_⟩⟩
  rintro _ rfl
  have hc : (cnt (fun r => decide (rw_ M 113 w r = -1)) k : Int) + 1 = (cnt (fun r => decide (rw_ M 113 w r = -1)) (k + 1) : Int) := by rw [cnt_s, if_pos (decide_eq_true (show rw_ M 113 w k = -1 from c1))]; omega
  refine ⟨fun c2 => hgo _ _ (by rw [c2] at hF; exact hF.first c1) hc, fun c2 => ?_⟩
  obtain ⟨b, b1, b2, b3⟩ := hF.nat c2
  subst b1
  refine r_stemOf hw hN hW hkR hp hn hA' (r_stemOf hw hN hW (by omega) hp hn hA' ?_)
  exact ⟨fun c3 => hgo _ _ (hF.keep c3) hc, fun c3 => hgo _ _ (hF.over c1 (by omega)) hc⟩
theorem q_stems {a b : Int} (hC : Core M N) {Q : Int → Int → Mem → Prop} (h : ∀ (r : Int) (M2 : Mem), Qf M M2 → Core M2 N → Q r r M2) : f_X11_stems a b M (fun r => f_X12_stems a b M (fun r2 M2 => Q r r2 M2)) := by
  obtain ⟨h1, h2, h3, h4, h5⟩ := id hC
  have hR := h3.1.2.1
  unfold f_X11_stems f_X11_isWay
  have hbad : ¬ (0 ≤ a ∧ a ≤ 2) ∨ ¬ (0 ≤ b ∧ b ≤ 3) → f_X12_stems a b M (fun r2 M2 => Q (-1) r2 M2) := fun hb => by
    unfold f_X12_stems
    exact r_isIn (fun z1 z2 => ⟨fun z => absurd z (by omega), fun _ => r_isIn (fun _ _ => by omega) (fun _ => ⟨fun z => absurd rfl z, fun _ => h _ _ (Qf.refl M) hC⟩)⟩) (fun _ => ⟨fun _ => h _ _ (Qf.refl M) hC, fun z => absurd rfl z⟩)
  refine ⟨fun c => ⟨fun z => absurd rfl z, fun _ => hbad (by omega)⟩, fun c => ⟨fun c2 => ⟨fun z => absurd rfl z, fun _ => hbad (by omega)⟩, fun c2 => ⟨fun _ => ⟨by omega, ?_⟩, fun z => absurd z (by omega)⟩⟩⟩
  obtain ⟨w, rfl⟩ : ∃ w : Nat, a = w := ⟨a.toNat, by omega⟩
  have hw : w < 3 := by omega
  rw [tn]
  have hSt := h4.st hw
  have hn := hSt.nxt h3.1
  obtain ⟨pos, hp⟩ := h4.1.pos h3
  obtain ⟨A, hA⟩ := acc_ex hn hp N.ln
  obtain ⟨B, hB⟩ := acc_ex hn hp (fun _ => 1)
  have href : ∀ x y : Int, Fam N.R (fun r => M (37 + 7 * w + 4) r = -1) A x → (0 ≤ b ∧ b ≤ 3) → (b = 0 → y = (cnt (fun r => decide (M (37 + 7 * w + 4) r = -1)) N.R : Int)) → (b ≠ 0 → x = -1 → y = -1) → (∀ t : Nat, t < N.R → x = t → (b = 1 → y = B t) ∧ (b = 2 → y = A t) ∧ (b = 3 → y = t)) → f_X12_stems (w : Int) b M (fun r2 M2 => Q y r2 M2) := by
    intro x y hF hb y0 y1 y2
    unfold f_X12_stems
    refine r_isIn (fun z1 z2 => ⟨fun z => absurd z (by omega), fun _ => r_isIn (fun _ _ => ⟨fun _ => q_lays hC (fun M2 k1 k2 k3 k4 => ?_), fun z => absurd z (by omega)⟩) (fun z => absurd hb z)⟩) (fun z => by omega)
    have hnr := (k3.2 w hw).nxt h3.1
    have en : ∀ r, r < N.R → rw_ M2 112 w r = M (37 + 7 * w + 3) r := fun r hr => (k4.2.2 w hw r hr).1.symm
    have eb : ∀ r, r < N.R → rw_ M2 113 w r = M (37 + 7 * w + 4) r := fun r hr => (k4.2.2 w hw r hr).2.1.symm
    have ec : cnt (fun r => decide (rw_ M2 113 w r = -1)) N.R = cnt (fun r => decide (M (37 + 7 * w + 4) r = -1)) N.R := cnt_congr (fun r hr => by rw [eb r hr])
    refine jn_use (P := fun J => J x (cnt (fun r => decide (M (37 + 7 * w + 4) r = -1)) N.R : Int)) ⟨fun c3 => ⟨fun c4 => ?_, fun c4 => ⟨fun c5 => ?_, fun c5 => ?_⟩⟩, fun c3 => ?_⟩ (fun J hJ => r_stemsLoop hw k2.2.1 h3.1 hp hnr (hA.congr en (fun _ _ => rfl)) (fun x' hx' => ?_))
    · rw [y1 c3 c4, c4]; exact h _ _ k1 k2
    · obtain ⟨t, t1, t2, t3⟩ := hF.nat c4
      obtain ⟨q1, q2, -⟩ := y2 t t2 t1
      subst t1
      refine jn_use (P := fun J => (b = 1 → J 0) ∧ (b = 2 → J 1)) ⟨fun e => ?_, fun e => ?_⟩ (fun J hJ => ⟨fun z => hJ.1 (by omega), fun z => hJ.2 z⟩)
      · rw [q1 e]
        exact r_stemOf hw k2.2.1 h3.1 t2 hp hnr (hB.congr en (fun r _ => by rw [if_pos rfl])) (h _ _ k1 k2)
      · rw [q2 e]
        exact r_stemOf hw k2.2.1 h3.1 t2 hp hnr (hA.congr en (fun r _ => by rw [if_neg (by omega)])) (h _ _ k1 k2)
    · obtain ⟨t, t1, t2, t3⟩ := hF.nat c4
      rw [(y2 t t2 t1).2.2 c5, t1]; exact h _ _ k1 k2
    · rw [y0 c3]; exact h _ _ k1 k2
    · rw [ec]
      have hx2 : Fam N.R (fun r => M (37 + 7 * w + 4) r = -1) A x' := by
        rcases hx' with ⟨z1, z2⟩ | ⟨b', z1, z2, z3, z4, z5⟩
        · exact Or.inl ⟨z1, fun r hr q => z2 r hr ((eb r hr).trans q)⟩
        · exact Or.inr ⟨b', z1, z2, (eb b' z2).symm.trans z3, fun r hr q => z4 r hr ((eb r hr).trans q), fun r hr q => z5 r hr ((eb r (by omega)).trans q)⟩
      rw [← hF.uniq hx2]; exact hJ
  refine ⟨fun c3 => x_longest h1 h3.1 hp hn hA (fun x hF => ⟨fun c4 => ?_, fun c4 => ?_⟩), fun c3 => ?_⟩
  · obtain ⟨t, t1, t2, t3⟩ := hF.nat c4
    subst t1
    obtain ⟨m, m0, m1, m2, m3⟩ := chn_end hn hp t2
    have hm := acc_one hn (fun r hr => (hp r hr).1) t2 hB m0 m2 m3
    refine ⟨fun e => x_howMany t2 hR hp hn m0 m1 m2 m3 (href t _ hF (by omega) (fun z => by omega) (fun _ z => by omega) (fun t' ht' e' => ⟨fun _ => by rw [show t' = t by omega]; exact hm.symm, fun z => by omega, fun z => by omega⟩)), fun e => x_lengthOf h1 h3.1 t2 hp hn hA (href t _ hF (by omega) (fun z => by omega) (fun _ z => by omega) (fun t' ht' e' => ⟨fun z => by omega, fun _ => by rw [show t' = t by omega], fun z => by omega⟩)), fun e => href t _ hF (by omega) (fun z => by omega) (fun _ z => by omega) (fun t' ht' e' => ⟨fun z => by omega, fun z => by omega, fun _ => e'⟩), fun e => hbad (by omega)⟩
  · by_cases hb : 0 ≤ b ∧ b ≤ 3
    · exact href x _ hF hb (fun z => absurd z c3) (fun _ _ => rfl) (fun t ht e => by omega)
    · exact hbad (Or.inr hb)
  · refine x_howManyStems h1 h3.1 ?_
    obtain ⟨x, hF⟩ : ∃ x, Fam N.R (fun r => M (37 + 7 * w + 4) r = -1) A x := by
      have key : ∀ k, ∃ x, Fam k (fun r => M (37 + 7 * w + 4) r = -1) A x := by
        intro k
        induction k with
        | zero => exact ⟨_, Fam.zero⟩
        | succ k ih =>
          obtain ⟨x, hx⟩ := ih
          by_cases z : M (37 + 7 * w + 4) k = -1
          · by_cases e : x = -1
            · subst e; exact ⟨_, hx.first z⟩
            · obtain ⟨b', b1, b2, b3⟩ := hx.nat e
              subst b1
              by_cases y : A b' < A k
              · exact ⟨_, hx.over z y⟩
              · exact ⟨_, hx.keep (by omega)⟩
          · exact ⟨_, hx.skip z⟩
      exact key _
    exact href x _ hF (by omega) (fun _ => rfl) (fun z => absurd c3 z) (fun t ht e => ⟨fun z => by omega, fun z => by omega, fun z => by omega⟩)
end
