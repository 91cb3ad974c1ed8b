/-! stem -/
theorem chn_congr {N : Nt} {nx nx' bf : Nat → Int} {pos : Nat → Nat} {t : Nat} (hn : Nxt N nx bf) (hp : ∀ r, r < N.R → pos (N.hd r) < pos (N.ft r)) (ht : t < N.R) (e : ∀ r, r < N.R → nx' r = nx r) : ∀ i, chn nx' t i = chn nx t i
  | 0 => rfl
  | i + 1 => by
    unfold chn
    rw [chn_congr hn hp ht e i]
    rcases chn_rng hn hp ht i with z | ⟨c, z1, z2, z3⟩
    · rw [if_pos z, if_pos z]
    · rw [if_neg (by omega), if_neg (by omega), z1, tn, e c z2]
theorem top_ex {N : Nt} {nx bf : Nat → Int} {pos : Nat → Nat} (hn : Nxt N nx bf) (hp : ∀ r, r < N.R → pos (N.hd r) < pos (N.ft r)) : ∃ tp : Nat → Int, (∀ r, r < N.R → bf r = -1 → tp r = r) ∧ (∀ r, r < N.R → ∀ d : Nat, bf r = d → tp r = tp d) := by
  obtain ⟨tp, h⟩ := fix_ex (t := fun r => pos (N.hd r)) (F := fun r f => if r < N.R ∧ bf r ≠ -1 then f (bf r).toNat else (r : Int)) (fun r f f' h => by
    by_cases q : r < N.R ∧ bf r ≠ -1
    · rw [if_pos q, if_pos q]
      rcases hn.2 r q.1 with z | ⟨c, z1, z2, z3, -⟩
      · exact absurd z q.2
      · rw [z1, tn, h c (by rw [← z3]; exact hp c z2)]
    · rw [if_neg q, if_neg q])
  refine ⟨tp, fun r hr z => ?_, fun r hr d z => ?_⟩
  · rw [h r, if_neg (fun y => y.2 z)]
  · rw [h r, if_pos ⟨hr, by omega⟩, z, tn]
section
variable {M : Mem} {N : Nt} {n : Nat}
theorem FigX.pos (hG : Good N) (h : FigX M n N) : ∃ pos : Nat → Nat, ∀ r, r < N.R → pos (N.hd r) < pos (N.ft r) ∧ pos (N.hd r) < 20 := by
  obtain ⟨⟨g, pos, b, ht, -⟩, -⟩ := h
  refine ⟨pos, fun r hr => ⟨ht.2.2 r hr, ?_⟩⟩
  have := (ht.2.1 _ (hG.1.2.2 r hr).1).1
  have := hG.1.1
  omega
theorem q_stem {a b k : Int} (hC : Core M N) {Q : Int → Int → Mem → Prop} (h : ∀ (r : Int) (M2 : Mem), Qf M M2 → Core M2 N → Q r r M2) : f_X11_stem a b k M (fun r => f_X12_stem a b k M (fun r2 M2 => Q r r2 M2)) := by
  obtain ⟨h1, h2, h3, h4, h5⟩ := id hC
  have hR := h3.1.2.1
  unfold f_X11_stem
  refine x_isReach h1 (fun r hr e => ⟨fun z => absurd z (by omega), fun _ => ?_⟩) (fun hno => ⟨fun _ => ?_, fun z => absurd rfl z⟩)
  · subst e
    have hok : ∀ Q : Int → Prop, Q 1 → f_X12_isReach (r : Int) M Q := fun Q hQ => r_isReach h2 h3.1 (fun _ _ _ => hQ) (fun z => by omega)
    have hbad : ¬ (0 ≤ b ∧ b ≤ 2) ∨ k < -1 → f_X12_stem (r : Int) b k M (fun r2 M2 => Q (-1) r2 M2) := fun hb => by
      unfold f_X12_stem
      exact hok _ ⟨fun z => absurd z (by omega), fun _ => r_isIn (fun z1 z2 => ⟨fun z => absurd z (by omega), fun _ => ⟨fun z => by omega, fun _ => h _ _ (Qf.refl M) hC⟩⟩) (fun _ => ⟨fun _ => h _ _ (Qf.refl M) hC, fun z => absurd rfl z⟩)⟩
    unfold f_X11_isWay
    refine ⟨fun c => ⟨fun z => absurd rfl z, fun _ => hbad (by omega)⟩, fun c => ⟨fun c2 => ⟨fun z => absurd rfl z, fun _ => hbad (by omega)⟩, fun c2 => ⟨fun _ => ?_, fun z => absurd z (by omega)⟩⟩⟩
    obtain ⟨w, rfl⟩ : ∃ w : Nat, b = w := ⟨b.toNat, by omega⟩
    have hw : w < 3 := by omega
    refine ⟨by omega, ?_⟩
    rw [tn]
    have hSt := h4.st hw
    have hn := hSt.nxt h3.1
    obtain ⟨pos, hp⟩ := h4.1.pos h3
    obtain ⟨tp, tp1, tp2⟩ := top_ex hn (fun r hr => (hp r hr).1)
    refine x_topOf (N := N) (pos := pos) (C := fun t => tp t = tp r) hr hR hp hn rfl (fun c d hc hd hcc e => by rw [← tp2 c hc d e]; exact hcc) (fun t ht htc htb => ?_)
    have htr : tp r = t := by rw [← htc, tp1 t ht htb]
    obtain ⟨m, m0, m1, m2, m3⟩ := chn_end hn hp ht
    have href : (-1 ≤ k) → ∀ x : Int, (k = -1 → x = m) → (0 ≤ k → x = chn (M (37 + 7 * w + 3)) t k.toNat) → f_X12_stem (r : Int) (w : Int) k M (fun r2 M2 => Q x r2 M2) := by
      intro hk x hx1 hx2
      unfold f_X12_stem
      refine hok _ ⟨fun z => absurd z (by omega), fun _ => r_isIn (fun z1 z2 => ⟨fun z => absurd z (by omega), fun _ => ⟨fun _ => q_lays hC (fun M2 k1 k2 k3 k4 => ?_), fun z => absurd hk z⟩⟩) (fun z => by omega)⟩
      have hnr := (k3.2 w hw).nxt h3.1
      have en : ∀ r, r < N.R → rw_ M2 112 w r = M (37 + 7 * w + 3) r := fun r hr => (k4.2.2 w hw r hr).1.symm
      have eb : ∀ r, r < N.R → rw_ M2 113 w r = M (37 + 7 * w + 4) r := fun r hr => (k4.2.2 w hw r hr).2.1.symm
      refine r_topOf (N := N) (pos := pos) (nx := rw_ M2 112 w) (C := fun t => tp t = tp r) hw hr hR hp hnr rfl (fun c d hc hd hcc e => by rw [← tp2 c hc d (by rw [← eb c hc]; exact e)]; exact hcc) (fun t' ht' htc' htb' => ?_)
      have et : t' = t := by
        rw [eb t' ht'] at htb'
        have := tp1 t' ht' htb'
        omega
      subst et
      have ech : ∀ i, chn (rw_ M2 112 w) t' i = chn (M (37 + 7 * w + 3)) t' i := chn_congr hn (fun r hr => (hp r hr).1) ht en
      refine jn_use (P := fun J => (∀ j : Nat, j < m → (j : Int) ≠ k) → J (m : Int)) (fun hno => ⟨fun z => ?_, fun z => by rw [hx1 z]; exact h _ _ k1 k2⟩) (fun J hJ => ?_)
      · have hkm : m ≤ k.toNat := by
          rcases Nat.lt_or_ge k.toNat m with y | y
          · exact absurd (show ((k.toNat : Nat) : Int) = k by omega) (hno _ y)
          · exact y
        obtain ⟨d, hd⟩ : ∃ d, k.toNat = m + d := ⟨k.toNat - m, by omega⟩
        rw [hx2 (by omega), hd, chn_after m2]
        exact h _ _ k1 k2
      · refine wl2_inv (I := fun (v u : Int) => ∃ i : Nat, v = i ∧ i ≤ m ∧ u = chn (M (37 + 7 * w + 3)) t' i ∧ ∀ j : Nat, j < i → (j : Int) ≠ k) (μ := fun (v _ : Int) => m - v.toNat) ?_ 5000 _ _ ⟨0, rfl, by omega, rfl, fun j hj => by omega⟩ (by simp; omega)
        rintro rec v u ⟨i, rfl, him, rfl, hne⟩ hrec
        unfold X12_stem_b42
        refine ⟨fun c4 => ?_, fun c4 => ⟨fun c5 => ⟨by unfold inR; omega, ?_⟩, fun c5 => ?_⟩⟩
        · have : i = m := by
            rcases Nat.lt_or_ge i m with y | y
            · exact absurd c4 (m3 i y)
            · omega
          subst this
          exact hJ hne
        · rintro _ rfl
          rcases chn_rng hn (fun r hr => (hp r hr).1) ht i with z | ⟨d, z1, z2, z3⟩
          · exact absurd z c4
          have e : chn (M (37 + 7 * w + 3)) t' (i + 1) = rw_ M2 112 w d := by
            show (if chn (M (37 + 7 * w + 3)) t' i = -1 then -1 else _) = _
            rw [if_neg c4, z1, tn, en d z2]
          have hlt : i < m := by
            rcases Nat.lt_or_ge i m with y | y
            · exact y
            · rw [show i = m by omega] at c4; exact absurd m2 c4
          rw [z1]
          refine r_by hw (by omega) ⟨by omega, ?_⟩
          rw [tn]
          rintro _ rfl
          refine hrec _ _ ⟨i + 1, by omega, by omega, e.symm, fun j hj => ?_⟩ (by omega)
          rcases Nat.lt_or_ge j i with y | y
          · exact hne j y
          · rw [show j = i by omega]; exact c5
        · have hx := hx2 (by omega)
          rw [show k.toNat = i by omega] at hx
          rw [hx]
          exact h _ _ k1 k2
    refine ⟨fun c3 => x_nth ht hR hp hn m1 m2 (fun hk => href (by omega) _ (fun z => by omega) (fun _ => rfl)) (fun hk => hbad (Or.inr (by omega))), fun c3 => x_howMany ht hR hp hn m0 m1 m2 m3 (href (by omega) _ (fun _ => rfl) (fun z => by omega))⟩
  · unfold f_X12_stem
    exact r_isReach h2 h3.1 (fun p hp e => by omega) (fun _ => ⟨fun _ => h _ _ (Qf.refl M) hC, fun z => absurd rfl z⟩)
end
