/-! the reference's branches, crowns, all of lays -/
theorem fix_ex {t : Nat → Nat} {F : Nat → (Nat → Int) → Int} (hF : ∀ r f f', (∀ d, t d < t r → f d = f' d) → F r f = F r f') : ∃ f : Nat → Int, ∀ r, f r = F r f := by
  let g : Nat → Nat → Int := fun n => Nat.rec (fun _ => 0) (fun _ gn r => F r gn) n
  have g1 : ∀ n r, g (n + 1) r = F r (g n) := fun n r => rfl
  have key : ∀ m r, t r < m → ∀ n, t r < n → g n r = g (t r + 1) r := by
    intro m
    induction m with
    | zero => intro r h; omega
    | succ m ih =>
      intro r hr n hn
      obtain ⟨n', rfl⟩ : ∃ n', n = n' + 1 := ⟨n - 1, by omega⟩
      rw [g1, g1]
      refine hF r _ _ (fun d hd => ?_)
      rw [ih d (by omega) n' (by omega), ih d (by omega) (t r) hd]
  refine ⟨fun r => g (t r + 1) r, fun r => ?_⟩
  show g (t r + 1) r = _
  rw [g1]
  exact hF r _ _ (fun d hd => key (t d + 1) d (by omega) (t r) hd)
theorem Crw_ex {N : Nt} (hW : Wf N) {g pos : Nat → Nat} (ht : Topo N g pos) {nx bf mt : Nat → Int} (hn : Nxt N nx bf) : ∃ c1 cr, Crw N nx bf mt c1 cr := by
  have hpos : ∀ r, r < N.R → pos (N.hd r) < pos (N.ft r) ∧ pos (N.ft r) < 20 := fun r hr => ⟨ht.2.2 r hr, by have := (ht.2.1 _ (hW.2.2 r hr).2.1).1; have := hW.1; omega⟩
  obtain ⟨c1, h1⟩ := fix_ex (t := fun r => pos (N.hd r)) (F := fun r f => if r < N.R ∧ bf r ≠ -1 then max (mt r) (f (bf r).toNat) else max (mt r) 0) (fun r f f' h => by
    by_cases q : r < N.R ∧ bf r ≠ -1
    · rw [if_pos q, if_pos q]
      rcases hn.2 r q.1 with z | ⟨c, z1, z2, z3, -⟩
      · exact absurd z q.2
      · rw [z1, tn, h c (by rw [← z3]; exact (hpos c z2).1)]
    · rw [if_neg q, if_neg q])
  obtain ⟨cr, h2⟩ := fix_ex (t := fun r => 20 - pos (N.hd r)) (F := fun r f => if r < N.R ∧ nx r ≠ -1 then f (nx r).toNat else c1 r) (fun r f f' h => by
    by_cases q : r < N.R ∧ nx r ≠ -1
    · rw [if_pos q, if_pos q]
      rcases hn.1 r q.1 with z | ⟨c, z1, z2, z3, -⟩
      · exact absurd z q.2
      · have a1 := hpos r q.1
        have a2 := hpos c z2
        rw [z1, tn, h c (by rw [z3]; omega)]
    · rw [if_neg q, if_neg q])
  refine ⟨c1, cr, fun r hr => ⟨fun z => ?_, fun z => ?_, fun z => ?_, fun z => ?_⟩⟩
  · rw [h1 r, if_neg (fun y => y.2 z)]
  · have := h1 r
    rw [if_pos ⟨hr, z⟩] at this
    exact this
  · rw [h2 r, if_neg (fun y => y.2 z)]
  · have := h2 r
    rw [if_pos ⟨hr, z⟩] at this
    exact this
/-- only a way's rows of a cell -/
def OnlyW (M M' : Mem) (c w : Nat) : Prop := ∀ i, (i < 30 * w ∨ 30 * w + 30 ≤ i) → M' c i = M c i
theorem rw_st {M : Mem} {c w r : Nat} {v : Int} {q : Nat} (hr : r < 30) (hq : q < 30) : rw_ (st M c (30 * w + r) v) c w q = if q = r then v else rw_ M c w q := by
  unfold rw_
  rw [st_s]
  by_cases e : q = r
  · subst e; rw [if_pos rfl, if_pos rfl]
  · rw [if_neg e, if_neg (by omega)]
theorem rw_o {M : Mem} {c d w i : Nat} {v : Int} (h : d ≠ c) : rw_ (st M c i v) d w = rw_ M d w := by unfold rw_; rw [st_o h]
theorem only_st {M M' : Mem} {c w r : Nat} {v : Int} (hr : r < 30) (h : OnlyW M M' c w) : OnlyW M (st M' c (30 * w + r) v) c w := fun i hi => by
  rw [st_s, if_neg (by omega)]; exact h i hi
theorem Nxt.congr {N : Nt} {nx bf nx' bf' : Nat → Int} (e1 : ∀ r, r < N.R → nx' r = nx r) (e2 : ∀ r, r < N.R → bf' r = bf r) (h : Nxt N nx bf) : Nxt N nx' bf' := by
  refine ⟨fun r hr => ?_, fun r hr => ?_⟩
  · rw [e1 r hr]
    rcases h.1 r hr with z | ⟨c, z1, z2, z3, z4⟩
    · exact Or.inl z
    · exact Or.inr ⟨c, z1, z2, z3, by rw [e2 c z2]; exact z4⟩
  · rw [e2 r hr]
    rcases h.2 r hr with z | ⟨c, z1, z2, z3, z4⟩
    · exact Or.inl z
    · exact Or.inr ⟨c, z1, z2, z3, by rw [e1 c z2]; exact z4⟩
section
variable {M : Mem} {N : Nt}
theorem r_laysBranches {g pos : Nat → Nat} {w : Nat} {bf : Nat → Int} (hw : w < 3) (hN : NetR M 100 N) (hW : Wf N) (ht : Topo N g pos) (ho : ∀ i, i < N.P → M 101 i = g i) (hn : Nxt N (rw_ M 112 w) bf) {Q : Mem → Prop} (h : ∀ M' : Mem, (∀ c, c ≠ 114 → M' c = M c) → OnlyW M M' 114 w → Brn N (rw_ M 112 w) (rw_ M' 114 w) → Q M') : f_X12_laysBranches (w : Int) M Q := by
  obtain ⟨hP20, hR30, hr⟩ := id hW
  obtain ⟨t1, t2, t3⟩ := ht
  unfold f_X12_laysBranches
  refine r_places hN ⟨by unfold inR; omega, ?_⟩
  rintro _ rfl
  let Pd : Nat → Nat → Nat → Prop := fun k j r => r < N.R ∧ (k ≤ pos (N.ft r) ∨ (pos (N.ft r) + 1 = k ∧ r < j))
  let S : Nat → Nat → Mem → Prop := fun k j M' => (∀ c, c ≠ 114 → M' c = M c) ∧ OnlyW M M' 114 w ∧ (∀ r, Pd k j r → 1 ≤ rw_ M' 114 w r ∧ rw_ M' 114 w r + (pos (N.ft r) : Int) ≤ N.P ∧ (rw_ M 112 w r ≠ -1 → rw_ M' 114 w r = rw_ M' 114 w (rw_ M 112 w r).toNat) ∧ (rw_ M 112 w r = -1 → ∃ l, Lst N (rw_ M' 114 w) (N.ft r) l ∧ rw_ M' 114 w r = 1 + l))
  refine wl2_inv (I := fun (v : Int) (M' : Mem) => ∃ k : Nat, v = (k : Int) - 1 ∧ k ≤ N.P ∧ S k 0 M') (μ := fun (v : Int) (_ : Mem) => (v + 1).toNat) ?_ 5000 _ _ ⟨N.P, rfl, by omega, fun c _ => rfl, fun i _ => rfl, ?_⟩ (by omega)
  rotate_left
  · rintro r ⟨z1, z2⟩
    have := (t2 _ (hr r z1).2.1).1
    omega
  rintro rec v M' ⟨k, rfl, hk, hS⟩ hrec
  unfold X12_laysBranches_b7
  refine ⟨fun c => ?_, fun c => ?_⟩
  · have e : k = 0 := by omega
    subst e
    obtain ⟨g1, g2, g3⟩ := hS
    refine h M' g1 g2 (fun r hr' => ?_)
    obtain ⟨z1, z2, z3, z4⟩ := g3 r ⟨hr', Or.inl (by omega)⟩
    exact ⟨z1, by omega, z3, z4⟩
  · obtain ⟨i, rfl⟩ : ∃ i, k = i + 1 := ⟨k - 1, by omega⟩
    rw [show ((i + 1 : Nat) : Int) - 1 = (i : Int) by omega]
    refine wl2_inv (I := fun (v : Int) (M' : Mem) => ∃ j : Nat, v = j ∧ j ≤ N.R ∧ S (i + 1) j M') (μ := fun (v : Int) (_ : Mem) => N.R - v.toNat) ?_ 5000 _ _ ⟨0, rfl, by omega, hS⟩ (by simp; omega)
    clear hS
    rintro rec' v M' ⟨j, rfl, hj, g1, g2, g3⟩ hrec'
    unfold X12_laysBranches_b13
    have hN' : NetR M' 100 N := hN.of (g1 100 (by omega))
    have hor : M' 101 i = g i := by rw [g1 101 (by omega)]; exact ho i (by omega)
    refine r_reaches hN' ⟨fun c2 => ⟨by unfold inR; omega, ?_⟩, fun c2 => ?_⟩
    · rintro _ rfl
      have e : j = N.R := by omega
      subst e
      refine hrec _ _ ⟨i, by omega, by omega, g1, g2, fun r hpd => g3 r ?_⟩ (by omega)
      obtain ⟨z1, z2⟩ := hpd
      exact ⟨z1, by omega⟩
    · have hjR : j < N.R := by omega
      obtain ⟨w1, w2, -⟩ := hr j hjR
      refine r_ft hN' hW hjR ⟨by omega, ?_⟩
      rw [tn, hor]
      refine ⟨fun c3 => r_by hw (by omega) ⟨by omega, ?_⟩, fun c3 => ⟨by unfold inR; omega, ?_⟩⟩
      rotate_left
      · rintro _ rfl
        have hne : pos (N.ft j) ≠ i := fun e => c3 (by rw [← e, (t2 _ w2).2])
        refine hrec' _ _ ⟨j + 1, by omega, by omega, g1, g2, fun r hpd => g3 r ?_⟩ (by omega)
        obtain ⟨z1, z2⟩ := hpd
        refine ⟨z1, ?_⟩
        rcases z2 with z2 | z2
        · exact Or.inl z2
        · refine Or.inr ⟨z2.1, ?_⟩
          rcases Nat.lt_or_ge r j with y | y
          · exact y
          · have : r = j := by omega
            subst this
            omega
      · have hft : N.ft j = g i := by omega
        have hpi : pos (N.ft j) = i := by rw [hft]; exact (t1 i (by omega)).2
        have hpd : ∀ r, Pd (i + 1) (j + 1) r → Pd (i + 1) j r ∨ r = j := fun r => by
          rintro ⟨z1, z2⟩
          rcases Nat.lt_or_ge r j with y | y
          · exact Or.inl ⟨z1, by omega⟩
          · by_cases e : r = j
            · exact Or.inr e
            · exact Or.inl ⟨z1, by omega⟩
        have hdone : ∀ q, q < N.R → N.hd q = N.ft j → Pd (i + 1) j q := fun q hq e => by
          have := t3 q hq
          rw [e, hpi] at this
          exact ⟨hq, Or.inl this⟩
        rw [tn, g1 112 (by omega)]
        rintro _ rfl
        refine r_by hw (by omega) ?_
        have hst : ∀ x : Int, 1 ≤ x → x + (i : Int) ≤ N.P → (rw_ M 112 w j ≠ -1 → x = rw_ M' 114 w (rw_ M 112 w j).toNat) → (rw_ M 112 w j = -1 → ∃ l, Lst N (rw_ M' 114 w) (N.ft j) l ∧ x = 1 + l) → ∀ M_26 : Mem, M_26 = st M' 114 (30 * w + j) x → inR ((j : Int) + 1) ∧ ∀ v3_27 : Int, v3_27 = (j : Int) + 1 → rec' v3_27 M_26 := by
          intro x x1 x2 x3 x4
          rintro _ rfl
          refine ⟨by unfold inR; omega, ?_⟩
          rintro _ rfl
          have hsk : ∀ r, pos (N.ft r) ≥ i → ∀ q, q < N.R → N.hd q = N.ft r → rw_ M' 114 w q = rw_ (st M' 114 (30 * w + j) x) 114 w q := fun r hr' q hq e => by
            rw [rw_st (by omega) (by omega), if_neg]
            rintro rfl
            have := t3 q hq
            rw [e] at this
            omega
          refine hrec' _ _ ⟨j + 1, by omega, by omega, fun c hc => by rw [st_o hc]; exact g1 c hc, only_st (by omega) g2, fun r hpr => ?_⟩ (by omega)
          have hrp : pos (N.ft r) ≥ i := by have := hpr.2; omega
          have hrR := hpr.1
          have hnx : rw_ M 112 w r ≠ -1 → rw_ M' 114 w (rw_ M 112 w r).toNat = rw_ (st M' 114 (30 * w + j) x) 114 w (rw_ M 112 w r).toNat := fun hne => by
            rcases hn.1 r hrR with z | ⟨c, z1, z2, z3, -⟩
            · exact absurd z hne
            · rw [z1, tn]; exact hsk r hrp c z2 z3
          by_cases e : r = j
          · subst e
            have ev : rw_ (st M' 114 (30 * w + r) x) 114 w r = x := by rw [rw_st (by omega) (by omega), if_pos rfl]
            rw [ev]
            refine ⟨x1, by omega, fun hne => ?_, fun he => ?_⟩
            · rw [← hnx hne]; exact x3 hne
            · obtain ⟨l, l1, l2⟩ := x4 he
              exact ⟨l, l1.congr (hsk r hrp), l2⟩
          · have ev : rw_ (st M' 114 (30 * w + j) x) 114 w r = rw_ M' 114 w r := by rw [rw_st (by omega) (by omega), if_neg e]
            rw [ev]
            obtain ⟨y1, y2, y3, y4⟩ := g3 r ((hpd r hpr).elim id (fun z => absurd z e))
            refine ⟨y1, y2, fun hne => ?_, fun he => ?_⟩
            · rw [← hnx hne]; exact y3 hne
            · obtain ⟨l, l1, l2⟩ := y4 he
              exact ⟨l, l1.congr (hsk r hrp), l2⟩
        refine ⟨fun c4 => ?_, fun c4 => ?_⟩
        · refine r_leastBranch hw hN' hW (fun q hq e => (g3 q (hdone q hq (by omega))).1) (fun l hl => ⟨by omega, ?_⟩)
          rw [← hft] at hl
          have hl2 : 0 ≤ l ∧ l + i + 1 ≤ N.P := by
            rcases hl with ⟨z, -⟩ | ⟨⟨q, z1, z2, z3⟩, -⟩
            · omega
            · have y := g3 q (hdone q z1 z2)
              have := t3 q z1
              rw [z2, hpi] at this
              omega
          rw [tn]
          exact ⟨by unfold inR; omega, hst _ (by omega) (by omega) (fun z => absurd c4 z) (fun _ => ⟨l, hl, rfl⟩)⟩
        · rcases hn.1 j hjR with z | ⟨c, z1, z2, z3, -⟩
          · exact absurd z c4
          · have z1' : M 112 (30 * w + j) = c := z1
            have y := g3 c (hdone c z2 z3)
            have := t3 c z2
            rw [z3, hpi] at this
            rw [z1']
            refine r_by hw (by omega) ⟨by omega, by omega, ?_⟩
            rw [tn, tn]
            exact hst _ y.1 (by have := y.2.1; unfold rw_ at this; omega) (fun _ => by rw [z1, tn]; rfl) (fun z => absurd z (by rw [z1]; omega))
theorem r_laysCrowns {g pos : Nat → Nat} {w : Nat} {c1 cr : Nat → Int} (hw : w < 3) (hN : NetR M 100 N) (hW : Wf N) (ht : Topo N g pos) (hn : Nxt N (rw_ M 112 w) (rw_ M 113 w)) (hC : Crw N (rw_ M 112 w) (rw_ M 113 w) (M 111) c1 cr) {Q : Mem → Prop} (h : ∀ M' : Mem, (∀ c, c ≠ 115 → M' c = M c) → OnlyW M M' 115 w → (∀ r, r < N.R → rw_ M' 115 w r = cr r) → Q M') : f_X12_laysCrowns (w : Int) M Q := by
  obtain ⟨hP20, hR30, hr⟩ := id hW
  obtain ⟨t1, t2, t3⟩ := ht
  have hpp : ∀ r, r < N.R → pos (N.hd r) < pos (N.ft r) ∧ pos (N.hd r) < 20 := fun r hr' => ⟨t3 r hr', by have := (t2 _ (hr r hr').1).1; omega⟩
  unfold f_X12_laysCrowns
  refine wl2_inv (I := fun (v : Int) (M' : Mem) => ∃ k : Nat, v = k ∧ k ≤ N.R ∧ (∀ c, c ≠ 115 → M' c = M c) ∧ OnlyW M M' 115 w ∧ (∀ r, r < k → rw_ M' 115 w r = cr r)) (μ := fun (v : Int) (_ : Mem) => N.R - v.toNat) ?_ 5000 _ _ ⟨0, rfl, by omega, fun c _ => rfl, fun i _ => rfl, fun r hr => by omega⟩ (by simp; omega)
  rintro rec v M' ⟨k, rfl, hk, g1, g2, g3⟩ hrec
  unfold X12_laysCrowns_b2
  have hN' : NetR M' 100 N := hN.of (g1 100 (by omega))
  refine r_reaches hN' ⟨fun c => ?_, fun c => ?_⟩
  · have e : k = N.R := by omega
    subst e
    exact h M' g1 g2 g3
  · have hkR : k < N.R := by omega
    have e112 : rw_ M' 112 w = rw_ M 112 w := by unfold rw_; rw [g1 112 (by omega)]
    have e113 : rw_ M' 113 w = rw_ M 113 w := by unfold rw_; rw [g1 113 (by omega)]
    refine r_topOf (N := N) (pos := pos) (nx := rw_ M 112 w) (C := fun t => cr t = cr k) hw hkR hR30 hpp (by rw [e113]; exact hn) rfl (fun c d hc hd hcc e => ?_) (fun t ht' htc htb => ?_)
    · rw [e113] at e
      rcases hn.2 c hc with z | ⟨d', z1, z2, z3, z4⟩
      · omega
      · have : d' = d := by omega
        subst this
        rw [(hC d' hd).2.2.2 (by omega), z4, tn]
        exact hcc
    · rw [e113] at htb
      refine jn_use (P := fun J => J (cr k)) (r_by hw (by omega) ⟨by omega, ?_⟩) ?_
      · rw [tn]
        rintro _ rfl
        refine ⟨by unfold inR; omega, ?_⟩
        rintro _ rfl
        refine hrec _ _ ⟨k + 1, by omega, by omega, fun c hc => by rw [st_o hc]; exact g1 c hc, only_st (by omega) g2, fun r hr' => ?_⟩ (by omega)
        rw [rw_st (by omega) (by omega)]
        by_cases e : r = k
        · subst e; rw [if_pos rfl]
        · rw [if_neg e]; exact g3 r (by omega)
      · intro J hJ
        refine wl2_inv (I := fun (m v : Int) => (v = -1 ∧ m = cr k) ∨ ∃ t : Nat, v = t ∧ t < N.R ∧ cr t = cr k ∧ (rw_ M 113 w t = -1 → m = 0) ∧ (rw_ M 113 w t ≠ -1 → m = c1 (rw_ M 113 w t).toNat)) (μ := fun (_ v : Int) => if v = -1 then 0 else 1 + (20 - pos (N.hd v.toNat))) ?_ 5000 _ _ (Or.inr ⟨t, rfl, ht', htc, fun _ => rfl, fun z => absurd htb z⟩) (by split <;> omega)
        rintro rec' m v hI hrec'
        unfold X12_laysCrowns_b20
        rcases hI with ⟨rfl, rfl⟩ | ⟨t, rfl, ht2, hI1, hI2, hI3⟩
        · exact ⟨fun _ => hJ, fun z => absurd rfl z⟩
        · refine ⟨fun z => by omega, fun _ => ⟨by omega, ?_⟩⟩
          rw [tn, g1 111 (by omega)]
          have hc1 : c1 t = max (M 111 t) m := by
            by_cases z : rw_ M 113 w t = -1
            · rw [(hC t ht2).1 z, hI2 z]
            · rw [(hC t ht2).2.1 z, hI3 z]
          refine jn_use (P := fun J => J (c1 t)) (r_by hw (by omega) ⟨by omega, ?_⟩) ?_
          · rw [tn, g1 112 (by omega)]
            rintro _ rfl
            rcases hn.1 t ht2 with z | ⟨d, z1, z2, z3, z4⟩
            · have z' : M 112 (30 * w + t) = -1 := z
              rw [z']
              refine hrec' _ _ (Or.inl ⟨rfl, ?_⟩) (by rw [if_pos rfl, if_neg (by omega)]; omega)
              rw [← hI1, (hC t ht2).2.2.1 z]
            · have z1' : M 112 (30 * w + t) = d := z1
              rw [z1']
              refine hrec' _ _ (Or.inr ⟨d, rfl, z2, ?_, fun y => by omega, fun _ => by rw [z4, tn]⟩) ?_
              · rw [← hI1, (hC t ht2).2.2.2 (by omega), z1, tn]
              · have a1 := hpp t ht2
                have a2 := hpp d z2
                rw [if_neg (by omega), if_neg (by omega), tn, tn, z3]
                omega
          · intro J hJ
            refine ⟨fun c5 => ?_, fun c5 => ?_⟩
            · rw [hc1, Int.max_eq_right c5] at hJ; exact hJ
            · rintro _ rfl
              rw [hc1, Int.max_eq_left (by omega)] at hJ; exact hJ
end
