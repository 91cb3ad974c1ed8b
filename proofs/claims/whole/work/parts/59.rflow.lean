/-! the reference's flow and met -/
theorem sof_all (N : Nt) (p q : Nat) : sof N (-1) p q = decide (N.hd q = p) := by unfold sof; rw [decide_eq_decide]; omega
theorem sho_all (N : Nt) (p : Nat) : sho N (-1) p = nout N p := cnt_congr (fun q _ => sof_all N p q)
section
variable {M : Mem} {N : Nt}
def SFl (N : Nt) (pos : Nat → Nat) (k j : Nat) (M' : Mem) : Prop := (∀ p, p < N.P → M' 106 p = nz (sm (fun q => if N.ft q = p ∧ lexl N pos k j q = true then M' 107 q else 0) N.R)) ∧ (∀ q, q < N.R → lexl N pos k j q = true → M' 107 q = nz (N.gf q + shr N (-1) (M' 106 (N.hd q)) q))
theorem lexl_skip {N : Nt} {pos : Nat → Nat} {k j : Nat} (h : pos (N.hd j) ≠ k) (q : Nat) : lexl N pos k (j + 1) q = lexl N pos k j q := by
  unfold lexl
  simp only [decide_eq_decide]
  constructor
  · rintro (z | z)
    · exact Or.inl z
    · refine Or.inr ⟨z.1, ?_⟩
      rcases Nat.lt_or_ge q j with y | y
      · exact y
      · have : q = j := by omega
        subst this
        exact absurd z.1 h
  · rintro (z | z)
    · exact Or.inl z
    · exact Or.inr (by omega)
theorem lexl_new {N : Nt} {pos : Nat → Nat} {k j : Nat} (h : pos (N.hd j) = k) (q : Nat) : lexl N pos k (j + 1) q = true ↔ lexl N pos k j q = true ∨ q = j := by
  unfold lexl
  simp only [decide_eq_true_eq]
  constructor
  · rintro (z | z)
    · exact Or.inl (Or.inl z)
    · by_cases e : q = j
      · exact Or.inr e
      · exact Or.inl (Or.inr (by omega))
  · rintro ((z | z) | z)
    · exact Or.inl z
    · exact Or.inr (by omega)
    · subst z; exact Or.inr ⟨h, by omega⟩
theorem lexl_end {N : Nt} {pos : Nat → Nat} {k q : Nat} (hq : q < N.R) : lexl N pos k N.R q = lexl N pos (k + 1) 0 q := by
  unfold lexl
  simp only [decide_eq_decide]
  omega
theorem r_sharesOut {g pos : Nat → Nat} {k : Nat} (hN : NetR M 100 N) (hW : Wf N) (ht : Topo N g pos) (hk : k < N.P) (hout : ∀ p, p < N.P → M 103 p = nout N p) (hS : SFl N pos k 0 M) {Q : Mem → Prop} (h : ∀ M' : Mem, (∀ c, c ≠ 106 → c ≠ 107 → M' c = M c) → SFl N pos (k + 1) 0 M' → Q M') : f_X12_sharesOut (g k : Int) M Q := by
  obtain ⟨hP20, hR30, hr⟩ := id hW
  obtain ⟨t1, t2, t3⟩ := ht
  obtain ⟨p1, p2⟩ := t1 k hk
  have ho := hout _ p1
  have hle := cnt_le (fun r => decide (N.hd r = g k)) N.R
  have hno : nout N (g k) ≤ 30 := by unfold nout; omega
  unfold f_X12_sharesOut
  refine ⟨by omega, ?_⟩
  rw [tn, ho]
  refine jn_use (P := fun J => ∀ x : Int, (0 < nout N (g k) → x = Int.tmod (M 106 (g k)) (nout N (g k))) → (nout N (g k) = 0 → x = 0) → J x) ?_ ?_
  · intro x hx hx0
    refine wl3_inv (I := fun (l v : Int) (M' : Mem) => ∃ j : Nat, v = j ∧ j ≤ N.R ∧ l = x - (cnt (fun q => decide (N.hd q = g k)) j : Int) ∧ (∀ c, c ≠ 106 → c ≠ 107 → M' c = M c) ∧ M' 106 (g k) = M 106 (g k) ∧ SFl N pos k j M') (μ := fun (_ v : Int) (_ : Mem) => N.R - v.toNat) ?_ 5000 _ _ _ ⟨0, rfl, by omega, by simp [cnt], fun c _ _ => rfl, rfl, hS⟩ (by simp; omega)
    rintro rec l v M' ⟨j, rfl, hj, rfl, g1, g2, g3, g4⟩ hrec
    unfold X12_sharesOut_b29
    have hN' : NetR M' 100 N := hN.of (g1 100 (by omega) (by omega))
    refine r_reaches hN' ⟨fun c => ?_, fun c => ?_⟩
    · have e : j = N.R := by omega
      subst e
      refine h M' g1 ⟨fun p hp => ?_, fun q hq hl => g4 q hq (by rw [lexl_end hq]; exact hl)⟩
      rw [g3 p hp]
      congr 1
      refine sm_congr (fun q hq => ?_)
      rw [lexl_end hq]
    · have hjR : j < N.R := by omega
      obtain ⟨w1, w2, -⟩ := hr j hjR
      refine r_hd hN' hW hjR ⟨fun c1 => ?_, fun c1 => r_gf hN' hW hjR ?_⟩
      · rintro _ rfl
        rw [show (j : Int) + 1 = ((j + 1 : Nat) : Int) by omega, nz_n (by omega)]
        have hne : pos (N.hd j) ≠ k := fun e => c1 (by rw [← e, (t2 _ w1).2])
        have hc : cnt (fun q => decide (N.hd q = g k)) (j + 1) = cnt (fun q => decide (N.hd q = g k)) j := by rw [cnt_s, if_neg (by simp; omega)]; rfl
        refine hrec _ _ _ ⟨j + 1, by omega, by omega, by rw [hc], g1, g2, fun p hp => ?_, fun q hq hl => g4 q hq (by rw [← lexl_skip hne]; exact hl)⟩ (by omega)
        rw [g3 p hp]
        congr 1
        refine sm_congr (fun q hq => ?_)
        rw [lexl_skip hne]
      · have hhd : N.hd j = g k := by omega
        have hpk : pos (N.hd j) = k := by rw [hhd]; exact p2
        have hpos : 0 < nout N (g k) := cnt_pos.mpr ⟨j, hjR, by simp; exact hhd⟩
        have hxx := hx hpos
        have m1 := Int.tmod_lt_of_pos (M 106 (g k)) (show (0 : Int) < nout N (g k) by omega)
        have m2 := Int.lt_tmod_of_pos (M 106 (g k)) (show (0 : Int) < nout N (g k) by omega)
        have l1 := cnt_le (fun q => decide (N.hd q = g k)) j
        have ho' : M' 103 (g k) = nout N (g k) := by rw [g1 103 (by omega) (by omega)]; exact ho
        rw [tn, ho', g2]
        refine ⟨by omega, ?_⟩
        have hcc : cnt (sof N (-1) (N.hd j)) j = cnt (fun q => decide (N.hd q = g k)) j := by rw [hhd]; exact cnt_congr (fun q _ => sof_all N (g k) q)
        have hF : ∃ F : Int, F = nz (N.gf j + shr N (-1) (M 106 (g k)) j) := ⟨_, rfl⟩
        obtain ⟨F, hF⟩ := hF
        have hnx : ∀ fl : Int, fl = (if (cnt (fun q => decide (N.hd q = g k)) j : Int) < Int.tmod (M 106 (g k)) (nout N (g k)) then 1 else 0) → (0 ≤ (j : Int) ∧ (j : Int) < 30) ∧ ∀ M_18 : Mem, M_18 = st M' 107 ((j : Int).toNat) (nz ((N.gf j + (Int.tdiv (M 106 (g k)) (nout N (g k)))) + fl)) → ∀ v2_19 : Int, v2_19 = nz ((x - (cnt (fun q => decide (N.hd q = g k)) j : Int)) + (-1)) → f_X12_its (j : Int) 1 M_18 (fun r_20 => (0 ≤ r_20 ∧ r_20 < 20) ∧ ∀ M_23 : Mem, M_23 = st M_18 106 (r_20.toNat) (nz ((M_18 106 (r_20.toNat)) + (M_18 107 ((j : Int).toNat)))) → ∀ v3_24 : Int, v3_24 = nz ((j : Int) + 1) → rec v2_19 v3_24 M_23) := by
          rintro _ rfl
          refine ⟨by omega, ?_⟩
          rintro _ rfl
          rintro _ rfl
          have hF2 : nz ((N.gf j + (Int.tdiv (M 106 (g k)) (nout N (g k)))) + (if (cnt (fun q => decide (N.hd q = g k)) j : Int) < Int.tmod (M 106 (g k)) (nout N (g k)) then 1 else 0)) = F := by
            rw [hF, shr, hcc, sho_all, hhd, Int.add_assoc]
          rw [tn, hF2]
          refine r_ft (hN'.of (st_o (by omega))) hW hjR ⟨by omega, ?_⟩
          rw [tn, st_o (show 106 ≠ 107 by omega), st_s, if_pos rfl, nz_eq (x := x - (cnt (fun q => decide (N.hd q = g k)) j : Int) + -1) (by unfold inR; omega)]
          rintro _ rfl
          rintro _ rfl
          rw [show (j : Int) + 1 = ((j + 1 : Nat) : Int) by omega, nz_n (by omega)]
          have hlj : lexl N pos k j j = false := by unfold lexl; simp only [decide_eq_false_iff_not]; omega
          have hpf := t3 j hjR
          have hnh : ∀ q, q < N.R → (lexl N pos k (j + 1) q = true) → N.hd q ≠ N.ft j := fun q hq hl e => by
            unfold lexl at hl
            simp only [decide_eq_true_eq] at hl
            rw [e] at hl
            omega
          refine hrec _ _ _ ⟨j + 1, by omega, by omega, ?_, fun c q1 q2 => by rw [st_o q1, st_o q2]; exact g1 c q1 q2, ?_, fun p hp => ?_, fun q hq hl => ?_⟩ (by omega)
          · rw [cnt_s, if_pos (by simp; exact hhd)]; omega
          · rw [st_s, if_neg (fun e => by rw [← e, p2] at hpf; omega), st_o (show 106 ≠ 107 by omega)]; exact g2
          · rw [st_s, st_o (show 107 ≠ 106 by omega)]
            by_cases e : p = N.ft j
            · rw [if_pos e]
              subst e
              rw [g3 _ hp, nz_l]
              congr 1
              refine (sm_add (k := j) hjR (fun q hq hqn => ?_) ?_).symm
              · rw [st_s, if_neg hqn]
                by_cases z : N.ft q = N.ft j ∧ lexl N pos k j q = true
                · rw [if_pos z, if_pos ⟨z.1, (lexl_new hpk q).mpr (Or.inl z.2)⟩]
                · rw [if_neg z, if_neg (fun y => z ⟨y.1, ((lexl_new hpk q).mp y.2).elim id (fun w => absurd w hqn)⟩)]
              · rw [if_pos ⟨rfl, (lexl_new hpk j).mpr (Or.inr rfl)⟩, st_s, if_pos rfl, if_neg (fun y => by rw [hlj] at y; cases y.2)]; omega
            · rw [if_neg e, st_o (show 106 ≠ 107 by omega), g3 p hp]
              congr 1
              refine sm_congr (fun q hq => ?_)
              by_cases z : N.ft q = p ∧ lexl N pos k j q = true
              · rw [if_pos z, if_pos ⟨z.1, (lexl_new hpk q).mpr (Or.inl z.2)⟩, st_s, if_neg (fun w => by subst w; exact e z.1.symm)]
              · rw [if_neg z, if_neg (fun y => z ⟨y.1, ((lexl_new hpk q).mp y.2).elim id (fun w => by subst w; exact absurd y.1.symm e)⟩)]
          · rw [st_o (show 107 ≠ 106 by omega), st_s, st_s, if_neg (hnh q hq hl), st_o (show 106 ≠ 107 by omega)]
            by_cases e : q = j
            · subst e; rw [if_pos rfl, hF, hhd, g2]
            · rw [if_neg e]
              exact g4 q hq (((lexl_new hpk q).mp hl).elim id (fun w => absurd w e))
        refine jn_use (P := fun J => ∀ s3 : Int, ((s3 = 1 ∧ (cnt (fun q => decide (N.hd q = g k)) j : Int) < Int.tmod (M 106 (g k)) (nout N (g k))) ∨ (s3 = 0 ∧ ¬ (cnt (fun q => decide (N.hd q = g k)) j : Int) < Int.tmod (M 106 (g k)) (nout N (g k)))) → J s3) ?_ ?_
        · intro s3 hs3
          refine r_flag (fun z => hnx 0 ?_) (fun z => hnx 1 ?_)
          · rw [if_neg (by omega)]
          · rw [if_pos (by omega)]
        · intro J hJ
          exact ⟨fun c2 => hJ 0 (Or.inr ⟨rfl, by omega⟩), fun c2 => hJ 1 (Or.inl ⟨rfl, by omega⟩)⟩
  · intro J hJ
    refine ⟨fun c => ⟨by omega, ?_, hJ _ (fun _ => rfl) (fun z => by omega)⟩, fun c => hJ 0 (fun z => by omega) (fun _ => rfl)⟩
    have m1 := Int.tmod_lt_of_pos (M 106 (g k)) (show (0 : Int) < nout N (g k) by omega)
    have m2 := Int.lt_tmod_of_pos (M 106 (g k)) (show (0 : Int) < nout N (g k) by omega)
    unfold inR; omega
theorem r_laysFlow {g pos : Nat → Nat} (hN : NetR M 100 N) (hW : Wf N) (ht : Topo N g pos) (hor : ∀ i, i < N.P → M 101 i = g i) (hout : ∀ p, p < N.P → M 103 p = nout N p) {Q : Mem → Prop} (h : ∀ M' : Mem, (∀ c, c ≠ 106 → c ≠ 107 → M' c = M c) → Flw N (-1) (M' 107) (M' 106) → Q M') : f_X12_laysFlow M Q := by
  obtain ⟨hP20, hR30, hr⟩ := id hW
  unfold f_X12_laysFlow
  refine jn_use (P := fun J => ∀ M1 : Mem, (∀ c, c ≠ 106 → M1 c = M c) → (∀ p, p < N.P → M1 106 p = 0) → J M1) ?_ ?_
  · intro M1 f1 f2
    refine wl2_inv (I := fun (v : Int) (M' : Mem) => ∃ k : Nat, v = k ∧ k ≤ N.P ∧ (∀ c, c ≠ 106 → c ≠ 107 → M' c = M c) ∧ SFl N pos k 0 M') (μ := fun (v : Int) (_ : Mem) => N.P - v.toNat) ?_ 5000 _ _ ⟨0, rfl, by omega, fun c q1 _ => f1 c q1, fun p hp => ?_, fun q hq hl => ?_⟩ (by simp; omega)
    rotate_left
    · rw [f2 p hp]
      have : ∀ m, sm (fun q => if N.ft q = p ∧ lexl N pos 0 0 q = true then M1 107 q else 0) m = 0 := by
        intro m
        induction m with
        | zero => rfl
        | succ m ih => unfold sm; rw [ih, if_neg (by unfold lexl; simp)]; rfl
      rw [this]; rfl
    · unfold lexl at hl; simp at hl
    rintro rec v M' ⟨k, rfl, hk, g1, g2⟩ hrec
    unfold X12_laysFlow_b25
    have hN' : NetR M' 100 N := hN.of (g1 100 (by omega) (by omega))
    refine r_places hN' ⟨fun c => ?_, fun c => ⟨by omega, ?_⟩⟩
    · have e : k = N.P := by omega
      subst e
      have hall : ∀ q, q < N.R → lexl N pos N.P 0 q = true := fun q hq => by
        unfold lexl
        simp only [decide_eq_true_eq]
        exact Or.inl (ht.2.1 _ (hr q hq).1).1
      refine h M' g1 ⟨fun r hr' _ => g2.2 r hr' (hall r hr'), fun p hp => ?_⟩
      rw [g2.1 p hp]
      congr 1
      refine sm_congr (fun q hq => ?_)
      by_cases z : N.ft q = p
      · rw [if_pos ⟨z, hall q hq⟩, if_pos ⟨z, by omega⟩]
      · rw [if_neg (fun y => z y.1), if_neg (fun y => z y.1)]
    · rw [tn, g1 101 (by omega) (by omega), hor k (by omega)]
      refine r_sharesOut hN' hW ht (by omega) (by rw [g1 103 (by omega) (by omega)]; exact hout) g2 (fun M2 a1 a2 => ⟨by unfold inR; omega, ?_⟩)
      rintro _ rfl
      exact hrec _ _ ⟨k + 1, by omega, by omega, fun c q1 q2 => by rw [a1 c q1 q2]; exact g1 c q1 q2, a2⟩ (by omega)
  · intro J hJ
    refine wl2_inv (I := fun (v : Int) (M' : Mem) => ∃ k : Nat, v = k ∧ k ≤ N.P ∧ (∀ c, c ≠ 106 → M' c = M c) ∧ (∀ p, p < k → M' 106 p = 0)) (μ := fun (v : Int) (_ : Mem) => N.P - v.toNat) ?_ 5000 _ _ ⟨0, rfl, by omega, fun c _ => rfl, fun p hp => by omega⟩ (by simp; omega)
    rintro rec v M' ⟨k, rfl, hk, g1, g2⟩ hrec
    unfold X12_laysFlow_b2
    have hN' : NetR M' 100 N := hN.of (g1 100 (by omega))
    refine r_places hN' ⟨fun c => ?_, fun c => ⟨by omega, ?_⟩⟩
    · have e : k = N.P := by omega
      subst e
      exact hJ M' g1 g2
    · rintro _ rfl
      refine ⟨by unfold inR; omega, ?_⟩
      rintro _ rfl
      refine hrec _ _ ⟨k + 1, by omega, by omega, fun c q1 => by rw [st_o q1]; exact g1 c q1, fun p hp => ?_⟩ (by omega)
      rw [st_s, tn]
      by_cases q : p = k
      · rw [if_pos q]
      · rw [if_neg q]; exact g2 p (by omega)
end
