/-! streams, the reference's side, and the question -/
section
variable {M : Mem} {N : Nt}
theorem Rep.put {V : Nat → Bool} {C : Nat → Nat} {a b : Nat} (h : Rep N V C) (hb : b < N.R) (hV : V b = true) (hf : ∀ f, Inv_ N V f → f b = f a) : Rep N V (fun x => if x = a then C b else C x) := by
  intro x hx
  obtain ⟨b1, b2, b3⟩ := h b hb
  by_cases e : x = a
  · simp only [e, if_true]
    exact ⟨b1, fun _ => b2 hV, fun f hi => by rw [b3 f hi, hf f hi]⟩
  · simp only [e, if_false]
    exact h x hx
theorem r_streamMany {v : Int} (hN : NetR M 100 N) (hW : Wf N) {Q : Int → Mem → Prop} (h : ∀ (M' : Mem) (C : Nat → Nat), (∀ c, c ≠ 118 → M' c = M c) → Rep N (vis (M 111) v) C → Inv_ N (vis (M 111) v) C → Q (cnt (fun x => vis (M 111) v x && decide (C x = x)) N.R : Int) M') : f_X12_streamMany v M Q := by
  obtain ⟨hP20, hR30, hr⟩ := id hW
  have hvis : ∀ x, vis (M 111) v x = true ↔ M 111 x = v := fun x => by unfold vis; simp
  obtain ⟨V, hV⟩ : ∃ V, V = vis (M 111) v := ⟨_, rfl⟩
  rw [← hV] at h hvis
  unfold f_X12_streamMany
  refine jn_use (P := fun J => ∀ M' : Mem, (∀ c, c ≠ 118 → M' c = M c) → (∀ x, x < N.R → M' 118 x = x) → J M') ?_ ?_
  · intro M1 f1 f2
    refine jn_use (P := fun J => ∀ (M' : Mem) (C : Nat → Nat), (∀ c, c ≠ 118 → M' c = M c) → (∀ x, x < N.R → M' 118 x = C x) → Rep N V C → Inv_ N V C → J M') ?_ ?_
    · intro M2 C k1 k2 k3 k4
      have hN2 : NetR M2 100 N := hN.of (k1 100 (by omega))
      refine wl2_inv (I := fun (s w : Int) => ∃ k : Nat, w = k ∧ k ≤ N.R ∧ s = (cnt (fun x => V x && decide (C x = x)) k : Int)) (μ := fun (_ w : Int) => N.R - w.toNat) ?_ 5000 _ _ ⟨0, rfl, by omega, rfl⟩ (by simp; omega)
      rintro rec s w ⟨k, rfl, hk, rfl⟩ hrec
      unfold X12_streamMany_b182
      have hl := cnt_le (fun x => V x && decide (C x = x)) k
      refine r_reaches hN2 ⟨fun c => ?_, fun c => ⟨by omega, ?_⟩⟩
      · rw [show k = N.R by omega]; exact h M2 C k1 k3 k4
      · rw [tn, k1 111 (by omega), k2 k (by omega)]
        have hgo : ∀ f : Int, f = (if (V k && decide (C k = k)) = true then 1 else 0) → inR ((cnt (fun x => V x && decide (C x = x)) k : Int) + f) ∧ ∀ v1_10 : Int, v1_10 = (cnt (fun x => V x && decide (C x = x)) k : Int) + f → inR ((k : Int) + 1) ∧ ∀ v2_11 : Int, v2_11 = (k : Int) + 1 → rec v1_10 v2_11 := by
          rintro _ rfl
          refine ⟨by unfold inR; split <;> omega, ?_⟩
          rintro _ rfl
          refine ⟨by unfold inR; omega, ?_⟩
          rintro _ rfl
          refine hrec _ _ ⟨k + 1, by omega, by omega, ?_⟩ (by omega)
          rw [cnt_s]
          split <;> simp
        refine jn_use (P := fun J => ((V k && decide (C k = k)) = true → J 1) ∧ (¬ (V k && decide (C k = k)) = true → J 0)) ⟨fun z => r_flag (fun y => absurd y (by omega)) (fun _ => hgo 1 (by rw [if_pos z])), fun z => r_flag (fun _ => hgo 0 (by rw [if_neg z])) (fun y => absurd rfl y)⟩ (fun J hJ => ?_)
        refine ⟨fun z => hJ.2 (fun y => z ((hvis k).mp (by simp at y; exact y.1))), fun z => ⟨fun y => hJ.2 (fun u => y (by simp at u; omega)), fun y => hJ.1 (by rw [(hvis k).mpr z]; simp; omega)⟩⟩
    · intro J hJ
      have hS0 : sm (M1 118) N.R ≤ N.R * 30 := sm_le (fun x hx => by rw [f2 x hx]; omega)
      refine wl2_inv (I := fun (mr : Int) (M' : Mem) => ∃ C : Nat → Nat, (∀ c, c ≠ 118 → M' c = M c) ∧ (∀ x, x < N.R → M' 118 x = C x) ∧ Rep N V C ∧ (mr = 0 → Inv_ N V C)) (μ := fun (mr : Int) (M' : Mem) => if mr = 0 then 0 else (sm (M' 118) N.R).toNat + 1) ?_ 5000 _ _ ⟨fun x => x, f1, f2, fun x hx => ⟨hx, fun z => z, fun f _ => rfl⟩, fun z => by omega⟩ (by simp; omega)
      rintro rec mr M' ⟨C, g1, g2, g3, g4⟩ hrec
      unfold X12_streamMany_b25
      refine ⟨fun c => hJ M' C g1 g2 g3 (g4 c), fun c => ?_⟩
      obtain ⟨S0, hS⟩ : ∃ S0, S0 = sm (M' 118) N.R := ⟨_, rfl⟩
      have hnn : ∀ (M2 : Mem) (C2 : Nat → Nat), (∀ x, x < N.R → M2 118 x = C2 x) → 0 ≤ sm (M2 118) N.R := fun M2 C2 z => sm_nn (fun x hx => by rw [z x hx]; omega)
      let I : Nat → Nat → Int → Mem → Prop := fun i j m2 M2 => ∃ C : Nat → Nat, (∀ c, c ≠ 118 → M2 c = M c) ∧ (∀ x, x < N.R → M2 118 x = C x) ∧ Rep N V C ∧ sm (M2 118) N.R ≤ S0 ∧ ((m2 = 0 ∧ ∀ a b, (a < i ∨ (a = i ∧ b < j)) → Adj N V a b → C a = C b) ∨ (m2 = 1 ∧ sm (M2 118) N.R < S0))
      refine wl3_inv (I := fun (m2 w : Int) (M2 : Mem) => ∃ i : Nat, w = i ∧ i ≤ N.R ∧ I i 0 m2 M2) (μ := fun (_ w : Int) (_ : Mem) => N.R - w.toNat) ?_ 5000 _ _ _ ⟨0, rfl, by omega, C, g1, g2, g3, by omega, Or.inl ⟨rfl, fun a b hab => by omega⟩⟩ (by simp; omega)
      rintro rec2 m2 w M2 ⟨i, rfl, hi, hI⟩ hrec2
      unfold X12_streamMany_b33
      have hN2 : NetR M2 100 N := hN.of (by obtain ⟨_, z, -⟩ := hI; exact z 100 (by omega))
      refine r_reaches hN2 ⟨fun c2 => ?_, fun c2 => ?_⟩
      · obtain ⟨C2, k1, k2, k3, k4, k5⟩ := hI
        have h0 := hnn M2 C2 k2
        have h1 := hnn M' C g2
        refine hrec _ _ ⟨C2, k1, k2, k3, fun z a b hab => ?_⟩ ?_
        · rcases k5 with ⟨_, k5⟩ | ⟨k5, _⟩
          · exact k5 a b (Or.inl (by have := hab.1; omega)) hab
          · omega
        · rw [if_neg c]
          rcases k5 with ⟨k5, _⟩ | ⟨k5, k6⟩
          · rw [if_pos k5]; omega
          · rw [if_neg (by omega)]; omega
      · refine wl3_inv (I := fun (m2 w : Int) (M2 : Mem) => ∃ j : Nat, w = j ∧ j ≤ N.R ∧ I i j m2 M2) (μ := fun (_ w : Int) (_ : Mem) => N.R - w.toNat) ?_ 5000 _ _ _ ⟨0, rfl, by omega, hI⟩ (by simp; omega)
        clear hI hN2 m2 M2
        rintro rec3 m2 w M2 ⟨j, rfl, hj, C2, k1, k2, k3, k4, k5⟩ hrec3
        unfold X12_streamMany_b44
        have hN2 : NetR M2 100 N := hN.of (k1 100 (by omega))
        refine r_reaches hN2 ⟨fun c3 => ⟨by unfold inR; omega, ?_⟩, fun c3 => ⟨by omega, ?_⟩⟩
        · rintro _ rfl
          refine hrec2 _ _ _ ⟨i + 1, by omega, by omega, C2, k1, k2, k3, k4, ?_⟩ (by omega)
          rcases k5 with ⟨k5, k6⟩ | k5
          · exact Or.inl ⟨k5, fun a b hab had => k6 a b (by have := had.2.1; omega) had⟩
          · exact Or.inr k5
        · have hiR : i < N.R := by omega
          have hjR : j < N.R := by omega
          rw [tn, tn, k1 111 (by omega)]
          have hskip : (Adj N V i j → C2 i = C2 j) → inR ((j : Int) + 1) ∧ ∀ z : Int, z = (j : Int) + 1 → rec3 m2 z M2 := fun hh => by
            refine ⟨by unfold inR; omega, ?_⟩
            rintro _ rfl
            refine hrec3 _ _ _ ⟨j + 1, by omega, by omega, C2, k1, k2, k3, k4, ?_⟩ (by omega)
            rcases k5 with ⟨k5, k6⟩ | k5
            · refine Or.inl ⟨k5, fun a b hab had => ?_⟩
              by_cases z : a = i ∧ b = j
              · rw [z.1, z.2] at had ⊢; exact hh had
              · exact k6 a b (by omega) had
            · exact Or.inr k5
          refine ⟨fun c4 => hskip (fun z => absurd ((hvis i).mp z.2.2.1) c4), fun c4 => ⟨by omega, fun c5 => hskip (fun z => absurd ((hvis j).mp z.2.2.2.1) c5), fun c5 => r_ft hN2 hW hiR (r_hd hN2 hW hjR ⟨fun c6 => hskip (fun z => absurd (by rw [z.2.2.2.2]) c6), fun c6 => ?_⟩)⟩⟩
          have hA : Adj N V i j := ⟨hiR, hjR, (hvis i).mpr c4, (hvis j).mpr c5, by omega⟩
          rw [k2 i hiR, k2 j hjR]
          refine ⟨fun c7 => ?_, fun c7 => hskip (fun _ => by omega)⟩
          have hij : i ≠ j := fun e => c7 (by rw [e])
          refine jn_use (P := fun J => ∀ s : Int, ((s = C2 j ∧ C2 j < C2 i) ∨ (s = C2 i ∧ C2 i < C2 j)) → J s) ?_ (fun J hJ => ⟨fun z => hJ _ (Or.inl ⟨rfl, by omega⟩), fun z => hJ _ (Or.inr ⟨rfl, by omega⟩)⟩)
          intro s hs
          rintro _ rfl
          rintro _ rfl
          refine ⟨by unfold inR; omega, ?_⟩
          rintro _ rfl
          have hval : ∀ x, st (st M2 118 i s) 118 j s 118 x = if x = j then s else if x = i then s else M2 118 x := fun x => by rw [st_s, st_s]
          rcases hs with ⟨rfl, hlt⟩ | ⟨rfl, hlt⟩
          · have hv2 : ∀ x, x < N.R → st (st M2 118 i (C2 j : Int)) 118 j (C2 j : Int) 118 x = ((if x = i then C2 j else C2 x : Nat) : Int) := fun x hx => by
              rw [hval]
              by_cases e : x = j
              · rw [if_pos e, if_neg (by omega), e]
              · rw [if_neg e]
                by_cases e2 : x = i
                · rw [if_pos e2, if_pos e2]
                · rw [if_neg e2, if_neg e2, k2 x hx]
            have hsm : sm (st (st M2 118 i (C2 j : Int)) 118 j (C2 j : Int) 118) N.R = sm (M2 118) N.R + ((C2 j : Int) - C2 i) := sm_add (k := i) hiR (fun x hx hne => by rw [hv2 x hx, if_neg hne, k2 x hx]) (by rw [hv2 i hiR, if_pos rfl, k2 i hiR]; omega)
            exact hrec3 _ _ _ ⟨j + 1, by omega, by omega, fun x => if x = i then C2 j else C2 x, fun c hc => by rw [st_o hc, st_o hc]; exact k1 c hc, hv2, k3.put hjR hA.2.2.2.1 (fun f hf => (hf i j hA).symm), by omega, Or.inr ⟨rfl, by omega⟩⟩ (by omega)
          · have hv2 : ∀ x, x < N.R → st (st M2 118 i (C2 i : Int)) 118 j (C2 i : Int) 118 x = ((if x = j then C2 i else C2 x : Nat) : Int) := fun x hx => by
              rw [hval]
              by_cases e : x = j
              · rw [if_pos e, if_pos e]
              · rw [if_neg e, if_neg e]
                by_cases e2 : x = i
                · rw [if_pos e2, e2]
                · rw [if_neg e2, k2 x hx]
            have hsm : sm (st (st M2 118 i (C2 i : Int)) 118 j (C2 i : Int) 118) N.R = sm (M2 118) N.R + ((C2 i : Int) - C2 j) := sm_add (k := j) hjR (fun x hx hne => by rw [hv2 x hx, if_neg hne, k2 x hx]) (by rw [hv2 j hjR, if_pos rfl, k2 j hjR]; omega)
            exact hrec3 _ _ _ ⟨j + 1, by omega, by omega, fun x => if x = j then C2 i else C2 x, fun c hc => by rw [st_o hc, st_o hc]; exact k1 c hc, hv2, k3.put hiR hA.2.2.1 (fun f hf => hf i j hA), by omega, Or.inr ⟨rfl, by omega⟩⟩ (by omega)
  · intro J hJ
    refine wl2_inv (I := fun (w : Int) (M' : Mem) => ∃ i : Nat, w = i ∧ i ≤ N.R ∧ (∀ c, c ≠ 118 → M' c = M c) ∧ (∀ x, x < i → M' 118 x = x)) (μ := fun (w : Int) (_ : Mem) => N.R - w.toNat) ?_ 5000 _ _ ⟨0, rfl, by omega, fun c _ => rfl, fun x hx => by omega⟩ (by simp; omega)
    rintro rec w M' ⟨i, rfl, hi, g1, g2⟩ hrec
    unfold X12_streamMany_b2
    have hN' : NetR M' 100 N := hN.of (g1 100 (by omega))
    refine r_reaches hN' ⟨fun c => ?_, fun c => ⟨by omega, ?_⟩⟩
    · have e : i = N.R := by omega
      subst e
      exact hJ M' g1 g2
    · rintro _ rfl
      refine ⟨by unfold inR; omega, ?_⟩
      rintro _ rfl
      refine hrec _ _ ⟨i + 1, by omega, by omega, fun c hc => by rw [st_o hc]; exact g1 c hc, fun x hx => ?_⟩ (by omega)
      rw [tn, st_s]
      by_cases e : x = i
      · rw [if_pos e, e]
      · rw [if_neg e]; exact g2 x (by omega)
theorem x_howManyMet {v : Int} (hN : NetX M 12 N) (hW : Wf N) {Q : Int → Prop} (h : Q (cnt (vis (M 30) v) N.R : Int)) : f_X1_howManyMet 20 12 v M Q := by
  have hR := hW.2.1
  have hvis : ∀ x, vis (M 30) v x = true ↔ M 30 x = v := fun x => by unfold vis; simp
  unfold f_X1_howManyMet
  refine wl2_inv (I := fun (s w : Int) => ∃ k : Nat, w = k ∧ k ≤ N.R ∧ s = (cnt (vis (M 30) v) k : Int)) (μ := fun (_ w : Int) => N.R - w.toNat) ?_ 5000 _ _ ⟨0, rfl, by omega, rfl⟩ (by simp; omega)
  rintro rec s w ⟨k, rfl, hk, rfl⟩ hrec
  unfold X1_howManyMet_b5
  rw [hN.2.1]
  have hl := cnt_le (vis (M 30) v) k
  refine ⟨fun c => by rw [show k = N.R by omega]; exact h, fun c => ⟨by omega, ?_⟩⟩
  rw [tn]
  refine ⟨fun c1 => ⟨by unfold inR; omega, ?_⟩, fun c1 => ⟨by unfold inR; omega, ?_⟩⟩
  · rintro _ rfl
    exact hrec _ _ ⟨k + 1, by omega, by omega, by rw [cnt_s, if_neg (fun z => c1 ((hvis k).mp z))]; rfl⟩ (by omega)
  · rintro _ rfl
    refine ⟨by unfold inR; omega, ?_⟩
    rintro _ rfl
    exact hrec _ _ ⟨k + 1, by omega, by omega, by rw [cnt_s, if_pos ((hvis k).mpr c1)]; omega⟩ (by omega)
def lnm (N : Nt) (V : Nat → Bool) (x : Nat) : Int := if V x = true then N.ln x else 0
theorem lnm_le (hW : Wf N) (V : Nat → Bool) {k : Nat} (hk : k ≤ N.R) : 0 ≤ sm (lnm N V) k ∧ sm (lnm N V) k ≤ 2970 := by
  have hR := hW.2.1
  have h1 : ∀ i, i < k → 0 ≤ lnm N V i ∧ lnm N V i ≤ 99 := fun i hi => by
    have := hW.2.2 i (by omega)
    unfold lnm; split <;> omega
  have h2 := sm_le (f := lnm N V) (b := 99) (n := k) (fun i hi => (h1 i hi).2)
  exact ⟨sm_nn (fun i hi => (h1 i hi).1), by omega⟩
theorem x_lengthOfMet {v : Int} (hN : NetX M 12 N) (hW : Wf N) {Q : Int → Prop} (h : Q (sm (lnm N (vis (M 30) v)) N.R)) : f_X1_lengthOfMet 20 12 v M Q := by
  have hR := hW.2.1
  have hvis : ∀ x, vis (M 30) v x = true ↔ M 30 x = v := fun x => by unfold vis; simp
  unfold f_X1_lengthOfMet
  refine wl2_inv (I := fun (s w : Int) => ∃ k : Nat, w = k ∧ k ≤ N.R ∧ s = sm (lnm N (vis (M 30) v)) k) (μ := fun (_ w : Int) => N.R - w.toNat) ?_ 5000 _ _ ⟨0, rfl, by omega, rfl⟩ (by simp; omega)
  rintro rec s w ⟨k, rfl, hk, rfl⟩ hrec
  unfold X1_lengthOfMet_b5
  rw [hN.2.1]
  refine ⟨fun c => by rw [show k = N.R by omega]; exact h, fun c => ⟨by omega, ?_⟩⟩
  obtain ⟨-, -, x3, -⟩ := hN.2.2 k (by omega)
  have hb := lnm_le hW (vis (M 30) v) (k := k + 1) (by omega)
  rw [tn, x3]
  refine ⟨fun c1 => ⟨by unfold inR; omega, ?_⟩, fun c1 => ?_⟩
  · rintro _ rfl
    exact hrec _ _ ⟨k + 1, by omega, by omega, by rw [sm, lnm, if_neg (fun z => c1 ((hvis k).mp z)), Int.add_zero]⟩ (by omega)
  · have e : sm (lnm N (vis (M 30) v)) (k + 1) = sm (lnm N (vis (M 30) v)) k + N.ln k := by rw [sm, lnm, if_pos ((hvis k).mpr c1)]
    refine ⟨by unfold inR; omega, ?_⟩
    rintro _ rfl
    refine ⟨by unfold inR; omega, ?_⟩
    rintro _ rfl
    exact hrec _ _ ⟨k + 1, by omega, by omega, e.symm⟩ (by omega)
theorem q_streams {a b : Int} (hC : Core M N) {Q : Int → Int → Mem → Prop} (h : ∀ (r : Int) (M2 : Mem), Qf M M2 → Core M2 N → Q r r M2) : f_X11_streams a b M (fun r M1 => f_X12_streams a b M1 (fun r2 M2 => Q r r2 M2)) := by
  obtain ⟨h1, h2, h3, h4, h5⟩ := id hC
  have hR := h3.1.2.1
  unfold f_X11_streams
  have hsame : ∀ (M1 M2 : Mem), M1 30 = M 30 → Sm M1 M2 N → ∀ x, x < N.R → vis (M2 111) a x = vis (M 30) a x := fun M1 M2 e k4 x hx => by unfold vis; rw [← (k4.2.1 x hx).2.1, e]
  refine ⟨fun c => ⟨fun c1 => ?_, fun c1 => ?_, fun c1 => ?_, fun c1 => ?_⟩, fun c => ?_⟩
  · refine x_howManyStreams h1 h3.1 (fun M1 L a1 a2 a3 => ?_)
    obtain ⟨hq1, hC1⟩ := hC.scr (M' := M1) (fun c _ _ => a1 c (by omega))
    unfold f_X12_streams
    refine ⟨fun z => by omega, fun _ => r_isIn (fun _ _ => ⟨fun _ => q_lays hC1 (fun M2 k1 k2 k3 k4 => ⟨fun z => absurd c1 z, fun _ => r_streamMany k2.2.1 h3.1 (fun M3 C b1 b2 b3 => ?_)⟩), fun z => absurd z (by omega)⟩) (fun z => by omega)⟩
    obtain ⟨hq3, hC3⟩ := k2.scr (M' := M3) (fun c _ _ => b1 c (by omega))
    have hv := hsame M1 M2 (a1 30 (by omega)) k4
    have hA : ∀ x y, Adj N (vis (M2 111) a) x y ↔ Adj N (vis (M 30) a) x y := fun x y => by
      constructor
      · rintro ⟨z1, z2, z3, z4, z5⟩; exact ⟨z1, z2, by rw [← hv x z1]; exact z3, by rw [← hv y z2]; exact z4, z5⟩
      · rintro ⟨z1, z2, z3, z4, z5⟩; exact ⟨z1, z2, by rw [hv x z1]; exact z3, by rw [hv y z2]; exact z4, z5⟩
    have e1 : cnt (fun x => vis (M 30) a x && decide (L x = x)) N.R = cnt (fun x => vis (M 30) a x && decide (C x = x)) N.R := by
      refine a2.same a3 (fun x hx => ?_) (fun x y hxy => b3 x y ((hA x y).mpr hxy))
      obtain ⟨z1, z2, z3⟩ := b2 x hx
      exact ⟨z1, fun z => by rw [← hv _ z1]; exact z2 (by rw [hv x hx]; exact z), fun f hf => z3 f (fun x y hxy => hf x y ((hA x y).mp hxy))⟩
    rw [e1, show cnt (fun x => vis (M 30) a x && decide (C x = x)) N.R = cnt (fun x => vis (M2 111) a x && decide (C x = x)) N.R from cnt_congr (fun x hx => by rw [hv x hx])]
    exact h _ _ ((hq1.trans k1).trans hq3) hC3
  · refine x_howManyMet h1 h3.1 ?_
    unfold f_X12_streams
    refine ⟨fun z => by omega, fun _ => r_isIn (fun _ _ => ⟨fun _ => q_lays hC (fun M2 k1 k2 k3 k4 => ⟨fun _ => ?_, fun z => by omega⟩), fun z => absurd z (by omega)⟩) (fun z => by omega)⟩
    have hv := hsame M M2 rfl k4
    refine wl2_inv (I := fun (s w : Int) => ∃ k : Nat, w = k ∧ k ≤ N.R ∧ s = (cnt (vis (M 30) a) k : Int)) (μ := fun (_ w : Int) => N.R - w.toNat) ?_ 5000 _ _ ⟨0, rfl, by omega, rfl⟩ (by simp; omega)
    rintro rec s w ⟨k, rfl, hk, rfl⟩ hrec
    unfold X12_streams_b38
    have hl := cnt_le (vis (M 30) a) k
    refine r_reaches k2.2.1 ⟨fun c => by rw [show k = N.R by omega]; exact h _ _ k1 k2, fun c => ⟨by omega, ?_⟩⟩
    have hvk := hv k (by omega)
    rw [tn]
    refine ⟨fun c2 => ⟨by unfold inR; omega, ?_⟩, fun c2 => ⟨fun z => absurd c1 z, fun _ => ⟨by unfold inR; omega, ?_⟩⟩⟩
    · rintro _ rfl
      exact hrec _ _ ⟨k + 1, by omega, by omega, by rw [cnt_s, if_neg (by rw [← hvk]; unfold vis; simp; exact c2)]; rfl⟩ (by omega)
    · rintro _ rfl
      refine ⟨by unfold inR; omega, ?_⟩
      rintro _ rfl
      exact hrec _ _ ⟨k + 1, by omega, by omega, by rw [cnt_s, if_pos (by rw [← hvk]; unfold vis; simp; exact c2)]; omega⟩ (by omega)
  · refine x_lengthOfMet h1 h3.1 ?_
    unfold f_X12_streams
    refine ⟨fun z => by omega, fun _ => r_isIn (fun _ _ => ⟨fun _ => q_lays hC (fun M2 k1 k2 k3 k4 => ⟨fun _ => ?_, fun z => by omega⟩), fun z => absurd z (by omega)⟩) (fun z => by omega)⟩
    have hv := hsame M M2 rfl k4
    refine wl2_inv (I := fun (s w : Int) => ∃ k : Nat, w = k ∧ k ≤ N.R ∧ s = sm (lnm N (vis (M 30) a)) k) (μ := fun (_ w : Int) => N.R - w.toNat) ?_ 5000 _ _ ⟨0, rfl, by omega, rfl⟩ (by simp; omega)
    rintro rec s w ⟨k, rfl, hk, rfl⟩ hrec
    unfold X12_streams_b38
    refine r_reaches k2.2.1 ⟨fun c => by rw [show k = N.R by omega]; exact h _ _ k1 k2, fun c => ⟨by omega, ?_⟩⟩
    have hvk := hv k (by omega)
    have hb := lnm_le h3.1 (vis (M 30) a) (k := k + 1) (by omega)
    rw [tn]
    refine ⟨fun c2 => ⟨by unfold inR; omega, ?_⟩, fun c2 => ⟨fun _ => r_ln k2.2.1 h3.1 (by omega) ?_, fun z => by omega⟩⟩
    · rintro _ rfl
      exact hrec _ _ ⟨k + 1, by omega, by omega, by rw [sm, lnm, if_neg (by rw [← hvk]; unfold vis; simp; exact c2), Int.add_zero]⟩ (by omega)
    · have e : sm (lnm N (vis (M 30) a)) (k + 1) = sm (lnm N (vis (M 30) a)) k + N.ln k := by rw [sm, lnm, if_pos (by rw [← hvk]; unfold vis; simp; exact c2)]
      refine ⟨by unfold inR; omega, ?_⟩
      rintro _ rfl
      refine ⟨by unfold inR; omega, ?_⟩
      rintro _ rfl
      exact hrec _ _ ⟨k + 1, by omega, by omega, e.symm⟩ (by omega)
  · unfold f_X12_streams
    exact ⟨fun z => by omega, fun _ => r_isIn (fun _ _ => by omega) (fun _ => ⟨fun z => absurd rfl z, fun _ => h _ _ (Qf.refl M) hC⟩)⟩
  · unfold f_X12_streams
    exact ⟨fun _ => h _ _ (Qf.refl M) hC, fun z => by omega⟩
end
