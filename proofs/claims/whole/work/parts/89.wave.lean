/-! waves, the reference's side, and the question -/
section
variable {M : Mem} {N : Nt} {mo : Nat → Int} {x : Int} {pl : Nat}
def WvR (M : Mem) (N : Nt) (mo : Nat → Int) (x : Int) : Prop := NetR M 100 N ∧ (∀ p, p < N.P → M 102 p = nin N p ∧ M 103 p = nout N p) ∧ (∃ g pos, Topo N g pos) ∧ (∀ p, p < N.P → 0 ≤ M 108 p ∧ M 108 p ≤ 2970) ∧ MoR N mo ∧ (∀ p y, p < N.P → MOut N (M 107) 0 p y → y = mo p) ∧ (∀ p, tb x p = true ↔ isS N p)
theorem r_hw {k : Nat} (hG : Good N) (hV : WvR M N mo x) (hk : k < N.P) (hpl : pl < N.P) {A : Int → Prop} (h : A (hws N mo x pl k)) : f_X12_isSource (k : Int) M (fun r => jn (τ := Int → Prop) A (fun J => (r = 0 → J (-1)) ∧ (¬ r = 0 → f_X12_hourOf (k : Int) (pl : Int) M (fun r2 => J r2)))) := by
  obtain ⟨v1, v2, ⟨g, pos, v3⟩, v4, v5, v6, v7⟩ := hV
  unfold hws at h
  refine r_isSource hG.1 hk v2 (fun s => ?_) (fun s => ?_)
  · rw [if_pos ((v7 k).mpr s)] at h
    exact jn_use (P := fun J => J (hrf N mo pl 25 k 0)) h (fun J hJ => ⟨fun z => absurd z (by omega), fun _ => r_hourOf v1 hG v3 v4 v5 v6 hk hpl hJ⟩)
  · rw [if_neg (fun z => s ((v7 k).mp z))] at h
    exact jn_use (P := fun J => J (-1)) h (fun J hJ => ⟨fun _ => hJ, fun z => absurd rfl z⟩)
def wvm (N : Nt) (hw : Nat → Int) (v : Int) (p : Nat) : Bool := decide (¬ hw p = -1 ∧ (v = -1 ∨ hw p = v))
theorem r_waveMany {v : Int} (hG : Good N) (hV : WvR M N mo x) (hpl : pl < N.P) {Q : Int → Prop} (h : Q (cnt (wvm N (hws N mo x pl) v) N.P : Int)) : f_X12_waveMany (pl : Int) v M Q := by
  have hP := hG.1.1
  obtain ⟨hw, hhw⟩ : ∃ hw, hw = hws N mo x pl := ⟨_, rfl⟩
  rw [← hhw] at h
  unfold f_X12_waveMany
  refine wl2_inv (I := fun (s w : Int) => ∃ k : Nat, w = k ∧ k ≤ N.P ∧ s = (cnt (wvm N hw v) k : Int)) (μ := fun (_ w : Int) => N.P - w.toNat) ?_ 5000 _ _ ⟨0, rfl, by omega, rfl⟩ (by simp; omega)
  rintro rec s w ⟨k, rfl, hk, rfl⟩ hrec
  unfold X12_waveMany_b5
  have hl := cnt_le (wvm N hw v) k
  refine r_places hV.1 ⟨fun c => by rw [show k = N.P by omega]; exact h, fun c => r_hw hG hV (by omega) hpl ?_⟩
  rw [← hhw]
  have hgo : ∀ f : Int, f = (if wvm N hw v k = true then 1 else 0) → inR ((cnt (wvm N hw v) k : Int) + f) ∧ ∀ v1_10 : Int, v1_10 = (cnt (wvm N hw v) k : Int) + f → inR ((k : Int) + 1) ∧ ∀ v2_11 : Int, v2_11 = (k : Int) + 1 → rec v1_10 v2_11 := by
    rintro _ rfl
    refine ⟨by unfold inR; split <;> omega, ?_⟩
    rintro _ rfl
    refine ⟨by unfold inR; omega, ?_⟩
    rintro _ rfl
    refine hrec _ _ ⟨k + 1, by omega, by omega, ?_⟩ (by omega)
    rw [cnt_s]
    split <;> simp
  have hw1 : wvm N hw v k = true ↔ (¬ hw k = -1 ∧ (v = -1 ∨ hw k = v)) := by unfold wvm; simp only [decide_eq_true_eq]
  refine jn_use (P := fun J => (wvm N hw v k = true → J 1) ∧ (¬ wvm N hw v k = true → J 0)) ⟨fun z => r_flag (fun y => absurd y (by omega)) (fun _ => hgo 1 (by rw [if_pos z])), fun z => r_flag (fun _ => hgo 0 (by rw [if_neg z])) (fun y => absurd rfl y)⟩ (fun J hJ => ?_)
  rw [hw1] at hJ
  exact ⟨fun z => hJ.2 (fun y => y.1 z), fun z => ⟨fun y => hJ.1 ⟨z, Or.inl y⟩, fun y => ⟨fun u => hJ.2 (fun t => t.2.elim (fun a => y a) (fun a => u a)), fun u => hJ.1 ⟨z, Or.inr u⟩⟩⟩⟩
def cmq (N : Nt) (hw : Nat → Int) (v : Int) : Int := (cnt (fun p => decide (¬ hw p = -1 ∧ hw p = v)) N.P : Int)
theorem q_wave {a b : Int} (hC : Core M N) {Q : Int → Int → Mem → Prop} (h : ∀ (r : Int) (M2 : Mem), Qf M M2 → Core M2 N → Q r r M2) : f_X11_wave a b M (fun r M1 => f_X12_wave a b M1 (fun r2 M2 => Q r r2 M2)) := by
  obtain ⟨h1, h2, h3, h4, h5⟩ := id hC
  have hP := h3.1.1
  obtain ⟨⟨g, pos, bb, ht, -⟩, -, -, -, hH, -, hS, -⟩ := id h4.1
  have hmout : ∀ p, p < N.P → MOut N (M 32) 0 p (M 39 p) := fun p hp => h4.2.1.2.1 p hp
  have hmo : MoR N (M 39) := fun p hp => (hmout p hp).rng
  unfold f_X11_wave
  refine x_isPlace h1 (fun p hp e => ⟨fun _ => ?_, fun z => absurd z (by omega)⟩) (fun hno => ⟨fun z => absurd rfl z, fun _ => ?_⟩)
  · subst e
    refine x_sendWaves h1 h3 ht hmo hp (fun M1 a1 a2 a3 => ?_)
    obtain ⟨hq1, hC1⟩ := hC.scr (M' := M1) (fun c _ _ => a1 c (by omega) (by omega))
    obtain ⟨hw, hhw⟩ : ∃ hw, hw = hws N (M 39) (M 20 11) p := ⟨_, rfl⟩
    rw [← hhw] at a2 a3
    have hA20 : cnt (nem hw) N.P ≤ 20 := by have := cnt_le (nem hw) N.P; omega
    have hcq : cms (M1 71) (cnt (nem hw) N.P) = cmq N hw := by
      funext v
      unfold cms cmq
      rw [cnt_idx a3]
    have hc1 : ∀ q, q < N.P → ¬ hw q = -1 → 1 ≤ cmq N hw (hw q) := fun q hq hne => by
      unfold cmq
      have : 0 < cnt (fun p => decide (¬ hw p = -1 ∧ hw p = hw q)) N.P := cnt_pos.mpr ⟨q, hq, by simp [hne]⟩
      omega
    have htwo := wsq_two (c := cmq N hw) (hw := hw) (k := N.P) hc1
    have href : ∀ y : Int, (0 ≤ b ∧ b ≤ 3) → (b = 0 → y = (wsq (cmq N hw) hw (-1, -1) N.P).2) → (b = 1 → y = (wsq (cmq N hw) hw (-1, -1) N.P).1) → (b = 2 → y = lsq hw N.P) → (b = 3 → y = (cnt (nem hw) N.P : Int)) → f_X12_wave (p : Int) b M1 (fun r2 M2 => Q y r2 M2) := by
      intro y hb q0 q1 q2 q3
      unfold f_X12_wave
      refine r_isPlace hC1.2.1 h3.1 (fun _ _ _ => ⟨fun z => absurd z (by omega), fun _ => r_isIn (fun _ _ => ⟨fun _ => q_lays hC1 (fun M2 k1 k2 k3 k4 => ?_), fun z => absurd z (by omega)⟩) (fun z => absurd hb z)⟩) (fun z => by omega)
      have hV : WvR M2 N (M 39) (M 20 11) := ⟨k2.2.1, k3.1.2.1, ⟨g, pos, ht⟩, fun q hq => ⟨(k3.1.2.2.2.2.1 q hq).1, (k3.1.2.2.2.2.1 q hq).2.1⟩, hmo, fun q z hq hz => (MOut.uniq (fun r hr => by rw [← (k4.2.1 r hr).2.2, a1 32 (by omega) (by omega)]) (hmout q hq) hz).symm, hS.2⟩
      refine ⟨fun d => ?_, fun d => r_waveMany h3 hV hp ?_⟩
      · refine jn_use (P := fun J => J (wsq (cmq N hw) hw (-1, -1) N.P).2 (wsq (cmq N hw) hw (-1, -1) N.P).1 (lsq hw N.P)) ?_ ?_
        · refine ⟨fun d0 => ⟨fun d1 => ?_, fun d1 => ?_⟩, fun d0 => ?_⟩
          · rw [q2 (by omega)]; exact h _ _ (hq1.trans k1) k2
          · rw [q1 d1]; exact h _ _ (hq1.trans k1) k2
          · rw [q0 d0]; exact h _ _ (hq1.trans k1) k2
        · intro J hJ
          refine wl4_inv (I := fun (m f l w : Int) => ∃ k : Nat, w = k ∧ k ≤ N.P ∧ (f, m) = wsq (cmq N hw) hw (-1, -1) k ∧ l = lsq hw k) (μ := fun (_ _ _ w : Int) => N.P - w.toNat) ?_ 5000 _ _ _ _ ⟨0, rfl, by omega, rfl, rfl⟩ (by simp; omega)
          rintro rec m f l w ⟨k, rfl, hk, hfm, rfl⟩ hrec
          unfold X12_wave_b49
          refine r_places k2.2.1 ⟨fun c => ?_, fun c => r_hw h3 hV (by omega) hp ?_⟩
          · have e : k = N.P := by omega
            rw [e] at hfm ⊢
            rw [← hfm] at hJ
            exact hJ
          · rw [← hhw]
            refine ⟨fun c1 => r_waveMany h3 hV hp ?_, fun c1 => ⟨by unfold inR; omega, ?_⟩⟩
            · have ew : (cnt (wvm N (hws N (M 39) (M 20 11) p) (hw k)) N.P : Int) = cmq N hw (hw k) := by
                unfold cmq
                rw [← hhw]
                congr 1
                refine cnt_congr (fun q _ => ?_)
                unfold wvm
                rw [decide_eq_decide]
                exact ⟨fun z => ⟨z.1, z.2.resolve_left c1⟩, fun z => ⟨z.1, Or.inr z.2⟩⟩
              rw [ew]
              have hs1 : wsq (cmq N hw) hw (-1, -1) (k + 1) = wst (cmq N hw) (f, m) (hw k) := by rw [hfm]; show (if hw k = -1 then _ else _) = _; rw [if_neg c1]
              have hs2 : lsq hw (k + 1) = max (lsq hw k) (hw k) := by show (if hw k = -1 then _ else _) = _; rw [if_neg c1]
              refine jn_use (P := fun J => J (wst (cmq N hw) (f, m) (hw k)).2 (wst (cmq N hw) (f, m) (hw k)).1) ?_ ?_
              · refine ⟨fun d1 => ⟨by unfold inR; omega, ?_⟩, fun d1 => ⟨by unfold inR; omega, ?_⟩⟩
                · rintro _ rfl
                  exact hrec _ _ _ _ ⟨k + 1, by omega, by omega, by rw [hs1], by rw [hs2, Int.max_eq_left d1]⟩ (by omega)
                · rintro _ rfl
                  exact hrec _ _ _ _ ⟨k + 1, by omega, by omega, by rw [hs1], by rw [hs2, Int.max_eq_right (by omega)]⟩ (by omega)
              · intro J' hJ'
                unfold wst at hJ'
                dsimp only at hJ'
                refine ⟨fun d1 => ?_, fun d1 => ⟨fun d2 => ?_, fun d2 => ⟨fun d3 => ?_, fun d3 => ?_⟩⟩⟩
                · rw [if_pos (Or.inl d1)] at hJ'; exact hJ'
                · rw [if_neg (fun z => by omega)] at hJ'; exact hJ'
                · rw [if_neg (fun z => by omega)] at hJ'; exact hJ'
                · rw [if_pos (Or.inr ⟨d2, by omega⟩)] at hJ'; exact hJ'
            · rintro _ rfl
              refine hrec _ _ _ _ ⟨k + 1, by omega, by omega, ?_, ?_⟩ (by omega)
              · rw [hfm]; show _ = (if hw k = -1 then _ else _); rw [if_pos c1]
              · show _ = (if hw k = -1 then _ else _); rw [if_pos c1]
      · rw [← hhw, q3 d]
        rw [show cnt (wvm N hw (-1)) N.P = cnt (nem hw) N.P from cnt_congr (fun q _ => by unfold wvm nem; rw [decide_eq_decide]; exact ⟨fun z => z.1, fun z => ⟨z, Or.inl rfl⟩⟩)]
        exact h _ _ (hq1.trans k1) k2
    refine ⟨fun d => ?_, fun d => ?_, fun d => ?_, fun d => ?_, fun d => ?_⟩
    · unfold f_X7_mostAtOnce
      rw [a2]
      refine ⟨fun c => x_hourOfMost a2 hA20 (x_comingAt a2 hA20 ?_), fun c => ?_⟩
      · refine href _ (by omega) (fun _ => ?_) (fun z => by omega) (fun z => by omega) (fun z => by omega)
        rw [wsr_idx a3, hcq]
        rcases htwo with ⟨z, -⟩ | ⟨-, z2, z3⟩
        · omega
        · rw [← z3, z2]
      · refine href _ (by omega) (fun _ => ?_) (fun z => by omega) (fun z => by omega) (fun z => by omega)
        rcases htwo with ⟨-, -, z⟩ | ⟨z, -⟩
        · rw [z]
        · omega
    · refine x_hourOfMost a2 hA20 (href _ (by omega) (fun z => by omega) (fun _ => ?_) (fun z => by omega) (fun z => by omega))
      rw [wsr_idx a3, hcq]
      rcases htwo with ⟨-, z1, z2⟩ | ⟨-, z2, -⟩
      · rw [z1, z2]
      · rw [z2]
    · exact x_lastHour a2 hA20 (href _ (by omega) (fun z => by omega) (fun z => by omega) (fun _ => lsr_idx a3) (fun z => by omega))
    · rw [a2]
      exact href _ (by omega) (fun z => by omega) (fun z => by omega) (fun z => by omega) (fun _ => rfl)
    · unfold f_X12_wave
      exact r_isPlace hC1.2.1 h3.1 (fun _ _ _ => ⟨fun z => absurd z (by omega), fun _ => r_isIn (fun _ _ => by omega) (fun _ => ⟨fun z => absurd rfl z, fun _ => h _ _ hq1 hC1⟩)⟩) (fun z => by omega)
  · unfold f_X12_wave
    exact r_isPlace h2 h3.1 (fun p hp e => by omega) (fun _ => ⟨fun _ => h _ _ (Qf.refl M) hC, fun z => absurd rfl z⟩)
end
