/-! cutting a place off, the class's side -/
def usd (U : Nat → Bool) (r : Nat) : Int := if U r = true then 1 else 0
section
variable {M : Mem} {N : Nt} {U : Nat → Bool} {s0 : Int}
theorem usd_frm {j : Nat} {J : Int → Prop} (h : J (frm N U j : Int)) : (¬ usd U j = 0 → J (N.ft j : Int)) ∧ (usd U j = 0 → J (N.hd j : Int)) := by
  unfold frm at h
  unfold usd
  by_cases q : U j = true
  · rw [if_pos q] at h ⊢
    exact ⟨fun _ => h, fun z => absurd z (by omega)⟩
  · rw [if_neg q] at h ⊢
    exact ⟨fun z => absurd rfl z, fun _ => h⟩
theorem usd_too {j : Nat} {J : Int → Prop} (h : J (too N U j : Int)) : (¬ usd U j = 0 → J (N.hd j : Int)) ∧ (usd U j = 0 → J (N.ft j : Int)) := by
  unfold too at h
  unfold usd
  by_cases q : U j = true
  · rw [if_pos q] at h ⊢
    exact ⟨fun _ => h, fun z => absurd z (by omega)⟩
  · rw [if_neg q] at h ⊢
    exact ⟨fun z => absurd rfl z, fun _ => h⟩
theorem x_findWay {pl : Nat} (hN : NetX M 12 N) (hW : Wf N) (hU : ∀ r, r < N.R → M 70 r = usd U r) (hi : inR s0) (hs : ∀ p, tb s0 p = true → p < N.P) (hpl : pl < N.P) {Q : Int → Mem → Prop} (h1 : ∀ (M' : Mem) (n : Nat), (∀ c, c ≠ 69 → M' c = M c) → Hts N U s0 pl n → tb (rnd N U s0 n).1 pl = true → (∀ p, tb (rnd N U s0 n).1 p = true → tb s0 p = false → M' 69 p = (rnd N U s0 n).2 p) → Q 1 M') (h0 : ∀ (M' : Mem), (∀ c, c ≠ 69 → M' c = M c) → NoW N s0 pl U → Q 0 M') : f_X7_findWay 12 s0 (pl : Int) M Q := by
  obtain ⟨hP20, hR30, hr⟩ := id hW
  unfold f_X7_findWay
  refine jn_use (P := fun J => ∀ (M' : Mem) (n : Nat), (∀ c, c ≠ 69 → M' c = M c) → Hts N U s0 pl n → (∀ p, tb (rnd N U s0 n).1 p = true → tb s0 p = false → M' 69 p = (rnd N U s0 n).2 p) → J (rnd N U s0 n).1 M') ?_ ?_
  · intro M' n f1 f2 f3
    rw [bit_1 (show pl < 32 by omega)]
    exact ⟨fun c => h0 M' f1 ⟨n, f2, by simpa using c⟩, fun c => h1 M' n f1 f2 c f3⟩
  · intro J hJ
    refine wl3_inv (I := fun (x v : Int) (M' : Mem) => ∃ n : Nat, v = n ∧ x = (rnd N U s0 n).1 ∧ (∀ c, c ≠ 69 → M' c = M c) ∧ (∀ p, tb (rnd N U s0 n).1 p = true → tb s0 p = false → M' 69 p = (rnd N U s0 n).2 p) ∧ ∀ m, 0 < m → m ≤ n → ¬ Hlt N U s0 pl m) (μ := fun (_ v : Int) (_ : Mem) => N.P + 1 - v.toNat) ?_ 5000 _ _ _ ⟨0, rfl, rfl, fun c _ => rfl, fun p a b => ?_, fun m a b => by omega⟩ (by simp; omega)
    rotate_left
    · have a' : tb s0 p = true := a
      rw [b] at a'; cases a'
    rintro rec x v M' ⟨n, rfl, rfl, g1, g2, g3⟩ hrec
    unfold X7_findWay_b6
    have hN' : NetX M' 12 N := hN.of (fun c _ _ => g1 c (by omega))
    have hcn := rnd_cnt hW hi hs n g3
    have hcl := cnt_le (tb (rnd N U s0 n).1) N.P
    rw [hN'.1]
    refine ⟨fun c => ?_, fun c => ?_⟩
    · exfalso
      have e : cnt (tb (rnd N U s0 n).1) N.P = N.P := by omega
      exact g3 n (by omega) (by omega) (Or.inr (cnt_all e pl hpl))
    · refine jn_use (P := fun J => ∀ M2 : Mem, (∀ c, c ≠ 69 → M2 c = M c) → (∀ p, tb (rnd N U s0 (n + 1)).1 p = true → tb s0 p = false → M2 69 p = (rnd N U s0 (n + 1)).2 p) → J (rnd N U s0 (n + 1)).1 M2) ?_ ?_
      · intro M2 f1 f2
        have hst : Hlt N U s0 pl (n + 1) → Hts N U s0 pl (n + 1) := fun z => ⟨by omega, z, fun m a b => g3 m a (by omega)⟩
        rw [bit_1 (show pl < 32 by omega)]
        refine ⟨fun c1 => hJ M2 (n + 1) f1 (hst (Or.inl c1)) f2, fun c1 => ⟨fun c2 => ⟨by unfold inR; omega, ?_⟩, fun c2 => hJ M2 (n + 1) f1 (hst (Or.inr c2)) f2⟩⟩
        rintro _ rfl
        refine hrec _ _ _ ⟨n + 1, by omega, rfl, f1, f2, fun m a b => ?_⟩ (by omega)
        by_cases e : m = n + 1
        · rw [e]
          rintro (z | z)
          · exact c1 z
          · exact c2 z
        · exact g3 m a (by omega)
      · intro J' hJ'
        refine wl3_inv (I := fun (x v : Int) (M2 : Mem) => ∃ j : Nat, v = j ∧ j ≤ N.R ∧ x = (swp N U (rnd N U s0 n) j).1 ∧ (∀ c, c ≠ 69 → M2 c = M c) ∧ (∀ p, tb (swp N U (rnd N U s0 n) j).1 p = true → tb s0 p = false → M2 69 p = (swp N U (rnd N U s0 n) j).2 p)) (μ := fun (_ v : Int) (_ : Mem) => N.R - v.toNat) ?_ 5000 _ _ _ ⟨0, rfl, by omega, rfl, g1, g2⟩ (by simp; omega)
        rintro rec' x v M2 ⟨j, rfl, hj, rfl, k1, k2⟩ hrec'
        unfold X7_findWay_b22
        have hN2 : NetX M2 12 N := hN.of (fun c _ _ => k1 c (by omega))
        rw [hN2.2.1]
        refine ⟨fun c2 => ?_, fun c2 => ⟨by omega, ?_⟩⟩
        · have e : j = N.R := by omega
          subst e
          exact hJ' M2 k1 k2
        · have hjR : j < N.R := by omega
          obtain ⟨x1, x2, -⟩ := hN2.2.2 j hjR
          rw [tn, x1, x2, k1 70 (by omega), hU j hjR]
          have l1 := frm_lt (U := U) hW hjR
          have l2 := too_lt (U := U) hW hjR
          refine jn_use (P := fun J => J (frm N U j : Int)) ?_ (fun J hJ2 => usd_frm hJ2)
          refine jn_use (P := fun J => J (too N U j : Int)) ?_ (fun J hJ2 => usd_too hJ2)
          have hskip : ¬ (tb (swp N U (rnd N U s0 n) j).1 (frm N U j) = true ∧ tb (swp N U (rnd N U s0 n) j).1 (too N U j) = false) → inR ((j : Int) + 1) ∧ ∀ z : Int, z = (j : Int) + 1 → rec' (swp N U (rnd N U s0 n) j).1 z M2 := fun hh => by
            have e : swp N U (rnd N U s0 n) (j + 1) = swp N U (rnd N U s0 n) j := sst_no hh
            refine ⟨by unfold inR; omega, ?_⟩
            rintro _ rfl
            exact hrec' _ _ _ ⟨j + 1, by omega, by omega, by rw [e], k1, by rw [e]; exact k2⟩ (by omega)
          rw [bit_1 (show frm N U j < 32 by omega), bit_0 (show too N U j < 32 by omega)]
          refine ⟨fun c3 => hskip (fun z => c3 z.1), fun c3 => ⟨fun c4 => hskip (fun z => c4 z.2), fun c4 => ?_⟩⟩
          have e : swp N U (rnd N U s0 n) (j + 1) = (bOr (swp N U (rnd N U s0 n) j).1 (bShl 1 (too N U j : Int)), fun p => if p = too N U j then (j : Int) else (swp N U (rnd N U s0 n) j).2 p) := sst_yes ⟨c3, c4⟩
          rintro _ rfl
          refine ⟨by omega, ?_⟩
          rintro _ rfl
          refine ⟨by unfold inR; omega, ?_⟩
          rintro _ rfl
          rw [tn]
          refine hrec' _ _ _ ⟨j + 1, by omega, by omega, by rw [e], fun c hc => by rw [st_o hc]; exact k1 c hc, fun p hp hp0 => ?_⟩ (by omega)
          rw [e] at hp ⊢
          rw [st_s]
          dsimp only at hp ⊢
          by_cases z : p = too N U j
          · rw [if_pos z, if_pos z]
          · rw [if_neg z, if_neg z]
            refine k2 p ?_ hp0
            rw [tb_or, tb_one (by omega)] at hp
            simp only [Bool.or_eq_true, decide_eq_true_eq] at hp
            exact hp.resolve_right z
theorem x_useWay {pl : Nat} {s : Int × (Nat → Int)} {t : Nat → Nat} (hN : NetX M 12 N) (hG : Good N) (hU : ∀ r, r < N.R → M 70 r = usd U r) (hR : RIn N U s0 s t) (hp : tb s.1 pl = true) (hb : ∀ p, tb s.1 p = true → tb s0 p = false → M 69 p = s.2 p) {Q : Mem → Prop} (h : ∀ (M' : Mem) (i : Nat), (∀ c, c ≠ 70 → M' c = M c) → tb s0 (pw N s0 s.2 (pl, U) i).1 = true → (∀ r, r < N.R → M' 70 r = usd (pw N s0 s.2 (pl, U) i).2 r) → Q M') : f_X7_useWay 12 s0 (pl : Int) M Q := by
  obtain ⟨hP20, hR30, hr⟩ := id hG.1
  have hpl := hR.2.2.1 pl hp
  have htp := ((hR.2.2.2 pl).1 hp).1
  have hcl := cnt_le (tb s.1) N.P
  unfold f_X7_useWay
  refine wl3_inv (I := fun (a v : Int) (M' : Mem) => ∃ i : Nat, v = i ∧ a = ((pw N s0 s.2 (pl, U) i).1 : Int) ∧ (∀ j, j < i → tb s0 (pw N s0 s.2 (pl, U) j).1 = false) ∧ (∀ c, c ≠ 70 → M' c = M c) ∧ (∀ r, r < N.R → M' 70 r = usd (pw N s0 s.2 (pl, U) i).2 r)) (μ := fun (_ v : Int) (_ : Mem) => N.P - v.toNat) ?_ 5000 _ _ _ ⟨0, rfl, rfl, fun j hj => by omega, fun c _ => rfl, hU⟩ (by simp; omega)
  rintro rec a v M' ⟨i, rfl, rfl, g1, g2, g3⟩ hrec
  unfold X7_useWay_b6
  have hN' : NetX M' 12 N := hN.of (fun c _ _ => g2 c (by omega))
  have hPI := pw_in hG hR hp i g1
  have hy := hR.2.2.1 _ hPI.1
  have hit := hPI.2.1
  rw [hN'.1, bit_0 (show (pw N s0 s.2 (pl, U) i).1 < 32 by omega)]
  refine ⟨fun c => by omega, fun c => ⟨fun c1 => h M' i g2 (by simpa using c1) g3, fun c1 => ⟨by omega, ?_⟩⟩⟩
  obtain ⟨r, r1, r2, r3, r4, r5, r6, r7⟩ := hPI.here hR c1
  obtain ⟨x1, x2, -⟩ := hN'.2.2 r r1
  rintro _ rfl
  rw [tn, g2 69 (by omega), hb _ hPI.1 c1, r2]
  refine ⟨by omega, ?_⟩
  rw [tn, x1, x2, g3 r r1]
  have e : pw N s0 s.2 (pl, U) (i + 1) = (frm N (pw N s0 s.2 (pl, U) i).2 r, fun q => if q = r then !(pw N s0 s.2 (pl, U) i).2 q else (pw N s0 s.2 (pl, U) i).2 q) := by
    show pst N s0 s.2 (pw N s0 s.2 (pl, U) i) = _
    unfold pst
    rw [if_neg (by rw [c1]; simp), r2, tn]
  refine jn_use (P := fun J => J (frm N (pw N s0 s.2 (pl, U) i).2 r : Int)) ?_ (fun J hJ2 => usd_frm hJ2)
  have hu : usd (pw N s0 s.2 (pl, U) i).2 r = 0 ∨ usd (pw N s0 s.2 (pl, U) i).2 r = 1 := by
    unfold usd
    split <;> simp
  refine ⟨by unfold inR; omega, ?_⟩
  rintro _ rfl
  refine ⟨by unfold inR; omega, ?_⟩
  rintro _ rfl
  refine hrec _ _ _ ⟨i + 1, by omega, by rw [e], fun j hj => ?_, fun c hc => by rw [st_o hc]; exact g2 c hc, fun q hq => ?_⟩ (by omega)
  · by_cases z : j = i
    · rw [z]; exact c1
    · exact g1 j (by omega)
  · rw [e, st_s]
    by_cases z : q = r
    · rw [if_pos z, z]
      unfold usd
      simp only [↓reduceIte]
      cases w : (pw N s0 s.2 (pl, U) i).2 r <;> simp
    · rw [if_neg z, g3 q hq]
      unfold usd
      simp only [z, ↓reduceIte]
theorem Chi.ext {pl k : Nat} {V : Nat → Nat → Bool} {W : Nat → Bool} (h : Chi N s0 pl k V) (ha : Aug N s0 pl (V k) W) : ∃ V', Chi N s0 pl (k + 1) V' ∧ V' (k + 1) = W := by
  refine ⟨fun i => if i = k + 1 then W else V i, ⟨by dsimp only; rw [if_neg (by omega)]; exact h.1, fun i hi => ?_⟩, by dsimp only; rw [if_pos rfl]⟩
  dsimp only
  rw [if_neg (show ¬ i = k + 1 by omega)]
  by_cases e : i = k
  · rw [if_pos (show i + 1 = k + 1 by omega), e]; exact ha
  · rw [if_neg (show ¬ i + 1 = k + 1 by omega)]; exact h.2 i (by omega)
theorem x_howManyApart {pl : Nat} (hN : NetX M 12 N) (hG : Good N) (hi : inR s0) (hs : ∀ p, tb s0 p = true → p < N.P) (hpl : pl < N.P) {Q : Int → Mem → Prop} (h : ∀ (M' : Mem) (k : Nat) (V : Nat → Nat → Bool), (∀ c, c ≠ 69 → c ≠ 70 → M' c = M c) → Chi N s0 pl k V → (NoW N s0 pl (V k) ∨ k = N.R) → Q (k : Int) M') : f_X7_howManyApart 12 s0 (pl : Int) M Q := by
  obtain ⟨hP20, hR30, hr⟩ := id hG.1
  unfold f_X7_howManyApart
  rintro _ rfl
  refine wl3_inv (I := fun (x v : Int) (M' : Mem) => ∃ (k : Nat) (V : Nat → Nat → Bool), x = k ∧ v = k ∧ k ≤ N.R ∧ Chi N s0 pl k V ∧ (∀ c, c ≠ 69 → c ≠ 70 → M' c = M c) ∧ (∀ r, r < N.R → M' 70 r = usd (V k) r)) (μ := fun (_ v : Int) (_ : Mem) => N.R - v.toNat) ?_ 5000 _ _ _ ⟨0, fun _ _ => false, rfl, rfl, by omega, ⟨rfl, fun i hi => by omega⟩, fun c _ q2 => by rw [fil_n q2], fun r hr' => by rw [fil_e, if_pos (by omega)]; rfl⟩ (by simp; omega)
  rintro rec x v M' ⟨k, V, rfl, rfl, hk, g1, g2, g3⟩ hrec
  unfold X7_howManyApart_b14
  have hN' : NetX M' 12 N := hN.of (fun c _ _ => g2 c (by omega) (by omega))
  rw [hN'.2.1]
  refine ⟨fun c => h M' k V g2 g1 (Or.inr (by omega)), fun c => x_findWay hN' hG.1 g3 hi hs hpl (fun M2 n a1 a2 a3 a4 => ⟨fun _ => ?_, fun z => absurd z (by omega)⟩) (fun M2 a1 a2 => ⟨fun z => absurd rfl z, fun _ => h M2 k V (fun c q1 q2 => by rw [a1 c q1]; exact g2 c q1 q2) g1 (Or.inl a2)⟩)⟩
  obtain ⟨t, hR⟩ := rnd_in (U := V k) hG.1 hi hs n
  refine x_useWay (hN'.of (fun c _ _ => a1 c (by omega))) hG (by rw [a1 70 (by omega)]; exact g3) hR a3 a4 (fun M3 i b1 b2 b3 => ⟨by unfold inR; omega, ?_⟩)
  rintro _ rfl
  refine ⟨by unfold inR; omega, ?_⟩
  rintro _ rfl
  obtain ⟨V', c1, c2⟩ := g1.ext ⟨n, i, a2, a3, b2, rfl⟩
  exact hrec _ _ _ ⟨k + 1, V', by omega, by omega, by omega, c1, fun c q1 q2 => by rw [b1 c q2, a1 c q1]; exact g2 c q1 q2, by rw [c2]; exact b3⟩ (by omega)
end
