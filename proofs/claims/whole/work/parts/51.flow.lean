/-! flows -/
theorem nz_r (x y : Int) : nz (x + nz y) = nz (x + y) := by unfold nz; rw [Int32.ofInt_add, Int32.ofInt_toInt, ← Int32.ofInt_add]
theorem nz_l (x y : Int) : nz (nz x + y) = nz (x + y) := by rw [Int.add_comm, nz_r, Int.add_comm]
theorem nz_n {k : Nat} (h : k < 2000000000) : nz (k : Int) = k := nz_eq (by unfold inR; omega)
def sof (N : Nt) (wo : Int) (p : Nat) (q : Nat) : Bool := decide (N.hd q = p ∧ (q : Int) ≠ wo)
def sho (N : Nt) (wo : Int) (p : Nat) : Nat := cnt (sof N wo p) N.R
def shr (N : Nt) (wo : Int) (x : Int) (r : Nat) : Int := Int.tdiv x (sho N wo (N.hd r)) + (if (cnt (sof N wo (N.hd r)) r : Int) < Int.tmod x (sho N wo (N.hd r)) then 1 else 0)
def Flw (N : Nt) (wo : Int) (f c : Nat → Int) : Prop := (∀ r, r < N.R → (r : Int) ≠ wo → f r = nz (N.gf r + shr N wo (c (N.hd r)) r)) ∧ (∀ p, p < N.P → c p = nz (sm (fun r => if N.ft r = p ∧ (r : Int) ≠ wo then f r else 0) N.R))
theorem Flw.uniq {N : Nt} (hG : Good N) {wo : Int} {f c f' c' : Nat → Int} (h1 : Flw N wo f c) (h2 : Flw N wo f' c') : (∀ p, p < N.P → c p = c' p) ∧ (∀ r, r < N.R → (r : Int) ≠ wo → f r = f' r) := by
  have hc : ∀ p, p < N.P → c p = c' p := by
    refine hG.2.ind (C := fun p => p < N.P → c p = c' p) (fun p ih hp => ?_)
    rw [h1.2 p hp, h2.2 p hp]
    congr 1
    refine sm_congr (fun r hr => ?_)
    by_cases q : N.ft r = p ∧ (r : Int) ≠ wo
    · rw [if_pos q, if_pos q, h1.1 r hr q.2, h2.1 r hr q.2, ih r (Ew_all hr) q.1 (hG.1.2.2 r hr).1]
    · rw [if_neg q, if_neg q]
  exact ⟨hc, fun r hr hw => by rw [h1.1 r hr hw, h2.1 r hr hw, hc _ (hG.1.2.2 r hr).1]⟩
theorem cnt_cut {f g : Nat → Bool} : ∀ {n k : Nat}, k ≤ n → (∀ i, i < n → g i = (f i && decide (i < k))) → cnt g n = cnt f k
  | 0, k, hk, _ => by rw [show k = 0 by omega]; rfl
  | n + 1, k, hk, h => by
    rcases Nat.lt_or_ge n k with q | q
    · rw [show k = n + 1 by omega]
      exact cnt_congr (fun i hi => by rw [h i hi]; simp; omega)
    · rw [cnt_s, cnt_cut (n := n) q (fun i hi => h i (by omega)), h n (by omega)]
      simp; omega
theorem ByH.inv {N : Nt} {b : Nat → Nat} (h : ByH N b) : ∃ bp : Nat → Nat, ∀ q, q < N.R → bp q < N.R ∧ b (bp q) = q := by
  have : ∀ q, ∃ k, q < N.R → k < N.R ∧ b k = q := fun q => by
    by_cases z : q < N.R
    · obtain ⟨k, y⟩ := h.2.2.1 q z
      exact ⟨k, fun _ => y⟩
    · exact ⟨0, fun y => absurd y z⟩
  exact ⟨fun q => Classical.choose (this q), fun q hq => Classical.choose_spec (this q) hq⟩
section
variable {M : Mem} {N : Nt} {n a : Nat}
theorem x_share {p o s : Nat} (hp : p < 20) (ho : M (n + 3) p = o) (ho0 : 0 < o) (ho1 : o ≤ 30) (hs : M (n + 4) p = s) (hs1 : s ≤ 30) {Q : Int → Mem → Prop} (h : Q (nz (Int.tdiv (M (n + 2) p) o + (if (s : Int) < Int.tmod (M (n + 2) p) o then 1 else 0))) (st M (n + 4) p ((s + 1 : Nat) : Int))) : f_X2_share n p M Q := by
  unfold f_X2_share
  refine ⟨by omega, ?_⟩
  rintro _ rfl
  rw [tn, ho, hs]
  have m1 := Int.tmod_lt_of_pos (M (n + 2) p) (show (0 : Int) < o by omega)
  have m2 := Int.lt_tmod_of_pos (M (n + 2) p) (show (0 : Int) < o by omega)
  refine ⟨fun _ => ⟨by omega, by unfold inR; omega, ?_⟩, fun c => by omega⟩
  have hst : ∀ e : Int, e = (if (s : Int) < Int.tmod (M (n + 2) p) o then 1 else 0) → ∀ M_6 : Mem, M_6 = st M (n + 4) p (nz ((s : Int) + 1)) → (o : Int) ≠ 0 ∧ Q (nz (Int.tdiv (M_6 (n + 2) p) (o : Int) + e)) M_6 := by
    rintro _ rfl
    rintro _ rfl
    refine ⟨by omega, ?_⟩
    rw [st_o (show n + 2 ≠ n + 4 by omega), show (s : Int) + 1 = ((s + 1 : Nat) : Int) by omega, nz_n (by omega)]
    exact h
  refine ⟨fun c => hst 0 (by rw [if_neg (by omega)]), fun c => hst 1 (by rw [if_pos (by omega)])⟩
theorem x_spread {bc : Nat} {wo : Int} {b : Nat → Nat} (hl : lenS (shp bc) = 30) (hbc : bc < n) (hN : NetX M a N) (hW : Wf N) (ha : a + 5 < n) (hB : ByH N b) (hb : ∀ k, k < N.R → M bc k = b k) {Q : Mem → Prop} (h : ∀ M' : Mem, (∀ c, c < n + 1 ∨ n + 4 < c → M' c = M c) → Flw N wo (M' (n + 1)) (M' (n + 2)) → Q M') : f_X2_spread n a bc wo M Q := by
  obtain ⟨hP20, hR30, hr⟩ := id hW
  obtain ⟨bp, hbp⟩ := hB.inv
  obtain ⟨b1, b2, b3, b4, b5⟩ := hB
  have hbpb : ∀ k, k < N.R → bp (b k) = k := fun k hk => b2 _ _ (hbp _ (b1 k hk)).1 hk (hbp _ (b1 k hk)).2
  unfold f_X2_spread
  rintro _ rfl
  rintro _ rfl
  rintro _ rfl
  refine jn_use (P := fun J => ∀ M' : Mem, (∀ c, c < n + 1 ∨ n + 4 < c → M' c = M c) → (∀ p, p < 20 → M' (n + 2) p = 0 ∧ M' (n + 3) p = sho N wo p ∧ M' (n + 4) p = 0) → J M') ?_ ?_
  · intro M1 hf hc
    have hI : ∃ I : Nat → Mem → Prop, I = fun (i : Nat) (M' : Mem) => (∀ c, c < n + 1 ∨ n + 4 < c → M' c = M c) ∧ (∀ p, p < 20 → M' (n + 3) p = sho N wo p ∧ M' (n + 4) p = cnt (fun q => decide (N.hd q = p ∧ (q : Int) ≠ wo ∧ bp q < i)) N.R ∧ M' (n + 2) p = nz (sm (fun q => if N.ft q = p ∧ (q : Int) ≠ wo ∧ bp q < i then M' (n + 1) q else 0) N.R)) ∧ (∀ q, q < N.R → (q : Int) ≠ wo → bp q < i → M' (n + 1) q = nz (N.gf q + shr N wo (M' (n + 2) (N.hd q)) q)) := ⟨_, rfl⟩
    obtain ⟨I, hI⟩ := hI
    refine wl2_inv (I := fun (v : Int) (M' : Mem) => ∃ i : Nat, v = i ∧ i ≤ N.R ∧ I i M') (μ := fun (v : Int) (_ : Mem) => N.R - v.toNat) ?_ 5000 _ _ ⟨0, rfl, by omega, ?_⟩ (by simp; omega)
    rotate_left
    · rw [hI]
      refine ⟨hf, fun p hp => ⟨(hc p hp).2.1, ?_, ?_⟩, fun q _ _ z => by omega⟩
      · rw [(hc p hp).2.2, cnt_false (fun i _ => by simp)]; rfl
      · rw [(hc p hp).1, show sm (fun q => if N.ft q = p ∧ (q : Int) ≠ wo ∧ bp q < 0 then M1 (n + 1) q else 0) N.R = 0 from ?_]
        · rfl
        · have : ∀ m, sm (fun q => if N.ft q = p ∧ (q : Int) ≠ wo ∧ bp q < 0 then M1 (n + 1) q else 0) m = 0 := by
            intro m
            induction m with
            | zero => rfl
            | succ m ih => unfold sm; rw [ih, if_neg (by omega)]; rfl
          exact this _
    rintro rec v M' ⟨i, rfl, hi, hII⟩ hrec
    unfold X2_spread_b67
    have hII2 := hII
    rw [hI] at hII2
    obtain ⟨g1, g2, g3⟩ := hII2
    have hN' : NetX M' a N := hN.of (fun c _ _ => g1 c (by omega))
    rw [hN'.2.1, hl]
    refine ⟨fun c => ?_, fun c => ⟨by omega, ?_⟩⟩
    · have e : i = N.R := by omega
      subst e
      refine h M' g1 ⟨fun r hr' hw => g3 r hr' hw (hbp r hr').1, fun p hp => ?_⟩
      rw [(g2 p (by omega)).2.2]
      congr 1
      refine sm_congr (fun q hq => ?_)
      have := (hbp q hq).1
      by_cases z : N.ft q = p ∧ (q : Int) ≠ wo
      · rw [if_pos z, if_pos ⟨z.1, z.2, this⟩]
      · rw [if_neg z, if_neg (fun y => z ⟨y.1, y.2.1⟩)]
    · have hiR : i < N.R := by omega
      have hbi := b1 i hiR
      have hbpi := hbpb i hiR
      rintro _ rfl
      rw [tn, g1 bc (by omega), hb i hiR]
      have hiff : ∀ q, q < N.R → (bp q < i + 1 ↔ bp q < i ∨ q = b i) := fun q hq => by
        obtain ⟨z1, z2⟩ := hbp q hq
        constructor
        · intro z
          rcases Nat.lt_or_ge (bp q) i with y | y
          · exact Or.inl y
          · refine Or.inr ?_
            rw [← z2, show bp q = i by omega]
        · rintro (z | z)
          · omega
          · rw [z, hbpi]; omega
      refine ⟨fun cw => ?_, fun cw => ⟨by omega, ?_⟩⟩
      · rintro _ rfl
        rw [show (i : Int) + 1 = ((i + 1 : Nat) : Int) by omega, nz_n (by omega)]
        have hiff2 : ∀ q, q < N.R → (q : Int) ≠ wo → (bp q < i + 1 ↔ bp q < i) := fun q hq hw => by
          rw [hiff q hq]
          exact ⟨fun z => z.elim id (fun z => by subst z; exact absurd cw hw), Or.inl⟩
        refine hrec _ _ ⟨i + 1, rfl, by omega, ?_⟩ (by omega)
        rw [hI]
        refine ⟨g1, fun p hp => ⟨(g2 p hp).1, ?_, ?_⟩, fun q hq hw z => g3 q hq hw ((hiff2 q hq hw).mp z)⟩
        · rw [(g2 p hp).2.1]
          congr 1
          refine cnt_congr (fun q hq => ?_)
          simp only [decide_eq_decide]
          constructor
          · rintro ⟨z1, z2, z3⟩; exact ⟨z1, z2, by omega⟩
          · rintro ⟨z1, z2, z3⟩; exact ⟨z1, z2, (hiff2 q hq z2).mp z3⟩
        · rw [(g2 p hp).2.2]
          congr 1
          refine sm_congr (fun q hq => ?_)
          by_cases z : N.ft q = p ∧ (q : Int) ≠ wo ∧ bp q < i
          · rw [if_pos z, if_pos ⟨z.1, z.2.1, by omega⟩]
          · rw [if_neg z, if_neg (fun y => z ⟨y.1, y.2.1, (hiff2 q hq y.2.1).mp y.2.2⟩)]
      · obtain ⟨x1, x2, -, x4, -⟩ := hN'.2.2 (b i) hbi
        obtain ⟨w1, w2, -⟩ := hr (b i) hbi
        obtain ⟨y1, y2, y3⟩ := g2 (N.hd (b i)) (by omega)
        have hsv : cnt (fun q => decide (N.hd q = N.hd (b i) ∧ (q : Int) ≠ wo ∧ bp q < i)) N.R = cnt (sof N wo (N.hd (b i))) (b i) := by
          refine cnt_cut (by omega) (fun q hq => ?_)
          unfold sof
          rw [Bool.eq_iff_iff]
          simp only [decide_eq_true_eq, Bool.and_eq_true]
          obtain ⟨z1, z2⟩ := hbp q hq
          constructor
          · rintro ⟨u1, u2, u3⟩
            have := b5 (bp q) i u3 hiR (by rw [z2]; exact u1)
            exact ⟨⟨u1, u2⟩, by omega⟩
          · rintro ⟨⟨u1, u2⟩, u3⟩
            refine ⟨u1, u2, ?_⟩
            rcases Nat.lt_trichotomy (bp q) i with z | z | z
            · exact z
            · rw [z] at z2; omega
            · have := b5 i (bp q) z z1 (by rw [z2]; exact u1.symm)
              omega
        rw [hsv] at y2
        have l1 := cnt_le (sof N wo (N.hd (b i))) (b i)
        have l2 := cnt_le (sof N wo (N.hd (b i))) N.R
        have l3 : 0 < sho N wo (N.hd (b i)) := cnt_pos.mpr ⟨b i, hbi, by unfold sof; simp; exact cw⟩
        rw [tn, x1]
        refine x_share (by omega) y1 l3 (by unfold sho; omega) y2 (by omega) ?_
        rintro _ rfl
        rw [st_o (show a + 2 ≠ n + 1 by omega), st_o (show a + 2 ≠ n + 4 by omega), x2, st_o (show n + 2 ≠ n + 1 by omega), st_o (show n + 2 ≠ n + 4 by omega), st_s, if_pos rfl, x4, nz_r]
        refine ⟨by omega, ?_⟩
        rintro _ rfl
        rintro _ rfl
        rw [show (i : Int) + 1 = ((i + 1 : Nat) : Int) by omega, nz_n (by omega), tn]
        have hF : ∃ F : Int, F = nz (N.gf (b i) + shr N wo (M' (n + 2) (N.hd (b i))) (b i)) := ⟨_, rfl⟩
        obtain ⟨F, hF⟩ := hF
        have hF2 : nz (N.gf (b i) + ((M' (n + 2) (N.hd (b i))).tdiv (sho N wo (N.hd (b i))) + (if (cnt (sof N wo (N.hd (b i))) (b i) : Int) < (M' (n + 2) (N.hd (b i))).tmod (sho N wo (N.hd (b i))) then 1 else 0))) = F := hF.symm
        rw [hF2]
        refine hrec _ _ ⟨i + 1, rfl, by omega, ?_⟩ (by omega)
        rw [hI]
        have hne : ∀ q, q < N.R → bp q ≤ i → ¬ N.hd q = N.ft (b i) := fun q hq z e => by
          obtain ⟨z1, z2⟩ := hbp q hq
          have := b4 i (bp q) hiR z1 (by rw [z2]; exact e.symm)
          omega
        refine ⟨fun c hc => by rw [st_o (by omega), st_o (by omega), st_o (by omega)]; exact g1 c hc, fun p hp => ⟨?_, ?_, ?_⟩, fun q hq hw z => ?_⟩
        · rw [st_o (by omega), st_o (by omega), st_o (by omega)]; exact (g2 p hp).1
        · rw [st_o (by omega), st_o (by omega), st_s]
          by_cases e : p = N.hd (b i)
          · rw [if_pos e]
            subst e
            congr 1
            rw [← hsv]
            refine (cnt_add hbi (by simp; omega) (fun q hq => ?_)).symm
            rw [Bool.eq_iff_iff]
            simp only [decide_eq_true_eq, Bool.or_eq_true, hiff q hq]
            constructor
            · rintro ⟨u1, u2, u3⟩
              rcases u3 with u3 | u3
              · exact Or.inl ⟨u1, u2, u3⟩
              · exact Or.inr u3
            · rintro (⟨u1, u2, u3⟩ | u)
              · exact ⟨u1, u2, Or.inl u3⟩
              · subst u; exact ⟨rfl, cw, Or.inr rfl⟩
          · rw [if_neg e, (g2 p hp).2.1]
            congr 1
            refine cnt_congr (fun q hq => ?_)
            simp only [decide_eq_decide, hiff q hq]
            constructor
            · rintro ⟨u1, u2, u3⟩; exact ⟨u1, u2, Or.inl u3⟩
            · rintro ⟨u1, u2, u3⟩
              refine ⟨u1, u2, u3.elim id (fun z => ?_)⟩
              subst z; exact absurd u1.symm e
        · rw [st_o (show n + 1 ≠ n + 2 by omega), st_s]
          by_cases e : p = N.ft (b i)
          · rw [if_pos e]
            subst e
            rw [(g2 _ hp).2.2, nz_l]
            congr 1
            refine (sm_add (k := b i) hbi (fun q hq hqn => ?_) ?_).symm
            · rw [st_s, if_neg hqn, st_o (by omega)]
              simp only [hiff q hq]
              by_cases z : N.ft q = N.ft (b i) ∧ (q : Int) ≠ wo ∧ bp q < i
              · rw [if_pos z, if_pos ⟨z.1, z.2.1, Or.inl z.2.2⟩]
              · rw [if_neg z, if_neg (fun y => z ⟨y.1, y.2.1, y.2.2.elim id (fun w => absurd w hqn)⟩)]
            · rw [if_pos ⟨rfl, cw, by omega⟩, st_s, if_pos rfl, if_neg (by omega)]; omega
          · rw [if_neg e, st_o (show n + 2 ≠ n + 1 by omega), st_o (show n + 2 ≠ n + 4 by omega), (g2 p hp).2.2]
            congr 1
            refine sm_congr (fun q hq => ?_)
            by_cases z : N.ft q = p ∧ (q : Int) ≠ wo ∧ bp q < i
            · rw [if_pos z, if_pos ⟨z.1, z.2.1, by omega⟩, st_s, if_neg (fun w => by subst w; exact e z.1.symm), st_o (by omega)]
            · rw [if_neg z, if_neg (fun y => z ⟨y.1, y.2.1, ((hiff q hq).mp y.2.2).elim id (fun w => by subst w; exact absurd y.1.symm e)⟩)]
        · rw [st_o (show n + 1 ≠ n + 2 by omega), st_s, st_s, if_neg (hne q hq (by omega)), st_o (show n + 2 ≠ n + 1 by omega), st_o (show n + 2 ≠ n + 4 by omega)]
          rcases (hiff q hq).mp z with z | z
          · rw [if_neg (fun w => by rw [w, hbpi] at z; omega), st_o (by omega)]; exact g3 q hq hw z
          · subst z; rw [if_pos rfl]; exact hF
  · intro J hJ
    refine wl2_inv (I := fun (v : Int) (M' : Mem) => ∃ k : Nat, v = k ∧ k ≤ N.R ∧ (∀ c, c < n + 1 ∨ n + 4 < c → M' c = M c) ∧ (∀ p, p < 20 → M' (n + 2) p = 0 ∧ M' (n + 3) p = cnt (sof N wo p) k ∧ M' (n + 4) p = 0)) (μ := fun (v : Int) (_ : Mem) => N.R - v.toNat) ?_ 5000 _ _ ⟨0, rfl, by omega, fun c hc => by rw [fil_n (by omega), fil_n (by omega), fil_n (by omega)], fun p hp => ⟨?_, ?_, ?_⟩⟩ (by simp; omega)
    rotate_left
    · rw [fil_n (by omega), fil_n (by omega), fil_e, if_pos hp]
    · rw [fil_n (by omega), fil_e, if_pos hp]; rfl
    · rw [fil_e, if_pos hp]
    rintro rec v M' ⟨k, rfl, hk, g1, g2⟩ hrec
    unfold X2_spread_b27
    have hN' : NetX M' a N := hN.of (fun c _ _ => g1 c (by omega))
    rw [hN'.2.1]
    refine ⟨fun c => ?_, fun c => ⟨fun cw => ?_, fun cw => ⟨by omega, ?_⟩⟩⟩
    · have e : k = N.R := by omega
      subst e
      exact hJ M' g1 g2
    · rintro _ rfl
      rw [show (k : Int) + 1 = ((k + 1 : Nat) : Int) by omega, nz_n (by omega)]
      refine hrec _ _ ⟨k + 1, rfl, by omega, g1, fun p hp => ⟨(g2 p hp).1, ?_, (g2 p hp).2.2⟩⟩ (by omega)
      rw [(g2 p hp).2.1, cnt_s, if_neg (by unfold sof; simp; omega)]; rfl
    · have hkR : k < N.R := by omega
      obtain ⟨x1, -⟩ := hN'.2.2 k hkR
      obtain ⟨w1, -⟩ := hr k hkR
      have l1 := cnt_le (sof N wo (N.hd k)) k
      rw [tn, x1, tn]
      refine ⟨by omega, ?_⟩
      rintro _ rfl
      rintro _ rfl
      rw [show (k : Int) + 1 = ((k + 1 : Nat) : Int) by omega, nz_n (by omega), (g2 _ (by omega)).2.1, show (cnt (sof N wo (N.hd k)) k : Int) + 1 = ((cnt (sof N wo (N.hd k)) k + 1 : Nat) : Int) by omega, nz_n (by omega)]
      refine hrec _ _ ⟨k + 1, rfl, by omega, fun c hc => by rw [st_o (by omega)]; exact g1 c hc, fun p hp => ⟨?_, ?_, ?_⟩⟩ (by omega)
      · rw [st_o (by omega)]; exact (g2 p hp).1
      · rw [st_s, cnt_s]
        by_cases e : p = N.hd k
        · subst e; rw [if_pos rfl, if_pos (by unfold sof; simp; exact cw)]
        · rw [if_neg e, (g2 p hp).2.1, if_neg (by unfold sof; simp; omega)]; rfl
      · rw [st_o (by omega)]; exact (g2 p hp).2.2
end
