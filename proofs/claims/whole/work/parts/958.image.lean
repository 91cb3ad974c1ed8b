/-! image -/
def imb (N : Nt) (k : Nat) : Int := if k = 0 then (N.P : Int) else if k = 1 then (N.R : Int) else if (k - 2) % 5 = 0 then (N.hd ((k - 2) / 5) : Int) else if (k - 2) % 5 = 1 then (N.ft ((k - 2) / 5) : Int) else if (k - 2) % 5 = 2 then N.ln ((k - 2) / 5) else if (k - 2) % 5 = 3 then N.gf ((k - 2) / 5) else if N.rv ((k - 2) / 5) = -1 then 255 else N.rv ((k - 2) / 5)
theorem imb_at (N : Nt) (r : Nat) : imb N (2 + 5 * r) = N.hd r ∧ imb N (2 + 5 * r + 1) = N.ft r ∧ imb N (2 + 5 * r + 2) = N.ln r ∧ imb N (2 + 5 * r + 3) = N.gf r ∧ imb N (2 + 5 * r + 4) = if N.rv r = -1 then 255 else N.rv r := by
  unfold imb
  refine ⟨?_, ?_, ?_, ?_, ?_⟩
  · rw [if_neg (by omega), if_neg (by omega), if_pos (by omega), show (2 + 5 * r - 2) / 5 = r by omega]
  · rw [if_neg (by omega), if_neg (by omega), if_neg (by omega), if_pos (by omega), show (2 + 5 * r + 1 - 2) / 5 = r by omega]
  · rw [if_neg (by omega), if_neg (by omega), if_neg (by omega), if_neg (by omega), if_pos (by omega), show (2 + 5 * r + 2 - 2) / 5 = r by omega]
  · rw [if_neg (by omega), if_neg (by omega), if_neg (by omega), if_neg (by omega), if_neg (by omega), if_pos (by omega), show (2 + 5 * r + 3 - 2) / 5 = r by omega]
  · rw [if_neg (by omega), if_neg (by omega), if_neg (by omega), if_neg (by omega), if_neg (by omega), if_neg (by omega), show (2 + 5 * r + 4 - 2) / 5 = r by omega]
theorem imb_in {N : Nt} (hW : Wf N) {k : Nat} (hk : k < 2 + 5 * N.R) : 0 ≤ imb N k ∧ imb N k ≤ 255 := by
  have hP := hW.1
  have hR := hW.2.1
  by_cases h0 : k = 0
  · rw [h0]; show 0 ≤ (N.P : Int) ∧ (N.P : Int) ≤ 255; omega
  · by_cases h1 : k = 1
    · rw [h1]; show 0 ≤ (N.R : Int) ∧ (N.R : Int) ≤ 255; omega
    · obtain ⟨r, hr⟩ : ∃ r, r = (k - 2) / 5 := ⟨_, rfl⟩
      have w := hW.2.2 r (by omega)
      obtain ⟨a0, a1, a2, a3, a4⟩ := imb_at N r
      have hc : k = 2 + 5 * r ∨ k = 2 + 5 * r + 1 ∨ k = 2 + 5 * r + 2 ∨ k = 2 + 5 * r + 3 ∨ k = 2 + 5 * r + 4 := by omega
      rcases hc with z | z | z | z | z
      · rw [z, a0]; omega
      · rw [z, a1]; omega
      · rw [z, a2]; omega
      · rw [z, a3]; omega
      · rw [z, a4]; split <;> omega
def chk (f : Nat → Int) : Nat → Int
  | 0 => 191
  | k + 1 => (3 * chk f k + f k) % 251
theorem chk_congr {f g : Nat → Int} : ∀ {n : Nat}, (∀ i, i < n → f i = g i) → chk f n = chk g n
  | 0, _ => rfl
  | n + 1, h => by unfold chk; rw [chk_congr (fun i hi => h i (by omega)), h n (by omega)]
theorem chk_in {f : Nat → Int} : ∀ {n : Nat}, 0 ≤ chk f n ∧ chk f n ≤ 250
  | 0 => by unfold chk; omega
  | n + 1 => by unfold chk; omega
section
variable {M : Mem} {N : Nt} {t n A F W : Nat} {H : Nat → Nt} {K : Nat → Nat → Int}
theorem r_last {a m : Nat} (hl : m ≤ lenS (shp a)) (hm : m ≤ 1700) (hb : ∀ k, k < m → 0 ≤ M a k ∧ M a k ≤ 255) {v : Int} (hv : v = m) {Q : Int → Prop} (h : Q (chk (M a) m)) : f_X12_last a v M Q := by
  unfold f_X12_last
  rw [hv]
  refine wl2_inv (I := fun (c w : Int) => ∃ k : Nat, w = k ∧ k ≤ m ∧ c = chk (M a) k) (μ := fun (_ w : Int) => m - w.toNat) ?_ 5000 _ _ ⟨0, rfl, by omega, rfl⟩ (by simp; omega)
  rintro rec c w ⟨k, rfl, hk, rfl⟩ hrec
  unfold X12_last_b6
  have hc := chk_in (f := M a) (n := k)
  refine ⟨fun d => by rw [show k = m by omega]; exact h, fun d => ⟨by omega, ?_⟩⟩
  rw [tn]
  have hbk := hb k (by omega)
  refine ⟨by unfold inR; omega, ?_⟩
  rintro _ rfl
  refine ⟨by unfold inR; omega, ?_⟩
  rintro _ rfl
  refine hrec _ _ ⟨k + 1, by omega, by omega, ?_⟩ (by omega)
  rw [Int.tmod_eq_emod_of_nonneg (by omega)]
  rfl
theorem x_write (hN : NetX M 12 N) (hW : Wf N) {Q : Mem → Prop} (h : ∀ M' : Mem, (∀ c, c ≠ 66 → c ≠ 67 → M' c = M c) → M' 66 0 = ((3 + 5 * N.R : Nat) : Int) → (∀ k, k < 2 + 5 * N.R → M' 67 k = imb N k) → M' 67 (2 + 5 * N.R) = chk (imb N) (2 + 5 * N.R) → Q M') : f_X4_write 12 M Q := by
  have hP := hW.1
  have hR := hW.2.1
  unfold f_X4_write
  rintro _ rfl
  rintro _ rfl
  refine jn_use (P := fun J => ∀ M1 : Mem, (∀ c, c ≠ 67 → M1 c = M c) → (∀ k, k < 2 + 5 * N.R → M1 67 k = imb N k) → J ((2 + 5 * N.R : Nat) : Int) M1) ?_ ?_
  · intro M1 a1 a2
    refine jn_use (P := fun J => J (chk (imb N) (2 + 5 * N.R))) ?_ ?_
    · refine ⟨by omega, ?_⟩
      rintro _ rfl
      refine ⟨by unfold inR; omega, ?_⟩
      rintro _ rfl
      rw [tn]
      refine h _ (fun c q1 q2 => by rw [st_o q1, st_o q2]; exact a1 c q2) (by rw [st_s, if_pos rfl]; omega) (fun k hk => by rw [st_o (by omega), st_s, if_neg (by omega)]; exact a2 k hk) (by rw [st_o (by omega), st_s, if_pos rfl])
    · intro J hJ
      refine wl2_inv (I := fun (c w : Int) => ∃ k : Nat, w = k ∧ k ≤ 2 + 5 * N.R ∧ c = chk (imb N) k) (μ := fun (_ w : Int) => 2 + 5 * N.R - w.toNat) ?_ 5000 _ _ ⟨0, rfl, by omega, rfl⟩ (by simp; omega)
      rintro rec c w ⟨k, rfl, hk, rfl⟩ hrec
      unfold X4_write_b132
      have hc := chk_in (f := imb N) (n := k)
      refine ⟨fun d => by rw [show k = 2 + 5 * N.R by omega]; exact hJ, fun d => ⟨by omega, ?_⟩⟩
      have hbk := imb_in hW (k := k) (by omega)
      rw [tn, a2 k (by omega)]
      refine ⟨by unfold inR; omega, ?_⟩
      rintro _ rfl
      refine ⟨by unfold inR; omega, ?_⟩
      rintro _ rfl
      refine hrec _ _ ⟨k + 1, by omega, by omega, ?_⟩ (by omega)
      rw [Int.tmod_eq_emod_of_nonneg (by omega)]
      rfl
  · intro J hJ
    refine wl3_inv (I := fun (a v : Int) (M' : Mem) => ∃ r : Nat, v = r ∧ a = ((2 + 5 * r : Nat) : Int) ∧ r ≤ N.R ∧ (∀ c, c ≠ 67 → M' c = M c) ∧ (∀ k, k < 2 + 5 * r → M' 67 k = imb N k)) (μ := fun (_ v : Int) (_ : Mem) => N.R - v.toNat) ?_ 5000 _ _ _ ⟨0, rfl, rfl, by omega, fun c hc => by rw [st_o hc, st_o hc], fun k hk => ?_⟩ (by simp; omega)
    rotate_left
    · have hk' : k = 0 ∨ k = 1 := by omega
      rcases hk' with z | z
      · rw [z, st_s, if_neg (by omega), st_s, if_pos rfl, hN.1]; rfl
      · rw [z, st_s, if_pos rfl, st_o (by omega), hN.2.1]; rfl
    rintro rec a v M' ⟨r, rfl, rfl, hr, g1, g2⟩ hrec
    unfold X4_write_b24
    have hN' : NetX M' 12 N := hN.of (fun c _ _ => g1 c (by omega))
    rw [hN'.2.1]
    refine ⟨fun d => ?_, fun d => ⟨by omega, by omega, ?_⟩⟩
    · have e : r = N.R := by omega
      subst e
      exact hJ M' g1 g2
    · obtain ⟨x1, x2, x3, x4, x5⟩ := hN'.2.2 r (by omega)
      obtain ⟨b0, b1, b2, b3, b4⟩ := imb_at N r
      have w := hW.2.2 r (by omega)
      rintro _ rfl
      refine ⟨by omega, ?_⟩
      rintro _ rfl
      refine ⟨by omega, ?_⟩
      rintro _ rfl
      refine ⟨by omega, ?_⟩
      rintro _ rfl
      simp only [tn, show (((2 + 5 * r : Nat) : Int) + 1).toNat = 2 + 5 * r + 1 by omega, show (((2 + 5 * r : Nat) : Int) + 2).toNat = 2 + 5 * r + 2 by omega, show (((2 + 5 * r : Nat) : Int) + 3).toNat = 2 + 5 * r + 3 by omega, show (((2 + 5 * r : Nat) : Int) + 4).toNat = 2 + 5 * r + 4 by omega]
      rw [st_o (show 12 + 2 ≠ 67 by omega), st_o (show 12 + 3 ≠ 67 by omega), st_o (show 12 + 3 ≠ 67 by omega), st_o (show 12 + 4 ≠ 67 by omega), st_o (show 12 + 4 ≠ 67 by omega), st_o (show 12 + 4 ≠ 67 by omega), st_o (show 12 + 5 ≠ 67 by omega), st_o (show 12 + 5 ≠ 67 by omega), st_o (show 12 + 5 ≠ 67 by omega), st_o (show 12 + 5 ≠ 67 by omega), x1, x2, x3, x4, x5]
      have hgo : ∀ y : Int, y = imb N (2 + 5 * r + 4) → (0 ≤ ((2 + 5 * r : Nat) : Int) + 4 ∧ ((2 + 5 * r : Nat) : Int) + 4 < 153) ∧ ∀ M_31 : Mem, M_31 = st (st (st (st (st M' 67 (2 + 5 * r) (N.hd r : Int)) 67 (2 + 5 * r + 1) (N.ft r : Int)) 67 (2 + 5 * r + 2) (N.ln r)) 67 (2 + 5 * r + 3) (N.gf r)) 67 (2 + 5 * r + 4) y → inR (((2 + 5 * r : Nat) : Int) + 5) ∧ ∀ v2_32 : Int, v2_32 = ((2 + 5 * r : Nat) : Int) + 5 → inR ((r : Int) + 1) ∧ ∀ v3_34 : Int, v3_34 = (r : Int) + 1 → rec v2_32 v3_34 M_31 := by
        intro y hy
        refine ⟨by omega, ?_⟩
        rintro _ rfl
        refine ⟨by unfold inR; omega, ?_⟩
        rintro _ rfl
        refine ⟨by unfold inR; omega, ?_⟩
        rintro _ rfl
        refine hrec _ _ _ ⟨r + 1, by omega, by omega, by omega, fun c hc => by rw [st_o hc, st_o hc, st_o hc, st_o hc, st_o hc]; exact g1 c hc, fun k hk => ?_⟩ (by omega)
        rw [st_s, st_s, st_s, st_s, st_s]
        by_cases z4 : k = 2 + 5 * r + 4
        · rw [if_pos z4, z4]; exact hy
        · rw [if_neg z4]
          by_cases z3 : k = 2 + 5 * r + 3
          · rw [if_pos z3, z3, b3]
          · rw [if_neg z3]
            by_cases z2 : k = 2 + 5 * r + 2
            · rw [if_pos z2, z2, b2]
            · rw [if_neg z2]
              by_cases z1 : k = 2 + 5 * r + 1
              · rw [if_pos z1, z1, b1]
              · rw [if_neg z1]
                by_cases z0 : k = 2 + 5 * r
                · rw [if_pos z0, z0, b0]
                · rw [if_neg z0]; exact g2 k (by omega)
      exact ⟨fun z => hgo _ (by rw [b4, if_neg z]), fun z => hgo _ (by rw [b4, if_pos z])⟩
theorem imb_raw (hN : NetR M 100 N) (hW : Wf N) {k : Nat} (hk : k < 5 * N.R) : bAnd (M 100 (33 + k)) 255 = imb N (2 + k) := by
  have hP := hW.1
  obtain ⟨r, hr⟩ : ∃ r, r = k / 5 := ⟨_, rfl⟩
  have w := hW.2.2 r (by omega)
  obtain ⟨a0, a1, a2, a3, a4⟩ := imb_at N r
  obtain ⟨x0, x1, x2, x3, x4⟩ := hN.2.2 r (by omega)
  have hc : k = 5 * r ∨ k = 5 * r + 1 ∨ k = 5 * r + 2 ∨ k = 5 * r + 3 ∨ k = 5 * r + 4 := by omega
  rcases hc with z | z | z | z | z
  · rw [z, x0, a0]; exact byte_nat (by omega)
  · rw [z, show 33 + (5 * r + 1) = 34 + 5 * r by omega, show 2 + (5 * r + 1) = 2 + 5 * r + 1 by omega, x1, a1]; exact byte_nat (by omega)
  · obtain ⟨l, hl⟩ : ∃ l : Nat, N.ln r = l := ⟨(N.ln r).toNat, by omega⟩
    rw [z, show 33 + (5 * r + 2) = 35 + 5 * r by omega, show 2 + (5 * r + 2) = 2 + 5 * r + 2 by omega, x2, a2, hl]; exact byte_nat (by omega)
  · obtain ⟨l, hl⟩ : ∃ l : Nat, N.gf r = l := ⟨(N.gf r).toNat, by omega⟩
    rw [z, show 33 + (5 * r + 3) = 36 + 5 * r by omega, show 2 + (5 * r + 3) = 2 + 5 * r + 3 by omega, x3, a3, hl]; exact byte_nat (by omega)
  · rw [z, show 33 + (5 * r + 4) = 37 + 5 * r by omega, show 2 + (5 * r + 4) = 2 + 5 * r + 4 by omega, x4, a4]
    by_cases y : N.rv r = -1
    · rw [if_pos y, y]; exact byte_m1
    · rw [if_neg y]
      obtain ⟨l, hl⟩ : ∃ l : Nat, N.rv r = l := ⟨(N.rv r).toNat, by omega⟩
      rw [hl]; exact byte_nat (by omega)
theorem r_image (hN : NetR M 100 N) (hW : Wf N) {Q : Int → Mem → Prop} (h : ∀ M' : Mem, (∀ c, c ≠ 95 → c ≠ 126 → M' c = M c) → (∀ j, j ≠ 48 → M' 95 j = M 95 j) → M' 95 48 = ((3 + 5 * N.R : Nat) : Int) → (∀ k, k < 2 + 5 * N.R → M' 126 k = imb N k) → M' 126 (2 + 5 * N.R) = chk (imb N) (2 + 5 * N.R) → Q ((3 + 5 * N.R : Nat) : Int) M') : f_X12_image M Q := by
  have hP := hW.1
  have hR := hW.2.1
  unfold f_X12_image
  refine r_places hN ?_
  rintro _ rfl
  refine r_reaches (hN.of (st_o (by omega))) ?_
  rintro _ rfl
  refine r_reaches (hN.of (by rw [st_o (by omega), st_o (by omega)])) ⟨by unfold inR; omega, ?_⟩
  rintro _ rfl
  obtain ⟨M1, hM1⟩ : ∃ M1 : Mem, M1 = st (st (st M 126 0 (N.P : Int)) 126 1 (N.R : Int)) 95 48 (2 + 5 * (N.R : Int)) := ⟨_, rfl⟩
  rw [← hM1]
  have e1 : ∀ c, c ≠ 95 → c ≠ 126 → M1 c = M c := fun c q1 q2 => by rw [hM1, st_o q1, st_o q2, st_o q2]
  have e2 : ∀ j, j ≠ 48 → M1 95 j = M 95 j := fun j hj => by rw [hM1, st_s, if_neg hj, st_o (by omega), st_o (by omega)]
  have e3 : M1 95 48 = ((2 + 5 * N.R : Nat) : Int) := by rw [hM1, st_s, if_pos rfl]; omega
  have e4 : M1 126 0 = N.P ∧ M1 126 1 = N.R := by
    rw [hM1, st_o (by omega), st_s, if_neg (by omega), st_s, if_pos rfl, st_s, if_pos rfl]
    exact ⟨rfl, rfl⟩
  refine jn_use (P := fun J => ∀ M2 : Mem, (∀ c, c ≠ 126 → M2 c = M1 c) → (∀ k, k < 2 + 5 * N.R → M2 126 k = imb N k) → J M2) ?_ ?_
  · intro M2 f1 f2
    have h48 : M2 95 48 = ((2 + 5 * N.R : Nat) : Int) := by rw [f1 95 (by omega)]; exact e3
    have hl : lenS (shp 126) = 153 := rfl
    refine r_last (m := 2 + 5 * N.R) (by omega) (by omega) (fun k hk => by rw [f2 k hk]; exact imb_in hW hk) h48 ?_
    rw [h48, chk_congr f2]
    refine ⟨by omega, ?_⟩
    rintro _ rfl
    rw [st_o (show 95 ≠ 126 by omega), h48]
    refine ⟨by unfold inR; omega, ?_⟩
    rintro _ rfl
    rw [tn, st_s, if_pos rfl, show ((2 + 5 * N.R : Nat) : Int) + 1 = ((3 + 5 * N.R : Nat) : Int) by omega]
    refine h _ (fun c q1 q2 => by rw [st_o q1, st_o q2, f1 c q2, e1 c q1 q2]) (fun j hj => by rw [st_s, if_neg hj, st_o (by omega), f1 95 (by omega), e2 j hj]) (by rw [st_s, if_pos rfl]) (fun k hk => by rw [st_o (by omega), st_s, if_neg (by omega)]; exact f2 k hk) (by rw [st_o (by omega), st_s, if_pos rfl])
  · intro J hJ
    refine wl2_inv (I := fun (v : Int) (M' : Mem) => ∃ k : Nat, v = k ∧ k ≤ 5 * N.R ∧ (∀ c, c ≠ 126 → M' c = M1 c) ∧ (∀ i, i < 2 + k → M' 126 i = imb N i)) (μ := fun (v : Int) (_ : Mem) => 5 * N.R - v.toNat) ?_ 5000 _ _ ⟨0, rfl, by omega, fun c _ => rfl, fun i hi => ?_⟩ (by simp; omega)
    rotate_left
    · have hi' : i = 0 ∨ i = 1 := by omega
      rcases hi' with z | z
      · rw [z]; exact e4.1
      · rw [z]; exact e4.2
    rintro rec v M' ⟨k, rfl, hk, g1, g2⟩ hrec
    unfold X12_image_b34
    have hN' : NetR M' 100 N := hN.of (by rw [g1 100 (by omega), e1 100 (by omega) (by omega)])
    refine r_reaches hN' ⟨by unfold inR; omega, fun d => hJ M' g1 (fun i hi => g2 i (by omega)), fun d => ⟨by omega, by omega, ?_⟩⟩
    rintro _ rfl
    refine ⟨by unfold inR; omega, ?_⟩
    rintro _ rfl
    rw [show (2 + (k : Int)).toNat = 2 + k by omega, show (33 + (k : Int)).toNat = 33 + k by omega, imb_raw hN' hW (by omega)]
    refine hrec _ _ ⟨k + 1, by omega, by omega, fun c hc => by rw [st_o hc]; exact g1 c hc, fun i hi => ?_⟩ (by omega)
    rw [st_s]
    by_cases z : i = 2 + k
    · rw [if_pos z, z]
    · rw [if_neg z]; exact g2 i (by omega)
theorem q_image (hS : StaF t M N n A F W H K) {Q : Int → Int → Mem → Prop} (h : ∀ (r : Int) (M2 : Mem), Sta (t + 1) M2 → Q r r M2) : f_X11_image M (fun r M1 => f_X12_image M1 (fun r2 M2 => Q r r2 M2)) := by
  obtain ⟨⟨c1, c2, c3, c4, c5⟩, h2, h3, ⟨o1, o2, o3, o4, o5⟩, h5, h6, -⟩ := id hS
  have hR := c3.1.2.1
  unfold f_X11_image
  refine x_write c1 c3.1 (fun M1 a1 a2 a3 a4 => ?_)
  rw [a2]
  refine r_image (c2.of (a1 100 (by omega) (by omega))) c3.1 (fun M2 b1 b2 b3 b4 b5 => ?_)
  have e : ∀ c, c ≠ 66 → c ≠ 67 → c ≠ 95 → c ≠ 126 → M2 c = M c := fun c q1 q2 q3 q4 => by rw [b1 c q3 q4, a1 c q1 q2]
  have e2 : ∀ j, j ≠ 48 → M2 95 j = M 95 j := fun j hj => by rw [b2 j hj, a1 95 (by omega) (by omega)]
  refine h _ _ (StaF.oth (M' := M2) (n' := n) hS (fun c hc => e c (by omega) (by omega) (by omega) (by omega)) (fun j hj => e2 j (by omega)) ⟨?_, fun i hi => ?_, ?_, ⟨?_, ?_, ?_, fun k hk => ?_⟩, ?_⟩ (h6.of (e 63 (by omega) (by omega) (by omega) (by omega)) (e 64 (by omega) (by omega) (by omega) (by omega)) (e 65 (by omega) (by omega) (by omega) (by omega)) (e2 38 (by omega)) (e 123 (by omega) (by omega) (by omega) (by omega)))).sta
  · unfold Tap at *
    rw [e 1 (by omega) (by omega) (by omega) (by omega), e 2 (by omega) (by omega) (by omega) (by omega), e 96 (by omega) (by omega) (by omega) (by omega), e2 1 (by omega)]; exact o1
  · rw [e 94 (by omega) (by omega) (by omega) (by omega), e 97 (by omega) (by omega) (by omega) (by omega)]; have := o2 i hi; omega
  · rw [e 3 (by omega) (by omega) (by omega) (by omega), e2 7 (by omega), e2 8 (by omega)]; exact o3
  · rw [b3, b1 66 (by omega) (by omega)]; exact a2
  · rw [b3]; omega
  · rw [b3]; omega
  · rw [b3] at hk
    rw [b1 67 (by omega) (by omega)]
    rcases Nat.lt_or_ge k (2 + 5 * N.R) with z | z
    · rw [a3 k z, b4 k z]
    · rw [show k = 2 + 5 * N.R by omega, a4, b5]
  · unfold Own at *
    rw [e 98 (by omega) (by omega) (by omega) (by omega)]; exact o5
end
