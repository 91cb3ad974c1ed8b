/-! the tape: feed, end; octet -/
theorem tb_byte (a : Int) {i : Nat} (hi : i < 8) : tb (bByte a) i = tb a i := by
  unfold bByte
  rw [tb_toInt]
  unfold tb bt
  rw [Int8.toBitVec_toInt32, Int32.toBitVec_toInt8, BitVec.getLsbD_signExtend, BitVec.getLsbD_signExtend]
  have h1 : i < 32 := by omega
  simp [hi, h1]
theorem tb_255 : ∀ i, i < 32 → tb 255 i = decide (i < 8) := by decide +kernel
theorem and_byte (a : Int) : bAnd (bByte a) 255 = bAnd a 255 := by
  refine tb_ext (bAnd_in _ _) (bAnd_in _ _) (fun i hi => ?_)
  rw [tb_and, tb_and, tb_255 i hi]
  by_cases z : i < 8
  · rw [tb_byte a z]
  · simp [z]
theorem byte_in (a : Int) : 0 ≤ bAnd a 255 ∧ bAnd a 255 ≤ 255 := by
  obtain ⟨n, hn⟩ : ∃ n, n = (Int32.ofInt (bAnd a 255)).toBitVec.toNat := ⟨_, rfl⟩
  have ht : ∀ i, n.testBit i = tb (bAnd a 255) i := fun i => by rw [hn]; rfl
  have hlt : n < 2 ^ 8 := by
    apply Nat.lt_pow_two_of_testBit
    intro i hi
    rw [ht, tb_and]
    rcases Nat.lt_or_ge i 32 with z | z
    · rw [tb_255 i z]
      have : ¬ i < 8 := by omega
      simp [this]
    · rw [tb_big z]; simp
  have e : bAnd a 255 = (n : Int) := by
    refine tb_ext (bAnd_in _ _) (by unfold inR; omega) (fun i hi => ?_)
    rw [tb_nat, ht]; simp [hi]
  rw [e]; omega
theorem byte_nat {a : Nat} (h : a < 256) : bAnd (a : Int) 255 = (a : Int) := by
  have e := bAnd_nat (a := a) (b := 255) (by omega)
  rw [show ((255 : Nat) : Int) = 255 from rfl, show (255 : Nat) = 2 ^ 8 - 1 from rfl, Nat.and_two_pow_sub_one_eq_mod] at e
  rw [e]
  omega
theorem byte_m1 : bAnd (-1) 255 = 255 := by decide +kernel
section
variable {M : Mem} {N : Nt} {t n A F W : Nat} {H : Nat → Nt} {K : Nat → Nat → Int}
theorem StaF.tape {M' : Mem} (h : StaF t M N n A F W H K) (e : ∀ c, c ≠ 1 → c ≠ 2 → c ≠ 95 → c ≠ 96 → M' c = M c) (e2 : ∀ j, j ≠ 1 → M' 95 j = M 95 j) (hT : Tap M') : StaF (t + 1) M' N n A F W H K := by
  obtain ⟨h1, h2, h3, h4, h5, h6, h7, h8, h9, h10⟩ := h
  have hr : ∀ (r : Nat) (k : Int), rk M' r 0 k = rk M r 0 k := fun r k => rk_of (fun c _ _ => e c (by omega) (by omega) (by omega) (by omega))
  refine ⟨?_, ?_, ?_, ⟨hT, fun i hi => ?_, ?_, ?_, ?_⟩, ?_, h6.of (e 63 (by omega) (by omega) (by omega) (by omega)) (e 64 (by omega) (by omega) (by omega) (by omega)) (e 65 (by omega) (by omega) (by omega) (by omega)) (e2 38 (by omega)) (e 123 (by omega) (by omega) (by omega) (by omega)), h7.of (e 58 (by omega) (by omega) (by omega) (by omega)) (e 59 (by omega) (by omega) (by omega) (by omega)), h8.of (e2 41 (by omega)) (e2 42 (by omega)) (e 124 (by omega) (by omega) (by omega) (by omega)), ?_, ?_⟩
  · obtain ⟨c1, c2, c3, c4, c5⟩ := h1
    exact ⟨c1.of (fun c _ _ => e c (by omega) (by omega) (by omega) (by omega)), c2.of (e 100 (by omega) (by omega) (by omega) (by omega)), c3, c4.of (fun c _ _ => e c (by omega) (by omega) (by omega) (by omega)), fun z => (c5 (by rw [← e2 15 (by omega)]; exact z)).of c3.1 (fun c _ _ => e c (by omega) (by omega) (by omega) (by omega))⟩
  · unfold Riv at *
    rw [e 0 (by omega) (by omega) (by omega) (by omega), e 100 (by omega) (by omega) (by omega) (by omega)]; exact h2
  · unfold Nms at *
    rw [e 18 (by omega) (by omega) (by omega) (by omega), e 19 (by omega) (by omega) (by omega) (by omega), e 100 (by omega) (by omega) (by omega) (by omega)]; exact h3
  · have := h4.2.1 i hi
    rw [e 94 (by omega) (by omega) (by omega) (by omega), e 97 (by omega) (by omega) (by omega) (by omega)]; omega
  · rw [e 3 (by omega) (by omega) (by omega) (by omega), e2 7 (by omega), e2 8 (by omega)]; exact h4.2.2.1
  · have := h4.2.2.2.1
    unfold Img at *
    rw [e 66 (by omega) (by omega) (by omega) (by omega), e 67 (by omega) (by omega) (by omega) (by omega), e2 48 (by omega), e 126 (by omega) (by omega) (by omega) (by omega)]; exact this
  · have := h4.2.2.2.2
    unfold Own at *
    rw [e 98 (by omega) (by omega) (by omega) (by omega)]; exact this
  · unfold Sed at *
    rw [e 0 (by omega) (by omega) (by omega) (by omega), e2 46 (by omega)]; exact h5
  · unfold Hcm at *
    rw [e 100 (by omega) (by omega) (by omega) (by omega)]; exact h9
  · unfold Chg at *
    rw [e 60 (by omega) (by omega) (by omega) (by omega), e 61 (by omega) (by omega) (by omega) (by omega), e 125 (by omega) (by omega) (by omega) (by omega), e2 43 (by omega), e2 44 (by omega)]
    simp only [hr]
    exact h10
theorem x_put {T : Nat} {v : Int} (hT : M 1 1 = T) (h4 : T + 4 ≤ 1600) {Q : Mem → Prop} (h : ∀ M' : Mem, (∀ c, c ≠ 1 → c ≠ 2 → M' c = M c) → M' 1 1 = ((T + 4 : Nat) : Int) → (∀ k, M' 2 k = if T ≤ k ∧ k < T + 4 then bByte (bShr v ((24 - 8 * (k - T) : Nat) : Int)) else M 2 k) → Q M') : f_X10_put v M Q := by
  unfold f_X10_put
  refine wl2_inv (I := fun (s : Int) (M' : Mem) => ∃ i : Nat, i ≤ 4 ∧ s = 24 - 8 * (i : Int) ∧ (∀ c, c ≠ 1 → c ≠ 2 → M' c = M c) ∧ M' 1 1 = ((T + i : Nat) : Int) ∧ (∀ k, M' 2 k = if T ≤ k ∧ k < T + i then bByte (bShr v ((24 - 8 * (k - T) : Nat) : Int)) else M 2 k)) (μ := fun (s : Int) (_ : Mem) => (s + 8).toNat) ?_ 5000 _ _ ⟨0, by omega, rfl, fun c _ _ => rfl, hT, fun k => by rw [if_neg (by omega)]⟩ (by simp)
  rintro rec s M' ⟨i, hi, rfl, g1, g2, g3⟩ hrec
  unfold X10_put_b3
  rw [g2]
  refine ⟨fun c => ?_, fun c => ⟨fun c1 => by omega, fun c1 => ⟨by omega, ?_⟩⟩⟩
  · rw [show i = 4 by omega] at g2 g3
    exact h M' g1 g2 g3
  · rintro _ rfl
    rw [st_o (show 1 ≠ 2 by omega), g2, tn]
    refine ⟨by unfold inR; omega, ?_⟩
    rintro _ rfl
    refine ⟨by unfold inR; omega, ?_⟩
    rintro _ rfl
    refine hrec _ _ ⟨i + 1, by omega, by omega, fun c q1 q2 => by rw [st_o q1, st_o q2]; exact g1 c q1 q2, by rw [st_s, if_pos rfl]; omega, fun k => ?_⟩ (by omega)
    rw [st_o (show 2 ≠ 1 by omega), st_s, g3 k]
    by_cases z : k = T + i
    · rw [if_pos z, if_pos (by omega), show ((24 - 8 * (k - T) : Nat) : Int) = 24 - 8 * (i : Int) by omega]
    · rw [if_neg z]
      by_cases y : T ≤ k ∧ k < T + i
      · rw [if_pos y, if_pos (by omega)]
      · rw [if_neg y, if_neg (by omega)]
theorem q_feed {a b c d e : Int} (hS : StaF t M N n A F W H K) (ht : t ≤ 1000) {Q : Int → Int → Mem → Prop} (h : ∀ (r : Int) (M2 : Mem), Sta (t + 1) M2 → Q r r M2) : f_X11_feed a b c d e M (fun r M1 => f_X12_feed a b c d e M1 (fun r2 M2 => Q r r2 M2)) := by
  obtain ⟨r1, r2, r3⟩ := hS.refuse (k := 0) (by omega) ht
  obtain ⟨t1, t2, t3, t4⟩ := hS.2.2.2.1.1
  obtain ⟨T, hT⟩ : ∃ T : Nat, M 1 1 = T := ⟨(M 1 1).toNat, by omega⟩
  have hT95 : M 95 1 = T := by rw [← t1]; exact hT
  unfold f_X11_feed f_X10_hasRoom
  rw [hT]
  refine ⟨by unfold inR; omega, fun z => ⟨fun y => absurd rfl y, fun _ => x_refuse (k := 0) rfl (by omega) r2 ?_⟩, fun z => ⟨fun _ => ?_, fun y => absurd y (by omega)⟩⟩
  · unfold f_X12_feed
    have e95 : st M 94 0 (M 94 0 + 1) 95 1 = T := by rw [st_o (by omega)]; exact hT95
    exact ⟨by rw [e95]; unfold inR; omega, fun y => by rw [e95] at y; omega, fun _ => r_refuses (k := 0) rfl (by omega) r3 (h _ _ r1.sta)⟩
  · refine x_put hT (by omega) (fun M1 a1 a2 a3 => x_put a2 (by omega) (fun M2 b1 b2 b3 => x_put b2 (by omega) (fun M3 d1 d2 d3 => x_put d2 (by omega) (fun M4 f1 f2 f3 => x_put f2 (by omega) (fun M5 g1 g2 g3 => ?_)))))
    have eM : ∀ q, q ≠ 1 → q ≠ 2 → M5 q = M q := fun q q1 q2 => by rw [g1 q q1 q2, f1 q q1 q2, d1 q q1 q2, b1 q q1 q2, a1 q q1 q2]
    have e95 : M5 95 1 = T := by rw [eM 95 (by omega) (by omega)]; exact hT95
    have g2' : M5 1 1 = ((T + 20 : Nat) : Int) := g2
    obtain ⟨w, hw⟩ : ∃ w : Nat → Int, w = fun j => if j < 4 then a else if j < 8 then b else if j < 12 then c else if j < 16 then d else e := ⟨_, rfl⟩
    have hb : ∀ j, j < 20 → bAnd (M5 2 (T + j)) 255 = bAnd (bShr (w j) ((8 * (3 - j % 4) : Nat) : Int)) 255 := fun j hj => by
      rw [g3, f3, d3, b3, a3, hw]
      dsimp only
      rcases Nat.lt_or_ge j 4 with y | y
      · rw [if_neg (by omega), if_neg (by omega), if_neg (by omega), if_neg (by omega), if_pos (by omega), if_pos y, and_byte, show 24 - 8 * (T + j - T) = 8 * (3 - j % 4) by omega]
      · rw [if_neg (show ¬ j < 4 by omega)]
        rcases Nat.lt_or_ge j 8 with y2 | y2
        · rw [if_neg (by omega), if_neg (by omega), if_neg (by omega), if_pos (by omega), if_pos y2, and_byte, show 24 - 8 * (T + j - (T + 4)) = 8 * (3 - j % 4) by omega]
        · rw [if_neg (show ¬ j < 8 by omega)]
          rcases Nat.lt_or_ge j 12 with y3 | y3
          · rw [if_neg (by omega), if_neg (by omega), if_pos (by omega), if_pos y3, and_byte, show 24 - 8 * (T + j - (T + 4 + 4)) = 8 * (3 - j % 4) by omega]
          · rw [if_neg (show ¬ j < 12 by omega)]
            rcases Nat.lt_or_ge j 16 with y4 | y4
            · rw [if_neg (by omega), if_pos (by omega), if_pos y4, and_byte, show 24 - 8 * (T + j - (T + 4 + 4 + 4)) = 8 * (3 - j % 4) by omega]
            · rw [if_neg (show ¬ j < 16 by omega), if_pos (by omega), and_byte, show 24 - 8 * (T + j - (T + 4 + 4 + 4 + 4)) = 8 * (3 - j % 4) by omega]
    have hold : ∀ k, k < T → M5 2 k = M 2 k := fun k hk => by rw [g3, if_neg (by omega), f3, if_neg (by omega), d3, if_neg (by omega), b3, if_neg (by omega), a3, if_neg (by omega)]
    unfold f_X12_feed
    dsimp only
    rw [e95]
    refine ⟨by unfold inR; omega, fun _ => ?_, fun y => by omega⟩
    refine wl2_inv (I := fun (v : Int) (M' : Mem) => ∃ j : Nat, v = j ∧ j ≤ 20 ∧ (∀ q, q ≠ 95 → q ≠ 96 → M' q = M5 q) ∧ (∀ q, q ≠ 1 → M' 95 q = M5 95 q) ∧ M' 95 1 = ((T + j : Nat) : Int) ∧ (∀ k, k < T → M' 96 k = M5 96 k) ∧ (∀ i, i < j → M' 96 (T + i) = bAnd (bShr (w i) ((8 * (3 - i % 4) : Nat) : Int)) 255)) (μ := fun (v : Int) (_ : Mem) => 20 - v.toNat) ?_ 5000 _ _ ⟨0, rfl, by omega, fun q _ _ => rfl, fun q _ => rfl, e95, fun k _ => rfl, fun i hi => by omega⟩ (by simp)
    rintro rec v M' ⟨j, rfl, hj, k1, k2, k3, k4, k5⟩ hrec
    unfold X12_feed_b22
    rw [k3]
    refine ⟨fun y => ?_, fun y => ?_⟩
    · rw [show j = 20 by omega] at k3 k5 ⊢
      rw [g2']
      refine h _ _ (StaF.tape (M' := M') hS (fun q q1 q2 q3 q4 => by rw [k1 q q3 q4, eM q q1 q2]) (fun q hq => by rw [k2 q hq, eM 95 (by omega) (by omega)]) ⟨?_, ?_, ?_, fun k hk => ?_⟩).sta
      · rw [k1 1 (by omega) (by omega), g2', k3]
      · rw [k1 1 (by omega) (by omega), g2']; omega
      · rw [k1 1 (by omega) (by omega), g2']; omega
      · rw [k1 1 (by omega) (by omega), g2'] at hk
        rw [k1 2 (by omega) (by omega)]
        rcases Nat.lt_or_ge k T with u | u
        · rw [hold k u, k4 k u, eM 96 (by omega) (by omega)]
          exact t4 k (by omega)
        · obtain ⟨i, rfl⟩ : ∃ i, k = T + i := ⟨k - T, by omega⟩
          rw [hb i (by omega), k5 i (by omega)]
          exact ⟨rfl, byte_in _⟩
    · refine jn_use (P := fun J => J (w j)) ?_ ?_
      · refine ⟨by omega, ?_⟩
        rintro _ rfl
        rw [st_o (show 95 ≠ 96 by omega), k3, tn]
        refine ⟨by unfold inR; omega, ?_⟩
        rintro _ rfl
        refine ⟨by unfold inR; omega, ?_⟩
        rintro _ rfl
        refine hrec _ _ ⟨j + 1, by omega, by omega, fun q q1 q2 => by rw [st_o q1, st_o q2]; exact k1 q q1 q2, fun q hq => by rw [st_s, if_neg hq, st_o (by omega)]; exact k2 q hq, by rw [st_s, if_pos rfl]; omega, fun k hk => by rw [st_o (by omega), st_s, if_neg (by omega)]; exact k4 k hk, fun i hi => ?_⟩ (by omega)
        rw [st_o (by omega), st_s]
        by_cases u : i = j
        · rw [if_pos (by omega), u, Int.tmod_eq_emod_of_nonneg (by omega), show 8 * (3 - (j : Int) % 4) = ((8 * (3 - j % 4) : Nat) : Int) by omega]
        · rw [if_neg (by omega)]; exact k5 i (by omega)
      · intro J hJ
        rw [hw] at hJ
        dsimp only at hJ
        refine ⟨fun u1 => ⟨fun u2 => ⟨fun u3 => ⟨fun u4 => ?_, fun u4 => ?_⟩, fun u3 => ?_⟩, fun u2 => ?_⟩, fun u1 => ?_⟩
        · rw [if_neg (by omega), if_neg (by omega), if_neg (by omega), if_neg (by omega)] at hJ; exact hJ
        · rw [if_neg (by omega), if_neg (by omega), if_neg (by omega), if_pos (by omega)] at hJ; exact hJ
        · rw [if_neg (by omega), if_neg (by omega), if_pos (by omega)] at hJ; exact hJ
        · rw [if_neg (by omega), if_pos (by omega)] at hJ; exact hJ
        · rw [if_pos (by omega)] at hJ; exact hJ
theorem q_end {a : Int} (hS : StaF t M N n A F W H K) (ht : t ≤ 1000) {Q : Int → Int → Mem → Prop} (h : ∀ (r : Int) (M2 : Mem), Sta (t + 1) M2 → Q r r M2) : f_X11_end a M (fun r M1 => f_X12_end a M1 (fun r2 M2 => Q r r2 M2)) := by
  obtain ⟨r1, r2, r3⟩ := hS.refuse (k := 0) (by omega) ht
  obtain ⟨t1, t2, t3, t4⟩ := hS.2.2.2.1.1
  have e95 : st M 94 0 (M 94 0 + 1) 95 1 = M 1 1 := by rw [st_o (by omega), t1]
  have hbad : ¬ (0 ≤ a ∧ a ≤ M 1 1) → f_X11_refuse 0 M (fun r M1 => f_X12_end a M1 (fun r2 M2 => Q 0 r2 M2)) := fun hh => x_refuse (k := 0) rfl (by omega) r2 (by
    unfold f_X12_end
    refine jn_use (P := fun J => J (st M 94 0 (M 94 0 + 1))) (r_isRefused (k := 0) rfl (by omega) r3 (h _ _ r1.sta)) (fun J hJ => ⟨fun _ => hJ, fun z => ⟨fun y => ?_, fun _ => hJ⟩⟩)
    rw [e95] at y
    exact absurd ⟨by omega, y⟩ hh)
  unfold f_X11_end
  refine jn_use (P := fun J => ¬ (0 ≤ a ∧ a ≤ M 1 1) → J M) hbad (fun J hJ => ⟨fun z => hJ (by omega), fun z => ⟨fun y => ?_, fun y => hJ (by omega)⟩⟩)
  rintro _ rfl
  unfold f_X12_end
  refine jn_use (P := fun _ => True) trivial (fun J' _ => ⟨fun u => absurd u z, fun _ => ⟨fun u => ?_, fun u => absurd (by rw [st_o (show 95 ≠ 1 by omega), ← t1]; exact y) u⟩⟩)
  rintro _ rfl
  refine h _ _ (StaF.tape (M' := st (st M 1 1 a) 95 1 a) hS (fun q q1 q2 q3 q4 => by rw [st_o q3, st_o q1]) (fun q hq => by rw [st_s, if_neg hq, st_o (by omega)]) ⟨?_, ?_, ?_, fun k hk => ?_⟩).sta
  · rw [st_o (by omega), st_s, if_pos rfl, st_s, if_pos rfl]
  · rw [st_o (by omega), st_s, if_pos rfl]; omega
  · rw [st_o (by omega), st_s, if_pos rfl]; omega
  · rw [st_o (by omega), st_s, if_pos rfl] at hk
    rw [st_o (show 2 ≠ 95 by omega), st_o (show 2 ≠ 1 by omega), st_o (show 96 ≠ 95 by omega), st_o (show 96 ≠ 1 by omega)]
    exact t4 k (by omega)
theorem q_octet {a : Int} (hS : StaF t M N n A F W H K) {Q : Int → Int → Prop} (h : ∀ r : Int, Q r r) : f_X11_octet a M (fun r => f_X12_octet a M (fun r2 => Q r r2)) := by
  obtain ⟨i1, i2, i3, i4⟩ := hS.2.2.2.1.2.2.2.1
  have hbad : ¬ (0 ≤ a ∧ a < M 95 48) → f_X12_octet a M (fun r2 => Q (-1) r2) := fun hh => by
    unfold f_X12_octet
    exact ⟨by unfold inR; omega, r_isIn (fun z1 z2 => absurd ⟨z1, by omega⟩ hh) (fun _ => ⟨fun _ => h _, fun z => absurd rfl z⟩)⟩
  unfold f_X11_octet
  rw [i1]
  refine ⟨fun c => hbad (by omega), fun c => ⟨fun c1 => hbad (by omega), fun c1 => ⟨by omega, ?_⟩⟩⟩
  unfold f_X12_octet
  refine ⟨by unfold inR; omega, r_isIn (fun z1 z2 => ⟨fun z => absurd z (by omega), fun _ => ⟨by omega, ?_⟩⟩) (fun z => by omega)⟩
  rw [i4 a.toNat (by omega)]
  exact h _
end
