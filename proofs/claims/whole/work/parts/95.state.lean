/-! the state of both, and acts -/
def NetF (f : Nat → Int) (N : Nt) : Prop := f 0 = N.P ∧ f 1 = N.R ∧ ∀ r, r < N.R → f (33 + 5 * r) = N.hd r ∧ f (34 + 5 * r) = N.ft r ∧ f (35 + 5 * r) = N.ln r ∧ f (36 + 5 * r) = N.gf r ∧ f (37 + 5 * r) = N.rv r
def Riv (M : Mem) (N : Nt) : Prop := M 0 5 = M 100 2 ∧ 0 ≤ M 100 2 ∧ M 100 2 ≤ 10 ∧ ∀ r, r < N.R → N.rv r < M 100 2
def Nms (M : Mem) (N : Nt) : Prop := (∀ p, p < N.P → Nm (M 18 p) (M 100 (3 + p))) ∧ ∀ v : Nat, (v : Int) < M 100 2 → Nm (M 19 v) (M 100 (23 + v))
def Tap (M : Mem) : Prop := M 1 1 = M 95 1 ∧ 0 ≤ M 1 1 ∧ M 1 1 ≤ 1600 ∧ ∀ k : Nat, (k : Int) < M 1 1 → bAnd (M 2 k) 255 = M 96 k ∧ 0 ≤ M 96 k ∧ M 96 k ≤ 255
def Rfs (t : Nat) (M : Mem) : Prop := ∀ i, i < 6 → M 94 i = M 97 i ∧ 0 ≤ M 94 i ∧ M 94 i ≤ t
def Sed (M : Mem) : Prop := M 0 16 = M 95 46 ∧ 0 ≤ M 95 46 ∧ M 95 46 ≤ 2147483647
def Img (M : Mem) : Prop := M 66 0 = M 95 48 ∧ 0 ≤ M 95 48 ∧ M 95 48 ≤ 153 ∧ ∀ k : Nat, (k : Int) < M 95 48 → M 67 k = M 126 k
def Hcm (M : Mem) (N : Nt) (A : Nat) (H : Nat → Nt) (K : Nat → Nat → Int) : Prop := ∀ j, j < A → Good (H j) ∧ (∀ r, r < (H j).R → (H j).rv r < M 100 2) ∧ (H j).P ≤ N.P ∧ (∀ i, i < j → (H j).P ≤ (H i).P) ∧ NetF (K j) (H j) ∧ K j 2 = M 100 2 ∧ (∀ p, p < (H j).P → K j (3 + p) = M 100 (3 + p)) ∧ ∀ v, v < 10 → K j (23 + v) = M 100 (23 + v)
def ownW : List Int := [112, 108, 97, 99, 101, 115, 32, 114, 101, 97, 99, 104, 32, 116, 111, 32, 108, 111, 110, 103, 32, 121, 105, 101, 108, 100, 115, 32, 99, 97, 108, 108, 101, 100, 32]
def Own (M : Mem) : Prop := ∀ k, k < 35 → M 98 k = ownW.getD k 0
/-- what no act touches: the tape, refusals, faults, the seed, images, own words -/
def Oth (t : Nat) (M : Mem) : Prop := Tap M ∧ Rfs t M ∧ (M 3 4 = M 95 7 ∧ M 3 5 = M 95 8) ∧ Img M ∧ Own M
def StaF (t : Nat) (M : Mem) (N : Nt) (n A F W : Nat) (H : Nat → Nt) (K : Nat → Nat → Int) : Prop := Core M N ∧ Riv M N ∧ Nms M N ∧ Oth t M ∧ Sed M ∧ SeenS M n ∧ HstX M A F H ∧ HstR M A W K ∧ Hcm M N A H K ∧ Chg M N
def Sta (t : Nat) (M : Mem) : Prop := ∃ N n A F W H K, StaF t M N n A F W H K
theorem Oth.of {t : Nat} {M M' : Mem} (h : Oth t M) (e : ∀ c, (c = 1 ∨ c = 2 ∨ c = 3 ∨ c = 66 ∨ c = 67 ∨ c = 94 ∨ (96 ≤ c ∧ c ≤ 98) ∨ c = 126) → M' c = M c) (e2 : ∀ j, (j = 1 ∨ j = 7 ∨ j = 8 ∨ j = 48) → M' 95 j = M 95 j) : Oth t M' := by
  unfold Oth Tap Rfs Img Own at *
  rw [e 1 (by omega), e 2 (by omega), e 3 (by omega), e 66 (by omega), e 67 (by omega), e 94 (by omega), e 96 (by omega), e 97 (by omega), e 98 (by omega), e 126 (by omega), e2 1 (by omega), e2 7 (by omega), e2 8 (by omega), e2 48 (by omega)]
  exact h
theorem Oth.more {t : Nat} {M : Mem} (h : Oth t M) : Oth (t + 1) M := ⟨h.1, fun i hi => by have := h.2.1 i hi; omega, h.2.2⟩
theorem HstX.of {M M' : Mem} {A F : Nat} {H : Nat → Nt} (h : HstX M A F H) (e1 : M' 58 = M 58) (e2 : M' 59 = M 59) : HstX M' A F H := by
  unfold HstX HisX at *
  rw [e1, e2]
  exact h
theorem HstR.of {M M' : Mem} {A W : Nat} {K : Nat → Nat → Int} (h : HstR M A W K) (e1 : M' 95 41 = M 95 41) (e2 : M' 95 42 = M 95 42) (e3 : M' 124 = M 124) : HstR M' A W K := by
  unfold HstR at *
  rw [e1, e2, e3]
  exact h
section
variable {M : Mem} {N : Nt} {t n A F W : Nat} {H : Nat → Nt} {K : Nat → Nat → Int}
/-- a question leaves the state -/
theorem StaF.qf {M' : Mem} (h : StaF t M N n A F W H K) (hq : Qf M M') (hC : Core M' N) : StaF (t + 1) M' N n A F W H K := by
  obtain ⟨-, h2, h3, h4, h5, h6, h7, h8, h9, h10⟩ := h
  have e : ∀ c, c ≠ 95 → ¬ (68 ≤ c ∧ c ≤ 93) → ¬ (101 ≤ c ∧ c ≤ 122) → M' c = M c := hq.1
  refine ⟨hC, ?_, ?_, (h4.of (fun c hc => e c (by omega) (by omega) (by omega)) (fun j hj => hq.2 j (by omega))).more, ?_, h6.qf hq, h7.of (e 58 (by omega) (by omega) (by omega)) (e 59 (by omega) (by omega) (by omega)), h8.of (hq.2 41 (by omega)) (hq.2 42 (by omega)) (e 124 (by omega) (by omega) (by omega)), ?_, ?_⟩
  · unfold Riv at *
    rw [e 0 (by omega) (by omega) (by omega), e 100 (by omega) (by omega) (by omega)]; exact h2
  · unfold Nms at *
    rw [e 18 (by omega) (by omega) (by omega), e 19 (by omega) (by omega) (by omega), e 100 (by omega) (by omega) (by omega)]; exact h3
  · unfold Sed at *
    rw [e 0 (by omega) (by omega) (by omega), hq.2 46 (by omega)]; exact h5
  · unfold Hcm at *
    rw [e 100 (by omega) (by omega) (by omega)]; exact h9
  · unfold Chg at *
    rw [e 60 (by omega) (by omega) (by omega), e 61 (by omega) (by omega) (by omega), e 125 (by omega) (by omega) (by omega), hq.2 43 (by omega), hq.2 44 (by omega)]
    have hr : ∀ (r : Nat) (k : Int), rk M' r 0 k = rk M r 0 k := fun r k => rk_of (fun c _ _ => e c (by omega) (by omega) (by omega))
    simp only [hr]
    exact h10
/-- one more refusal on both sides -/
theorem StaF.refuse {k : Nat} (hk : k < 6) (ht : t ≤ 1000) (h : StaF t M N n A F W H K) : StaF (t + 1) (st (st M 94 k (M 94 k + 1)) 97 k (M 97 k + 1)) N n A F W H K ∧ (0 ≤ M 94 k ∧ M 94 k ≤ 1000) ∧ (0 ≤ M 97 k ∧ M 97 k ≤ 1000) := by
  obtain ⟨h1, h2, h3, h4, h5, h6, h7, h8, h9, h10⟩ := h
  obtain ⟨M', hM⟩ : ∃ M' : Mem, M' = st (st M 94 k (M 94 k + 1)) 97 k (M 97 k + 1) := ⟨_, rfl⟩
  have e : ∀ c, c ≠ 94 → c ≠ 97 → M' c = M c := fun c q1 q2 => by rw [hM, st_o q2, st_o q1]
  rw [← hM]
  have hr : ∀ (r : Nat) (k : Int), rk M' r 0 k = rk M r 0 k := fun r k => rk_of (fun c _ _ => e c (by omega) (by omega))
  have hk' := h4.2.1 k hk
  refine ⟨⟨?_, ?_, ?_, ⟨?_, fun i hi => ?_, ?_, ?_, ?_⟩, ?_, h6.of (e 63 (by omega) (by omega)) (e 64 (by omega) (by omega)) (e 65 (by omega) (by omega)) (by rw [e 95 (by omega) (by omega)]) (e 123 (by omega) (by omega)), h7.of (e 58 (by omega) (by omega)) (e 59 (by omega) (by omega)), h8.of (by rw [e 95 (by omega) (by omega)]) (by rw [e 95 (by omega) (by omega)]) (e 124 (by omega) (by omega)), ?_, ?_⟩, by omega, by omega⟩
  · obtain ⟨c1, c2, c3, c4, c5⟩ := h1
    exact ⟨c1.of (fun c _ _ => e c (by omega) (by omega)), c2.of (e 100 (by omega) (by omega)), c3, c4.of (fun c _ _ => e c (by omega) (by omega)), fun z => (c5 (by rw [← e 95 (by omega) (by omega)]; exact z)).of c3.1 (fun c _ _ => e c (by omega) (by omega))⟩
  · unfold Riv at *
    rw [e 0 (by omega) (by omega), e 100 (by omega) (by omega)]; exact h2
  · unfold Nms at *
    rw [e 18 (by omega) (by omega), e 19 (by omega) (by omega), e 100 (by omega) (by omega)]; exact h3
  · have := h4.1
    unfold Tap at *
    rw [e 1 (by omega) (by omega), e 2 (by omega) (by omega), e 95 (by omega) (by omega), e 96 (by omega) (by omega)]; exact this
  · have hi' := h4.2.1 i hi
    rw [hM, st_o (show 94 ≠ 97 by omega), st_s, st_s, st_o (show 97 ≠ 94 by omega)]
    by_cases z : i = k
    · rw [if_pos z, if_pos z]; omega
    · rw [if_neg z, if_neg z]; omega
  · rw [e 3 (by omega) (by omega), e 95 (by omega) (by omega)]; exact h4.2.2.1
  · have := h4.2.2.2.1
    unfold Img at *
    rw [e 66 (by omega) (by omega), e 67 (by omega) (by omega), e 95 (by omega) (by omega), e 126 (by omega) (by omega)]; exact this
  · have := h4.2.2.2.2
    unfold Own at *
    rw [e 98 (by omega) (by omega)]; exact this
  · unfold Sed at *
    rw [e 0 (by omega) (by omega), e 95 (by omega) (by omega)]; exact h5
  · unfold Hcm at *
    rw [e 100 (by omega) (by omega)]; exact h9
  · unfold Chg at *
    rw [e 60 (by omega) (by omega), e 61 (by omega) (by omega), e 95 (by omega) (by omega), e 125 (by omega) (by omega)]
    simp only [hr]
    exact h10
/-- what the class has done at the end of an act from N to N' -/
def MidX (M0 M3 : Mem) (N N' : Nt) (A : Nat) (H : Nat → Nt) (s : Int) : Prop := (∀ c, c ≠ 0 → ¬ (12 ≤ c ∧ c ≤ 18) → ¬ (20 ≤ c ∧ c ≤ 62) → M3 c = M0 c) ∧ (∀ j, j ≠ 16 → M3 0 j = M0 0 j) ∧ NetX M3 12 N' ∧ Good N' ∧ AllX M3 N' ∧ (∃ A' F', A' = (if A = 20 then 20 else A + 1) ∧ HstX M3 A' F' (pshX N H)) ∧ M3 60 0 = 1 ∧ (∀ k : Nat, k < 4 → M3 61 k = (cnt (fun r => decide (rk M3 r 0 k ≠ rk M0 r 0 k)) (min N.R N'.R) : Int)) ∧ (∀ p, p < N.P → M3 18 p = M0 18 p) ∧ (∀ p, N.P ≤ p → p < N'.P → M3 18 p = 0) ∧ N.P ≤ N'.P ∧ M3 0 16 = s
theorem act_class {N' : Nt} {s : Int} (hS : StaF t M N n A F W H K) {B : Mem → (Mem → Prop) → Prop} {Q : Mem → Prop} (hG' : Good N') (hPP : N.P ≤ N'.P) (hB : ∀ (M1 : Mem) (Q1 : Mem → Prop), NetX M1 12 N → M1 0 16 = M 0 16 → (∀ M2 : Mem, (∀ c, c ≠ 0 → ¬ (12 ≤ c ∧ c ≤ 18) → M2 c = M1 c) → (∀ j, j ≠ 16 → M2 0 j = M1 0 j) → NetX M2 12 N' → (∀ p, p < N.P → M2 18 p = M1 18 p) → (∀ p, N.P ≤ p → p < N'.P → M2 18 p = 0) → M2 0 16 = s → Q1 M2) → B M1 Q1) (h : ∀ M3 : Mem, MidX M M3 N N' A H s → Q M3) : f_X11_beginAct M (fun M1 => B M1 (fun M2 => f_X11_endAct M2 Q)) := by
  obtain ⟨⟨c1, c2, c3, c4, c5⟩, h2, h3, h4, h5, h6, h7, h8, h9, h10⟩ := hS
  have hR := c3.1.2.1
  refine x_beginAct c1 c3 c4 h7 (fun M1 A' F' a1 a2 a3 a4 a5 a6 => ?_)
  refine hB M1 _ (c1.of (fun c _ _ => a1 c (by omega) (by omega) (by omega) (by omega))) (by rw [a1 0 (by omega) (by omega) (by omega) (by omega)]) (fun M2 b1 b2 b3 b4 b5 b6 => ?_)
  refine x_endAct (a := N.R) (R0 := M2 62) b3 hG' (by rw [b1 60 (by omega) (by omega)]; exact a3) hR rfl (fun M3 d1 d2 d3 d4 => h M3 ⟨fun c q0 q1 q2 => ?_, fun j hj => ?_, ?_, hG', d3, ⟨A', F', a5, ?_⟩, d2, fun k hk => ?_, fun p hp => ?_, fun p hp1 hp2 => ?_, hPP, ?_⟩)
  · rw [d1 c (by omega) (by omega) (by omega), b1 c q0 q1, a1 c (by omega) (by omega) (by omega) (by omega)]
  · rw [d1 0 (by omega) (by omega) (by omega), b2 j hj, a1 0 (by omega) (by omega) (by omega) (by omega)]
  · exact b3.of (fun c _ _ => d1 c (by omega) (by omega) (by omega))
  · exact a6.of (by rw [d1 58 (by omega) (by omega) (by omega), b1 58 (by omega) (by omega)]) (by rw [d1 59 (by omega) (by omega) (by omega), b1 59 (by omega) (by omega)])
  · rw [d4 k hk]
    congr 1
    refine cnt_congr (fun r hr => ?_)
    rw [b1 62 (by omega) (by omega), a4 k r hk (by omega)]
  · rw [d1 18 (by omega) (by omega) (by omega), b4 p hp, a1 18 (by omega) (by omega) (by omega) (by omega)]
  · rw [d1 18 (by omega) (by omega) (by omega)]; exact b5 p hp1 hp2
  · rw [d1 0 (by omega) (by omega) (by omega)]; exact b6
/-- the reference's act behind the class's -/
theorem act_ref {M3 : Mem} {N' : Nt} {s : Int} (hS : StaF t M N n A F W H K) (hM : MidX M M3 N N' A H s) (hrv : ∀ r, r < N'.R → N'.rv r < M 100 2) {B : Mem → (Mem → Prop) → Prop} {Q : Mem → Prop} (hB : ∀ (M4 : Mem) (Q1 : Mem → Prop), NetR M4 100 N → M4 95 46 = M 95 46 → M4 100 2 = M 100 2 → (∀ M5 : Mem, (∀ c, c ≠ 100 → c ≠ 95 → M5 c = M4 c) → (∀ j, j ≠ 15 → j ≠ 46 → M5 95 j = M4 95 j) → M5 95 15 = 0 → NetR M5 100 N' → M5 100 2 = M4 100 2 → (∀ p, p < N.P → M5 100 (3 + p) = M4 100 (3 + p)) → (∀ p, N.P ≤ p → p < N'.P → M5 100 (3 + p) = 0) → (∀ v, v < 10 → M5 100 (23 + v) = M4 100 (23 + v)) → (s = M5 95 46 ∧ 0 ≤ M5 95 46 ∧ M5 95 46 ≤ 2147483647) → Q1 M5) → B M4 Q1) (h : ∀ (M5 : Mem), (∃ A' F' W' H' K', StaF (t + 1) M5 N' n A' F' W' H' K') → NetR M5 100 N' → Q M5) : f_X12_keeps M3 (fun M4 => B M4 Q) := by
  obtain ⟨⟨c1, c2, c3, c4, c5⟩, h2, h3, h4, h5, h6, h7, h8, h9, h10⟩ := hS
  obtain ⟨m1, m2, m3, m4, m5, ⟨A1, F1, m6, m7⟩, m8, m9, m10, m11, m12, m13⟩ := hM
  have e : ∀ c, 62 < c → M3 c = M c := fun c hc => m1 c (by omega) (by omega) (by omega)
  have hN3 : NetR M3 100 N := c2.of (e 100 (by omega))
  refine r_keeps (M0 := M) c4 hN3 c3 (fun z => (c5 (by rw [← e 95 (by omega)]; exact z)).of c3.1 (fun c _ _ => e c (by omega))) (h8.of (by rw [e 95 (by omega)]) (by rw [e 95 (by omega)]) (e 124 (by omega))) (fun M4 A' W' k1 k2 k3 k4 k5 k6 k7 => ?_)
  have hN4 : NetR M4 100 N := hN3.of (k1 100 (by omega) (by omega) (by omega) (by omega))
  refine hB M4 Q hN4 (by rw [k2 46 (by omega) (by omega) (by omega) (by omega) (by omega), e 95 (by omega)]) (by rw [k1 100 (by omega) (by omega) (by omega) (by omega), e 100 (by omega)]) (fun M5 d1 d2 d3 d4 d5 d6 d7 d8 d9 => h M5 ⟨A1, F1, W', pshX N H, pshR (M3 100) K, ?_⟩ d4)
  have eA : A' = A1 := by rw [k6, m6]
  subst eA
  have e5 : ∀ c, c ≠ 100 → c ≠ 95 → c ≠ 124 → c ≠ 125 → (c < 101 ∨ 115 < c) → M5 c = M3 c := fun c q1 q2 q3 q4 q5 => by rw [d1 c q1 q2, k1 c q2 q3 q4 q5]
  have e6 : ∀ j, j ≠ 15 → j ≠ 46 → j ≠ 41 → j ≠ 42 → j ≠ 43 → j ≠ 44 → M5 95 j = M 95 j := fun j q1 q0 q2 q3 q4 q5 => by rw [d2 j q1 q0, k2 j q1 q2 q3 q4 q5, e 95 (by omega)]
  have n100 : M4 100 = M 100 := by rw [k1 100 (by omega) (by omega) (by omega) (by omega), e 100 (by omega)]
  rw [n100] at d5 d6 d8
  have hrk : ∀ (r : Nat) (k : Int), rk M5 r 0 k = rk M3 r 0 k := fun r k => rk_of (fun c _ _ => e5 c (by omega) (by omega) (by omega) (by omega) (by omega))
  refine ⟨⟨m3.of (fun c _ _ => e5 c (by omega) (by omega) (by omega) (by omega) (by omega)), d4, m4, m5.of (fun c _ _ => e5 c (by omega) (by omega) (by omega) (by omega) (by omega)), fun z => absurd d3 z⟩, ?_, ?_, ?_, ?_, ?_, ?_, ?_, ?_, ?_⟩
  · refine ⟨?_, ?_, ?_, fun r hr => by rw [d5]; exact hrv r hr⟩
    · rw [d5, e5 0 (by omega) (by omega) (by omega) (by omega) (by omega), m2 5 (by omega)]; exact h2.1
    · rw [d5]; exact h2.2.1
    · rw [d5]; exact h2.2.2.1
  · refine ⟨fun p hp => ?_, fun v hv => ?_⟩
    · rw [e5 18 (by omega) (by omega) (by omega) (by omega) (by omega)]
      rcases Nat.lt_or_ge p N.P with z | z
      · rw [m10 p z, d6 p z]; exact h3.1 p z
      · rw [m11 p z hp, d7 p z hp]; exact Nm.zero
    · rw [d5] at hv
      have hv10 : v < 10 := by have := h2.2.2.1; omega
      rw [e5 19 (by omega) (by omega) (by omega) (by omega) (by omega), m1 19 (by omega) (by omega) (by omega), d8 v hv10]; exact h3.2 v hv
  · refine (h4.of (fun c hc => ?_) (fun j hj => e6 j (by omega) (by omega) (by omega) (by omega) (by omega) (by omega))).more
    rw [e5 c (by omega) (by omega) (by omega) (by omega) (by omega), m1 c (by omega) (by omega) (by omega)]
  · refine ⟨?_, d9.2⟩
    rw [e5 0 (by omega) (by omega) (by omega) (by omega) (by omega), m13]; exact d9.1
  · exact h6.of (by rw [e5 63 (by omega) (by omega) (by omega) (by omega) (by omega), e 63 (by omega)]) (by rw [e5 64 (by omega) (by omega) (by omega) (by omega) (by omega), e 64 (by omega)]) (by rw [e5 65 (by omega) (by omega) (by omega) (by omega) (by omega), e 65 (by omega)]) (e6 38 (by omega) (by omega) (by omega) (by omega) (by omega) (by omega)) (by rw [e5 123 (by omega) (by omega) (by omega) (by omega) (by omega), e 123 (by omega)])
  · exact m7.of (e5 58 (by omega) (by omega) (by omega) (by omega) (by omega)) (e5 59 (by omega) (by omega) (by omega) (by omega) (by omega))
  · exact k7.of (d2 41 (by omega) (by omega)) (d2 42 (by omega) (by omega)) (d1 124 (by omega) (by omega))
  · intro j hj
    have e3 : M3 100 = M 100 := e 100 (by omega)
    have hA : A' ≤ A + 1 ∧ (A' = 20 → A = 20 ∨ A = 19) := by rw [m6]; split <;> omega
    unfold pshX pshR
    by_cases z : j = 0
    · rw [if_pos z, if_pos z, e3]
      exact ⟨c3, fun r hr => by rw [d5]; exact h2.2.2.2 r hr, m12, fun i hi => by omega, ⟨c2.1, c2.2.1, c2.2.2⟩, d5.symm, fun p hp => (d6 p hp).symm, fun v hv => (d8 v hv).symm⟩
    · rw [if_neg z, if_neg z]
      obtain ⟨b1, b2, b3, b4, b5, b6, b7, b8⟩ := h9 (j - 1) (by omega)
      refine ⟨b1, fun r hr => by rw [d5]; exact b2 r hr, by omega, fun i hi => ?_, b5, by rw [d5]; exact b6, fun p hp => by rw [d6 p (by omega)]; exact b7 p hp, fun v hv => by rw [d8 v hv]; exact b8 v hv⟩
      by_cases y : i = 0
      · rw [if_pos y]; exact b3
      · rw [if_neg y]; exact b4 (i - 1) (by omega)
  · refine ⟨?_, Or.inr ⟨N.R, c3.1.2.1, ?_, ?_, fun k hk => ?_⟩⟩
    · rw [e5 60 (by omega) (by omega) (by omega) (by omega) (by omega), m8, d2 43 (by omega) (by omega), k3]
    · rw [d2 44 (by omega) (by omega)]; exact k4
    · rw [e5 60 (by omega) (by omega) (by omega) (by omega) (by omega), m8]; omega
    · rw [e5 61 (by omega) (by omega) (by omega) (by omega) (by omega), m9 k hk]
      congr 1
      refine cnt_congr (fun r hr => ?_)
      rw [hrk, d1 125 (by omega) (by omega), k5 k r hk (by omega)]
end
