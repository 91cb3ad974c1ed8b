/-! counting bits, and more questions -/
theorem cnt_split (f : Nat → Bool) (a : Nat) : ∀ b, cnt f (a + b) = cnt f a + cnt (fun i => f (a + i)) b
  | 0 => rfl
  | b + 1 => by rw [show a + (b + 1) = (a + b) + 1 by omega, cnt_s, cnt_split f a b, cnt_s]; omega
theorem small_nat {x : Int} (hx : inR x) (h : ∀ i, tb x i = true → i < 20) : ∃ n : Nat, n < 1048576 ∧ x = n ∧ ∀ i, tb x i = n.testBit i := by
  obtain ⟨n, hn⟩ : ∃ n, n = (Int32.ofInt x).toBitVec.toNat := ⟨_, rfl⟩
  have ht : ∀ i, n.testBit i = tb x i := fun i => by rw [hn]; rfl
  have hlt : n < 2 ^ 20 := by
    apply Nat.lt_pow_two_of_testBit
    intro i hi
    rw [ht]
    cases q : tb x i
    · rfl
    · have := h i q; omega
  refine ⟨n, hlt, ?_, fun i => (ht i).symm⟩
  refine tb_ext hx (by unfold inR; omega) (fun i hi => ?_)
  rw [tb_nat, ht]; simp [hi]
theorem x_bitCount {x : Int} (hx : inR x) (hb : ∀ i, tb x i = true → i < 20) {M : Mem} {Q : Int → Prop} (h : Q (cnt (tb x) 20 : Int)) : f_J6_bitCount_0f7a4 x M Q := by
  obtain ⟨n, h1, rfl, h3⟩ := small_nat hx hb
  refine bitCount_nat h1 ?_
  have e : c8 (n % 256) + c8 (n / 256 % 256) + c8 (n / 65536) = cnt (tb (n : Int)) 20 := by
    rw [cnt_congr (f := tb (n : Int)) (g := fun i => n.testBit i) (fun i _ => h3 i), show 20 = 8 + 12 from rfl, cnt_split, show 12 = 8 + 4 from rfl, cnt_split]
    have a1 : c8 (n % 256) = cnt (fun i => n.testBit i) 8 := cnt_congr (fun i hi => by
      rw [show 256 = 2 ^ 8 from rfl, Nat.testBit_mod_two_pow]; simp [hi])
    have a2 : c8 (n / 256 % 256) = cnt (fun i => n.testBit (8 + i)) 8 := cnt_congr (fun i hi => by
      rw [show 256 = 2 ^ 8 from rfl, Nat.testBit_mod_two_pow, Nat.testBit_div_two_pow]; simp [hi]; rw [Nat.add_comm])
    have a3 : c8 (n / 65536) = cnt (fun i => n.testBit (8 + (8 + i))) 4 := by
      have z : c8 (n / 65536) = cnt (fun i => (n / 65536).testBit i) (4 + 4) := rfl
      rw [z, cnt_split, cnt_false (f := fun i => (n / 65536).testBit (4 + i)) (n := 4) (fun i hi => Nat.testBit_lt_two_pow (Nat.lt_of_lt_of_le (show n / 65536 < 2 ^ 4 by omega) (Nat.pow_le_pow_right (by omega) (by omega))))]
      refine cnt_congr (fun i hi => ?_)
      show (n / 65536).testBit i = _
      rw [show 65536 = 2 ^ 16 from rfl, Nat.testBit_div_two_pow, show 8 + (8 + i) = i + 16 by omega]
    rw [a1, a2, a3]; omega
  rw [e]; exact h
theorem r_count {x : Int} {M : Mem} {Q : Int → Prop} (h : Q (cnt (tb x) 30 : Int)) : f_X12_count x M Q := by
  unfold f_X12_count
  refine wl2_inv (I := fun (c v : Int) => ∃ k : Nat, v = k ∧ k ≤ 30 ∧ c = (cnt (tb x) k : Int)) (μ := fun (_ v : Int) => 30 - v.toNat) ?_ 5000 _ _ ⟨0, rfl, by omega, rfl⟩ (by simp)
  rintro rec c v ⟨k, rfl, hk, rfl⟩ hrec
  unfold X12_count_b4
  have hl := cnt_le (tb x) k
  refine ⟨fun z => ?_, fun z => ?_⟩
  · rw [show k = 30 by omega]; exact h
  · rw [bit_val x (show k < 32 by omega)]
    have e : (cnt (tb x) k : Int) + (if tb x k = true then 1 else 0) = (cnt (tb x) (k + 1) : Int) := by
      rw [cnt_s]; split <;> simp
    have hl2 := cnt_le (tb x) (k + 1)
    rw [e]
    refine ⟨by unfold inR; omega, ?_⟩
    rintro _ rfl
    refine ⟨by unfold inR; omega, ?_⟩
    rintro _ rfl
    exact hrec _ _ ⟨k + 1, by omega, by omega, rfl⟩ (by omega)
theorem cnt_30 {x : Int} (hb : ∀ i, tb x i = true → i < 20) : cnt (tb x) 30 = cnt (tb x) 20 := by
  rw [show 30 = 20 + 10 from rfl, cnt_split, cnt_false (f := fun i => tb x (20 + i)) (n := 10) (fun i _ => by
    cases q : tb x (20 + i)
    · rfl
    · have := hb _ q; omega)]
  rfl
/-- both count -/
theorem q_count {x y : Int} (e : x = y) (hx : inR x) (hb : ∀ i, tb x i = true → i < 20) {M M' : Mem} {Q : Int → Int → Prop} (h : ∀ r, Q r r) : f_J6_bitCount_0f7a4 x M (fun r => f_X12_count y M' (fun r2 => Q r r2)) := by
  subst e
  exact x_bitCount hx hb (r_count (by rw [cnt_30 hb]; exact h _))
section
variable {M : Mem} {N : Nt} {n : Nat}
theorem FigX.src (hP : N.P ≤ 20) (h : FigX M n N) : inR (M n 11) ∧ ∀ i, tb (M n 11) i = true → i < 20 := by
  obtain ⟨-, -, -, -, -, -, x6, -⟩ := h
  exact ⟨x6.1, fun i hi => by have := ((x6.2 i).mp hi).1; omega⟩
theorem FigX.mou (hP : N.P ≤ 20) (h : FigX M n N) : inR (M n 12) ∧ ∀ i, tb (M n 12) i = true → i < 20 := by
  obtain ⟨-, -, -, -, -, -, -, x7, -⟩ := h
  exact ⟨x7.1, fun i hi => by have := ((x7.2 i).mp hi).1; omega⟩
theorem FigX.spr (hP : N.P ≤ 20) (h : FigX M n N) {r : Nat} (hr : r < N.R) : inR (M (n + 9) r) ∧ ∀ i, tb (M (n + 9) r) i = true → i < 20 := by
  have hs := h.src hP
  obtain ⟨-, -, -, -, -, -, -, -, x8, -⟩ := h
  rw [x8 r hr]
  refine ⟨bAnd_in _ _, fun i hi => ?_⟩
  rw [tb_and] at hi
  simp only [Bool.and_eq_true] at hi
  exact hs.2 i hi.2
theorem q_reach {a b : Int} (hC : Core M N) {Q : Int → Int → Mem → Prop} (h : ∀ (r : Int) (M2 : Mem), Qf M M2 → Core M2 N → Q r r M2) : f_X11_reach a b M (fun r => f_X12_reach a b M (fun r2 M2 => Q r r2 M2)) := by
  obtain ⟨h1, h2, h3, h4, h5⟩ := id hC
  have hR := h3.1.2.1
  have hP := h3.1.1
  unfold f_X11_reach f_X12_reach
  refine x_isReach h1 (fun r hr e => ⟨fun _ => ?_, fun z => absurd z (by omega)⟩) (fun hno => ⟨fun z => absurd rfl z, fun _ => ?_⟩)
  · subst e
    obtain ⟨x1, x2, x3, x4, x5⟩ := h1.2.2 r hr
    have hok : ∀ Q : Int → Prop, Q 1 → f_X12_isReach (r : Int) M Q := fun Q hQ => r_isReach h2 h3.1 (fun _ _ _ => hQ) (fun z => by omega)
    have hgo : ∀ Q' : Int → Mem → Prop, (∀ M2, Qf M M2 → Core M2 N → Sm M M2 N → f_X12_isIn b 0 4 M2 (fun r_4 => (r_4 = 0 → ((¬ b = 5 → ((¬ b = 6 → (Q' (-1) M2)) ∧ (b = 6 → ((0 ≤ (r : Int) ∧ (r : Int) < 30) ∧ f_X12_count (M2 110 ((r : Int).toNat)) M2 (fun r_7 => Q' r_7 M2))))) ∧ (b = 5 → ((0 ≤ (r : Int) ∧ (r : Int) < 30) ∧ Q' (M2 107 ((r : Int).toNat)) M2)))) ∧ (¬ (r_4 = 0) → (f_X12_its (r : Int) b M2 (fun r_12 => Q' r_12 M2))))) → f_X12_isReach (r : Int) M (fun r_1 => (¬ r_1 = 0 → (f_X12_lays M (fun M_3 => f_X12_isIn b 0 4 M_3 (fun r_4 => (r_4 = 0 → ((¬ b = 5 → ((¬ b = 6 → (Q' (-1) M_3)) ∧ (b = 6 → ((0 ≤ (r : Int) ∧ (r : Int) < 30) ∧ f_X12_count (M_3 110 ((r : Int).toNat)) M_3 (fun r_7 => Q' r_7 M_3))))) ∧ (b = 5 → ((0 ≤ (r : Int) ∧ (r : Int) < 30) ∧ Q' (M_3 107 ((r : Int).toNat)) M_3)))) ∧ (¬ (r_4 = 0) → (f_X12_its (r : Int) b M_3 (fun r_12 => Q' r_12 M_3))))))) ∧ (r_1 = 0 → (Q' (-1) M))) := fun Q' hh => hok _ ⟨fun _ => q_lays hC (fun M2 k1 k2 k3 k4 => hh M2 k1 k2 k4), fun z => absurd z (by omega)⟩
    have hits : ∀ (v : Int) (M2 : Mem), Qf M M2 → Core M2 N → (0 ≤ b ∧ b ≤ 4) → (∀ Q' : Int → Prop, Q' v → f_X12_its (r : Int) b M2 Q') → f_X12_isIn b 0 4 M2 (fun r_4 => (r_4 = 0 → ((¬ b = 5 → ((¬ b = 6 → (Q v (-1) M2)) ∧ (b = 6 → ((0 ≤ (r : Int) ∧ (r : Int) < 30) ∧ f_X12_count (M2 110 ((r : Int).toNat)) M2 (fun r_7 => Q v r_7 M2))))) ∧ (b = 5 → ((0 ≤ (r : Int) ∧ (r : Int) < 30) ∧ Q v (M2 107 ((r : Int).toNat)) M2)))) ∧ (¬ (r_4 = 0) → (f_X12_its (r : Int) b M2 (fun r_12 => Q v r_12 M2)))) := fun v M2 k1 k2 hb hh => r_isIn (fun _ _ => ⟨fun z => absurd z (by omega), fun _ => hh _ (h _ _ k1 k2)⟩) (fun z => absurd hb z)
    refine ⟨fun c => ⟨by omega, hgo _ (fun M2 k1 k2 k4 => ?_)⟩, fun c => ⟨by omega, hgo _ (fun M2 k1 k2 k4 => ?_)⟩, fun c => ⟨by omega, hgo _ (fun M2 k1 k2 k4 => ?_)⟩, fun c => ⟨by omega, hgo _ (fun M2 k1 k2 k4 => ?_)⟩, fun c => ⟨by omega, hgo _ (fun M2 k1 k2 k4 => ?_)⟩, fun c => ⟨by omega, hgo _ (fun M2 k1 k2 k4 => ?_)⟩, fun c => ⟨by omega, ?_⟩, fun c => hgo _ (fun M2 k1 k2 k4 => ?_)⟩
    · rw [tn, x1]; exact hits _ _ k1 k2 (by omega) (fun Q' hq => by rw [c]; exact r_hd k2.2.1 h3.1 hr hq)
    · rw [tn, x2]; exact hits _ _ k1 k2 (by omega) (fun Q' hq => by rw [c]; exact r_ft k2.2.1 h3.1 hr hq)
    · rw [tn, x3]; exact hits _ _ k1 k2 (by omega) (fun Q' hq => by rw [c]; exact r_ln k2.2.1 h3.1 hr hq)
    · rw [tn, x4]; exact hits _ _ k1 k2 (by omega) (fun Q' hq => by rw [c]; exact r_gf k2.2.1 h3.1 hr hq)
    · rw [tn, x5]; exact hits _ _ k1 k2 (by omega) (fun Q' hq => by rw [c]; exact r_rv k2.2.1 h3.1 hr hq)
    · refine r_isIn (fun _ _ => by omega) (fun _ => ⟨fun _ => ⟨fun z => absurd c z, fun _ => ⟨by omega, ?_⟩⟩, fun z => absurd rfl z⟩)
      rw [tn, (k4.2.1 r hr).2.2]; exact h _ _ k1 k2
    · rw [tn]
      refine x_bitCount (h4.1.spr hP hr).1 (h4.1.spr hP hr).2 (hgo _ (fun M2 k1 k2 k4 => ?_))
      refine r_isIn (fun _ _ => by omega) (fun _ => ⟨fun _ => ⟨fun _ => ⟨fun z => absurd c z, fun _ => ⟨by omega, ?_⟩⟩, fun z => by omega⟩, fun z => absurd rfl z⟩)
      rw [tn, ← (k4.2.1 r hr).1]
      exact r_count (by rw [cnt_30 (h4.1.spr hP hr).2]; exact h _ _ k1 k2)
    · exact r_isIn (fun _ _ => by omega) (fun _ => ⟨fun _ => ⟨fun _ => ⟨fun _ => h _ _ k1 k2, fun z => by omega⟩, fun z => by omega⟩, fun z => absurd rfl z⟩)
  · exact r_isReach h2 h3.1 (fun p hp e => by omega) (fun _ => ⟨fun z => absurd rfl z, fun _ => h _ _ (Qf.refl M) hC⟩)
end
