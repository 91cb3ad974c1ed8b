/-! by the seed -/
def nx (x : Nat) : Nat := (1103515245 * x + 12345) % 2147483648
theorem nx_lt (x : Nat) : nx x < 2147483648 := Nat.mod_lt _ (by omega)
theorem bAndS (a : Nat) : bAnd (a : Int) 2147483647 = ((a % 2147483648 : Nat) : Int) := by
  have hl : a % 2147483648 < 2147483648 := Nat.mod_lt _ (by omega)
  obtain ⟨q, hq⟩ : ∃ q, q = a % 2147483648 := ⟨_, rfl⟩
  rw [← hq] at hl ⊢
  refine tb_ext (bAnd_in _ _) (by unfold inR; omega) (fun i hi => ?_)
  rw [tb_and, tb_nat, show (2147483647 : Int) = ((2 ^ 31 - 1 : Nat) : Int) from rfl, tb_nat, tb_nat, Nat.testBit_two_pow_sub_one, hq, show (2147483648 : Nat) = 2 ^ 31 from rfl, Nat.testBit_mod_two_pow]
  simp only [hi, decide_true, Bool.true_and]
  exact Bool.and_comm _ _
theorem tdm {y m : Nat} : Int.tmod (Int.tdiv (y : Int) 64) (m : Int) = ((y / 64 % m : Nat) : Int) := by
  rw [Int.tdiv_eq_ediv_of_nonneg (by omega), show (y : Int) / 64 = ((y / 64 : Nat) : Int) by omega, Int.tmod_eq_emod_of_nonneg (by omega)]
  exact (Int.natCast_emod _ _).symm
def Stir (N : Nt) (x : Nat) (N' : Nt) (x' : Nat) : Prop := ∃ r, r = nx (nx x) / 64 % N.R ∧ ((nx x / 64 % 4 = 0 ∧ x' = nx (nx x) ∧ ((¬ Rch (Ew N.R r) N.hd N.ft (N.hd r) (N.ft r) ∧ N' = N.turn r) ∨ (Rch (Ew N.R r) N.hd N.ft (N.hd r) (N.ft r) ∧ N' = N))) ∨ (nx x / 64 % 4 = 1 ∧ x' = nx (nx (nx x)) ∧ N' = N.give r ((nx (nx (nx x)) / 64 % 100 : Nat) : Int)) ∨ (nx x / 64 % 4 = 2 ∧ x' = nx (nx x) ∧ (((1 ≤ N.ln r / 2 ∧ N.P < 20 ∧ N.R < 30) ∧ N' = N.cut r (N.ln r / 2)) ∨ (¬ (1 ≤ N.ln r / 2 ∧ N.P < 20 ∧ N.R < 30) ∧ N' = N))) ∨ (nx x / 64 % 4 = 3 ∧ x' = nx (nx (nx x)) ∧ (((N.R < 30 ∧ ¬ Rch (Ew N.R (-1)) N.hd N.ft (nx (nx (nx x)) / 64 % N.P) (N.ft r)) ∧ N' = N.add (N.ft r) (nx (nx (nx x)) / 64 % N.P) 10 0 (-1)) ∨ (¬ (N.R < 30 ∧ ¬ Rch (Ew N.R (-1)) N.hd N.ft (nx (nx (nx x)) / 64 % N.P) (N.ft r)) ∧ N' = N))))
theorem Stir.uniq {N N1 N2 : Nt} {x x1 x2 : Nat} (h : Stir N x N1 x1) (k : Stir N x N2 x2) : N1 = N2 ∧ x1 = x2 := by
  obtain ⟨r, hr, h⟩ := h
  obtain ⟨r', hr', k⟩ := k
  have e : r' = r := by omega
  subst e
  rcases h with ⟨h1, h2, h3⟩ | ⟨h1, h2, h3⟩ | ⟨h1, h2, h3⟩ | ⟨h1, h2, h3⟩ <;> rcases k with ⟨k1, k2, k3⟩ | ⟨k1, k2, k3⟩ | ⟨k1, k2, k3⟩ | ⟨k1, k2, k3⟩ <;> first | omega | skip
  · refine ⟨?_, by omega⟩
    rcases h3 with ⟨a, b⟩ | ⟨a, b⟩ <;> rcases k3 with ⟨c, d⟩ | ⟨c, d⟩
    · rw [b, d]
    · exact absurd c a
    · exact absurd a c
    · rw [b, d]
  · exact ⟨by rw [h3, k3], by omega⟩
  · refine ⟨?_, by omega⟩
    rcases h3 with ⟨a, b⟩ | ⟨a, b⟩ <;> rcases k3 with ⟨c, d⟩ | ⟨c, d⟩
    · rw [b, d]
    · exact absurd a c
    · exact absurd c a
    · rw [b, d]
  · refine ⟨?_, by omega⟩
    rcases h3 with ⟨a, b⟩ | ⟨a, b⟩ <;> rcases k3 with ⟨c, d⟩ | ⟨c, d⟩
    · rw [b, d]
    · exact absurd a c
    · exact absurd c a
    · rw [b, d]
theorem Stir.ex (N : Nt) (x : Nat) : ∃ N' x', Stir N x N' x' := by
  obtain ⟨r, hr⟩ : ∃ r, r = nx (nx x) / 64 % N.R := ⟨_, rfl⟩
  have h4 : nx x / 64 % 4 = 0 ∨ nx x / 64 % 4 = 1 ∨ nx x / 64 % 4 = 2 ∨ nx x / 64 % 4 = 3 := by omega
  rcases h4 with z | z | z | z
  · by_cases c : Rch (Ew N.R r) N.hd N.ft (N.hd r) (N.ft r)
    · exact ⟨N, _, r, hr, Or.inl ⟨z, rfl, Or.inr ⟨c, rfl⟩⟩⟩
    · exact ⟨_, _, r, hr, Or.inl ⟨z, rfl, Or.inl ⟨c, rfl⟩⟩⟩
  · exact ⟨_, _, r, hr, Or.inr (Or.inl ⟨z, rfl, rfl⟩)⟩
  · by_cases c : 1 ≤ N.ln r / 2 ∧ N.P < 20 ∧ N.R < 30
    · exact ⟨_, _, r, hr, Or.inr (Or.inr (Or.inl ⟨z, rfl, Or.inl ⟨c, rfl⟩⟩))⟩
    · exact ⟨N, _, r, hr, Or.inr (Or.inr (Or.inl ⟨z, rfl, Or.inr ⟨c, rfl⟩⟩))⟩
  · by_cases c : N.R < 30 ∧ ¬ Rch (Ew N.R (-1)) N.hd N.ft (nx (nx (nx x)) / 64 % N.P) (N.ft r)
    · exact ⟨_, _, r, hr, Or.inr (Or.inr (Or.inr ⟨z, rfl, Or.inl ⟨c, rfl⟩⟩))⟩
    · exact ⟨N, _, r, hr, Or.inr (Or.inr (Or.inr ⟨z, rfl, Or.inr ⟨c, rfl⟩⟩))⟩
theorem Stir.good {N N' : Nt} {x x' : Nat} {V : Int} (hG : Good N) (hR : 0 < N.R) (hV : 0 ≤ V) (hv : ∀ r, r < N.R → N.rv r < V) (h : Stir N x N' x') : Good N' ∧ N.P ≤ N'.P ∧ 0 < N'.R ∧ (∀ r, r < N'.R → N'.rv r < V) ∧ x' < 2147483648 := by
  obtain ⟨r, hr, h⟩ := h
  have hrl : r < N.R := by rw [hr]; exact Nat.mod_lt _ hR
  have w := hG.1.2.2 r hrl
  rcases h with ⟨-, h2, h3⟩ | ⟨-, h2, h3⟩ | ⟨-, h2, h3⟩ | ⟨-, h2, h3⟩
  · rcases h3 with ⟨a, rfl⟩ | ⟨a, rfl⟩
    · exact ⟨good_turn hG hrl a, Nat.le_refl _, hR, hv, by rw [h2]; exact nx_lt _⟩
    · exact ⟨hG, Nat.le_refl _, hR, hv, by rw [h2]; exact nx_lt _⟩
  · rw [h3]
    have : nx (nx (nx x)) / 64 % 100 < 100 := Nat.mod_lt _ (by omega)
    exact ⟨good_give hG (by omega), Nat.le_refl _, hR, hv, by rw [h2]; exact nx_lt _⟩
  · rcases h3 with ⟨⟨a, b, c⟩, rfl⟩ | ⟨a, rfl⟩
    · refine ⟨good_cut hG hrl b c a (by omega), Nat.le_succ _, Nat.succ_pos _, fun q hq => ?_, by rw [h2]; exact nx_lt _⟩
      show (if q = N.R then N.rv r else N.rv q) < V
      by_cases z : q = N.R
      · rw [if_pos z]; exact hv r hrl
      · rw [if_neg z]
        have : q < N.R + 1 := hq
        exact hv q (by omega)
    · exact ⟨hG, Nat.le_refl _, hR, hv, by rw [h2]; exact nx_lt _⟩
  · have hto : nx (nx (nx x)) / 64 % N.P < N.P := Nat.mod_lt _ (by omega)
    rcases h3 with ⟨⟨a, b⟩, rfl⟩ | ⟨a, rfl⟩
    · refine ⟨good_add hG w.2.1 hto a (by omega) (by omega) (by omega) b, Nat.le_refl _, Nat.succ_pos _, fun q hq => ?_, by rw [h2]; exact nx_lt _⟩
      show (if q = N.R then (-1 : Int) else N.rv q) < V
      by_cases z : q = N.R
      · rw [if_pos z]; omega
      · rw [if_neg z]
        have : q < N.R + 1 := hq
        exact hv q (by omega)
    · exact ⟨hG, Nat.le_refl _, hR, hv, by rw [h2]; exact nx_lt _⟩
def StirN (N : Nt) (x : Nat) : Nat → Nt → Nat → Prop
  | 0, N', x' => N' = N ∧ x' = x
  | k + 1, N', x' => ∃ N1 x1, StirN N x k N1 x1 ∧ Stir N1 x1 N' x'
theorem StirN.uniq {N : Nt} {x : Nat} : ∀ {k : Nat} {N1 N2 : Nt} {x1 x2 : Nat}, StirN N x k N1 x1 → StirN N x k N2 x2 → N1 = N2 ∧ x1 = x2
  | 0, _, _, _, _, h, k => ⟨by rw [h.1, k.1], by rw [h.2, k.2]⟩
  | n + 1, _, _, _, _, ⟨a, b, h1, h2⟩, ⟨c, d, k1, k2⟩ => by
    obtain ⟨e1, e2⟩ := StirN.uniq h1 k1
    subst e1; subst e2
    exact h2.uniq k2
theorem StirN.ex (N : Nt) (x : Nat) : ∀ k, ∃ N' x', StirN N x k N' x'
  | 0 => ⟨N, x, rfl, rfl⟩
  | k + 1 => by
    obtain ⟨N1, x1, h⟩ := StirN.ex N x k
    obtain ⟨N', x', h'⟩ := Stir.ex N1 x1
    exact ⟨N', x', N1, x1, h, h'⟩
theorem StirN.good {N : Nt} {x : Nat} {V : Int} (hG : Good N) (hR : 0 < N.R) (hV : 0 ≤ V) (hv : ∀ r, r < N.R → N.rv r < V) (hx : x < 2147483648) : ∀ {k : Nat} {N' : Nt} {x' : Nat}, StirN N x k N' x' → Good N' ∧ N.P ≤ N'.P ∧ 0 < N'.R ∧ (∀ r, r < N'.R → N'.rv r < V) ∧ x' < 2147483648
  | 0, N', x', h => by rw [h.1, h.2]; exact ⟨hG, Nat.le_refl _, hR, hv, hx⟩
  | k + 1, N', x', ⟨N1, x1, h1, h2⟩ => by
    obtain ⟨a1, a2, a3, a4, a5⟩ := StirN.good hG hR hV hv hx h1
    obtain ⟨b1, b2, b3, b4, b5⟩ := h2.good a1 a3 hV a4
    exact ⟨b1, by omega, b3, b4, b5⟩
section
variable {M : Mem} {N : Nt}
theorem x_draw {x m : Nat} (hx : M 0 16 = x) (hm : 0 < m) (hm2 : m ≤ 1000) {Q : Int → Mem → Prop} (h : Q ((nx x / 64 % m : Nat) : Int) (st M 0 16 (nx x : Int))) : f_X11_draw (m : Int) M Q := by
  have e : bAnd (1103515245 * (x : Int) + 12345) 2147483647 = (nx x : Int) := by
    rw [show 1103515245 * (x : Int) + 12345 = ((1103515245 * x + 12345 : Nat) : Int) by omega, bAndS]
    rfl
  have hl : nx x / 64 % m < m := Nat.mod_lt _ hm
  unfold f_X11_draw
  rw [hx, e]
  rintro _ rfl
  rw [st_s, if_pos rfl, tdm]
  exact ⟨fun c => by omega, fun c => ⟨by omega, by unfold inR; omega, h⟩⟩
theorem r_drawOf {x m : Nat} (hx : M 95 46 = x) (hx2 : x < 2147483648) (hm : 0 < m) (hm2 : m ≤ 1000) {Q : Int → Mem → Prop} (h : Q ((nx x / 64 % m : Nat) : Int) (st M 95 46 (nx x : Int))) : f_X12_drawOf (m : Int) M Q := by
  have e : Int.tmod (1103515245 * (x : Int) + 12345) 2147483648 = (nx x : Int) := by
    rw [Int.tmod_eq_emod_of_nonneg (by omega)]
    unfold nx
    omega
  have hl : nx x / 64 % m < m := Nat.mod_lt _ hm
  have hl2 := nx_lt x
  unfold f_X12_drawOf
  rw [hx, e]
  refine ⟨by unfold inL; omega, by unfold inR; omega, ?_⟩
  rintro _ rfl
  rw [st_s, if_pos rfl, tdm]
  refine ⟨?_, by omega, by unfold inR; omega, h⟩
  rw [Int.tdiv_eq_ediv_of_nonneg (by omega)]
  unfold inL
  omega
end
