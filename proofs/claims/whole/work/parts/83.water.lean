/-! no water is lost but at ends -/
theorem sm_lin {a x o b : Nat → Int} : ∀ {n : Nat}, (∀ i, i < n → b i = a i - x i + o i) → sm b n = sm a n - sm x n + sm o n
  | 0, _ => by simp [sm]
  | n + 1, h => by
    have h1 := sm_lin (n := n) (fun i hi => h i (by omega))
    have h2 := h n (by omega)
    unfold sm
    omega
theorem sm_mono {f g : Nat → Int} : ∀ {n : Nat}, (∀ i, i < n → f i ≤ g i) → sm f n ≤ sm g n
  | 0, _ => by simp [sm]
  | n + 1, h => by
    have h1 := sm_mono (n := n) (fun i hi => h i (by omega))
    have h2 := h n (by omega)
    unfold sm
    omega
theorem shares_sum (s : Nat → Bool) (c : Int) (n : Nat) (hc : 0 ≤ Int.tmod c n) : ∀ m, sm (fun r => if s r = true then Int.tdiv c n + (if (cnt s r : Int) < Int.tmod c n then 1 else 0) else 0) m = (cnt s m : Int) * Int.tdiv c n + min (cnt s m : Int) (Int.tmod c n)
  | 0 => by
    unfold sm cnt
    rw [show ((0 : Nat) : Int) * Int.tdiv c n = 0 from Int.zero_mul _]
    omega
  | m + 1 => by
    have h1 := shares_sum s c n hc m
    unfold sm
    rw [h1, cnt_s]
    by_cases h : s m = true
    · rw [if_pos h, if_pos h, Int.natCast_add, Int.add_mul, show ((1 : Nat) : Int) * Int.tdiv c n = Int.tdiv c n from Int.one_mul _]
      obtain ⟨z, hz⟩ : ∃ z, z = (cnt s m : Int) * Int.tdiv c n := ⟨_, rfl⟩
      rw [← hz]
      by_cases y : (cnt s m : Int) < Int.tmod c n
      · rw [if_pos y]; omega
      · rw [if_neg y]; omega
    · rw [if_neg h, if_neg h, Nat.add_zero, Int.add_zero]
section
variable {N : Nt}
theorem water (hG : Good N) {g pos : Nat → Nat} (ht : Topo N g pos) {wo : Int} {f c : Nat → Int} (hF : Flw N wo f c) : ∀ k, k ≤ N.P → (∀ r, r < N.R → (r : Int) ≠ wo → pos (N.hd r) < k → 0 ≤ f r) ∧ (∀ p, p < N.P → pos p < k → 0 ≤ c p ∧ c p ≤ 2970 ∧ c p = sm (fun r => if N.ft r = p ∧ (r : Int) ≠ wo then f r else 0) N.R) ∧ sm (fun r => if ((r : Int) ≠ wo ∧ pos (N.hd r) < k) ∧ (k ≤ pos (N.ft r) ∨ sho N wo (N.ft r) = 0) then f r else 0) N.R = sm (fun r => if (r : Int) ≠ wo ∧ pos (N.hd r) < k then N.gf r else 0) N.R := by
  obtain ⟨hP20, hR30, hr⟩ := id hG.1
  obtain ⟨t1, t2, t3⟩ := id ht
  have hinj : ∀ p q, p < N.P → q < N.P → pos p = pos q → p = q := fun p q hp hq e => by rw [← (t2 p hp).2, ← (t2 q hq).2, e]
  intro k
  induction k with
  | zero =>
    intro _
    refine ⟨fun r _ _ z => by omega, fun p _ z => by omega, ?_⟩
    rw [sm_0 (fun r _ => by rw [if_neg (by omega)]), sm_0 (fun r _ => by rw [if_neg (by omega)])]
  | succ k ih =>
    intro hk
    obtain ⟨i1, i2, i3⟩ := ih (by omega)
    obtain ⟨p1, p2⟩ := t1 k (by omega)
    obtain ⟨p, hp⟩ : ∃ p, p = g k := ⟨_, rfl⟩
    rw [← hp] at p1 p2
    have hft : ∀ r, r < N.R → (pos (N.ft r) = k ↔ N.ft r = p) := fun r hr' => ⟨fun e => hinj _ _ (hr r hr').2.1 p1 (by omega), fun e => by rw [e]; exact p2⟩
    have hhd : ∀ r, r < N.R → (pos (N.hd r) = k ↔ N.hd r = p) := fun r hr' => ⟨fun e => hinj _ _ (hr r hr').1 p1 (by omega), fun e => by rw [e]; exact p2⟩
    obtain ⟨D, hD⟩ : ∃ D, D = sm (fun r => if N.ft r = p ∧ (r : Int) ≠ wo then f r else 0) N.R := ⟨_, rfl⟩
    have hD0 : 0 ≤ D := by
      rw [hD]
      refine sm_nn (fun r hr' => ?_)
      by_cases z : N.ft r = p ∧ (r : Int) ≠ wo
      · rw [if_pos z]
        have := t3 r hr'
        rw [z.1, p2] at this
        exact i1 r hr' z.2 this
      · rw [if_neg z]; omega
    have hDT : D ≤ sm (fun r => if ((r : Int) ≠ wo ∧ pos (N.hd r) < k) ∧ (k ≤ pos (N.ft r) ∨ sho N wo (N.ft r) = 0) then f r else 0) N.R := by
      rw [hD]
      refine sm_mono (fun r hr' => ?_)
      by_cases z : N.ft r = p ∧ (r : Int) ≠ wo
      · have := t3 r hr'
        rw [z.1, p2] at this
        rw [if_pos z, if_pos ⟨⟨z.2, this⟩, Or.inl (by rw [z.1]; omega)⟩]
        omega
      · rw [if_neg z]
        by_cases y : ((r : Int) ≠ wo ∧ pos (N.hd r) < k) ∧ (k ≤ pos (N.ft r) ∨ sho N wo (N.ft r) = 0)
        · rw [if_pos y]; exact i1 r hr' y.1.1 y.1.2
        · rw [if_neg y]; omega
    have hA : sm (fun r => if (r : Int) ≠ wo ∧ pos (N.hd r) < k then N.gf r else 0) N.R ≤ N.R * 99 := sm_le (fun r hr' => by
      have := hr r hr'
      split <;> omega)
    have hcp : c p = D := by
      rw [hF.2 p p1, ← hD]
      exact nz_eq (by unfold inR; omega)
    have hshr : ∀ r, r < N.R → (r : Int) ≠ wo → N.hd r = p → f r = N.gf r + shr N wo (c p) r ∧ 0 ≤ f r := fun r hr' hw e => by
      have h1 := hF.1 r hr' hw
      rw [e] at h1
      have hn : 0 ≤ (sho N wo (N.hd r) : Int) := by omega
      have q1 : 0 ≤ Int.tdiv (c p) (sho N wo (N.hd r)) := Int.tdiv_nonneg (by omega) hn
      have q2 : Int.tdiv (c p) (sho N wo (N.hd r)) ≤ c p := Int.tdiv_le_self _ (by omega)
      have hb : 0 ≤ shr N wo (c p) r ∧ shr N wo (c p) r ≤ c p + 1 := by
        unfold shr
        split <;> omega
      have w := hr r hr'
      rw [nz_eq (by unfold inR; omega)] at h1
      exact ⟨h1, by omega⟩
    refine ⟨fun r hr' hw hlt => ?_, fun q hq hlt => ?_, ?_⟩
    · rcases Nat.lt_or_ge (pos (N.hd r)) k with z | z
      · exact i1 r hr' hw z
      · exact (hshr r hr' hw ((hhd r hr').mp (by omega))).2
    · rcases Nat.lt_or_ge (pos q) k with z | z
      · exact i2 q hq z
      · have e : q = p := hinj _ _ hq p1 (by omega)
        rw [e]
        exact ⟨by omega, by omega, by rw [hcp]; exact hD⟩
    · have e1 := sm_lin (n := N.R) (b := fun r => if ((r : Int) ≠ wo ∧ pos (N.hd r) < k + 1) ∧ (k + 1 ≤ pos (N.ft r) ∨ sho N wo (N.ft r) = 0) then f r else 0) (a := fun r => if ((r : Int) ≠ wo ∧ pos (N.hd r) < k) ∧ (k ≤ pos (N.ft r) ∨ sho N wo (N.ft r) = 0) then f r else 0) (x := fun r => if ((r : Int) ≠ wo ∧ pos (N.ft r) = k) ∧ sho N wo (N.ft r) ≠ 0 then f r else 0) (o := fun r => if (r : Int) ≠ wo ∧ pos (N.hd r) = k then f r else 0) (fun r hr' => by
        have := t3 r hr'
        (repeat' split) <;> omega)
      have e2 := sm_lin (n := N.R) (b := fun r => if (r : Int) ≠ wo ∧ pos (N.hd r) < k + 1 then N.gf r else 0) (a := fun r => if (r : Int) ≠ wo ∧ pos (N.hd r) < k then N.gf r else 0) (x := fun _ => 0) (o := fun r => if (r : Int) ≠ wo ∧ pos (N.hd r) = k then N.gf r else 0) (fun r hr' => by
        (repeat' split) <;> omega)
      have e0 : sm (fun _ => (0 : Int)) N.R = 0 := sm_0 (fun _ _ => rfl)
      rw [e1, e2, e0, i3]
      have hX : sm (fun r => if ((r : Int) ≠ wo ∧ pos (N.ft r) = k) ∧ sho N wo (N.ft r) ≠ 0 then f r else 0) N.R = if sho N wo p = 0 then 0 else D := by
        by_cases hs : sho N wo p = 0
        · rw [if_pos hs]
          exact sm_0 (fun r hr' => by
            rw [if_neg (fun z => z.2 (by rw [(hft r hr').mp z.1.2]; exact hs))])
        · rw [if_neg hs, hD]
          exact sm_congr (fun r hr' => by
            by_cases z : N.ft r = p ∧ (r : Int) ≠ wo
            · rw [if_pos z, if_pos ⟨⟨z.2, (hft r hr').mpr z.1⟩, by rw [z.1]; exact hs⟩]
            · rw [if_neg z, if_neg (fun y => z ⟨(hft r hr').mp y.1.2, y.1.1⟩)])
      have hO : sm (fun r => if (r : Int) ≠ wo ∧ pos (N.hd r) = k then f r else 0) N.R = sm (fun r => if (r : Int) ≠ wo ∧ pos (N.hd r) = k then N.gf r else 0) N.R + (if sho N wo p = 0 then 0 else c p) := by
        have hsof : ∀ r, r < N.R → (sof N wo p r = true ↔ (r : Int) ≠ wo ∧ pos (N.hd r) = k) := fun r hr' => by
          unfold sof
          simp only [decide_eq_true_eq]
          rw [hhd r hr']
          exact And.comm
        by_cases hs : sho N wo p = 0
        · have hno : ∀ r, r < N.R → ¬ ((r : Int) ≠ wo ∧ pos (N.hd r) = k) := fun r hr' z => by
            have : 0 < cnt (sof N wo p) N.R := cnt_pos.mpr ⟨r, hr', (hsof r hr').mpr z⟩
            have e : sho N wo p = cnt (sof N wo p) N.R := rfl
            omega
          rw [if_pos hs, sm_0 (fun r hr' => by rw [if_neg (hno r hr')]), sm_0 (fun r hr' => by rw [if_neg (hno r hr')])]
          rfl
        · rw [if_neg hs]
          have hmod : 0 ≤ Int.tmod (c p) (sho N wo p) := Int.tmod_nonneg _ (by omega)
          have e3 := sm_lin (n := N.R) (b := fun r => if (r : Int) ≠ wo ∧ pos (N.hd r) = k then f r else 0) (a := fun r => if (r : Int) ≠ wo ∧ pos (N.hd r) = k then N.gf r else 0) (x := fun _ => 0) (o := fun r => if sof N wo p r = true then Int.tdiv (c p) (sho N wo p) + (if (cnt (sof N wo p) r : Int) < Int.tmod (c p) (sho N wo p) then 1 else 0) else 0) (fun r hr' => by
            by_cases z : (r : Int) ≠ wo ∧ pos (N.hd r) = k
            · rw [if_pos z, if_pos z, if_pos ((hsof r hr').mpr z)]
              have e := (hhd r hr').mp z.2
              rw [(hshr r hr' z.1 e).1]
              unfold shr
              rw [e]
              omega
            · rw [if_neg z, if_neg z, if_neg (fun y => z ((hsof r hr').mp y))]
              rfl)
          rw [e3, e0, shares_sum _ _ _ hmod]
          have e4 : cnt (sof N wo p) N.R = sho N wo p := rfl
          rw [e4]
          have e5 := Int.mul_tdiv_add_tmod (c p) (sho N wo p)
          have e6 := Int.tmod_lt_of_pos (c p) (show (0 : Int) < sho N wo p by omega)
          obtain ⟨z, hz⟩ : ∃ z, z = (sho N wo p : Int) * Int.tdiv (c p) (sho N wo p) := ⟨_, rfl⟩
          rw [← hz] at e5 ⊢
          omega
      rw [hX, hO, hcp]
      split <;> omega
theorem swap_sum {f : Nat → Int} {wo : Int} (s : Nat → Bool) : ∀ m, sm (fun p => if s p = true then sm (fun r => if N.ft r = p ∧ (r : Int) ≠ wo then f r else 0) N.R else 0) m = sm (fun r => if (s (N.ft r) = true ∧ N.ft r < m) ∧ (r : Int) ≠ wo then f r else 0) N.R
  | 0 => by
    rw [sm_0 (n := N.R) (fun r _ => by rw [if_neg (by omega)])]
    rfl
  | m + 1 => by
    have h1 := swap_sum (f := f) (wo := wo) s m
    rw [sm, h1]
    by_cases h : s m = true
    · rw [if_pos h]
      have e := sm_lin (n := N.R) (b := fun r => if (s (N.ft r) = true ∧ N.ft r < m + 1) ∧ (r : Int) ≠ wo then f r else 0) (a := fun r => if (s (N.ft r) = true ∧ N.ft r < m) ∧ (r : Int) ≠ wo then f r else 0) (x := fun _ => 0) (o := fun r => if N.ft r = m ∧ (r : Int) ≠ wo then f r else 0) (fun r hr' => by
        by_cases z : N.ft r = m
        · rw [z]
          (repeat' split) <;> simp_all <;> omega
        · by_cases y : N.ft r < m
          · (repeat' split) <;> simp_all <;> omega
          · (repeat' split) <;> simp_all <;> omega)
      rw [e, sm_0 (f := fun _ => (0 : Int)) (fun _ _ => rfl)]
      omega
    · rw [if_neg h, Int.add_zero]
      refine sm_congr (fun r _ => ?_)
      by_cases z : N.ft r = m
      · rw [if_neg (fun y => by omega), if_neg (fun y => h (by rw [← z]; exact y.1.1))]
      · by_cases y : (s (N.ft r) = true ∧ N.ft r < m) ∧ (r : Int) ≠ wo
        · rw [if_pos y, if_pos ⟨⟨y.1.1, by omega⟩, y.2⟩]
        · rw [if_neg y, if_neg (fun u => y ⟨⟨u.1.1, by omega⟩, u.2⟩)]
theorem szz_sm {s : Nat → Bool} {c : Nat → Int} : ∀ {k : Nat}, k ≤ 20 → (∀ i, i < k → s i = true → 0 ≤ c i ∧ c i ≤ 2970) → szz s c k = sm (fun i => if s i = true then c i else 0) k ∧ 0 ≤ szz s c k ∧ szz s c k ≤ 2970 * k
  | 0, _, _ => by simp [szz, sm]
  | k + 1, hk, h => by
    obtain ⟨h1, h2, h3⟩ := szz_sm (k := k) (by omega) (fun i hi => h i (by omega))
    unfold szz sm
    rw [← h1]
    by_cases z : s k = true
    · have := h k (by omega) z
      rw [if_pos z, if_pos z, nz_eq (by unfold inR; omega)]
      omega
    · rw [if_neg z, if_neg z]
      omega
/-- what is left at the mouths without a reach is no more than what comes there with it -/
theorem loss_ge (hG : Good N) {g pos : Nat → Nat} (ht : Topo N g pos) {f c f' c' : Nat → Int} {k : Nat} (h1 : Flw N (-1) f c) (h2 : Flw N (k : Int) f' c') {x : Int} (hx : ∀ p, tb x p = true ↔ isM N p) : 0 ≤ szz (tb x) c' 20 ∧ szz (tb x) c' 20 ≤ szz (tb x) c 20 ∧ szz (tb x) c 20 ≤ 2970 := by
  obtain ⟨hP20, hR30, hr⟩ := id hG.1
  obtain ⟨t1, t2, t3⟩ := id ht
  obtain ⟨a1, a2, a3⟩ := water hG ht h1 N.P (Nat.le_refl _)
  obtain ⟨b1, b2, b3⟩ := water hG ht h2 N.P (Nat.le_refl _)
  have hlt : ∀ p, p < N.P → pos p < N.P := fun p hp => (t2 p hp).1
  have sP : ∀ p, tb x p = true → p < N.P := fun p hp => ((hx p).mp hp).1
  have A := szz_sm (s := tb x) (c := c) (k := 20) (by omega) (fun i _ hs => by have := a2 i (sP i hs) (hlt i (sP i hs)); omega)
  have B := szz_sm (s := tb x) (c := c') (k := 20) (by omega) (fun i _ hs => by have := b2 i (sP i hs) (hlt i (sP i hs)); omega)
  have eA : szz (tb x) c 20 = sm (fun r => if (tb x (N.ft r) = true ∧ N.ft r < 20) ∧ (r : Int) ≠ -1 then f r else 0) N.R := by
    rw [A.1, ← swap_sum (N := N) (f := f) (wo := -1) (tb x) 20]
    refine sm_congr (fun p _ => ?_)
    by_cases z : tb x p = true
    · rw [if_pos z, if_pos z]; exact (a2 p (sP p z) (hlt p (sP p z))).2.2
    · rw [if_neg z, if_neg z]
  have eB : szz (tb x) c' 20 = sm (fun r => if (tb x (N.ft r) = true ∧ N.ft r < 20) ∧ (r : Int) ≠ (k : Int) then f' r else 0) N.R := by
    rw [B.1, ← swap_sum (N := N) (f := f') (wo := (k : Int)) (tb x) 20]
    refine sm_congr (fun p _ => ?_)
    by_cases z : tb x p = true
    · rw [if_pos z, if_pos z]; exact (b2 p (sP p z) (hlt p (sP p z))).2.2
    · rw [if_neg z, if_neg z]
  have hm : ∀ r, r < N.R → (tb x (N.ft r) = true ↔ nout N (N.ft r) = 0) := fun r hr' => by
    rw [hx]
    exact ⟨fun z => z.2.2, fun z => ⟨(hr r hr').2.1, nin_pos hr', z⟩⟩
  have e1 : szz (tb x) c 20 = sm (fun r => if (r : Int) ≠ -1 ∧ pos (N.hd r) < N.P then N.gf r else 0) N.R := by
    rw [eA, ← a3]
    refine sm_congr (fun r hr' => ?_)
    have w := hr r hr'
    have w3 := hlt _ w.1
    have w4 := hlt _ w.2.1
    by_cases z : tb x (N.ft r) = true
    · rw [if_pos ⟨⟨z, by omega⟩, by omega⟩, if_pos ⟨⟨by omega, w3⟩, Or.inr (by rw [sho_all]; exact (hm r hr').mp z)⟩]
    · rw [if_neg (fun y => z y.1.1), if_neg (fun y => z ((hm r hr').mpr (by have := y.2.resolve_left (by omega); rw [sho_all] at this; exact this)))]
  have e2 : szz (tb x) c' 20 ≤ sm (fun r => if (r : Int) ≠ (k : Int) ∧ pos (N.hd r) < N.P then N.gf r else 0) N.R := by
    rw [eB, ← b3]
    refine sm_mono (fun r hr' => ?_)
    have w := hr r hr'
    have w3 := hlt _ w.1
    by_cases z : (tb x (N.ft r) = true ∧ N.ft r < 20) ∧ (r : Int) ≠ (k : Int)
    · have hsh : sho N (k : Int) (N.ft r) = 0 := by
        have h3 := (hm r hr').mp z.1.1
        have h4 : sho N (k : Int) (N.ft r) ≤ nout N (N.ft r) := cnt_mono (fun i _ hi => by
          unfold sof at hi
          simp only [decide_eq_true_eq] at hi ⊢
          exact hi.1)
        omega
      rw [if_pos z, if_pos ⟨⟨z.2, w3⟩, Or.inr hsh⟩]
      omega
    · rw [if_neg z]
      by_cases y : ((r : Int) ≠ (k : Int) ∧ pos (N.hd r) < N.P) ∧ (N.P ≤ pos (N.ft r) ∨ sho N (k : Int) (N.ft r) = 0)
      · rw [if_pos y]; exact b1 r hr' y.1.1 y.1.2
      · rw [if_neg y]; omega
  have e3 : sm (fun r => if (r : Int) ≠ (k : Int) ∧ pos (N.hd r) < N.P then N.gf r else 0) N.R ≤ sm (fun r => if (r : Int) ≠ -1 ∧ pos (N.hd r) < N.P then N.gf r else 0) N.R := sm_mono (fun r hr' => by
    have w := hr r hr'
    have w3 := hlt _ w.1
    rw [if_pos (c := (r : Int) ≠ -1 ∧ pos (N.hd r) < N.P) ⟨by omega, w3⟩]
    split <;> omega)
  have e4 : sm (fun r => if (r : Int) ≠ -1 ∧ pos (N.hd r) < N.P then N.gf r else 0) N.R ≤ N.R * 99 := sm_le (fun r hr' => by
    have w := hr r hr'
    split <;> omega)
  exact ⟨B.2.1, by omega, by omega⟩
end
