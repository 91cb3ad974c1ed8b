/-! reading: signs, wanted words, numbers -/
def nv_ (B : Nat → Int) (s : Nat) : Nat → Int
  | 0 => 0
  | i + 1 => 10 * nv_ B s i + B (s + i) - 48
def Num (B : Nat → Int) (T s n : Nat) : Prop := n ≤ 2 ∧ s + n ≤ T ∧ (∀ i, i < n → dgt (B (s + i))) ∧ (n < 2 → s + n < T → ¬ dgt (B (s + n)))
theorem Num.uniq {B : Nat → Int} {T s n n' : Nat} (h : Num B T s n) (h' : Num B T s n') : n' = n := by
  obtain ⟨a, b, c, d⟩ := h
  obtain ⟨a', b', c', d'⟩ := h'
  rcases Nat.lt_trichotomy n n' with z | z | z
  · exact absurd (c' n z) (d (by omega) (by omega))
  · omega
  · exact absurd (c n' z) (d' (by omega) (by omega))
theorem nv_b {B : Nat → Int} {s : Nat} : ∀ {i : Nat}, i ≤ 2 → (∀ j, j < i → dgt (B (s + j))) → 0 ≤ nv_ B s i ∧ nv_ B s i ≤ 99 ∧ (i ≤ 1 → nv_ B s i ≤ 9)
  | 0, _, _ => by unfold nv_; omega
  | 1, _, h => by
    have := h 0 (by omega)
    unfold dgt at this
    unfold nv_ nv_
    omega
  | 2, _, h => by
    have h0 := h 0 (by omega)
    have h1 := h 1 (by omega)
    unfold dgt at h0 h1
    unfold nv_ nv_ nv_
    omega
  | i + 3, hi, _ => by omega
def D3 (B : Nat → Int) (T s n : Nat) : Prop := n = 2 ∧ s + n < T ∧ dgt (B (s + n))
def NuO (B : Nat → Int) (T p : Nat) (lo : Int) (s n : Nat) (v : Int) : Prop := Skp B T p s ∧ p < s ∧ Num B T s n ∧ 0 < n ∧ ¬ D3 B T s n ∧ lo ≤ v ∧ v = nv_ B s n
def NuB (B : Nat → Int) (T p : Nat) (lo : Int) (a : Int) (c : Nat) : Prop := ∃ s, Skp B T p s ∧ (((¬ (s < T ∧ dgt (B s)) ∨ s = p) ∧ a = 1 ∧ c = s) ∨ (p < s ∧ ∃ n, Num B T s n ∧ 0 < n ∧ ((D3 B T s n ∧ a = 1 ∧ c = s + 2) ∨ (¬ D3 B T s n ∧ ¬ lo ≤ nv_ B s n ∧ a = 2 ∧ c = s))))
theorem NuO.uniq {B : Nat → Int} {T p s n s' n' : Nat} {lo v v' : Int} (h : NuO B T p lo s n v) (h' : NuO B T p lo s' n' v') : s' = s ∧ n' = n ∧ v' = v := by
  have e := h.1.uniq h'.1
  subst e
  have e := h.2.2.1.uniq h'.2.2.1
  subst e
  exact ⟨rfl, rfl, by rw [h.2.2.2.2.2.2, h'.2.2.2.2.2.2]⟩
theorem NuO.no {B : Nat → Int} {T p s n c : Nat} {lo v a : Int} (h : NuO B T p lo s n v) : ¬ NuB B T p lo a c := by
  rintro ⟨s', hs, z⟩
  have e := h.1.uniq hs
  subst e
  obtain ⟨-, h2, h3, h4, h5, h6, h7⟩ := h
  rcases z with ⟨z | z, -⟩ | ⟨-, n', hn, -, ⟨z, -⟩ | ⟨-, z, -⟩⟩
  · exact z ⟨by have := h3.2.1; omega, h3.2.2.1 0 h4⟩
  · omega
  · have e := h3.uniq hn
    subst e
    exact h5 z
  · have e := h3.uniq hn
    subst e
    omega
theorem NuB.uniq {B : Nat → Int} {T p c c' : Nat} {lo a a' : Int} (h : NuB B T p lo a c) (h' : NuB B T p lo a' c') : a' = a ∧ c' = c := by
  obtain ⟨s, hs, z⟩ := h
  obtain ⟨s', hs', z'⟩ := h'
  have e := hs.uniq hs'
  subst e
  have ex : (¬ (s < T ∧ dgt (B s)) ∨ s = p) → ∀ n, p < s → Num B T s n → 0 < n → False := fun w n h1 h2 h3 => by
    rcases w with w | w
    · exact w ⟨by have := h2.2.1; omega, h2.2.2.1 0 h3⟩
    · omega
  rcases z with ⟨z, z2⟩ | ⟨z, n, hn, z0, z2⟩ <;> rcases z' with ⟨z', z2'⟩ | ⟨z', n', hn', z0', z2'⟩
  · omega
  · exact (ex z n' z' hn' z0').elim
  · exact (ex z' n z hn z0).elim
  · have e := hn.uniq hn'
    subst e
    rcases z2 with ⟨y, y2⟩ | ⟨y, -, y2⟩ <;> rcases z2' with ⟨y', y2'⟩ | ⟨y', -, y2'⟩
    · omega
    · exact absurd y y'
    · exact absurd y' y
    · omega
section
variable {M0 M M' : Mem} {B : Nat → Int} {T p q k : Nat} {D : Drf} {e : Int}
theorem b_any (hB : Bt M B T) {s : Nat} (hs : s ≤ T) {v : Int} (hv : v = s) {Q : Int → Prop} (h : Q (if s < T then B s else -1)) : f_X10_at v M Q := by
  by_cases z : s < T
  · rw [if_pos z] at h; exact b_at hB z hv h
  · rw [if_neg z] at h; exact b_no hB (by omega) h
theorem k_takeSign (hB : Bt M0 B T) (h : XS M0 T D p M) {v : Int} (hv : 0 ≤ v) {Q : Int → Mem → Prop} (h1 : ∀ (M' : Mem) (s : Nat), Skp B T p s → (s < T ∧ B s = v) → XS M0 T D (s + 1) M' → Q 1 M') (h0 : ∀ (M' : Mem) (s : Nat), Skp B T p s → ¬ (s < T ∧ B s = v) → XS M0 T D s M' → Q 0 M') : f_X6_takeSign v M Q := by
  unfold f_X6_takeSign
  have hT := hB.2.1
  refine k_skip (h.bt hB) h.2.1 h.2.2.1 (fun M1 s hs hA => ?_)
  have hX := h.at_ hA hs.2.1
  refine b_any (hX.bt hB) hs.2.1 hX.2.1 ?_
  rw [hX.2.1]
  refine ⟨fun z => ?_, fun z => h0 M1 s hs (fun y => z (by rw [if_pos y.1]; exact y.2)) hX⟩
  have hsT : s < T := by
    rcases Nat.lt_or_ge s T with w | w
    · exact w
    · rw [if_neg (by omega)] at z; omega
  rw [if_pos hsT] at z
  refine ⟨by unfold inR; omega, fun M5 e5 => ?_⟩
  rw [e5]
  exact h1 _ s hs ⟨hsT, z⟩ (hX.at_ ((At.refl hX.2.1).set (by omega)) (by omega))
theorem k_wantEnd (hB : Bt M0 B T) (h : XS M0 T D p M) {Q : Int → Mem → Prop} (h1 : ∀ (M' : Mem) (s : Nat), Skp B T p s → (s < T ∧ B s = 59) → XS M0 T D (s + 1) M' → Q 1 M') (h0 : ∀ (M' : Mem) (s : Nat), Skp B T p s → ¬ (s < T ∧ B s = 59) → XF M0 1 s M' → Q 0 M') : f_X6_wantEnd M Q := by
  unfold f_X6_wantEnd
  refine k_takeSign hB h (by omega) (fun M1 s hs z hX => ⟨fun _ => h1 M1 s hs z hX, fun w => absurd w (by omega)⟩) (fun M1 s hs z hX => ⟨fun w => absurd rfl w, fun _ => ?_⟩)
  rw [hX.2.1]
  exact k_fail hX.1 (fun M2 hF => ⟨fun _ => h0 M2 s hs z hF, fun w => absurd rfl w⟩)
theorem k_wantWord {j : Nat} (hj : j < 6) (hB : Bt M0 B T) (h : XS M0 T D p M) {v : Int} (hv : v = (ocd j : Int)) {Q : Int → Mem → Prop} (h1 : ∀ (M' : Mem) (s q : Nat), Wrd B T p j s q → XS M0 T D q M' → Q 1 M') (h0 : ∀ (M' : Mem) (s : Nat), Skp B T p s → (∀ q, ¬ Wrd B T p j s q) → XF M0 1 s M' → Q 0 M') : f_X6_wantWord v M Q := by
  unfold f_X6_wantWord
  refine k_takeWord hj (h.bt hB) h.2.1 h.2.2.1 hv (fun M1 s q hw hA => ⟨fun _ => h1 M1 s q hw (h.at_ hA hw.2.1.2.1), fun w => absurd w (by omega)⟩) (fun M1 s hs hA hw => ⟨fun w => absurd rfl w, fun _ => ?_⟩)
  have hX := h.at_ hA hs.2.1
  rw [hX.2.1]
  exact k_fail hX.1 (fun M2 hF => ⟨fun _ => h0 M2 s hs hw hF, fun w => absurd rfl w⟩)
theorem t_takesSign {s : Nat} (hB : Rb M0 B T) (h : RS M0 T D p e k M) (hs : Skp B T p s) {v : Int} (hv : 0 ≤ v) {Q : Int → Mem → Prop} (h1 : ∀ M' : Mem, (s < T ∧ B s = v) → RS M0 T D (s + 1) e k M' → Q 1 M') (h0 : ∀ M' : Mem, ¬ (s < T ∧ B s = v) → RS M0 T D s e k M' → Q 0 M') : f_X12_takesSign v M Q := by
  unfold f_X12_takesSign
  have hT := hB.2.1
  refine ⟨fun z => absurd h.2.2.2.2.1 z, fun _ => t_look (h.1.rb hB) h.2.1 h.2.2.1 (fun M1 s' hs' hA => ?_)⟩
  have es := hs.uniq hs'
  subst es
  have hX := h.rt hA hs.2.1
  rw [hX.2.1]
  refine ⟨fun z => ?_, fun z => h0 M1 (fun y => z (by rw [if_pos y.1]; exact y.2)) hX⟩
  have hsT : s < T := by
    rcases Nat.lt_or_ge s T with w | w
    · exact w
    · rw [if_neg (by omega)] at z; omega
  rw [if_pos hsT] at z
  refine ⟨by unfold inR; omega, fun M5 e5 => ?_⟩
  rw [e5]
  exact h1 _ ⟨hsT, z⟩ (hX.set (by omega) (by omega))
theorem t_asksSign {s : Nat} (hB : Rb M0 B T) (h : RS M0 T D p e k M) (hs : Skp B T p s) {v : Int} (hv : 0 ≤ v) {Q : Mem → Prop} (h1 : ∀ M' : Mem, (s < T ∧ B s = v) → RS M0 T D (s + 1) e k M' → Q M') (h0 : ∀ M' : Mem, ¬ (s < T ∧ B s = v) → JK M0 T 1 s k M' → Q M') : f_X12_asksSign v M Q := by
  unfold f_X12_asksSign
  refine ⟨fun z => absurd h.2.2.2.2.1 z, fun _ => t_takesSign hB h hs hv (fun M1 z hX => ⟨fun _ => h1 M1 z hX, fun w => absurd w (by omega)⟩) (fun M1 z hX => ⟨fun w => absurd rfl w, fun _ => ?_⟩)⟩
  rw [hX.2.1]
  exact t_fail hX (fun M2 hJ => h0 M2 z hJ)
theorem t_take {j s : Nat} (hj : j < 6) (hB : Rb M0 B T) (hO : Own M0) (h : RS M0 T D p e k M) (hs : Skp B T p s) (he : s < T → ltr (B s) → (s : Int) ≠ e) {Q : Int → Mem → Prop} (h1 : ∀ (M' : Mem) (q : Nat), Wrd B T p j s q → RS M0 T D q q k M' → Q 1 M') (h0 : ∀ M' : Mem, (∀ q, ¬ Wrd B T p j s q) → RS M0 T D s e k M' → Q 0 M') : f_X12_takes (j : Int) M Q := by
  refine t_takes hj (h.1.rb hB) (h.1.own hO) h.2.1 h.2.2.1 h.2.2.2.2.1 (fun M1 s' q hw hne hA => ?_) (fun M1 s' hs' hA hno => ?_)
  · have es := hs.uniq hw.1
    subst es
    exact h1 M1 q hw (h.re hA hw.2.1.2.1)
  · have es := hs.uniq hs'
    subst es
    refine h0 M1 (fun q hw => hno ?_ q hw) (h.rt hA hs.2.1)
    rw [h.2.2.2.1]
    exact he (hw.pos hj).2.1 (hw.pos hj).2.2
theorem t_asks {j s : Nat} (hj : j < 6) (hB : Rb M0 B T) (hO : Own M0) (h : RS M0 T D p e k M) (hs : Skp B T p s) (he : s < T → ltr (B s) → (s : Int) ≠ e) {Q : Mem → Prop} (h1 : ∀ (M' : Mem) (q : Nat), Wrd B T p j s q → RS M0 T D q q k M' → Q M') (h0 : ∀ M' : Mem, (∀ q, ¬ Wrd B T p j s q) → JK M0 T 1 s k M' → Q M') : f_X12_asks (j : Int) M Q := by
  unfold f_X12_asks
  refine ⟨fun z => absurd h.2.2.2.2.1 z, fun _ => t_take hj hB hO h hs he (fun M1 q hw hX => ⟨fun _ => h1 M1 q hw hX, fun w => absurd w (by omega)⟩) (fun M1 hw hX => ⟨fun w => absurd rfl w, fun _ => ?_⟩)⟩
  rw [hX.2.1]
  exact t_fail hX (fun M2 hJ => h0 M2 hw hJ)
theorem k_readNumber (hB : Bt M0 B T) (h : XS M0 T D p M) {lo : Int} (hlo : 0 ≤ lo ∧ lo ≤ 1) {Q : Int → Mem → Prop} (h1 : ∀ (M' : Mem) (s n : Nat) (v : Int), NuO B T p lo s n v → ¬ (s + n < T ∧ ltr (B (s + n))) → XS M0 T D (s + n) M' → Q v M') (h2 : ∀ (M' : Mem) (s n : Nat) (v : Int), NuO B T p lo s n v → (s + n < T ∧ ltr (B (s + n))) → XF M0 1 ((s + n : Nat) : Int) M' → Q (-1) M') (h0 : ∀ (M' : Mem) (a : Int) (c : Nat), a ≠ 0 → NuB B T p lo a c → XF M0 a c M' → Q (-1) M') : f_X6_readNumber lo M Q := by
  unfold f_X6_readNumber
  have hT := hB.2.1
  have hpT := h.2.2.1
  have dig : ∀ {i : Nat}, dgt (if i < T then B i else -1) → i < T ∧ dgt (B i) := fun {i} z => by
    rcases Nat.lt_or_ge i T with w | w
    · rw [if_pos w] at z; exact ⟨w, z⟩
    · rw [if_neg (by omega)] at z; unfold dgt at z; omega
  have let_ : ∀ {i : Nat}, ltr (if i < T then B i else -1) → i < T ∧ ltr (B i) := fun {i} z => by
    rcases Nat.lt_or_ge i T with w | w
    · rw [if_pos w] at z; exact ⟨w, z⟩
    · rw [if_neg (by omega)] at z; unfold ltr at z; omega
  rw [h.2.1]
  refine b_any (h.bt hB) hpT rfl (k_isDigit (fun z => ⟨fun w => absurd w (by omega), fun _ => ?_⟩) (fun z => ⟨fun _ => ?_, fun w => absurd rfl w⟩))
  · have hs : Skp B T p p := ⟨by omega, hpT, fun i i1 i2 => by omega, fun _ y => by have := (dig z).2; unfold dgt at this; unfold blk at y; omega⟩
    exact k_fail h.1 (fun M2 hF => h0 M2 1 p (by omega) ⟨p, hs, Or.inl ⟨Or.inr rfl, rfl, rfl⟩⟩ hF)
  refine k_skip (h.bt hB) h.2.1 hpT (fun M1 s hs hA => ?_)
  have hX := h.at_ hA hs.2.1
  rw [hX.2.1]
  intro v2 ev2
  have hps : ∀ n, Num B T s n → 0 < n → p < s := fun n hn h0 => by
    rcases Nat.lt_or_ge p s with w | w
    · exact w
    · have e : s = p := by have := hs.1; omega
      refine absurd ?_ z
      have a := hn.2.2.1 0 h0
      have b := hn.2.1
      rw [Nat.add_zero, e] at a
      rw [if_pos (by omega)]
      exact a
  refine jn_use (P := fun J => ∀ (n : Nat) (v3 : Int) (M8 : Mem), Num B T s n → v3 = nv_ B s n → XS M0 T D (s + n) M8 → J v3 M8) (fun n v3 M8 hn hv3 hX8 => ?_) ?_
  · have e7 := hX8.2.1
    have hB8 := hX8.bt hB
    have hvb := nv_b hn.1 hn.2.2.1
    refine jn_use (P := fun J => (n = 0 ∨ (0 < n ∧ D3 B T s n)) → J M8) (fun w => ?_) ?_
    · rw [e7]
      refine k_fail hX8.1 (fun M2 hF => h0 M2 1 (s + n) (by omega) ⟨s, hs, ?_⟩ hF)
      rcases w with w | ⟨w, w2⟩
      · refine Or.inl ⟨Or.inl (fun y => ?_), rfl, by omega⟩
        subst w
        exact hn.2.2.2 (by omega) (by omega) y.2
      · exact Or.inr ⟨hps n hn w, n, hn, w, Or.inl ⟨w2, rfl, by have := w2.1; omega⟩⟩
    intro J hJ
    rw [e7]
    refine ⟨fun w => hJ (Or.inl (by omega)), fun w => ?_⟩
    have hn0 : 0 < n := by omega
    refine b_any hB8 hX8.2.2.1 rfl (k_isDigit (fun y => ⟨fun u => absurd u (by omega), fun _ => hJ (Or.inr ⟨hn0, ?_⟩)⟩) (fun y => ⟨fun _ => ⟨fun u => ?_, fun u => ?_⟩, fun u => absurd rfl u⟩))
    · have d := dig y
      refine ⟨?_, d⟩
      rcases Nat.lt_or_ge n 2 with x | x
      · exact absurd d.2 (hn.2.2.2 x d.1)
      · have := hn.1; omega
    · have hno : NuO B T p lo s n v3 := ⟨hs, hps n hn hn0, hn, hn0, fun x => y (by rw [if_pos x.2.1]; exact x.2.2), u, hv3⟩
      refine b_any hB8 hX8.2.2.1 rfl (k_isLetter (fun x => ⟨fun u => absurd u (by omega), fun _ => k_fail hX8.1 (fun M2 hF => h2 M2 s n v3 hno (let_ x) hF)⟩) (fun x => ⟨fun _ => h1 M8 s n v3 hno (fun y => x (by rw [if_pos y.1]; exact y.2)) hX8, fun u => absurd rfl u⟩))
    · rw [ev2]
      exact k_fail hX8.1 (fun M2 hF => h0 M2 2 s (by omega) ⟨s, hs, Or.inr ⟨hps n hn hn0, n, hn, hn0, Or.inr ⟨fun x => y (by rw [if_pos x.2.1]; exact x.2.2), by rw [← hv3]; exact u, rfl, rfl⟩⟩⟩ hF)
  intro J hJ
  refine wl3_inv (I := fun (v3 v4 : Int) (M8 : Mem) => ∃ n : Nat, v4 = n ∧ n ≤ 2 ∧ (∀ i, i < n → dgt (B (s + i))) ∧ v3 = nv_ B s n ∧ XS M0 T D (s + n) M8) (μ := fun (_ v4 : Int) (_ : Mem) => 2 - v4.toNat) ?_ 5000 _ _ _ ⟨0, rfl, by omega, fun i hi => by omega, rfl, hX⟩ (by omega)
  rintro rec _ _ M8 ⟨n, rfl, hn, hd, rfl, hX8⟩ hrec
  unfold X6_readNumber_b43
  have e7 := hX8.2.1
  have hB8 := hX8.bt hB
  have hvb := nv_b hn hd
  rw [e7]
  refine ⟨fun c => hJ n _ M8 ⟨hn, hX8.2.2.1, hd, fun y => by omega⟩ rfl hX8, fun c => ?_⟩
  refine b_any hB8 hX8.2.2.1 rfl (k_isDigit (fun y => ⟨fun u => absurd u (by omega), fun _ => ?_⟩) (fun y => ⟨fun _ => hJ n _ M8 ⟨hn, hX8.2.2.1, hd, fun _ x w => y (by rw [if_pos x]; exact w)⟩ rfl hX8, fun u => absurd rfl u⟩))
  have d := dig y
  have d2 := d.2
  unfold dgt at d2
  refine b_at hB8 d.1 rfl ⟨by unfold inR; omega, fun v3 e3 => ⟨by unfold inR; omega, fun M9 e9 => ⟨by unfold inR; omega, fun v4 e4 => ?_⟩⟩⟩
  refine hrec v3 v4 M9 ⟨n + 1, by omega, by omega, fun i hi => ?_, ?_, ?_⟩ (by omega)
  · by_cases x : i = n
    · rw [x]; exact d.2
    · exact hd i (by omega)
  · rw [e3]; rfl
  · rw [e9]
    exact hX8.at_ ((At.refl e7).set (by omega)) (by have := d.1; omega)
end
