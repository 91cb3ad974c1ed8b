/-! reading: numbers on the other side, places and rivers told -/
theorem Fnd.ex {f : Nat → Int} {x : Int} : ∀ n : Nat, ∃ r : Int, Fnd f n x r
  | 0 => ⟨-1, Or.inl ⟨rfl, fun i hi => by omega⟩⟩
  | n + 1 => by
    obtain ⟨r, hr⟩ := Fnd.ex (f := f) (x := x) n
    rcases hr with ⟨a, b⟩ | ⟨i, a, b, c⟩
    · by_cases z : f n = x
      · exact ⟨n, Or.inr ⟨n, rfl, by omega, z, b⟩⟩
      · refine ⟨-1, Or.inl ⟨rfl, fun i hi => ?_⟩⟩
        by_cases y : i = n
        · rw [y]; exact z
        · exact b i (by omega)
    · exact ⟨r, Or.inr ⟨i, a, by omega, c⟩⟩
theorem Fnd.at_ {f : Nat → Int} {n : Nat} {x r : Int} (h : Fnd f n x r) (hr : r ≠ -1) : ∃ i : Nat, r = i ∧ i < n := by
  rcases h with ⟨a, -⟩ | ⟨i, a, b, -⟩
  · exact absurd a hr
  · exact ⟨i, a, b⟩
def Drf.riv (D : Drf) (x y : Int) : Drf := (D.N, D.V + 1, D.X, D.Y, fun i => if i = D.V then x else D.U i, fun i => if i = D.V then y else D.Z i)
section
variable {M0 M M' : Mem} {B : Nat → Int} {T p q k s : Nat} {D : Drf} {e : Int}
theorem t_number (hB : Rb M0 B T) (h : RS M0 T D p p k M) {lo : Int} (hlo : 0 ≤ lo ∧ lo ≤ 1) {Q : Int → Mem → Prop} (h1 : ∀ (M' : Mem) (s n : Nat) (v : Int), NuO B T p lo s n v → RS M0 T D (s + n) ((s + n : Nat) : Int) k M' → Q v M') (h0 : ∀ (M' : Mem) (a : Int) (c : Nat) (x : Int), a ≠ 0 → NuB B T p lo a c → JK M0 T a c k M' → Q x M') : f_X12_number lo 99 M Q := by
  unfold f_X12_number
  have hT := hB.2.1
  refine ⟨fun _ => t_look (h.1.rb hB) h.2.1 h.2.2.1 (fun M1 s hs hA => ?_), fun z => absurd h.2.2.2.2.1 z⟩
  have hX := h.rt hA hs.2.1
  have e2 := hX.2.1
  have e4 := hX.2.2.2.1
  have hps := hs.1
  have bad : ∀ J : Mem → Prop, (∀ M5 : Mem, RS M0 T D s p k M5 → (¬ (s < T ∧ dgt (B s)) ∨ s = p) → J M5) → ∀ w : (¬ (s < T ∧ dgt (B s)) ∨ s = p), J M1 := fun J hJ w => hJ M1 hX w
  have key : s < T → dgt (B s) → p < s → ∀ v3 : Int, v3 = M1 95 2 → jn (τ := Int → Mem → Prop) (fun (v4_8 : Int) (M_9 : Mem) => ∀ M_10 : Mem, M_10 = st M_9 95 4 (M_9 95 2) → f_X12_isIn v4_8 lo 99 M_10 (fun r_11 => (¬ r_11 = 0 → (Q v4_8 M_10)) ∧ (r_11 = 0 → (f_X12_fail 2 v3 M_10 (fun M_13 => Q v4_8 M_13))))) (fun J129 => jn (τ := Mem → Prop) (fun (M_15 : Mem) => f_X12_fail 1 (M_15 95 2) M_15 (fun M_16 => Q lo M_16)) (fun J85 => wl2 (X12_number_b49 v3 J129 J85) 5000 0 M1)) := by
    intro hsT hds hlt v3 e3
    rw [e2] at e3
    refine jn_use (P := fun J => ∀ (n : Nat) (v : Int) (M9 : Mem), Num B T s n → 0 < n → ¬ D3 B T s n → v = nv_ B s n → RS M0 T D (s + n) p k M9 → J v M9) (fun n v M9 hn hn0 hd3 hv hR9 => ?_) ?_
    · intro M10 e10
      rw [hR9.2.1] at e10
      have hR10 : RS M0 T D (s + n) ((s + n : Nat) : Int) k M10 := by rw [e10]; exact hR9.en
      have hvb := nv_b hn.1 hn.2.2.1
      refine r_isIn (fun z1 z2 => ⟨fun _ => h1 M10 s n v ⟨hs, hlt, hn, hn0, hd3, z1, hv⟩ hR10, fun w => absurd w (by omega)⟩) (fun z => ⟨fun w => absurd rfl w, fun _ => ?_⟩)
      rw [e3]
      exact t_fail hR10 (fun M' hJ => h0 M' 2 s v (by omega) ⟨s, hs, Or.inr ⟨hlt, n, hn, hn0, Or.inr ⟨hd3, by omega, rfl, rfl⟩⟩⟩ hJ)
    intro J129 hJ
    refine jn_use (P := fun J => ∀ M9 : Mem, Num B T s 2 → D3 B T s 2 → RS M0 T D (s + 2) p k M9 → J M9) (fun M9 hn hd3 hR9 => ?_) ?_
    · rw [hR9.2.1]
      exact t_fail hR9 (fun M' hJ => h0 M' 1 (s + 2) lo (by omega) ⟨s, hs, Or.inr ⟨hlt, 2, hn, by omega, Or.inl ⟨hd3, rfl, rfl⟩⟩⟩ hJ)
    intro J85 hJ85
    refine wl2_inv (I := fun (v : Int) (M9 : Mem) => ∃ n : Nat, n ≤ 2 ∧ s + n ≤ T ∧ (∀ i, i < n → dgt (B (s + i))) ∧ v = nv_ B s n ∧ RS M0 T D (s + n) p k M9) (μ := fun (_ : Int) (M9 : Mem) => T - (M9 95 2).toNat) ?_ 5000 _ _ ⟨0, by omega, by omega, fun i hi => by omega, rfl, hX⟩ (by omega)
    rintro rec _ M9 ⟨n, hn, hnT, hd, rfl, hR9⟩ hrec
    unfold X12_number_b49
    have hB9 := hR9.1.rb hB
    have hvb := nv_b hn hd
    have hnz : s + n < T → ¬ dgt (B (s + n)) → 0 < n := fun _ z => by
      rcases Nat.eq_zero_or_pos n with w | w
      · rw [w] at z; exact absurd hds z
      · exact w
    rw [hB9.1, hR9.2.1, e3]
    refine ⟨fun c => hJ n _ M9 ⟨hn, hnT, hd, fun _ z => by omega⟩ (by omega) (fun z => by have := z.2.1; omega) rfl hR9, fun c => ⟨by omega, ?_⟩⟩
    rw [tn, (hB9.2.2 (s + n) (by omega)).1]
    refine t_isDigit (fun y => ⟨fun w => absurd w (by omega), fun _ => ⟨by unfold inR; omega, fun w => ?_, fun w => ?_⟩⟩) (fun y => ⟨fun _ => hJ n _ M9 ⟨hn, hnT, hd, fun _ _ => y⟩ (hnz (by omega) y) (fun z => y z.2.2) rfl hR9, fun w => absurd rfl w⟩)
    · have y2 := y
      unfold dgt at y2
      refine ⟨by unfold inR; omega, fun v ev => ⟨by unfold inR; omega, fun M6 e6 => ?_⟩⟩
      have hR6 : RS M0 T D (s + (n + 1)) p k M6 := by rw [e6]; exact hR9.set (by omega) (by omega)
      refine hrec v M6 ⟨n + 1, by omega, by omega, fun i hi => ?_, by rw [ev]; rfl, hR6⟩ ?_
      · by_cases x : i = n
        · rw [x]; exact y
        · exact hd i (by omega)
      · show T - (M6 95 2).toNat < T - (M9 95 2).toNat
        rw [hR6.2.1, hR9.2.1]; omega
    · have en : n = 2 := by omega
      subst en
      exact hJ85 M9 ⟨hn, hnT, hd, fun z => by omega⟩ ⟨rfl, by omega, y⟩ hR9
  have bd : ∀ J30 : Mem → Prop, (∀ M5 : Mem, RS M0 T D s p k M5 → (¬ (s < T ∧ dgt (B s)) ∨ s = p) → J30 M5) → True := fun _ _ => trivial
  by_cases z : s < T
  · rw [if_pos z]
    refine t_isDigit (fun y => ?_) (fun y => ?_)
    all_goals
      refine jn_use (P := fun J => ∀ M5 : Mem, RS M0 T D s p k M5 → (¬ (s < T ∧ dgt (B s)) ∨ s = p) → J M5) (fun M5 hR5 w => ?_) ?_
      · rw [hR5.2.1]
        exact t_fail hR5 (fun M' hJ => h0 M' 1 s lo (by omega) ⟨s, hs, Or.inl ⟨w, rfl, rfl⟩⟩ hJ)
      intro J hJ
    · refine ⟨fun w => absurd w (by omega), fun _ => ⟨fun w => key z y ?_, fun w => hJ M1 hX (Or.inr ?_)⟩⟩
      · rw [e2, e4] at w; omega
      · rw [e2, e4] at w; omega
    · exact ⟨fun _ => hJ M1 hX (Or.inl (fun w => y w.2)), fun w => absurd rfl w⟩
  · rw [if_neg z]
    refine t_isDigit (fun y => absurd y.1 (by omega)) (fun y => ?_)
    refine jn_use (P := fun J => ∀ M5 : Mem, RS M0 T D s p k M5 → (¬ (s < T ∧ dgt (B s)) ∨ s = p) → J M5) (fun M5 hR5 w => ?_) ?_
    · rw [hR5.2.1]
      exact t_fail hR5 (fun M' hJ => h0 M' 1 s lo (by omega) ⟨s, hs, Or.inl ⟨w, rfl, rfl⟩⟩ hJ)
    intro J hJ
    exact ⟨fun _ => hJ M1 hX (Or.inl (fun w => z w.1)), fun w => absurd rfl w⟩
theorem k_readOldPlace (hB : Bt M0 B T) (hD : DOk D) (h : XS M0 T D p M) {v1 : Int} (hv : v1 = -1 ∨ ∃ g : Nat, g < D.N.P ∧ v1 = g) {Q : Int → Mem → Prop} (h1 : ∀ (M' : Mem) (s q i : Nat) (x y : Int), Skp B T p s → NmO B T s q x y → Fnd D.X D.N.P x i → i < D.N.P → (∀ g : Nat, v1 = g → ¬ Rch (Ew D.N.R (-1)) D.N.hd D.N.ft i g) → XS M0 T D q M' → Q i M') (hN : ∀ (M' : Mem) (s c : Nat), Skp B T p s → NmB B T s c → XF M0 1 c M' → Q (-1) M') (hF : ∀ (M' : Mem) (s q : Nat) (x y : Int), Skp B T p s → NmO B T s q x y → Fnd D.X D.N.P x (-1) → XF M0 3 s M' → Q (-1) M') (hL : ∀ (M' : Mem) (s q i g : Nat) (x y : Int), Skp B T p s → NmO B T s q x y → Fnd D.X D.N.P x i → i < D.N.P → v1 = g → Rch (Ew D.N.R (-1)) D.N.hd D.N.ft i g → XF M0 4 s M' → Q (-1) M') : f_X6_readOldPlace v1 M Q := by
  unfold f_X6_readOldPlace
  have hP := hD.1.1.1
  have hl : D.N.P ≤ lenS (shp 10) := by rw [show lenS (shp 10) = 20 by decide +kernel]; exact hP
  refine k_skip (h.bt hB) h.2.1 h.2.2.1 (fun M1 s hs hA => ?_)
  have hX := h.at_ hA hs.2.1
  intro v2 e2
  rw [hX.2.1] at e2
  refine k_readName hB hX (fun M2 q x y hn hx hX2 => ⟨fun _ => ?_, fun w => absurd w hx⟩) (fun M2 c hb hXF => ⟨fun w => absurd rfl w, fun _ => hN M2 s c hs hb hXF⟩)
  refine k_find hl (by omega) hX2.2.2.2.2.2.1.1 hX2.2.2.2.2.2.2.2.1 (fun r hr => ⟨fun w => ?_, fun w => ?_⟩)
  · obtain ⟨i, ei, hi⟩ := hr.at_ w
    subst ei
    refine ⟨fun u => h1 M2 s q i x y hs hn hr hi (fun g eg => by omega) hX2, fun u => ?_⟩
    obtain ⟨g, hg, eg⟩ : ∃ g : Nat, g < D.N.P ∧ v1 = g := hv.resolve_left u
    rw [eg]
    refine x_leads hX2.2.2.2.2.2.1 hD.1.1 hi hg (fun z => ⟨fun u => absurd u (by omega), fun _ => ?_⟩) (fun z => ⟨fun _ => h1 M2 s q i x y hs hn hr hi (fun g' eg' => by have : g' = g := by omega
                                                                                                                                                                         rw [this]; exact z) hX2, fun u => absurd rfl u⟩)
    rw [e2]
    exact k_fail hX2.1 (fun M3 hXF => hL M3 s q i g x y hs hn hr hi eg z hXF)
  · subst w
    rw [e2]
    exact k_fail hX2.1 (fun M3 hXF => hF M3 s q x y hs hn hr hXF)
theorem t_placeTold (hB : Rb M0 B T) (hO : Own M0) (hD : DOk D) (h : RS M0 T D p e k M) (hs : Skp B T p s) (he : s < T → ltr (B s) → (s : Int) ≠ e) {Q : Int → Mem → Prop} (h1 : ∀ (M' : Mem) (q i : Nat) (x y : Int), NmO B T s q x y → Fnd D.Y D.N.P y i → i < D.N.P → RS M0 T D q q k M' → M' 95 11 = s → Q i M') (h0 : ∀ (M' : Mem) (c : Nat), NmB B T s c → JK M0 T 1 c k M' → Q 0 M') (h3 : ∀ (M' : Mem) (q : Nat) (x y : Int), NmO B T s q x y → Fnd D.Y D.N.P y (-1) → JK M0 T 3 s k M' → Q 0 M') : f_X12_placeTold M Q := by
  unfold f_X12_placeTold
  have hP := hD.1.1.1
  refine t_name hB hO h hs he (fun M2 q x y hn hR2 h11 => ?_) (fun M2 c hb hJ => ?_)
  · have h5 := hR2.2.2.2.2.1
    obtain ⟨r, hr⟩ := Fnd.ex (f := D.Y) (x := y) D.N.P
    refine jn_use (P := fun J => J r) ?_ (fun J hJ => ⟨fun w => absurd h5 w, fun _ => t_named (o := 3) (by omega) (by omega) rfl hR2.2.2.2.2.2.2.2.1.1 hR2.2.2.2.2.2.2.2.2.2.1 hr hJ⟩)
    refine jn_use (P := fun J => ∀ M4 : Mem, (M4 = M2 ∧ r ≠ -1) ∨ (r = -1 ∧ JK M0 T 3 s k M4) → J M4) (fun M4 hc => ?_) (fun J hJ => ⟨fun w => absurd h5 w, fun _ => ⟨fun w => hJ M2 (Or.inl ⟨rfl, w⟩), fun w => ?_⟩⟩)
    · rcases hc with ⟨em, w⟩ | ⟨w, hJ⟩
      · subst em
        obtain ⟨i, ei, hi⟩ := hr.at_ w
        subst ei
        exact ⟨fun w => absurd h5 w, fun _ => h1 _ q i x y hn hr hi hR2 h11⟩
      · subst w
        exact ⟨fun _ => h3 M4 q x y hn hr hJ, fun w => absurd w (hJ.ne (by omega))⟩
    · rw [h11]
      exact t_fail hR2 (fun M' hJk => hJ M' (Or.inr ⟨w, hJk⟩))
  · have h5 := hJ.ne (by omega)
    refine jn_use (P := fun J => J 0) ?_ (fun J hJ => ⟨fun _ => hJ, fun z => absurd z h5⟩)
    exact jn_use (P := fun J => J M2) ⟨fun _ => h0 M2 c hb hJ, fun z => absurd z h5⟩ (fun J hJ => ⟨fun _ => hJ, fun z => absurd z h5⟩)
theorem k_readRiver (hB : Bt M0 B T) (hD : DOk D) (h : XS M0 T D p M) {Q : Int → Mem → Prop} (h1 : ∀ (M' : Mem) (s q i : Nat) (x y : Int), Skp B T p s → NmO B T s q x y → Fnd D.U D.V x i → i < D.V → XS M0 T D q M' → Q i M') (h2 : ∀ (M' : Mem) (s q : Nat) (x y : Int), Skp B T p s → NmO B T s q x y → Fnd D.U D.V x (-1) → D.V < 10 → XS M0 T (D.riv x y) q M' → Q D.V M') (hN : ∀ (M' : Mem) (s c : Nat), Skp B T p s → NmB B T s c → XF M0 1 c M' → Q (-1) M') (h5 : ∀ (M' : Mem) (s q : Nat) (x y : Int), Skp B T p s → NmO B T s q x y → Fnd D.U D.V x (-1) → ¬ D.V < 10 → XF M0 5 s M' → Q (-1) M') : f_X6_readRiver M Q := by
  unfold f_X6_readRiver
  have hV := hD.2.1
  have hl : D.V ≤ lenS (shp 11) := by rw [show lenS (shp 11) = 10 by decide +kernel]; exact hV
  refine k_skip (h.bt hB) h.2.1 h.2.2.1 (fun M1 s hs hA => ?_)
  have hX := h.at_ hA hs.2.1
  intro v2 e2
  rw [hX.2.1] at e2
  refine k_readName hB hX (fun M2 q x y hn hx hX2 => ⟨fun _ => ?_, fun w => absurd w hx⟩) (fun M2 c hb hXF => ⟨fun w => absurd rfl w, fun _ => hN M2 s c hs hb hXF⟩)
  have hd := hX2.2.2.2.2.2
  refine k_find hl (by omega) hd.2.1 hd.2.2.2 (fun r hr => ⟨fun w => ?_, fun w => ?_⟩)
  · subst w
    rw [hd.2.1]
    refine ⟨fun u => ⟨by omega, fun M8 e8 => ?_⟩, fun u => ?_⟩
    · rw [tn] at e8
      have a3 : M8 3 3 = (D.V : Int) := by rw [e8, st_o (by omega)]; exact hd.2.1
      rw [a3]
      refine ⟨by unfold inR; omega, fun M10 e10 => ?_⟩
      have b3 : M10 3 3 = (D.V : Int) + 1 := by rw [e10, st_s, if_pos rfl]
      have oo : ∀ j, j ≠ 3 → M10 3 j = M2 3 j := fun j hj => by rw [e10, st_s, if_neg hj, e8, st_o (by omega)]
      have oc : ∀ c, c ≠ 3 → c ≠ 11 → M10 c = M2 c := fun c c1 c2 => by rw [e10, st_o c1, e8, st_o c2]
      rw [b3, show (D.V : Int) + 1 - 1 = D.V by omega]
      refine ⟨by unfold inR; omega, h2 M10 s q x y hs hn hr (by omega) ⟨fun d d1 d2 => by rw [oc d d1 (by omega)]; exact hX2.1 d d1 d2, by rw [oo 7 (by omega)]; exact hX2.2.1, hX2.2.2.1, by rw [oo 4 (by omega)]; exact hX2.2.2.2.1, by rw [oo 5 (by omega)]; exact hX2.2.2.2.2.1, hd.1.of (fun c c1 c2 => oc c (by omega) (by omega)), ?_, fun p hp => by rw [oc 10 (by omega) (by omega)]; exact hd.2.2.1 p hp, fun v hv => ?_⟩⟩
      · rw [b3]; show (D.V : Int) + 1 = ((D.V + 1 : Nat) : Int); omega
      · have hv' : v < D.V + 1 := hv
        show M10 11 v = if v = D.V then x else D.U v
        rw [e10, st_o (by omega), e8, st_s]
        by_cases z : v = D.V
        · rw [if_pos z, if_pos z]
        · rw [if_neg z, if_neg z]; exact hd.2.2.2 v (by omega)
    · rw [e2]
      exact k_fail hX2.1 (fun M3 hXF => h5 M3 s q x y hs hn hr (by omega) hXF)
  · obtain ⟨i, ei, hi⟩ := hr.at_ w
    subst ei
    exact h1 M2 s q i x y hs hn hr hi hX2
theorem t_riverTold (hB : Rb M0 B T) (hO : Own M0) (hD : DOk D) (h : RS M0 T D p e k M) (hs : Skp B T p s) (he : s < T → ltr (B s) → (s : Int) ≠ e) {Q : Int → Mem → Prop} (h1 : ∀ (M' : Mem) (q i : Nat) (x y : Int), NmO B T s q x y → Fnd D.Z D.V y i → i < D.V → RS M0 T D q q k M' → Q i M') (h2 : ∀ (M' : Mem) (q : Nat) (x y : Int), NmO B T s q x y → Fnd D.Z D.V y (-1) → D.V < 10 → RS M0 T (D.riv x y) q q k M' → Q D.V M') (h0 : ∀ (M' : Mem) (c : Nat), NmB B T s c → JK M0 T 1 c k M' → Q (-1) M') (h5 : ∀ (M' : Mem) (q : Nat) (x y : Int), NmO B T s q x y → Fnd D.Z D.V y (-1) → ¬ D.V < 10 → JK M0 T 5 s k M' → Q (-1) M') : f_X12_riverTold M Q := by
  unfold f_X12_riverTold
  have hV := hD.2.1
  refine t_name hB hO h hs he (fun M2 q x y hn hR2 h11 => ⟨fun _ => ?_, fun w => absurd hR2.2.2.2.2.1 w⟩) (fun M2 c hb hJ => ⟨fun w => absurd w (hJ.ne (by omega)), fun _ => h0 M2 c hb hJ⟩)
  have hb0 := hR2.2.2.2.2.1
  have hd := hR2.2.2.2.2.2.2.2
  obtain ⟨r, hr⟩ := Fnd.ex (f := D.Z) (x := y) D.V
  refine t_named (o := 23) (by omega) (by omega) rfl hd.2.1 hd.2.2.2 hr ?_
  refine jn_use (P := fun J => ∀ M4 : Mem, (M4 = M2 ∧ (r = -1 → D.V < 10)) ∨ (r = -1 ∧ ¬ D.V < 10 ∧ JK M0 T 5 s k M4) → J M4) (fun M4 hc => ?_) (fun J hJ => ⟨fun w => hJ M2 (Or.inl ⟨rfl, fun z => absurd z w⟩), fun w => ⟨fun u => hJ M2 (Or.inl ⟨rfl, fun _ => ?_⟩), fun u => ?_⟩⟩)
  · rcases hc with ⟨em, w⟩ | ⟨w, w2, hJ⟩
    · subst em
      refine ⟨fun u => absurd hb0 u, fun _ => ⟨fun u => ?_, fun u => ?_⟩⟩
      · subst u
        have hV10 := w rfl
        rw [hd.2.1]
        refine ⟨by omega, fun M7 e7 => ?_⟩
        rw [show (23 : Int) + (D.V : Int) = ((23 + D.V : Nat) : Int) by omega, tn] at e7
        have a2 : M7 99 2 = (D.V : Int) := by rw [e7, st_s, if_neg (by omega)]; exact hd.2.1
        rw [a2]
        refine ⟨by unfold inR; omega, fun M9 e9 => ?_⟩
        have b2 : M9 99 2 = (D.V : Int) + 1 := by rw [e9, st_s, if_pos rfl]
        have oo : ∀ j, j ≠ 2 → j ≠ 23 + D.V → M9 99 j = M4 99 j := fun j j1 j2 => by rw [e9, st_s, if_neg j1, e7, st_s, if_neg j2]
        have oc : ∀ c, c ≠ 99 → M9 c = M4 c := fun c c1 => by rw [e9, st_o c1, e7, st_o c1]
        rw [b2, show (D.V : Int) + 1 - 1 = D.V by omega]
        have hR30 := hD.1.1.2.1
        have hP := hD.1.1.1
        refine ⟨by unfold inR; omega, h2 M9 q x y hn hr hV10 ⟨hR2.1.next (fun c _ c2 => oc c c2) (fun j _ _ _ _ _ _ => by rw [oc 95 (by omega)]), by rw [oc 95 (by omega)]; exact hR2.2.1, hR2.2.2.1, by rw [oc 95 (by omega)]; exact hR2.2.2.2.1, by rw [oc 95 (by omega)]; exact hb0, by rw [oc 95 (by omega)]; exact hR2.2.2.2.2.2.1, by rw [oc 95 (by omega)]; exact hR2.2.2.2.2.2.2.1, ⟨by rw [oo 0 (by omega) (by omega)]; exact hd.1.1, by rw [oo 1 (by omega) (by omega)]; exact hd.1.2.1, fun r hr => ?_⟩, ?_, fun p hp => ?_, fun v hv => ?_⟩⟩
        · rw [oo _ (by omega) (by omega), oo _ (by omega) (by omega), oo _ (by omega) (by omega), oo _ (by omega) (by omega), oo _ (by omega) (by omega)]; exact hd.1.2.2 r hr
        · rw [b2]; show (D.V : Int) + 1 = ((D.V + 1 : Nat) : Int); omega
        · have hp' : p < D.N.P := hp
          rw [oo _ (by omega) (by omega)]; exact hd.2.2.1 p hp
        · have hv' : v < D.V + 1 := hv
          show M9 99 (23 + v) = if v = D.V then y else D.Z v
          by_cases z : v = D.V
          · rw [if_pos z, e9, st_s, if_neg (by omega), e7, st_s, if_pos (by omega)]
          · rw [if_neg z, oo _ (by omega) (by omega)]; exact hd.2.2.2 v (by omega)
      · obtain ⟨i, ei, hi⟩ := hr.at_ u
        subst ei
        exact h1 _ q i x y hn hr hi hR2
    · subst w
      exact ⟨fun _ => h5 M4 q x y hn hr w2 hJ, fun u => absurd u (hJ.ne (by omega))⟩
  · rw [hd.2.1] at u; omega
  · rw [h11]
    rw [hd.2.1] at u
    exact t_fail hR2 (fun M' hJk => hJ M' (Or.inr ⟨w, by omega, hJk⟩))
end
