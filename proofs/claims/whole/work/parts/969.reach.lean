/-! reading: the end of a reach, with what the other reader will do -/
def Fre (B : Nat → Int) (T p : Nat) (e : Int) : Prop := e ≤ p ∧ ((p : Int) = e → p < T → ¬ ltr (B p))
theorem Fre.he {B : Nat → Int} {T p s : Nat} {e : Int} (h : Fre B T p e) (hs : Skp B T p s) : s < T → ltr (B s) → (s : Int) ≠ e := fun h1 h2 h3 => by
  have a := h.1
  have b := hs.1
  have : s = p := by omega
  subst this
  exact h.2 h3 h1 h2
theorem Fre.skp {B : Nat → Int} {T p s : Nat} {e : Int} (h : Fre B T p e) (hs : Skp B T p s) : Fre B T s e := ⟨by have := h.1; have := hs.1; omega, fun z h1 h2 => h.he hs h1 h2 z⟩
theorem Wnd.fre {B : Nat → Int} {T p q : Nat} (h : Wnd B T p q) : Fre B T q q := ⟨Int.le_refl _, fun _ => h.2.2.2⟩
def Drf.lay (D : Drf) (a b : Nat) (l g v : Int) : Drf := (D.N.add a b l g v, D.V, D.X, D.Y, D.U, D.Z)
def tS (Q : Mem → Prop) (M : Mem) : Prop := f_X12_asksSign 59 M (fun M_8 => inR ((M_8 95 14) + 1) ∧ ∀ M_10 : Mem, M_10 = st M_8 95 14 ((M_8 95 14) + 1) → Q M_10)
def tC (a b l g : Int) (Q : Mem → Prop) (M : Mem) : Prop := f_X12_takes 5 M (fun r_15 M_16 => jn (τ := Int → Mem → Prop) (fun (s0_17 : Int) (M_18 : Mem) => (¬ M_18 95 5 = 0 → (Q M_18)) ∧ (M_18 95 5 = 0 → (f_X12_laysReach 99 a b l g s0_17 M_18 (fun M_19 => Q M_19)))) (fun J112 => (r_15 = 0 → (J112 (-1) M_16)) ∧ (¬ (r_15 = 0) → (f_X12_riverTold M_16 (fun r_21 M_22 => J112 r_21 M_22)))))
def tB (a b l : Int) (Q : Mem → Prop) (M : Mem) : Prop := f_X12_takes 4 M (fun r_11 M_12 => jn (τ := Int → Mem → Prop) (fun (s0_13 : Int) (M_14 : Mem) => tC a b l s0_13 Q M_14) (fun J94 => (r_11 = 0 → (J94 0 M_12)) ∧ (¬ (r_11 = 0) → (f_X12_number 0 99 M_12 (fun r_24 M_25 => J94 r_24 M_25)))))
def kC (a b l g : Int) (Q : Int → Mem → Prop) (M : Mem) : Prop := f_X6_takeWord 139866147 M (fun r_18 M_19 => jn (τ := Int → Mem → Prop) (fun (s0_20 : Int) (M_21 : Mem) => (¬ M_21 3 4 = 0 → (Q 0 M_21)) ∧ (M_21 3 4 = 0 → (f_X6_wantEnd M_21 (fun r_22 M_23 => (¬ r_22 = 0 → (f_X5_lay 4 a b l g s0_20 M_23 (fun M_24 => Q 1 M_24))) ∧ (r_22 = 0 → (Q 0 M_23)))))) (fun J140 => (r_18 = 0 → (J140 (-1) M_19)) ∧ (¬ (r_18 = 0) → (f_X6_readRiver M_19 (fun r_27 M_28 => J140 r_27 M_28)))))
/-- from draft D at p the other reader comes to D' at p' -/
def CtOk (B : Nat → Int) (T : Nat) (P : (Mem → Prop) → Mem → Prop) (D : Drf) (p : Nat) (D' : Drf) (p' : Nat) : Prop := ∀ (M0 : Mem) (e : Int) (k : Nat) (M : Mem) (Q : Mem → Prop), Rb M0 B T → Own M0 → 1 ≤ k → k ≤ 40 → Fre B T p e → RS M0 T D p e k M → (∀ (M' : Mem) (e' : Int), Fre B T p' e' → RS M0 T D' p' e' (k + 1) M' → Q M') → P Q M
/-- from draft D at p the other reader fails likewise -/
def CtNo (B : Nat → Int) (T : Nat) (P : (Mem → Prop) → Mem → Prop) (D : Drf) (p : Nat) (a c : Int) : Prop := ∀ (M0 : Mem) (e : Int) (k : Nat) (M : Mem) (Q : Mem → Prop), Rb M0 B T → Own M0 → 1 ≤ k → k ≤ 40 → Fre B T p e → RS M0 T D p e k M → (∀ M' : Mem, JK M0 T a c (k + 1) M' → Q M') → P Q M
section
variable {M0 M M' : Mem} {B : Nat → Int} {T p q k s : Nat} {D : Drf} {e : Int}
theorem RS.more {v : Int} (h : RS M0 T D p e k M) (hv : v = ((k + 1 : Nat) : Int)) : RS M0 T D p e (k + 1) (st M 95 14 v) := by
  have o : ∀ j, j ≠ 14 → st M 95 14 v 95 j = M 95 j := fun j hj => by rw [st_s, if_neg hj]
  refine ⟨h.1.next (fun c h1 _ => by rw [st_o h1]) (fun j _ _ _ _ _ h6 => o j h6), ?_, h.2.2.1, ?_, ?_, ?_, ?_, h.2.2.2.2.2.2.2.of (by rw [st_o (by omega)])⟩
  · rw [o 2 (by omega)]; exact h.2.1
  · rw [o 4 (by omega)]; exact h.2.2.2.1
  · rw [o 5 (by omega)]; exact h.2.2.2.2.1
  · rw [o 6 (by omega)]; exact h.2.2.2.2.2.1
  · rw [st_s, if_pos rfl]; exact hv
theorem JK.more {a c v : Int} (h : JK M0 T a c k M) (hv : v = ((k + 1 : Nat) : Int)) : JK M0 T a c (k + 1) (st M 95 14 v) := by
  have o : ∀ j, j ≠ 14 → st M 95 14 v 95 j = M 95 j := fun j hj => by rw [st_s, if_neg hj]
  obtain ⟨p, hp, hp2⟩ := h.2.1
  exact ⟨h.1.next (fun c h1 _ => by rw [st_o h1]) (fun j _ _ _ _ _ h6 => o j h6), ⟨p, hp, by rw [o 2 (by omega)]; exact hp2⟩, by rw [o 5 (by omega)]; exact h.2.2.1, by rw [o 6 (by omega)]; exact h.2.2.2.1, by rw [st_s, if_pos rfl]; exact hv⟩
theorem tS_bad {a c : Int} (h : JK M0 T a c k M) (ha : a ≠ 0) (hk : k ≤ 40) {Q : Mem → Prop} (hQ : ∀ M' : Mem, JK M0 T a c (k + 1) M' → Q M') : tS Q M := by
  unfold tS
  refine t_asksSignBad (h.ne ha) ?_
  rw [h.2.2.2.2]
  exact ⟨by unfold inR; omega, fun M10 e10 => by rw [e10]; exact hQ _ (h.more (by omega))⟩
theorem tS_ok (hB : Rb M0 B T) (h : RS M0 T D p e k M) (hs : Skp B T p s) (hk : k ≤ 40) {Q : Mem → Prop} (h1 : (s < T ∧ B s = 59) → ∀ M' : Mem, RS M0 T D (s + 1) e (k + 1) M' → Q M') (h0 : ¬ (s < T ∧ B s = 59) → ∀ M' : Mem, JK M0 T 1 s (k + 1) M' → Q M') : tS Q M := by
  unfold tS
  refine t_asksSign hB h hs (by omega) (fun M1 z hR => ?_) (fun M1 z hJ => ?_)
  · rw [hR.2.2.2.2.2.2.1]
    exact ⟨by unfold inR; omega, fun M10 e10 => by rw [e10]; exact h1 z _ (hR.more (by omega))⟩
  · rw [hJ.2.2.2.2]
    exact ⟨by unfold inR; omega, fun M10 e10 => by rw [e10]; exact h0 z _ (hJ.more (by omega))⟩
theorem t_layR {a b : Nat} {l g v : Int} (h : RS M0 T D p e k M) (hR : D.N.R < 30) (hP : D.N.P ≤ 20) (hV : D.V ≤ 10) {Q : Mem → Prop} (hQ : ∀ M' : Mem, RS M0 T (D.lay a b l g v) p e k M' → Q M') : f_X12_laysReach 99 (a : Int) (b : Int) l g v M Q := by
  have hd := h.2.2.2.2.2.2.2
  refine r_lay (by decide +kernel) hd.1 hR (fun M' f1 f2 f3 => hQ M' ⟨h.1.next (fun c _ c2 => f1 c c2) (fun j _ _ _ _ _ _ => by rw [f1 95 (by omega)]), by rw [f1 95 (by omega)]; exact h.2.1, h.2.2.1, by rw [f1 95 (by omega)]; exact h.2.2.2.1, by rw [f1 95 (by omega)]; exact h.2.2.2.2.1, by rw [f1 95 (by omega)]; exact h.2.2.2.2.2.1, by rw [f1 95 (by omega)]; exact h.2.2.2.2.2.2.1, f3, by rw [f2 2 (by omega) (by omega)]; exact hd.2.1, fun p hp => ?_, fun v hv => ?_⟩)
  · have hp' : p < D.N.P := hp
    rw [f2 _ (by omega) (by omega)]; exact hd.2.2.1 p hp'
  · have hv' : v < D.V := hv
    rw [f2 _ (by omega) (by omega)]; exact hd.2.2.2 v hv'
theorem k_lay {a b : Nat} {l g v : Int} (h : XS M0 T D p M) (hR : D.N.R < 30) {Q : Mem → Prop} (hQ : ∀ M' : Mem, XS M0 T (D.lay a b l g v) p M' → Q M') : f_X5_lay 4 (a : Int) (b : Int) l g v M Q := by
  have hd := h.2.2.2.2.2
  refine x_lay hd.1 hR (fun M' f1 f2 => hQ M' ⟨fun d d1 d2 => by rw [f1 d (by omega)]; exact h.1 d d1 d2, by rw [f1 3 (by omega)]; exact h.2.1, h.2.2.1, by rw [f1 3 (by omega)]; exact h.2.2.2.1, by rw [f1 3 (by omega)]; exact h.2.2.2.2.1, f2, by rw [f1 3 (by omega)]; exact hd.2.1, fun p hp => by rw [f1 10 (by omega)]; exact hd.2.2.1 p hp, fun v hv => by rw [f1 11 (by omega)]; exact hd.2.2.2 v hv⟩)
/-- what is known of a reach before it is laid -/
def Rgt (D : Drf) (a b : Nat) (l g : Int) : Prop := DOk D ∧ a < D.N.P ∧ b < D.N.P ∧ D.N.R < 30 ∧ (1 ≤ l ∧ l ≤ 99) ∧ (0 ≤ g ∧ g ≤ 99) ∧ ¬ Rch (Ew D.N.R (-1)) D.N.hd D.N.ft b a
theorem Rgt.ok {a b : Nat} {l g v : Int} (h : Rgt D a b l g) (hv : -1 ≤ v ∧ v < D.V) : DOk (D.lay a b l g v) := by
  obtain ⟨hD, ha, hb, hR, hl, hg, hno⟩ := h
  refine ⟨good_add hD.1 ha hb hR hl hg ⟨hv.1, by have := hD.2.1; omega⟩ hno, hD.2.1, fun r hr => ?_, hD.2.2.2⟩
  show (if r = D.N.R then v else D.N.rv r) < (D.V : Int)
  by_cases z : r = D.N.R
  · rw [if_pos z]; exact hv.2
  · rw [if_neg z]
    have hr' : r < D.N.R + 1 := hr
    exact hD.2.2.1 r (by omega)
theorem DOk.riv {x y : Int} (h : DOk D) (hV : D.V < 10) (hn : Nm x y) : DOk (D.riv x y) := by
  refine ⟨h.1, hV, fun r hr => ?_, h.2.2.2.1, fun v hv => ?_⟩
  · have := h.2.2.1 r hr
    show D.N.rv r < ((D.V + 1 : Nat) : Int)
    omega
  · have hv' : v < D.V + 1 := hv
    show Nm (if v = D.V then x else D.U v) (if v = D.V then y else D.Z v)
    by_cases z : v = D.V
    · rw [if_pos z, if_pos z]; exact hn
    · rw [if_neg z, if_neg z]; exact h.2.2.2.2 v (by omega)
theorem Fnd.zr {x y r : Int} (hD : DOk D) (hn : Nm x y) (h : Fnd D.U D.V x r) : Fnd D.Z D.V y r := h.same hn hD.2.2.2.2
theorem Fnd.yr {x y r : Int} (hD : DOk D) (hn : Nm x y) (h : Fnd D.X D.N.P x r) : Fnd D.Y D.N.P y r := h.same hn hD.2.2.2.1
theorem st_C {a b : Nat} {l g : Int} (hB : Bt M0 B T) (hg : Rgt D a b l g) (h : XS M0 T D p M) {Q : Int → Mem → Prop} (h1 : ∀ (M' : Mem) (D' : Drf) (p' : Nat), DOk D' → D'.N.R = D.N.R + 1 → p < p' → XS M0 T D' p' M' → CtOk B T (fun Q M => tC a b l g (tS Q) M) D p D' p' → Q 1 M') (h0 : ∀ (M' : Mem) (x c : Int), x ≠ 0 → XF M0 x c M' → CtNo B T (fun Q M => tC a b l g (tS Q) M) D p x c → Q 0 M') : kC a b l g Q M := by
  obtain ⟨hD, ha, hb, hR, hl, hgf, hno⟩ := id hg
  have hP := hD.1.1.1
  have hV := hD.2.1
  unfold kC
  /- laying with river v at draft D1, from p1 on; pre says how the other reader comes to D1 at p1 -/
  have fin : ∀ (D1 : Drf) (p1 : Nat) (v : Int) (M1 : Mem), Rgt D1 a b l g → D1.N = D.N → p ≤ p1 → -1 ≤ v ∧ v < D1.V → XS M0 T D1 p1 M1 → (∀ (M0' : Mem) (e : Int) (k : Nat) (M : Mem) (Q : Mem → Prop), Rb M0' B T → Own M0' → Fre B T p e → RS M0' T D p e k M → (∀ (M' : Mem) (e' : Int), Fre B T p1 e' → RS M0' T D1 p1 e' k M' → f_X12_laysReach 99 a b l g v M' Q) → tC a b l g Q M) → ((¬ M1 3 4 = 0 → (Q 0 M1)) ∧ (M1 3 4 = 0 → (f_X6_wantEnd M1 (fun r_22 M_23 => (¬ r_22 = 0 → (f_X5_lay 4 a b l g v M_23 (fun M_24 => Q 1 M_24))) ∧ (r_22 = 0 → (Q 0 M_23)))))) := by
    intro D1 p1 v M1 hg1 hN1 hp1 hv hX1 pre
    have hR1 : D1.N.R < 30 := by rw [hN1]; exact hR
    have hP1 : D1.N.P ≤ 20 := by rw [hN1]; exact hP
    refine ⟨fun w => absurd hX1.2.2.2.1 w, fun _ => k_wantEnd hB hX1 (fun M2 s hs hc hX2 => ⟨fun _ => k_lay hX2 hR1 (fun M3 hX3 => h1 M3 _ (s + 1) (hg1.ok hv) (by show D1.N.R + 1 = _; rw [hN1]) (by have := hs.1; omega) hX3 ?_), fun w => absurd w (by omega)⟩) (fun M2 s hs hc hF => ⟨fun w => absurd rfl w, fun _ => h0 M2 1 s (by omega) hF ?_⟩)⟩
    · intro M0' e k M Q' b1 b2 k0 k1 hf hRS hQ
      refine pre M0' e k M _ b1 b2 hf hRS (fun M' e' hf' hRS' => t_layR hRS' hR1 hP1 hg1.1.2.1 (fun M4 hR4 => tS_ok b1 hR4 hs k1 (fun _ M5 hR5 => hQ M5 e' ⟨?_, fun z => ?_⟩ hR5) (fun z => absurd hc z)))
      · have := hf'.1; have := hs.1; omega
      · have := hf'.1; have := hs.1; omega
    · intro M0' e k M Q' b1 b2 k0 k1 hf hRS hQ
      exact pre M0' e k M _ b1 b2 hf hRS (fun M' e' hf' hRS' => t_layR hRS' hR1 hP1 hg1.1.2.1 (fun M4 hR4 => tS_ok b1 hR4 hs k1 (fun z => absurd z hc) (fun _ M5 hJ5 => hQ M5 hJ5)))
  have bad : ∀ (x c : Int) (M1 : Mem), x ≠ 0 → XF M0 x c M1 → (∀ (M0' : Mem) (e : Int) (k : Nat) (M : Mem) (Q : Mem → Prop), Rb M0' B T → Own M0' → Fre B T p e → RS M0' T D p e k M → (∀ M' : Mem, JK M0' T x c k M' → Q M') → tC a b l g Q M) → ∀ v : Int, ((¬ M1 3 4 = 0 → (Q 0 M1)) ∧ (M1 3 4 = 0 → (f_X6_wantEnd M1 (fun r_22 M_23 => (¬ r_22 = 0 → (f_X5_lay 4 a b l g v M_23 (fun M_24 => Q 1 M_24))) ∧ (r_22 = 0 → (Q 0 M_23)))))) := by
    intro x c M1 hx hF pre v
    refine ⟨fun _ => h0 M1 x c hx hF ?_, fun w => absurd (hF.2.1.symm.trans w) hx⟩
    intro M0' e k M Q' b1 b2 k0 k1 hf hRS hQ
    exact pre M0' e k M _ b1 b2 hf hRS (fun M' hJ => tS_bad hJ hx k1 hQ)
  refine k_takeWord (k := 5) (by omega) (h.bt hB) h.2.1 h.2.2.1 rfl (fun M1 s q hw hA => ?_) (fun M1 s hs hA hw => ?_)
  · have hX1 := h.at_ hA hw.2.1.2.1
    have hpq : p ≤ q := by have := hw.1.1; have := hw.2.1.1; omega
    refine jn_use (P := fun J => (∀ (D1 : Drf) (p1 : Nat) (v : Int) (M1 : Mem), Rgt D1 a b l g → D1.N = D.N → p ≤ p1 → -1 ≤ v ∧ v < D1.V → XS M0 T D1 p1 M1 → (∀ (M0' : Mem) (e : Int) (k : Nat) (M : Mem) (Q : Mem → Prop), Rb M0' B T → Own M0' → Fre B T p e → RS M0' T D p e k M → (∀ (M' : Mem) (e' : Int), Fre B T p1 e' → RS M0' T D1 p1 e' k M' → f_X12_laysReach 99 a b l g v M' Q) → tC a b l g Q M) → J v M1) ∧ (∀ (x c : Int) (M1 : Mem), x ≠ 0 → XF M0 x c M1 → (∀ (M0' : Mem) (e : Int) (k : Nat) (M : Mem) (Q : Mem → Prop), Rb M0' B T → Own M0' → Fre B T p e → RS M0' T D p e k M → (∀ M' : Mem, JK M0' T x c k M' → Q M') → tC a b l g Q M) → ∀ v : Int, J v M1)) ⟨fin, bad⟩ ?_
    rintro J ⟨hJ1, hJ2⟩
    /- the other reader up to the river's name -/
    have up : ∀ (M0' : Mem) (e : Int) (k : Nat) (M : Mem) (Q : Mem → Prop), Rb M0' B T → Own M0' → Fre B T p e → RS M0' T D p e k M → (∀ (M' : Mem) (J : Int → Mem → Prop), (∀ (v : Int) (M_18 : Mem), ((¬ M_18 95 5 = 0 → (Q M_18)) ∧ (M_18 95 5 = 0 → (f_X12_laysReach 99 a b l g v M_18 (fun M_19 => Q M_19)))) → J v M_18) → RS M0' T D q q k M' → f_X12_riverTold M' (fun r_21 M_22 => J r_21 M_22)) → tC a b l g Q M := by
      intro M0' e k M Q' b1 b2 hf hRS hQ
      unfold tC
      refine t_take (j := 5) (by omega) b1 b2 hRS hw.1 (hf.he hw.1) (fun M2 q' hw' hR2 => ?_) (fun M2 hno' _ => absurd hw (hno' q))
      have eq := hw.2.1.uniq hw'.2.1
      subst eq
      exact jn_use (P := fun J => ∀ (v : Int) (M_18 : Mem), ((¬ M_18 95 5 = 0 → (Q' M_18)) ∧ (M_18 95 5 = 0 → (f_X12_laysReach 99 a b l g v M_18 (fun M_19 => Q' M_19)))) → J v M_18) (fun v M3 hh => hh) (fun J hJ => ⟨fun w => absurd w (by omega), fun _ => hQ M2 J hJ hR2⟩)
    have hfq : Fre B T q q := hw.2.1.fre
    refine ⟨fun w => absurd w (by omega), fun _ => k_readRiver hB hD hX1 (fun M2 s2 q2 i x y hs2 hn hr hi hX2 => ?_) (fun M2 s2 q2 x y hs2 hn hr hV10 hX2 => ?_) (fun M2 s2 c hs2 hb2 hF => ?_) (fun M2 s2 q2 x y hs2 hn hr hV10 hF => ?_)⟩
    · refine hJ1 D q2 i M2 hg rfl (by have := hs2.1; have := hn.2.1; omega) ⟨by omega, by omega⟩ hX2 (fun M0' e k M Q' b1 b2 hf hRS hQ => up M0' e k M Q' b1 b2 hf hRS (fun M3 J hJ hR3 => t_riverTold b1 b2 hD hR3 hs2 (hfq.he hs2) (fun M4 q4 i4 x4 y4 n4 r4 l4 hR4 => ?_) (fun M4 q4 x4 y4 n4 r4 _ _ => ?_) (fun M4 c4 b4 _ => absurd b4 hn.no) (fun M4 q4 x4 y4 n4 r4 _ _ => ?_)))
      · obtain ⟨rfl, rfl, rfl⟩ := hn.uniq n4
        have ei := (hr.zr hD hn.nm).uniq r4
        rw [ei]
        exact hJ _ _ ⟨fun w => absurd hR4.2.2.2.2.1 w, fun _ => hQ M4 _ hn.1.fre hR4⟩
      · obtain ⟨rfl, rfl, rfl⟩ := hn.uniq n4
        have ei := (hr.zr hD hn.nm).uniq r4
        omega
      · obtain ⟨rfl, rfl, rfl⟩ := hn.uniq n4
        have ei := (hr.zr hD hn.nm).uniq r4
        omega
    · have hg' : Rgt (D.riv x y) a b l g := ⟨hD.riv hV10 hn.nm, ha, hb, hR, hl, hgf, hno⟩
      refine hJ1 (D.riv x y) q2 D.V M2 hg' rfl (by have := hs2.1; have := hn.2.1; omega) ⟨by omega, by show (D.V : Int) < ((D.V + 1 : Nat) : Int); omega⟩ hX2 (fun M0' e k M Q' b1 b2 hf hRS hQ => up M0' e k M Q' b1 b2 hf hRS (fun M3 J hJ hR3 => t_riverTold b1 b2 hD hR3 hs2 (hfq.he hs2) (fun M4 q4 i4 x4 y4 n4 r4 l4 hR4 => ?_) (fun M4 q4 x4 y4 n4 r4 _ hR4 => ?_) (fun M4 c4 b4 _ => absurd b4 hn.no) (fun M4 q4 x4 y4 n4 r4 v4 _ => absurd hV10 v4)))
      · obtain ⟨rfl, rfl, rfl⟩ := hn.uniq n4
        have ei := (hr.zr hD hn.nm).uniq r4
        omega
      · obtain ⟨rfl, rfl, rfl⟩ := hn.uniq n4
        exact hJ _ _ ⟨fun w => absurd hR4.2.2.2.2.1 w, fun _ => hQ M4 _ hn.1.fre hR4⟩
    · refine hJ2 1 c M2 (by omega) hF (fun M0' e k M Q' b1 b2 hf hRS hQ => up M0' e k M Q' b1 b2 hf hRS (fun M3 J hJ hR3 => t_riverTold b1 b2 hD hR3 hs2 (hfq.he hs2) (fun M4 q4 i4 x4 y4 n4 r4 l4 hR4 => absurd hb2 n4.no) (fun M4 q4 x4 y4 n4 r4 _ _ => absurd hb2 n4.no) (fun M4 c4 b4 hJ4 => ?_) (fun M4 q4 x4 y4 n4 r4 _ _ => absurd hb2 n4.no))) _
      have ec := hb2.uniq b4
      rw [ec] at hJ4
      exact hJ _ _ ⟨fun _ => hQ M4 hJ4, fun w => absurd w (hJ4.ne (by omega))⟩
    · refine hJ2 5 s2 M2 (by omega) hF (fun M0' e k M Q' b1 b2 hf hRS hQ => up M0' e k M Q' b1 b2 hf hRS (fun M3 J hJ hR3 => t_riverTold b1 b2 hD hR3 hs2 (hfq.he hs2) (fun M4 q4 i4 x4 y4 n4 r4 l4 hR4 => ?_) (fun M4 q4 x4 y4 n4 r4 v4 _ => absurd v4 hV10) (fun M4 c4 b4 _ => absurd b4 hn.no) (fun M4 q4 x4 y4 n4 r4 _ hJ4 => hJ _ _ ⟨fun _ => hQ M4 hJ4, fun w => absurd w (hJ4.ne (by omega))⟩))) _
      obtain ⟨rfl, rfl, rfl⟩ := hn.uniq n4
      have ei := (hr.zr hD hn.nm).uniq r4
      omega
  · have hX1 := h.at_ hA hs.2.1
    refine jn_use (P := fun J => ∀ (D1 : Drf) (p1 : Nat) (v : Int) (M1 : Mem), Rgt D1 a b l g → D1.N = D.N → p ≤ p1 → -1 ≤ v ∧ v < D1.V → XS M0 T D1 p1 M1 → (∀ (M0' : Mem) (e : Int) (k : Nat) (M : Mem) (Q : Mem → Prop), Rb M0' B T → Own M0' → Fre B T p e → RS M0' T D p e k M → (∀ (M' : Mem) (e' : Int), Fre B T p1 e' → RS M0' T D1 p1 e' k M' → f_X12_laysReach 99 a b l g v M' Q) → tC a b l g Q M) → J v M1) fin ?_
    intro J hJ1
    refine ⟨fun _ => hJ1 D s (-1) M1 hg rfl hs.1 ⟨by omega, by omega⟩ hX1 (fun M0' e k M Q' b1 b2 hf hRS hQ => ?_), fun w => absurd rfl w⟩
    unfold tC
    refine t_take (j := 5) (by omega) b1 b2 hRS hs (hf.he hs) (fun M2 q' hw' hR2 => absurd hw' (hw q')) (fun M2 hno' hR2 => ?_)
    exact jn_use (P := fun J => ∀ (v : Int) (M_18 : Mem), ((¬ M_18 95 5 = 0 → (Q' M_18)) ∧ (M_18 95 5 = 0 → (f_X12_laysReach 99 a b l g v M_18 (fun M_19 => Q' M_19)))) → J v M_18) (fun v M3 hh => hh) (fun J hJ => ⟨fun _ => hJ _ _ ⟨fun w => absurd hR2.2.2.2.2.1 w, fun _ => hQ M2 e (hf.skp hs) hR2⟩, fun w => absurd rfl w⟩)
end
