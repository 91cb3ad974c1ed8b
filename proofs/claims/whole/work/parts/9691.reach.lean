/-! reading: yields and length of a reach -/
def kB (a b l : Int) (Q : Int → Mem → Prop) (M : Mem) : Prop := f_X6_takeWord 642127161 M (fun r_14 M_15 => jn (τ := Int → Mem → Prop) (fun (s0_16 : Int) (M_17 : Mem) => (¬ s0_16 = (-1) → kC a b l s0_16 Q M_17) ∧ (s0_16 = (-1) → (Q 0 M_17))) (fun J113 => (r_14 = 0 → (J113 0 M_15)) ∧ (¬ (r_14 = 0) → (f_X6_readNumber 0 M_15 (fun r_31 M_32 => J113 r_31 M_32)))))
def kA (a b : Int) (Q : Int → Mem → Prop) (M : Mem) : Prop := f_X6_wantWord 244204 M (fun r_10 M_11 => (¬ r_10 = 0 → (f_X6_readNumber 1 M_11 (fun r_12 M_13 => (¬ r_12 = (-1) → kB a b r_12 Q M_13) ∧ (r_12 = (-1) → (Q 0 M_13))))) ∧ (r_10 = 0 → (Q 0 M_11)))
def tA (a b : Int) (Q : Mem → Prop) (M : Mem) : Prop := f_X12_asks 3 M (fun M_8 => f_X12_number 1 99 M_8 (fun r_9 M_10 => tB a b r_9 Q M_10))
section
variable {M0 M M' : Mem} {B : Nat → Int} {T p q k s : Nat} {D : Drf} {e : Int}
theorem NuO.rng {n : Nat} {lo v : Int} (h : NuO B T p lo s n v) : lo ≤ v ∧ v ≤ 99 := by
  have := nv_b h.2.2.1.1 h.2.2.1.2.2.1
  have e := h.2.2.2.2.2.2
  have := h.2.2.2.2.2.1
  omega
theorem tC_bad {a b l g : Int} (h5 : M 95 5 ≠ 0) {Q : Mem → Prop} (h : Q M) : tC a b l g Q M := by
  unfold tC
  exact t_takesBad (k := 5) h5 (jn_use (P := fun J => J (-1) M) ⟨fun _ => h, fun w => absurd w h5⟩ (fun J hJ => ⟨fun _ => hJ, fun w => absurd rfl w⟩))
theorem tB_bad {a b l : Int} (h5 : M 95 5 ≠ 0) {Q : Mem → Prop} (h : Q M) : tB a b l Q M := by
  unfold tB
  exact t_takesBad (k := 4) h5 (jn_use (P := fun J => J 0 M) (tC_bad h5 h) (fun J hJ => ⟨fun _ => hJ, fun w => absurd rfl w⟩))
theorem t_stuck {j : Nat} (hj : j < 6) (hB : Rb M0 B T) (hO : Own M0) (h : RS M0 T D p p k M) (hp : p < T ∧ ltr (B p)) {Q : Int → Mem → Prop} (h0 : ∀ M' : Mem, RS M0 T D p p k M' → Q 0 M') : f_X12_takes (j : Int) M Q := by
  have hs : Skp B T p p := ⟨Nat.le_refl _, h.2.2.1, fun i i1 i2 => by omega, fun _ y => by have := hp.2; unfold ltr at this; unfold blk at y; omega⟩
  refine t_takes hj (h.1.rb hB) (h.1.own hO) h.2.1 h.2.2.1 h.2.2.2.2.1 (fun M1 s' q hw hne hA => ?_) (fun M1 s' hs' hA hno => ?_)
  · have es := hs.uniq hw.1
    subst es
    exact absurd h.2.2.2.1.symm hne
  · have es := hs.uniq hs'
    subst es
    exact h0 M1 (h.rt hA hs.2.1)
theorem tC_stuck {a b : Nat} {l g : Int} (hB : Rb M0 B T) (hO : Own M0) (hD : DOk D) (hR : D.N.R < 30) (hk : k ≤ 40) (h : RS M0 T D p p k M) (hp : p < T ∧ ltr (B p)) {Q : Mem → Prop} (hQ : ∀ M' : Mem, JK M0 T 1 p (k + 1) M' → Q M') : tC a b l g (tS Q) M := by
  unfold tC
  have hs : Skp B T p p := ⟨Nat.le_refl _, h.2.2.1, fun i i1 i2 => by omega, fun _ y => by have := hp.2; unfold ltr at this; unfold blk at y; omega⟩
  refine t_stuck (j := 5) (by omega) hB hO h hp (fun M1 hR1 => ?_)
  refine jn_use (P := fun J => J (-1) M1) ⟨fun w => absurd hR1.2.2.2.2.1 w, fun _ => ?_⟩ (fun J hJ => ⟨fun _ => hJ, fun w => absurd rfl w⟩)
  exact t_layR hR1 hR hD.1.1.1 hD.2.1 (fun M2 hR2 => tS_ok hB hR2 hs hk (fun z => by have a1 := z.2; have a2 := hp.2; unfold ltr at a2; omega) (fun _ M5 hJ5 => hQ M5 hJ5))
theorem tB_stuck {a b : Nat} {l : Int} (hB : Rb M0 B T) (hO : Own M0) (hD : DOk D) (hR : D.N.R < 30) (hk : k ≤ 40) (h : RS M0 T D p p k M) (hp : p < T ∧ ltr (B p)) {Q : Mem → Prop} (hQ : ∀ M' : Mem, JK M0 T 1 p (k + 1) M' → Q M') : tB a b l (tS Q) M := by
  unfold tB
  refine t_stuck (j := 4) (by omega) hB hO h hp (fun M1 hR1 => ?_)
  exact jn_use (P := fun J => J 0 M1) (tC_stuck hB hO hD hR hk hR1 hp hQ) (fun J hJ => ⟨fun _ => hJ, fun w => absurd rfl w⟩)
theorem st_B {a b : Nat} {l : Int} (hB : Bt M0 B T) (hg : ∀ g : Int, 0 ≤ g ∧ g ≤ 99 → Rgt D a b l g) (h : XS M0 T D p M) {Q : Int → Mem → Prop} (h1 : ∀ (M' : Mem) (D' : Drf) (p' : Nat), DOk D' → D'.N.R = D.N.R + 1 → p < p' → XS M0 T D' p' M' → CtOk B T (fun Q M => tB a b l (tS Q) M) D p D' p' → Q 1 M') (h0 : ∀ (M' : Mem) (x c : Int), x ≠ 0 → XF M0 x c M' → CtNo B T (fun Q M => tB a b l (tS Q) M) D p x c → Q 0 M') : kB a b l Q M := by
  have hD := (hg 0 (by omega)).1
  have hR := (hg 0 (by omega)).2.2.2.1
  unfold kB
  refine k_takeWord (k := 4) (by omega) (h.bt hB) h.2.1 h.2.2.1 rfl (fun M1 s q hw hA => ?_) (fun M1 s hs hA hw => ?_)
  · have hX1 := h.at_ hA hw.2.1.2.1
    have hpq : p ≤ q := by have := hw.1.1; have := hw.2.1.1; omega
    have up : ∀ (M0' : Mem) (e : Int) (k : Nat) (M : Mem) (Q : Mem → Prop), Rb M0' B T → Own M0' → Fre B T p e → RS M0' T D p e k M → (∀ (M' : Mem) (J : Int → Mem → Prop), (∀ (v : Int) (M2 : Mem), tC a b l v Q M2 → J v M2) → RS M0' T D q q k M' → f_X12_number 0 99 M' (fun r_24 M_25 => J r_24 M_25)) → tB a b l Q M := by
      intro M0' e k M Q' b1 b2 hf hRS hQ
      unfold tB
      refine t_take (j := 4) (by omega) b1 b2 hRS hw.1 (hf.he hw.1) (fun M2 q' hw' hR2 => ?_) (fun M2 hno' _ => absurd hw (hno' q))
      have eq := hw.2.1.uniq hw'.2.1
      subst eq
      exact jn_use (P := fun J => ∀ (v : Int) (M2 : Mem), tC a b l v Q' M2 → J v M2) (fun v M3 hh => hh) (fun J hJ => ⟨fun w => absurd w (by omega), fun _ => hQ M2 J hJ hR2⟩)
    refine jn_use (P := fun J => (∀ (s n : Nat) (v : Int) (M2 : Mem), NuO B T q 0 s n v → ¬ (s + n < T ∧ ltr (B (s + n))) → XS M0 T D (s + n) M2 → J v M2) ∧ (∀ (s n : Nat) (v : Int) (M2 : Mem), NuO B T q 0 s n v → (s + n < T ∧ ltr (B (s + n))) → XF M0 1 ((s + n : Nat) : Int) M2 → J (-1) M2) ∧ (∀ (x : Int) (c : Nat) (M2 : Mem), x ≠ 0 → NuB B T q 0 x c → XF M0 x c M2 → J (-1) M2)) ⟨fun s2 n v M2 hn hl hX2 => ?_, fun s2 n v M2 hn hl hF => ?_, fun x c M2 hx hn hF => ?_⟩ (fun J hJ => ⟨fun w => absurd w (by omega), fun _ => k_readNumber hB hX1 (by omega) (fun M2 s2 n v hn hl hX2 => hJ.1 s2 n v M2 hn hl hX2) (fun M2 s2 n v hn hl hF => hJ.2.1 s2 n v M2 hn hl hF) (fun M2 x c hx hn hF => hJ.2.2 x c M2 hx hn hF)⟩)
    · have hv := hn.rng
      refine ⟨fun _ => st_C hB (hg v hv) hX2 (fun M' D' p' d1 d2 d3 d4 ct => h1 M' D' p' d1 d2 (by have := hn.2.1; omega) d4 ?_) (fun M' x c hx hF ct => h0 M' x c hx hF ?_), fun w => by omega⟩
      · intro M0' e k M Q' b1 b2 k0 k1 hf hRS hQ
        refine up M0' e k M _ b1 b2 hf hRS (fun M3 J hJ hR3 => t_number b1 hR3 (by omega) (fun M4 s4 n4 v4 o4 hR4 => ?_) (fun M4 x4 c4 y4 _ o4 _ => absurd o4 hn.no))
        obtain ⟨rfl, rfl, rfl⟩ := hn.uniq o4
        exact hJ _ _ (ct M0' _ k M4 Q' b1 b2 k0 k1 ⟨Int.le_refl _, fun _ z y => hl ⟨z, y⟩⟩ hR4 hQ)
      · intro M0' e k M Q' b1 b2 k0 k1 hf hRS hQ
        refine up M0' e k M _ b1 b2 hf hRS (fun M3 J hJ hR3 => t_number b1 hR3 (by omega) (fun M4 s4 n4 v4 o4 hR4 => ?_) (fun M4 x4 c4 y4 _ o4 _ => absurd o4 hn.no))
        obtain ⟨rfl, rfl, rfl⟩ := hn.uniq o4
        exact hJ _ _ (ct M0' _ k M4 Q' b1 b2 k0 k1 ⟨Int.le_refl _, fun _ z y => hl ⟨z, y⟩⟩ hR4 hQ)
    · refine ⟨fun w => absurd rfl w, fun _ => h0 M2 1 _ (by omega) hF ?_⟩
      intro M0' e k M Q' b1 b2 k0 k1 hf hRS hQ
      refine up M0' e k M _ b1 b2 hf hRS (fun M3 J hJ hR3 => t_number b1 hR3 (by omega) (fun M4 s4 n4 v4 o4 hR4 => ?_) (fun M4 x4 c4 y4 _ o4 _ => absurd o4 hn.no))
      obtain ⟨rfl, rfl, rfl⟩ := hn.uniq o4
      exact hJ _ _ (tC_stuck b1 b2 hD hR k1 hR4 hl hQ)
    · refine ⟨fun w => absurd rfl w, fun _ => h0 M2 x c hx hF ?_⟩
      intro M0' e k M Q' b1 b2 k0 k1 hf hRS hQ
      refine up M0' e k M _ b1 b2 hf hRS (fun M3 J hJ hR3 => t_number b1 hR3 (by omega) (fun M4 s4 n4 v4 o4 hR4 => absurd hn o4.no) (fun M4 x4 c4 y4 hx4 o4 hJ4 => ?_))
      obtain ⟨rfl, rfl⟩ := hn.uniq o4
      exact hJ _ _ (tC_bad (hJ4.ne hx4) (tS_bad hJ4 hx4 k1 hQ))
  · have hX1 := h.at_ hA hs.2.1
    have dn : ∀ (M0' : Mem) (e : Int) (k : Nat) (M : Mem) (Q : Mem → Prop), Rb M0' B T → Own M0' → Fre B T p e → RS M0' T D p e k M → (∀ M' : Mem, Fre B T s e → RS M0' T D s e k M' → tC a b l 0 Q M') → tB a b l Q M := by
      intro M0' e k M Q' b1 b2 hf hRS hQ
      unfold tB
      refine t_take (j := 4) (by omega) b1 b2 hRS hs (hf.he hs) (fun M2 q' hw' hR2 => absurd hw' (hw q')) (fun M2 hno' hR2 => ?_)
      exact jn_use (P := fun J => J 0 M2) (hQ M2 (hf.skp hs) hR2) (fun J hJ => ⟨fun _ => hJ, fun w => absurd rfl w⟩)
    refine jn_use (P := fun J => J 0 M1) ?_ (fun J hJ => ⟨fun _ => hJ, fun w => absurd rfl w⟩)
    refine ⟨fun _ => st_C hB (hg 0 (by omega)) hX1 (fun M' D' p' d1 d2 d3 d4 ct => h1 M' D' p' d1 d2 (by have := hs.1; omega) d4 ?_) (fun M' x c hx hF ct => h0 M' x c hx hF ?_), fun w => by omega⟩
    · intro M0' e k M Q' b1 b2 k0 k1 hf hRS hQ
      exact dn M0' e k M _ b1 b2 hf hRS (fun M3 hf3 hR3 => ct M0' e k M3 Q' b1 b2 k0 k1 hf3 hR3 hQ)
    · intro M0' e k M Q' b1 b2 k0 k1 hf hRS hQ
      exact dn M0' e k M _ b1 b2 hf hRS (fun M3 hf3 hR3 => ct M0' e k M3 Q' b1 b2 k0 k1 hf3 hR3 hQ)
theorem st_A {a b : Nat} (hB : Bt M0 B T) (hg : ∀ l g : Int, 1 ≤ l ∧ l ≤ 99 → 0 ≤ g ∧ g ≤ 99 → Rgt D a b l g) (h : XS M0 T D p M) {Q : Int → Mem → Prop} (h1 : ∀ (M' : Mem) (D' : Drf) (p' : Nat), DOk D' → D'.N.R = D.N.R + 1 → p < p' → XS M0 T D' p' M' → CtOk B T (fun Q M => tA a b (tS Q) M) D p D' p' → Q 1 M') (h0 : ∀ (M' : Mem) (x c : Int), x ≠ 0 → XF M0 x c M' → CtNo B T (fun Q M => tA a b (tS Q) M) D p x c → Q 0 M') : kA a b Q M := by
  have hD := (hg 1 0 (by omega) (by omega)).1
  have hR := (hg 1 0 (by omega) (by omega)).2.2.2.1
  unfold kA
  refine k_wantWord (j := 3) (by omega) hB h rfl (fun M1 s q hw hX1 => ⟨fun _ => ?_, fun w => absurd w (by omega)⟩) (fun M1 s hs hw hF => ⟨fun w => absurd rfl w, fun _ => h0 M1 1 s (by omega) hF ?_⟩)
  · have hpq : p ≤ q := by have := hw.1.1; have := hw.2.1.1; omega
    have up : ∀ (M0' : Mem) (e : Int) (k : Nat) (M : Mem) (Q : Mem → Prop), Rb M0' B T → Own M0' → Fre B T p e → RS M0' T D p e k M → (∀ M' : Mem, RS M0' T D q q k M' → f_X12_number 1 99 M' (fun r_9 M_10 => tB a b r_9 Q M_10)) → tA a b Q M := by
      intro M0' e k M Q' b1 b2 hf hRS hQ
      unfold tA
      refine t_asks (j := 3) (by omega) b1 b2 hRS hw.1 (hf.he hw.1) (fun M2 q' hw' hR2 => ?_) (fun M2 hno' _ => absurd hw (hno' q))
      have eq := hw.2.1.uniq hw'.2.1
      subst eq
      exact hQ M2 hR2
    refine k_readNumber hB hX1 (by omega) (fun M2 s2 n v hn hl hX2 => ?_) (fun M2 s2 n v hn hl hF => ⟨fun w => absurd rfl w, fun _ => h0 M2 1 _ (by omega) hF ?_⟩) (fun M2 x c hx hn hF => ⟨fun w => absurd rfl w, fun _ => h0 M2 x c hx hF ?_⟩)
    · have hv := hn.rng
      refine ⟨fun _ => st_B hB (fun g hgg => hg v g hv hgg) hX2 (fun M' D' p' d1 d2 d3 d4 ct => h1 M' D' p' d1 d2 (by have := hn.2.1; omega) d4 ?_) (fun M' x c hx hF ct => h0 M' x c hx hF ?_), fun w => by omega⟩
      · intro M0' e k M Q' b1 b2 k0 k1 hf hRS hQ
        refine up M0' e k M _ b1 b2 hf hRS (fun M3 hR3 => t_number b1 hR3 (by omega) (fun M4 s4 n4 v4 o4 hR4 => ?_) (fun M4 x4 c4 y4 _ o4 _ => absurd o4 hn.no))
        obtain ⟨rfl, rfl, rfl⟩ := hn.uniq o4
        exact ct M0' _ k M4 Q' b1 b2 k0 k1 ⟨Int.le_refl _, fun _ z y => hl ⟨z, y⟩⟩ hR4 hQ
      · intro M0' e k M Q' b1 b2 k0 k1 hf hRS hQ
        refine up M0' e k M _ b1 b2 hf hRS (fun M3 hR3 => t_number b1 hR3 (by omega) (fun M4 s4 n4 v4 o4 hR4 => ?_) (fun M4 x4 c4 y4 _ o4 _ => absurd o4 hn.no))
        obtain ⟨rfl, rfl, rfl⟩ := hn.uniq o4
        exact ct M0' _ k M4 Q' b1 b2 k0 k1 ⟨Int.le_refl _, fun _ z y => hl ⟨z, y⟩⟩ hR4 hQ
    · intro M0' e k M Q' b1 b2 k0 k1 hf hRS hQ
      refine up M0' e k M _ b1 b2 hf hRS (fun M3 hR3 => t_number b1 hR3 (by omega) (fun M4 s4 n4 v4 o4 hR4 => ?_) (fun M4 x4 c4 y4 _ o4 _ => absurd o4 hn.no))
      obtain ⟨rfl, rfl, rfl⟩ := hn.uniq o4
      exact tB_stuck b1 b2 hD hR k1 hR4 hl hQ
    · intro M0' e k M Q' b1 b2 k0 k1 hf hRS hQ
      refine up M0' e k M _ b1 b2 hf hRS (fun M3 hR3 => t_number b1 hR3 (by omega) (fun M4 s4 n4 v4 o4 hR4 => absurd hn o4.no) (fun M4 x4 c4 y4 hx4 o4 hJ4 => ?_))
      obtain ⟨rfl, rfl⟩ := hn.uniq o4
      exact tB_bad (hJ4.ne hx4) (tS_bad hJ4 hx4 k1 hQ)
  · intro M0' e k M Q' b1 b2 k0 k1 hf hRS hQ
    show tA a b (tS Q') M
    unfold tA
    exact t_asks (j := 3) (by omega) b1 b2 hRS hs (hf.he hs) (fun M2 q' hw' hR2 => absurd hw' (hw q')) (fun M2 hno' hJ => t_numberBad (hJ.ne (by omega)) (tB_bad (hJ.ne (by omega)) (tS_bad hJ (by omega) k1 hQ)))
end
