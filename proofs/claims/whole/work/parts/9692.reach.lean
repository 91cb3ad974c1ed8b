/-! reading: a whole reach -/
def kE (a : Int) (Q : Int → Mem → Prop) (M : Mem) : Prop := f_X6_wantWord 500 M (fun r_6 M_7 => (¬ r_6 = 0 → (f_X6_readOldPlace a M_7 (fun r_8 M_9 => (r_8 = (-1) → (Q 0 M_9)) ∧ (¬ (r_8 = (-1)) → kA a r_8 Q M_9)))) ∧ (r_6 = 0 → (Q 0 M_7)))
def tE (a : Int) (Q : Mem → Prop) (M : Mem) : Prop := f_X12_asks 2 M (fun M_4 => f_X12_placeTold M_4 (fun r_5 M_6 => jn (τ := Mem → Prop) (fun (M_7 : Mem) => tA a r_5 Q M_7) (fun J61 => (¬ M_6 95 5 = 0 → (J61 M_6)) ∧ (M_6 95 5 = 0 → (f_X12_comes 99 r_5 a (-1) M_6 (fun r_27 => (r_27 = 0 → (J61 M_6)) ∧ (¬ (r_27 = 0) → (f_X12_fail 4 (M_6 95 11) M_6 (fun M_29 => J61 M_29)))))))))
section
variable {M0 M M' : Mem} {B : Nat → Int} {T p q k s : Nat} {D : Drf} {e : Int}
theorem tA_bad {a b : Int} (h5 : M 95 5 ≠ 0) {Q : Mem → Prop} (h : Q M) : tA a b Q M := by
  unfold tA
  exact t_asksBad (j := 3) h5 (t_numberBad h5 (tB_bad h5 h))
theorem tE_bad {a : Int} (h5 : M 95 5 ≠ 0) {Q : Mem → Prop} (h : Q M) : tE a Q M := by
  unfold tE
  exact t_asksBad (j := 2) h5 (t_placeBad h5 (jn_use (P := fun J => J M) (tA_bad h5 h) (fun J hJ => ⟨fun _ => hJ, fun w => absurd w h5⟩)))
theorem st_E {a : Nat} (hB : Bt M0 B T) (hD : DOk D) (ha : a < D.N.P) (hR : D.N.R < 30) (h : XS M0 T D p M) {Q : Int → Mem → Prop} (h1 : ∀ (M' : Mem) (D' : Drf) (p' : Nat), DOk D' → D'.N.R = D.N.R + 1 → p < p' → XS M0 T D' p' M' → CtOk B T (fun Q M => tE a (tS Q) M) D p D' p' → Q 1 M') (h0 : ∀ (M' : Mem) (x c : Int), x ≠ 0 → XF M0 x c M' → CtNo B T (fun Q M => tE a (tS Q) M) D p x c → Q 0 M') : kE a Q M := by
  unfold kE
  refine k_wantWord (j := 2) (by omega) hB h rfl (fun M1 s q hw hX1 => ⟨fun _ => ?_, fun w => absurd w (by omega)⟩) (fun M1 s hs hw hF => ⟨fun w => absurd rfl w, fun _ => h0 M1 1 s (by omega) hF ?_⟩)
  · have hpq : p ≤ q := by have := hw.1.1; have := hw.2.1.1; omega
    have hfq : Fre B T q q := hw.2.1.fre
    have up : ∀ (M0' : Mem) (e : Int) (k : Nat) (M : Mem) (Q : Mem → Prop), Rb M0' B T → Own M0' → Fre B T p e → RS M0' T D p e k M → (∀ M' : Mem, RS M0' T D q q k M' → f_X12_placeTold M' (fun r_5 M_6 => jn (τ := Mem → Prop) (fun (M_7 : Mem) => tA a r_5 Q M_7) (fun J61 => (¬ M_6 95 5 = 0 → (J61 M_6)) ∧ (M_6 95 5 = 0 → (f_X12_comes 99 r_5 a (-1) M_6 (fun r_27 => (r_27 = 0 → (J61 M_6)) ∧ (¬ (r_27 = 0) → (f_X12_fail 4 (M_6 95 11) M_6 (fun M_29 => J61 M_29))))))))) → tE a Q M := by
      intro M0' e k M Q' b1 b2 hf hRS hQ
      unfold tE
      refine t_asks (j := 2) (by omega) b1 b2 hRS hw.1 (hf.he hw.1) (fun M2 q' hw' hR2 => ?_) (fun M2 hno' _ => absurd hw (hno' q))
      have eq := hw.2.1.uniq hw'.2.1
      subst eq
      exact hQ M2 hR2
    refine k_readOldPlace hB hD hX1 (Or.inr ⟨a, ha, rfl⟩) (fun M2 s2 q2 i x y hs2 hn hr hi hno hX2 => ⟨fun w => by omega, fun _ => ?_⟩) (fun M2 s2 c hs2 hb2 hF => ⟨fun _ => h0 M2 1 c (by omega) hF ?_, fun w => absurd rfl w⟩) (fun M2 s2 q2 x y hs2 hn hr hF => ⟨fun _ => h0 M2 3 s2 (by omega) hF ?_, fun w => absurd rfl w⟩) (fun M2 s2 q2 i g x y hs2 hn hr hi eg hl hF => ⟨fun _ => h0 M2 4 s2 (by omega) hF ?_, fun w => absurd rfl w⟩)
    · have hno' := hno a rfl
      have mid : ∀ (M0' : Mem) (e : Int) (k : Nat) (M : Mem) (Q : Mem → Prop), Rb M0' B T → Own M0' → Fre B T p e → RS M0' T D p e k M → (∀ M' : Mem, RS M0' T D q2 q2 k M' → tA a i Q M') → tE a Q M := by
        intro M0' e k M Q' b1 b2 hf hRS hQ
        refine up M0' e k M _ b1 b2 hf hRS (fun M3 hR3 => t_placeTold b1 b2 hD hR3 hs2 (hfq.he hs2) (fun M4 q4 i4 x4 y4 n4 r4 l4 hR4 h11 => ?_) (fun M4 c4 b4 _ => absurd b4 hn.no) (fun M4 q4 x4 y4 n4 r4 _ => ?_))
        · obtain ⟨rfl, rfl, rfl⟩ := hn.uniq n4
          have ei := (hr.yr hD hn.nm).uniq r4
          have ei' : i4 = i := by omega
          subst ei'
          refine jn_use (P := fun J => J M4) (hQ M4 hR4) (fun J hJ => ⟨fun w => absurd hR4.2.2.2.2.1 w, fun _ => ?_⟩)
          exact r_comes (by decide +kernel) hR4.2.2.2.2.2.2.2.1 hD.1.1 hi ha (fun z => absurd z hno') (fun z => ⟨fun _ => hJ, fun w => absurd rfl w⟩)
        · obtain ⟨rfl, rfl, rfl⟩ := hn.uniq n4
          have ei := (hr.yr hD hn.nm).uniq r4
          omega
      refine st_A hB (fun l g hl hg => ⟨hD, ha, hi, hR, hl, hg, hno'⟩) hX2 (fun M' D' p' d1 d2 d3 d4 ct => h1 M' D' p' d1 d2 (by have := hs2.1; have := hn.2.1; omega) d4 ?_) (fun M' x c hx hF ct => h0 M' x c hx hF ?_)
      · intro M0' e k M Q' b1 b2 k0 k1 hf hRS hQ
        exact mid M0' e k M _ b1 b2 hf hRS (fun M3 hR3 => ct M0' _ k M3 Q' b1 b2 k0 k1 hn.1.fre hR3 hQ)
      · intro M0' e k M Q' b1 b2 k0 k1 hf hRS hQ
        exact mid M0' e k M _ b1 b2 hf hRS (fun M3 hR3 => ct M0' _ k M3 Q' b1 b2 k0 k1 hn.1.fre hR3 hQ)
    · intro M0' e k M Q' b1 b2 k0 k1 hf hRS hQ
      refine up M0' e k M _ b1 b2 hf hRS (fun M3 hR3 => t_placeTold b1 b2 hD hR3 hs2 (hfq.he hs2) (fun M4 q4 i4 x4 y4 n4 r4 l4 hR4 h11 => absurd hb2 n4.no) (fun M4 c4 b4 hJ4 => ?_) (fun M4 q4 x4 y4 n4 r4 _ => absurd hb2 n4.no))
      have ec := hb2.uniq b4
      rw [ec] at hJ4
      exact jn_use (P := fun J => J M4) (tA_bad (hJ4.ne (by omega)) (tS_bad hJ4 (by omega) k1 hQ)) (fun J hJ => ⟨fun _ => hJ, fun w => absurd w (hJ4.ne (by omega))⟩)
    · intro M0' e k M Q' b1 b2 k0 k1 hf hRS hQ
      refine up M0' e k M _ b1 b2 hf hRS (fun M3 hR3 => t_placeTold b1 b2 hD hR3 hs2 (hfq.he hs2) (fun M4 q4 i4 x4 y4 n4 r4 l4 hR4 h11 => ?_) (fun M4 c4 b4 hJ4 => absurd b4 hn.no) (fun M4 q4 x4 y4 n4 r4 hJ4 => ?_))
      · obtain ⟨rfl, rfl, rfl⟩ := hn.uniq n4
        have ei := (hr.yr hD hn.nm).uniq r4
        omega
      · exact jn_use (P := fun J => J M4) (tA_bad (hJ4.ne (by omega)) (tS_bad hJ4 (by omega) k1 hQ)) (fun J hJ => ⟨fun _ => hJ, fun w => absurd w (hJ4.ne (by omega))⟩)
    · intro M0' e k M Q' b1 b2 k0 k1 hf hRS hQ
      have eg' : g = a := by omega
      subst eg'
      refine up M0' e k M _ b1 b2 hf hRS (fun M3 hR3 => t_placeTold b1 b2 hD hR3 hs2 (hfq.he hs2) (fun M4 q4 i4 x4 y4 n4 r4 l4 hR4 h11 => ?_) (fun M4 c4 b4 hJ4 => absurd b4 hn.no) (fun M4 q4 x4 y4 n4 r4 hJ4 => ?_))
      · obtain ⟨rfl, rfl, rfl⟩ := hn.uniq n4
        have ei := (hr.yr hD hn.nm).uniq r4
        have ei' : i4 = i := by omega
        subst ei'
        refine jn_use (P := fun J => ∀ M5 : Mem, JK M0' T 4 s2 k M5 → J M5) (fun M5 hJ5 => tA_bad (hJ5.ne (by omega)) (tS_bad hJ5 (by omega) k1 hQ)) (fun J hJ => ⟨fun w => absurd hR4.2.2.2.2.1 w, fun _ => ?_⟩)
        refine r_comes (by decide +kernel) hR4.2.2.2.2.2.2.2.1 hD.1.1 hi ha (fun z => ⟨fun w => absurd w (by omega), fun _ => ?_⟩) (fun z => absurd hl z)
        rw [h11]
        exact t_fail hR4 (fun M5 hJ5 => hJ M5 hJ5)
      · obtain ⟨rfl, rfl, rfl⟩ := hn.uniq n4
        have ei := (hr.yr hD hn.nm).uniq r4
        omega
  · intro M0' e k M Q' b1 b2 k0 k1 hf hRS hQ
    show tE a (tS Q') M
    unfold tE
    exact t_asks (j := 2) (by omega) b1 b2 hRS hs (hf.he hs) (fun M2 q' hw' hR2 => absurd hw' (hw q')) (fun M2 hno' hJ => t_placeBad (hJ.ne (by omega)) (jn_use (P := fun J => J M2) (tA_bad (hJ.ne (by omega)) (tS_bad hJ (by omega) k1 hQ)) (fun J hJ' => ⟨fun _ => hJ', fun w => absurd w (hJ.ne (by omega))⟩)))
/-- the other reader at a statement: the first must be the places, any other a reach -/
theorem t_stmt {j : Nat} {Q : Mem → Prop} (hj : j = if k = 0 then 0 else 1) (hB : Rb M0 B T) (hO : Own M0) (h : RS M0 T D p e k M) (hs : Skp B T p s) (hf : Fre B T p e) (hk : k ≤ 40) (h1 : ∀ q : Nat, Wrd B T p j s q → ∀ M' : Mem, RS M0 T D q q k M' → (j = 0 → f_X12_placesTold M' (tS Q)) ∧ (j ≠ 0 → f_X12_reachTold s M' (tS Q))) (h0 : (∀ q, ¬ Wrd B T p j s q) → ∀ M' : Mem, JK M0 T 1 s (k + 1) M' → Q M') : f_X12_statementTold M Q := by
  have hj2 : j < 2 := by by_cases z : k = 0 <;> simp [z] at hj <;> omega
  unfold f_X12_statementTold
  refine t_look (h.1.rb hB) h.2.1 h.2.2.1 (fun M2 s' hs' hA => ?_)
  have es := hs.uniq hs'
  subst es
  have hR2 := h.rt hA hs.2.1
  intro v3 e3
  rw [hR2.2.1] at e3
  subst e3
  have hf2 := hf.skp hs
  have go : ∀ (r : Int) (M5 : Mem), RS M0 T D s e k M5 → (r = j ↔ ∃ q, Wrd B T p j s q) → (r = -1 → r ≠ j) → jn (τ := Mem → Prop) (fun (M_6 : Mem) => jn (τ := Mem → Prop) (fun (M_7 : Mem) => f_X12_asksSign 59 M_7 (fun M_8 => inR ((M_8 95 14) + 1) ∧ ∀ M_10 : Mem, M_10 = st M_8 95 14 ((M_8 95 14) + 1) → Q M_10)) (fun J73 => (¬ M_6 95 5 = 0 → (J73 M_6)) ∧ (M_6 95 5 = 0 → (f_X12_takes r M_6 (fun r_11 M_12 => (r_11 = 0 → (J73 M_12)) ∧ (¬ (r_11 = 0) → ((¬ r = 0 → (f_X12_reachTold s M_12 (fun M_13 => J73 M_13))) ∧ (r = 0 → (f_X12_placesTold M_12 (fun M_14 => J73 M_14)))))))))) (fun J42 => jn (τ := Mem → Prop) (fun (M_18 : Mem) => f_X12_fail 1 s M_18 (fun M_19 => J42 M_19)) (fun J36 => (r = (-1) → (J36 M5)) ∧ (¬ (r = (-1)) → (jn (τ := Int → Prop) (fun (s1_20 : Int) => (r = s1_20 → (J42 M5)) ∧ (¬ (r = s1_20) → (J36 M5))) (fun J33 => (¬ M5 95 14 = 0 → (J33 1)) ∧ (M5 95 14 = 0 → (J33 0))))))) := by
    intro r M5 hR5 hr hr1
    refine jn_use (P := fun J => (∀ M6 : Mem, JK M0 T 1 s k M6 → (∀ q, ¬ Wrd B T p j s q) → J M6) ∧ (r = j → J M5)) ⟨fun M6 hJ6 hno => ?_, fun er => ?_⟩ (fun J42 hJ => ?_)
    · exact jn_use (P := fun J => J M6) (tS_bad hJ6 (by omega) hk (fun M' hJ' => h0 hno M' hJ')) (fun J hJ => ⟨fun _ => hJ, fun w => absurd w (hJ6.ne (by omega))⟩)
    · refine jn_use (P := fun J => J = tS Q) rfl (fun J hJ => ?_)
      subst hJ
      refine ⟨fun w => absurd hR5.2.2.2.2.1 w, fun _ => ?_⟩
      obtain ⟨q, hw⟩ := hr.mp er
      have hw' : Wrd B T s j s q := ⟨hs.self, hw.2⟩
      rw [er]
      refine t_take (by omega) hB hO hR5 hs.self (hf2.he hs.self) (fun M7 q' hw7 hR7 => ⟨fun w => absurd w (by omega), fun _ => ?_⟩) (fun M7 hno _ => absurd hw' (hno q))
      have eq := hw.2.1.uniq hw7.2.1
      subst eq
      have hh := h1 q hw M7 hR7
      exact ⟨fun w => hh.2 (by omega), fun w => hh.1 (by omega)⟩
    · refine jn_use (P := fun J => r ≠ j → J M5) (fun hne => ?_) (fun J36 hJ36 => ⟨fun w => hJ36 (hr1 w), fun w => ?_⟩)
      · exact t_fail hR5 (fun M6 hJ6 => hJ.1 M6 hJ6 (fun q hw => hne (hr.mpr ⟨q, hw⟩)))
      · refine jn_use (P := fun J => J (j : Int)) ⟨fun u => hJ.2 u, fun u => hJ36 u⟩ (fun J33 h33 => ?_)
        rw [hR5.2.2.2.2.2.2.1]
        by_cases z : k = 0
        · rw [if_pos z] at hj
          subst hj
          exact ⟨fun u => absurd (by omega) u, fun _ => h33⟩
        · rw [if_neg z] at hj
          subst hj
          exact ⟨fun _ => h33, fun u => absurd u (by omega)⟩
  refine t_ownHere (hR2.1.rb hB) (hR2.1.own hO) hR2.2.1 hR2.2.2.1 hR2.2.2.2.2.1 (fun M5 s5 q r hs5 hA5 hw hW hr => ?_) (fun M5 s5 hs5 hA5 hw => ?_)
  · have es := hs.self.uniq hs5
    subst es
    refine go r M5 (hR2.rt hA5 hs.2.1) ?_ (fun w u => by omega)
    rw [hr.2 j (by omega)]
    exact ⟨fun u => ⟨q, hs, hW, u.1, u.2⟩, fun ⟨q', u⟩ => by have := u.2.1.uniq hW; subst this; exact u.2.2⟩
  · have es := hs.self.uniq hs5
    subst es
    refine go (-1) M5 (hR2.rt hA5 hs.2.1) ⟨fun u => by omega, fun ⟨q', u⟩ => ?_⟩ (fun w u => by omega)
    have hp := u.pos (by omega)
    refine absurd ⟨hp.2.1, hp.2.2, ?_⟩ hw
    rw [hR2.2.2.2.1]
    exact hf.he hs hp.2.1 hp.2.2
end
