/-! reading: a reach's statement; all of them -/
section
variable {M0 M M' : Mem} {B : Nat → Int} {T p q k s : Nat} {D : Drf} {e : Int}
theorem st_R (hB : Bt M0 B T) (hD : DOk D) (hpp : Skp B T p p) (h : XS M0 T D p M) {Q : Int → Mem → Prop} (h1 : ∀ (M' : Mem) (D' : Drf) (p' : Nat), DOk D' → D'.N.R = D.N.R + 1 → p < p' → XS M0 T D' p' M' → CtOk B T (fun Q M => f_X12_statementTold M Q) D p D' p' → Q 1 M') (h0 : ∀ (M' : Mem) (x c : Int), x ≠ 0 → XF M0 x c M' → CtNo B T (fun Q M => f_X12_statementTold M Q) D p x c → Q 0 M') : f_X6_readReach M Q := by
  unfold f_X6_readReach
  have hR30 := hD.1.1.2.1
  intro v1 e1
  rw [h.2.1] at e1
  refine k_wantWord (j := 1) (by omega) hB h rfl (fun M1 s q hw hX1 => ⟨fun _ => ?_, fun w => absurd w (by omega)⟩) (fun M1 s hs hw hF => ⟨fun w => absurd rfl w, fun _ => h0 M1 1 s (by omega) hF ?_⟩)
  · have es := hpp.uniq hw.1
    subst es
    have hfq : Fre B T q q := hw.2.1.fre
    have hpq : p ≤ q := hw.2.1.1
    have up : ∀ (M0' : Mem) (e : Int) (k : Nat) (M : Mem) (Q : Mem → Prop), Rb M0' B T → Own M0' → 1 ≤ k → k ≤ 40 → Fre B T p e → RS M0' T D p e k M → (∀ M' : Mem, RS M0' T D q q k M' → f_X12_reachTold p M' (tS Q)) → f_X12_statementTold M Q := by
      intro M0' e k M Q' b1 b2 k0 k1 hf hRS hQ
      refine t_stmt (j := 1) (by rw [if_neg (by omega)]) b1 b2 hRS hpp hf k1 (fun q' hw' M2 hR2 => ⟨fun w => absurd w (by omega), fun _ => ?_⟩) (fun hno => absurd hw (hno q))
      have eq := hw.2.1.uniq hw'.2.1
      subst eq
      exact hQ M2 hR2
    have hd1 := hX1.2.2.2.2.2.1
    rw [hd1.2.1]
    refine ⟨fun c => ?_, fun c => ?_⟩
    · have hR : D.N.R < 30 := by omega
      have up2 : ∀ (M0' : Mem) (e : Int) (k : Nat) (M : Mem) (Q : Mem → Prop), Rb M0' B T → Own M0' → 1 ≤ k → k ≤ 40 → Fre B T p e → RS M0' T D p e k M → (∀ M' : Mem, RS M0' T D q q k M' → f_X12_placeTold M' (fun r_2 M_3 => tE r_2 (tS Q) M_3)) → f_X12_statementTold M Q := by
        intro M0' e k M Q' b1 b2 k0 k1 hf hRS hQ
        refine up M0' e k M Q' b1 b2 k0 k1 hf hRS (fun M2 hR2 => ?_)
        unfold f_X12_reachTold
        refine jn_use (P := fun J => J M2) (hQ M2 hR2) (fun J hJ => ⟨fun _ => hJ, fun w => ?_⟩)
        rw [hR2.2.2.2.2.2.2.2.1.2.1] at w
        omega
      refine k_readOldPlace hB hD hX1 (Or.inl rfl) (fun M2 s2 q2 i x y hs2 hn hr hi hno hX2 => ⟨fun w => by omega, fun _ => ?_⟩) (fun M2 s2 c hs2 hb2 hF => ⟨fun _ => h0 M2 1 c (by omega) hF ?_, fun w => absurd rfl w⟩) (fun M2 s2 q2 x y hs2 hn hr hF => ⟨fun _ => h0 M2 3 s2 (by omega) hF ?_, fun w => absurd rfl w⟩) (fun M2 s2 q2 i g x y hs2 hn hr hi eg hl hF => absurd eg (by omega))
      · have mid : ∀ (M0' : Mem) (e : Int) (k : Nat) (M : Mem) (Q : Mem → Prop), Rb M0' B T → Own M0' → 1 ≤ k → k ≤ 40 → Fre B T p e → RS M0' T D p e k M → (∀ M' : Mem, RS M0' T D q2 q2 k M' → tE i (tS Q) M') → f_X12_statementTold M Q := by
          intro M0' e k M Q' b1 b2 k0 k1 hf hRS hQ
          refine up2 M0' e k M Q' b1 b2 k0 k1 hf hRS (fun M3 hR3 => t_placeTold b1 b2 hD hR3 hs2 (hfq.he hs2) (fun M4 q4 i4 x4 y4 n4 r4 l4 hR4 h11 => ?_) (fun M4 c4 b4 _ => absurd b4 hn.no) (fun M4 q4 x4 y4 n4 r4 _ => ?_))
          · obtain ⟨rfl, rfl, rfl⟩ := hn.uniq n4
            have ei := (hr.yr hD hn.nm).uniq r4
            have ei' : i4 = i := by omega
            subst ei'
            exact hQ M4 hR4
          · obtain ⟨rfl, rfl, rfl⟩ := hn.uniq n4
            have ei := (hr.yr hD hn.nm).uniq r4
            omega
        refine st_E hB hD hi hR hX2 (fun M' D' p' d1 d2 d3 d4 ct => h1 M' D' p' d1 d2 (by have := hs2.1; have := hn.2.1; omega) d4 ?_) (fun M' x c hx hF ct => h0 M' x c hx hF ?_)
        · intro M0' e k M Q' b1 b2 k0 k1 hf hRS hQ
          exact mid M0' e k M _ b1 b2 k0 k1 hf hRS (fun M3 hR3 => ct M0' _ k M3 Q' b1 b2 k0 k1 hn.1.fre hR3 hQ)
        · intro M0' e k M Q' b1 b2 k0 k1 hf hRS hQ
          exact mid M0' e k M _ b1 b2 k0 k1 hf hRS (fun M3 hR3 => ct M0' _ k M3 Q' b1 b2 k0 k1 hn.1.fre hR3 hQ)
      · intro M0' e k M Q' b1 b2 k0 k1 hf hRS hQ
        refine up2 M0' e k M Q' b1 b2 k0 k1 hf hRS (fun M3 hR3 => t_placeTold b1 b2 hD hR3 hs2 (hfq.he hs2) (fun M4 q4 i4 x4 y4 n4 r4 l4 hR4 h11 => absurd hb2 n4.no) (fun M4 c4 b4 hJ4 => ?_) (fun M4 q4 x4 y4 n4 r4 _ => absurd hb2 n4.no))
        have ec := hb2.uniq b4
        rw [ec] at hJ4
        exact tE_bad (hJ4.ne (by omega)) (tS_bad hJ4 (by omega) k1 hQ)
      · intro M0' e k M Q' b1 b2 k0 k1 hf hRS hQ
        refine up2 M0' e k M Q' b1 b2 k0 k1 hf hRS (fun M3 hR3 => t_placeTold b1 b2 hD hR3 hs2 (hfq.he hs2) (fun M4 q4 i4 x4 y4 n4 r4 l4 hR4 h11 => ?_) (fun M4 c4 b4 hJ4 => absurd b4 hn.no) (fun M4 q4 x4 y4 n4 r4 hJ4 => tE_bad (hJ4.ne (by omega)) (tS_bad hJ4 (by omega) k1 hQ)))
        obtain ⟨rfl, rfl, rfl⟩ := hn.uniq n4
        have ei := (hr.yr hD hn.nm).uniq r4
        omega
    · rw [e1]
      refine k_fail hX1.1 (fun M2 hF => h0 M2 5 p (by omega) hF ?_)
      intro M0' e k M Q' b1 b2 k0 k1 hf hRS hQ
      refine up M0' e k M Q' b1 b2 k0 k1 hf hRS (fun M2 hR2 => ?_)
      unfold f_X12_reachTold
      refine jn_use (P := fun J => ∀ M3 : Mem, JK M0' T 5 p k M3 → J M3) (fun M3 hJ3 => t_placeBad (hJ3.ne (by omega)) (tE_bad (hJ3.ne (by omega)) (tS_bad hJ3 (by omega) k1 hQ))) (fun J hJ => ⟨fun w => absurd ?_ w, fun w => t_fail hR2 (fun M3 hJ3 => hJ M3 hJ3)⟩)
      rw [hR2.2.2.2.2.2.2.2.1.2.1]
      omega
  · have es := hpp.uniq hs
    subst es
    intro M0' e k M Q' b1 b2 k0 k1 hf hRS hQ
    exact t_stmt (j := 1) (by rw [if_neg (by omega)]) b1 b2 hRS hpp hf k1 (fun q' hw' M2 hR2 => absurd hw' (hw q')) (fun hno M2 hJ2 => hQ M2 hJ2)
/-- the other reader's loop over reaches comes from D0 at p0 to D at p -/
def CtL (B : Nat → Int) (T : Nat) (D0 : Drf) (p0 : Nat) (D : Drf) (p : Nat) : Prop := ∀ (M0 : Mem) (e : Int) (M : Mem) (J : Mem → Prop), Rb M0 B T → Own M0 → Fre B T p0 e → RS M0 T D0 p0 e 1 M → (∀ (M' : Mem) (e' : Int), Fre B T p e' → RS M0 T D p e' (1 + D.N.R) M' → wl1 (X12_net_b64 J) (5000 - D.N.R) M') → wl1 (X12_net_b64 J) 5000 M
theorem wl1_s {α : Type} {b : (α → Prop) → α → Prop} {n m : Nat} (e : n = m + 1) {x : α} (h : b (wl1 b m) x) : wl1 b n x := by
  subst e
  exact h
theorem k_reaches {D0 : Drf} (hB : Bt M0 B T) (hD0 : DOk D0) (hR0 : D0.N.R = 0) (h : XS M0 T D0 p M) {Q : Int → Mem → Prop} (h1 : ∀ (M' : Mem) (D : Drf) (p' : Nat), DOk D → XS M0 T D p' M' → (∀ (M0' : Mem) (e : Int) (M : Mem) (J : Mem → Prop), Rb M0' B T → Own M0' → Fre B T p e → RS M0' T D0 p e 1 M → (∀ (M' : Mem) (e' : Int), RS M0' T D p' e' (1 + D.N.R) M' → J M') → wl1 (X12_net_b64 J) 5000 M) → Q 1 M') (h0 : ∀ (M' : Mem) (x c : Int), x ≠ 0 → XF M0 x c M' → (∀ (M0' : Mem) (e : Int) (M : Mem) (J : Mem → Prop), Rb M0' B T → Own M0' → Fre B T p e → RS M0' T D0 p e 1 M → (∀ (M' : Mem) (k : Nat), JK M0' T x c k M' → J M') → wl1 (X12_net_b64 J) 5000 M) → Q 0 M') : wl2 (X6_read_b47 Q) 5000 0 M := by
  have hT := hB.2.1
  refine wl2_inv (I := fun (v : Int) (M1 : Mem) => ∃ (D : Drf) (p1 : Nat), v = D.N.R ∧ DOk D ∧ XS M0 T D p1 M1 ∧ CtL B T D0 p D p1) (μ := fun (v : Int) (_ : Mem) => 40 - v.toNat) ?_ 5000 _ _ ⟨D0, p, by omega, hD0, h, fun M0' e M J b1 b2 hf hRS hJ => ?_⟩ (by omega)
  · rintro rec v M1 ⟨D, p1, rfl, hD, hX, ct⟩ hrec
    have hR30 := hD.1.1.2.1
    unfold X6_read_b47
    refine ⟨fun c => by omega, fun _ => k_skip (hX.bt hB) hX.2.1 hX.2.2.1 (fun M2 s hs hA => ?_)⟩
    have hX2 := hX.at_ hA hs.2.1
    rw [hX2.2.1, (hX2.bt hB).1]
    /- one more round of the other reader -/
    have one : ∀ (M0' : Mem) (e : Int) (M : Mem) (J : Mem → Prop), Rb M0' B T → Own M0' → Fre B T p e → RS M0' T D0 p e 1 M → (∀ (M' : Mem) (e' : Int), Fre B T s e' → RS M0' T D s e' (1 + D.N.R) M' → ((if s < T then B s else -1) = (-1) → J M') ∧ (¬ ((if s < T then B s else -1) = (-1)) → f_X12_statementTold M' (fun M_31 => wl1 (X12_net_b64 J) (4999 - D.N.R) M_31))) → wl1 (X12_net_b64 J) 5000 M := by
      intro M0' e M J b1 b2 hf hRS hJ
      refine ct M0' e M J b1 b2 hf hRS (fun M3 e3 hf3 hR3 => wl1_s (m := 4999 - D.N.R) (by omega) ?_)
      unfold X12_net_b64
      refine ⟨fun w => absurd hR3.2.2.2.2.1 w, fun _ => t_look (hR3.1.rb b1) hR3.2.1 hR3.2.2.1 (fun M4 s4 hs4 hA4 => ?_)⟩
      have es := hs.uniq hs4
      subst es
      exact hJ M4 e3 (hf3.skp hs) (hR3.rt hA4 hs.2.1)
    refine ⟨fun c => ?_, fun c => ?_⟩
    · have hsT : s < T := by omega
      have hb := (hB.2.2 s hsT).2
      refine st_R hB hD hs.self hX2 (fun M3 D' p' d1 d2 d3 d4 cs => ⟨fun _ => ⟨by unfold inR; omega, fun v ev => hrec v M3 ⟨D', p', by omega, d1, d4, fun M0' e M J b1 b2 hf hRS hJ => ?_⟩ (by omega)⟩, fun w => absurd w (by omega)⟩) (fun M3 x c hx hF cs => ⟨fun w => absurd rfl w, fun _ => h0 M3 x c hx hF (fun M0' e M J b1 b2 hf hRS hJ => ?_)⟩)
      · refine one M0' e M J b1 b2 hf hRS (fun M4 e4 hf4 hR4 => ⟨fun w => ?_, fun _ => ?_⟩)
        · rw [if_pos hsT] at w; omega
        · refine cs M0' e4 (1 + D.N.R) M4 _ b1 b2 (by omega) (by omega) hf4 hR4 (fun M5 e5 hf5 hR5 => ?_)
          have hh := hJ M5 e5 hf5 (by rw [d2, show 1 + (D.N.R + 1) = 1 + D.N.R + 1 by omega]; exact hR5)
          rw [d2, show 5000 - (D.N.R + 1) = 4999 - D.N.R by omega] at hh
          exact hh
      · refine one M0' e M J b1 b2 hf hRS (fun M4 e4 hf4 hR4 => ⟨fun w => ?_, fun _ => ?_⟩)
        · rw [if_pos hsT] at w; omega
        · refine cs M0' e4 (1 + D.N.R) M4 _ b1 b2 (by omega) (by omega) hf4 hR4 (fun M5 hJ5 => ?_)
          refine wl1_s (m := 4998 - D.N.R) (by omega) ?_
          unfold X12_net_b64
          exact ⟨fun _ => hJ M5 _ hJ5, fun w => absurd w (hJ5.ne hx)⟩
    · refine h1 M2 D s hD hX2 (fun M0' e M J b1 b2 hf hRS hJ => one M0' e M J b1 b2 hf hRS (fun M4 e4 hf4 hR4 => ⟨fun _ => hJ M4 e4 hR4, fun w => absurd ?_ w⟩))
      rw [if_neg (by omega)]
  · have hh := hJ M e hf (by rw [hR0]; exact hRS)
    rw [hR0] at hh
    exact hh
end
