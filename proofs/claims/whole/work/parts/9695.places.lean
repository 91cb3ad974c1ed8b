/-! reading: the list of places -/
section
variable {M0 M M' : Mem} {B : Nat → Int} {T p q k s : Nat} {D : Drf} {e : Int}
theorem wl2_s {α β : Type} {b : (α → β → Prop) → α → β → Prop} {n m : Nat} (e : n = m + 1) {x : α} {y : β} (h : b (wl2 b m) x y) : wl2 b n x y := by
  subst e
  exact h
theorem pl_end {Qp : Mem → Prop} {n : Nat} (hn : 0 < n) (h : Qp M) : wl2 (X12_placesTold_b13 Qp) n 0 M := by
  refine wl2_s (m := n - 1) (by omega) ?_
  unfold X12_placesTold_b13
  exact ⟨fun _ => h, fun w => absurd rfl w⟩
theorem k_places {D0 : Drf} (hB : Bt M0 B T) (hD0 : DOk D0) (hR0 : D0.N.R = 0) (hP0 : D0.N.P = 0) (h : XS M0 T D0 p M) {Q : Int → Mem → Prop} (h1 : ∀ (M' : Mem) (D : Drf) (p' : Nat), DOk D → D.N.R = 0 → XS M0 T D p' M' → (∀ (M0' : Mem) (e : Int) (M : Mem) (Q' : Mem → Prop), Rb M0' B T → Own M0' → Fre B T p e → RS M0' T D0 p e 0 M → (∀ (M' : Mem) (e' : Int), Fre B T p' e' → RS M0' T D p' e' 1 M' → Q' M') → f_X12_statementTold M Q') → Q 1 M') (h0 : ∀ (M' : Mem) (x c : Int), x ≠ 0 → XF M0 x c M' → (∀ (M0' : Mem) (e : Int) (M : Mem) (Q' : Mem → Prop), Rb M0' B T → Own M0' → Fre B T p e → RS M0' T D0 p e 0 M → (∀ M' : Mem, JK M0' T x c 1 M' → Q' M') → f_X12_statementTold M Q') → Q 0 M') : f_X6_readPlaces M Q := by
  unfold f_X6_readPlaces
  refine k_wantWord (j := 0) (by omega) hB h rfl (fun M1 s q hw hX1 => ⟨fun _ => ?_, fun w => absurd w (by omega)⟩) (fun M1 s hs hw hF => ⟨fun w => absurd rfl w, fun _ => h0 M1 1 s (by omega) hF (fun M0' e M Q' b1 b2 hf hRS hQ => t_stmt (j := 0) (by rw [if_pos rfl]) b1 b2 hRS hs hf (by omega) (fun q' hw' => absurd hw' (hw q')) (fun hno M2 hJ2 => hQ M2 hJ2))⟩)
  have up : ∀ (M0' : Mem) (e : Int) (M : Mem) (Q' : Mem → Prop), Rb M0' B T → Own M0' → Fre B T p e → RS M0' T D0 p e 0 M → (∀ M' : Mem, RS M0' T D0 q q 0 M' → wl2 (X12_placesTold_b13 (tS Q')) 5000 1 M') → f_X12_statementTold M Q' := by
    intro M0' e M Q' b1 b2 hf hRS hQ
    refine t_stmt (j := 0) (by rw [if_pos rfl]) b1 b2 hRS hw.1 hf (by omega) (fun q' hw' M2 hR2 => ⟨fun _ => ?_, fun w => absurd rfl w⟩) (fun hno => absurd hw (hno q))
    have eq := hw.2.1.uniq hw'.2.1
    subst eq
    unfold f_X12_placesTold
    exact jn_use (P := fun J => J 1) (hQ M2 hR2) (fun J hJ => ⟨fun w => absurd hR2.2.2.2.2.1 w, fun _ => hJ⟩)
  have hfq : Fre B T q q := hw.2.1.fre
  refine jn_use (P := fun J => ∀ (M3 : Mem) (D : Drf) (p3 : Nat), DOk D → D.N.R = 0 → XS M0 T D p3 M3 → (∀ (M0' : Mem) (M : Mem) (Qp : Mem → Prop), Rb M0' B T → Own M0' → RS M0' T D0 q q 0 M → (∀ (M' : Mem) (e' : Int), Fre B T p3 e' → RS M0' T D p3 e' 0 M' → Qp M') → wl2 (X12_placesTold_b13 Qp) 5000 1 M) → J M3) (fun M3 D p3 hD hR hX3 ct => ?_) (fun J hJ => ?_)
  · refine k_wantEnd hB hX3 (fun M4 s4 hs4 hc hX4 => h1 M4 D (s4 + 1) hD hR hX4 (fun M0' e M Q' b1 b2 hf hRS hQ => up M0' e M Q' b1 b2 hf hRS (fun M5 hR5 => ct M0' M5 _ b1 b2 hR5 (fun M6 e6 hf6 hR6 => tS_ok b1 hR6 hs4 (by omega) (fun _ M7 hR7 => hQ M7 e6 ⟨?_, fun z => ?_⟩ hR7) (fun z => absurd hc z))))) (fun M4 s4 hs4 hc hF => h0 M4 1 s4 (by omega) hF (fun M0' e M Q' b1 b2 hf hRS hQ => up M0' e M Q' b1 b2 hf hRS (fun M5 hR5 => ct M0' M5 _ b1 b2 hR5 (fun M6 e6 hf6 hR6 => tS_ok b1 hR6 hs4 (by omega) (fun z => absurd z hc) (fun _ M7 hJ7 => hQ M7 hJ7)))))
    · have := hf6.1; have := hs4.1; omega
    · have := hf6.1; have := hs4.1; omega
  refine wl2_inv (I := fun (v : Int) (M3 : Mem) => ∃ (D : Drf) (p3 : Nat), v = D.N.P ∧ DOk D ∧ D.N.R = 0 ∧ XS M0 T D p3 M3 ∧ (∀ (M0' : Mem) (M : Mem) (Qp : Mem → Prop), Rb M0' B T → Own M0' → RS M0' T D0 q q 0 M → (∀ (M' : Mem) (e' : Int), Fre B T p3 e' → RS M0' T D p3 e' 0 M' → wl2 (X12_placesTold_b13 Qp) (5000 - D.N.P) 1 M') → wl2 (X12_placesTold_b13 Qp) 5000 1 M)) (μ := fun (v : Int) (_ : Mem) => 40 - v.toNat) ?_ 5000 _ _ ⟨D0, q, by omega, hD0, hR0, hX1, fun M0' M Qp b1 b2 hRS hQ => by have := hQ M q hfq hRS; rw [hP0] at this; exact this⟩ (by omega)
  rintro rec v M3 ⟨D, p3, rfl, hD, hR, hX3, ct⟩ hrec
  have hP := hD.1.1.1
  unfold X6_readPlaces_b13
  refine ⟨fun c => by omega, fun _ => k_newPlace hB hD hX3 (fun M4 s4 q4 x y hs4 hn hr hP20 hX4 => ⟨fun _ => ?_, fun w => absurd w (by omega)⟩) (fun M4 s4 a c hs4 ha hpl hF => ⟨fun w => absurd rfl w, fun _ => h0 M4 a c ha hF (fun M0' e M Q' b1 b2 hf hRS hQ => up M0' e M Q' b1 b2 hf hRS (fun M5 hR5 => ct M0' M5 _ b1 b2 hR5 (fun M6 e6 hf6 hR6 => wl2_s (m := 4999 - D.N.P) (by omega) (t_plStep b1 b2 hD hR hR6 hs4 hf6 (fun M7 q7 x7 y7 n7 r7 P7 _ => absurd hpl (PlB.no n7 r7 P7)) (fun M7 a7 c7 ha7 hpl7 hJ7 => ?_)))))⟩)⟩
  · have hD4 := hD.plc hR hP20 hn.nm
    have step : ∀ (M0' : Mem) (M : Mem) (Qp : Mem → Prop), Rb M0' B T → Own M0' → RS M0' T D0 q q 0 M → (∀ M' : Mem, RS M0' T (D.plc x y) q4 q4 0 M' → f_X12_takesSign 44 M' (fun r M => wl2 (X12_placesTold_b13 Qp) (4999 - D.N.P) r M)) → wl2 (X12_placesTold_b13 Qp) 5000 1 M := by
      intro M0' M Qp b1 b2 hRS hQ
      refine ct M0' M Qp b1 b2 hRS (fun M6 e6 hf6 hR6 => wl2_s (m := 4999 - D.N.P) (by omega) (t_plStep b1 b2 hD hR hR6 hs4 hf6 (fun M7 q7 x7 y7 n7 r7 P7 hR7 => ?_) (fun M7 a7 c7 ha7 hpl7 hJ7 => absurd hpl7 (PlB.no hn hr hP20))))
      obtain ⟨rfl, rfl, rfl⟩ := hn.uniq n7
      exact hQ M7 hR7
    refine k_takeSign hB hX4 (by omega) (fun M5 s5 hs5 hc hX5 => ⟨fun _ => ⟨by unfold inR; omega, fun v ev => hrec v M5 ⟨D.plc x y, s5 + 1, ?_, hD4, hR, hX5, fun M0' M Qp b1 b2 hRS hQ => step M0' M Qp b1 b2 hRS (fun M6 hR6 => t_takesSign b1 hR6 hs5 (by omega) (fun M7 _ hR7 => ?_) (fun M7 z _ => absurd hc z))⟩ (by omega)⟩, fun w => absurd w (by omega)⟩) (fun M5 s5 hs5 hc hX5 => ⟨fun w => absurd rfl w, fun _ => hJ M5 (D.plc x y) s5 hD4 hR hX5 (fun M0' M Qp b1 b2 hRS hQ => step M0' M Qp b1 b2 hRS (fun M6 hR6 => t_takesSign b1 hR6 hs5 (by omega) (fun M7 z _ => absurd z hc) (fun M7 _ hR7 => pl_end (by omega) (hQ M7 q4 (hn.1.fre.skp hs5) hR7))))⟩)
    · show v = ((D.N.P + 1 : Nat) : Int); omega
    · have hh := hQ M7 q4 ⟨by have := hs5.1; omega, fun z => by have := hs5.1; omega⟩ hR7
      rw [show (D.plc x y).N.P = D.N.P + 1 from rfl, show 5000 - (D.N.P + 1) = 4999 - D.N.P by omega] at hh
      exact hh
  · obtain ⟨rfl, rfl⟩ := hpl.uniq hpl7
    exact pl_end (by omega) (tS_bad hJ7 ha7 (by omega) hQ)
end
