/-! reading: a whole text by the class, and what the other reader will do -/
def D_0 : Drf := (N_0, 0, fun _ => 0, fun _ => 0, fun _ => 0, fun _ => 0)
theorem dok_0 : DOk D_0 := ⟨good_0, Nat.zero_le _, fun r hr => absurd hr (Nat.not_lt_zero _), fun r hr => absurd hr (Nat.not_lt_zero _), fun r hr => absurd hr (Nat.not_lt_zero _)⟩
def RefOk (B : Nat → Int) (T : Nat) (D : Drf) : Prop := ∀ (M0 M : Mem) (J : Mem → Prop), Rb M0 B T → Own M0 → RS M0 T D_0 0 (-1) 0 M → (∀ (M' : Mem) (p : Nat) (e : Int), RS M0 T D p e (1 + D.N.R) M' → J M') → f_X12_statementTold M (fun M9 => wl1 (X12_net_b64 J) 5000 M9)
def RefNo (B : Nat → Int) (T : Nat) (x c : Int) : Prop := ∀ (M0 M : Mem) (J : Mem → Prop), Rb M0 B T → Own M0 → RS M0 T D_0 0 (-1) 0 M → (∀ (M' : Mem) (k : Nat), JK M0 T x c k M' → J M') → f_X12_statementTold M (fun M9 => wl1 (X12_net_b64 J) 5000 M9)
section
variable {M0 M M' : Mem} {B : Nat → Int} {T p q k s : Nat} {D : Drf} {e : Int}
theorem fre_0 : Fre B T 0 (-1) := ⟨by omega, fun z => by omega⟩
theorem k_read (hB : Bt M B T) {Q : Int → Mem → Prop} (h1 : ∀ (M' : Mem) (D : Drf), DOk D → FrX M M' → M' 3 4 = 0 → M' 3 5 = -1 → DrX M' D → RefOk B T D → Q 1 M') (h0 : ∀ (M' : Mem) (x c : Int), x ≠ 0 → XF M x c M' → RefNo B T x c → Q 0 M') : f_X6_read M Q := by
  unfold f_X6_read
  intro M1 e1 M2 e2 M3 e3 M4 e4 M5 e5 M6 e6
  have hX : XS M T D_0 0 M6 := by
    refine ⟨fun d d1 d2 => ?_, ?_, Nat.zero_le _, ?_, ?_, ⟨?_, ?_, fun r hr => absurd hr (Nat.not_lt_zero _)⟩, ?_, fun r hr => absurd hr (Nat.not_lt_zero _), fun r hr => absurd hr (Nat.not_lt_zero _)⟩
    · rw [e6, st_o d1, e5, st_o d1, e4, st_o d1, e3, st_o (by omega), e2, st_o (by omega), e1, st_o d1]
    · rw [e6, st_s, if_neg (by omega), e5, st_s, if_neg (by omega), e4, st_s, if_neg (by omega), e3, st_o (by omega), e2, st_o (by omega), e1, st_s, if_pos rfl]; rfl
    · rw [e6, st_s, if_neg (by omega), e5, st_s, if_pos rfl]
    · rw [e6, st_s, if_pos rfl]
    · rw [e6, st_o (by omega), e5, st_o (by omega), e4, st_o (by omega), e3, st_s, if_neg (by omega), e2, st_s, if_pos rfl]; rfl
    · rw [e6, st_o (by omega), e5, st_o (by omega), e4, st_o (by omega), e3, st_s, if_pos rfl]; rfl
    · rw [e6, st_s, if_neg (by omega), e5, st_s, if_neg (by omega), e4, st_s, if_pos rfl]; rfl
  refine k_places hB dok_0 rfl rfl hX (fun M8 D p' hD hR hX8 ct => ⟨fun _ => ?_, fun w => absurd w (by omega)⟩) (fun M8 x c hx hF ct => ⟨fun w => absurd rfl w, fun _ => h0 M8 x c hx hF (fun M0' M' J b1 b2 hRS hJ => ct M0' _ M' _ b1 b2 fre_0 hRS (fun M9 hJ9 => wl1_s (m := 4999) rfl ?_))⟩)
  · refine k_reaches hB hD hR hX8 (fun M9 D' p9 hD' hX9 cr => h1 M9 D' hD' hX9.1 hX9.2.2.2.1 hX9.2.2.2.2.1 hX9.2.2.2.2.2 (fun M0' M' J b1 b2 hRS hJ => ct M0' _ M' _ b1 b2 fre_0 hRS (fun M10 e10 hf10 hR10 => cr M0' e10 M10 J b1 b2 hf10 hR10 (fun M11 e11 hR11 => hJ M11 p9 e11 hR11)))) (fun M9 x c hx hF cr => h0 M9 x c hx hF (fun M0' M' J b1 b2 hRS hJ => ct M0' _ M' _ b1 b2 fre_0 hRS (fun M10 e10 hf10 hR10 => cr M0' e10 M10 J b1 b2 hf10 hR10 (fun M11 k11 hJ11 => hJ M11 k11 hJ11))))
  · unfold X12_net_b64
    exact ⟨fun _ => hJ M9 1 hJ9, fun w => absurd w (hJ9.ne hx)⟩
end
