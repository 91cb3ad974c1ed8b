/-! the law, once nets are read alike -/
def NetQ : Prop := ∀ (t : Nat) (M : Mem) (Q : Int → Int → Mem → Prop), Sta t M → t ≤ 1000 → (∀ (r : Int) (M2 : Mem), Sta (t + 1) M2 → Q r r M2) → f_X11_net M (fun r M1 => f_X12_net M1 (fun r2 M2 => Q r r2 M2))
set_option maxHeartbeats 4000000 in
theorem pure_of (hnet : NetQ) (sc : Nat → Int) (L : Nat) (hsc : ∀ j, inR (sc j)) (hL : L ≤ 3072) : f_law sc L cm_39 := by
  unfold f_law
  refine wl2_inv (I := fun (v : Int) (M : Mem) => ∃ t : Nat, v = 6 * t ∧ t ≤ 512 ∧ Sta t M) (μ := fun (v : Int) (_ : Mem) => 3078 - v.toNat) ?_ 5000 _ _ ⟨0, rfl, by omega, sta_0⟩ (by simp)
  rintro rec v M ⟨t, hv, ht, hSta⟩ hrec
  unfold L_law_b18
  refine ⟨by unfold inR; omega, fun _ => trivial, fun hlt => ?_⟩
  have ht' : t ≤ 1000 := by omega
  have fin : ∀ (r : Int) (M2 : Mem), Sta (t + 1) M2 → (r = r → (inR (v + 6) ∧ ∀ v' : Int, v' = v + 6 → rec v' M2)) ∧ (¬ (r = r) → False) := fun r M2 h => ⟨fun _ => ⟨by unfold inR; omega, fun v' e => hrec v' M2 ⟨t + 1, by omega, by omega, h⟩ (by omega)⟩, fun z => z rfl⟩
  obtain ⟨N, n, A, F, W, H, K, hS⟩ := id hSta
  obtain ⟨hC, hR, hN, hO, hE, hn, hX, hH, hK, hG⟩ := id hS
  have hq : ∀ (r : Int) (M2 : Mem), Qf M M2 → Core M2 N → (r = r → (inR (v + 6) ∧ ∀ v' : Int, v' = v + 6 → rec v' M2)) ∧ (¬ (r = r) → False) := fun r M2 h1 h2 => fin r M2 ⟨N, n, A, F, W, H, K, hS.qf h1 h2⟩
  have hm : ∀ r : Int, (r = r → (inR (v + 6) ∧ ∀ v' : Int, v' = v + 6 → rec v' M)) ∧ (¬ (r = r) → False) := fun r => hq r M (Qf.refl M) hC
  refine ⟨by omega, fun _ => ?_, fun _ => ?_, fun _ => ?_, fun _ => ?_, fun _ => ?_, fun _ => ?_, fun _ => ?_, fun _ => ?_, fun _ => ?_, fun _ => ?_, fun _ => ?_, fun _ => ?_, fun _ => ?_, fun _ => ?_, fun _ => ?_, fun _ => ?_, fun _ => ?_, fun _ => ?_, fun _ => ?_, fun _ => ?_, fun _ => ?_, fun _ => ?_, fun _ => ?_, fun _ => ?_, fun _ => ?_, fun _ => ?_, fun _ => ?_, fun _ => ?_, fun _ => ?_, fun _ => ?_, fun _ => ?_, fun _ => ?_, fun _ => ?_, fun _ => ?_, fun _ => ?_, fun _ => ?_, fun _ => ?_, fun _ => ?_, fun _ => ?_, fun _ => ?_, fun _ => ?_, fun _ => ?_, fun _ => ?_, fun _ => (hm 0).1 rfl⟩
  · exact ⟨by omega, by omega, by omega, by omega, by omega, q_feed hS ht' fin⟩
  · exact ⟨by omega, q_end hS ht' fin⟩
  · exact hnet t M _ hSta ht' fin
  · exact ⟨by omega, q_fault hS hm⟩
  · exact ⟨by omega, q_has hC hR.1 (by rw [hX.1, hH.1]) (by rw [hn.1, hn.2.1]) hq⟩
  · exact ⟨by omega, by omega, by omega, q_letter hC hR.1 ⟨hR.2.1, hR.2.2.1⟩ hN.1 hN.2 hm⟩
  · exact ⟨by omega, by omega, q_reach hC hq⟩
  · exact ⟨by omega, by omega, q_place hC hq⟩
  · exact ⟨by omega, by omega, by omega, q_rank hC hq⟩
  · exact ⟨by omega, by omega, by omega, q_goes hC hq⟩
  · exact ⟨by omega, by omega, by omega, q_stem hC hq⟩
  · exact ⟨by omega, by omega, q_stems hC hq⟩
  · exact ⟨by omega, by omega, q_beyond hC hq⟩
  · exact ⟨by omega, q_springs hC hq⟩
  · exact ⟨by omega, by omega, q_ways hC hq⟩
  · exact ⟨by omega, by omega, by omega, q_far hC hq⟩
  · exact ⟨by omega, by omega, q_waters hC hq⟩
  · exact ⟨by omega, q_braid hC hq⟩
  · exact ⟨by omega, by omega, q_streams hC hq⟩
  · exact ⟨by omega, by omega, q_river hC hR.1 ⟨hR.2.1, hR.2.2.1⟩ hq⟩
  · exact ⟨by omega, q_canTurn hC hm⟩
  · exact ⟨by omega, by omega, q_would hC hq⟩
  · exact ⟨by omega, q_loss hC hq⟩
  · exact ⟨by omega, q_starves hC hq⟩
  · exact ⟨by omega, q_fewest hC hq⟩
  · exact ⟨by omega, by omega, q_wave hC hq⟩
  · exact ⟨by omega, q_changed hC hG hq⟩
  · exact q_see hS ht' fin
  · exact q_fits hC hn hq
  · exact ⟨by omega, q_tells hC hn hq⟩
  · exact ⟨by omega, by omega, by omega, by omega, q_add hS ht' fin⟩
  · exact ⟨by omega, q_drop hS ht' fin⟩
  · exact ⟨by omega, by omega, q_cut hS ht' fin⟩
  · exact ⟨by omega, q_turn hS ht' fin⟩
  · exact ⟨by omega, by omega, q_gives hS ht' fin⟩
  · exact ⟨by omega, by omega, q_call hS ht' fin⟩
  · exact ⟨by omega, q_chance hS ht' fin⟩
  · exact q_undo hS ht' fin
  · exact ⟨by omega, q_seed hS ht' (hsc _) fin⟩
  · exact q_image hS fin
  · exact ⟨by omega, q_octet hS hm⟩
  · exact q_on hS ht' fin
  · exact ⟨by omega, q_status hS hm⟩
