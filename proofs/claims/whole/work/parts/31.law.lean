def L_law_b18 (sc : Nat → Int) (L : Nat) (rec18 : Int → Mem → Prop) (v3_1 : Int) (M_2 : Mem) : Prop :=
  inR ((L : Int) - 6) ∧ ((L : Int) - 6 < v3_1 → (True)) ∧ (¬ ((L : Int) - 6 < v3_1) → ((0 ≤ v3_1 ∧ v3_1 < L) ∧ (bAnd (sc (v3_1).toNat) 63 = 0 → ((0 ≤ v3_1 + 1 ∧ v3_1 + 1 < L) ∧ (0 ≤ v3_1 + 2 ∧ v3_1 + 2 < L) ∧ (0 ≤ v3_1 + 3 ∧ v3_1 + 3 < L) ∧ (0 ≤ v3_1 + 4 ∧ v3_1 + 4 < L) ∧ (0 ≤ v3_1 + 5 ∧ v3_1 + 5 < L) ∧ f_X11_feed (sc (v3_1 + 1).toNat) (sc (v3_1 + 2).toNat) (sc (v3_1 + 3).toNat) (sc (v3_1 + 4).toNat) (sc (v3_1 + 5).toNat) M_2 (fun r_10 M_11 => (0 ≤ v3_1 + 1 ∧ v3_1 + 1 < L) ∧ (0 ≤ v3_1 + 2 ∧ v3_1 + 2 < L) ∧ (0 ≤ v3_1 + 3 ∧ v3_1 + 3 < L) ∧ (0 ≤ v3_1 + 4 ∧ v3_1 + 4 < L) ∧ (0 ≤ v3_1 + 5 ∧ v3_1 + 5 < L) ∧ f_X12_feed (sc (v3_1 + 1).toNat) (sc (v3_1 + 2).toNat) (sc (v3_1 + 3).toNat) (sc (v3_1 + 4).toNat) (sc (v3_1 + 5).toNat) M_11 (fun r_17 M_18 => (r_10 = r_17 → (inR (v3_1 + 6) ∧ ∀ v3_19 : Int, v3_19 = v3_1 + 6 → rec18 v3_19 M_18)) ∧ (¬ (r_10 = r_17) → (False)))))) ∧ (bAnd (sc (v3_1).toNat) 63 = 1 → ((0 ≤ v3_1 + 1 ∧ v3_1 + 1 < L) ∧ f_X11_end (sc (v3_1 + 1).toNat) M_2 (fun r_24 M_25 => (0 ≤ v3_1 + 1 ∧ v3_1 + 1 < L) ∧ f_X12_end (sc (v3_1 + 1).toNat) M_25 (fun r_27 M_28 => (r_24 = r_27 → (inR (v3_1 + 6) ∧ ∀ v3_29 : Int, v3_29 = v3_1 + 6 → rec18 v3_29 M_28)) ∧ (¬ (r_24 = r_27) → (False)))))) ∧ (bAnd (sc (v3_1).toNat) 63 = 2 → (f_X11_net M_2 (fun r_33 M_34 => f_X12_net M_34 (fun r_35 M_36 => (r_33 = r_35 → (inR (v3_1 + 6) ∧ ∀ v3_37 : Int, v3_37 = v3_1 + 6 → rec18 v3_37 M_36)) ∧ (¬ (r_33 = r_35) → (False)))))) ∧ (bAnd (sc (v3_1).toNat) 63 = 3 → ((0 ≤ v3_1 + 1 ∧ v3_1 + 1 < L) ∧ f_X11_fault (sc (v3_1 + 1).toNat) M_2 (fun r_42 => (0 ≤ v3_1 + 1 ∧ v3_1 + 1 < L) ∧ f_X12_fault (sc (v3_1 + 1).toNat) M_2 (fun r_45 => (r_42 = r_45 → (inR (v3_1 + 6) ∧ ∀ v3_47 : Int, v3_47 = v3_1 + 6 → rec18 v3_47 M_2)) ∧ (¬ (r_42 = r_45) → (False)))))) ∧ (bAnd (sc (v3_1).toNat) 63 = 4 → ((0 ≤ v3_1 + 1 ∧ v3_1 + 1 < L) ∧ f_X11_has (sc (v3_1 + 1).toNat) M_2 (fun r_52 => (0 ≤ v3_1 + 1 ∧ v3_1 + 1 < L) ∧ f_X12_has (sc (v3_1 + 1).toNat) M_2 (fun r_55 M_56 => (r_52 = r_55 → (inR (v3_1 + 6) ∧ ∀ v3_57 : Int, v3_57 = v3_1 + 6 → rec18 v3_57 M_56)) ∧ (¬ (r_52 = r_55) → (False)))))) ∧ (bAnd (sc (v3_1).toNat) 63 = 5 → ((0 ≤ v3_1 + 1 ∧ v3_1 + 1 < L) ∧ (0 ≤ v3_1 + 2 ∧ v3_1 + 2 < L) ∧ (0 ≤ v3_1 + 3 ∧ v3_1 + 3 < L) ∧ f_X11_letter (sc (v3_1 + 1).toNat) (sc (v3_1 + 2).toNat) (sc (v3_1 + 3).toNat) M_2 (fun r_64 => (0 ≤ v3_1 + 1 ∧ v3_1 + 1 < L) ∧ (0 ≤ v3_1 + 2 ∧ v3_1 + 2 < L) ∧ (0 ≤ v3_1 + 3 ∧ v3_1 + 3 < L) ∧ f_X12_letter (sc (v3_1 + 1).toNat) (sc (v3_1 + 2).toNat) (sc (v3_1 + 3).toNat) M_2 (fun r_69 => (r_64 = r_69 → (inR (v3_1 + 6) ∧ ∀ v3_71 : Int, v3_71 = v3_1 + 6 → rec18 v3_71 M_2)) ∧ (¬ (r_64 = r_69) → (False)))))) ∧ (bAnd (sc (v3_1).toNat) 63 = 6 → ((0 ≤ v3_1 + 1 ∧ v3_1 + 1 < L) ∧ (0 ≤ v3_1 + 2 ∧ v3_1 + 2 < L) ∧ f_X11_reach (sc (v3_1 + 1).toNat) (sc (v3_1 + 2).toNat) M_2 (fun r_77 => (0 ≤ v3_1 + 1 ∧ v3_1 + 1 < L) ∧ (0 ≤ v3_1 + 2 ∧ v3_1 + 2 < L) ∧ f_X12_reach (sc (v3_1 + 1).toNat) (sc (v3_1 + 2).toNat) M_2 (fun r_81 M_82 => (r_77 = r_81 → (inR (v3_1 + 6) ∧ ∀ v3_83 : Int, v3_83 = v3_1 + 6 → rec18 v3_83 M_82)) ∧ (¬ (r_77 = r_81) → (False)))))) ∧ (bAnd (sc (v3_1).toNat) 63 = 7 → ((0 ≤ v3_1 + 1 ∧ v3_1 + 1 < L) ∧ (0 ≤ v3_1 + 2 ∧ v3_1 + 2 < L) ∧ f_X11_place (sc (v3_1 + 1).toNat) (sc (v3_1 + 2).toNat) M_2 (fun r_89 => (0 ≤ v3_1 + 1 ∧ v3_1 + 1 < L) ∧ (0 ≤ v3_1 + 2 ∧ v3_1 + 2 < L) ∧ f_X12_place (sc (v3_1 + 1).toNat) (sc (v3_1 + 2).toNat) M_2 (fun r_93 M_94 => (r_89 = r_93 → (inR (v3_1 + 6) ∧ ∀ v3_95 : Int, v3_95 = v3_1 + 6 → rec18 v3_95 M_94)) ∧ (¬ (r_89 = r_93) → (False)))))) ∧ (bAnd (sc (v3_1).toNat) 63 = 8 → ((0 ≤ v3_1 + 1 ∧ v3_1 + 1 < L) ∧ (0 ≤ v3_1 + 2 ∧ v3_1 + 2 < L) ∧ (0 ≤ v3_1 + 3 ∧ v3_1 + 3 < L) ∧ f_X11_rank (sc (v3_1 + 1).toNat) (sc (v3_1 + 2).toNat) (sc (v3_1 + 3).toNat) M_2 (fun r_102 => (0 ≤ v3_1 + 1 ∧ v3_1 + 1 < L) ∧ (0 ≤ v3_1 + 2 ∧ v3_1 + 2 < L) ∧ (0 ≤ v3_1 + 3 ∧ v3_1 + 3 < L) ∧ f_X12_rank (sc (v3_1 + 1).toNat) (sc (v3_1 + 2).toNat) (sc (v3_1 + 3).toNat) M_2 (fun r_107 M_108 => (r_102 = r_107 → (inR (v3_1 + 6) ∧ ∀ v3_109 : Int, v3_109 = v3_1 + 6 → rec18 v3_109 M_108)) ∧ (¬ (r_102 = r_107) → (False)))))) ∧ (bAnd (sc (v3_1).toNat) 63 = 9 → ((0 ≤ v3_1 + 1 ∧ v3_1 + 1 < L) ∧ (0 ≤ v3_1 + 2 ∧ v3_1 + 2 < L) ∧ (0 ≤ v3_1 + 3 ∧ v3_1 + 3 < L) ∧ f_X11_goes (sc (v3_1 + 1).toNat) (sc (v3_1 + 2).toNat) (sc (v3_1 + 3).toNat) M_2 (fun r_116 => (0 ≤ v3_1 + 1 ∧ v3_1 + 1 < L) ∧ (0 ≤ v3_1 + 2 ∧ v3_1 + 2 < L) ∧ (0 ≤ v3_1 + 3 ∧ v3_1 + 3 < L) ∧ f_X12_goes (sc (v3_1 + 1).toNat) (sc (v3_1 + 2).toNat) (sc (v3_1 + 3).toNat) M_2 (fun r_121 M_122 => (r_116 = r_121 → (inR (v3_1 + 6) ∧ ∀ v3_123 : Int, v3_123 = v3_1 + 6 → rec18 v3_123 M_122)) ∧ (¬ (r_116 = r_121) → (False)))))) ∧ (bAnd (sc (v3_1).toNat) 63 = 10 → ((0 ≤ v3_1 + 1 ∧ v3_1 + 1 < L) ∧ (0 ≤ v3_1 + 2 ∧ v3_1 + 2 < L) ∧ (0 ≤ v3_1 + 3 ∧ v3_1 + 3 < L) ∧ f_X11_stem (sc (v3_1 + 1).toNat) (sc (v3_1 + 2).toNat) (sc (v3_1 + 3).toNat) M_2 (fun r_130 => (0 ≤ v3_1 + 1 ∧ v3_1 + 1 < L) ∧ (0 ≤ v3_1 + 2 ∧ v3_1 + 2 < L) ∧ (0 ≤ v3_1 + 3 ∧ v3_1 + 3 < L) ∧ f_X12_stem (sc (v3_1 + 1).toNat) (sc (v3_1 + 2).toNat) (sc (v3_1 + 3).toNat) M_2 (fun r_135 M_136 => (r_130 = r_135 → (inR (v3_1 + 6) ∧ ∀ v3_137 : Int, v3_137 = v3_1 + 6 → rec18 v3_137 M_136)) ∧ (¬ (r_130 = r_135) → (False)))))) ∧ (bAnd (sc (v3_1).toNat) 63 = 11 → ((0 ≤ v3_1 + 1 ∧ v3_1 + 1 < L) ∧ (0 ≤ v3_1 + 2 ∧ v3_1 + 2 < L) ∧ f_X11_stems (sc (v3_1 + 1).toNat) (sc (v3_1 + 2).toNat) M_2 (fun r_143 => (0 ≤ v3_1 + 1 ∧ v3_1 + 1 < L) ∧ (0 ≤ v3_1 + 2 ∧ v3_1 + 2 < L) ∧ f_X12_stems (sc (v3_1 + 1).toNat) (sc (v3_1 + 2).toNat) M_2 (fun r_147 M_148 => (r_143 = r_147 → (inR (v3_1 + 6) ∧ ∀ v3_149 : Int, v3_149 = v3_1 + 6 → rec18 v3_149 M_148)) ∧ (¬ (r_143 = r_147) → (False)))))) ∧ (bAnd (sc (v3_1).toNat) 63 = 12 → ((0 ≤ v3_1 + 1 ∧ v3_1 + 1 < L) ∧ (0 ≤ v3_1 + 2 ∧ v3_1 + 2 < L) ∧ f_X11_beyond (sc (v3_1 + 1).toNat) (sc (v3_1 + 2).toNat) M_2 (fun r_155 => (0 ≤ v3_1 + 1 ∧ v3_1 + 1 < L) ∧ (0 ≤ v3_1 + 2 ∧ v3_1 + 2 < L) ∧ f_X12_beyond (sc (v3_1 + 1).toNat) (sc (v3_1 + 2).toNat) M_2 (fun r_159 M_160 => (r_155 = r_159 → (inR (v3_1 + 6) ∧ ∀ v3_161 : Int, v3_161 = v3_1 + 6 → rec18 v3_161 M_160)) ∧ (¬ (r_155 = r_159) → (False)))))) ∧ (bAnd (sc (v3_1).toNat) 63 = 13 → ((0 ≤ v3_1 + 1 ∧ v3_1 + 1 < L) ∧ f_X11_springs (sc (v3_1 + 1).toNat) M_2 (fun r_166 => (0 ≤ v3_1 + 1 ∧ v3_1 + 1 < L) ∧ f_X12_springs (sc (v3_1 + 1).toNat) M_2 (fun r_169 M_170 => (r_166 = r_169 → (inR (v3_1 + 6) ∧ ∀ v3_171 : Int, v3_171 = v3_1 + 6 → rec18 v3_171 M_170)) ∧ (¬ (r_166 = r_169) → (False)))))) ∧ (bAnd (sc (v3_1).toNat) 63 = 14 → ((0 ≤ v3_1 + 1 ∧ v3_1 + 1 < L) ∧ (0 ≤ v3_1 + 2 ∧ v3_1 + 2 < L) ∧ f_X11_ways (sc (v3_1 + 1).toNat) (sc (v3_1 + 2).toNat) M_2 (fun r_177 M_178 => (0 ≤ v3_1 + 1 ∧ v3_1 + 1 < L) ∧ (0 ≤ v3_1 + 2 ∧ v3_1 + 2 < L) ∧ f_X12_ways (sc (v3_1 + 1).toNat) (sc (v3_1 + 2).toNat) M_178 (fun r_181 M_182 => (r_177 = r_181 → (inR (v3_1 + 6) ∧ ∀ v3_183 : Int, v3_183 = v3_1 + 6 → rec18 v3_183 M_182)) ∧ (¬ (r_177 = r_181) → (False)))))) ∧ (bAnd (sc (v3_1).toNat) 63 = 15 → ((0 ≤ v3_1 + 1 ∧ v3_1 + 1 < L) ∧ (0 ≤ v3_1 + 2 ∧ v3_1 + 2 < L) ∧ (0 ≤ v3_1 + 3 ∧ v3_1 + 3 < L) ∧ f_X11_far (sc (v3_1 + 1).toNat) (sc (v3_1 + 2).toNat) (sc (v3_1 + 3).toNat) M_2 (fun r_190 M_191 => (0 ≤ v3_1 + 1 ∧ v3_1 + 1 < L) ∧ (0 ≤ v3_1 + 2 ∧ v3_1 + 2 < L) ∧ (0 ≤ v3_1 + 3 ∧ v3_1 + 3 < L) ∧ f_X12_far (sc (v3_1 + 1).toNat) (sc (v3_1 + 2).toNat) (sc (v3_1 + 3).toNat) M_191 (fun r_195 M_196 => (r_190 = r_195 → (inR (v3_1 + 6) ∧ ∀ v3_197 : Int, v3_197 = v3_1 + 6 → rec18 v3_197 M_196)) ∧ (¬ (r_190 = r_195) → (False)))))) ∧ (bAnd (sc (v3_1).toNat) 63 = 16 → ((0 ≤ v3_1 + 1 ∧ v3_1 + 1 < L) ∧ (0 ≤ v3_1 + 2 ∧ v3_1 + 2 < L) ∧ f_X11_waters (sc (v3_1 + 1).toNat) (sc (v3_1 + 2).toNat) M_2 (fun r_203 => (0 ≤ v3_1 + 1 ∧ v3_1 + 1 < L) ∧ (0 ≤ v3_1 + 2 ∧ v3_1 + 2 < L) ∧ f_X12_waters (sc (v3_1 + 1).toNat) (sc (v3_1 + 2).toNat) M_2 (fun r_207 M_208 => (r_203 = r_207 → (inR (v3_1 + 6) ∧ ∀ v3_209 : Int, v3_209 = v3_1 + 6 → rec18 v3_209 M_208)) ∧ (¬ (r_203 = r_207) → (False)))))) ∧ (bAnd (sc (v3_1).toNat) 63 = 17 → ((0 ≤ v3_1 + 1 ∧ v3_1 + 1 < L) ∧ f_X11_braid (sc (v3_1 + 1).toNat) M_2 (fun r_214 => (0 ≤ v3_1 + 1 ∧ v3_1 + 1 < L) ∧ f_X12_braid (sc (v3_1 + 1).toNat) M_2 (fun r_217 M_218 => (r_214 = r_217 → (inR (v3_1 + 6) ∧ ∀ v3_219 : Int, v3_219 = v3_1 + 6 → rec18 v3_219 M_218)) ∧ (¬ (r_214 = r_217) → (False)))))) ∧ (bAnd (sc (v3_1).toNat) 63 = 18 → ((0 ≤ v3_1 + 1 ∧ v3_1 + 1 < L) ∧ (0 ≤ v3_1 + 2 ∧ v3_1 + 2 < L) ∧ f_X11_streams (sc (v3_1 + 1).toNat) (sc (v3_1 + 2).toNat) M_2 (fun r_225 M_226 => (0 ≤ v3_1 + 1 ∧ v3_1 + 1 < L) ∧ (0 ≤ v3_1 + 2 ∧ v3_1 + 2 < L) ∧ f_X12_streams (sc (v3_1 + 1).toNat) (sc (v3_1 + 2).toNat) M_226 (fun r_229 M_230 => (r_225 = r_229 → (inR (v3_1 + 6) ∧ ∀ v3_231 : Int, v3_231 = v3_1 + 6 → rec18 v3_231 M_230)) ∧ (¬ (r_225 = r_229) → (False)))))) ∧ (bAnd (sc (v3_1).toNat) 63 = 19 → ((0 ≤ v3_1 + 1 ∧ v3_1 + 1 < L) ∧ (0 ≤ v3_1 + 2 ∧ v3_1 + 2 < L) ∧ f_X11_river (sc (v3_1 + 1).toNat) (sc (v3_1 + 2).toNat) M_2 (fun r_237 => (0 ≤ v3_1 + 1 ∧ v3_1 + 1 < L) ∧ (0 ≤ v3_1 + 2 ∧ v3_1 + 2 < L) ∧ f_X12_river (sc (v3_1 + 1).toNat) (sc (v3_1 + 2).toNat) M_2 (fun r_241 M_242 => (r_237 = r_241 → (inR (v3_1 + 6) ∧ ∀ v3_243 : Int, v3_243 = v3_1 + 6 → rec18 v3_243 M_242)) ∧ (¬ (r_237 = r_241) → (False)))))) ∧ (bAnd (sc (v3_1).toNat) 63 = 20 → ((0 ≤ v3_1 + 1 ∧ v3_1 + 1 < L) ∧ f_X11_canTurn (sc (v3_1 + 1).toNat) M_2 (fun r_248 => (0 ≤ v3_1 + 1 ∧ v3_1 + 1 < L) ∧ f_X12_canTurn (sc (v3_1 + 1).toNat) M_2 (fun r_251 => (r_248 = r_251 → (inR (v3_1 + 6) ∧ ∀ v3_253 : Int, v3_253 = v3_1 + 6 → rec18 v3_253 M_2)) ∧ (¬ (r_248 = r_251) → (False)))))) ∧ (bAnd (sc (v3_1).toNat) 63 = 21 → ((0 ≤ v3_1 + 1 ∧ v3_1 + 1 < L) ∧ (0 ≤ v3_1 + 2 ∧ v3_1 + 2 < L) ∧ f_X11_would (sc (v3_1 + 1).toNat) (sc (v3_1 + 2).toNat) M_2 (fun r_259 M_260 => (0 ≤ v3_1 + 1 ∧ v3_1 + 1 < L) ∧ (0 ≤ v3_1 + 2 ∧ v3_1 + 2 < L) ∧ f_X12_would (sc (v3_1 + 1).toNat) (sc (v3_1 + 2).toNat) M_260 (fun r_263 M_264 => (r_259 = r_263 → (inR (v3_1 + 6) ∧ ∀ v3_265 : Int, v3_265 = v3_1 + 6 → rec18 v3_265 M_264)) ∧ (¬ (r_259 = r_263) → (False)))))) ∧ (bAnd (sc (v3_1).toNat) 63 = 22 → ((0 ≤ v3_1 + 1 ∧ v3_1 + 1 < L) ∧ f_X11_loss (sc (v3_1 + 1).toNat) M_2 (fun r_270 M_271 => (0 ≤ v3_1 + 1 ∧ v3_1 + 1 < L) ∧ f_X12_loss (sc (v3_1 + 1).toNat) M_271 (fun r_273 M_274 => (r_270 = r_273 → (inR (v3_1 + 6) ∧ ∀ v3_275 : Int, v3_275 = v3_1 + 6 → rec18 v3_275 M_274)) ∧ (¬ (r_270 = r_273) → (False)))))) ∧ (bAnd (sc (v3_1).toNat) 63 = 23 → ((0 ≤ v3_1 + 1 ∧ v3_1 + 1 < L) ∧ f_X11_starves (sc (v3_1 + 1).toNat) M_2 (fun r_280 M_281 => (0 ≤ v3_1 + 1 ∧ v3_1 + 1 < L) ∧ f_X12_starves (sc (v3_1 + 1).toNat) M_281 (fun r_283 M_284 => (r_280 = r_283 → (inR (v3_1 + 6) ∧ ∀ v3_285 : Int, v3_285 = v3_1 + 6 → rec18 v3_285 M_284)) ∧ (¬ (r_280 = r_283) → (False)))))) ∧ (bAnd (sc (v3_1).toNat) 63 = 24 → ((0 ≤ v3_1 + 1 ∧ v3_1 + 1 < L) ∧ f_X11_fewest (sc (v3_1 + 1).toNat) M_2 (fun r_290 M_291 => (0 ≤ v3_1 + 1 ∧ v3_1 + 1 < L) ∧ f_X12_fewest (sc (v3_1 + 1).toNat) M_291 (fun r_293 M_294 => (r_290 = r_293 → (inR (v3_1 + 6) ∧ ∀ v3_295 : Int, v3_295 = v3_1 + 6 → rec18 v3_295 M_294)) ∧ (¬ (r_290 = r_293) → (False)))))) ∧ (bAnd (sc (v3_1).toNat) 63 = 25 → ((0 ≤ v3_1 + 1 ∧ v3_1 + 1 < L) ∧ (0 ≤ v3_1 + 2 ∧ v3_1 + 2 < L) ∧ f_X11_wave (sc (v3_1 + 1).toNat) (sc (v3_1 + 2).toNat) M_2 (fun r_301 M_302 => (0 ≤ v3_1 + 1 ∧ v3_1 + 1 < L) ∧ (0 ≤ v3_1 + 2 ∧ v3_1 + 2 < L) ∧ f_X12_wave (sc (v3_1 + 1).toNat) (sc (v3_1 + 2).toNat) M_302 (fun r_305 M_306 => (r_301 = r_305 → (inR (v3_1 + 6) ∧ ∀ v3_307 : Int, v3_307 = v3_1 + 6 → rec18 v3_307 M_306)) ∧ (¬ (r_301 = r_305) → (False)))))) ∧ (bAnd (sc (v3_1).toNat) 63 = 26 → ((0 ≤ v3_1 + 1 ∧ v3_1 + 1 < L) ∧ f_X11_changed (sc (v3_1 + 1).toNat) M_2 (fun r_312 => (0 ≤ v3_1 + 1 ∧ v3_1 + 1 < L) ∧ f_X12_changed (sc (v3_1 + 1).toNat) M_2 (fun r_315 M_316 => (r_312 = r_315 → (inR (v3_1 + 6) ∧ ∀ v3_317 : Int, v3_317 = v3_1 + 6 → rec18 v3_317 M_316)) ∧ (¬ (r_312 = r_315) → (False)))))) ∧ (bAnd (sc (v3_1).toNat) 63 = 27 → (f_X11_see M_2 (fun r_321 M_322 => f_X12_see M_322 (fun r_323 M_324 => (r_321 = r_323 → (inR (v3_1 + 6) ∧ ∀ v3_325 : Int, v3_325 = v3_1 + 6 → rec18 v3_325 M_324)) ∧ (¬ (r_321 = r_323) → (False)))))) ∧ (bAnd (sc (v3_1).toNat) 63 = 28 → (f_X11_fits M_2 (fun r_329 => f_X12_fits M_2 (fun r_331 M_332 => (r_329 = r_331 → (inR (v3_1 + 6) ∧ ∀ v3_333 : Int, v3_333 = v3_1 + 6 → rec18 v3_333 M_332)) ∧ (¬ (r_329 = r_331) → (False)))))) ∧ (bAnd (sc (v3_1).toNat) 63 = 29 → ((0 ≤ v3_1 + 1 ∧ v3_1 + 1 < L) ∧ f_X11_tells (sc (v3_1 + 1).toNat) M_2 (fun r_338 => (0 ≤ v3_1 + 1 ∧ v3_1 + 1 < L) ∧ f_X12_tells (sc (v3_1 + 1).toNat) M_2 (fun r_341 M_342 => (r_338 = r_341 → (inR (v3_1 + 6) ∧ ∀ v3_343 : Int, v3_343 = v3_1 + 6 → rec18 v3_343 M_342)) ∧ (¬ (r_338 = r_341) → (False)))))) ∧ (bAnd (sc (v3_1).toNat) 63 = 30 → ((0 ≤ v3_1 + 1 ∧ v3_1 + 1 < L) ∧ (0 ≤ v3_1 + 2 ∧ v3_1 + 2 < L) ∧ (0 ≤ v3_1 + 3 ∧ v3_1 + 3 < L) ∧ (0 ≤ v3_1 + 4 ∧ v3_1 + 4 < L) ∧ f_X11_add (sc (v3_1 + 1).toNat) (sc (v3_1 + 2).toNat) (sc (v3_1 + 3).toNat) (sc (v3_1 + 4).toNat) M_2 (fun r_351 M_352 => (0 ≤ v3_1 + 1 ∧ v3_1 + 1 < L) ∧ (0 ≤ v3_1 + 2 ∧ v3_1 + 2 < L) ∧ (0 ≤ v3_1 + 3 ∧ v3_1 + 3 < L) ∧ (0 ≤ v3_1 + 4 ∧ v3_1 + 4 < L) ∧ f_X12_add (sc (v3_1 + 1).toNat) (sc (v3_1 + 2).toNat) (sc (v3_1 + 3).toNat) (sc (v3_1 + 4).toNat) M_352 (fun r_357 M_358 => (r_351 = r_357 → (inR (v3_1 + 6) ∧ ∀ v3_359 : Int, v3_359 = v3_1 + 6 → rec18 v3_359 M_358)) ∧ (¬ (r_351 = r_357) → (False)))))) ∧ (bAnd (sc (v3_1).toNat) 63 = 31 → ((0 ≤ v3_1 + 1 ∧ v3_1 + 1 < L) ∧ f_X11_drop (sc (v3_1 + 1).toNat) M_2 (fun r_364 M_365 => (0 ≤ v3_1 + 1 ∧ v3_1 + 1 < L) ∧ f_X12_drop (sc (v3_1 + 1).toNat) M_365 (fun r_367 M_368 => (r_364 = r_367 → (inR (v3_1 + 6) ∧ ∀ v3_369 : Int, v3_369 = v3_1 + 6 → rec18 v3_369 M_368)) ∧ (¬ (r_364 = r_367) → (False)))))) ∧ (bAnd (sc (v3_1).toNat) 63 = 32 → ((0 ≤ v3_1 + 1 ∧ v3_1 + 1 < L) ∧ (0 ≤ v3_1 + 2 ∧ v3_1 + 2 < L) ∧ f_X11_cut (sc (v3_1 + 1).toNat) (sc (v3_1 + 2).toNat) M_2 (fun r_375 M_376 => (0 ≤ v3_1 + 1 ∧ v3_1 + 1 < L) ∧ (0 ≤ v3_1 + 2 ∧ v3_1 + 2 < L) ∧ f_X12_cut (sc (v3_1 + 1).toNat) (sc (v3_1 + 2).toNat) M_376 (fun r_379 M_380 => (r_375 = r_379 → (inR (v3_1 + 6) ∧ ∀ v3_381 : Int, v3_381 = v3_1 + 6 → rec18 v3_381 M_380)) ∧ (¬ (r_375 = r_379) → (False)))))) ∧ (bAnd (sc (v3_1).toNat) 63 = 33 → ((0 ≤ v3_1 + 1 ∧ v3_1 + 1 < L) ∧ f_X11_turn (sc (v3_1 + 1).toNat) M_2 (fun r_386 M_387 => (0 ≤ v3_1 + 1 ∧ v3_1 + 1 < L) ∧ f_X12_turn (sc (v3_1 + 1).toNat) M_387 (fun r_389 M_390 => (r_386 = r_389 → (inR (v3_1 + 6) ∧ ∀ v3_391 : Int, v3_391 = v3_1 + 6 → rec18 v3_391 M_390)) ∧ (¬ (r_386 = r_389) → (False)))))) ∧ (bAnd (sc (v3_1).toNat) 63 = 34 → ((0 ≤ v3_1 + 1 ∧ v3_1 + 1 < L) ∧ (0 ≤ v3_1 + 2 ∧ v3_1 + 2 < L) ∧ f_X11_gives (sc (v3_1 + 1).toNat) (sc (v3_1 + 2).toNat) M_2 (fun r_397 M_398 => (0 ≤ v3_1 + 1 ∧ v3_1 + 1 < L) ∧ (0 ≤ v3_1 + 2 ∧ v3_1 + 2 < L) ∧ f_X12_gives (sc (v3_1 + 1).toNat) (sc (v3_1 + 2).toNat) M_398 (fun r_401 M_402 => (r_397 = r_401 → (inR (v3_1 + 6) ∧ ∀ v3_403 : Int, v3_403 = v3_1 + 6 → rec18 v3_403 M_402)) ∧ (¬ (r_397 = r_401) → (False)))))) ∧ (bAnd (sc (v3_1).toNat) 63 = 35 → ((0 ≤ v3_1 + 1 ∧ v3_1 + 1 < L) ∧ (0 ≤ v3_1 + 2 ∧ v3_1 + 2 < L) ∧ f_X11_call (sc (v3_1 + 1).toNat) (sc (v3_1 + 2).toNat) M_2 (fun r_409 M_410 => (0 ≤ v3_1 + 1 ∧ v3_1 + 1 < L) ∧ (0 ≤ v3_1 + 2 ∧ v3_1 + 2 < L) ∧ f_X12_call (sc (v3_1 + 1).toNat) (sc (v3_1 + 2).toNat) M_410 (fun r_413 M_414 => (r_409 = r_413 → (inR (v3_1 + 6) ∧ ∀ v3_415 : Int, v3_415 = v3_1 + 6 → rec18 v3_415 M_414)) ∧ (¬ (r_409 = r_413) → (False)))))) ∧ (bAnd (sc (v3_1).toNat) 63 = 36 → ((0 ≤ v3_1 + 1 ∧ v3_1 + 1 < L) ∧ f_X11_chance (sc (v3_1 + 1).toNat) M_2 (fun r_420 M_421 => (0 ≤ v3_1 + 1 ∧ v3_1 + 1 < L) ∧ f_X12_chance (sc (v3_1 + 1).toNat) M_421 (fun r_423 M_424 => (r_420 = r_423 → (inR (v3_1 + 6) ∧ ∀ v3_425 : Int, v3_425 = v3_1 + 6 → rec18 v3_425 M_424)) ∧ (¬ (r_420 = r_423) → (False)))))) ∧ (bAnd (sc (v3_1).toNat) 63 = 37 → (f_X11_undo M_2 (fun r_429 M_430 => f_X12_undo M_430 (fun r_431 M_432 => (r_429 = r_431 → (inR (v3_1 + 6) ∧ ∀ v3_433 : Int, v3_433 = v3_1 + 6 → rec18 v3_433 M_432)) ∧ (¬ (r_429 = r_431) → (False)))))) ∧ (bAnd (sc (v3_1).toNat) 63 = 38 → ((0 ≤ v3_1 + 1 ∧ v3_1 + 1 < L) ∧ f_X11_seed (sc (v3_1 + 1).toNat) M_2 (fun r_438 M_439 => (0 ≤ v3_1 + 1 ∧ v3_1 + 1 < L) ∧ f_X12_seed (sc (v3_1 + 1).toNat) M_439 (fun r_441 M_442 => (r_438 = r_441 → (inR (v3_1 + 6) ∧ ∀ v3_443 : Int, v3_443 = v3_1 + 6 → rec18 v3_443 M_442)) ∧ (¬ (r_438 = r_441) → (False)))))) ∧ (bAnd (sc (v3_1).toNat) 63 = 39 → (f_X11_image M_2 (fun r_447 M_448 => f_X12_image M_448 (fun r_449 M_450 => (r_447 = r_449 → (inR (v3_1 + 6) ∧ ∀ v3_451 : Int, v3_451 = v3_1 + 6 → rec18 v3_451 M_450)) ∧ (¬ (r_447 = r_449) → (False)))))) ∧ (bAnd (sc (v3_1).toNat) 63 = 40 → ((0 ≤ v3_1 + 1 ∧ v3_1 + 1 < L) ∧ f_X11_octet (sc (v3_1 + 1).toNat) M_2 (fun r_456 => (0 ≤ v3_1 + 1 ∧ v3_1 + 1 < L) ∧ f_X12_octet (sc (v3_1 + 1).toNat) M_2 (fun r_459 => (r_456 = r_459 → (inR (v3_1 + 6) ∧ ∀ v3_461 : Int, v3_461 = v3_1 + 6 → rec18 v3_461 M_2)) ∧ (¬ (r_456 = r_459) → (False)))))) ∧ (bAnd (sc (v3_1).toNat) 63 = 41 → (f_X11_on M_2 (fun r_465 M_466 => f_X12_on M_466 (fun r_467 M_468 => (r_465 = r_467 → (inR (v3_1 + 6) ∧ ∀ v3_469 : Int, v3_469 = v3_1 + 6 → rec18 v3_469 M_468)) ∧ (¬ (r_465 = r_467) → (False)))))) ∧ (bAnd (sc (v3_1).toNat) 63 = 42 → ((0 ≤ v3_1 + 1 ∧ v3_1 + 1 < L) ∧ f_X11_status (sc (v3_1 + 1).toNat) M_2 (fun r_474 => (0 ≤ v3_1 + 1 ∧ v3_1 + 1 < L) ∧ f_X12_status (sc (v3_1 + 1).toNat) M_2 (fun r_477 => (r_474 = r_477 → (inR (v3_1 + 6) ∧ ∀ v3_479 : Int, v3_479 = v3_1 + 6 → rec18 v3_479 M_2)) ∧ (¬ (r_474 = r_477) → (False)))))) ∧ ((bAnd (sc (v3_1).toNat) 63 < 0 ∨ 42 < bAnd (sc (v3_1).toNat) 63) → (inR (v3_1 + 6) ∧ ∀ v3_483 : Int, v3_483 = v3_1 + 6 → rec18 v3_483 M_2))))
def f_law (sc : Nat → Int) (L : Nat) (M : Mem) : Prop :=
  wl2 (L_law_b18 sc L) 5000 0 M
set_option maxHeartbeats 8000000 in
set_option maxRecDepth 100000 in
theorem c_law {p : Program} {e : Env} {s : State} {m : MethodId} {below : List Frame} {meth : Method} {c : Code} (l : Launch) {b L B : Nat} {xs : Nat → Int32} {D : va_G} {K : Nat → ClassId} (hL : L ≤ 3072) (hC : Cx p s m #[Value.ref b] meth c D K code 4 RL ret) (hBs : s.heap.size = B) (hX : va_X b L xs s s.heap) (hbl : b < s.heap.size) (M : Mem) (hM : MR M) (hf : f_law (fun j => (xs j).toInt) L M) : G p l e room_1 s m #[Value.ref b] below meth c B D K 4 127 11322 (lw_Z below #[Value.ref b] s) M 16 [(2, .ref (B + 95)), (1, .ref (B + 0)), (0, .ref b)] [] := by
  have hC : Cx p s m #[Value.ref b] meth c D K cL_law 4 RL ret := hC
  obtain ⟨sc, hsc0⟩ : ∃ sc : Nat → Int, sc = fun j => (xs j).toInt := ⟨_, rfl⟩
  have hsc : ∀ j, inR (sc j) := fun j => by rw [hsc0]; exact in_32 _
  rw [← hsc0] at hf
  unfold f_law at hf
  refine g_iconst hC dL_law_16 ?_
  refine g_istore_n hC [(3, J 0), (2, .ref (B + 95)), (1, .ref (B + 0)), (0, .ref b)] dL_law_17 rfl (by decide) rfl ?_
  refine g_sub [(0, .ref b), (1, .ref (B + 0)), (2, .ref (B + 95)), (3, J 0)] [3, 2, 1, 0] rfl ?_
  refine wl2_elim (fun (v3_1 : Int) (M_2 : Mem) => inR v3_1 → MR M_2 → G p l e room_1 s m #[Value.ref b] below meth c B D K 4 127 11322 (lw_Z below #[Value.ref b] s) M_2 18 [(0, .ref b), (1, .ref (B + 0)), (2, .ref (B + 95)), (3, J v3_1)] []) ?_ 5000 0 M hf (by unfold inR; omega) hM
  intro rec18 ih18 v3_1 M_2 hf h_v3_1 h_M_2
  unfold L_law_b18 at hf
  refine g_iload_n hC 3 dL_law_18 rfl rfl ?_
  refine g_aload_n hC 0 dL_law_19 rfl rfl ?_
  refine g_slen hC hBs hX hbl dL_law_20 ?_
  refine g_bipush hC dL_law_21 (by decide) ?_
  refine g_isub hC dL_law_23 ?_
  obtain ⟨q_3, hf⟩ := hf
  refine g_icmp_gt hC 1455 h_v3_1 q_3 dL_law_24 rfl (fun c_486 => ?_) (fun c_486 => ?_)
  · replace hf := hf.1 c_486
    refine g_iconst hC dL_law_1455 ?_
    exact g_lret hC hBs dL_law_1456
  · replace hf := hf.2 c_486
    refine g_aload_n hC 0 dL_law_27 rfl rfl ?_
    refine g_iload_n hC 3 dL_law_28 rfl rfl ?_
    obtain ⟨q_4, hf⟩ := hf
    refine g_sld hC hsc0 hBs hX hbl hL q_4.1 q_4.2 dL_law_29 ?_
    refine g_bipush hC dL_law_30 (by decide) ?_
    refine g_iand hC dL_law_32 ?_
    by_cases c_22 : bAnd (sc (v3_1).toNat) 63 = 0
    · replace hf := hf.1 c_22
      refine g_tabIn hC 0 220 (bAnd_in _ _) c_22 dL_law_33 (by decide) (by decide) rfl rfl ?_
      refine g_aload_n hC 1 dL_law_220 rfl rfl ?_
      refine g_aload_n hC 0 dL_law_221 rfl rfl ?_
      refine g_iload_n hC 3 dL_law_222 rfl rfl ?_
      refine g_iconst hC dL_law_223 ?_
      refine g_iadd hC dL_law_224 ?_
      obtain ⟨q_5, hf⟩ := hf
      refine g_sld hC hsc0 hBs hX hbl hL q_5.1 q_5.2 dL_law_225 ?_
      refine g_aload_n hC 0 dL_law_226 rfl rfl ?_
      refine g_iload_n hC 3 dL_law_227 rfl rfl ?_
      refine g_iconst hC dL_law_228 ?_
      refine g_iadd hC dL_law_229 ?_
      obtain ⟨q_6, hf⟩ := hf
      refine g_sld hC hsc0 hBs hX hbl hL q_6.1 q_6.2 dL_law_230 ?_
      refine g_aload_n hC 0 dL_law_231 rfl rfl ?_
      refine g_iload_n hC 3 dL_law_232 rfl rfl ?_
      refine g_iconst hC dL_law_233 ?_
      refine g_iadd hC dL_law_234 ?_
      obtain ⟨q_7, hf⟩ := hf
      refine g_sld hC hsc0 hBs hX hbl hL q_7.1 q_7.2 dL_law_235 ?_
      refine g_aload_n hC 0 dL_law_236 rfl rfl ?_
      refine g_iload_n hC 3 dL_law_237 rfl rfl ?_
      refine g_iconst hC dL_law_238 ?_
      refine g_iadd hC dL_law_239 ?_
      obtain ⟨q_8, hf⟩ := hf
      refine g_sld hC hsc0 hBs hX hbl hL q_8.1 q_8.2 dL_law_240 ?_
      refine g_aload_n hC 0 dL_law_241 rfl rfl ?_
      refine g_iload_n hC 3 dL_law_242 rfl rfl ?_
      refine g_iconst hC dL_law_243 ?_
      refine g_iadd hC dL_law_244 ?_
      obtain ⟨q_9, hf⟩ := hf
      refine g_sld hC hsc0 hBs hX hbl hL q_9.1 q_9.2 dL_law_245 ?_
      refine g_callVI hC (sk := []) [J (sc (v3_1 + 1).toNat), J (sc (v3_1 + 2).toNat), J (sc (v3_1 + 3).toNat), J (sc (v3_1 + 4).toNat), J (sc (v3_1 + 5).toNat)] (c_X11_feed l B D K (sc (v3_1 + 1).toNat) (sc (v3_1 + 2).toNat) (sc (v3_1 + 3).toNat) (sc (v3_1 + 4).toNat) (sc (v3_1 + 5).toNat) (hsc _) (hsc _) (hsc _) (hsc _) (hsc _) M_2 h_M_2 _ hf) yv_X11_feed wm_L_13 okX11.1 sc0 rfl ⟨Nat.le_of_ble_eq_true rfl, Nat.le_of_ble_eq_true rfl, Nat.le_of_ble_eq_true rfl, Nat.le_of_ble_eq_true rfl⟩ rfl (Nat.le_of_ble_eq_true rfl) dL_law_246 ?_
      intro r_10 M_11 h_r_10 h_M_11 hf
      refine g_aload_n hC 2 dL_law_249 rfl rfl ?_
      refine g_aload_n hC 0 dL_law_250 rfl rfl ?_
      refine g_iload_n hC 3 dL_law_251 rfl rfl ?_
      refine g_iconst hC dL_law_252 ?_
      refine g_iadd hC dL_law_253 ?_
      obtain ⟨q_12, hf⟩ := hf
      refine g_sld hC hsc0 hBs hX hbl hL q_12.1 q_12.2 dL_law_254 ?_
      refine g_aload_n hC 0 dL_law_255 rfl rfl ?_
      refine g_iload_n hC 3 dL_law_256 rfl rfl ?_
      refine g_iconst hC dL_law_257 ?_
      refine g_iadd hC dL_law_258 ?_
      obtain ⟨q_13, hf⟩ := hf
      refine g_sld hC hsc0 hBs hX hbl hL q_13.1 q_13.2 dL_law_259 ?_
      refine g_aload_n hC 0 dL_law_260 rfl rfl ?_
      refine g_iload_n hC 3 dL_law_261 rfl rfl ?_
      refine g_iconst hC dL_law_262 ?_
      refine g_iadd hC dL_law_263 ?_
      obtain ⟨q_14, hf⟩ := hf
      refine g_sld hC hsc0 hBs hX hbl hL q_14.1 q_14.2 dL_law_264 ?_
      refine g_aload_n hC 0 dL_law_265 rfl rfl ?_
      refine g_iload_n hC 3 dL_law_266 rfl rfl ?_
      refine g_iconst hC dL_law_267 ?_
      refine g_iadd hC dL_law_268 ?_
      obtain ⟨q_15, hf⟩ := hf
      refine g_sld hC hsc0 hBs hX hbl hL q_15.1 q_15.2 dL_law_269 ?_
      refine g_aload_n hC 0 dL_law_270 rfl rfl ?_
      refine g_iload_n hC 3 dL_law_271 rfl rfl ?_
      refine g_iconst hC dL_law_272 ?_
      refine g_iadd hC dL_law_273 ?_
      obtain ⟨q_16, hf⟩ := hf
      refine g_sld hC hsc0 hBs hX hbl hL q_16.1 q_16.2 dL_law_274 ?_
      refine g_callVI hC (sk := [J r_10]) [J (sc (v3_1 + 1).toNat), J (sc (v3_1 + 2).toNat), J (sc (v3_1 + 3).toNat), J (sc (v3_1 + 4).toNat), J (sc (v3_1 + 5).toNat)] (c_X12_feed l B D K (sc (v3_1 + 1).toNat) (sc (v3_1 + 2).toNat) (sc (v3_1 + 3).toNat) (sc (v3_1 + 4).toNat) (sc (v3_1 + 5).toNat) (hsc _) (hsc _) (hsc _) (hsc _) (hsc _) M_11 h_M_11 _ hf) yv_X12_feed wm_L_17 okX12.1 sc95 rfl ⟨Nat.le_of_ble_eq_true rfl, Nat.le_of_ble_eq_true rfl, Nat.le_of_ble_eq_true rfl, Nat.le_of_ble_eq_true rfl⟩ rfl (Nat.le_of_ble_eq_true rfl) dL_law_275 ?_
      intro r_17 M_18 h_r_17 h_M_18 hf
      refine g_icmp_eq hC 1449 h_r_10 h_r_17 dL_law_278 rfl (fun c_21 => ?_) (fun c_21 => ?_)
      · replace hf := hf.1 c_21
        obtain ⟨q_20, hf⟩ := hf
        obtain ⟨v3_19, e_v3_19⟩ : ∃ z : Int, z = v3_1 + 6 := ⟨_, rfl⟩
        replace hf := hf v3_19 e_v3_19
        have h_v3_19 : inR v3_19 := by rw [e_v3_19]; exact q_20
        refine g_iincv hC 3 e_v3_19 [(3, J v3_19), (0, .ref b), (1, .ref (B + 0)), (2, .ref (B + 95))] dL_law_1449 rfl (by decide) rfl ?_
        refine g_goto hC 18 dL_law_1452 rfl ?_
        refine g_sub [(0, .ref b), (1, .ref (B + 0)), (2, .ref (B + 95)), (3, J v3_19)] [1, 2, 3, 0] rfl ?_
        exact ih18 v3_19 M_18 hf h_v3_19 h_M_18
      · replace hf := hf.2 c_21
        refine g_iconst hC dL_law_281 ?_
        exact hf.elim
    · replace hf := hf.2
      by_cases c_32 : bAnd (sc (v3_1).toNat) 63 = 1
      · replace hf := hf.1 c_32
        refine g_tabIn hC 1 283 (bAnd_in _ _) c_32 dL_law_33 (by decide) (by decide) rfl rfl ?_
        refine g_aload_n hC 1 dL_law_283 rfl rfl ?_
        refine g_aload_n hC 0 dL_law_284 rfl rfl ?_
        refine g_iload_n hC 3 dL_law_285 rfl rfl ?_
        refine g_iconst hC dL_law_286 ?_
        refine g_iadd hC dL_law_287 ?_
        obtain ⟨q_23, hf⟩ := hf
        refine g_sld hC hsc0 hBs hX hbl hL q_23.1 q_23.2 dL_law_288 ?_
        refine g_callVZ hC (sk := []) [J (sc (v3_1 + 1).toNat)] (c_X11_end l B D K (sc (v3_1 + 1).toNat) (hsc _) M_2 h_M_2 _ hf) yv_X11_end wm_L_18 okX11.1 sc0 rfl ⟨Nat.le_of_ble_eq_true rfl, Nat.le_of_ble_eq_true rfl, Nat.le_of_ble_eq_true rfl, Nat.le_of_ble_eq_true rfl⟩ rfl (Nat.le_of_ble_eq_true rfl) dL_law_289 ?_
        intro r_24 M_25 h_r_24 h_M_25 hf
        refine g_aload_n hC 2 dL_law_292 rfl rfl ?_
        refine g_aload_n hC 0 dL_law_293 rfl rfl ?_
        refine g_iload_n hC 3 dL_law_294 rfl rfl ?_
        refine g_iconst hC dL_law_295 ?_
        refine g_iadd hC dL_law_296 ?_
        obtain ⟨q_26, hf⟩ := hf
        refine g_sld hC hsc0 hBs hX hbl hL q_26.1 q_26.2 dL_law_297 ?_
        refine g_callVZ hC (sk := [J r_24]) [J (sc (v3_1 + 1).toNat)] (c_X12_end l B D K (sc (v3_1 + 1).toNat) (hsc _) M_25 h_M_25 _ hf) yv_X12_end wm_L_22 okX12.1 sc95 rfl ⟨Nat.le_of_ble_eq_true rfl, Nat.le_of_ble_eq_true rfl, Nat.le_of_ble_eq_true rfl, Nat.le_of_ble_eq_true rfl⟩ rfl (Nat.le_of_ble_eq_true rfl) dL_law_298 ?_
        intro r_27 M_28 h_r_27 h_M_28 hf
        refine g_icmp_eq hC 1449 (zi_ h_r_24) (zi_ h_r_27) dL_law_301 rfl (fun c_31 => ?_) (fun c_31 => ?_)
        · replace hf := hf.1 c_31
          obtain ⟨q_30, hf⟩ := hf
          obtain ⟨v3_29, e_v3_29⟩ : ∃ z : Int, z = v3_1 + 6 := ⟨_, rfl⟩
          replace hf := hf v3_29 e_v3_29
          have h_v3_29 : inR v3_29 := by rw [e_v3_29]; exact q_30
          refine g_iincv hC 3 e_v3_29 [(3, J v3_29), (0, .ref b), (1, .ref (B + 0)), (2, .ref (B + 95))] dL_law_1449 rfl (by decide) rfl ?_
          refine g_goto hC 18 dL_law_1452 rfl ?_
          refine g_sub [(0, .ref b), (1, .ref (B + 0)), (2, .ref (B + 95)), (3, J v3_29)] [1, 2, 3, 0] rfl ?_
          exact ih18 v3_29 M_28 hf h_v3_29 h_M_28
        · replace hf := hf.2 c_31
          refine g_iconst hC dL_law_304 ?_
          exact hf.elim
      · replace hf := hf.2
        by_cases c_40 : bAnd (sc (v3_1).toNat) 63 = 2
        · replace hf := hf.1 c_40
          refine g_tabIn hC 2 306 (bAnd_in _ _) c_40 dL_law_33 (by decide) (by decide) rfl rfl ?_
          refine g_aload_n hC 1 dL_law_306 rfl rfl ?_
          refine g_callVI hC (sk := []) [] (c_X11_net l B D K   M_2 h_M_2 _ hf) yv_X11_net wm_L_23 okX11.1 sc0 rfl ⟨Nat.le_of_ble_eq_true rfl, Nat.le_of_ble_eq_true rfl, Nat.le_of_ble_eq_true rfl, Nat.le_of_ble_eq_true rfl⟩ rfl (Nat.le_of_ble_eq_true rfl) dL_law_307 ?_
          intro r_33 M_34 h_r_33 h_M_34 hf
          refine g_aload_n hC 2 dL_law_310 rfl rfl ?_
          refine g_callVI hC (sk := [J r_33]) [] (c_X12_net l B D K   M_34 h_M_34 _ hf) yv_X12_net wm_L_27 okX12.1 sc95 rfl ⟨Nat.le_of_ble_eq_true rfl, Nat.le_of_ble_eq_true rfl, Nat.le_of_ble_eq_true rfl, Nat.le_of_ble_eq_true rfl⟩ rfl (Nat.le_of_ble_eq_true rfl) dL_law_311 ?_
          intro r_35 M_36 h_r_35 h_M_36 hf
          refine g_icmp_eq hC 1449 h_r_33 h_r_35 dL_law_314 rfl (fun c_39 => ?_) (fun c_39 => ?_)
          · replace hf := hf.1 c_39
            obtain ⟨q_38, hf⟩ := hf
            obtain ⟨v3_37, e_v3_37⟩ : ∃ z : Int, z = v3_1 + 6 := ⟨_, rfl⟩
            replace hf := hf v3_37 e_v3_37
            have h_v3_37 : inR v3_37 := by rw [e_v3_37]; exact q_38
            refine g_iincv hC 3 e_v3_37 [(3, J v3_37), (0, .ref b), (1, .ref (B + 0)), (2, .ref (B + 95))] dL_law_1449 rfl (by decide) rfl ?_
            refine g_goto hC 18 dL_law_1452 rfl ?_
            refine g_sub [(0, .ref b), (1, .ref (B + 0)), (2, .ref (B + 95)), (3, J v3_37)] [1, 2, 3, 0] rfl ?_
            exact ih18 v3_37 M_36 hf h_v3_37 h_M_36
          · replace hf := hf.2 c_39
            refine g_iconst hC dL_law_317 ?_
            exact hf.elim
        · replace hf := hf.2
          by_cases c_50 : bAnd (sc (v3_1).toNat) 63 = 3
          · replace hf := hf.1 c_50
            refine g_tabIn hC 3 319 (bAnd_in _ _) c_50 dL_law_33 (by decide) (by decide) rfl rfl ?_
            refine g_aload_n hC 1 dL_law_319 rfl rfl ?_
            refine g_aload_n hC 0 dL_law_320 rfl rfl ?_
            refine g_iload_n hC 3 dL_law_321 rfl rfl ?_
            refine g_iconst hC dL_law_322 ?_
            refine g_iadd hC dL_law_323 ?_
            obtain ⟨q_41, hf⟩ := hf
            refine g_sld hC hsc0 hBs hX hbl hL q_41.1 q_41.2 dL_law_324 ?_
            refine g_callVI hC (sk := []) [J (sc (v3_1 + 1).toNat)] (c_X11_fault l B D K (sc (v3_1 + 1).toNat) (hsc _) M_2 h_M_2 _ hf) yv_X11_fault wm_L_28 okX11.1 sc0 rfl ⟨Nat.le_of_ble_eq_true rfl, Nat.le_of_ble_eq_true rfl, Nat.le_of_ble_eq_true rfl, Nat.le_of_ble_eq_true rfl⟩ rfl (Nat.le_of_ble_eq_true rfl) dL_law_325 ?_
            rintro r_42 M_43 h_r_42 - ⟨rfl, hf⟩
            refine g_aload_n hC 2 dL_law_328 rfl rfl ?_
            refine g_aload_n hC 0 dL_law_329 rfl rfl ?_
            refine g_iload_n hC 3 dL_law_330 rfl rfl ?_
            refine g_iconst hC dL_law_331 ?_
            refine g_iadd hC dL_law_332 ?_
            obtain ⟨q_44, hf⟩ := hf
            refine g_sld hC hsc0 hBs hX hbl hL q_44.1 q_44.2 dL_law_333 ?_
            refine g_callVI hC (sk := [J r_42]) [J (sc (v3_1 + 1).toNat)] (c_X12_fault l B D K (sc (v3_1 + 1).toNat) (hsc _) M_2 h_M_2 _ hf) yv_X12_fault wm_L_32 okX12.1 sc95 rfl ⟨Nat.le_of_ble_eq_true rfl, Nat.le_of_ble_eq_true rfl, Nat.le_of_ble_eq_true rfl, Nat.le_of_ble_eq_true rfl⟩ rfl (Nat.le_of_ble_eq_true rfl) dL_law_334 ?_
            rintro r_45 M_46 h_r_45 - ⟨rfl, hf⟩
            refine g_icmp_eq hC 1449 h_r_42 h_r_45 dL_law_337 rfl (fun c_49 => ?_) (fun c_49 => ?_)
            · replace hf := hf.1 c_49
              obtain ⟨q_48, hf⟩ := hf
              obtain ⟨v3_47, e_v3_47⟩ : ∃ z : Int, z = v3_1 + 6 := ⟨_, rfl⟩
              replace hf := hf v3_47 e_v3_47
              have h_v3_47 : inR v3_47 := by rw [e_v3_47]; exact q_48
              refine g_iincv hC 3 e_v3_47 [(3, J v3_47), (0, .ref b), (1, .ref (B + 0)), (2, .ref (B + 95))] dL_law_1449 rfl (by decide) rfl ?_
              refine g_goto hC 18 dL_law_1452 rfl ?_
              refine g_sub [(0, .ref b), (1, .ref (B + 0)), (2, .ref (B + 95)), (3, J v3_47)] [1, 2, 3, 0] rfl ?_
              exact ih18 v3_47 M_2 hf h_v3_47 h_M_2
            · replace hf := hf.2 c_49
              refine g_iconst hC dL_law_340 ?_
              exact hf.elim
          · replace hf := hf.2
            by_cases c_60 : bAnd (sc (v3_1).toNat) 63 = 4
            · replace hf := hf.1 c_60
              refine g_tabIn hC 4 342 (bAnd_in _ _) c_60 dL_law_33 (by decide) (by decide) rfl rfl ?_
              refine g_aload_n hC 1 dL_law_342 rfl rfl ?_
              refine g_aload_n hC 0 dL_law_343 rfl rfl ?_
              refine g_iload_n hC 3 dL_law_344 rfl rfl ?_
              refine g_iconst hC dL_law_345 ?_
              refine g_iadd hC dL_law_346 ?_
              obtain ⟨q_51, hf⟩ := hf
              refine g_sld hC hsc0 hBs hX hbl hL q_51.1 q_51.2 dL_law_347 ?_
              refine g_callVI hC (sk := []) [J (sc (v3_1 + 1).toNat)] (c_X11_has l B D K (sc (v3_1 + 1).toNat) (hsc _) M_2 h_M_2 _ hf) yv_X11_has wm_L_33 okX11.1 sc0 rfl ⟨Nat.le_of_ble_eq_true rfl, Nat.le_of_ble_eq_true rfl, Nat.le_of_ble_eq_true rfl, Nat.le_of_ble_eq_true rfl⟩ rfl (Nat.le_of_ble_eq_true rfl) dL_law_348 ?_
              rintro r_52 M_53 h_r_52 - ⟨rfl, hf⟩
              refine g_aload_n hC 2 dL_law_351 rfl rfl ?_
              refine g_aload_n hC 0 dL_law_352 rfl rfl ?_
              refine g_iload_n hC 3 dL_law_353 rfl rfl ?_
              refine g_iconst hC dL_law_354 ?_
              refine g_iadd hC dL_law_355 ?_
              obtain ⟨q_54, hf⟩ := hf
              refine g_sld hC hsc0 hBs hX hbl hL q_54.1 q_54.2 dL_law_356 ?_
              refine g_callVI hC (sk := [J r_52]) [J (sc (v3_1 + 1).toNat)] (c_X12_has l B D K (sc (v3_1 + 1).toNat) (hsc _) M_2 h_M_2 _ hf) yv_X12_has wm_L_36 okX12.1 sc95 rfl ⟨Nat.le_of_ble_eq_true rfl, Nat.le_of_ble_eq_true rfl, Nat.le_of_ble_eq_true rfl, Nat.le_of_ble_eq_true rfl⟩ rfl (Nat.le_of_ble_eq_true rfl) dL_law_357 ?_
              intro r_55 M_56 h_r_55 h_M_56 hf
              refine g_icmp_eq hC 1449 h_r_52 h_r_55 dL_law_360 rfl (fun c_59 => ?_) (fun c_59 => ?_)
              · replace hf := hf.1 c_59
                obtain ⟨q_58, hf⟩ := hf
                obtain ⟨v3_57, e_v3_57⟩ : ∃ z : Int, z = v3_1 + 6 := ⟨_, rfl⟩
                replace hf := hf v3_57 e_v3_57
                have h_v3_57 : inR v3_57 := by rw [e_v3_57]; exact q_58
                refine g_iincv hC 3 e_v3_57 [(3, J v3_57), (0, .ref b), (1, .ref (B + 0)), (2, .ref (B + 95))] dL_law_1449 rfl (by decide) rfl ?_
                refine g_goto hC 18 dL_law_1452 rfl ?_
                refine g_sub [(0, .ref b), (1, .ref (B + 0)), (2, .ref (B + 95)), (3, J v3_57)] [1, 2, 3, 0] rfl ?_
                exact ih18 v3_57 M_56 hf h_v3_57 h_M_56
              · replace hf := hf.2 c_59
                refine g_iconst hC dL_law_363 ?_
                exact hf.elim
            · replace hf := hf.2
              by_cases c_74 : bAnd (sc (v3_1).toNat) 63 = 5
              · replace hf := hf.1 c_74
                refine g_tabIn hC 5 365 (bAnd_in _ _) c_74 dL_law_33 (by decide) (by decide) rfl rfl ?_
                refine g_aload_n hC 1 dL_law_365 rfl rfl ?_
                refine g_aload_n hC 0 dL_law_366 rfl rfl ?_
                refine g_iload_n hC 3 dL_law_367 rfl rfl ?_
                refine g_iconst hC dL_law_368 ?_
                refine g_iadd hC dL_law_369 ?_
                obtain ⟨q_61, hf⟩ := hf
                refine g_sld hC hsc0 hBs hX hbl hL q_61.1 q_61.2 dL_law_370 ?_
                refine g_aload_n hC 0 dL_law_371 rfl rfl ?_
                refine g_iload_n hC 3 dL_law_372 rfl rfl ?_
                refine g_iconst hC dL_law_373 ?_
                refine g_iadd hC dL_law_374 ?_
                obtain ⟨q_62, hf⟩ := hf
                refine g_sld hC hsc0 hBs hX hbl hL q_62.1 q_62.2 dL_law_375 ?_
                refine g_aload_n hC 0 dL_law_376 rfl rfl ?_
                refine g_iload_n hC 3 dL_law_377 rfl rfl ?_
                refine g_iconst hC dL_law_378 ?_
                refine g_iadd hC dL_law_379 ?_
                obtain ⟨q_63, hf⟩ := hf
                refine g_sld hC hsc0 hBs hX hbl hL q_63.1 q_63.2 dL_law_380 ?_
                refine g_callVI hC (sk := []) [J (sc (v3_1 + 1).toNat), J (sc (v3_1 + 2).toNat), J (sc (v3_1 + 3).toNat)] (c_X11_letter l B D K (sc (v3_1 + 1).toNat) (sc (v3_1 + 2).toNat) (sc (v3_1 + 3).toNat) (hsc _) (hsc _) (hsc _) M_2 h_M_2 _ hf) yv_X11_letter wm_L_37 okX11.1 sc0 rfl ⟨Nat.le_of_ble_eq_true rfl, Nat.le_of_ble_eq_true rfl, Nat.le_of_ble_eq_true rfl, Nat.le_of_ble_eq_true rfl⟩ rfl (Nat.le_of_ble_eq_true rfl) dL_law_381 ?_
                rintro r_64 M_65 h_r_64 - ⟨rfl, hf⟩
                refine g_aload_n hC 2 dL_law_384 rfl rfl ?_
                refine g_aload_n hC 0 dL_law_385 rfl rfl ?_
                refine g_iload_n hC 3 dL_law_386 rfl rfl ?_
                refine g_iconst hC dL_law_387 ?_
                refine g_iadd hC dL_law_388 ?_
                obtain ⟨q_66, hf⟩ := hf
                refine g_sld hC hsc0 hBs hX hbl hL q_66.1 q_66.2 dL_law_389 ?_
                refine g_aload_n hC 0 dL_law_390 rfl rfl ?_
                refine g_iload_n hC 3 dL_law_391 rfl rfl ?_
                refine g_iconst hC dL_law_392 ?_
                refine g_iadd hC dL_law_393 ?_
                obtain ⟨q_67, hf⟩ := hf
                refine g_sld hC hsc0 hBs hX hbl hL q_67.1 q_67.2 dL_law_394 ?_
                refine g_aload_n hC 0 dL_law_395 rfl rfl ?_
                refine g_iload_n hC 3 dL_law_396 rfl rfl ?_
                refine g_iconst hC dL_law_397 ?_
                refine g_iadd hC dL_law_398 ?_
                obtain ⟨q_68, hf⟩ := hf
                refine g_sld hC hsc0 hBs hX hbl hL q_68.1 q_68.2 dL_law_399 ?_
                refine g_callVI hC (sk := [J r_64]) [J (sc (v3_1 + 1).toNat), J (sc (v3_1 + 2).toNat), J (sc (v3_1 + 3).toNat)] (c_X12_letter l B D K (sc (v3_1 + 1).toNat) (sc (v3_1 + 2).toNat) (sc (v3_1 + 3).toNat) (hsc _) (hsc _) (hsc _) M_2 h_M_2 _ hf) yv_X12_letter wm_L_41 okX12.1 sc95 rfl ⟨Nat.le_of_ble_eq_true rfl, Nat.le_of_ble_eq_true rfl, Nat.le_of_ble_eq_true rfl, Nat.le_of_ble_eq_true rfl⟩ rfl (Nat.le_of_ble_eq_true rfl) dL_law_400 ?_
                rintro r_69 M_70 h_r_69 - ⟨rfl, hf⟩
                refine g_icmp_eq hC 1449 h_r_64 h_r_69 dL_law_403 rfl (fun c_73 => ?_) (fun c_73 => ?_)
                · replace hf := hf.1 c_73
                  obtain ⟨q_72, hf⟩ := hf
                  obtain ⟨v3_71, e_v3_71⟩ : ∃ z : Int, z = v3_1 + 6 := ⟨_, rfl⟩
                  replace hf := hf v3_71 e_v3_71
                  have h_v3_71 : inR v3_71 := by rw [e_v3_71]; exact q_72
                  refine g_iincv hC 3 e_v3_71 [(3, J v3_71), (0, .ref b), (1, .ref (B + 0)), (2, .ref (B + 95))] dL_law_1449 rfl (by decide) rfl ?_
                  refine g_goto hC 18 dL_law_1452 rfl ?_
                  refine g_sub [(0, .ref b), (1, .ref (B + 0)), (2, .ref (B + 95)), (3, J v3_71)] [1, 2, 3, 0] rfl ?_
                  exact ih18 v3_71 M_2 hf h_v3_71 h_M_2
                · replace hf := hf.2 c_73
                  refine g_iconst hC dL_law_406 ?_
                  exact hf.elim
              · replace hf := hf.2
                by_cases c_86 : bAnd (sc (v3_1).toNat) 63 = 6
                · replace hf := hf.1 c_86
                  refine g_tabIn hC 6 408 (bAnd_in _ _) c_86 dL_law_33 (by decide) (by decide) rfl rfl ?_
                  refine g_aload_n hC 1 dL_law_408 rfl rfl ?_
                  refine g_aload_n hC 0 dL_law_409 rfl rfl ?_
                  refine g_iload_n hC 3 dL_law_410 rfl rfl ?_
                  refine g_iconst hC dL_law_411 ?_
                  refine g_iadd hC dL_law_412 ?_
                  obtain ⟨q_75, hf⟩ := hf
                  refine g_sld hC hsc0 hBs hX hbl hL q_75.1 q_75.2 dL_law_413 ?_
                  refine g_aload_n hC 0 dL_law_414 rfl rfl ?_
                  refine g_iload_n hC 3 dL_law_415 rfl rfl ?_
                  refine g_iconst hC dL_law_416 ?_
                  refine g_iadd hC dL_law_417 ?_
                  obtain ⟨q_76, hf⟩ := hf
                  refine g_sld hC hsc0 hBs hX hbl hL q_76.1 q_76.2 dL_law_418 ?_
                  refine g_callVI hC (sk := []) [J (sc (v3_1 + 1).toNat), J (sc (v3_1 + 2).toNat)] (c_X11_reach l B D K (sc (v3_1 + 1).toNat) (sc (v3_1 + 2).toNat) (hsc _) (hsc _) M_2 h_M_2 _ hf) yv_X11_reach wm_L_42 okX11.1 sc0 rfl ⟨Nat.le_of_ble_eq_true rfl, Nat.le_of_ble_eq_true rfl, Nat.le_of_ble_eq_true rfl, Nat.le_of_ble_eq_true rfl⟩ rfl (Nat.le_of_ble_eq_true rfl) dL_law_419 ?_
                  rintro r_77 M_78 h_r_77 - ⟨rfl, hf⟩
                  refine g_aload_n hC 2 dL_law_422 rfl rfl ?_
                  refine g_aload_n hC 0 dL_law_423 rfl rfl ?_
                  refine g_iload_n hC 3 dL_law_424 rfl rfl ?_
                  refine g_iconst hC dL_law_425 ?_
                  refine g_iadd hC dL_law_426 ?_
                  obtain ⟨q_79, hf⟩ := hf
                  refine g_sld hC hsc0 hBs hX hbl hL q_79.1 q_79.2 dL_law_427 ?_
                  refine g_aload_n hC 0 dL_law_428 rfl rfl ?_
                  refine g_iload_n hC 3 dL_law_429 rfl rfl ?_
                  refine g_iconst hC dL_law_430 ?_
                  refine g_iadd hC dL_law_431 ?_
                  obtain ⟨q_80, hf⟩ := hf
                  refine g_sld hC hsc0 hBs hX hbl hL q_80.1 q_80.2 dL_law_432 ?_
                  refine g_callVI hC (sk := [J r_77]) [J (sc (v3_1 + 1).toNat), J (sc (v3_1 + 2).toNat)] (c_X12_reach l B D K (sc (v3_1 + 1).toNat) (sc (v3_1 + 2).toNat) (hsc _) (hsc _) M_2 h_M_2 _ hf) yv_X12_reach wm_L_46 okX12.1 sc95 rfl ⟨Nat.le_of_ble_eq_true rfl, Nat.le_of_ble_eq_true rfl, Nat.le_of_ble_eq_true rfl, Nat.le_of_ble_eq_true rfl⟩ rfl (Nat.le_of_ble_eq_true rfl) dL_law_433 ?_
                  intro r_81 M_82 h_r_81 h_M_82 hf
                  refine g_icmp_eq hC 1449 h_r_77 h_r_81 dL_law_436 rfl (fun c_85 => ?_) (fun c_85 => ?_)
                  · replace hf := hf.1 c_85
                    obtain ⟨q_84, hf⟩ := hf
                    obtain ⟨v3_83, e_v3_83⟩ : ∃ z : Int, z = v3_1 + 6 := ⟨_, rfl⟩
                    replace hf := hf v3_83 e_v3_83
                    have h_v3_83 : inR v3_83 := by rw [e_v3_83]; exact q_84
                    refine g_iincv hC 3 e_v3_83 [(3, J v3_83), (0, .ref b), (1, .ref (B + 0)), (2, .ref (B + 95))] dL_law_1449 rfl (by decide) rfl ?_
                    refine g_goto hC 18 dL_law_1452 rfl ?_
                    refine g_sub [(0, .ref b), (1, .ref (B + 0)), (2, .ref (B + 95)), (3, J v3_83)] [1, 2, 3, 0] rfl ?_
                    exact ih18 v3_83 M_82 hf h_v3_83 h_M_82
                  · replace hf := hf.2 c_85
                    refine g_iconst hC dL_law_439 ?_
                    exact hf.elim
                · replace hf := hf.2
                  by_cases c_98 : bAnd (sc (v3_1).toNat) 63 = 7
                  · replace hf := hf.1 c_98
                    refine g_tabIn hC 7 441 (bAnd_in _ _) c_98 dL_law_33 (by decide) (by decide) rfl rfl ?_
                    refine g_aload_n hC 1 dL_law_441 rfl rfl ?_
                    refine g_aload_n hC 0 dL_law_442 rfl rfl ?_
                    refine g_iload_n hC 3 dL_law_443 rfl rfl ?_
                    refine g_iconst hC dL_law_444 ?_
                    refine g_iadd hC dL_law_445 ?_
                    obtain ⟨q_87, hf⟩ := hf
                    refine g_sld hC hsc0 hBs hX hbl hL q_87.1 q_87.2 dL_law_446 ?_
                    refine g_aload_n hC 0 dL_law_447 rfl rfl ?_
                    refine g_iload_n hC 3 dL_law_448 rfl rfl ?_
                    refine g_iconst hC dL_law_449 ?_
                    refine g_iadd hC dL_law_450 ?_
                    obtain ⟨q_88, hf⟩ := hf
                    refine g_sld hC hsc0 hBs hX hbl hL q_88.1 q_88.2 dL_law_451 ?_
                    refine g_callVI hC (sk := []) [J (sc (v3_1 + 1).toNat), J (sc (v3_1 + 2).toNat)] (c_X11_place l B D K (sc (v3_1 + 1).toNat) (sc (v3_1 + 2).toNat) (hsc _) (hsc _) M_2 h_M_2 _ hf) yv_X11_place wm_L_47 okX11.1 sc0 rfl ⟨Nat.le_of_ble_eq_true rfl, Nat.le_of_ble_eq_true rfl, Nat.le_of_ble_eq_true rfl, Nat.le_of_ble_eq_true rfl⟩ rfl (Nat.le_of_ble_eq_true rfl) dL_law_452 ?_
                    rintro r_89 M_90 h_r_89 - ⟨rfl, hf⟩
                    refine g_aload_n hC 2 dL_law_455 rfl rfl ?_
                    refine g_aload_n hC 0 dL_law_456 rfl rfl ?_
                    refine g_iload_n hC 3 dL_law_457 rfl rfl ?_
                    refine g_iconst hC dL_law_458 ?_
                    refine g_iadd hC dL_law_459 ?_
                    obtain ⟨q_91, hf⟩ := hf
                    refine g_sld hC hsc0 hBs hX hbl hL q_91.1 q_91.2 dL_law_460 ?_
                    refine g_aload_n hC 0 dL_law_461 rfl rfl ?_
                    refine g_iload_n hC 3 dL_law_462 rfl rfl ?_
                    refine g_iconst hC dL_law_463 ?_
                    refine g_iadd hC dL_law_464 ?_
                    obtain ⟨q_92, hf⟩ := hf
                    refine g_sld hC hsc0 hBs hX hbl hL q_92.1 q_92.2 dL_law_465 ?_
                    refine g_callVI hC (sk := [J r_89]) [J (sc (v3_1 + 1).toNat), J (sc (v3_1 + 2).toNat)] (c_X12_place l B D K (sc (v3_1 + 1).toNat) (sc (v3_1 + 2).toNat) (hsc _) (hsc _) M_2 h_M_2 _ hf) yv_X12_place wm_L_50 okX12.1 sc95 rfl ⟨Nat.le_of_ble_eq_true rfl, Nat.le_of_ble_eq_true rfl, Nat.le_of_ble_eq_true rfl, Nat.le_of_ble_eq_true rfl⟩ rfl (Nat.le_of_ble_eq_true rfl) dL_law_466 ?_
                    intro r_93 M_94 h_r_93 h_M_94 hf
                    refine g_icmp_eq hC 1449 h_r_89 h_r_93 dL_law_469 rfl (fun c_97 => ?_) (fun c_97 => ?_)
                    · replace hf := hf.1 c_97
                      obtain ⟨q_96, hf⟩ := hf
                      obtain ⟨v3_95, e_v3_95⟩ : ∃ z : Int, z = v3_1 + 6 := ⟨_, rfl⟩
                      replace hf := hf v3_95 e_v3_95
                      have h_v3_95 : inR v3_95 := by rw [e_v3_95]; exact q_96
                      refine g_iincv hC 3 e_v3_95 [(3, J v3_95), (0, .ref b), (1, .ref (B + 0)), (2, .ref (B + 95))] dL_law_1449 rfl (by decide) rfl ?_
                      refine g_goto hC 18 dL_law_1452 rfl ?_
                      refine g_sub [(0, .ref b), (1, .ref (B + 0)), (2, .ref (B + 95)), (3, J v3_95)] [1, 2, 3, 0] rfl ?_
                      exact ih18 v3_95 M_94 hf h_v3_95 h_M_94
                    · replace hf := hf.2 c_97
                      refine g_iconst hC dL_law_472 ?_
                      exact hf.elim
                  · replace hf := hf.2
                    by_cases c_112 : bAnd (sc (v3_1).toNat) 63 = 8
                    · replace hf := hf.1 c_112
                      refine g_tabIn hC 8 474 (bAnd_in _ _) c_112 dL_law_33 (by decide) (by decide) rfl rfl ?_
                      refine g_aload_n hC 1 dL_law_474 rfl rfl ?_
                      refine g_aload_n hC 0 dL_law_475 rfl rfl ?_
                      refine g_iload_n hC 3 dL_law_476 rfl rfl ?_
                      refine g_iconst hC dL_law_477 ?_
                      refine g_iadd hC dL_law_478 ?_
                      obtain ⟨q_99, hf⟩ := hf
                      refine g_sld hC hsc0 hBs hX hbl hL q_99.1 q_99.2 dL_law_479 ?_
                      refine g_aload_n hC 0 dL_law_480 rfl rfl ?_
                      refine g_iload_n hC 3 dL_law_481 rfl rfl ?_
                      refine g_iconst hC dL_law_482 ?_
                      refine g_iadd hC dL_law_483 ?_
                      obtain ⟨q_100, hf⟩ := hf
                      refine g_sld hC hsc0 hBs hX hbl hL q_100.1 q_100.2 dL_law_484 ?_
                      refine g_aload_n hC 0 dL_law_485 rfl rfl ?_
                      refine g_iload_n hC 3 dL_law_486 rfl rfl ?_
                      refine g_iconst hC dL_law_487 ?_
                      refine g_iadd hC dL_law_488 ?_
                      obtain ⟨q_101, hf⟩ := hf
                      refine g_sld hC hsc0 hBs hX hbl hL q_101.1 q_101.2 dL_law_489 ?_
                      refine g_callVI hC (sk := []) [J (sc (v3_1 + 1).toNat), J (sc (v3_1 + 2).toNat), J (sc (v3_1 + 3).toNat)] (c_X11_rank l B D K (sc (v3_1 + 1).toNat) (sc (v3_1 + 2).toNat) (sc (v3_1 + 3).toNat) (hsc _) (hsc _) (hsc _) M_2 h_M_2 _ hf) yv_X11_rank wm_L_51 okX11.1 sc0 rfl ⟨Nat.le_of_ble_eq_true rfl, Nat.le_of_ble_eq_true rfl, Nat.le_of_ble_eq_true rfl, Nat.le_of_ble_eq_true rfl⟩ rfl (Nat.le_of_ble_eq_true rfl) dL_law_490 ?_
                      rintro r_102 M_103 h_r_102 - ⟨rfl, hf⟩
                      refine g_aload_n hC 2 dL_law_493 rfl rfl ?_
                      refine g_aload_n hC 0 dL_law_494 rfl rfl ?_
                      refine g_iload_n hC 3 dL_law_495 rfl rfl ?_
                      refine g_iconst hC dL_law_496 ?_
                      refine g_iadd hC dL_law_497 ?_
                      obtain ⟨q_104, hf⟩ := hf
                      refine g_sld hC hsc0 hBs hX hbl hL q_104.1 q_104.2 dL_law_498 ?_
                      refine g_aload_n hC 0 dL_law_499 rfl rfl ?_
                      refine g_iload_n hC 3 dL_law_500 rfl rfl ?_
                      refine g_iconst hC dL_law_501 ?_
                      refine g_iadd hC dL_law_502 ?_
                      obtain ⟨q_105, hf⟩ := hf
                      refine g_sld hC hsc0 hBs hX hbl hL q_105.1 q_105.2 dL_law_503 ?_
                      refine g_aload_n hC 0 dL_law_504 rfl rfl ?_
                      refine g_iload_n hC 3 dL_law_505 rfl rfl ?_
                      refine g_iconst hC dL_law_506 ?_
                      refine g_iadd hC dL_law_507 ?_
                      obtain ⟨q_106, hf⟩ := hf
                      refine g_sld hC hsc0 hBs hX hbl hL q_106.1 q_106.2 dL_law_508 ?_
                      refine g_callVI hC (sk := [J r_102]) [J (sc (v3_1 + 1).toNat), J (sc (v3_1 + 2).toNat), J (sc (v3_1 + 3).toNat)] (c_X12_rank l B D K (sc (v3_1 + 1).toNat) (sc (v3_1 + 2).toNat) (sc (v3_1 + 3).toNat) (hsc _) (hsc _) (hsc _) M_2 h_M_2 _ hf) yv_X12_rank wm_L_54 okX12.1 sc95 rfl ⟨Nat.le_of_ble_eq_true rfl, Nat.le_of_ble_eq_true rfl, Nat.le_of_ble_eq_true rfl, Nat.le_of_ble_eq_true rfl⟩ rfl (Nat.le_of_ble_eq_true rfl) dL_law_509 ?_
                      intro r_107 M_108 h_r_107 h_M_108 hf
                      refine g_icmp_eq hC 1449 h_r_102 h_r_107 dL_law_512 rfl (fun c_111 => ?_) (fun c_111 => ?_)
                      · replace hf := hf.1 c_111
                        obtain ⟨q_110, hf⟩ := hf
                        obtain ⟨v3_109, e_v3_109⟩ : ∃ z : Int, z = v3_1 + 6 := ⟨_, rfl⟩
                        replace hf := hf v3_109 e_v3_109
                        have h_v3_109 : inR v3_109 := by rw [e_v3_109]; exact q_110
                        refine g_iincv hC 3 e_v3_109 [(3, J v3_109), (0, .ref b), (1, .ref (B + 0)), (2, .ref (B + 95))] dL_law_1449 rfl (by decide) rfl ?_
                        refine g_goto hC 18 dL_law_1452 rfl ?_
                        refine g_sub [(0, .ref b), (1, .ref (B + 0)), (2, .ref (B + 95)), (3, J v3_109)] [1, 2, 3, 0] rfl ?_
                        exact ih18 v3_109 M_108 hf h_v3_109 h_M_108
                      · replace hf := hf.2 c_111
                        refine g_iconst hC dL_law_515 ?_
                        exact hf.elim
                    · replace hf := hf.2
                      by_cases c_126 : bAnd (sc (v3_1).toNat) 63 = 9
                      · replace hf := hf.1 c_126
                        refine g_tabIn hC 9 517 (bAnd_in _ _) c_126 dL_law_33 (by decide) (by decide) rfl rfl ?_
                        refine g_aload_n hC 1 dL_law_517 rfl rfl ?_
                        refine g_aload_n hC 0 dL_law_518 rfl rfl ?_
                        refine g_iload_n hC 3 dL_law_519 rfl rfl ?_
                        refine g_iconst hC dL_law_520 ?_
                        refine g_iadd hC dL_law_521 ?_
                        obtain ⟨q_113, hf⟩ := hf
                        refine g_sld hC hsc0 hBs hX hbl hL q_113.1 q_113.2 dL_law_522 ?_
                        refine g_aload_n hC 0 dL_law_523 rfl rfl ?_
                        refine g_iload_n hC 3 dL_law_524 rfl rfl ?_
                        refine g_iconst hC dL_law_525 ?_
                        refine g_iadd hC dL_law_526 ?_
                        obtain ⟨q_114, hf⟩ := hf
                        refine g_sld hC hsc0 hBs hX hbl hL q_114.1 q_114.2 dL_law_527 ?_
                        refine g_aload_n hC 0 dL_law_528 rfl rfl ?_
                        refine g_iload_n hC 3 dL_law_529 rfl rfl ?_
                        refine g_iconst hC dL_law_530 ?_
                        refine g_iadd hC dL_law_531 ?_
                        obtain ⟨q_115, hf⟩ := hf
                        refine g_sld hC hsc0 hBs hX hbl hL q_115.1 q_115.2 dL_law_532 ?_
                        refine g_callVI hC (sk := []) [J (sc (v3_1 + 1).toNat), J (sc (v3_1 + 2).toNat), J (sc (v3_1 + 3).toNat)] (c_X11_goes l B D K (sc (v3_1 + 1).toNat) (sc (v3_1 + 2).toNat) (sc (v3_1 + 3).toNat) (hsc _) (hsc _) (hsc _) M_2 h_M_2 _ hf) yv_X11_goes wm_L_55 okX11.1 sc0 rfl ⟨Nat.le_of_ble_eq_true rfl, Nat.le_of_ble_eq_true rfl, Nat.le_of_ble_eq_true rfl, Nat.le_of_ble_eq_true rfl⟩ rfl (Nat.le_of_ble_eq_true rfl) dL_law_533 ?_
                        rintro r_116 M_117 h_r_116 - ⟨rfl, hf⟩
                        refine g_aload_n hC 2 dL_law_536 rfl rfl ?_
                        refine g_aload_n hC 0 dL_law_537 rfl rfl ?_
                        refine g_iload_n hC 3 dL_law_538 rfl rfl ?_
                        refine g_iconst hC dL_law_539 ?_
                        refine g_iadd hC dL_law_540 ?_
                        obtain ⟨q_118, hf⟩ := hf
                        refine g_sld hC hsc0 hBs hX hbl hL q_118.1 q_118.2 dL_law_541 ?_
                        refine g_aload_n hC 0 dL_law_542 rfl rfl ?_
                        refine g_iload_n hC 3 dL_law_543 rfl rfl ?_
                        refine g_iconst hC dL_law_544 ?_
                        refine g_iadd hC dL_law_545 ?_
                        obtain ⟨q_119, hf⟩ := hf
                        refine g_sld hC hsc0 hBs hX hbl hL q_119.1 q_119.2 dL_law_546 ?_
                        refine g_aload_n hC 0 dL_law_547 rfl rfl ?_
                        refine g_iload_n hC 3 dL_law_548 rfl rfl ?_
                        refine g_iconst hC dL_law_549 ?_
                        refine g_iadd hC dL_law_550 ?_
                        obtain ⟨q_120, hf⟩ := hf
                        refine g_sld hC hsc0 hBs hX hbl hL q_120.1 q_120.2 dL_law_551 ?_
                        refine g_callVI hC (sk := [J r_116]) [J (sc (v3_1 + 1).toNat), J (sc (v3_1 + 2).toNat), J (sc (v3_1 + 3).toNat)] (c_X12_goes l B D K (sc (v3_1 + 1).toNat) (sc (v3_1 + 2).toNat) (sc (v3_1 + 3).toNat) (hsc _) (hsc _) (hsc _) M_2 h_M_2 _ hf) yv_X12_goes wm_L_58 okX12.1 sc95 rfl ⟨Nat.le_of_ble_eq_true rfl, Nat.le_of_ble_eq_true rfl, Nat.le_of_ble_eq_true rfl, Nat.le_of_ble_eq_true rfl⟩ rfl (Nat.le_of_ble_eq_true rfl) dL_law_552 ?_
                        intro r_121 M_122 h_r_121 h_M_122 hf
                        refine g_icmp_eq hC 1449 h_r_116 h_r_121 dL_law_555 rfl (fun c_125 => ?_) (fun c_125 => ?_)
                        · replace hf := hf.1 c_125
                          obtain ⟨q_124, hf⟩ := hf
                          obtain ⟨v3_123, e_v3_123⟩ : ∃ z : Int, z = v3_1 + 6 := ⟨_, rfl⟩
                          replace hf := hf v3_123 e_v3_123
                          have h_v3_123 : inR v3_123 := by rw [e_v3_123]; exact q_124
                          refine g_iincv hC 3 e_v3_123 [(3, J v3_123), (0, .ref b), (1, .ref (B + 0)), (2, .ref (B + 95))] dL_law_1449 rfl (by decide) rfl ?_
                          refine g_goto hC 18 dL_law_1452 rfl ?_
                          refine g_sub [(0, .ref b), (1, .ref (B + 0)), (2, .ref (B + 95)), (3, J v3_123)] [1, 2, 3, 0] rfl ?_
                          exact ih18 v3_123 M_122 hf h_v3_123 h_M_122
                        · replace hf := hf.2 c_125
                          refine g_iconst hC dL_law_558 ?_
                          exact hf.elim
                      · replace hf := hf.2
                        by_cases c_140 : bAnd (sc (v3_1).toNat) 63 = 10
                        · replace hf := hf.1 c_140
                          refine g_tabIn hC 10 560 (bAnd_in _ _) c_140 dL_law_33 (by decide) (by decide) rfl rfl ?_
                          refine g_aload_n hC 1 dL_law_560 rfl rfl ?_
                          refine g_aload_n hC 0 dL_law_561 rfl rfl ?_
                          refine g_iload_n hC 3 dL_law_562 rfl rfl ?_
                          refine g_iconst hC dL_law_563 ?_
                          refine g_iadd hC dL_law_564 ?_
                          obtain ⟨q_127, hf⟩ := hf
                          refine g_sld hC hsc0 hBs hX hbl hL q_127.1 q_127.2 dL_law_565 ?_
                          refine g_aload_n hC 0 dL_law_566 rfl rfl ?_
                          refine g_iload_n hC 3 dL_law_567 rfl rfl ?_
                          refine g_iconst hC dL_law_568 ?_
                          refine g_iadd hC dL_law_569 ?_
                          obtain ⟨q_128, hf⟩ := hf
                          refine g_sld hC hsc0 hBs hX hbl hL q_128.1 q_128.2 dL_law_570 ?_
                          refine g_aload_n hC 0 dL_law_571 rfl rfl ?_
                          refine g_iload_n hC 3 dL_law_572 rfl rfl ?_
                          refine g_iconst hC dL_law_573 ?_
                          refine g_iadd hC dL_law_574 ?_
                          obtain ⟨q_129, hf⟩ := hf
                          refine g_sld hC hsc0 hBs hX hbl hL q_129.1 q_129.2 dL_law_575 ?_
                          refine g_callVI hC (sk := []) [J (sc (v3_1 + 1).toNat), J (sc (v3_1 + 2).toNat), J (sc (v3_1 + 3).toNat)] (c_X11_stem l B D K (sc (v3_1 + 1).toNat) (sc (v3_1 + 2).toNat) (sc (v3_1 + 3).toNat) (hsc _) (hsc _) (hsc _) M_2 h_M_2 _ hf) yv_X11_stem wm_L_59 okX11.1 sc0 rfl ⟨Nat.le_of_ble_eq_true rfl, Nat.le_of_ble_eq_true rfl, Nat.le_of_ble_eq_true rfl, Nat.le_of_ble_eq_true rfl⟩ rfl (Nat.le_of_ble_eq_true rfl) dL_law_576 ?_
                          rintro r_130 M_131 h_r_130 - ⟨rfl, hf⟩
                          refine g_aload_n hC 2 dL_law_579 rfl rfl ?_
                          refine g_aload_n hC 0 dL_law_580 rfl rfl ?_
                          refine g_iload_n hC 3 dL_law_581 rfl rfl ?_
                          refine g_iconst hC dL_law_582 ?_
                          refine g_iadd hC dL_law_583 ?_
                          obtain ⟨q_132, hf⟩ := hf
                          refine g_sld hC hsc0 hBs hX hbl hL q_132.1 q_132.2 dL_law_584 ?_
                          refine g_aload_n hC 0 dL_law_585 rfl rfl ?_
                          refine g_iload_n hC 3 dL_law_586 rfl rfl ?_
                          refine g_iconst hC dL_law_587 ?_
                          refine g_iadd hC dL_law_588 ?_
                          obtain ⟨q_133, hf⟩ := hf
                          refine g_sld hC hsc0 hBs hX hbl hL q_133.1 q_133.2 dL_law_589 ?_
                          refine g_aload_n hC 0 dL_law_590 rfl rfl ?_
                          refine g_iload_n hC 3 dL_law_591 rfl rfl ?_
                          refine g_iconst hC dL_law_592 ?_
                          refine g_iadd hC dL_law_593 ?_
                          obtain ⟨q_134, hf⟩ := hf
                          refine g_sld hC hsc0 hBs hX hbl hL q_134.1 q_134.2 dL_law_594 ?_
                          refine g_callVI hC (sk := [J r_130]) [J (sc (v3_1 + 1).toNat), J (sc (v3_1 + 2).toNat), J (sc (v3_1 + 3).toNat)] (c_X12_stem l B D K (sc (v3_1 + 1).toNat) (sc (v3_1 + 2).toNat) (sc (v3_1 + 3).toNat) (hsc _) (hsc _) (hsc _) M_2 h_M_2 _ hf) yv_X12_stem wm_L_62 okX12.1 sc95 rfl ⟨Nat.le_of_ble_eq_true rfl, Nat.le_of_ble_eq_true rfl, Nat.le_of_ble_eq_true rfl, Nat.le_of_ble_eq_true rfl⟩ rfl (Nat.le_of_ble_eq_true rfl) dL_law_595 ?_
                          intro r_135 M_136 h_r_135 h_M_136 hf
                          refine g_icmp_eq hC 1449 h_r_130 h_r_135 dL_law_598 rfl (fun c_139 => ?_) (fun c_139 => ?_)
                          · replace hf := hf.1 c_139
                            obtain ⟨q_138, hf⟩ := hf
                            obtain ⟨v3_137, e_v3_137⟩ : ∃ z : Int, z = v3_1 + 6 := ⟨_, rfl⟩
                            replace hf := hf v3_137 e_v3_137
                            have h_v3_137 : inR v3_137 := by rw [e_v3_137]; exact q_138
                            refine g_iincv hC 3 e_v3_137 [(3, J v3_137), (0, .ref b), (1, .ref (B + 0)), (2, .ref (B + 95))] dL_law_1449 rfl (by decide) rfl ?_
                            refine g_goto hC 18 dL_law_1452 rfl ?_
                            refine g_sub [(0, .ref b), (1, .ref (B + 0)), (2, .ref (B + 95)), (3, J v3_137)] [1, 2, 3, 0] rfl ?_
                            exact ih18 v3_137 M_136 hf h_v3_137 h_M_136
                          · replace hf := hf.2 c_139
                            refine g_iconst hC dL_law_601 ?_
                            exact hf.elim
                        · replace hf := hf.2
                          by_cases c_152 : bAnd (sc (v3_1).toNat) 63 = 11
                          · replace hf := hf.1 c_152
                            refine g_tabIn hC 11 603 (bAnd_in _ _) c_152 dL_law_33 (by decide) (by decide) rfl rfl ?_
                            refine g_aload_n hC 1 dL_law_603 rfl rfl ?_
                            refine g_aload_n hC 0 dL_law_604 rfl rfl ?_
                            refine g_iload_n hC 3 dL_law_605 rfl rfl ?_
                            refine g_iconst hC dL_law_606 ?_
                            refine g_iadd hC dL_law_607 ?_
                            obtain ⟨q_141, hf⟩ := hf
                            refine g_sld hC hsc0 hBs hX hbl hL q_141.1 q_141.2 dL_law_608 ?_
                            refine g_aload_n hC 0 dL_law_609 rfl rfl ?_
                            refine g_iload_n hC 3 dL_law_610 rfl rfl ?_
                            refine g_iconst hC dL_law_611 ?_
                            refine g_iadd hC dL_law_612 ?_
                            obtain ⟨q_142, hf⟩ := hf
                            refine g_sld hC hsc0 hBs hX hbl hL q_142.1 q_142.2 dL_law_613 ?_
                            refine g_callVI hC (sk := []) [J (sc (v3_1 + 1).toNat), J (sc (v3_1 + 2).toNat)] (c_X11_stems l B D K (sc (v3_1 + 1).toNat) (sc (v3_1 + 2).toNat) (hsc _) (hsc _) M_2 h_M_2 _ hf) yv_X11_stems wm_L_63 okX11.1 sc0 rfl ⟨Nat.le_of_ble_eq_true rfl, Nat.le_of_ble_eq_true rfl, Nat.le_of_ble_eq_true rfl, Nat.le_of_ble_eq_true rfl⟩ rfl (Nat.le_of_ble_eq_true rfl) dL_law_614 ?_
                            rintro r_143 M_144 h_r_143 - ⟨rfl, hf⟩
                            refine g_aload_n hC 2 dL_law_617 rfl rfl ?_
                            refine g_aload_n hC 0 dL_law_618 rfl rfl ?_
                            refine g_iload_n hC 3 dL_law_619 rfl rfl ?_
                            refine g_iconst hC dL_law_620 ?_
                            refine g_iadd hC dL_law_621 ?_
                            obtain ⟨q_145, hf⟩ := hf
                            refine g_sld hC hsc0 hBs hX hbl hL q_145.1 q_145.2 dL_law_622 ?_
                            refine g_aload_n hC 0 dL_law_623 rfl rfl ?_
                            refine g_iload_n hC 3 dL_law_624 rfl rfl ?_
                            refine g_iconst hC dL_law_625 ?_
                            refine g_iadd hC dL_law_626 ?_
                            obtain ⟨q_146, hf⟩ := hf
                            refine g_sld hC hsc0 hBs hX hbl hL q_146.1 q_146.2 dL_law_627 ?_
                            refine g_callVI hC (sk := [J r_143]) [J (sc (v3_1 + 1).toNat), J (sc (v3_1 + 2).toNat)] (c_X12_stems l B D K (sc (v3_1 + 1).toNat) (sc (v3_1 + 2).toNat) (hsc _) (hsc _) M_2 h_M_2 _ hf) yv_X12_stems wm_L_66 okX12.1 sc95 rfl ⟨Nat.le_of_ble_eq_true rfl, Nat.le_of_ble_eq_true rfl, Nat.le_of_ble_eq_true rfl, Nat.le_of_ble_eq_true rfl⟩ rfl (Nat.le_of_ble_eq_true rfl) dL_law_628 ?_
                            intro r_147 M_148 h_r_147 h_M_148 hf
                            refine g_icmp_eq hC 1449 h_r_143 h_r_147 dL_law_631 rfl (fun c_151 => ?_) (fun c_151 => ?_)
                            · replace hf := hf.1 c_151
                              obtain ⟨q_150, hf⟩ := hf
                              obtain ⟨v3_149, e_v3_149⟩ : ∃ z : Int, z = v3_1 + 6 := ⟨_, rfl⟩
                              replace hf := hf v3_149 e_v3_149
                              have h_v3_149 : inR v3_149 := by rw [e_v3_149]; exact q_150
                              refine g_iincv hC 3 e_v3_149 [(3, J v3_149), (0, .ref b), (1, .ref (B + 0)), (2, .ref (B + 95))] dL_law_1449 rfl (by decide) rfl ?_
                              refine g_goto hC 18 dL_law_1452 rfl ?_
                              refine g_sub [(0, .ref b), (1, .ref (B + 0)), (2, .ref (B + 95)), (3, J v3_149)] [1, 2, 3, 0] rfl ?_
                              exact ih18 v3_149 M_148 hf h_v3_149 h_M_148
                            · replace hf := hf.2 c_151
                              refine g_iconst hC dL_law_634 ?_
                              exact hf.elim
                          · replace hf := hf.2
                            by_cases c_164 : bAnd (sc (v3_1).toNat) 63 = 12
                            · replace hf := hf.1 c_164
                              refine g_tabIn hC 12 636 (bAnd_in _ _) c_164 dL_law_33 (by decide) (by decide) rfl rfl ?_
                              refine g_aload_n hC 1 dL_law_636 rfl rfl ?_
                              refine g_aload_n hC 0 dL_law_637 rfl rfl ?_
                              refine g_iload_n hC 3 dL_law_638 rfl rfl ?_
                              refine g_iconst hC dL_law_639 ?_
                              refine g_iadd hC dL_law_640 ?_
                              obtain ⟨q_153, hf⟩ := hf
                              refine g_sld hC hsc0 hBs hX hbl hL q_153.1 q_153.2 dL_law_641 ?_
                              refine g_aload_n hC 0 dL_law_642 rfl rfl ?_
                              refine g_iload_n hC 3 dL_law_643 rfl rfl ?_
                              refine g_iconst hC dL_law_644 ?_
                              refine g_iadd hC dL_law_645 ?_
                              obtain ⟨q_154, hf⟩ := hf
                              refine g_sld hC hsc0 hBs hX hbl hL q_154.1 q_154.2 dL_law_646 ?_
                              refine g_callVI hC (sk := []) [J (sc (v3_1 + 1).toNat), J (sc (v3_1 + 2).toNat)] (c_X11_beyond l B D K (sc (v3_1 + 1).toNat) (sc (v3_1 + 2).toNat) (hsc _) (hsc _) M_2 h_M_2 _ hf) yv_X11_beyond wm_L_67 okX11.1 sc0 rfl ⟨Nat.le_of_ble_eq_true rfl, Nat.le_of_ble_eq_true rfl, Nat.le_of_ble_eq_true rfl, Nat.le_of_ble_eq_true rfl⟩ rfl (Nat.le_of_ble_eq_true rfl) dL_law_647 ?_
                              rintro r_155 M_156 h_r_155 - ⟨rfl, hf⟩
                              refine g_aload_n hC 2 dL_law_650 rfl rfl ?_
                              refine g_aload_n hC 0 dL_law_651 rfl rfl ?_
                              refine g_iload_n hC 3 dL_law_652 rfl rfl ?_
                              refine g_iconst hC dL_law_653 ?_
                              refine g_iadd hC dL_law_654 ?_
                              obtain ⟨q_157, hf⟩ := hf
                              refine g_sld hC hsc0 hBs hX hbl hL q_157.1 q_157.2 dL_law_655 ?_
                              refine g_aload_n hC 0 dL_law_656 rfl rfl ?_
                              refine g_iload_n hC 3 dL_law_657 rfl rfl ?_
                              refine g_iconst hC dL_law_658 ?_
                              refine g_iadd hC dL_law_659 ?_
                              obtain ⟨q_158, hf⟩ := hf
                              refine g_sld hC hsc0 hBs hX hbl hL q_158.1 q_158.2 dL_law_660 ?_
                              refine g_callVI hC (sk := [J r_155]) [J (sc (v3_1 + 1).toNat), J (sc (v3_1 + 2).toNat)] (c_X12_beyond l B D K (sc (v3_1 + 1).toNat) (sc (v3_1 + 2).toNat) (hsc _) (hsc _) M_2 h_M_2 _ hf) yv_X12_beyond wm_L_70 okX12.1 sc95 rfl ⟨Nat.le_of_ble_eq_true rfl, Nat.le_of_ble_eq_true rfl, Nat.le_of_ble_eq_true rfl, Nat.le_of_ble_eq_true rfl⟩ rfl (Nat.le_of_ble_eq_true rfl) dL_law_661 ?_
                              intro r_159 M_160 h_r_159 h_M_160 hf
                              refine g_icmp_eq hC 1449 h_r_155 h_r_159 dL_law_664 rfl (fun c_163 => ?_) (fun c_163 => ?_)
                              · replace hf := hf.1 c_163
                                obtain ⟨q_162, hf⟩ := hf
                                obtain ⟨v3_161, e_v3_161⟩ : ∃ z : Int, z = v3_1 + 6 := ⟨_, rfl⟩
                                replace hf := hf v3_161 e_v3_161
                                have h_v3_161 : inR v3_161 := by rw [e_v3_161]; exact q_162
                                refine g_iincv hC 3 e_v3_161 [(3, J v3_161), (0, .ref b), (1, .ref (B + 0)), (2, .ref (B + 95))] dL_law_1449 rfl (by decide) rfl ?_
                                refine g_goto hC 18 dL_law_1452 rfl ?_
                                refine g_sub [(0, .ref b), (1, .ref (B + 0)), (2, .ref (B + 95)), (3, J v3_161)] [1, 2, 3, 0] rfl ?_
                                exact ih18 v3_161 M_160 hf h_v3_161 h_M_160
                              · replace hf := hf.2 c_163
                                refine g_iconst hC dL_law_667 ?_
                                exact hf.elim
                            · replace hf := hf.2
                              by_cases c_174 : bAnd (sc (v3_1).toNat) 63 = 13
                              · replace hf := hf.1 c_174
                                refine g_tabIn hC 13 669 (bAnd_in _ _) c_174 dL_law_33 (by decide) (by decide) rfl rfl ?_
                                refine g_aload_n hC 1 dL_law_669 rfl rfl ?_
                                refine g_aload_n hC 0 dL_law_670 rfl rfl ?_
                                refine g_iload_n hC 3 dL_law_671 rfl rfl ?_
                                refine g_iconst hC dL_law_672 ?_
                                refine g_iadd hC dL_law_673 ?_
                                obtain ⟨q_165, hf⟩ := hf
                                refine g_sld hC hsc0 hBs hX hbl hL q_165.1 q_165.2 dL_law_674 ?_
                                refine g_callVI hC (sk := []) [J (sc (v3_1 + 1).toNat)] (c_X11_springs l B D K (sc (v3_1 + 1).toNat) (hsc _) M_2 h_M_2 _ hf) yv_X11_springs wm_L_71 okX11.1 sc0 rfl ⟨Nat.le_of_ble_eq_true rfl, Nat.le_of_ble_eq_true rfl, Nat.le_of_ble_eq_true rfl, Nat.le_of_ble_eq_true rfl⟩ rfl (Nat.le_of_ble_eq_true rfl) dL_law_675 ?_
                                rintro r_166 M_167 h_r_166 - ⟨rfl, hf⟩
                                refine g_aload_n hC 2 dL_law_678 rfl rfl ?_
                                refine g_aload_n hC 0 dL_law_679 rfl rfl ?_
                                refine g_iload_n hC 3 dL_law_680 rfl rfl ?_
                                refine g_iconst hC dL_law_681 ?_
                                refine g_iadd hC dL_law_682 ?_
                                obtain ⟨q_168, hf⟩ := hf
                                refine g_sld hC hsc0 hBs hX hbl hL q_168.1 q_168.2 dL_law_683 ?_
                                refine g_callVI hC (sk := [J r_166]) [J (sc (v3_1 + 1).toNat)] (c_X12_springs l B D K (sc (v3_1 + 1).toNat) (hsc _) M_2 h_M_2 _ hf) yv_X12_springs wm_L_74 okX12.1 sc95 rfl ⟨Nat.le_of_ble_eq_true rfl, Nat.le_of_ble_eq_true rfl, Nat.le_of_ble_eq_true rfl, Nat.le_of_ble_eq_true rfl⟩ rfl (Nat.le_of_ble_eq_true rfl) dL_law_684 ?_
                                intro r_169 M_170 h_r_169 h_M_170 hf
                                refine g_icmp_eq hC 1449 h_r_166 h_r_169 dL_law_687 rfl (fun c_173 => ?_) (fun c_173 => ?_)
                                · replace hf := hf.1 c_173
                                  obtain ⟨q_172, hf⟩ := hf
                                  obtain ⟨v3_171, e_v3_171⟩ : ∃ z : Int, z = v3_1 + 6 := ⟨_, rfl⟩
                                  replace hf := hf v3_171 e_v3_171
                                  have h_v3_171 : inR v3_171 := by rw [e_v3_171]; exact q_172
                                  refine g_iincv hC 3 e_v3_171 [(3, J v3_171), (0, .ref b), (1, .ref (B + 0)), (2, .ref (B + 95))] dL_law_1449 rfl (by decide) rfl ?_
                                  refine g_goto hC 18 dL_law_1452 rfl ?_
                                  refine g_sub [(0, .ref b), (1, .ref (B + 0)), (2, .ref (B + 95)), (3, J v3_171)] [1, 2, 3, 0] rfl ?_
                                  exact ih18 v3_171 M_170 hf h_v3_171 h_M_170
                                · replace hf := hf.2 c_173
                                  refine g_iconst hC dL_law_690 ?_
                                  exact hf.elim
                              · replace hf := hf.2
                                by_cases c_186 : bAnd (sc (v3_1).toNat) 63 = 14
                                · replace hf := hf.1 c_186
                                  refine g_tabIn hC 14 692 (bAnd_in _ _) c_186 dL_law_33 (by decide) (by decide) rfl rfl ?_
                                  refine g_aload_n hC 1 dL_law_692 rfl rfl ?_
                                  refine g_aload_n hC 0 dL_law_693 rfl rfl ?_
                                  refine g_iload_n hC 3 dL_law_694 rfl rfl ?_
                                  refine g_iconst hC dL_law_695 ?_
                                  refine g_iadd hC dL_law_696 ?_
                                  obtain ⟨q_175, hf⟩ := hf
                                  refine g_sld hC hsc0 hBs hX hbl hL q_175.1 q_175.2 dL_law_697 ?_
                                  refine g_aload_n hC 0 dL_law_698 rfl rfl ?_
                                  refine g_iload_n hC 3 dL_law_699 rfl rfl ?_
                                  refine g_iconst hC dL_law_700 ?_
                                  refine g_iadd hC dL_law_701 ?_
                                  obtain ⟨q_176, hf⟩ := hf
                                  refine g_sld hC hsc0 hBs hX hbl hL q_176.1 q_176.2 dL_law_702 ?_
                                  refine g_callVI hC (sk := []) [J (sc (v3_1 + 1).toNat), J (sc (v3_1 + 2).toNat)] (c_X11_ways l B D K (sc (v3_1 + 1).toNat) (sc (v3_1 + 2).toNat) (hsc _) (hsc _) M_2 h_M_2 _ hf) yv_X11_ways wm_L_75 okX11.1 sc0 rfl ⟨Nat.le_of_ble_eq_true rfl, Nat.le_of_ble_eq_true rfl, Nat.le_of_ble_eq_true rfl, Nat.le_of_ble_eq_true rfl⟩ rfl (Nat.le_of_ble_eq_true rfl) dL_law_703 ?_
                                  intro r_177 M_178 h_r_177 h_M_178 hf
                                  refine g_aload_n hC 2 dL_law_706 rfl rfl ?_
                                  refine g_aload_n hC 0 dL_law_707 rfl rfl ?_
                                  refine g_iload_n hC 3 dL_law_708 rfl rfl ?_
                                  refine g_iconst hC dL_law_709 ?_
                                  refine g_iadd hC dL_law_710 ?_
                                  obtain ⟨q_179, hf⟩ := hf
                                  refine g_sld hC hsc0 hBs hX hbl hL q_179.1 q_179.2 dL_law_711 ?_
                                  refine g_aload_n hC 0 dL_law_712 rfl rfl ?_
                                  refine g_iload_n hC 3 dL_law_713 rfl rfl ?_
                                  refine g_iconst hC dL_law_714 ?_
                                  refine g_iadd hC dL_law_715 ?_
                                  obtain ⟨q_180, hf⟩ := hf
                                  refine g_sld hC hsc0 hBs hX hbl hL q_180.1 q_180.2 dL_law_716 ?_
                                  refine g_callVI hC (sk := [J r_177]) [J (sc (v3_1 + 1).toNat), J (sc (v3_1 + 2).toNat)] (c_X12_ways l B D K (sc (v3_1 + 1).toNat) (sc (v3_1 + 2).toNat) (hsc _) (hsc _) M_178 h_M_178 _ hf) yv_X12_ways wm_L_78 okX12.1 sc95 rfl ⟨Nat.le_of_ble_eq_true rfl, Nat.le_of_ble_eq_true rfl, Nat.le_of_ble_eq_true rfl, Nat.le_of_ble_eq_true rfl⟩ rfl (Nat.le_of_ble_eq_true rfl) dL_law_717 ?_
                                  intro r_181 M_182 h_r_181 h_M_182 hf
                                  refine g_icmp_eq hC 1449 h_r_177 h_r_181 dL_law_720 rfl (fun c_185 => ?_) (fun c_185 => ?_)
                                  · replace hf := hf.1 c_185
                                    obtain ⟨q_184, hf⟩ := hf
                                    obtain ⟨v3_183, e_v3_183⟩ : ∃ z : Int, z = v3_1 + 6 := ⟨_, rfl⟩
                                    replace hf := hf v3_183 e_v3_183
                                    have h_v3_183 : inR v3_183 := by rw [e_v3_183]; exact q_184
                                    refine g_iincv hC 3 e_v3_183 [(3, J v3_183), (0, .ref b), (1, .ref (B + 0)), (2, .ref (B + 95))] dL_law_1449 rfl (by decide) rfl ?_
                                    refine g_goto hC 18 dL_law_1452 rfl ?_
                                    refine g_sub [(0, .ref b), (1, .ref (B + 0)), (2, .ref (B + 95)), (3, J v3_183)] [1, 2, 3, 0] rfl ?_
                                    exact ih18 v3_183 M_182 hf h_v3_183 h_M_182
                                  · replace hf := hf.2 c_185
                                    refine g_iconst hC dL_law_723 ?_
                                    exact hf.elim
                                · replace hf := hf.2
                                  by_cases c_200 : bAnd (sc (v3_1).toNat) 63 = 15
                                  · replace hf := hf.1 c_200
                                    refine g_tabIn hC 15 725 (bAnd_in _ _) c_200 dL_law_33 (by decide) (by decide) rfl rfl ?_
                                    refine g_aload_n hC 1 dL_law_725 rfl rfl ?_
                                    refine g_aload_n hC 0 dL_law_726 rfl rfl ?_
                                    refine g_iload_n hC 3 dL_law_727 rfl rfl ?_
                                    refine g_iconst hC dL_law_728 ?_
                                    refine g_iadd hC dL_law_729 ?_
                                    obtain ⟨q_187, hf⟩ := hf
                                    refine g_sld hC hsc0 hBs hX hbl hL q_187.1 q_187.2 dL_law_730 ?_
                                    refine g_aload_n hC 0 dL_law_731 rfl rfl ?_
                                    refine g_iload_n hC 3 dL_law_732 rfl rfl ?_
                                    refine g_iconst hC dL_law_733 ?_
                                    refine g_iadd hC dL_law_734 ?_
                                    obtain ⟨q_188, hf⟩ := hf
                                    refine g_sld hC hsc0 hBs hX hbl hL q_188.1 q_188.2 dL_law_735 ?_
                                    refine g_aload_n hC 0 dL_law_736 rfl rfl ?_
                                    refine g_iload_n hC 3 dL_law_737 rfl rfl ?_
                                    refine g_iconst hC dL_law_738 ?_
                                    refine g_iadd hC dL_law_739 ?_
                                    obtain ⟨q_189, hf⟩ := hf
                                    refine g_sld hC hsc0 hBs hX hbl hL q_189.1 q_189.2 dL_law_740 ?_
                                    refine g_callVI hC (sk := []) [J (sc (v3_1 + 1).toNat), J (sc (v3_1 + 2).toNat), J (sc (v3_1 + 3).toNat)] (c_X11_far l B D K (sc (v3_1 + 1).toNat) (sc (v3_1 + 2).toNat) (sc (v3_1 + 3).toNat) (hsc _) (hsc _) (hsc _) M_2 h_M_2 _ hf) yv_X11_far wm_L_79 okX11.1 sc0 rfl ⟨Nat.le_of_ble_eq_true rfl, Nat.le_of_ble_eq_true rfl, Nat.le_of_ble_eq_true rfl, Nat.le_of_ble_eq_true rfl⟩ rfl (Nat.le_of_ble_eq_true rfl) dL_law_741 ?_
                                    intro r_190 M_191 h_r_190 h_M_191 hf
                                    refine g_aload_n hC 2 dL_law_744 rfl rfl ?_
                                    refine g_aload_n hC 0 dL_law_745 rfl rfl ?_
                                    refine g_iload_n hC 3 dL_law_746 rfl rfl ?_
                                    refine g_iconst hC dL_law_747 ?_
                                    refine g_iadd hC dL_law_748 ?_
                                    obtain ⟨q_192, hf⟩ := hf
                                    refine g_sld hC hsc0 hBs hX hbl hL q_192.1 q_192.2 dL_law_749 ?_
                                    refine g_aload_n hC 0 dL_law_750 rfl rfl ?_
                                    refine g_iload_n hC 3 dL_law_751 rfl rfl ?_
                                    refine g_iconst hC dL_law_752 ?_
                                    refine g_iadd hC dL_law_753 ?_
                                    obtain ⟨q_193, hf⟩ := hf
                                    refine g_sld hC hsc0 hBs hX hbl hL q_193.1 q_193.2 dL_law_754 ?_
                                    refine g_aload_n hC 0 dL_law_755 rfl rfl ?_
                                    refine g_iload_n hC 3 dL_law_756 rfl rfl ?_
                                    refine g_iconst hC dL_law_757 ?_
                                    refine g_iadd hC dL_law_758 ?_
                                    obtain ⟨q_194, hf⟩ := hf
                                    refine g_sld hC hsc0 hBs hX hbl hL q_194.1 q_194.2 dL_law_759 ?_
                                    refine g_callVI hC (sk := [J r_190]) [J (sc (v3_1 + 1).toNat), J (sc (v3_1 + 2).toNat), J (sc (v3_1 + 3).toNat)] (c_X12_far l B D K (sc (v3_1 + 1).toNat) (sc (v3_1 + 2).toNat) (sc (v3_1 + 3).toNat) (hsc _) (hsc _) (hsc _) M_191 h_M_191 _ hf) yv_X12_far wm_L_82 okX12.1 sc95 rfl ⟨Nat.le_of_ble_eq_true rfl, Nat.le_of_ble_eq_true rfl, Nat.le_of_ble_eq_true rfl, Nat.le_of_ble_eq_true rfl⟩ rfl (Nat.le_of_ble_eq_true rfl) dL_law_760 ?_
                                    intro r_195 M_196 h_r_195 h_M_196 hf
                                    refine g_icmp_eq hC 1449 h_r_190 h_r_195 dL_law_763 rfl (fun c_199 => ?_) (fun c_199 => ?_)
                                    · replace hf := hf.1 c_199
                                      obtain ⟨q_198, hf⟩ := hf
                                      obtain ⟨v3_197, e_v3_197⟩ : ∃ z : Int, z = v3_1 + 6 := ⟨_, rfl⟩
                                      replace hf := hf v3_197 e_v3_197
                                      have h_v3_197 : inR v3_197 := by rw [e_v3_197]; exact q_198
                                      refine g_iincv hC 3 e_v3_197 [(3, J v3_197), (0, .ref b), (1, .ref (B + 0)), (2, .ref (B + 95))] dL_law_1449 rfl (by decide) rfl ?_
                                      refine g_goto hC 18 dL_law_1452 rfl ?_
                                      refine g_sub [(0, .ref b), (1, .ref (B + 0)), (2, .ref (B + 95)), (3, J v3_197)] [1, 2, 3, 0] rfl ?_
                                      exact ih18 v3_197 M_196 hf h_v3_197 h_M_196
                                    · replace hf := hf.2 c_199
                                      refine g_iconst hC dL_law_766 ?_
                                      exact hf.elim
                                  · replace hf := hf.2
                                    by_cases c_212 : bAnd (sc (v3_1).toNat) 63 = 16
                                    · replace hf := hf.1 c_212
                                      refine g_tabIn hC 16 768 (bAnd_in _ _) c_212 dL_law_33 (by decide) (by decide) rfl rfl ?_
                                      refine g_aload_n hC 1 dL_law_768 rfl rfl ?_
                                      refine g_aload_n hC 0 dL_law_769 rfl rfl ?_
                                      refine g_iload_n hC 3 dL_law_770 rfl rfl ?_
                                      refine g_iconst hC dL_law_771 ?_
                                      refine g_iadd hC dL_law_772 ?_
                                      obtain ⟨q_201, hf⟩ := hf
                                      refine g_sld hC hsc0 hBs hX hbl hL q_201.1 q_201.2 dL_law_773 ?_
                                      refine g_aload_n hC 0 dL_law_774 rfl rfl ?_
                                      refine g_iload_n hC 3 dL_law_775 rfl rfl ?_
                                      refine g_iconst hC dL_law_776 ?_
                                      refine g_iadd hC dL_law_777 ?_
                                      obtain ⟨q_202, hf⟩ := hf
                                      refine g_sld hC hsc0 hBs hX hbl hL q_202.1 q_202.2 dL_law_778 ?_
                                      refine g_callVI hC (sk := []) [J (sc (v3_1 + 1).toNat), J (sc (v3_1 + 2).toNat)] (c_X11_waters l B D K (sc (v3_1 + 1).toNat) (sc (v3_1 + 2).toNat) (hsc _) (hsc _) M_2 h_M_2 _ hf) yv_X11_waters wm_L_83 okX11.1 sc0 rfl ⟨Nat.le_of_ble_eq_true rfl, Nat.le_of_ble_eq_true rfl, Nat.le_of_ble_eq_true rfl, Nat.le_of_ble_eq_true rfl⟩ rfl (Nat.le_of_ble_eq_true rfl) dL_law_779 ?_
                                      rintro r_203 M_204 h_r_203 - ⟨rfl, hf⟩
                                      refine g_aload_n hC 2 dL_law_782 rfl rfl ?_
                                      refine g_aload_n hC 0 dL_law_783 rfl rfl ?_
                                      refine g_iload_n hC 3 dL_law_784 rfl rfl ?_
                                      refine g_iconst hC dL_law_785 ?_
                                      refine g_iadd hC dL_law_786 ?_
                                      obtain ⟨q_205, hf⟩ := hf
                                      refine g_sld hC hsc0 hBs hX hbl hL q_205.1 q_205.2 dL_law_787 ?_
                                      refine g_aload_n hC 0 dL_law_788 rfl rfl ?_
                                      refine g_iload_n hC 3 dL_law_789 rfl rfl ?_
                                      refine g_iconst hC dL_law_790 ?_
                                      refine g_iadd hC dL_law_791 ?_
                                      obtain ⟨q_206, hf⟩ := hf
                                      refine g_sld hC hsc0 hBs hX hbl hL q_206.1 q_206.2 dL_law_792 ?_
                                      refine g_callVI hC (sk := [J r_203]) [J (sc (v3_1 + 1).toNat), J (sc (v3_1 + 2).toNat)] (c_X12_waters l B D K (sc (v3_1 + 1).toNat) (sc (v3_1 + 2).toNat) (hsc _) (hsc _) M_2 h_M_2 _ hf) yv_X12_waters wm_L_86 okX12.1 sc95 rfl ⟨Nat.le_of_ble_eq_true rfl, Nat.le_of_ble_eq_true rfl, Nat.le_of_ble_eq_true rfl, Nat.le_of_ble_eq_true rfl⟩ rfl (Nat.le_of_ble_eq_true rfl) dL_law_793 ?_
                                      intro r_207 M_208 h_r_207 h_M_208 hf
                                      refine g_icmp_eq hC 1449 h_r_203 h_r_207 dL_law_796 rfl (fun c_211 => ?_) (fun c_211 => ?_)
                                      · replace hf := hf.1 c_211
                                        obtain ⟨q_210, hf⟩ := hf
                                        obtain ⟨v3_209, e_v3_209⟩ : ∃ z : Int, z = v3_1 + 6 := ⟨_, rfl⟩
                                        replace hf := hf v3_209 e_v3_209
                                        have h_v3_209 : inR v3_209 := by rw [e_v3_209]; exact q_210
                                        refine g_iincv hC 3 e_v3_209 [(3, J v3_209), (0, .ref b), (1, .ref (B + 0)), (2, .ref (B + 95))] dL_law_1449 rfl (by decide) rfl ?_
                                        refine g_goto hC 18 dL_law_1452 rfl ?_
                                        refine g_sub [(0, .ref b), (1, .ref (B + 0)), (2, .ref (B + 95)), (3, J v3_209)] [1, 2, 3, 0] rfl ?_
                                        exact ih18 v3_209 M_208 hf h_v3_209 h_M_208
                                      · replace hf := hf.2 c_211
                                        refine g_iconst hC dL_law_799 ?_
                                        exact hf.elim
                                    · replace hf := hf.2
                                      by_cases c_222 : bAnd (sc (v3_1).toNat) 63 = 17
                                      · replace hf := hf.1 c_222
                                        refine g_tabIn hC 17 801 (bAnd_in _ _) c_222 dL_law_33 (by decide) (by decide) rfl rfl ?_
                                        refine g_aload_n hC 1 dL_law_801 rfl rfl ?_
                                        refine g_aload_n hC 0 dL_law_802 rfl rfl ?_
                                        refine g_iload_n hC 3 dL_law_803 rfl rfl ?_
                                        refine g_iconst hC dL_law_804 ?_
                                        refine g_iadd hC dL_law_805 ?_
                                        obtain ⟨q_213, hf⟩ := hf
                                        refine g_sld hC hsc0 hBs hX hbl hL q_213.1 q_213.2 dL_law_806 ?_
                                        refine g_callVI hC (sk := []) [J (sc (v3_1 + 1).toNat)] (c_X11_braid l B D K (sc (v3_1 + 1).toNat) (hsc _) M_2 h_M_2 _ hf) yv_X11_braid wm_L_87 okX11.1 sc0 rfl ⟨Nat.le_of_ble_eq_true rfl, Nat.le_of_ble_eq_true rfl, Nat.le_of_ble_eq_true rfl, Nat.le_of_ble_eq_true rfl⟩ rfl (Nat.le_of_ble_eq_true rfl) dL_law_807 ?_
                                        rintro r_214 M_215 h_r_214 - ⟨rfl, hf⟩
                                        refine g_aload_n hC 2 dL_law_810 rfl rfl ?_
                                        refine g_aload_n hC 0 dL_law_811 rfl rfl ?_
                                        refine g_iload_n hC 3 dL_law_812 rfl rfl ?_
                                        refine g_iconst hC dL_law_813 ?_
                                        refine g_iadd hC dL_law_814 ?_
                                        obtain ⟨q_216, hf⟩ := hf
                                        refine g_sld hC hsc0 hBs hX hbl hL q_216.1 q_216.2 dL_law_815 ?_
                                        refine g_callVI hC (sk := [J r_214]) [J (sc (v3_1 + 1).toNat)] (c_X12_braid l B D K (sc (v3_1 + 1).toNat) (hsc _) M_2 h_M_2 _ hf) yv_X12_braid wm_L_90 okX12.1 sc95 rfl ⟨Nat.le_of_ble_eq_true rfl, Nat.le_of_ble_eq_true rfl, Nat.le_of_ble_eq_true rfl, Nat.le_of_ble_eq_true rfl⟩ rfl (Nat.le_of_ble_eq_true rfl) dL_law_816 ?_
                                        intro r_217 M_218 h_r_217 h_M_218 hf
                                        refine g_icmp_eq hC 1449 h_r_214 h_r_217 dL_law_819 rfl (fun c_221 => ?_) (fun c_221 => ?_)
                                        · replace hf := hf.1 c_221
                                          obtain ⟨q_220, hf⟩ := hf
                                          obtain ⟨v3_219, e_v3_219⟩ : ∃ z : Int, z = v3_1 + 6 := ⟨_, rfl⟩
                                          replace hf := hf v3_219 e_v3_219
                                          have h_v3_219 : inR v3_219 := by rw [e_v3_219]; exact q_220
                                          refine g_iincv hC 3 e_v3_219 [(3, J v3_219), (0, .ref b), (1, .ref (B + 0)), (2, .ref (B + 95))] dL_law_1449 rfl (by decide) rfl ?_
                                          refine g_goto hC 18 dL_law_1452 rfl ?_
                                          refine g_sub [(0, .ref b), (1, .ref (B + 0)), (2, .ref (B + 95)), (3, J v3_219)] [1, 2, 3, 0] rfl ?_
                                          exact ih18 v3_219 M_218 hf h_v3_219 h_M_218
                                        · replace hf := hf.2 c_221
                                          refine g_iconst hC dL_law_822 ?_
                                          exact hf.elim
                                      · replace hf := hf.2
                                        by_cases c_234 : bAnd (sc (v3_1).toNat) 63 = 18
                                        · replace hf := hf.1 c_234
                                          refine g_tabIn hC 18 824 (bAnd_in _ _) c_234 dL_law_33 (by decide) (by decide) rfl rfl ?_
                                          refine g_aload_n hC 1 dL_law_824 rfl rfl ?_
                                          refine g_aload_n hC 0 dL_law_825 rfl rfl ?_
                                          refine g_iload_n hC 3 dL_law_826 rfl rfl ?_
                                          refine g_iconst hC dL_law_827 ?_
                                          refine g_iadd hC dL_law_828 ?_
                                          obtain ⟨q_223, hf⟩ := hf
                                          refine g_sld hC hsc0 hBs hX hbl hL q_223.1 q_223.2 dL_law_829 ?_
                                          refine g_aload_n hC 0 dL_law_830 rfl rfl ?_
                                          refine g_iload_n hC 3 dL_law_831 rfl rfl ?_
                                          refine g_iconst hC dL_law_832 ?_
                                          refine g_iadd hC dL_law_833 ?_
                                          obtain ⟨q_224, hf⟩ := hf
                                          refine g_sld hC hsc0 hBs hX hbl hL q_224.1 q_224.2 dL_law_834 ?_
                                          refine g_callVI hC (sk := []) [J (sc (v3_1 + 1).toNat), J (sc (v3_1 + 2).toNat)] (c_X11_streams l B D K (sc (v3_1 + 1).toNat) (sc (v3_1 + 2).toNat) (hsc _) (hsc _) M_2 h_M_2 _ hf) yv_X11_streams wm_L_91 okX11.1 sc0 rfl ⟨Nat.le_of_ble_eq_true rfl, Nat.le_of_ble_eq_true rfl, Nat.le_of_ble_eq_true rfl, Nat.le_of_ble_eq_true rfl⟩ rfl (Nat.le_of_ble_eq_true rfl) dL_law_835 ?_
                                          intro r_225 M_226 h_r_225 h_M_226 hf
                                          refine g_aload_n hC 2 dL_law_838 rfl rfl ?_
                                          refine g_aload_n hC 0 dL_law_839 rfl rfl ?_
                                          refine g_iload_n hC 3 dL_law_840 rfl rfl ?_
                                          refine g_iconst hC dL_law_841 ?_
                                          refine g_iadd hC dL_law_842 ?_
                                          obtain ⟨q_227, hf⟩ := hf
                                          refine g_sld hC hsc0 hBs hX hbl hL q_227.1 q_227.2 dL_law_843 ?_
                                          refine g_aload_n hC 0 dL_law_844 rfl rfl ?_
                                          refine g_iload_n hC 3 dL_law_845 rfl rfl ?_
                                          refine g_iconst hC dL_law_846 ?_
                                          refine g_iadd hC dL_law_847 ?_
                                          obtain ⟨q_228, hf⟩ := hf
                                          refine g_sld hC hsc0 hBs hX hbl hL q_228.1 q_228.2 dL_law_848 ?_
                                          refine g_callVI hC (sk := [J r_225]) [J (sc (v3_1 + 1).toNat), J (sc (v3_1 + 2).toNat)] (c_X12_streams l B D K (sc (v3_1 + 1).toNat) (sc (v3_1 + 2).toNat) (hsc _) (hsc _) M_226 h_M_226 _ hf) yv_X12_streams wm_L_94 okX12.1 sc95 rfl ⟨Nat.le_of_ble_eq_true rfl, Nat.le_of_ble_eq_true rfl, Nat.le_of_ble_eq_true rfl, Nat.le_of_ble_eq_true rfl⟩ rfl (Nat.le_of_ble_eq_true rfl) dL_law_849 ?_
                                          intro r_229 M_230 h_r_229 h_M_230 hf
                                          refine g_icmp_eq hC 1449 h_r_225 h_r_229 dL_law_852 rfl (fun c_233 => ?_) (fun c_233 => ?_)
                                          · replace hf := hf.1 c_233
                                            obtain ⟨q_232, hf⟩ := hf
                                            obtain ⟨v3_231, e_v3_231⟩ : ∃ z : Int, z = v3_1 + 6 := ⟨_, rfl⟩
                                            replace hf := hf v3_231 e_v3_231
                                            have h_v3_231 : inR v3_231 := by rw [e_v3_231]; exact q_232
                                            refine g_iincv hC 3 e_v3_231 [(3, J v3_231), (0, .ref b), (1, .ref (B + 0)), (2, .ref (B + 95))] dL_law_1449 rfl (by decide) rfl ?_
                                            refine g_goto hC 18 dL_law_1452 rfl ?_
                                            refine g_sub [(0, .ref b), (1, .ref (B + 0)), (2, .ref (B + 95)), (3, J v3_231)] [1, 2, 3, 0] rfl ?_
                                            exact ih18 v3_231 M_230 hf h_v3_231 h_M_230
                                          · replace hf := hf.2 c_233
                                            refine g_iconst hC dL_law_855 ?_
                                            exact hf.elim
                                        · replace hf := hf.2
                                          by_cases c_246 : bAnd (sc (v3_1).toNat) 63 = 19
                                          · replace hf := hf.1 c_246
                                            refine g_tabIn hC 19 857 (bAnd_in _ _) c_246 dL_law_33 (by decide) (by decide) rfl rfl ?_
                                            refine g_aload_n hC 1 dL_law_857 rfl rfl ?_
                                            refine g_aload_n hC 0 dL_law_858 rfl rfl ?_
                                            refine g_iload_n hC 3 dL_law_859 rfl rfl ?_
                                            refine g_iconst hC dL_law_860 ?_
                                            refine g_iadd hC dL_law_861 ?_
                                            obtain ⟨q_235, hf⟩ := hf
                                            refine g_sld hC hsc0 hBs hX hbl hL q_235.1 q_235.2 dL_law_862 ?_
                                            refine g_aload_n hC 0 dL_law_863 rfl rfl ?_
                                            refine g_iload_n hC 3 dL_law_864 rfl rfl ?_
                                            refine g_iconst hC dL_law_865 ?_
                                            refine g_iadd hC dL_law_866 ?_
                                            obtain ⟨q_236, hf⟩ := hf
                                            refine g_sld hC hsc0 hBs hX hbl hL q_236.1 q_236.2 dL_law_867 ?_
                                            refine g_callVI hC (sk := []) [J (sc (v3_1 + 1).toNat), J (sc (v3_1 + 2).toNat)] (c_X11_river l B D K (sc (v3_1 + 1).toNat) (sc (v3_1 + 2).toNat) (hsc _) (hsc _) M_2 h_M_2 _ hf) yv_X11_river wm_L_95 okX11.1 sc0 rfl ⟨Nat.le_of_ble_eq_true rfl, Nat.le_of_ble_eq_true rfl, Nat.le_of_ble_eq_true rfl, Nat.le_of_ble_eq_true rfl⟩ rfl (Nat.le_of_ble_eq_true rfl) dL_law_868 ?_
                                            rintro r_237 M_238 h_r_237 - ⟨rfl, hf⟩
                                            refine g_aload_n hC 2 dL_law_871 rfl rfl ?_
                                            refine g_aload_n hC 0 dL_law_872 rfl rfl ?_
                                            refine g_iload_n hC 3 dL_law_873 rfl rfl ?_
                                            refine g_iconst hC dL_law_874 ?_
                                            refine g_iadd hC dL_law_875 ?_
                                            obtain ⟨q_239, hf⟩ := hf
                                            refine g_sld hC hsc0 hBs hX hbl hL q_239.1 q_239.2 dL_law_876 ?_
                                            refine g_aload_n hC 0 dL_law_877 rfl rfl ?_
                                            refine g_iload_n hC 3 dL_law_878 rfl rfl ?_
                                            refine g_iconst hC dL_law_879 ?_
                                            refine g_iadd hC dL_law_880 ?_
                                            obtain ⟨q_240, hf⟩ := hf
                                            refine g_sld hC hsc0 hBs hX hbl hL q_240.1 q_240.2 dL_law_881 ?_
                                            refine g_callVI hC (sk := [J r_237]) [J (sc (v3_1 + 1).toNat), J (sc (v3_1 + 2).toNat)] (c_X12_river l B D K (sc (v3_1 + 1).toNat) (sc (v3_1 + 2).toNat) (hsc _) (hsc _) M_2 h_M_2 _ hf) yv_X12_river wm_L_98 okX12.1 sc95 rfl ⟨Nat.le_of_ble_eq_true rfl, Nat.le_of_ble_eq_true rfl, Nat.le_of_ble_eq_true rfl, Nat.le_of_ble_eq_true rfl⟩ rfl (Nat.le_of_ble_eq_true rfl) dL_law_882 ?_
                                            intro r_241 M_242 h_r_241 h_M_242 hf
                                            refine g_icmp_eq hC 1449 h_r_237 h_r_241 dL_law_885 rfl (fun c_245 => ?_) (fun c_245 => ?_)
                                            · replace hf := hf.1 c_245
                                              obtain ⟨q_244, hf⟩ := hf
                                              obtain ⟨v3_243, e_v3_243⟩ : ∃ z : Int, z = v3_1 + 6 := ⟨_, rfl⟩
                                              replace hf := hf v3_243 e_v3_243
                                              have h_v3_243 : inR v3_243 := by rw [e_v3_243]; exact q_244
                                              refine g_iincv hC 3 e_v3_243 [(3, J v3_243), (0, .ref b), (1, .ref (B + 0)), (2, .ref (B + 95))] dL_law_1449 rfl (by decide) rfl ?_
                                              refine g_goto hC 18 dL_law_1452 rfl ?_
                                              refine g_sub [(0, .ref b), (1, .ref (B + 0)), (2, .ref (B + 95)), (3, J v3_243)] [1, 2, 3, 0] rfl ?_
                                              exact ih18 v3_243 M_242 hf h_v3_243 h_M_242
                                            · replace hf := hf.2 c_245
                                              refine g_iconst hC dL_law_888 ?_
                                              exact hf.elim
                                          · replace hf := hf.2
                                            by_cases c_256 : bAnd (sc (v3_1).toNat) 63 = 20
                                            · replace hf := hf.1 c_256
                                              refine g_tabIn hC 20 890 (bAnd_in _ _) c_256 dL_law_33 (by decide) (by decide) rfl rfl ?_
                                              refine g_aload_n hC 1 dL_law_890 rfl rfl ?_
                                              refine g_aload_n hC 0 dL_law_891 rfl rfl ?_
                                              refine g_iload_n hC 3 dL_law_892 rfl rfl ?_
                                              refine g_iconst hC dL_law_893 ?_
                                              refine g_iadd hC dL_law_894 ?_
                                              obtain ⟨q_247, hf⟩ := hf
                                              refine g_sld hC hsc0 hBs hX hbl hL q_247.1 q_247.2 dL_law_895 ?_
                                              refine g_callVI hC (sk := []) [J (sc (v3_1 + 1).toNat)] (c_X11_canTurn l B D K (sc (v3_1 + 1).toNat) (hsc _) M_2 h_M_2 _ hf) yv_X11_canTurn wm_L_99 okX11.1 sc0 rfl ⟨Nat.le_of_ble_eq_true rfl, Nat.le_of_ble_eq_true rfl, Nat.le_of_ble_eq_true rfl, Nat.le_of_ble_eq_true rfl⟩ rfl (Nat.le_of_ble_eq_true rfl) dL_law_896 ?_
                                              rintro r_248 M_249 h_r_248 - ⟨rfl, hf⟩
                                              refine g_aload_n hC 2 dL_law_899 rfl rfl ?_
                                              refine g_aload_n hC 0 dL_law_900 rfl rfl ?_
                                              refine g_iload_n hC 3 dL_law_901 rfl rfl ?_
                                              refine g_iconst hC dL_law_902 ?_
                                              refine g_iadd hC dL_law_903 ?_
                                              obtain ⟨q_250, hf⟩ := hf
                                              refine g_sld hC hsc0 hBs hX hbl hL q_250.1 q_250.2 dL_law_904 ?_
                                              refine g_callVI hC (sk := [J r_248]) [J (sc (v3_1 + 1).toNat)] (c_X12_canTurn l B D K (sc (v3_1 + 1).toNat) (hsc _) M_2 h_M_2 _ hf) yv_X12_canTurn wm_L_102 okX12.1 sc95 rfl ⟨Nat.le_of_ble_eq_true rfl, Nat.le_of_ble_eq_true rfl, Nat.le_of_ble_eq_true rfl, Nat.le_of_ble_eq_true rfl⟩ rfl (Nat.le_of_ble_eq_true rfl) dL_law_905 ?_
                                              rintro r_251 M_252 h_r_251 - ⟨rfl, hf⟩
                                              refine g_icmp_eq hC 1449 h_r_248 h_r_251 dL_law_908 rfl (fun c_255 => ?_) (fun c_255 => ?_)
                                              · replace hf := hf.1 c_255
                                                obtain ⟨q_254, hf⟩ := hf
                                                obtain ⟨v3_253, e_v3_253⟩ : ∃ z : Int, z = v3_1 + 6 := ⟨_, rfl⟩
                                                replace hf := hf v3_253 e_v3_253
                                                have h_v3_253 : inR v3_253 := by rw [e_v3_253]; exact q_254
                                                refine g_iincv hC 3 e_v3_253 [(3, J v3_253), (0, .ref b), (1, .ref (B + 0)), (2, .ref (B + 95))] dL_law_1449 rfl (by decide) rfl ?_
                                                refine g_goto hC 18 dL_law_1452 rfl ?_
                                                refine g_sub [(0, .ref b), (1, .ref (B + 0)), (2, .ref (B + 95)), (3, J v3_253)] [1, 2, 3, 0] rfl ?_
                                                exact ih18 v3_253 M_2 hf h_v3_253 h_M_2
                                              · replace hf := hf.2 c_255
                                                refine g_iconst hC dL_law_911 ?_
                                                exact hf.elim
                                            · replace hf := hf.2
                                              by_cases c_268 : bAnd (sc (v3_1).toNat) 63 = 21
                                              · replace hf := hf.1 c_268
                                                refine g_tabIn hC 21 913 (bAnd_in _ _) c_268 dL_law_33 (by decide) (by decide) rfl rfl ?_
                                                refine g_aload_n hC 1 dL_law_913 rfl rfl ?_
                                                refine g_aload_n hC 0 dL_law_914 rfl rfl ?_
                                                refine g_iload_n hC 3 dL_law_915 rfl rfl ?_
                                                refine g_iconst hC dL_law_916 ?_
                                                refine g_iadd hC dL_law_917 ?_
                                                obtain ⟨q_257, hf⟩ := hf
                                                refine g_sld hC hsc0 hBs hX hbl hL q_257.1 q_257.2 dL_law_918 ?_
                                                refine g_aload_n hC 0 dL_law_919 rfl rfl ?_
                                                refine g_iload_n hC 3 dL_law_920 rfl rfl ?_
                                                refine g_iconst hC dL_law_921 ?_
                                                refine g_iadd hC dL_law_922 ?_
                                                obtain ⟨q_258, hf⟩ := hf
                                                refine g_sld hC hsc0 hBs hX hbl hL q_258.1 q_258.2 dL_law_923 ?_
                                                refine g_callVI hC (sk := []) [J (sc (v3_1 + 1).toNat), J (sc (v3_1 + 2).toNat)] (c_X11_would l B D K (sc (v3_1 + 1).toNat) (sc (v3_1 + 2).toNat) (hsc _) (hsc _) M_2 h_M_2 _ hf) yv_X11_would wm_L_103 okX11.1 sc0 rfl ⟨Nat.le_of_ble_eq_true rfl, Nat.le_of_ble_eq_true rfl, Nat.le_of_ble_eq_true rfl, Nat.le_of_ble_eq_true rfl⟩ rfl (Nat.le_of_ble_eq_true rfl) dL_law_924 ?_
                                                intro r_259 M_260 h_r_259 h_M_260 hf
                                                refine g_aload_n hC 2 dL_law_927 rfl rfl ?_
                                                refine g_aload_n hC 0 dL_law_928 rfl rfl ?_
                                                refine g_iload_n hC 3 dL_law_929 rfl rfl ?_
                                                refine g_iconst hC dL_law_930 ?_
                                                refine g_iadd hC dL_law_931 ?_
                                                obtain ⟨q_261, hf⟩ := hf
                                                refine g_sld hC hsc0 hBs hX hbl hL q_261.1 q_261.2 dL_law_932 ?_
                                                refine g_aload_n hC 0 dL_law_933 rfl rfl ?_
                                                refine g_iload_n hC 3 dL_law_934 rfl rfl ?_
                                                refine g_iconst hC dL_law_935 ?_
                                                refine g_iadd hC dL_law_936 ?_
                                                obtain ⟨q_262, hf⟩ := hf
                                                refine g_sld hC hsc0 hBs hX hbl hL q_262.1 q_262.2 dL_law_937 ?_
                                                refine g_callVI hC (sk := [J r_259]) [J (sc (v3_1 + 1).toNat), J (sc (v3_1 + 2).toNat)] (c_X12_would l B D K (sc (v3_1 + 1).toNat) (sc (v3_1 + 2).toNat) (hsc _) (hsc _) M_260 h_M_260 _ hf) yv_X12_would wm_L_106 okX12.1 sc95 rfl ⟨Nat.le_of_ble_eq_true rfl, Nat.le_of_ble_eq_true rfl, Nat.le_of_ble_eq_true rfl, Nat.le_of_ble_eq_true rfl⟩ rfl (Nat.le_of_ble_eq_true rfl) dL_law_938 ?_
                                                intro r_263 M_264 h_r_263 h_M_264 hf
                                                refine g_icmp_eq hC 1449 h_r_259 h_r_263 dL_law_941 rfl (fun c_267 => ?_) (fun c_267 => ?_)
                                                · replace hf := hf.1 c_267
                                                  obtain ⟨q_266, hf⟩ := hf
                                                  obtain ⟨v3_265, e_v3_265⟩ : ∃ z : Int, z = v3_1 + 6 := ⟨_, rfl⟩
                                                  replace hf := hf v3_265 e_v3_265
                                                  have h_v3_265 : inR v3_265 := by rw [e_v3_265]; exact q_266
                                                  refine g_iincv hC 3 e_v3_265 [(3, J v3_265), (0, .ref b), (1, .ref (B + 0)), (2, .ref (B + 95))] dL_law_1449 rfl (by decide) rfl ?_
                                                  refine g_goto hC 18 dL_law_1452 rfl ?_
                                                  refine g_sub [(0, .ref b), (1, .ref (B + 0)), (2, .ref (B + 95)), (3, J v3_265)] [1, 2, 3, 0] rfl ?_
                                                  exact ih18 v3_265 M_264 hf h_v3_265 h_M_264
                                                · replace hf := hf.2 c_267
                                                  refine g_iconst hC dL_law_944 ?_
                                                  exact hf.elim
                                              · replace hf := hf.2
                                                by_cases c_278 : bAnd (sc (v3_1).toNat) 63 = 22
                                                · replace hf := hf.1 c_278
                                                  refine g_tabIn hC 22 946 (bAnd_in _ _) c_278 dL_law_33 (by decide) (by decide) rfl rfl ?_
                                                  refine g_aload_n hC 1 dL_law_946 rfl rfl ?_
                                                  refine g_aload_n hC 0 dL_law_947 rfl rfl ?_
                                                  refine g_iload_n hC 3 dL_law_948 rfl rfl ?_
                                                  refine g_iconst hC dL_law_949 ?_
                                                  refine g_iadd hC dL_law_950 ?_
                                                  obtain ⟨q_269, hf⟩ := hf
                                                  refine g_sld hC hsc0 hBs hX hbl hL q_269.1 q_269.2 dL_law_951 ?_
                                                  refine g_callVI hC (sk := []) [J (sc (v3_1 + 1).toNat)] (c_X11_loss l B D K (sc (v3_1 + 1).toNat) (hsc _) M_2 h_M_2 _ hf) yv_X11_loss wm_L_107 okX11.1 sc0 rfl ⟨Nat.le_of_ble_eq_true rfl, Nat.le_of_ble_eq_true rfl, Nat.le_of_ble_eq_true rfl, Nat.le_of_ble_eq_true rfl⟩ rfl (Nat.le_of_ble_eq_true rfl) dL_law_952 ?_
                                                  intro r_270 M_271 h_r_270 h_M_271 hf
                                                  refine g_aload_n hC 2 dL_law_955 rfl rfl ?_
                                                  refine g_aload_n hC 0 dL_law_956 rfl rfl ?_
                                                  refine g_iload_n hC 3 dL_law_957 rfl rfl ?_
                                                  refine g_iconst hC dL_law_958 ?_
                                                  refine g_iadd hC dL_law_959 ?_
                                                  obtain ⟨q_272, hf⟩ := hf
                                                  refine g_sld hC hsc0 hBs hX hbl hL q_272.1 q_272.2 dL_law_960 ?_
                                                  refine g_callVI hC (sk := [J r_270]) [J (sc (v3_1 + 1).toNat)] (c_X12_loss l B D K (sc (v3_1 + 1).toNat) (hsc _) M_271 h_M_271 _ hf) yv_X12_loss wm_L_110 okX12.1 sc95 rfl ⟨Nat.le_of_ble_eq_true rfl, Nat.le_of_ble_eq_true rfl, Nat.le_of_ble_eq_true rfl, Nat.le_of_ble_eq_true rfl⟩ rfl (Nat.le_of_ble_eq_true rfl) dL_law_961 ?_
                                                  intro r_273 M_274 h_r_273 h_M_274 hf
                                                  refine g_icmp_eq hC 1449 h_r_270 h_r_273 dL_law_964 rfl (fun c_277 => ?_) (fun c_277 => ?_)
                                                  · replace hf := hf.1 c_277
                                                    obtain ⟨q_276, hf⟩ := hf
                                                    obtain ⟨v3_275, e_v3_275⟩ : ∃ z : Int, z = v3_1 + 6 := ⟨_, rfl⟩
                                                    replace hf := hf v3_275 e_v3_275
                                                    have h_v3_275 : inR v3_275 := by rw [e_v3_275]; exact q_276
                                                    refine g_iincv hC 3 e_v3_275 [(3, J v3_275), (0, .ref b), (1, .ref (B + 0)), (2, .ref (B + 95))] dL_law_1449 rfl (by decide) rfl ?_
                                                    refine g_goto hC 18 dL_law_1452 rfl ?_
                                                    refine g_sub [(0, .ref b), (1, .ref (B + 0)), (2, .ref (B + 95)), (3, J v3_275)] [1, 2, 3, 0] rfl ?_
                                                    exact ih18 v3_275 M_274 hf h_v3_275 h_M_274
                                                  · replace hf := hf.2 c_277
                                                    refine g_iconst hC dL_law_967 ?_
                                                    exact hf.elim
                                                · replace hf := hf.2
                                                  by_cases c_288 : bAnd (sc (v3_1).toNat) 63 = 23
                                                  · replace hf := hf.1 c_288
                                                    refine g_tabIn hC 23 969 (bAnd_in _ _) c_288 dL_law_33 (by decide) (by decide) rfl rfl ?_
                                                    refine g_aload_n hC 1 dL_law_969 rfl rfl ?_
                                                    refine g_aload_n hC 0 dL_law_970 rfl rfl ?_
                                                    refine g_iload_n hC 3 dL_law_971 rfl rfl ?_
                                                    refine g_iconst hC dL_law_972 ?_
                                                    refine g_iadd hC dL_law_973 ?_
                                                    obtain ⟨q_279, hf⟩ := hf
                                                    refine g_sld hC hsc0 hBs hX hbl hL q_279.1 q_279.2 dL_law_974 ?_
                                                    refine g_callVI hC (sk := []) [J (sc (v3_1 + 1).toNat)] (c_X11_starves l B D K (sc (v3_1 + 1).toNat) (hsc _) M_2 h_M_2 _ hf) yv_X11_starves wm_L_111 okX11.1 sc0 rfl ⟨Nat.le_of_ble_eq_true rfl, Nat.le_of_ble_eq_true rfl, Nat.le_of_ble_eq_true rfl, Nat.le_of_ble_eq_true rfl⟩ rfl (Nat.le_of_ble_eq_true rfl) dL_law_975 ?_
                                                    intro r_280 M_281 h_r_280 h_M_281 hf
                                                    refine g_aload_n hC 2 dL_law_978 rfl rfl ?_
                                                    refine g_aload_n hC 0 dL_law_979 rfl rfl ?_
                                                    refine g_iload_n hC 3 dL_law_980 rfl rfl ?_
                                                    refine g_iconst hC dL_law_981 ?_
                                                    refine g_iadd hC dL_law_982 ?_
                                                    obtain ⟨q_282, hf⟩ := hf
                                                    refine g_sld hC hsc0 hBs hX hbl hL q_282.1 q_282.2 dL_law_983 ?_
                                                    refine g_callVI hC (sk := [J r_280]) [J (sc (v3_1 + 1).toNat)] (c_X12_starves l B D K (sc (v3_1 + 1).toNat) (hsc _) M_281 h_M_281 _ hf) yv_X12_starves wm_L_114 okX12.1 sc95 rfl ⟨Nat.le_of_ble_eq_true rfl, Nat.le_of_ble_eq_true rfl, Nat.le_of_ble_eq_true rfl, Nat.le_of_ble_eq_true rfl⟩ rfl (Nat.le_of_ble_eq_true rfl) dL_law_984 ?_
                                                    intro r_283 M_284 h_r_283 h_M_284 hf
                                                    refine g_icmp_eq hC 1449 h_r_280 h_r_283 dL_law_987 rfl (fun c_287 => ?_) (fun c_287 => ?_)
                                                    · replace hf := hf.1 c_287
                                                      obtain ⟨q_286, hf⟩ := hf
                                                      obtain ⟨v3_285, e_v3_285⟩ : ∃ z : Int, z = v3_1 + 6 := ⟨_, rfl⟩
                                                      replace hf := hf v3_285 e_v3_285
                                                      have h_v3_285 : inR v3_285 := by rw [e_v3_285]; exact q_286
                                                      refine g_iincv hC 3 e_v3_285 [(3, J v3_285), (0, .ref b), (1, .ref (B + 0)), (2, .ref (B + 95))] dL_law_1449 rfl (by decide) rfl ?_
                                                      refine g_goto hC 18 dL_law_1452 rfl ?_
                                                      refine g_sub [(0, .ref b), (1, .ref (B + 0)), (2, .ref (B + 95)), (3, J v3_285)] [1, 2, 3, 0] rfl ?_
                                                      exact ih18 v3_285 M_284 hf h_v3_285 h_M_284
                                                    · replace hf := hf.2 c_287
                                                      refine g_iconst hC dL_law_990 ?_
                                                      exact hf.elim
                                                  · replace hf := hf.2
                                                    by_cases c_298 : bAnd (sc (v3_1).toNat) 63 = 24
                                                    · replace hf := hf.1 c_298
                                                      refine g_tabIn hC 24 992 (bAnd_in _ _) c_298 dL_law_33 (by decide) (by decide) rfl rfl ?_
                                                      refine g_aload_n hC 1 dL_law_992 rfl rfl ?_
                                                      refine g_aload_n hC 0 dL_law_993 rfl rfl ?_
                                                      refine g_iload_n hC 3 dL_law_994 rfl rfl ?_
                                                      refine g_iconst hC dL_law_995 ?_
                                                      refine g_iadd hC dL_law_996 ?_
                                                      obtain ⟨q_289, hf⟩ := hf
                                                      refine g_sld hC hsc0 hBs hX hbl hL q_289.1 q_289.2 dL_law_997 ?_
                                                      refine g_callVI hC (sk := []) [J (sc (v3_1 + 1).toNat)] (c_X11_fewest l B D K (sc (v3_1 + 1).toNat) (hsc _) M_2 h_M_2 _ hf) yv_X11_fewest wm_L_115 okX11.1 sc0 rfl ⟨Nat.le_of_ble_eq_true rfl, Nat.le_of_ble_eq_true rfl, Nat.le_of_ble_eq_true rfl, Nat.le_of_ble_eq_true rfl⟩ rfl (Nat.le_of_ble_eq_true rfl) dL_law_998 ?_
                                                      intro r_290 M_291 h_r_290 h_M_291 hf
                                                      refine g_aload_n hC 2 dL_law_1001 rfl rfl ?_
                                                      refine g_aload_n hC 0 dL_law_1002 rfl rfl ?_
                                                      refine g_iload_n hC 3 dL_law_1003 rfl rfl ?_
                                                      refine g_iconst hC dL_law_1004 ?_
                                                      refine g_iadd hC dL_law_1005 ?_
                                                      obtain ⟨q_292, hf⟩ := hf
                                                      refine g_sld hC hsc0 hBs hX hbl hL q_292.1 q_292.2 dL_law_1006 ?_
                                                      refine g_callVI hC (sk := [J r_290]) [J (sc (v3_1 + 1).toNat)] (c_X12_fewest l B D K (sc (v3_1 + 1).toNat) (hsc _) M_291 h_M_291 _ hf) yv_X12_fewest wm_L_118 okX12.1 sc95 rfl ⟨Nat.le_of_ble_eq_true rfl, Nat.le_of_ble_eq_true rfl, Nat.le_of_ble_eq_true rfl, Nat.le_of_ble_eq_true rfl⟩ rfl (Nat.le_of_ble_eq_true rfl) dL_law_1007 ?_
                                                      intro r_293 M_294 h_r_293 h_M_294 hf
                                                      refine g_icmp_eq hC 1449 h_r_290 h_r_293 dL_law_1010 rfl (fun c_297 => ?_) (fun c_297 => ?_)
                                                      · replace hf := hf.1 c_297
                                                        obtain ⟨q_296, hf⟩ := hf
                                                        obtain ⟨v3_295, e_v3_295⟩ : ∃ z : Int, z = v3_1 + 6 := ⟨_, rfl⟩
                                                        replace hf := hf v3_295 e_v3_295
                                                        have h_v3_295 : inR v3_295 := by rw [e_v3_295]; exact q_296
                                                        refine g_iincv hC 3 e_v3_295 [(3, J v3_295), (0, .ref b), (1, .ref (B + 0)), (2, .ref (B + 95))] dL_law_1449 rfl (by decide) rfl ?_
                                                        refine g_goto hC 18 dL_law_1452 rfl ?_
                                                        refine g_sub [(0, .ref b), (1, .ref (B + 0)), (2, .ref (B + 95)), (3, J v3_295)] [1, 2, 3, 0] rfl ?_
                                                        exact ih18 v3_295 M_294 hf h_v3_295 h_M_294
                                                      · replace hf := hf.2 c_297
                                                        refine g_iconst hC dL_law_1013 ?_
                                                        exact hf.elim
                                                    · replace hf := hf.2
                                                      by_cases c_310 : bAnd (sc (v3_1).toNat) 63 = 25
                                                      · replace hf := hf.1 c_310
                                                        refine g_tabIn hC 25 1015 (bAnd_in _ _) c_310 dL_law_33 (by decide) (by decide) rfl rfl ?_
                                                        refine g_aload_n hC 1 dL_law_1015 rfl rfl ?_
                                                        refine g_aload_n hC 0 dL_law_1016 rfl rfl ?_
                                                        refine g_iload_n hC 3 dL_law_1017 rfl rfl ?_
                                                        refine g_iconst hC dL_law_1018 ?_
                                                        refine g_iadd hC dL_law_1019 ?_
                                                        obtain ⟨q_299, hf⟩ := hf
                                                        refine g_sld hC hsc0 hBs hX hbl hL q_299.1 q_299.2 dL_law_1020 ?_
                                                        refine g_aload_n hC 0 dL_law_1021 rfl rfl ?_
                                                        refine g_iload_n hC 3 dL_law_1022 rfl rfl ?_
                                                        refine g_iconst hC dL_law_1023 ?_
                                                        refine g_iadd hC dL_law_1024 ?_
                                                        obtain ⟨q_300, hf⟩ := hf
                                                        refine g_sld hC hsc0 hBs hX hbl hL q_300.1 q_300.2 dL_law_1025 ?_
                                                        refine g_callVI hC (sk := []) [J (sc (v3_1 + 1).toNat), J (sc (v3_1 + 2).toNat)] (c_X11_wave l B D K (sc (v3_1 + 1).toNat) (sc (v3_1 + 2).toNat) (hsc _) (hsc _) M_2 h_M_2 _ hf) yv_X11_wave wm_L_119 okX11.1 sc0 rfl ⟨Nat.le_of_ble_eq_true rfl, Nat.le_of_ble_eq_true rfl, Nat.le_of_ble_eq_true rfl, Nat.le_of_ble_eq_true rfl⟩ rfl (Nat.le_of_ble_eq_true rfl) dL_law_1026 ?_
                                                        intro r_301 M_302 h_r_301 h_M_302 hf
                                                        refine g_aload_n hC 2 dL_law_1029 rfl rfl ?_
                                                        refine g_aload_n hC 0 dL_law_1030 rfl rfl ?_
                                                        refine g_iload_n hC 3 dL_law_1031 rfl rfl ?_
                                                        refine g_iconst hC dL_law_1032 ?_
                                                        refine g_iadd hC dL_law_1033 ?_
                                                        obtain ⟨q_303, hf⟩ := hf
                                                        refine g_sld hC hsc0 hBs hX hbl hL q_303.1 q_303.2 dL_law_1034 ?_
                                                        refine g_aload_n hC 0 dL_law_1035 rfl rfl ?_
                                                        refine g_iload_n hC 3 dL_law_1036 rfl rfl ?_
                                                        refine g_iconst hC dL_law_1037 ?_
                                                        refine g_iadd hC dL_law_1038 ?_
                                                        obtain ⟨q_304, hf⟩ := hf
                                                        refine g_sld hC hsc0 hBs hX hbl hL q_304.1 q_304.2 dL_law_1039 ?_
                                                        refine g_callVI hC (sk := [J r_301]) [J (sc (v3_1 + 1).toNat), J (sc (v3_1 + 2).toNat)] (c_X12_wave l B D K (sc (v3_1 + 1).toNat) (sc (v3_1 + 2).toNat) (hsc _) (hsc _) M_302 h_M_302 _ hf) yv_X12_wave wm_L_122 okX12.1 sc95 rfl ⟨Nat.le_of_ble_eq_true rfl, Nat.le_of_ble_eq_true rfl, Nat.le_of_ble_eq_true rfl, Nat.le_of_ble_eq_true rfl⟩ rfl (Nat.le_of_ble_eq_true rfl) dL_law_1040 ?_
                                                        intro r_305 M_306 h_r_305 h_M_306 hf
                                                        refine g_icmp_eq hC 1449 h_r_301 h_r_305 dL_law_1043 rfl (fun c_309 => ?_) (fun c_309 => ?_)
                                                        · replace hf := hf.1 c_309
                                                          obtain ⟨q_308, hf⟩ := hf
                                                          obtain ⟨v3_307, e_v3_307⟩ : ∃ z : Int, z = v3_1 + 6 := ⟨_, rfl⟩
                                                          replace hf := hf v3_307 e_v3_307
                                                          have h_v3_307 : inR v3_307 := by rw [e_v3_307]; exact q_308
                                                          refine g_iincv hC 3 e_v3_307 [(3, J v3_307), (0, .ref b), (1, .ref (B + 0)), (2, .ref (B + 95))] dL_law_1449 rfl (by decide) rfl ?_
                                                          refine g_goto hC 18 dL_law_1452 rfl ?_
                                                          refine g_sub [(0, .ref b), (1, .ref (B + 0)), (2, .ref (B + 95)), (3, J v3_307)] [1, 2, 3, 0] rfl ?_
                                                          exact ih18 v3_307 M_306 hf h_v3_307 h_M_306
                                                        · replace hf := hf.2 c_309
                                                          refine g_iconst hC dL_law_1046 ?_
                                                          exact hf.elim
                                                      · replace hf := hf.2
                                                        by_cases c_320 : bAnd (sc (v3_1).toNat) 63 = 26
                                                        · replace hf := hf.1 c_320
                                                          refine g_tabIn hC 26 1048 (bAnd_in _ _) c_320 dL_law_33 (by decide) (by decide) rfl rfl ?_
                                                          refine g_aload_n hC 1 dL_law_1048 rfl rfl ?_
                                                          refine g_aload_n hC 0 dL_law_1049 rfl rfl ?_
                                                          refine g_iload_n hC 3 dL_law_1050 rfl rfl ?_
                                                          refine g_iconst hC dL_law_1051 ?_
                                                          refine g_iadd hC dL_law_1052 ?_
                                                          obtain ⟨q_311, hf⟩ := hf
                                                          refine g_sld hC hsc0 hBs hX hbl hL q_311.1 q_311.2 dL_law_1053 ?_
                                                          refine g_callVI hC (sk := []) [J (sc (v3_1 + 1).toNat)] (c_X11_changed l B D K (sc (v3_1 + 1).toNat) (hsc _) M_2 h_M_2 _ hf) yv_X11_changed wm_L_123 okX11.1 sc0 rfl ⟨Nat.le_of_ble_eq_true rfl, Nat.le_of_ble_eq_true rfl, Nat.le_of_ble_eq_true rfl, Nat.le_of_ble_eq_true rfl⟩ rfl (Nat.le_of_ble_eq_true rfl) dL_law_1054 ?_
                                                          rintro r_312 M_313 h_r_312 - ⟨rfl, hf⟩
                                                          refine g_aload_n hC 2 dL_law_1057 rfl rfl ?_
                                                          refine g_aload_n hC 0 dL_law_1058 rfl rfl ?_
                                                          refine g_iload_n hC 3 dL_law_1059 rfl rfl ?_
                                                          refine g_iconst hC dL_law_1060 ?_
                                                          refine g_iadd hC dL_law_1061 ?_
                                                          obtain ⟨q_314, hf⟩ := hf
                                                          refine g_sld hC hsc0 hBs hX hbl hL q_314.1 q_314.2 dL_law_1062 ?_
                                                          refine g_callVI hC (sk := [J r_312]) [J (sc (v3_1 + 1).toNat)] (c_X12_changed l B D K (sc (v3_1 + 1).toNat) (hsc _) M_2 h_M_2 _ hf) yv_X12_changed wm_L_126 okX12.1 sc95 rfl ⟨Nat.le_of_ble_eq_true rfl, Nat.le_of_ble_eq_true rfl, Nat.le_of_ble_eq_true rfl, Nat.le_of_ble_eq_true rfl⟩ rfl (Nat.le_of_ble_eq_true rfl) dL_law_1063 ?_
                                                          intro r_315 M_316 h_r_315 h_M_316 hf
                                                          refine g_icmp_eq hC 1449 h_r_312 h_r_315 dL_law_1066 rfl (fun c_319 => ?_) (fun c_319 => ?_)
                                                          · replace hf := hf.1 c_319
                                                            obtain ⟨q_318, hf⟩ := hf
                                                            obtain ⟨v3_317, e_v3_317⟩ : ∃ z : Int, z = v3_1 + 6 := ⟨_, rfl⟩
                                                            replace hf := hf v3_317 e_v3_317
                                                            have h_v3_317 : inR v3_317 := by rw [e_v3_317]; exact q_318
                                                            refine g_iincv hC 3 e_v3_317 [(3, J v3_317), (0, .ref b), (1, .ref (B + 0)), (2, .ref (B + 95))] dL_law_1449 rfl (by decide) rfl ?_
                                                            refine g_goto hC 18 dL_law_1452 rfl ?_
                                                            refine g_sub [(0, .ref b), (1, .ref (B + 0)), (2, .ref (B + 95)), (3, J v3_317)] [1, 2, 3, 0] rfl ?_
                                                            exact ih18 v3_317 M_316 hf h_v3_317 h_M_316
                                                          · replace hf := hf.2 c_319
                                                            refine g_iconst hC dL_law_1069 ?_
                                                            exact hf.elim
                                                        · replace hf := hf.2
                                                          by_cases c_328 : bAnd (sc (v3_1).toNat) 63 = 27
                                                          · replace hf := hf.1 c_328
                                                            refine g_tabIn hC 27 1071 (bAnd_in _ _) c_328 dL_law_33 (by decide) (by decide) rfl rfl ?_
                                                            refine g_aload_n hC 1 dL_law_1071 rfl rfl ?_
                                                            refine g_callVI hC (sk := []) [] (c_X11_see l B D K   M_2 h_M_2 _ hf) yv_X11_see wm_L_127 okX11.1 sc0 rfl ⟨Nat.le_of_ble_eq_true rfl, Nat.le_of_ble_eq_true rfl, Nat.le_of_ble_eq_true rfl, Nat.le_of_ble_eq_true rfl⟩ rfl (Nat.le_of_ble_eq_true rfl) dL_law_1072 ?_
                                                            intro r_321 M_322 h_r_321 h_M_322 hf
                                                            refine g_aload_n hC 2 dL_law_1075 rfl rfl ?_
                                                            refine g_callVI hC (sk := [J r_321]) [] (c_X12_see l B D K   M_322 h_M_322 _ hf) yv_X12_see wm_L_130 okX12.1 sc95 rfl ⟨Nat.le_of_ble_eq_true rfl, Nat.le_of_ble_eq_true rfl, Nat.le_of_ble_eq_true rfl, Nat.le_of_ble_eq_true rfl⟩ rfl (Nat.le_of_ble_eq_true rfl) dL_law_1076 ?_
                                                            intro r_323 M_324 h_r_323 h_M_324 hf
                                                            refine g_icmp_eq hC 1449 h_r_321 h_r_323 dL_law_1079 rfl (fun c_327 => ?_) (fun c_327 => ?_)
                                                            · replace hf := hf.1 c_327
                                                              obtain ⟨q_326, hf⟩ := hf
                                                              obtain ⟨v3_325, e_v3_325⟩ : ∃ z : Int, z = v3_1 + 6 := ⟨_, rfl⟩
                                                              replace hf := hf v3_325 e_v3_325
                                                              have h_v3_325 : inR v3_325 := by rw [e_v3_325]; exact q_326
                                                              refine g_iincv hC 3 e_v3_325 [(3, J v3_325), (0, .ref b), (1, .ref (B + 0)), (2, .ref (B + 95))] dL_law_1449 rfl (by decide) rfl ?_
                                                              refine g_goto hC 18 dL_law_1452 rfl ?_
                                                              refine g_sub [(0, .ref b), (1, .ref (B + 0)), (2, .ref (B + 95)), (3, J v3_325)] [1, 2, 3, 0] rfl ?_
                                                              exact ih18 v3_325 M_324 hf h_v3_325 h_M_324
                                                            · replace hf := hf.2 c_327
                                                              refine g_iconst hC dL_law_1082 ?_
                                                              exact hf.elim
                                                          · replace hf := hf.2
                                                            by_cases c_336 : bAnd (sc (v3_1).toNat) 63 = 28
                                                            · replace hf := hf.1 c_336
                                                              refine g_tabIn hC 28 1084 (bAnd_in _ _) c_336 dL_law_33 (by decide) (by decide) rfl rfl ?_
                                                              refine g_aload_n hC 1 dL_law_1084 rfl rfl ?_
                                                              refine g_callVI hC (sk := []) [] (c_X11_fits l B D K   M_2 h_M_2 _ hf) yv_X11_fits wm_L_131 okX11.1 sc0 rfl ⟨Nat.le_of_ble_eq_true rfl, Nat.le_of_ble_eq_true rfl, Nat.le_of_ble_eq_true rfl, Nat.le_of_ble_eq_true rfl⟩ rfl (Nat.le_of_ble_eq_true rfl) dL_law_1085 ?_
                                                              rintro r_329 M_330 h_r_329 - ⟨rfl, hf⟩
                                                              refine g_aload_n hC 2 dL_law_1088 rfl rfl ?_
                                                              refine g_callVI hC (sk := [J r_329]) [] (c_X12_fits l B D K   M_2 h_M_2 _ hf) yv_X12_fits wm_L_134 okX12.1 sc95 rfl ⟨Nat.le_of_ble_eq_true rfl, Nat.le_of_ble_eq_true rfl, Nat.le_of_ble_eq_true rfl, Nat.le_of_ble_eq_true rfl⟩ rfl (Nat.le_of_ble_eq_true rfl) dL_law_1089 ?_
                                                              intro r_331 M_332 h_r_331 h_M_332 hf
                                                              refine g_icmp_eq hC 1449 h_r_329 h_r_331 dL_law_1092 rfl (fun c_335 => ?_) (fun c_335 => ?_)
                                                              · replace hf := hf.1 c_335
                                                                obtain ⟨q_334, hf⟩ := hf
                                                                obtain ⟨v3_333, e_v3_333⟩ : ∃ z : Int, z = v3_1 + 6 := ⟨_, rfl⟩
                                                                replace hf := hf v3_333 e_v3_333
                                                                have h_v3_333 : inR v3_333 := by rw [e_v3_333]; exact q_334
                                                                refine g_iincv hC 3 e_v3_333 [(3, J v3_333), (0, .ref b), (1, .ref (B + 0)), (2, .ref (B + 95))] dL_law_1449 rfl (by decide) rfl ?_
                                                                refine g_goto hC 18 dL_law_1452 rfl ?_
                                                                refine g_sub [(0, .ref b), (1, .ref (B + 0)), (2, .ref (B + 95)), (3, J v3_333)] [1, 2, 3, 0] rfl ?_
                                                                exact ih18 v3_333 M_332 hf h_v3_333 h_M_332
                                                              · replace hf := hf.2 c_335
                                                                refine g_iconst hC dL_law_1095 ?_
                                                                exact hf.elim
                                                            · replace hf := hf.2
                                                              by_cases c_346 : bAnd (sc (v3_1).toNat) 63 = 29
                                                              · replace hf := hf.1 c_346
                                                                refine g_tabIn hC 29 1097 (bAnd_in _ _) c_346 dL_law_33 (by decide) (by decide) rfl rfl ?_
                                                                refine g_aload_n hC 1 dL_law_1097 rfl rfl ?_
                                                                refine g_aload_n hC 0 dL_law_1098 rfl rfl ?_
                                                                refine g_iload_n hC 3 dL_law_1099 rfl rfl ?_
                                                                refine g_iconst hC dL_law_1100 ?_
                                                                refine g_iadd hC dL_law_1101 ?_
                                                                obtain ⟨q_337, hf⟩ := hf
                                                                refine g_sld hC hsc0 hBs hX hbl hL q_337.1 q_337.2 dL_law_1102 ?_
                                                                refine g_callVI hC (sk := []) [J (sc (v3_1 + 1).toNat)] (c_X11_tells l B D K (sc (v3_1 + 1).toNat) (hsc _) M_2 h_M_2 _ hf) yv_X11_tells wm_L_135 okX11.1 sc0 rfl ⟨Nat.le_of_ble_eq_true rfl, Nat.le_of_ble_eq_true rfl, Nat.le_of_ble_eq_true rfl, Nat.le_of_ble_eq_true rfl⟩ rfl (Nat.le_of_ble_eq_true rfl) dL_law_1103 ?_
                                                                rintro r_338 M_339 h_r_338 - ⟨rfl, hf⟩
                                                                refine g_aload_n hC 2 dL_law_1106 rfl rfl ?_
                                                                refine g_aload_n hC 0 dL_law_1107 rfl rfl ?_
                                                                refine g_iload_n hC 3 dL_law_1108 rfl rfl ?_
                                                                refine g_iconst hC dL_law_1109 ?_
                                                                refine g_iadd hC dL_law_1110 ?_
                                                                obtain ⟨q_340, hf⟩ := hf
                                                                refine g_sld hC hsc0 hBs hX hbl hL q_340.1 q_340.2 dL_law_1111 ?_
                                                                refine g_callVI hC (sk := [J r_338]) [J (sc (v3_1 + 1).toNat)] (c_X12_tells l B D K (sc (v3_1 + 1).toNat) (hsc _) M_2 h_M_2 _ hf) yv_X12_tells wm_L_138 okX12.1 sc95 rfl ⟨Nat.le_of_ble_eq_true rfl, Nat.le_of_ble_eq_true rfl, Nat.le_of_ble_eq_true rfl, Nat.le_of_ble_eq_true rfl⟩ rfl (Nat.le_of_ble_eq_true rfl) dL_law_1112 ?_
                                                                intro r_341 M_342 h_r_341 h_M_342 hf
                                                                refine g_icmp_eq hC 1449 h_r_338 h_r_341 dL_law_1115 rfl (fun c_345 => ?_) (fun c_345 => ?_)
                                                                · replace hf := hf.1 c_345
                                                                  obtain ⟨q_344, hf⟩ := hf
                                                                  obtain ⟨v3_343, e_v3_343⟩ : ∃ z : Int, z = v3_1 + 6 := ⟨_, rfl⟩
                                                                  replace hf := hf v3_343 e_v3_343
                                                                  have h_v3_343 : inR v3_343 := by rw [e_v3_343]; exact q_344
                                                                  refine g_iincv hC 3 e_v3_343 [(3, J v3_343), (0, .ref b), (1, .ref (B + 0)), (2, .ref (B + 95))] dL_law_1449 rfl (by decide) rfl ?_
                                                                  refine g_goto hC 18 dL_law_1452 rfl ?_
                                                                  refine g_sub [(0, .ref b), (1, .ref (B + 0)), (2, .ref (B + 95)), (3, J v3_343)] [1, 2, 3, 0] rfl ?_
                                                                  exact ih18 v3_343 M_342 hf h_v3_343 h_M_342
                                                                · replace hf := hf.2 c_345
                                                                  refine g_iconst hC dL_law_1118 ?_
                                                                  exact hf.elim
                                                              · replace hf := hf.2
                                                                by_cases c_362 : bAnd (sc (v3_1).toNat) 63 = 30
                                                                · replace hf := hf.1 c_362
                                                                  refine g_tabIn hC 30 1120 (bAnd_in _ _) c_362 dL_law_33 (by decide) (by decide) rfl rfl ?_
                                                                  refine g_aload_n hC 1 dL_law_1120 rfl rfl ?_
                                                                  refine g_aload_n hC 0 dL_law_1121 rfl rfl ?_
                                                                  refine g_iload_n hC 3 dL_law_1122 rfl rfl ?_
                                                                  refine g_iconst hC dL_law_1123 ?_
                                                                  refine g_iadd hC dL_law_1124 ?_
                                                                  obtain ⟨q_347, hf⟩ := hf
                                                                  refine g_sld hC hsc0 hBs hX hbl hL q_347.1 q_347.2 dL_law_1125 ?_
                                                                  refine g_aload_n hC 0 dL_law_1126 rfl rfl ?_
                                                                  refine g_iload_n hC 3 dL_law_1127 rfl rfl ?_
                                                                  refine g_iconst hC dL_law_1128 ?_
                                                                  refine g_iadd hC dL_law_1129 ?_
                                                                  obtain ⟨q_348, hf⟩ := hf
                                                                  refine g_sld hC hsc0 hBs hX hbl hL q_348.1 q_348.2 dL_law_1130 ?_
                                                                  refine g_aload_n hC 0 dL_law_1131 rfl rfl ?_
                                                                  refine g_iload_n hC 3 dL_law_1132 rfl rfl ?_
                                                                  refine g_iconst hC dL_law_1133 ?_
                                                                  refine g_iadd hC dL_law_1134 ?_
                                                                  obtain ⟨q_349, hf⟩ := hf
                                                                  refine g_sld hC hsc0 hBs hX hbl hL q_349.1 q_349.2 dL_law_1135 ?_
                                                                  refine g_aload_n hC 0 dL_law_1136 rfl rfl ?_
                                                                  refine g_iload_n hC 3 dL_law_1137 rfl rfl ?_
                                                                  refine g_iconst hC dL_law_1138 ?_
                                                                  refine g_iadd hC dL_law_1139 ?_
                                                                  obtain ⟨q_350, hf⟩ := hf
                                                                  refine g_sld hC hsc0 hBs hX hbl hL q_350.1 q_350.2 dL_law_1140 ?_
                                                                  refine g_callVI hC (sk := []) [J (sc (v3_1 + 1).toNat), J (sc (v3_1 + 2).toNat), J (sc (v3_1 + 3).toNat), J (sc (v3_1 + 4).toNat)] (c_X11_add l B D K (sc (v3_1 + 1).toNat) (sc (v3_1 + 2).toNat) (sc (v3_1 + 3).toNat) (sc (v3_1 + 4).toNat) (hsc _) (hsc _) (hsc _) (hsc _) M_2 h_M_2 _ hf) yv_X11_add wm_L_139 okX11.1 sc0 rfl ⟨Nat.le_of_ble_eq_true rfl, Nat.le_of_ble_eq_true rfl, Nat.le_of_ble_eq_true rfl, Nat.le_of_ble_eq_true rfl⟩ rfl (Nat.le_of_ble_eq_true rfl) dL_law_1141 ?_
                                                                  intro r_351 M_352 h_r_351 h_M_352 hf
                                                                  refine g_aload_n hC 2 dL_law_1144 rfl rfl ?_
                                                                  refine g_aload_n hC 0 dL_law_1145 rfl rfl ?_
                                                                  refine g_iload_n hC 3 dL_law_1146 rfl rfl ?_
                                                                  refine g_iconst hC dL_law_1147 ?_
                                                                  refine g_iadd hC dL_law_1148 ?_
                                                                  obtain ⟨q_353, hf⟩ := hf
                                                                  refine g_sld hC hsc0 hBs hX hbl hL q_353.1 q_353.2 dL_law_1149 ?_
                                                                  refine g_aload_n hC 0 dL_law_1150 rfl rfl ?_
                                                                  refine g_iload_n hC 3 dL_law_1151 rfl rfl ?_
                                                                  refine g_iconst hC dL_law_1152 ?_
                                                                  refine g_iadd hC dL_law_1153 ?_
                                                                  obtain ⟨q_354, hf⟩ := hf
                                                                  refine g_sld hC hsc0 hBs hX hbl hL q_354.1 q_354.2 dL_law_1154 ?_
                                                                  refine g_aload_n hC 0 dL_law_1155 rfl rfl ?_
                                                                  refine g_iload_n hC 3 dL_law_1156 rfl rfl ?_
                                                                  refine g_iconst hC dL_law_1157 ?_
                                                                  refine g_iadd hC dL_law_1158 ?_
                                                                  obtain ⟨q_355, hf⟩ := hf
                                                                  refine g_sld hC hsc0 hBs hX hbl hL q_355.1 q_355.2 dL_law_1159 ?_
                                                                  refine g_aload_n hC 0 dL_law_1160 rfl rfl ?_
                                                                  refine g_iload_n hC 3 dL_law_1161 rfl rfl ?_
                                                                  refine g_iconst hC dL_law_1162 ?_
                                                                  refine g_iadd hC dL_law_1163 ?_
                                                                  obtain ⟨q_356, hf⟩ := hf
                                                                  refine g_sld hC hsc0 hBs hX hbl hL q_356.1 q_356.2 dL_law_1164 ?_
                                                                  refine g_callVI hC (sk := [J r_351]) [J (sc (v3_1 + 1).toNat), J (sc (v3_1 + 2).toNat), J (sc (v3_1 + 3).toNat), J (sc (v3_1 + 4).toNat)] (c_X12_add l B D K (sc (v3_1 + 1).toNat) (sc (v3_1 + 2).toNat) (sc (v3_1 + 3).toNat) (sc (v3_1 + 4).toNat) (hsc _) (hsc _) (hsc _) (hsc _) M_352 h_M_352 _ hf) yv_X12_add wm_L_143 okX12.1 sc95 rfl ⟨Nat.le_of_ble_eq_true rfl, Nat.le_of_ble_eq_true rfl, Nat.le_of_ble_eq_true rfl, Nat.le_of_ble_eq_true rfl⟩ rfl (Nat.le_of_ble_eq_true rfl) dL_law_1165 ?_
                                                                  intro r_357 M_358 h_r_357 h_M_358 hf
                                                                  refine g_icmp_eq hC 1449 h_r_351 h_r_357 dL_law_1168 rfl (fun c_361 => ?_) (fun c_361 => ?_)
                                                                  · replace hf := hf.1 c_361
                                                                    obtain ⟨q_360, hf⟩ := hf
                                                                    obtain ⟨v3_359, e_v3_359⟩ : ∃ z : Int, z = v3_1 + 6 := ⟨_, rfl⟩
                                                                    replace hf := hf v3_359 e_v3_359
                                                                    have h_v3_359 : inR v3_359 := by rw [e_v3_359]; exact q_360
                                                                    refine g_iincv hC 3 e_v3_359 [(3, J v3_359), (0, .ref b), (1, .ref (B + 0)), (2, .ref (B + 95))] dL_law_1449 rfl (by decide) rfl ?_
                                                                    refine g_goto hC 18 dL_law_1452 rfl ?_
                                                                    refine g_sub [(0, .ref b), (1, .ref (B + 0)), (2, .ref (B + 95)), (3, J v3_359)] [1, 2, 3, 0] rfl ?_
                                                                    exact ih18 v3_359 M_358 hf h_v3_359 h_M_358
                                                                  · replace hf := hf.2 c_361
                                                                    refine g_iconst hC dL_law_1171 ?_
                                                                    exact hf.elim
                                                                · replace hf := hf.2
                                                                  by_cases c_372 : bAnd (sc (v3_1).toNat) 63 = 31
                                                                  · replace hf := hf.1 c_372
                                                                    refine g_tabIn hC 31 1173 (bAnd_in _ _) c_372 dL_law_33 (by decide) (by decide) rfl rfl ?_
                                                                    refine g_aload_n hC 1 dL_law_1173 rfl rfl ?_
                                                                    refine g_aload_n hC 0 dL_law_1174 rfl rfl ?_
                                                                    refine g_iload_n hC 3 dL_law_1175 rfl rfl ?_
                                                                    refine g_iconst hC dL_law_1176 ?_
                                                                    refine g_iadd hC dL_law_1177 ?_
                                                                    obtain ⟨q_363, hf⟩ := hf
                                                                    refine g_sld hC hsc0 hBs hX hbl hL q_363.1 q_363.2 dL_law_1178 ?_
                                                                    refine g_callVZ hC (sk := []) [J (sc (v3_1 + 1).toNat)] (c_X11_drop l B D K (sc (v3_1 + 1).toNat) (hsc _) M_2 h_M_2 _ hf) yv_X11_drop wm_L_144 okX11.1 sc0 rfl ⟨Nat.le_of_ble_eq_true rfl, Nat.le_of_ble_eq_true rfl, Nat.le_of_ble_eq_true rfl, Nat.le_of_ble_eq_true rfl⟩ rfl (Nat.le_of_ble_eq_true rfl) dL_law_1179 ?_
                                                                    intro r_364 M_365 h_r_364 h_M_365 hf
                                                                    refine g_aload_n hC 2 dL_law_1182 rfl rfl ?_
                                                                    refine g_aload_n hC 0 dL_law_1183 rfl rfl ?_
                                                                    refine g_iload_n hC 3 dL_law_1184 rfl rfl ?_
                                                                    refine g_iconst hC dL_law_1185 ?_
                                                                    refine g_iadd hC dL_law_1186 ?_
                                                                    obtain ⟨q_366, hf⟩ := hf
                                                                    refine g_sld hC hsc0 hBs hX hbl hL q_366.1 q_366.2 dL_law_1187 ?_
                                                                    refine g_callVZ hC (sk := [J r_364]) [J (sc (v3_1 + 1).toNat)] (c_X12_drop l B D K (sc (v3_1 + 1).toNat) (hsc _) M_365 h_M_365 _ hf) yv_X12_drop wm_L_147 okX12.1 sc95 rfl ⟨Nat.le_of_ble_eq_true rfl, Nat.le_of_ble_eq_true rfl, Nat.le_of_ble_eq_true rfl, Nat.le_of_ble_eq_true rfl⟩ rfl (Nat.le_of_ble_eq_true rfl) dL_law_1188 ?_
                                                                    intro r_367 M_368 h_r_367 h_M_368 hf
                                                                    refine g_icmp_eq hC 1449 (zi_ h_r_364) (zi_ h_r_367) dL_law_1191 rfl (fun c_371 => ?_) (fun c_371 => ?_)
                                                                    · replace hf := hf.1 c_371
                                                                      obtain ⟨q_370, hf⟩ := hf
                                                                      obtain ⟨v3_369, e_v3_369⟩ : ∃ z : Int, z = v3_1 + 6 := ⟨_, rfl⟩
                                                                      replace hf := hf v3_369 e_v3_369
                                                                      have h_v3_369 : inR v3_369 := by rw [e_v3_369]; exact q_370
                                                                      refine g_iincv hC 3 e_v3_369 [(3, J v3_369), (0, .ref b), (1, .ref (B + 0)), (2, .ref (B + 95))] dL_law_1449 rfl (by decide) rfl ?_
                                                                      refine g_goto hC 18 dL_law_1452 rfl ?_
                                                                      refine g_sub [(0, .ref b), (1, .ref (B + 0)), (2, .ref (B + 95)), (3, J v3_369)] [1, 2, 3, 0] rfl ?_
                                                                      exact ih18 v3_369 M_368 hf h_v3_369 h_M_368
                                                                    · replace hf := hf.2 c_371
                                                                      refine g_iconst hC dL_law_1194 ?_
                                                                      exact hf.elim
                                                                  · replace hf := hf.2
                                                                    by_cases c_384 : bAnd (sc (v3_1).toNat) 63 = 32
                                                                    · replace hf := hf.1 c_384
                                                                      refine g_tabIn hC 32 1196 (bAnd_in _ _) c_384 dL_law_33 (by decide) (by decide) rfl rfl ?_
                                                                      refine g_aload_n hC 1 dL_law_1196 rfl rfl ?_
                                                                      refine g_aload_n hC 0 dL_law_1197 rfl rfl ?_
                                                                      refine g_iload_n hC 3 dL_law_1198 rfl rfl ?_
                                                                      refine g_iconst hC dL_law_1199 ?_
                                                                      refine g_iadd hC dL_law_1200 ?_
                                                                      obtain ⟨q_373, hf⟩ := hf
                                                                      refine g_sld hC hsc0 hBs hX hbl hL q_373.1 q_373.2 dL_law_1201 ?_
                                                                      refine g_aload_n hC 0 dL_law_1202 rfl rfl ?_
                                                                      refine g_iload_n hC 3 dL_law_1203 rfl rfl ?_
                                                                      refine g_iconst hC dL_law_1204 ?_
                                                                      refine g_iadd hC dL_law_1205 ?_
                                                                      obtain ⟨q_374, hf⟩ := hf
                                                                      refine g_sld hC hsc0 hBs hX hbl hL q_374.1 q_374.2 dL_law_1206 ?_
                                                                      refine g_callVI hC (sk := []) [J (sc (v3_1 + 1).toNat), J (sc (v3_1 + 2).toNat)] (c_X11_cut l B D K (sc (v3_1 + 1).toNat) (sc (v3_1 + 2).toNat) (hsc _) (hsc _) M_2 h_M_2 _ hf) yv_X11_cut wm_L_148 okX11.1 sc0 rfl ⟨Nat.le_of_ble_eq_true rfl, Nat.le_of_ble_eq_true rfl, Nat.le_of_ble_eq_true rfl, Nat.le_of_ble_eq_true rfl⟩ rfl (Nat.le_of_ble_eq_true rfl) dL_law_1207 ?_
                                                                      intro r_375 M_376 h_r_375 h_M_376 hf
                                                                      refine g_aload_n hC 2 dL_law_1210 rfl rfl ?_
                                                                      refine g_aload_n hC 0 dL_law_1211 rfl rfl ?_
                                                                      refine g_iload_n hC 3 dL_law_1212 rfl rfl ?_
                                                                      refine g_iconst hC dL_law_1213 ?_
                                                                      refine g_iadd hC dL_law_1214 ?_
                                                                      obtain ⟨q_377, hf⟩ := hf
                                                                      refine g_sld hC hsc0 hBs hX hbl hL q_377.1 q_377.2 dL_law_1215 ?_
                                                                      refine g_aload_n hC 0 dL_law_1216 rfl rfl ?_
                                                                      refine g_iload_n hC 3 dL_law_1217 rfl rfl ?_
                                                                      refine g_iconst hC dL_law_1218 ?_
                                                                      refine g_iadd hC dL_law_1219 ?_
                                                                      obtain ⟨q_378, hf⟩ := hf
                                                                      refine g_sld hC hsc0 hBs hX hbl hL q_378.1 q_378.2 dL_law_1220 ?_
                                                                      refine g_callVI hC (sk := [J r_375]) [J (sc (v3_1 + 1).toNat), J (sc (v3_1 + 2).toNat)] (c_X12_cut l B D K (sc (v3_1 + 1).toNat) (sc (v3_1 + 2).toNat) (hsc _) (hsc _) M_376 h_M_376 _ hf) yv_X12_cut wm_L_151 okX12.1 sc95 rfl ⟨Nat.le_of_ble_eq_true rfl, Nat.le_of_ble_eq_true rfl, Nat.le_of_ble_eq_true rfl, Nat.le_of_ble_eq_true rfl⟩ rfl (Nat.le_of_ble_eq_true rfl) dL_law_1221 ?_
                                                                      intro r_379 M_380 h_r_379 h_M_380 hf
                                                                      refine g_icmp_eq hC 1449 h_r_375 h_r_379 dL_law_1224 rfl (fun c_383 => ?_) (fun c_383 => ?_)
                                                                      · replace hf := hf.1 c_383
                                                                        obtain ⟨q_382, hf⟩ := hf
                                                                        obtain ⟨v3_381, e_v3_381⟩ : ∃ z : Int, z = v3_1 + 6 := ⟨_, rfl⟩
                                                                        replace hf := hf v3_381 e_v3_381
                                                                        have h_v3_381 : inR v3_381 := by rw [e_v3_381]; exact q_382
                                                                        refine g_iincv hC 3 e_v3_381 [(3, J v3_381), (0, .ref b), (1, .ref (B + 0)), (2, .ref (B + 95))] dL_law_1449 rfl (by decide) rfl ?_
                                                                        refine g_goto hC 18 dL_law_1452 rfl ?_
                                                                        refine g_sub [(0, .ref b), (1, .ref (B + 0)), (2, .ref (B + 95)), (3, J v3_381)] [1, 2, 3, 0] rfl ?_
                                                                        exact ih18 v3_381 M_380 hf h_v3_381 h_M_380
                                                                      · replace hf := hf.2 c_383
                                                                        refine g_iconst hC dL_law_1227 ?_
                                                                        exact hf.elim
                                                                    · replace hf := hf.2
                                                                      by_cases c_394 : bAnd (sc (v3_1).toNat) 63 = 33
                                                                      · replace hf := hf.1 c_394
                                                                        refine g_tabIn hC 33 1229 (bAnd_in _ _) c_394 dL_law_33 (by decide) (by decide) rfl rfl ?_
                                                                        refine g_aload_n hC 1 dL_law_1229 rfl rfl ?_
                                                                        refine g_aload_n hC 0 dL_law_1230 rfl rfl ?_
                                                                        refine g_iload_n hC 3 dL_law_1231 rfl rfl ?_
                                                                        refine g_iconst hC dL_law_1232 ?_
                                                                        refine g_iadd hC dL_law_1233 ?_
                                                                        obtain ⟨q_385, hf⟩ := hf
                                                                        refine g_sld hC hsc0 hBs hX hbl hL q_385.1 q_385.2 dL_law_1234 ?_
                                                                        refine g_callVZ hC (sk := []) [J (sc (v3_1 + 1).toNat)] (c_X11_turn l B D K (sc (v3_1 + 1).toNat) (hsc _) M_2 h_M_2 _ hf) yv_X11_turn wm_L_152 okX11.1 sc0 rfl ⟨Nat.le_of_ble_eq_true rfl, Nat.le_of_ble_eq_true rfl, Nat.le_of_ble_eq_true rfl, Nat.le_of_ble_eq_true rfl⟩ rfl (Nat.le_of_ble_eq_true rfl) dL_law_1235 ?_
                                                                        intro r_386 M_387 h_r_386 h_M_387 hf
                                                                        refine g_aload_n hC 2 dL_law_1238 rfl rfl ?_
                                                                        refine g_aload_n hC 0 dL_law_1239 rfl rfl ?_
                                                                        refine g_iload_n hC 3 dL_law_1240 rfl rfl ?_
                                                                        refine g_iconst hC dL_law_1241 ?_
                                                                        refine g_iadd hC dL_law_1242 ?_
                                                                        obtain ⟨q_388, hf⟩ := hf
                                                                        refine g_sld hC hsc0 hBs hX hbl hL q_388.1 q_388.2 dL_law_1243 ?_
                                                                        refine g_callVZ hC (sk := [J r_386]) [J (sc (v3_1 + 1).toNat)] (c_X12_turn l B D K (sc (v3_1 + 1).toNat) (hsc _) M_387 h_M_387 _ hf) yv_X12_turn wm_L_155 okX12.1 sc95 rfl ⟨Nat.le_of_ble_eq_true rfl, Nat.le_of_ble_eq_true rfl, Nat.le_of_ble_eq_true rfl, Nat.le_of_ble_eq_true rfl⟩ rfl (Nat.le_of_ble_eq_true rfl) dL_law_1244 ?_
                                                                        intro r_389 M_390 h_r_389 h_M_390 hf
                                                                        refine g_icmp_eq hC 1449 (zi_ h_r_386) (zi_ h_r_389) dL_law_1247 rfl (fun c_393 => ?_) (fun c_393 => ?_)
                                                                        · replace hf := hf.1 c_393
                                                                          obtain ⟨q_392, hf⟩ := hf
                                                                          obtain ⟨v3_391, e_v3_391⟩ : ∃ z : Int, z = v3_1 + 6 := ⟨_, rfl⟩
                                                                          replace hf := hf v3_391 e_v3_391
                                                                          have h_v3_391 : inR v3_391 := by rw [e_v3_391]; exact q_392
                                                                          refine g_iincv hC 3 e_v3_391 [(3, J v3_391), (0, .ref b), (1, .ref (B + 0)), (2, .ref (B + 95))] dL_law_1449 rfl (by decide) rfl ?_
                                                                          refine g_goto hC 18 dL_law_1452 rfl ?_
                                                                          refine g_sub [(0, .ref b), (1, .ref (B + 0)), (2, .ref (B + 95)), (3, J v3_391)] [1, 2, 3, 0] rfl ?_
                                                                          exact ih18 v3_391 M_390 hf h_v3_391 h_M_390
                                                                        · replace hf := hf.2 c_393
                                                                          refine g_iconst hC dL_law_1250 ?_
                                                                          exact hf.elim
                                                                      · replace hf := hf.2
                                                                        by_cases c_406 : bAnd (sc (v3_1).toNat) 63 = 34
                                                                        · replace hf := hf.1 c_406
                                                                          refine g_tabIn hC 34 1252 (bAnd_in _ _) c_406 dL_law_33 (by decide) (by decide) rfl rfl ?_
                                                                          refine g_aload_n hC 1 dL_law_1252 rfl rfl ?_
                                                                          refine g_aload_n hC 0 dL_law_1253 rfl rfl ?_
                                                                          refine g_iload_n hC 3 dL_law_1254 rfl rfl ?_
                                                                          refine g_iconst hC dL_law_1255 ?_
                                                                          refine g_iadd hC dL_law_1256 ?_
                                                                          obtain ⟨q_395, hf⟩ := hf
                                                                          refine g_sld hC hsc0 hBs hX hbl hL q_395.1 q_395.2 dL_law_1257 ?_
                                                                          refine g_aload_n hC 0 dL_law_1258 rfl rfl ?_
                                                                          refine g_iload_n hC 3 dL_law_1259 rfl rfl ?_
                                                                          refine g_iconst hC dL_law_1260 ?_
                                                                          refine g_iadd hC dL_law_1261 ?_
                                                                          obtain ⟨q_396, hf⟩ := hf
                                                                          refine g_sld hC hsc0 hBs hX hbl hL q_396.1 q_396.2 dL_law_1262 ?_
                                                                          refine g_callVZ hC (sk := []) [J (sc (v3_1 + 1).toNat), J (sc (v3_1 + 2).toNat)] (c_X11_gives l B D K (sc (v3_1 + 1).toNat) (sc (v3_1 + 2).toNat) (hsc _) (hsc _) M_2 h_M_2 _ hf) yv_X11_gives wm_L_156 okX11.1 sc0 rfl ⟨Nat.le_of_ble_eq_true rfl, Nat.le_of_ble_eq_true rfl, Nat.le_of_ble_eq_true rfl, Nat.le_of_ble_eq_true rfl⟩ rfl (Nat.le_of_ble_eq_true rfl) dL_law_1263 ?_
                                                                          intro r_397 M_398 h_r_397 h_M_398 hf
                                                                          refine g_aload_n hC 2 dL_law_1266 rfl rfl ?_
                                                                          refine g_aload_n hC 0 dL_law_1267 rfl rfl ?_
                                                                          refine g_iload_n hC 3 dL_law_1268 rfl rfl ?_
                                                                          refine g_iconst hC dL_law_1269 ?_
                                                                          refine g_iadd hC dL_law_1270 ?_
                                                                          obtain ⟨q_399, hf⟩ := hf
                                                                          refine g_sld hC hsc0 hBs hX hbl hL q_399.1 q_399.2 dL_law_1271 ?_
                                                                          refine g_aload_n hC 0 dL_law_1272 rfl rfl ?_
                                                                          refine g_iload_n hC 3 dL_law_1273 rfl rfl ?_
                                                                          refine g_iconst hC dL_law_1274 ?_
                                                                          refine g_iadd hC dL_law_1275 ?_
                                                                          obtain ⟨q_400, hf⟩ := hf
                                                                          refine g_sld hC hsc0 hBs hX hbl hL q_400.1 q_400.2 dL_law_1276 ?_
                                                                          refine g_callVZ hC (sk := [J r_397]) [J (sc (v3_1 + 1).toNat), J (sc (v3_1 + 2).toNat)] (c_X12_gives l B D K (sc (v3_1 + 1).toNat) (sc (v3_1 + 2).toNat) (hsc _) (hsc _) M_398 h_M_398 _ hf) yv_X12_gives wm_L_160 okX12.1 sc95 rfl ⟨Nat.le_of_ble_eq_true rfl, Nat.le_of_ble_eq_true rfl, Nat.le_of_ble_eq_true rfl, Nat.le_of_ble_eq_true rfl⟩ rfl (Nat.le_of_ble_eq_true rfl) dL_law_1277 ?_
                                                                          intro r_401 M_402 h_r_401 h_M_402 hf
                                                                          refine g_icmp_eq hC 1449 (zi_ h_r_397) (zi_ h_r_401) dL_law_1280 rfl (fun c_405 => ?_) (fun c_405 => ?_)
                                                                          · replace hf := hf.1 c_405
                                                                            obtain ⟨q_404, hf⟩ := hf
                                                                            obtain ⟨v3_403, e_v3_403⟩ : ∃ z : Int, z = v3_1 + 6 := ⟨_, rfl⟩
                                                                            replace hf := hf v3_403 e_v3_403
                                                                            have h_v3_403 : inR v3_403 := by rw [e_v3_403]; exact q_404
                                                                            refine g_iincv hC 3 e_v3_403 [(3, J v3_403), (0, .ref b), (1, .ref (B + 0)), (2, .ref (B + 95))] dL_law_1449 rfl (by decide) rfl ?_
                                                                            refine g_goto hC 18 dL_law_1452 rfl ?_
                                                                            refine g_sub [(0, .ref b), (1, .ref (B + 0)), (2, .ref (B + 95)), (3, J v3_403)] [1, 2, 3, 0] rfl ?_
                                                                            exact ih18 v3_403 M_402 hf h_v3_403 h_M_402
                                                                          · replace hf := hf.2 c_405
                                                                            refine g_iconst hC dL_law_1283 ?_
                                                                            exact hf.elim
                                                                        · replace hf := hf.2
                                                                          by_cases c_418 : bAnd (sc (v3_1).toNat) 63 = 35
                                                                          · replace hf := hf.1 c_418
                                                                            refine g_tabIn hC 35 1285 (bAnd_in _ _) c_418 dL_law_33 (by decide) (by decide) rfl rfl ?_
                                                                            refine g_aload_n hC 1 dL_law_1285 rfl rfl ?_
                                                                            refine g_aload_n hC 0 dL_law_1286 rfl rfl ?_
                                                                            refine g_iload_n hC 3 dL_law_1287 rfl rfl ?_
                                                                            refine g_iconst hC dL_law_1288 ?_
                                                                            refine g_iadd hC dL_law_1289 ?_
                                                                            obtain ⟨q_407, hf⟩ := hf
                                                                            refine g_sld hC hsc0 hBs hX hbl hL q_407.1 q_407.2 dL_law_1290 ?_
                                                                            refine g_aload_n hC 0 dL_law_1291 rfl rfl ?_
                                                                            refine g_iload_n hC 3 dL_law_1292 rfl rfl ?_
                                                                            refine g_iconst hC dL_law_1293 ?_
                                                                            refine g_iadd hC dL_law_1294 ?_
                                                                            obtain ⟨q_408, hf⟩ := hf
                                                                            refine g_sld hC hsc0 hBs hX hbl hL q_408.1 q_408.2 dL_law_1295 ?_
                                                                            refine g_callVZ hC (sk := []) [J (sc (v3_1 + 1).toNat), J (sc (v3_1 + 2).toNat)] (c_X11_call l B D K (sc (v3_1 + 1).toNat) (sc (v3_1 + 2).toNat) (hsc _) (hsc _) M_2 h_M_2 _ hf) yv_X11_call wm_L_161 okX11.1 sc0 rfl ⟨Nat.le_of_ble_eq_true rfl, Nat.le_of_ble_eq_true rfl, Nat.le_of_ble_eq_true rfl, Nat.le_of_ble_eq_true rfl⟩ rfl (Nat.le_of_ble_eq_true rfl) dL_law_1296 ?_
                                                                            intro r_409 M_410 h_r_409 h_M_410 hf
                                                                            refine g_aload_n hC 2 dL_law_1299 rfl rfl ?_
                                                                            refine g_aload_n hC 0 dL_law_1300 rfl rfl ?_
                                                                            refine g_iload_n hC 3 dL_law_1301 rfl rfl ?_
                                                                            refine g_iconst hC dL_law_1302 ?_
                                                                            refine g_iadd hC dL_law_1303 ?_
                                                                            obtain ⟨q_411, hf⟩ := hf
                                                                            refine g_sld hC hsc0 hBs hX hbl hL q_411.1 q_411.2 dL_law_1304 ?_
                                                                            refine g_aload_n hC 0 dL_law_1305 rfl rfl ?_
                                                                            refine g_iload_n hC 3 dL_law_1306 rfl rfl ?_
                                                                            refine g_iconst hC dL_law_1307 ?_
                                                                            refine g_iadd hC dL_law_1308 ?_
                                                                            obtain ⟨q_412, hf⟩ := hf
                                                                            refine g_sld hC hsc0 hBs hX hbl hL q_412.1 q_412.2 dL_law_1309 ?_
                                                                            refine g_callVZ hC (sk := [J r_409]) [J (sc (v3_1 + 1).toNat), J (sc (v3_1 + 2).toNat)] (c_X12_call l B D K (sc (v3_1 + 1).toNat) (sc (v3_1 + 2).toNat) (hsc _) (hsc _) M_410 h_M_410 _ hf) yv_X12_call wm_L_164 okX12.1 sc95 rfl ⟨Nat.le_of_ble_eq_true rfl, Nat.le_of_ble_eq_true rfl, Nat.le_of_ble_eq_true rfl, Nat.le_of_ble_eq_true rfl⟩ rfl (Nat.le_of_ble_eq_true rfl) dL_law_1310 ?_
                                                                            intro r_413 M_414 h_r_413 h_M_414 hf
                                                                            refine g_icmp_eq hC 1449 (zi_ h_r_409) (zi_ h_r_413) dL_law_1313 rfl (fun c_417 => ?_) (fun c_417 => ?_)
                                                                            · replace hf := hf.1 c_417
                                                                              obtain ⟨q_416, hf⟩ := hf
                                                                              obtain ⟨v3_415, e_v3_415⟩ : ∃ z : Int, z = v3_1 + 6 := ⟨_, rfl⟩
                                                                              replace hf := hf v3_415 e_v3_415
                                                                              have h_v3_415 : inR v3_415 := by rw [e_v3_415]; exact q_416
                                                                              refine g_iincv hC 3 e_v3_415 [(3, J v3_415), (0, .ref b), (1, .ref (B + 0)), (2, .ref (B + 95))] dL_law_1449 rfl (by decide) rfl ?_
                                                                              refine g_goto hC 18 dL_law_1452 rfl ?_
                                                                              refine g_sub [(0, .ref b), (1, .ref (B + 0)), (2, .ref (B + 95)), (3, J v3_415)] [1, 2, 3, 0] rfl ?_
                                                                              exact ih18 v3_415 M_414 hf h_v3_415 h_M_414
                                                                            · replace hf := hf.2 c_417
                                                                              refine g_iconst hC dL_law_1316 ?_
                                                                              exact hf.elim
                                                                          · replace hf := hf.2
                                                                            by_cases c_428 : bAnd (sc (v3_1).toNat) 63 = 36
                                                                            · replace hf := hf.1 c_428
                                                                              refine g_tabIn hC 36 1318 (bAnd_in _ _) c_428 dL_law_33 (by decide) (by decide) rfl rfl ?_
                                                                              refine g_aload_n hC 1 dL_law_1318 rfl rfl ?_
                                                                              refine g_aload_n hC 0 dL_law_1319 rfl rfl ?_
                                                                              refine g_iload_n hC 3 dL_law_1320 rfl rfl ?_
                                                                              refine g_iconst hC dL_law_1321 ?_
                                                                              refine g_iadd hC dL_law_1322 ?_
                                                                              obtain ⟨q_419, hf⟩ := hf
                                                                              refine g_sld hC hsc0 hBs hX hbl hL q_419.1 q_419.2 dL_law_1323 ?_
                                                                              refine g_callVI hC (sk := []) [J (sc (v3_1 + 1).toNat)] (c_X11_chance l B D K (sc (v3_1 + 1).toNat) (hsc _) M_2 h_M_2 _ hf) yv_X11_chance wm_L_165 okX11.1 sc0 rfl ⟨Nat.le_of_ble_eq_true rfl, Nat.le_of_ble_eq_true rfl, Nat.le_of_ble_eq_true rfl, Nat.le_of_ble_eq_true rfl⟩ rfl (Nat.le_of_ble_eq_true rfl) dL_law_1324 ?_
                                                                              intro r_420 M_421 h_r_420 h_M_421 hf
                                                                              refine g_aload_n hC 2 dL_law_1327 rfl rfl ?_
                                                                              refine g_aload_n hC 0 dL_law_1328 rfl rfl ?_
                                                                              refine g_iload_n hC 3 dL_law_1329 rfl rfl ?_
                                                                              refine g_iconst hC dL_law_1330 ?_
                                                                              refine g_iadd hC dL_law_1331 ?_
                                                                              obtain ⟨q_422, hf⟩ := hf
                                                                              refine g_sld hC hsc0 hBs hX hbl hL q_422.1 q_422.2 dL_law_1332 ?_
                                                                              refine g_callVI hC (sk := [J r_420]) [J (sc (v3_1 + 1).toNat)] (c_X12_chance l B D K (sc (v3_1 + 1).toNat) (hsc _) M_421 h_M_421 _ hf) yv_X12_chance wm_L_168 okX12.1 sc95 rfl ⟨Nat.le_of_ble_eq_true rfl, Nat.le_of_ble_eq_true rfl, Nat.le_of_ble_eq_true rfl, Nat.le_of_ble_eq_true rfl⟩ rfl (Nat.le_of_ble_eq_true rfl) dL_law_1333 ?_
                                                                              intro r_423 M_424 h_r_423 h_M_424 hf
                                                                              refine g_icmp_eq hC 1449 h_r_420 h_r_423 dL_law_1336 rfl (fun c_427 => ?_) (fun c_427 => ?_)
                                                                              · replace hf := hf.1 c_427
                                                                                obtain ⟨q_426, hf⟩ := hf
                                                                                obtain ⟨v3_425, e_v3_425⟩ : ∃ z : Int, z = v3_1 + 6 := ⟨_, rfl⟩
                                                                                replace hf := hf v3_425 e_v3_425
                                                                                have h_v3_425 : inR v3_425 := by rw [e_v3_425]; exact q_426
                                                                                refine g_iincv hC 3 e_v3_425 [(3, J v3_425), (0, .ref b), (1, .ref (B + 0)), (2, .ref (B + 95))] dL_law_1449 rfl (by decide) rfl ?_
                                                                                refine g_goto hC 18 dL_law_1452 rfl ?_
                                                                                refine g_sub [(0, .ref b), (1, .ref (B + 0)), (2, .ref (B + 95)), (3, J v3_425)] [1, 2, 3, 0] rfl ?_
                                                                                exact ih18 v3_425 M_424 hf h_v3_425 h_M_424
                                                                              · replace hf := hf.2 c_427
                                                                                refine g_iconst hC dL_law_1339 ?_
                                                                                exact hf.elim
                                                                            · replace hf := hf.2
                                                                              by_cases c_436 : bAnd (sc (v3_1).toNat) 63 = 37
                                                                              · replace hf := hf.1 c_436
                                                                                refine g_tabIn hC 37 1341 (bAnd_in _ _) c_436 dL_law_33 (by decide) (by decide) rfl rfl ?_
                                                                                refine g_aload_n hC 1 dL_law_1341 rfl rfl ?_
                                                                                refine g_callVZ hC (sk := []) [] (c_X11_undo l B D K   M_2 h_M_2 _ hf) yv_X11_undo wm_L_169 okX11.1 sc0 rfl ⟨Nat.le_of_ble_eq_true rfl, Nat.le_of_ble_eq_true rfl, Nat.le_of_ble_eq_true rfl, Nat.le_of_ble_eq_true rfl⟩ rfl (Nat.le_of_ble_eq_true rfl) dL_law_1342 ?_
                                                                                intro r_429 M_430 h_r_429 h_M_430 hf
                                                                                refine g_aload_n hC 2 dL_law_1345 rfl rfl ?_
                                                                                refine g_callVZ hC (sk := [J r_429]) [] (c_X12_undo l B D K   M_430 h_M_430 _ hf) yv_X12_undo wm_L_173 okX12.1 sc95 rfl ⟨Nat.le_of_ble_eq_true rfl, Nat.le_of_ble_eq_true rfl, Nat.le_of_ble_eq_true rfl, Nat.le_of_ble_eq_true rfl⟩ rfl (Nat.le_of_ble_eq_true rfl) dL_law_1346 ?_
                                                                                intro r_431 M_432 h_r_431 h_M_432 hf
                                                                                refine g_icmp_eq hC 1449 (zi_ h_r_429) (zi_ h_r_431) dL_law_1349 rfl (fun c_435 => ?_) (fun c_435 => ?_)
                                                                                · replace hf := hf.1 c_435
                                                                                  obtain ⟨q_434, hf⟩ := hf
                                                                                  obtain ⟨v3_433, e_v3_433⟩ : ∃ z : Int, z = v3_1 + 6 := ⟨_, rfl⟩
                                                                                  replace hf := hf v3_433 e_v3_433
                                                                                  have h_v3_433 : inR v3_433 := by rw [e_v3_433]; exact q_434
                                                                                  refine g_iincv hC 3 e_v3_433 [(3, J v3_433), (0, .ref b), (1, .ref (B + 0)), (2, .ref (B + 95))] dL_law_1449 rfl (by decide) rfl ?_
                                                                                  refine g_goto hC 18 dL_law_1452 rfl ?_
                                                                                  refine g_sub [(0, .ref b), (1, .ref (B + 0)), (2, .ref (B + 95)), (3, J v3_433)] [1, 2, 3, 0] rfl ?_
                                                                                  exact ih18 v3_433 M_432 hf h_v3_433 h_M_432
                                                                                · replace hf := hf.2 c_435
                                                                                  refine g_iconst hC dL_law_1352 ?_
                                                                                  exact hf.elim
                                                                              · replace hf := hf.2
                                                                                by_cases c_446 : bAnd (sc (v3_1).toNat) 63 = 38
                                                                                · replace hf := hf.1 c_446
                                                                                  refine g_tabIn hC 38 1354 (bAnd_in _ _) c_446 dL_law_33 (by decide) (by decide) rfl rfl ?_
                                                                                  refine g_aload_n hC 1 dL_law_1354 rfl rfl ?_
                                                                                  refine g_aload_n hC 0 dL_law_1355 rfl rfl ?_
                                                                                  refine g_iload_n hC 3 dL_law_1356 rfl rfl ?_
                                                                                  refine g_iconst hC dL_law_1357 ?_
                                                                                  refine g_iadd hC dL_law_1358 ?_
                                                                                  obtain ⟨q_437, hf⟩ := hf
                                                                                  refine g_sld hC hsc0 hBs hX hbl hL q_437.1 q_437.2 dL_law_1359 ?_
                                                                                  refine g_callVZ hC (sk := []) [J (sc (v3_1 + 1).toNat)] (c_X11_seed l B D K (sc (v3_1 + 1).toNat) (hsc _) M_2 h_M_2 _ hf) yv_X11_seed wm_L_174 okX11.1 sc0 rfl ⟨Nat.le_of_ble_eq_true rfl, Nat.le_of_ble_eq_true rfl, Nat.le_of_ble_eq_true rfl, Nat.le_of_ble_eq_true rfl⟩ rfl (Nat.le_of_ble_eq_true rfl) dL_law_1360 ?_
                                                                                  intro r_438 M_439 h_r_438 h_M_439 hf
                                                                                  refine g_aload_n hC 2 dL_law_1363 rfl rfl ?_
                                                                                  refine g_aload_n hC 0 dL_law_1364 rfl rfl ?_
                                                                                  refine g_iload_n hC 3 dL_law_1365 rfl rfl ?_
                                                                                  refine g_iconst hC dL_law_1366 ?_
                                                                                  refine g_iadd hC dL_law_1367 ?_
                                                                                  obtain ⟨q_440, hf⟩ := hf
                                                                                  refine g_sld hC hsc0 hBs hX hbl hL q_440.1 q_440.2 dL_law_1368 ?_
                                                                                  refine g_callVZ hC (sk := [J r_438]) [J (sc (v3_1 + 1).toNat)] (c_X12_seed l B D K (sc (v3_1 + 1).toNat) (hsc _) M_439 h_M_439 _ hf) yv_X12_seed wm_L_177 okX12.1 sc95 rfl ⟨Nat.le_of_ble_eq_true rfl, Nat.le_of_ble_eq_true rfl, Nat.le_of_ble_eq_true rfl, Nat.le_of_ble_eq_true rfl⟩ rfl (Nat.le_of_ble_eq_true rfl) dL_law_1369 ?_
                                                                                  intro r_441 M_442 h_r_441 h_M_442 hf
                                                                                  refine g_icmp_eq hC 1449 (zi_ h_r_438) (zi_ h_r_441) dL_law_1372 rfl (fun c_445 => ?_) (fun c_445 => ?_)
                                                                                  · replace hf := hf.1 c_445
                                                                                    obtain ⟨q_444, hf⟩ := hf
                                                                                    obtain ⟨v3_443, e_v3_443⟩ : ∃ z : Int, z = v3_1 + 6 := ⟨_, rfl⟩
                                                                                    replace hf := hf v3_443 e_v3_443
                                                                                    have h_v3_443 : inR v3_443 := by rw [e_v3_443]; exact q_444
                                                                                    refine g_iincv hC 3 e_v3_443 [(3, J v3_443), (0, .ref b), (1, .ref (B + 0)), (2, .ref (B + 95))] dL_law_1449 rfl (by decide) rfl ?_
                                                                                    refine g_goto hC 18 dL_law_1452 rfl ?_
                                                                                    refine g_sub [(0, .ref b), (1, .ref (B + 0)), (2, .ref (B + 95)), (3, J v3_443)] [1, 2, 3, 0] rfl ?_
                                                                                    exact ih18 v3_443 M_442 hf h_v3_443 h_M_442
                                                                                  · replace hf := hf.2 c_445
                                                                                    refine g_iconst hC dL_law_1375 ?_
                                                                                    exact hf.elim
                                                                                · replace hf := hf.2
                                                                                  by_cases c_454 : bAnd (sc (v3_1).toNat) 63 = 39
                                                                                  · replace hf := hf.1 c_454
                                                                                    refine g_tabIn hC 39 1377 (bAnd_in _ _) c_454 dL_law_33 (by decide) (by decide) rfl rfl ?_
                                                                                    refine g_aload_n hC 1 dL_law_1377 rfl rfl ?_
                                                                                    refine g_callVI hC (sk := []) [] (c_X11_image l B D K   M_2 h_M_2 _ hf) yv_X11_image wm_L_178 okX11.1 sc0 rfl ⟨Nat.le_of_ble_eq_true rfl, Nat.le_of_ble_eq_true rfl, Nat.le_of_ble_eq_true rfl, Nat.le_of_ble_eq_true rfl⟩ rfl (Nat.le_of_ble_eq_true rfl) dL_law_1378 ?_
                                                                                    intro r_447 M_448 h_r_447 h_M_448 hf
                                                                                    refine g_aload_n hC 2 dL_law_1381 rfl rfl ?_
                                                                                    refine g_callVI hC (sk := [J r_447]) [] (c_X12_image l B D K   M_448 h_M_448 _ hf) yv_X12_image wm_L_181 okX12.1 sc95 rfl ⟨Nat.le_of_ble_eq_true rfl, Nat.le_of_ble_eq_true rfl, Nat.le_of_ble_eq_true rfl, Nat.le_of_ble_eq_true rfl⟩ rfl (Nat.le_of_ble_eq_true rfl) dL_law_1382 ?_
                                                                                    intro r_449 M_450 h_r_449 h_M_450 hf
                                                                                    refine g_icmp_eq hC 1449 h_r_447 h_r_449 dL_law_1385 rfl (fun c_453 => ?_) (fun c_453 => ?_)
                                                                                    · replace hf := hf.1 c_453
                                                                                      obtain ⟨q_452, hf⟩ := hf
                                                                                      obtain ⟨v3_451, e_v3_451⟩ : ∃ z : Int, z = v3_1 + 6 := ⟨_, rfl⟩
                                                                                      replace hf := hf v3_451 e_v3_451
                                                                                      have h_v3_451 : inR v3_451 := by rw [e_v3_451]; exact q_452
                                                                                      refine g_iincv hC 3 e_v3_451 [(3, J v3_451), (0, .ref b), (1, .ref (B + 0)), (2, .ref (B + 95))] dL_law_1449 rfl (by decide) rfl ?_
                                                                                      refine g_goto hC 18 dL_law_1452 rfl ?_
                                                                                      refine g_sub [(0, .ref b), (1, .ref (B + 0)), (2, .ref (B + 95)), (3, J v3_451)] [1, 2, 3, 0] rfl ?_
                                                                                      exact ih18 v3_451 M_450 hf h_v3_451 h_M_450
                                                                                    · replace hf := hf.2 c_453
                                                                                      refine g_iconst hC dL_law_1388 ?_
                                                                                      exact hf.elim
                                                                                  · replace hf := hf.2
                                                                                    by_cases c_464 : bAnd (sc (v3_1).toNat) 63 = 40
                                                                                    · replace hf := hf.1 c_464
                                                                                      refine g_tabIn hC 40 1390 (bAnd_in _ _) c_464 dL_law_33 (by decide) (by decide) rfl rfl ?_
                                                                                      refine g_aload_n hC 1 dL_law_1390 rfl rfl ?_
                                                                                      refine g_aload_n hC 0 dL_law_1391 rfl rfl ?_
                                                                                      refine g_iload_n hC 3 dL_law_1392 rfl rfl ?_
                                                                                      refine g_iconst hC dL_law_1393 ?_
                                                                                      refine g_iadd hC dL_law_1394 ?_
                                                                                      obtain ⟨q_455, hf⟩ := hf
                                                                                      refine g_sld hC hsc0 hBs hX hbl hL q_455.1 q_455.2 dL_law_1395 ?_
                                                                                      refine g_callVI hC (sk := []) [J (sc (v3_1 + 1).toNat)] (c_X11_octet l B D K (sc (v3_1 + 1).toNat) (hsc _) M_2 h_M_2 _ hf) yv_X11_octet wm_L_182 okX11.1 sc0 rfl ⟨Nat.le_of_ble_eq_true rfl, Nat.le_of_ble_eq_true rfl, Nat.le_of_ble_eq_true rfl, Nat.le_of_ble_eq_true rfl⟩ rfl (Nat.le_of_ble_eq_true rfl) dL_law_1396 ?_
                                                                                      rintro r_456 M_457 h_r_456 - ⟨rfl, hf⟩
                                                                                      refine g_aload_n hC 2 dL_law_1399 rfl rfl ?_
                                                                                      refine g_aload_n hC 0 dL_law_1400 rfl rfl ?_
                                                                                      refine g_iload_n hC 3 dL_law_1401 rfl rfl ?_
                                                                                      refine g_iconst hC dL_law_1402 ?_
                                                                                      refine g_iadd hC dL_law_1403 ?_
                                                                                      obtain ⟨q_458, hf⟩ := hf
                                                                                      refine g_sld hC hsc0 hBs hX hbl hL q_458.1 q_458.2 dL_law_1404 ?_
                                                                                      refine g_callVI hC (sk := [J r_456]) [J (sc (v3_1 + 1).toNat)] (c_X12_octet l B D K (sc (v3_1 + 1).toNat) (hsc _) M_2 h_M_2 _ hf) yv_X12_octet wm_L_185 okX12.1 sc95 rfl ⟨Nat.le_of_ble_eq_true rfl, Nat.le_of_ble_eq_true rfl, Nat.le_of_ble_eq_true rfl, Nat.le_of_ble_eq_true rfl⟩ rfl (Nat.le_of_ble_eq_true rfl) dL_law_1405 ?_
                                                                                      rintro r_459 M_460 h_r_459 - ⟨rfl, hf⟩
                                                                                      refine g_icmp_eq hC 1449 h_r_456 h_r_459 dL_law_1408 rfl (fun c_463 => ?_) (fun c_463 => ?_)
                                                                                      · replace hf := hf.1 c_463
                                                                                        obtain ⟨q_462, hf⟩ := hf
                                                                                        obtain ⟨v3_461, e_v3_461⟩ : ∃ z : Int, z = v3_1 + 6 := ⟨_, rfl⟩
                                                                                        replace hf := hf v3_461 e_v3_461
                                                                                        have h_v3_461 : inR v3_461 := by rw [e_v3_461]; exact q_462
                                                                                        refine g_iincv hC 3 e_v3_461 [(3, J v3_461), (0, .ref b), (1, .ref (B + 0)), (2, .ref (B + 95))] dL_law_1449 rfl (by decide) rfl ?_
                                                                                        refine g_goto hC 18 dL_law_1452 rfl ?_
                                                                                        refine g_sub [(0, .ref b), (1, .ref (B + 0)), (2, .ref (B + 95)), (3, J v3_461)] [1, 2, 3, 0] rfl ?_
                                                                                        exact ih18 v3_461 M_2 hf h_v3_461 h_M_2
                                                                                      · replace hf := hf.2 c_463
                                                                                        refine g_iconst hC dL_law_1411 ?_
                                                                                        exact hf.elim
                                                                                    · replace hf := hf.2
                                                                                      by_cases c_472 : bAnd (sc (v3_1).toNat) 63 = 41
                                                                                      · replace hf := hf.1 c_472
                                                                                        refine g_tabIn hC 41 1413 (bAnd_in _ _) c_472 dL_law_33 (by decide) (by decide) rfl rfl ?_
                                                                                        refine g_aload_n hC 1 dL_law_1413 rfl rfl ?_
                                                                                        refine g_callVZ hC (sk := []) [] (c_X11_on l B D K   M_2 h_M_2 _ hf) yv_X11_on wm_L_186 okX11.1 sc0 rfl ⟨Nat.le_of_ble_eq_true rfl, Nat.le_of_ble_eq_true rfl, Nat.le_of_ble_eq_true rfl, Nat.le_of_ble_eq_true rfl⟩ rfl (Nat.le_of_ble_eq_true rfl) dL_law_1414 ?_
                                                                                        intro r_465 M_466 h_r_465 h_M_466 hf
                                                                                        refine g_aload_n hC 2 dL_law_1417 rfl rfl ?_
                                                                                        refine g_callVZ hC (sk := [J r_465]) [] (c_X12_on l B D K   M_466 h_M_466 _ hf) yv_X12_on wm_L_189 okX12.1 sc95 rfl ⟨Nat.le_of_ble_eq_true rfl, Nat.le_of_ble_eq_true rfl, Nat.le_of_ble_eq_true rfl, Nat.le_of_ble_eq_true rfl⟩ rfl (Nat.le_of_ble_eq_true rfl) dL_law_1418 ?_
                                                                                        intro r_467 M_468 h_r_467 h_M_468 hf
                                                                                        refine g_icmp_eq hC 1449 (zi_ h_r_465) (zi_ h_r_467) dL_law_1421 rfl (fun c_471 => ?_) (fun c_471 => ?_)
                                                                                        · replace hf := hf.1 c_471
                                                                                          obtain ⟨q_470, hf⟩ := hf
                                                                                          obtain ⟨v3_469, e_v3_469⟩ : ∃ z : Int, z = v3_1 + 6 := ⟨_, rfl⟩
                                                                                          replace hf := hf v3_469 e_v3_469
                                                                                          have h_v3_469 : inR v3_469 := by rw [e_v3_469]; exact q_470
                                                                                          refine g_iincv hC 3 e_v3_469 [(3, J v3_469), (0, .ref b), (1, .ref (B + 0)), (2, .ref (B + 95))] dL_law_1449 rfl (by decide) rfl ?_
                                                                                          refine g_goto hC 18 dL_law_1452 rfl ?_
                                                                                          refine g_sub [(0, .ref b), (1, .ref (B + 0)), (2, .ref (B + 95)), (3, J v3_469)] [1, 2, 3, 0] rfl ?_
                                                                                          exact ih18 v3_469 M_468 hf h_v3_469 h_M_468
                                                                                        · replace hf := hf.2 c_471
                                                                                          refine g_iconst hC dL_law_1424 ?_
                                                                                          exact hf.elim
                                                                                      · replace hf := hf.2
                                                                                        by_cases c_482 : bAnd (sc (v3_1).toNat) 63 = 42
                                                                                        · replace hf := hf.1 c_482
                                                                                          refine g_tabIn hC 42 1426 (bAnd_in _ _) c_482 dL_law_33 (by decide) (by decide) rfl rfl ?_
                                                                                          refine g_aload_n hC 1 dL_law_1426 rfl rfl ?_
                                                                                          refine g_aload_n hC 0 dL_law_1427 rfl rfl ?_
                                                                                          refine g_iload_n hC 3 dL_law_1428 rfl rfl ?_
                                                                                          refine g_iconst hC dL_law_1429 ?_
                                                                                          refine g_iadd hC dL_law_1430 ?_
                                                                                          obtain ⟨q_473, hf⟩ := hf
                                                                                          refine g_sld hC hsc0 hBs hX hbl hL q_473.1 q_473.2 dL_law_1431 ?_
                                                                                          refine g_callVI hC (sk := []) [J (sc (v3_1 + 1).toNat)] (c_X11_status l B D K (sc (v3_1 + 1).toNat) (hsc _) M_2 h_M_2 _ hf) yv_X11_status wm_L_190 okX11.1 sc0 rfl ⟨Nat.le_of_ble_eq_true rfl, Nat.le_of_ble_eq_true rfl, Nat.le_of_ble_eq_true rfl, Nat.le_of_ble_eq_true rfl⟩ rfl (Nat.le_of_ble_eq_true rfl) dL_law_1432 ?_
                                                                                          rintro r_474 M_475 h_r_474 - ⟨rfl, hf⟩
                                                                                          refine g_aload_n hC 2 dL_law_1435 rfl rfl ?_
                                                                                          refine g_aload_n hC 0 dL_law_1436 rfl rfl ?_
                                                                                          refine g_iload_n hC 3 dL_law_1437 rfl rfl ?_
                                                                                          refine g_iconst hC dL_law_1438 ?_
                                                                                          refine g_iadd hC dL_law_1439 ?_
                                                                                          obtain ⟨q_476, hf⟩ := hf
                                                                                          refine g_sld hC hsc0 hBs hX hbl hL q_476.1 q_476.2 dL_law_1440 ?_
                                                                                          refine g_callVI hC (sk := [J r_474]) [J (sc (v3_1 + 1).toNat)] (c_X12_status l B D K (sc (v3_1 + 1).toNat) (hsc _) M_2 h_M_2 _ hf) yv_X12_status wm_L_193 okX12.1 sc95 rfl ⟨Nat.le_of_ble_eq_true rfl, Nat.le_of_ble_eq_true rfl, Nat.le_of_ble_eq_true rfl, Nat.le_of_ble_eq_true rfl⟩ rfl (Nat.le_of_ble_eq_true rfl) dL_law_1441 ?_
                                                                                          rintro r_477 M_478 h_r_477 - ⟨rfl, hf⟩
                                                                                          refine g_icmp_eq hC 1449 h_r_474 h_r_477 dL_law_1444 rfl (fun c_481 => ?_) (fun c_481 => ?_)
                                                                                          · replace hf := hf.1 c_481
                                                                                            obtain ⟨q_480, hf⟩ := hf
                                                                                            obtain ⟨v3_479, e_v3_479⟩ : ∃ z : Int, z = v3_1 + 6 := ⟨_, rfl⟩
                                                                                            replace hf := hf v3_479 e_v3_479
                                                                                            have h_v3_479 : inR v3_479 := by rw [e_v3_479]; exact q_480
                                                                                            refine g_iincv hC 3 e_v3_479 [(3, J v3_479), (0, .ref b), (1, .ref (B + 0)), (2, .ref (B + 95))] dL_law_1449 rfl (by decide) rfl ?_
                                                                                            refine g_goto hC 18 dL_law_1452 rfl ?_
                                                                                            refine g_sub [(0, .ref b), (1, .ref (B + 0)), (2, .ref (B + 95)), (3, J v3_479)] [1, 2, 3, 0] rfl ?_
                                                                                            exact ih18 v3_479 M_2 hf h_v3_479 h_M_2
                                                                                          · replace hf := hf.2 c_481
                                                                                            refine g_iconst hC dL_law_1447 ?_
                                                                                            exact hf.elim
                                                                                        · replace hf := hf.2
                                                                                          have c_485 : bAnd (sc (v3_1).toNat) 63 < 0 ∨ 42 < bAnd (sc (v3_1).toNat) 63 := by omega
                                                                                          replace hf := hf c_485
                                                                                          refine g_tabOut hC 1449 (bAnd_in _ _) dL_law_33 c_485 rfl ?_
                                                                                          obtain ⟨q_484, hf⟩ := hf
                                                                                          obtain ⟨v3_483, e_v3_483⟩ : ∃ z : Int, z = v3_1 + 6 := ⟨_, rfl⟩
                                                                                          replace hf := hf v3_483 e_v3_483
                                                                                          have h_v3_483 : inR v3_483 := by rw [e_v3_483]; exact q_484
                                                                                          refine g_iincv hC 3 e_v3_483 [(3, J v3_483), (0, .ref b), (1, .ref (B + 0)), (2, .ref (B + 95))] dL_law_1449 rfl (by decide) rfl ?_
                                                                                          refine g_goto hC 18 dL_law_1452 rfl ?_
                                                                                          refine g_sub [(0, .ref b), (1, .ref (B + 0)), (2, .ref (B + 95)), (3, J v3_483)] [1, 2, 3, 0] rfl ?_
                                                                                          exact ih18 v3_483 M_2 hf h_v3_483 h_M_2
