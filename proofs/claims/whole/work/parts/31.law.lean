def L_law_b18 (sc : Nat → Int) (L : Nat) (rec18 : Int → Mem → Prop) (v3_1 : Int) (M_2 : Mem) : Prop :=
  inR ((L : Int) - 6) ∧ ((L : Int) - 6 < v3_1 → (True)) ∧ (¬ ((L : Int) - 6 < v3_1) → ((0 ≤ v3_1 ∧ v3_1 < L) ∧ (bAnd (sc (v3_1).toNat) 63 = 0 → ((0 ≤ v3_1 + 1 ∧ v3_1 + 1 < L) ∧ (0 ≤ v3_1 + 2 ∧ v3_1 + 2 < L) ∧ (0 ≤ v3_1 + 3 ∧ v3_1 + 3 < L) ∧ (0 ≤ v3_1 + 4 ∧ v3_1 + 4 < L) ∧ (0 ≤ v3_1 + 5 ∧ v3_1 + 5 < L) ∧ f_X11_feed (sc (v3_1 + 1).toNat) (sc (v3_1 + 2).toNat) (sc (v3_1 + 3).toNat) (sc (v3_1 + 4).toNat) (sc (v3_1 + 5).toNat) M_2 (fun r_10 M_11 => f_X12_feed (sc (v3_1 + 1).toNat) (sc (v3_1 + 2).toNat) (sc (v3_1 + 3).toNat) (sc (v3_1 + 4).toNat) (sc (v3_1 + 5).toNat) M_11 (fun r_12 M_13 => (r_10 = r_12 → (inR (v3_1 + 6) ∧ ∀ v3_14 : Int, v3_14 = v3_1 + 6 → rec18 v3_14 M_13)) ∧ (¬ (r_10 = r_12) → (False)))))) ∧ (bAnd (sc (v3_1).toNat) 63 = 1 → ((0 ≤ v3_1 + 1 ∧ v3_1 + 1 < L) ∧ f_X11_end (sc (v3_1 + 1).toNat) M_2 (fun r_19 M_20 => f_X12_end (sc (v3_1 + 1).toNat) M_20 (fun r_21 M_22 => (r_19 = r_21 → (inR (v3_1 + 6) ∧ ∀ v3_23 : Int, v3_23 = v3_1 + 6 → rec18 v3_23 M_22)) ∧ (¬ (r_19 = r_21) → (False)))))) ∧ (bAnd (sc (v3_1).toNat) 63 = 2 → (f_X11_net M_2 (fun r_27 M_28 => f_X12_net M_28 (fun r_29 M_30 => (r_27 = r_29 → (inR (v3_1 + 6) ∧ ∀ v3_31 : Int, v3_31 = v3_1 + 6 → rec18 v3_31 M_30)) ∧ (¬ (r_27 = r_29) → (False)))))) ∧ (bAnd (sc (v3_1).toNat) 63 = 3 → ((0 ≤ v3_1 + 1 ∧ v3_1 + 1 < L) ∧ f_X11_fault (sc (v3_1 + 1).toNat) M_2 (fun r_36 => f_X12_fault (sc (v3_1 + 1).toNat) M_2 (fun r_38 => (r_36 = r_38 → (inR (v3_1 + 6) ∧ ∀ v3_40 : Int, v3_40 = v3_1 + 6 → rec18 v3_40 M_2)) ∧ (¬ (r_36 = r_38) → (False)))))) ∧ (bAnd (sc (v3_1).toNat) 63 = 4 → ((0 ≤ v3_1 + 1 ∧ v3_1 + 1 < L) ∧ f_X11_has (sc (v3_1 + 1).toNat) M_2 (fun r_45 => f_X12_has (sc (v3_1 + 1).toNat) M_2 (fun r_47 M_48 => (r_45 = r_47 → (inR (v3_1 + 6) ∧ ∀ v3_49 : Int, v3_49 = v3_1 + 6 → rec18 v3_49 M_48)) ∧ (¬ (r_45 = r_47) → (False)))))) ∧ (bAnd (sc (v3_1).toNat) 63 = 5 → ((0 ≤ v3_1 + 1 ∧ v3_1 + 1 < L) ∧ (0 ≤ v3_1 + 2 ∧ v3_1 + 2 < L) ∧ (0 ≤ v3_1 + 3 ∧ v3_1 + 3 < L) ∧ f_X11_letter (sc (v3_1 + 1).toNat) (sc (v3_1 + 2).toNat) (sc (v3_1 + 3).toNat) M_2 (fun r_56 => f_X12_letter (sc (v3_1 + 1).toNat) (sc (v3_1 + 2).toNat) (sc (v3_1 + 3).toNat) M_2 (fun r_58 => (r_56 = r_58 → (inR (v3_1 + 6) ∧ ∀ v3_60 : Int, v3_60 = v3_1 + 6 → rec18 v3_60 M_2)) ∧ (¬ (r_56 = r_58) → (False)))))) ∧ (bAnd (sc (v3_1).toNat) 63 = 6 → ((0 ≤ v3_1 + 1 ∧ v3_1 + 1 < L) ∧ (0 ≤ v3_1 + 2 ∧ v3_1 + 2 < L) ∧ f_X11_reach (sc (v3_1 + 1).toNat) (sc (v3_1 + 2).toNat) M_2 (fun r_66 => f_X12_reach (sc (v3_1 + 1).toNat) (sc (v3_1 + 2).toNat) M_2 (fun r_68 M_69 => (r_66 = r_68 → (inR (v3_1 + 6) ∧ ∀ v3_70 : Int, v3_70 = v3_1 + 6 → rec18 v3_70 M_69)) ∧ (¬ (r_66 = r_68) → (False)))))) ∧ (bAnd (sc (v3_1).toNat) 63 = 7 → ((0 ≤ v3_1 + 1 ∧ v3_1 + 1 < L) ∧ (0 ≤ v3_1 + 2 ∧ v3_1 + 2 < L) ∧ f_X11_place (sc (v3_1 + 1).toNat) (sc (v3_1 + 2).toNat) M_2 (fun r_76 => f_X12_place (sc (v3_1 + 1).toNat) (sc (v3_1 + 2).toNat) M_2 (fun r_78 M_79 => (r_76 = r_78 → (inR (v3_1 + 6) ∧ ∀ v3_80 : Int, v3_80 = v3_1 + 6 → rec18 v3_80 M_79)) ∧ (¬ (r_76 = r_78) → (False)))))) ∧ (bAnd (sc (v3_1).toNat) 63 = 8 → ((0 ≤ v3_1 + 1 ∧ v3_1 + 1 < L) ∧ (0 ≤ v3_1 + 2 ∧ v3_1 + 2 < L) ∧ (0 ≤ v3_1 + 3 ∧ v3_1 + 3 < L) ∧ f_X11_rank (sc (v3_1 + 1).toNat) (sc (v3_1 + 2).toNat) (sc (v3_1 + 3).toNat) M_2 (fun r_87 => f_X12_rank (sc (v3_1 + 1).toNat) (sc (v3_1 + 2).toNat) (sc (v3_1 + 3).toNat) M_2 (fun r_89 M_90 => (r_87 = r_89 → (inR (v3_1 + 6) ∧ ∀ v3_91 : Int, v3_91 = v3_1 + 6 → rec18 v3_91 M_90)) ∧ (¬ (r_87 = r_89) → (False)))))) ∧ (bAnd (sc (v3_1).toNat) 63 = 9 → ((0 ≤ v3_1 + 1 ∧ v3_1 + 1 < L) ∧ (0 ≤ v3_1 + 2 ∧ v3_1 + 2 < L) ∧ (0 ≤ v3_1 + 3 ∧ v3_1 + 3 < L) ∧ f_X11_goes (sc (v3_1 + 1).toNat) (sc (v3_1 + 2).toNat) (sc (v3_1 + 3).toNat) M_2 (fun r_98 => f_X12_goes (sc (v3_1 + 1).toNat) (sc (v3_1 + 2).toNat) (sc (v3_1 + 3).toNat) M_2 (fun r_100 M_101 => (r_98 = r_100 → (inR (v3_1 + 6) ∧ ∀ v3_102 : Int, v3_102 = v3_1 + 6 → rec18 v3_102 M_101)) ∧ (¬ (r_98 = r_100) → (False)))))) ∧ (bAnd (sc (v3_1).toNat) 63 = 10 → ((0 ≤ v3_1 + 1 ∧ v3_1 + 1 < L) ∧ (0 ≤ v3_1 + 2 ∧ v3_1 + 2 < L) ∧ (0 ≤ v3_1 + 3 ∧ v3_1 + 3 < L) ∧ f_X11_stem (sc (v3_1 + 1).toNat) (sc (v3_1 + 2).toNat) (sc (v3_1 + 3).toNat) M_2 (fun r_109 => f_X12_stem (sc (v3_1 + 1).toNat) (sc (v3_1 + 2).toNat) (sc (v3_1 + 3).toNat) M_2 (fun r_111 M_112 => (r_109 = r_111 → (inR (v3_1 + 6) ∧ ∀ v3_113 : Int, v3_113 = v3_1 + 6 → rec18 v3_113 M_112)) ∧ (¬ (r_109 = r_111) → (False)))))) ∧ (bAnd (sc (v3_1).toNat) 63 = 11 → ((0 ≤ v3_1 + 1 ∧ v3_1 + 1 < L) ∧ (0 ≤ v3_1 + 2 ∧ v3_1 + 2 < L) ∧ f_X11_stems (sc (v3_1 + 1).toNat) (sc (v3_1 + 2).toNat) M_2 (fun r_119 => f_X12_stems (sc (v3_1 + 1).toNat) (sc (v3_1 + 2).toNat) M_2 (fun r_121 M_122 => (r_119 = r_121 → (inR (v3_1 + 6) ∧ ∀ v3_123 : Int, v3_123 = v3_1 + 6 → rec18 v3_123 M_122)) ∧ (¬ (r_119 = r_121) → (False)))))) ∧ (bAnd (sc (v3_1).toNat) 63 = 12 → ((0 ≤ v3_1 + 1 ∧ v3_1 + 1 < L) ∧ (0 ≤ v3_1 + 2 ∧ v3_1 + 2 < L) ∧ f_X11_beyond (sc (v3_1 + 1).toNat) (sc (v3_1 + 2).toNat) M_2 (fun r_129 => f_X12_beyond (sc (v3_1 + 1).toNat) (sc (v3_1 + 2).toNat) M_2 (fun r_131 M_132 => (r_129 = r_131 → (inR (v3_1 + 6) ∧ ∀ v3_133 : Int, v3_133 = v3_1 + 6 → rec18 v3_133 M_132)) ∧ (¬ (r_129 = r_131) → (False)))))) ∧ (bAnd (sc (v3_1).toNat) 63 = 13 → ((0 ≤ v3_1 + 1 ∧ v3_1 + 1 < L) ∧ f_X11_springs (sc (v3_1 + 1).toNat) M_2 (fun r_138 => f_X12_springs (sc (v3_1 + 1).toNat) M_2 (fun r_140 M_141 => (r_138 = r_140 → (inR (v3_1 + 6) ∧ ∀ v3_142 : Int, v3_142 = v3_1 + 6 → rec18 v3_142 M_141)) ∧ (¬ (r_138 = r_140) → (False)))))) ∧ (bAnd (sc (v3_1).toNat) 63 = 14 → ((0 ≤ v3_1 + 1 ∧ v3_1 + 1 < L) ∧ (0 ≤ v3_1 + 2 ∧ v3_1 + 2 < L) ∧ f_X11_ways (sc (v3_1 + 1).toNat) (sc (v3_1 + 2).toNat) M_2 (fun r_148 M_149 => f_X12_ways (sc (v3_1 + 1).toNat) (sc (v3_1 + 2).toNat) M_149 (fun r_150 M_151 => (r_148 = r_150 → (inR (v3_1 + 6) ∧ ∀ v3_152 : Int, v3_152 = v3_1 + 6 → rec18 v3_152 M_151)) ∧ (¬ (r_148 = r_150) → (False)))))) ∧ (bAnd (sc (v3_1).toNat) 63 = 15 → ((0 ≤ v3_1 + 1 ∧ v3_1 + 1 < L) ∧ (0 ≤ v3_1 + 2 ∧ v3_1 + 2 < L) ∧ (0 ≤ v3_1 + 3 ∧ v3_1 + 3 < L) ∧ f_X11_far (sc (v3_1 + 1).toNat) (sc (v3_1 + 2).toNat) (sc (v3_1 + 3).toNat) M_2 (fun r_159 M_160 => f_X12_far (sc (v3_1 + 1).toNat) (sc (v3_1 + 2).toNat) (sc (v3_1 + 3).toNat) M_160 (fun r_161 M_162 => (r_159 = r_161 → (inR (v3_1 + 6) ∧ ∀ v3_163 : Int, v3_163 = v3_1 + 6 → rec18 v3_163 M_162)) ∧ (¬ (r_159 = r_161) → (False)))))) ∧ (bAnd (sc (v3_1).toNat) 63 = 16 → ((0 ≤ v3_1 + 1 ∧ v3_1 + 1 < L) ∧ (0 ≤ v3_1 + 2 ∧ v3_1 + 2 < L) ∧ f_X11_waters (sc (v3_1 + 1).toNat) (sc (v3_1 + 2).toNat) M_2 (fun r_169 => f_X12_waters (sc (v3_1 + 1).toNat) (sc (v3_1 + 2).toNat) M_2 (fun r_171 M_172 => (r_169 = r_171 → (inR (v3_1 + 6) ∧ ∀ v3_173 : Int, v3_173 = v3_1 + 6 → rec18 v3_173 M_172)) ∧ (¬ (r_169 = r_171) → (False)))))) ∧ (bAnd (sc (v3_1).toNat) 63 = 17 → ((0 ≤ v3_1 + 1 ∧ v3_1 + 1 < L) ∧ f_X11_braid (sc (v3_1 + 1).toNat) M_2 (fun r_178 => f_X12_braid (sc (v3_1 + 1).toNat) M_2 (fun r_180 M_181 => (r_178 = r_180 → (inR (v3_1 + 6) ∧ ∀ v3_182 : Int, v3_182 = v3_1 + 6 → rec18 v3_182 M_181)) ∧ (¬ (r_178 = r_180) → (False)))))) ∧ (bAnd (sc (v3_1).toNat) 63 = 18 → ((0 ≤ v3_1 + 1 ∧ v3_1 + 1 < L) ∧ (0 ≤ v3_1 + 2 ∧ v3_1 + 2 < L) ∧ f_X11_streams (sc (v3_1 + 1).toNat) (sc (v3_1 + 2).toNat) M_2 (fun r_188 M_189 => f_X12_streams (sc (v3_1 + 1).toNat) (sc (v3_1 + 2).toNat) M_189 (fun r_190 M_191 => (r_188 = r_190 → (inR (v3_1 + 6) ∧ ∀ v3_192 : Int, v3_192 = v3_1 + 6 → rec18 v3_192 M_191)) ∧ (¬ (r_188 = r_190) → (False)))))) ∧ (bAnd (sc (v3_1).toNat) 63 = 19 → ((0 ≤ v3_1 + 1 ∧ v3_1 + 1 < L) ∧ (0 ≤ v3_1 + 2 ∧ v3_1 + 2 < L) ∧ f_X11_river (sc (v3_1 + 1).toNat) (sc (v3_1 + 2).toNat) M_2 (fun r_198 => f_X12_river (sc (v3_1 + 1).toNat) (sc (v3_1 + 2).toNat) M_2 (fun r_200 M_201 => (r_198 = r_200 → (inR (v3_1 + 6) ∧ ∀ v3_202 : Int, v3_202 = v3_1 + 6 → rec18 v3_202 M_201)) ∧ (¬ (r_198 = r_200) → (False)))))) ∧ (bAnd (sc (v3_1).toNat) 63 = 20 → ((0 ≤ v3_1 + 1 ∧ v3_1 + 1 < L) ∧ f_X11_canTurn (sc (v3_1 + 1).toNat) M_2 (fun r_207 => f_X12_canTurn (sc (v3_1 + 1).toNat) M_2 (fun r_209 => (r_207 = r_209 → (inR (v3_1 + 6) ∧ ∀ v3_211 : Int, v3_211 = v3_1 + 6 → rec18 v3_211 M_2)) ∧ (¬ (r_207 = r_209) → (False)))))) ∧ (bAnd (sc (v3_1).toNat) 63 = 21 → ((0 ≤ v3_1 + 1 ∧ v3_1 + 1 < L) ∧ (0 ≤ v3_1 + 2 ∧ v3_1 + 2 < L) ∧ f_X11_would (sc (v3_1 + 1).toNat) (sc (v3_1 + 2).toNat) M_2 (fun r_217 M_218 => f_X12_would (sc (v3_1 + 1).toNat) (sc (v3_1 + 2).toNat) M_218 (fun r_219 M_220 => (r_217 = r_219 → (inR (v3_1 + 6) ∧ ∀ v3_221 : Int, v3_221 = v3_1 + 6 → rec18 v3_221 M_220)) ∧ (¬ (r_217 = r_219) → (False)))))) ∧ (bAnd (sc (v3_1).toNat) 63 = 22 → ((0 ≤ v3_1 + 1 ∧ v3_1 + 1 < L) ∧ f_X11_loss (sc (v3_1 + 1).toNat) M_2 (fun r_226 M_227 => f_X12_loss (sc (v3_1 + 1).toNat) M_227 (fun r_228 M_229 => (r_226 = r_228 → (inR (v3_1 + 6) ∧ ∀ v3_230 : Int, v3_230 = v3_1 + 6 → rec18 v3_230 M_229)) ∧ (¬ (r_226 = r_228) → (False)))))) ∧ (bAnd (sc (v3_1).toNat) 63 = 23 → ((0 ≤ v3_1 + 1 ∧ v3_1 + 1 < L) ∧ f_X11_starves (sc (v3_1 + 1).toNat) M_2 (fun r_235 M_236 => f_X12_starves (sc (v3_1 + 1).toNat) M_236 (fun r_237 M_238 => (r_235 = r_237 → (inR (v3_1 + 6) ∧ ∀ v3_239 : Int, v3_239 = v3_1 + 6 → rec18 v3_239 M_238)) ∧ (¬ (r_235 = r_237) → (False)))))) ∧ (bAnd (sc (v3_1).toNat) 63 = 24 → ((0 ≤ v3_1 + 1 ∧ v3_1 + 1 < L) ∧ f_X11_fewest (sc (v3_1 + 1).toNat) M_2 (fun r_244 M_245 => f_X12_fewest (sc (v3_1 + 1).toNat) M_245 (fun r_246 M_247 => (r_244 = r_246 → (inR (v3_1 + 6) ∧ ∀ v3_248 : Int, v3_248 = v3_1 + 6 → rec18 v3_248 M_247)) ∧ (¬ (r_244 = r_246) → (False)))))) ∧ (bAnd (sc (v3_1).toNat) 63 = 25 → ((0 ≤ v3_1 + 1 ∧ v3_1 + 1 < L) ∧ (0 ≤ v3_1 + 2 ∧ v3_1 + 2 < L) ∧ f_X11_wave (sc (v3_1 + 1).toNat) (sc (v3_1 + 2).toNat) M_2 (fun r_254 M_255 => f_X12_wave (sc (v3_1 + 1).toNat) (sc (v3_1 + 2).toNat) M_255 (fun r_256 M_257 => (r_254 = r_256 → (inR (v3_1 + 6) ∧ ∀ v3_258 : Int, v3_258 = v3_1 + 6 → rec18 v3_258 M_257)) ∧ (¬ (r_254 = r_256) → (False)))))) ∧ (bAnd (sc (v3_1).toNat) 63 = 26 → ((0 ≤ v3_1 + 1 ∧ v3_1 + 1 < L) ∧ f_X11_changed (sc (v3_1 + 1).toNat) M_2 (fun r_263 => f_X12_changed (sc (v3_1 + 1).toNat) M_2 (fun r_265 M_266 => (r_263 = r_265 → (inR (v3_1 + 6) ∧ ∀ v3_267 : Int, v3_267 = v3_1 + 6 → rec18 v3_267 M_266)) ∧ (¬ (r_263 = r_265) → (False)))))) ∧ (bAnd (sc (v3_1).toNat) 63 = 27 → (f_X11_see M_2 (fun r_271 M_272 => f_X12_see M_272 (fun r_273 M_274 => (r_271 = r_273 → (inR (v3_1 + 6) ∧ ∀ v3_275 : Int, v3_275 = v3_1 + 6 → rec18 v3_275 M_274)) ∧ (¬ (r_271 = r_273) → (False)))))) ∧ (bAnd (sc (v3_1).toNat) 63 = 28 → (f_X11_fits M_2 (fun r_279 => f_X12_fits M_2 (fun r_281 M_282 => (r_279 = r_281 → (inR (v3_1 + 6) ∧ ∀ v3_283 : Int, v3_283 = v3_1 + 6 → rec18 v3_283 M_282)) ∧ (¬ (r_279 = r_281) → (False)))))) ∧ (bAnd (sc (v3_1).toNat) 63 = 29 → ((0 ≤ v3_1 + 1 ∧ v3_1 + 1 < L) ∧ f_X11_tells (sc (v3_1 + 1).toNat) M_2 (fun r_288 => f_X12_tells (sc (v3_1 + 1).toNat) M_2 (fun r_290 M_291 => (r_288 = r_290 → (inR (v3_1 + 6) ∧ ∀ v3_292 : Int, v3_292 = v3_1 + 6 → rec18 v3_292 M_291)) ∧ (¬ (r_288 = r_290) → (False)))))) ∧ (bAnd (sc (v3_1).toNat) 63 = 30 → ((0 ≤ v3_1 + 1 ∧ v3_1 + 1 < L) ∧ (0 ≤ v3_1 + 2 ∧ v3_1 + 2 < L) ∧ (0 ≤ v3_1 + 3 ∧ v3_1 + 3 < L) ∧ (0 ≤ v3_1 + 4 ∧ v3_1 + 4 < L) ∧ f_X11_add (sc (v3_1 + 1).toNat) (sc (v3_1 + 2).toNat) (sc (v3_1 + 3).toNat) (sc (v3_1 + 4).toNat) M_2 (fun r_300 M_301 => f_X12_add (sc (v3_1 + 1).toNat) (sc (v3_1 + 2).toNat) (sc (v3_1 + 3).toNat) (sc (v3_1 + 4).toNat) M_301 (fun r_302 M_303 => (r_300 = r_302 → (inR (v3_1 + 6) ∧ ∀ v3_304 : Int, v3_304 = v3_1 + 6 → rec18 v3_304 M_303)) ∧ (¬ (r_300 = r_302) → (False)))))) ∧ (bAnd (sc (v3_1).toNat) 63 = 31 → ((0 ≤ v3_1 + 1 ∧ v3_1 + 1 < L) ∧ f_X11_drop (sc (v3_1 + 1).toNat) M_2 (fun r_309 M_310 => f_X12_drop (sc (v3_1 + 1).toNat) M_310 (fun r_311 M_312 => (r_309 = r_311 → (inR (v3_1 + 6) ∧ ∀ v3_313 : Int, v3_313 = v3_1 + 6 → rec18 v3_313 M_312)) ∧ (¬ (r_309 = r_311) → (False)))))) ∧ (bAnd (sc (v3_1).toNat) 63 = 32 → ((0 ≤ v3_1 + 1 ∧ v3_1 + 1 < L) ∧ (0 ≤ v3_1 + 2 ∧ v3_1 + 2 < L) ∧ f_X11_cut (sc (v3_1 + 1).toNat) (sc (v3_1 + 2).toNat) M_2 (fun r_319 M_320 => f_X12_cut (sc (v3_1 + 1).toNat) (sc (v3_1 + 2).toNat) M_320 (fun r_321 M_322 => (r_319 = r_321 → (inR (v3_1 + 6) ∧ ∀ v3_323 : Int, v3_323 = v3_1 + 6 → rec18 v3_323 M_322)) ∧ (¬ (r_319 = r_321) → (False)))))) ∧ (bAnd (sc (v3_1).toNat) 63 = 33 → ((0 ≤ v3_1 + 1 ∧ v3_1 + 1 < L) ∧ f_X11_turn (sc (v3_1 + 1).toNat) M_2 (fun r_328 M_329 => f_X12_turn (sc (v3_1 + 1).toNat) M_329 (fun r_330 M_331 => (r_328 = r_330 → (inR (v3_1 + 6) ∧ ∀ v3_332 : Int, v3_332 = v3_1 + 6 → rec18 v3_332 M_331)) ∧ (¬ (r_328 = r_330) → (False)))))) ∧ (bAnd (sc (v3_1).toNat) 63 = 34 → ((0 ≤ v3_1 + 1 ∧ v3_1 + 1 < L) ∧ (0 ≤ v3_1 + 2 ∧ v3_1 + 2 < L) ∧ f_X11_gives (sc (v3_1 + 1).toNat) (sc (v3_1 + 2).toNat) M_2 (fun r_338 M_339 => f_X12_gives (sc (v3_1 + 1).toNat) (sc (v3_1 + 2).toNat) M_339 (fun r_340 M_341 => (r_338 = r_340 → (inR (v3_1 + 6) ∧ ∀ v3_342 : Int, v3_342 = v3_1 + 6 → rec18 v3_342 M_341)) ∧ (¬ (r_338 = r_340) → (False)))))) ∧ (bAnd (sc (v3_1).toNat) 63 = 35 → ((0 ≤ v3_1 + 1 ∧ v3_1 + 1 < L) ∧ (0 ≤ v3_1 + 2 ∧ v3_1 + 2 < L) ∧ f_X11_call (sc (v3_1 + 1).toNat) (sc (v3_1 + 2).toNat) M_2 (fun r_348 M_349 => f_X12_call (sc (v3_1 + 1).toNat) (sc (v3_1 + 2).toNat) M_349 (fun r_350 M_351 => (r_348 = r_350 → (inR (v3_1 + 6) ∧ ∀ v3_352 : Int, v3_352 = v3_1 + 6 → rec18 v3_352 M_351)) ∧ (¬ (r_348 = r_350) → (False)))))) ∧ (bAnd (sc (v3_1).toNat) 63 = 36 → ((0 ≤ v3_1 + 1 ∧ v3_1 + 1 < L) ∧ f_X11_chance (sc (v3_1 + 1).toNat) M_2 (fun r_357 M_358 => f_X12_chance (sc (v3_1 + 1).toNat) M_358 (fun r_359 M_360 => (r_357 = r_359 → (inR (v3_1 + 6) ∧ ∀ v3_361 : Int, v3_361 = v3_1 + 6 → rec18 v3_361 M_360)) ∧ (¬ (r_357 = r_359) → (False)))))) ∧ (bAnd (sc (v3_1).toNat) 63 = 37 → (f_X11_undo M_2 (fun r_365 M_366 => f_X12_undo M_366 (fun r_367 M_368 => (r_365 = r_367 → (inR (v3_1 + 6) ∧ ∀ v3_369 : Int, v3_369 = v3_1 + 6 → rec18 v3_369 M_368)) ∧ (¬ (r_365 = r_367) → (False)))))) ∧ (bAnd (sc (v3_1).toNat) 63 = 38 → ((0 ≤ v3_1 + 1 ∧ v3_1 + 1 < L) ∧ f_X11_seed (sc (v3_1 + 1).toNat) M_2 (fun r_374 M_375 => f_X12_seed (sc (v3_1 + 1).toNat) M_375 (fun r_376 M_377 => (r_374 = r_376 → (inR (v3_1 + 6) ∧ ∀ v3_378 : Int, v3_378 = v3_1 + 6 → rec18 v3_378 M_377)) ∧ (¬ (r_374 = r_376) → (False)))))) ∧ (bAnd (sc (v3_1).toNat) 63 = 39 → (f_X11_image M_2 (fun r_382 M_383 => f_X12_image M_383 (fun r_384 M_385 => (r_382 = r_384 → (inR (v3_1 + 6) ∧ ∀ v3_386 : Int, v3_386 = v3_1 + 6 → rec18 v3_386 M_385)) ∧ (¬ (r_382 = r_384) → (False)))))) ∧ (bAnd (sc (v3_1).toNat) 63 = 40 → ((0 ≤ v3_1 + 1 ∧ v3_1 + 1 < L) ∧ f_X11_octet (sc (v3_1 + 1).toNat) M_2 (fun r_391 => f_X12_octet (sc (v3_1 + 1).toNat) M_2 (fun r_393 => (r_391 = r_393 → (inR (v3_1 + 6) ∧ ∀ v3_395 : Int, v3_395 = v3_1 + 6 → rec18 v3_395 M_2)) ∧ (¬ (r_391 = r_393) → (False)))))) ∧ (bAnd (sc (v3_1).toNat) 63 = 41 → (f_X11_on M_2 (fun r_399 M_400 => f_X12_on M_400 (fun r_401 M_402 => (r_399 = r_401 → (inR (v3_1 + 6) ∧ ∀ v3_403 : Int, v3_403 = v3_1 + 6 → rec18 v3_403 M_402)) ∧ (¬ (r_399 = r_401) → (False)))))) ∧ (bAnd (sc (v3_1).toNat) 63 = 42 → ((0 ≤ v3_1 + 1 ∧ v3_1 + 1 < L) ∧ f_X11_status (sc (v3_1 + 1).toNat) M_2 (fun r_408 => f_X12_status (sc (v3_1 + 1).toNat) M_2 (fun r_410 => (r_408 = r_410 → (inR (v3_1 + 6) ∧ ∀ v3_412 : Int, v3_412 = v3_1 + 6 → rec18 v3_412 M_2)) ∧ (¬ (r_408 = r_410) → (False)))))) ∧ ((bAnd (sc (v3_1).toNat) 63 < 0 ∨ 42 < bAnd (sc (v3_1).toNat) 63) → (inR (v3_1 + 6) ∧ ∀ v3_416 : Int, v3_416 = v3_1 + 6 → rec18 v3_416 M_2))))
def f_law (sc : Nat → Int) (L : Nat) (M : Mem) : Prop :=
  wl2 (L_law_b18 sc L) 5000 0 M
set_option maxHeartbeats 8000000 in
set_option maxRecDepth 100000 in
theorem c_law {p : Program} {e : Env} {s : State} {m : MethodId} {below : List Frame} {meth : Method} {c : Code} (l : Launch) {b L B : Nat} {xs : Nat → Int32} {D : va_G} {K : Nat → ClassId} (hL : L ≤ 3072) (hC : Cx p s m #[Value.ref b] meth c D K code 4 RL ret) (hBs : s.heap.size = B) (hX : va_X b L xs s s.heap) (hbl : b < s.heap.size) (M : Mem) (hM : MR M) (hf : f_law (fun j => (xs j).toInt) L M) : G p l e room_1 s m #[Value.ref b] below meth c B D K 4 127 11322 (lw_Z below #[Value.ref b] s) M 16 [(2, .ref (B + 95)), (1, .ref (B + 0)), (0, .ref b)] [] := by
  have hC : Cx p s m #[Value.ref b] meth c D K cL_law 4 RL ret := hC
  obtain ⟨sc, hsc0⟩ : ∃ sc : Nat → Int, sc = fun j => (xs j).toInt := ⟨_, rfl⟩
  have hsc : ∀ j, inR (sc j) := fun j => by rw [hsc0]; exact in_32 _
  rw [← hsc0] at hf
  unfold f_law at hf
  refine g_iconst hC dL_law_16 ?_
  refine g_istore_n hC [(3, J 0), (2, .ref (B + 95)), (1, .ref (B + 0)), (0, .ref b)] dL_law_17 rfl (by decide) rfl ?_
  refine g_sub [(0, .ref b), (1, .ref (B + 0)), (2, .ref (B + 95)), (3, J 0)] [3, 2, 1, 0] rfl ?_
  refine wl2_elim (fun (v3_1 : Int) (M_2 : Mem) => inR v3_1 → MR M_2 → G p l e room_1 s m #[Value.ref b] below meth c B D K 4 127 11322 (lw_Z below #[Value.ref b] s) M_2 18 [(0, .ref b), (1, .ref (B + 0)), (2, .ref (B + 95)), (3, J v3_1)] []) ?_ 5000 0 M hf (by unfold inR; omega) hM
  intro rec18 ih18 v3_1 M_2 hf h_v3_1 h_M_2
  unfold L_law_b18 at hf
  refine g_iload_n hC 3 dL_law_18 rfl rfl ?_
  refine g_aload_n hC 0 dL_law_19 rfl rfl ?_
  refine g_slen hC hBs hX hbl dL_law_20 ?_
  refine g_bipush hC dL_law_21 (by decide) ?_
  refine g_isub hC dL_law_23 ?_
  obtain ⟨q_3, hf⟩ := hf
  refine g_icmp_gt hC 1455 h_v3_1 q_3 dL_law_24 rfl (fun c_419 => ?_) (fun c_419 => ?_)
  · replace hf := hf.1 c_419
    refine g_iconst hC dL_law_1455 ?_
    exact g_lret hC hBs dL_law_1456
  · replace hf := hf.2 c_419
    refine g_aload_n hC 0 dL_law_27 rfl rfl ?_
    refine g_iload_n hC 3 dL_law_28 rfl rfl ?_
    obtain ⟨q_4, hf⟩ := hf
    refine g_sld hC hsc0 hBs hX hbl hL q_4.1 q_4.2 dL_law_29 ?_
    refine g_bipush hC dL_law_30 (by decide) ?_
    refine g_iand hC dL_law_32 ?_
    by_cases c_17 : bAnd (sc (v3_1).toNat) 63 = 0
    · replace hf := hf.1 c_17
      refine g_tabIn hC 0 220 (bAnd_in _ _) c_17 dL_law_33 (by decide) (by decide) rfl rfl ?_
      refine g_aload_n hC 1 dL_law_220 rfl rfl ?_
      refine g_aload_n hC 0 dL_law_221 rfl rfl ?_
      refine g_iload_n hC 3 dL_law_222 rfl rfl ?_
      refine g_iconst hC dL_law_223 ?_
      refine g_iadd hC dL_law_224 ?_
      obtain ⟨q_5, hf⟩ := hf
      refine g_sld hC hsc0 hBs hX hbl hL q_5.1 q_5.2 dL_law_225 ?_
      refine g_aload_n hC 0 dL_law_226 rfl rfl ?_
      refine g_iload_n hC 3 dL_law_227 rfl rfl ?_
      refine g_iconst hC dL_law_228 ?_
      refine g_iadd hC dL_law_229 ?_
      obtain ⟨q_6, hf⟩ := hf
      refine g_sld hC hsc0 hBs hX hbl hL q_6.1 q_6.2 dL_law_230 ?_
      refine g_aload_n hC 0 dL_law_231 rfl rfl ?_
      refine g_iload_n hC 3 dL_law_232 rfl rfl ?_
      refine g_iconst hC dL_law_233 ?_
      refine g_iadd hC dL_law_234 ?_
      obtain ⟨q_7, hf⟩ := hf
      refine g_sld hC hsc0 hBs hX hbl hL q_7.1 q_7.2 dL_law_235 ?_
      refine g_aload_n hC 0 dL_law_236 rfl rfl ?_
      refine g_iload_n hC 3 dL_law_237 rfl rfl ?_
      refine g_iconst hC dL_law_238 ?_
      refine g_iadd hC dL_law_239 ?_
      obtain ⟨q_8, hf⟩ := hf
      refine g_sld hC hsc0 hBs hX hbl hL q_8.1 q_8.2 dL_law_240 ?_
      refine g_aload_n hC 0 dL_law_241 rfl rfl ?_
      refine g_iload_n hC 3 dL_law_242 rfl rfl ?_
      refine g_iconst hC dL_law_243 ?_
      refine g_iadd hC dL_law_244 ?_
      obtain ⟨q_9, hf⟩ := hf
      refine g_sld hC hsc0 hBs hX hbl hL q_9.1 q_9.2 dL_law_245 ?_
      refine g_callVI hC (sk := []) [J (sc (v3_1 + 1).toNat), J (sc (v3_1 + 2).toNat), J (sc (v3_1 + 3).toNat), J (sc (v3_1 + 4).toNat), J (sc (v3_1 + 5).toNat)] (c_X11_feed l B D K (sc (v3_1 + 1).toNat) (sc (v3_1 + 2).toNat) (sc (v3_1 + 3).toNat) (sc (v3_1 + 4).toNat) (sc (v3_1 + 5).toNat) (hsc _) (hsc _) (hsc _) (hsc _) (hsc _) M_2 h_M_2 _ hf) yv_X11_feed wm_L_13 okX11.1 sc0 rfl ⟨Nat.le_of_ble_eq_true rfl, Nat.le_of_ble_eq_true rfl, Nat.le_of_ble_eq_true rfl, Nat.le_of_ble_eq_true rfl⟩ rfl (Nat.le_of_ble_eq_true rfl) dL_law_246 ?_
      intro r_10 M_11 h_r_10 h_M_11 hf
      refine g_aload_n hC 2 dL_law_249 rfl rfl ?_
      refine g_aload_n hC 0 dL_law_250 rfl rfl ?_
      refine g_iload_n hC 3 dL_law_251 rfl rfl ?_
      refine g_iconst hC dL_law_252 ?_
      refine g_iadd hC dL_law_253 ?_
      refine g_sld hC hsc0 hBs hX hbl hL q_5.1 q_5.2 dL_law_254 ?_
      refine g_aload_n hC 0 dL_law_255 rfl rfl ?_
      refine g_iload_n hC 3 dL_law_256 rfl rfl ?_
      refine g_iconst hC dL_law_257 ?_
      refine g_iadd hC dL_law_258 ?_
      refine g_sld hC hsc0 hBs hX hbl hL q_6.1 q_6.2 dL_law_259 ?_
      refine g_aload_n hC 0 dL_law_260 rfl rfl ?_
      refine g_iload_n hC 3 dL_law_261 rfl rfl ?_
      refine g_iconst hC dL_law_262 ?_
      refine g_iadd hC dL_law_263 ?_
      refine g_sld hC hsc0 hBs hX hbl hL q_7.1 q_7.2 dL_law_264 ?_
      refine g_aload_n hC 0 dL_law_265 rfl rfl ?_
      refine g_iload_n hC 3 dL_law_266 rfl rfl ?_
      refine g_iconst hC dL_law_267 ?_
      refine g_iadd hC dL_law_268 ?_
      refine g_sld hC hsc0 hBs hX hbl hL q_8.1 q_8.2 dL_law_269 ?_
      refine g_aload_n hC 0 dL_law_270 rfl rfl ?_
      refine g_iload_n hC 3 dL_law_271 rfl rfl ?_
      refine g_iconst hC dL_law_272 ?_
      refine g_iadd hC dL_law_273 ?_
      refine g_sld hC hsc0 hBs hX hbl hL q_9.1 q_9.2 dL_law_274 ?_
      refine g_callVI hC (sk := [J r_10]) [J (sc (v3_1 + 1).toNat), J (sc (v3_1 + 2).toNat), J (sc (v3_1 + 3).toNat), J (sc (v3_1 + 4).toNat), J (sc (v3_1 + 5).toNat)] (c_X12_feed l B D K (sc (v3_1 + 1).toNat) (sc (v3_1 + 2).toNat) (sc (v3_1 + 3).toNat) (sc (v3_1 + 4).toNat) (sc (v3_1 + 5).toNat) (hsc _) (hsc _) (hsc _) (hsc _) (hsc _) M_11 h_M_11 _ hf) yv_X12_feed wm_L_17 okX12.1 sc95 rfl ⟨Nat.le_of_ble_eq_true rfl, Nat.le_of_ble_eq_true rfl, Nat.le_of_ble_eq_true rfl, Nat.le_of_ble_eq_true rfl⟩ rfl (Nat.le_of_ble_eq_true rfl) dL_law_275 ?_
      intro r_12 M_13 h_r_12 h_M_13 hf
      refine g_icmp_eq hC 1449 h_r_10 h_r_12 dL_law_278 rfl (fun c_16 => ?_) (fun c_16 => ?_)
      · replace hf := hf.1 c_16
        obtain ⟨q_15, hf⟩ := hf
        obtain ⟨v3_14, e_v3_14⟩ : ∃ z : Int, z = v3_1 + 6 := ⟨_, rfl⟩
        replace hf := hf v3_14 e_v3_14
        have h_v3_14 : inR v3_14 := by rw [e_v3_14]; exact q_15
        refine g_iincv hC 3 e_v3_14 [(3, J v3_14), (0, .ref b), (1, .ref (B + 0)), (2, .ref (B + 95))] dL_law_1449 rfl (by decide) rfl ?_
        refine g_goto hC 18 dL_law_1452 rfl ?_
        refine g_sub [(0, .ref b), (1, .ref (B + 0)), (2, .ref (B + 95)), (3, J v3_14)] [1, 2, 3, 0] rfl ?_
        exact ih18 v3_14 M_13 hf h_v3_14 h_M_13
      · replace hf := hf.2 c_16
        refine g_iconst hC dL_law_281 ?_
        exact hf.elim
    · replace hf := hf.2
      by_cases c_26 : bAnd (sc (v3_1).toNat) 63 = 1
      · replace hf := hf.1 c_26
        refine g_tabIn hC 1 283 (bAnd_in _ _) c_26 dL_law_33 (by decide) (by decide) rfl rfl ?_
        refine g_aload_n hC 1 dL_law_283 rfl rfl ?_
        refine g_aload_n hC 0 dL_law_284 rfl rfl ?_
        refine g_iload_n hC 3 dL_law_285 rfl rfl ?_
        refine g_iconst hC dL_law_286 ?_
        refine g_iadd hC dL_law_287 ?_
        obtain ⟨q_18, hf⟩ := hf
        refine g_sld hC hsc0 hBs hX hbl hL q_18.1 q_18.2 dL_law_288 ?_
        refine g_callVZ hC (sk := []) [J (sc (v3_1 + 1).toNat)] (c_X11_end l B D K (sc (v3_1 + 1).toNat) (hsc _) M_2 h_M_2 _ hf) yv_X11_end wm_L_18 okX11.1 sc0 rfl ⟨Nat.le_of_ble_eq_true rfl, Nat.le_of_ble_eq_true rfl, Nat.le_of_ble_eq_true rfl, Nat.le_of_ble_eq_true rfl⟩ rfl (Nat.le_of_ble_eq_true rfl) dL_law_289 ?_
        intro r_19 M_20 h_r_19 h_M_20 hf
        refine g_aload_n hC 2 dL_law_292 rfl rfl ?_
        refine g_aload_n hC 0 dL_law_293 rfl rfl ?_
        refine g_iload_n hC 3 dL_law_294 rfl rfl ?_
        refine g_iconst hC dL_law_295 ?_
        refine g_iadd hC dL_law_296 ?_
        refine g_sld hC hsc0 hBs hX hbl hL q_18.1 q_18.2 dL_law_297 ?_
        refine g_callVZ hC (sk := [J r_19]) [J (sc (v3_1 + 1).toNat)] (c_X12_end l B D K (sc (v3_1 + 1).toNat) (hsc _) M_20 h_M_20 _ hf) yv_X12_end wm_L_22 okX12.1 sc95 rfl ⟨Nat.le_of_ble_eq_true rfl, Nat.le_of_ble_eq_true rfl, Nat.le_of_ble_eq_true rfl, Nat.le_of_ble_eq_true rfl⟩ rfl (Nat.le_of_ble_eq_true rfl) dL_law_298 ?_
        intro r_21 M_22 h_r_21 h_M_22 hf
        refine g_icmp_eq hC 1449 (zi_ h_r_19) (zi_ h_r_21) dL_law_301 rfl (fun c_25 => ?_) (fun c_25 => ?_)
        · replace hf := hf.1 c_25
          obtain ⟨q_24, hf⟩ := hf
          obtain ⟨v3_23, e_v3_23⟩ : ∃ z : Int, z = v3_1 + 6 := ⟨_, rfl⟩
          replace hf := hf v3_23 e_v3_23
          have h_v3_23 : inR v3_23 := by rw [e_v3_23]; exact q_24
          refine g_iincv hC 3 e_v3_23 [(3, J v3_23), (0, .ref b), (1, .ref (B + 0)), (2, .ref (B + 95))] dL_law_1449 rfl (by decide) rfl ?_
          refine g_goto hC 18 dL_law_1452 rfl ?_
          refine g_sub [(0, .ref b), (1, .ref (B + 0)), (2, .ref (B + 95)), (3, J v3_23)] [1, 2, 3, 0] rfl ?_
          exact ih18 v3_23 M_22 hf h_v3_23 h_M_22
        · replace hf := hf.2 c_25
          refine g_iconst hC dL_law_304 ?_
          exact hf.elim
      · replace hf := hf.2
        by_cases c_34 : bAnd (sc (v3_1).toNat) 63 = 2
        · replace hf := hf.1 c_34
          refine g_tabIn hC 2 306 (bAnd_in _ _) c_34 dL_law_33 (by decide) (by decide) rfl rfl ?_
          refine g_aload_n hC 1 dL_law_306 rfl rfl ?_
          refine g_callVI hC (sk := []) [] (c_X11_net l B D K   M_2 h_M_2 _ hf) yv_X11_net wm_L_23 okX11.1 sc0 rfl ⟨Nat.le_of_ble_eq_true rfl, Nat.le_of_ble_eq_true rfl, Nat.le_of_ble_eq_true rfl, Nat.le_of_ble_eq_true rfl⟩ rfl (Nat.le_of_ble_eq_true rfl) dL_law_307 ?_
          intro r_27 M_28 h_r_27 h_M_28 hf
          refine g_aload_n hC 2 dL_law_310 rfl rfl ?_
          refine g_callVI hC (sk := [J r_27]) [] (c_X12_net l B D K   M_28 h_M_28 _ hf) yv_X12_net wm_L_27 okX12.1 sc95 rfl ⟨Nat.le_of_ble_eq_true rfl, Nat.le_of_ble_eq_true rfl, Nat.le_of_ble_eq_true rfl, Nat.le_of_ble_eq_true rfl⟩ rfl (Nat.le_of_ble_eq_true rfl) dL_law_311 ?_
          intro r_29 M_30 h_r_29 h_M_30 hf
          refine g_icmp_eq hC 1449 h_r_27 h_r_29 dL_law_314 rfl (fun c_33 => ?_) (fun c_33 => ?_)
          · replace hf := hf.1 c_33
            obtain ⟨q_32, hf⟩ := hf
            obtain ⟨v3_31, e_v3_31⟩ : ∃ z : Int, z = v3_1 + 6 := ⟨_, rfl⟩
            replace hf := hf v3_31 e_v3_31
            have h_v3_31 : inR v3_31 := by rw [e_v3_31]; exact q_32
            refine g_iincv hC 3 e_v3_31 [(3, J v3_31), (0, .ref b), (1, .ref (B + 0)), (2, .ref (B + 95))] dL_law_1449 rfl (by decide) rfl ?_
            refine g_goto hC 18 dL_law_1452 rfl ?_
            refine g_sub [(0, .ref b), (1, .ref (B + 0)), (2, .ref (B + 95)), (3, J v3_31)] [1, 2, 3, 0] rfl ?_
            exact ih18 v3_31 M_30 hf h_v3_31 h_M_30
          · replace hf := hf.2 c_33
            refine g_iconst hC dL_law_317 ?_
            exact hf.elim
        · replace hf := hf.2
          by_cases c_43 : bAnd (sc (v3_1).toNat) 63 = 3
          · replace hf := hf.1 c_43
            refine g_tabIn hC 3 319 (bAnd_in _ _) c_43 dL_law_33 (by decide) (by decide) rfl rfl ?_
            refine g_aload_n hC 1 dL_law_319 rfl rfl ?_
            refine g_aload_n hC 0 dL_law_320 rfl rfl ?_
            refine g_iload_n hC 3 dL_law_321 rfl rfl ?_
            refine g_iconst hC dL_law_322 ?_
            refine g_iadd hC dL_law_323 ?_
            obtain ⟨q_35, hf⟩ := hf
            refine g_sld hC hsc0 hBs hX hbl hL q_35.1 q_35.2 dL_law_324 ?_
            refine g_callVI hC (sk := []) [J (sc (v3_1 + 1).toNat)] (c_X11_fault l B D K (sc (v3_1 + 1).toNat) (hsc _) M_2 h_M_2 _ hf) yv_X11_fault wm_L_28 okX11.1 sc0 rfl ⟨Nat.le_of_ble_eq_true rfl, Nat.le_of_ble_eq_true rfl, Nat.le_of_ble_eq_true rfl, Nat.le_of_ble_eq_true rfl⟩ rfl (Nat.le_of_ble_eq_true rfl) dL_law_325 ?_
            rintro r_36 M_37 h_r_36 - ⟨rfl, hf⟩
            refine g_aload_n hC 2 dL_law_328 rfl rfl ?_
            refine g_aload_n hC 0 dL_law_329 rfl rfl ?_
            refine g_iload_n hC 3 dL_law_330 rfl rfl ?_
            refine g_iconst hC dL_law_331 ?_
            refine g_iadd hC dL_law_332 ?_
            refine g_sld hC hsc0 hBs hX hbl hL q_35.1 q_35.2 dL_law_333 ?_
            refine g_callVI hC (sk := [J r_36]) [J (sc (v3_1 + 1).toNat)] (c_X12_fault l B D K (sc (v3_1 + 1).toNat) (hsc _) M_2 h_M_2 _ hf) yv_X12_fault wm_L_32 okX12.1 sc95 rfl ⟨Nat.le_of_ble_eq_true rfl, Nat.le_of_ble_eq_true rfl, Nat.le_of_ble_eq_true rfl, Nat.le_of_ble_eq_true rfl⟩ rfl (Nat.le_of_ble_eq_true rfl) dL_law_334 ?_
            rintro r_38 M_39 h_r_38 - ⟨rfl, hf⟩
            refine g_icmp_eq hC 1449 h_r_36 h_r_38 dL_law_337 rfl (fun c_42 => ?_) (fun c_42 => ?_)
            · replace hf := hf.1 c_42
              obtain ⟨q_41, hf⟩ := hf
              obtain ⟨v3_40, e_v3_40⟩ : ∃ z : Int, z = v3_1 + 6 := ⟨_, rfl⟩
              replace hf := hf v3_40 e_v3_40
              have h_v3_40 : inR v3_40 := by rw [e_v3_40]; exact q_41
              refine g_iincv hC 3 e_v3_40 [(3, J v3_40), (0, .ref b), (1, .ref (B + 0)), (2, .ref (B + 95))] dL_law_1449 rfl (by decide) rfl ?_
              refine g_goto hC 18 dL_law_1452 rfl ?_
              refine g_sub [(0, .ref b), (1, .ref (B + 0)), (2, .ref (B + 95)), (3, J v3_40)] [1, 2, 3, 0] rfl ?_
              exact ih18 v3_40 M_2 hf h_v3_40 h_M_2
            · replace hf := hf.2 c_42
              refine g_iconst hC dL_law_340 ?_
              exact hf.elim
          · replace hf := hf.2
            by_cases c_52 : bAnd (sc (v3_1).toNat) 63 = 4
            · replace hf := hf.1 c_52
              refine g_tabIn hC 4 342 (bAnd_in _ _) c_52 dL_law_33 (by decide) (by decide) rfl rfl ?_
              refine g_aload_n hC 1 dL_law_342 rfl rfl ?_
              refine g_aload_n hC 0 dL_law_343 rfl rfl ?_
              refine g_iload_n hC 3 dL_law_344 rfl rfl ?_
              refine g_iconst hC dL_law_345 ?_
              refine g_iadd hC dL_law_346 ?_
              obtain ⟨q_44, hf⟩ := hf
              refine g_sld hC hsc0 hBs hX hbl hL q_44.1 q_44.2 dL_law_347 ?_
              refine g_callVI hC (sk := []) [J (sc (v3_1 + 1).toNat)] (c_X11_has l B D K (sc (v3_1 + 1).toNat) (hsc _) M_2 h_M_2 _ hf) yv_X11_has wm_L_33 okX11.1 sc0 rfl ⟨Nat.le_of_ble_eq_true rfl, Nat.le_of_ble_eq_true rfl, Nat.le_of_ble_eq_true rfl, Nat.le_of_ble_eq_true rfl⟩ rfl (Nat.le_of_ble_eq_true rfl) dL_law_348 ?_
              rintro r_45 M_46 h_r_45 - ⟨rfl, hf⟩
              refine g_aload_n hC 2 dL_law_351 rfl rfl ?_
              refine g_aload_n hC 0 dL_law_352 rfl rfl ?_
              refine g_iload_n hC 3 dL_law_353 rfl rfl ?_
              refine g_iconst hC dL_law_354 ?_
              refine g_iadd hC dL_law_355 ?_
              refine g_sld hC hsc0 hBs hX hbl hL q_44.1 q_44.2 dL_law_356 ?_
              refine g_callVI hC (sk := [J r_45]) [J (sc (v3_1 + 1).toNat)] (c_X12_has l B D K (sc (v3_1 + 1).toNat) (hsc _) M_2 h_M_2 _ hf) yv_X12_has wm_L_36 okX12.1 sc95 rfl ⟨Nat.le_of_ble_eq_true rfl, Nat.le_of_ble_eq_true rfl, Nat.le_of_ble_eq_true rfl, Nat.le_of_ble_eq_true rfl⟩ rfl (Nat.le_of_ble_eq_true rfl) dL_law_357 ?_
              intro r_47 M_48 h_r_47 h_M_48 hf
              refine g_icmp_eq hC 1449 h_r_45 h_r_47 dL_law_360 rfl (fun c_51 => ?_) (fun c_51 => ?_)
              · replace hf := hf.1 c_51
                obtain ⟨q_50, hf⟩ := hf
                obtain ⟨v3_49, e_v3_49⟩ : ∃ z : Int, z = v3_1 + 6 := ⟨_, rfl⟩
                replace hf := hf v3_49 e_v3_49
                have h_v3_49 : inR v3_49 := by rw [e_v3_49]; exact q_50
                refine g_iincv hC 3 e_v3_49 [(3, J v3_49), (0, .ref b), (1, .ref (B + 0)), (2, .ref (B + 95))] dL_law_1449 rfl (by decide) rfl ?_
                refine g_goto hC 18 dL_law_1452 rfl ?_
                refine g_sub [(0, .ref b), (1, .ref (B + 0)), (2, .ref (B + 95)), (3, J v3_49)] [1, 2, 3, 0] rfl ?_
                exact ih18 v3_49 M_48 hf h_v3_49 h_M_48
              · replace hf := hf.2 c_51
                refine g_iconst hC dL_law_363 ?_
                exact hf.elim
            · replace hf := hf.2
              by_cases c_63 : bAnd (sc (v3_1).toNat) 63 = 5
              · replace hf := hf.1 c_63
                refine g_tabIn hC 5 365 (bAnd_in _ _) c_63 dL_law_33 (by decide) (by decide) rfl rfl ?_
                refine g_aload_n hC 1 dL_law_365 rfl rfl ?_
                refine g_aload_n hC 0 dL_law_366 rfl rfl ?_
                refine g_iload_n hC 3 dL_law_367 rfl rfl ?_
                refine g_iconst hC dL_law_368 ?_
                refine g_iadd hC dL_law_369 ?_
                obtain ⟨q_53, hf⟩ := hf
                refine g_sld hC hsc0 hBs hX hbl hL q_53.1 q_53.2 dL_law_370 ?_
                refine g_aload_n hC 0 dL_law_371 rfl rfl ?_
                refine g_iload_n hC 3 dL_law_372 rfl rfl ?_
                refine g_iconst hC dL_law_373 ?_
                refine g_iadd hC dL_law_374 ?_
                obtain ⟨q_54, hf⟩ := hf
                refine g_sld hC hsc0 hBs hX hbl hL q_54.1 q_54.2 dL_law_375 ?_
                refine g_aload_n hC 0 dL_law_376 rfl rfl ?_
                refine g_iload_n hC 3 dL_law_377 rfl rfl ?_
                refine g_iconst hC dL_law_378 ?_
                refine g_iadd hC dL_law_379 ?_
                obtain ⟨q_55, hf⟩ := hf
                refine g_sld hC hsc0 hBs hX hbl hL q_55.1 q_55.2 dL_law_380 ?_
                refine g_callVI hC (sk := []) [J (sc (v3_1 + 1).toNat), J (sc (v3_1 + 2).toNat), J (sc (v3_1 + 3).toNat)] (c_X11_letter l B D K (sc (v3_1 + 1).toNat) (sc (v3_1 + 2).toNat) (sc (v3_1 + 3).toNat) (hsc _) (hsc _) (hsc _) M_2 h_M_2 _ hf) yv_X11_letter wm_L_37 okX11.1 sc0 rfl ⟨Nat.le_of_ble_eq_true rfl, Nat.le_of_ble_eq_true rfl, Nat.le_of_ble_eq_true rfl, Nat.le_of_ble_eq_true rfl⟩ rfl (Nat.le_of_ble_eq_true rfl) dL_law_381 ?_
                rintro r_56 M_57 h_r_56 - ⟨rfl, hf⟩
                refine g_aload_n hC 2 dL_law_384 rfl rfl ?_
                refine g_aload_n hC 0 dL_law_385 rfl rfl ?_
                refine g_iload_n hC 3 dL_law_386 rfl rfl ?_
                refine g_iconst hC dL_law_387 ?_
                refine g_iadd hC dL_law_388 ?_
                refine g_sld hC hsc0 hBs hX hbl hL q_53.1 q_53.2 dL_law_389 ?_
                refine g_aload_n hC 0 dL_law_390 rfl rfl ?_
                refine g_iload_n hC 3 dL_law_391 rfl rfl ?_
                refine g_iconst hC dL_law_392 ?_
                refine g_iadd hC dL_law_393 ?_
                refine g_sld hC hsc0 hBs hX hbl hL q_54.1 q_54.2 dL_law_394 ?_
                refine g_aload_n hC 0 dL_law_395 rfl rfl ?_
                refine g_iload_n hC 3 dL_law_396 rfl rfl ?_
                refine g_iconst hC dL_law_397 ?_
                refine g_iadd hC dL_law_398 ?_
                refine g_sld hC hsc0 hBs hX hbl hL q_55.1 q_55.2 dL_law_399 ?_
                refine g_callVI hC (sk := [J r_56]) [J (sc (v3_1 + 1).toNat), J (sc (v3_1 + 2).toNat), J (sc (v3_1 + 3).toNat)] (c_X12_letter l B D K (sc (v3_1 + 1).toNat) (sc (v3_1 + 2).toNat) (sc (v3_1 + 3).toNat) (hsc _) (hsc _) (hsc _) M_2 h_M_2 _ hf) yv_X12_letter wm_L_41 okX12.1 sc95 rfl ⟨Nat.le_of_ble_eq_true rfl, Nat.le_of_ble_eq_true rfl, Nat.le_of_ble_eq_true rfl, Nat.le_of_ble_eq_true rfl⟩ rfl (Nat.le_of_ble_eq_true rfl) dL_law_400 ?_
                rintro r_58 M_59 h_r_58 - ⟨rfl, hf⟩
                refine g_icmp_eq hC 1449 h_r_56 h_r_58 dL_law_403 rfl (fun c_62 => ?_) (fun c_62 => ?_)
                · replace hf := hf.1 c_62
                  obtain ⟨q_61, hf⟩ := hf
                  obtain ⟨v3_60, e_v3_60⟩ : ∃ z : Int, z = v3_1 + 6 := ⟨_, rfl⟩
                  replace hf := hf v3_60 e_v3_60
                  have h_v3_60 : inR v3_60 := by rw [e_v3_60]; exact q_61
                  refine g_iincv hC 3 e_v3_60 [(3, J v3_60), (0, .ref b), (1, .ref (B + 0)), (2, .ref (B + 95))] dL_law_1449 rfl (by decide) rfl ?_
                  refine g_goto hC 18 dL_law_1452 rfl ?_
                  refine g_sub [(0, .ref b), (1, .ref (B + 0)), (2, .ref (B + 95)), (3, J v3_60)] [1, 2, 3, 0] rfl ?_
                  exact ih18 v3_60 M_2 hf h_v3_60 h_M_2
                · replace hf := hf.2 c_62
                  refine g_iconst hC dL_law_406 ?_
                  exact hf.elim
              · replace hf := hf.2
                by_cases c_73 : bAnd (sc (v3_1).toNat) 63 = 6
                · replace hf := hf.1 c_73
                  refine g_tabIn hC 6 408 (bAnd_in _ _) c_73 dL_law_33 (by decide) (by decide) rfl rfl ?_
                  refine g_aload_n hC 1 dL_law_408 rfl rfl ?_
                  refine g_aload_n hC 0 dL_law_409 rfl rfl ?_
                  refine g_iload_n hC 3 dL_law_410 rfl rfl ?_
                  refine g_iconst hC dL_law_411 ?_
                  refine g_iadd hC dL_law_412 ?_
                  obtain ⟨q_64, hf⟩ := hf
                  refine g_sld hC hsc0 hBs hX hbl hL q_64.1 q_64.2 dL_law_413 ?_
                  refine g_aload_n hC 0 dL_law_414 rfl rfl ?_
                  refine g_iload_n hC 3 dL_law_415 rfl rfl ?_
                  refine g_iconst hC dL_law_416 ?_
                  refine g_iadd hC dL_law_417 ?_
                  obtain ⟨q_65, hf⟩ := hf
                  refine g_sld hC hsc0 hBs hX hbl hL q_65.1 q_65.2 dL_law_418 ?_
                  refine g_callVI hC (sk := []) [J (sc (v3_1 + 1).toNat), J (sc (v3_1 + 2).toNat)] (c_X11_reach l B D K (sc (v3_1 + 1).toNat) (sc (v3_1 + 2).toNat) (hsc _) (hsc _) M_2 h_M_2 _ hf) yv_X11_reach wm_L_42 okX11.1 sc0 rfl ⟨Nat.le_of_ble_eq_true rfl, Nat.le_of_ble_eq_true rfl, Nat.le_of_ble_eq_true rfl, Nat.le_of_ble_eq_true rfl⟩ rfl (Nat.le_of_ble_eq_true rfl) dL_law_419 ?_
                  rintro r_66 M_67 h_r_66 - ⟨rfl, hf⟩
                  refine g_aload_n hC 2 dL_law_422 rfl rfl ?_
                  refine g_aload_n hC 0 dL_law_423 rfl rfl ?_
                  refine g_iload_n hC 3 dL_law_424 rfl rfl ?_
                  refine g_iconst hC dL_law_425 ?_
                  refine g_iadd hC dL_law_426 ?_
                  refine g_sld hC hsc0 hBs hX hbl hL q_64.1 q_64.2 dL_law_427 ?_
                  refine g_aload_n hC 0 dL_law_428 rfl rfl ?_
                  refine g_iload_n hC 3 dL_law_429 rfl rfl ?_
                  refine g_iconst hC dL_law_430 ?_
                  refine g_iadd hC dL_law_431 ?_
                  refine g_sld hC hsc0 hBs hX hbl hL q_65.1 q_65.2 dL_law_432 ?_
                  refine g_callVI hC (sk := [J r_66]) [J (sc (v3_1 + 1).toNat), J (sc (v3_1 + 2).toNat)] (c_X12_reach l B D K (sc (v3_1 + 1).toNat) (sc (v3_1 + 2).toNat) (hsc _) (hsc _) M_2 h_M_2 _ hf) yv_X12_reach wm_L_46 okX12.1 sc95 rfl ⟨Nat.le_of_ble_eq_true rfl, Nat.le_of_ble_eq_true rfl, Nat.le_of_ble_eq_true rfl, Nat.le_of_ble_eq_true rfl⟩ rfl (Nat.le_of_ble_eq_true rfl) dL_law_433 ?_
                  intro r_68 M_69 h_r_68 h_M_69 hf
                  refine g_icmp_eq hC 1449 h_r_66 h_r_68 dL_law_436 rfl (fun c_72 => ?_) (fun c_72 => ?_)
                  · replace hf := hf.1 c_72
                    obtain ⟨q_71, hf⟩ := hf
                    obtain ⟨v3_70, e_v3_70⟩ : ∃ z : Int, z = v3_1 + 6 := ⟨_, rfl⟩
                    replace hf := hf v3_70 e_v3_70
                    have h_v3_70 : inR v3_70 := by rw [e_v3_70]; exact q_71
                    refine g_iincv hC 3 e_v3_70 [(3, J v3_70), (0, .ref b), (1, .ref (B + 0)), (2, .ref (B + 95))] dL_law_1449 rfl (by decide) rfl ?_
                    refine g_goto hC 18 dL_law_1452 rfl ?_
                    refine g_sub [(0, .ref b), (1, .ref (B + 0)), (2, .ref (B + 95)), (3, J v3_70)] [1, 2, 3, 0] rfl ?_
                    exact ih18 v3_70 M_69 hf h_v3_70 h_M_69
                  · replace hf := hf.2 c_72
                    refine g_iconst hC dL_law_439 ?_
                    exact hf.elim
                · replace hf := hf.2
                  by_cases c_83 : bAnd (sc (v3_1).toNat) 63 = 7
                  · replace hf := hf.1 c_83
                    refine g_tabIn hC 7 441 (bAnd_in _ _) c_83 dL_law_33 (by decide) (by decide) rfl rfl ?_
                    refine g_aload_n hC 1 dL_law_441 rfl rfl ?_
                    refine g_aload_n hC 0 dL_law_442 rfl rfl ?_
                    refine g_iload_n hC 3 dL_law_443 rfl rfl ?_
                    refine g_iconst hC dL_law_444 ?_
                    refine g_iadd hC dL_law_445 ?_
                    obtain ⟨q_74, hf⟩ := hf
                    refine g_sld hC hsc0 hBs hX hbl hL q_74.1 q_74.2 dL_law_446 ?_
                    refine g_aload_n hC 0 dL_law_447 rfl rfl ?_
                    refine g_iload_n hC 3 dL_law_448 rfl rfl ?_
                    refine g_iconst hC dL_law_449 ?_
                    refine g_iadd hC dL_law_450 ?_
                    obtain ⟨q_75, hf⟩ := hf
                    refine g_sld hC hsc0 hBs hX hbl hL q_75.1 q_75.2 dL_law_451 ?_
                    refine g_callVI hC (sk := []) [J (sc (v3_1 + 1).toNat), J (sc (v3_1 + 2).toNat)] (c_X11_place l B D K (sc (v3_1 + 1).toNat) (sc (v3_1 + 2).toNat) (hsc _) (hsc _) M_2 h_M_2 _ hf) yv_X11_place wm_L_47 okX11.1 sc0 rfl ⟨Nat.le_of_ble_eq_true rfl, Nat.le_of_ble_eq_true rfl, Nat.le_of_ble_eq_true rfl, Nat.le_of_ble_eq_true rfl⟩ rfl (Nat.le_of_ble_eq_true rfl) dL_law_452 ?_
                    rintro r_76 M_77 h_r_76 - ⟨rfl, hf⟩
                    refine g_aload_n hC 2 dL_law_455 rfl rfl ?_
                    refine g_aload_n hC 0 dL_law_456 rfl rfl ?_
                    refine g_iload_n hC 3 dL_law_457 rfl rfl ?_
                    refine g_iconst hC dL_law_458 ?_
                    refine g_iadd hC dL_law_459 ?_
                    refine g_sld hC hsc0 hBs hX hbl hL q_74.1 q_74.2 dL_law_460 ?_
                    refine g_aload_n hC 0 dL_law_461 rfl rfl ?_
                    refine g_iload_n hC 3 dL_law_462 rfl rfl ?_
                    refine g_iconst hC dL_law_463 ?_
                    refine g_iadd hC dL_law_464 ?_
                    refine g_sld hC hsc0 hBs hX hbl hL q_75.1 q_75.2 dL_law_465 ?_
                    refine g_callVI hC (sk := [J r_76]) [J (sc (v3_1 + 1).toNat), J (sc (v3_1 + 2).toNat)] (c_X12_place l B D K (sc (v3_1 + 1).toNat) (sc (v3_1 + 2).toNat) (hsc _) (hsc _) M_2 h_M_2 _ hf) yv_X12_place wm_L_50 okX12.1 sc95 rfl ⟨Nat.le_of_ble_eq_true rfl, Nat.le_of_ble_eq_true rfl, Nat.le_of_ble_eq_true rfl, Nat.le_of_ble_eq_true rfl⟩ rfl (Nat.le_of_ble_eq_true rfl) dL_law_466 ?_
                    intro r_78 M_79 h_r_78 h_M_79 hf
                    refine g_icmp_eq hC 1449 h_r_76 h_r_78 dL_law_469 rfl (fun c_82 => ?_) (fun c_82 => ?_)
                    · replace hf := hf.1 c_82
                      obtain ⟨q_81, hf⟩ := hf
                      obtain ⟨v3_80, e_v3_80⟩ : ∃ z : Int, z = v3_1 + 6 := ⟨_, rfl⟩
                      replace hf := hf v3_80 e_v3_80
                      have h_v3_80 : inR v3_80 := by rw [e_v3_80]; exact q_81
                      refine g_iincv hC 3 e_v3_80 [(3, J v3_80), (0, .ref b), (1, .ref (B + 0)), (2, .ref (B + 95))] dL_law_1449 rfl (by decide) rfl ?_
                      refine g_goto hC 18 dL_law_1452 rfl ?_
                      refine g_sub [(0, .ref b), (1, .ref (B + 0)), (2, .ref (B + 95)), (3, J v3_80)] [1, 2, 3, 0] rfl ?_
                      exact ih18 v3_80 M_79 hf h_v3_80 h_M_79
                    · replace hf := hf.2 c_82
                      refine g_iconst hC dL_law_472 ?_
                      exact hf.elim
                  · replace hf := hf.2
                    by_cases c_94 : bAnd (sc (v3_1).toNat) 63 = 8
                    · replace hf := hf.1 c_94
                      refine g_tabIn hC 8 474 (bAnd_in _ _) c_94 dL_law_33 (by decide) (by decide) rfl rfl ?_
                      refine g_aload_n hC 1 dL_law_474 rfl rfl ?_
                      refine g_aload_n hC 0 dL_law_475 rfl rfl ?_
                      refine g_iload_n hC 3 dL_law_476 rfl rfl ?_
                      refine g_iconst hC dL_law_477 ?_
                      refine g_iadd hC dL_law_478 ?_
                      obtain ⟨q_84, hf⟩ := hf
                      refine g_sld hC hsc0 hBs hX hbl hL q_84.1 q_84.2 dL_law_479 ?_
                      refine g_aload_n hC 0 dL_law_480 rfl rfl ?_
                      refine g_iload_n hC 3 dL_law_481 rfl rfl ?_
                      refine g_iconst hC dL_law_482 ?_
                      refine g_iadd hC dL_law_483 ?_
                      obtain ⟨q_85, hf⟩ := hf
                      refine g_sld hC hsc0 hBs hX hbl hL q_85.1 q_85.2 dL_law_484 ?_
                      refine g_aload_n hC 0 dL_law_485 rfl rfl ?_
                      refine g_iload_n hC 3 dL_law_486 rfl rfl ?_
                      refine g_iconst hC dL_law_487 ?_
                      refine g_iadd hC dL_law_488 ?_
                      obtain ⟨q_86, hf⟩ := hf
                      refine g_sld hC hsc0 hBs hX hbl hL q_86.1 q_86.2 dL_law_489 ?_
                      refine g_callVI hC (sk := []) [J (sc (v3_1 + 1).toNat), J (sc (v3_1 + 2).toNat), J (sc (v3_1 + 3).toNat)] (c_X11_rank l B D K (sc (v3_1 + 1).toNat) (sc (v3_1 + 2).toNat) (sc (v3_1 + 3).toNat) (hsc _) (hsc _) (hsc _) M_2 h_M_2 _ hf) yv_X11_rank wm_L_51 okX11.1 sc0 rfl ⟨Nat.le_of_ble_eq_true rfl, Nat.le_of_ble_eq_true rfl, Nat.le_of_ble_eq_true rfl, Nat.le_of_ble_eq_true rfl⟩ rfl (Nat.le_of_ble_eq_true rfl) dL_law_490 ?_
                      rintro r_87 M_88 h_r_87 - ⟨rfl, hf⟩
                      refine g_aload_n hC 2 dL_law_493 rfl rfl ?_
                      refine g_aload_n hC 0 dL_law_494 rfl rfl ?_
                      refine g_iload_n hC 3 dL_law_495 rfl rfl ?_
                      refine g_iconst hC dL_law_496 ?_
                      refine g_iadd hC dL_law_497 ?_
                      refine g_sld hC hsc0 hBs hX hbl hL q_84.1 q_84.2 dL_law_498 ?_
                      refine g_aload_n hC 0 dL_law_499 rfl rfl ?_
                      refine g_iload_n hC 3 dL_law_500 rfl rfl ?_
                      refine g_iconst hC dL_law_501 ?_
                      refine g_iadd hC dL_law_502 ?_
                      refine g_sld hC hsc0 hBs hX hbl hL q_85.1 q_85.2 dL_law_503 ?_
                      refine g_aload_n hC 0 dL_law_504 rfl rfl ?_
                      refine g_iload_n hC 3 dL_law_505 rfl rfl ?_
                      refine g_iconst hC dL_law_506 ?_
                      refine g_iadd hC dL_law_507 ?_
                      refine g_sld hC hsc0 hBs hX hbl hL q_86.1 q_86.2 dL_law_508 ?_
                      refine g_callVI hC (sk := [J r_87]) [J (sc (v3_1 + 1).toNat), J (sc (v3_1 + 2).toNat), J (sc (v3_1 + 3).toNat)] (c_X12_rank l B D K (sc (v3_1 + 1).toNat) (sc (v3_1 + 2).toNat) (sc (v3_1 + 3).toNat) (hsc _) (hsc _) (hsc _) M_2 h_M_2 _ hf) yv_X12_rank wm_L_54 okX12.1 sc95 rfl ⟨Nat.le_of_ble_eq_true rfl, Nat.le_of_ble_eq_true rfl, Nat.le_of_ble_eq_true rfl, Nat.le_of_ble_eq_true rfl⟩ rfl (Nat.le_of_ble_eq_true rfl) dL_law_509 ?_
                      intro r_89 M_90 h_r_89 h_M_90 hf
                      refine g_icmp_eq hC 1449 h_r_87 h_r_89 dL_law_512 rfl (fun c_93 => ?_) (fun c_93 => ?_)
                      · replace hf := hf.1 c_93
                        obtain ⟨q_92, hf⟩ := hf
                        obtain ⟨v3_91, e_v3_91⟩ : ∃ z : Int, z = v3_1 + 6 := ⟨_, rfl⟩
                        replace hf := hf v3_91 e_v3_91
                        have h_v3_91 : inR v3_91 := by rw [e_v3_91]; exact q_92
                        refine g_iincv hC 3 e_v3_91 [(3, J v3_91), (0, .ref b), (1, .ref (B + 0)), (2, .ref (B + 95))] dL_law_1449 rfl (by decide) rfl ?_
                        refine g_goto hC 18 dL_law_1452 rfl ?_
                        refine g_sub [(0, .ref b), (1, .ref (B + 0)), (2, .ref (B + 95)), (3, J v3_91)] [1, 2, 3, 0] rfl ?_
                        exact ih18 v3_91 M_90 hf h_v3_91 h_M_90
                      · replace hf := hf.2 c_93
                        refine g_iconst hC dL_law_515 ?_
                        exact hf.elim
                    · replace hf := hf.2
                      by_cases c_105 : bAnd (sc (v3_1).toNat) 63 = 9
                      · replace hf := hf.1 c_105
                        refine g_tabIn hC 9 517 (bAnd_in _ _) c_105 dL_law_33 (by decide) (by decide) rfl rfl ?_
                        refine g_aload_n hC 1 dL_law_517 rfl rfl ?_
                        refine g_aload_n hC 0 dL_law_518 rfl rfl ?_
                        refine g_iload_n hC 3 dL_law_519 rfl rfl ?_
                        refine g_iconst hC dL_law_520 ?_
                        refine g_iadd hC dL_law_521 ?_
                        obtain ⟨q_95, hf⟩ := hf
                        refine g_sld hC hsc0 hBs hX hbl hL q_95.1 q_95.2 dL_law_522 ?_
                        refine g_aload_n hC 0 dL_law_523 rfl rfl ?_
                        refine g_iload_n hC 3 dL_law_524 rfl rfl ?_
                        refine g_iconst hC dL_law_525 ?_
                        refine g_iadd hC dL_law_526 ?_
                        obtain ⟨q_96, hf⟩ := hf
                        refine g_sld hC hsc0 hBs hX hbl hL q_96.1 q_96.2 dL_law_527 ?_
                        refine g_aload_n hC 0 dL_law_528 rfl rfl ?_
                        refine g_iload_n hC 3 dL_law_529 rfl rfl ?_
                        refine g_iconst hC dL_law_530 ?_
                        refine g_iadd hC dL_law_531 ?_
                        obtain ⟨q_97, hf⟩ := hf
                        refine g_sld hC hsc0 hBs hX hbl hL q_97.1 q_97.2 dL_law_532 ?_
                        refine g_callVI hC (sk := []) [J (sc (v3_1 + 1).toNat), J (sc (v3_1 + 2).toNat), J (sc (v3_1 + 3).toNat)] (c_X11_goes l B D K (sc (v3_1 + 1).toNat) (sc (v3_1 + 2).toNat) (sc (v3_1 + 3).toNat) (hsc _) (hsc _) (hsc _) M_2 h_M_2 _ hf) yv_X11_goes wm_L_55 okX11.1 sc0 rfl ⟨Nat.le_of_ble_eq_true rfl, Nat.le_of_ble_eq_true rfl, Nat.le_of_ble_eq_true rfl, Nat.le_of_ble_eq_true rfl⟩ rfl (Nat.le_of_ble_eq_true rfl) dL_law_533 ?_
                        rintro r_98 M_99 h_r_98 - ⟨rfl, hf⟩
                        refine g_aload_n hC 2 dL_law_536 rfl rfl ?_
                        refine g_aload_n hC 0 dL_law_537 rfl rfl ?_
                        refine g_iload_n hC 3 dL_law_538 rfl rfl ?_
                        refine g_iconst hC dL_law_539 ?_
                        refine g_iadd hC dL_law_540 ?_
                        refine g_sld hC hsc0 hBs hX hbl hL q_95.1 q_95.2 dL_law_541 ?_
                        refine g_aload_n hC 0 dL_law_542 rfl rfl ?_
                        refine g_iload_n hC 3 dL_law_543 rfl rfl ?_
                        refine g_iconst hC dL_law_544 ?_
                        refine g_iadd hC dL_law_545 ?_
                        refine g_sld hC hsc0 hBs hX hbl hL q_96.1 q_96.2 dL_law_546 ?_
                        refine g_aload_n hC 0 dL_law_547 rfl rfl ?_
                        refine g_iload_n hC 3 dL_law_548 rfl rfl ?_
                        refine g_iconst hC dL_law_549 ?_
                        refine g_iadd hC dL_law_550 ?_
                        refine g_sld hC hsc0 hBs hX hbl hL q_97.1 q_97.2 dL_law_551 ?_
                        refine g_callVI hC (sk := [J r_98]) [J (sc (v3_1 + 1).toNat), J (sc (v3_1 + 2).toNat), J (sc (v3_1 + 3).toNat)] (c_X12_goes l B D K (sc (v3_1 + 1).toNat) (sc (v3_1 + 2).toNat) (sc (v3_1 + 3).toNat) (hsc _) (hsc _) (hsc _) M_2 h_M_2 _ hf) yv_X12_goes wm_L_58 okX12.1 sc95 rfl ⟨Nat.le_of_ble_eq_true rfl, Nat.le_of_ble_eq_true rfl, Nat.le_of_ble_eq_true rfl, Nat.le_of_ble_eq_true rfl⟩ rfl (Nat.le_of_ble_eq_true rfl) dL_law_552 ?_
                        intro r_100 M_101 h_r_100 h_M_101 hf
                        refine g_icmp_eq hC 1449 h_r_98 h_r_100 dL_law_555 rfl (fun c_104 => ?_) (fun c_104 => ?_)
                        · replace hf := hf.1 c_104
                          obtain ⟨q_103, hf⟩ := hf
                          obtain ⟨v3_102, e_v3_102⟩ : ∃ z : Int, z = v3_1 + 6 := ⟨_, rfl⟩
                          replace hf := hf v3_102 e_v3_102
                          have h_v3_102 : inR v3_102 := by rw [e_v3_102]; exact q_103
                          refine g_iincv hC 3 e_v3_102 [(3, J v3_102), (0, .ref b), (1, .ref (B + 0)), (2, .ref (B + 95))] dL_law_1449 rfl (by decide) rfl ?_
                          refine g_goto hC 18 dL_law_1452 rfl ?_
                          refine g_sub [(0, .ref b), (1, .ref (B + 0)), (2, .ref (B + 95)), (3, J v3_102)] [1, 2, 3, 0] rfl ?_
                          exact ih18 v3_102 M_101 hf h_v3_102 h_M_101
                        · replace hf := hf.2 c_104
                          refine g_iconst hC dL_law_558 ?_
                          exact hf.elim
                      · replace hf := hf.2
                        by_cases c_116 : bAnd (sc (v3_1).toNat) 63 = 10
                        · replace hf := hf.1 c_116
                          refine g_tabIn hC 10 560 (bAnd_in _ _) c_116 dL_law_33 (by decide) (by decide) rfl rfl ?_
                          refine g_aload_n hC 1 dL_law_560 rfl rfl ?_
                          refine g_aload_n hC 0 dL_law_561 rfl rfl ?_
                          refine g_iload_n hC 3 dL_law_562 rfl rfl ?_
                          refine g_iconst hC dL_law_563 ?_
                          refine g_iadd hC dL_law_564 ?_
                          obtain ⟨q_106, hf⟩ := hf
                          refine g_sld hC hsc0 hBs hX hbl hL q_106.1 q_106.2 dL_law_565 ?_
                          refine g_aload_n hC 0 dL_law_566 rfl rfl ?_
                          refine g_iload_n hC 3 dL_law_567 rfl rfl ?_
                          refine g_iconst hC dL_law_568 ?_
                          refine g_iadd hC dL_law_569 ?_
                          obtain ⟨q_107, hf⟩ := hf
                          refine g_sld hC hsc0 hBs hX hbl hL q_107.1 q_107.2 dL_law_570 ?_
                          refine g_aload_n hC 0 dL_law_571 rfl rfl ?_
                          refine g_iload_n hC 3 dL_law_572 rfl rfl ?_
                          refine g_iconst hC dL_law_573 ?_
                          refine g_iadd hC dL_law_574 ?_
                          obtain ⟨q_108, hf⟩ := hf
                          refine g_sld hC hsc0 hBs hX hbl hL q_108.1 q_108.2 dL_law_575 ?_
                          refine g_callVI hC (sk := []) [J (sc (v3_1 + 1).toNat), J (sc (v3_1 + 2).toNat), J (sc (v3_1 + 3).toNat)] (c_X11_stem l B D K (sc (v3_1 + 1).toNat) (sc (v3_1 + 2).toNat) (sc (v3_1 + 3).toNat) (hsc _) (hsc _) (hsc _) M_2 h_M_2 _ hf) yv_X11_stem wm_L_59 okX11.1 sc0 rfl ⟨Nat.le_of_ble_eq_true rfl, Nat.le_of_ble_eq_true rfl, Nat.le_of_ble_eq_true rfl, Nat.le_of_ble_eq_true rfl⟩ rfl (Nat.le_of_ble_eq_true rfl) dL_law_576 ?_
                          rintro r_109 M_110 h_r_109 - ⟨rfl, hf⟩
                          refine g_aload_n hC 2 dL_law_579 rfl rfl ?_
                          refine g_aload_n hC 0 dL_law_580 rfl rfl ?_
                          refine g_iload_n hC 3 dL_law_581 rfl rfl ?_
                          refine g_iconst hC dL_law_582 ?_
                          refine g_iadd hC dL_law_583 ?_
                          refine g_sld hC hsc0 hBs hX hbl hL q_106.1 q_106.2 dL_law_584 ?_
                          refine g_aload_n hC 0 dL_law_585 rfl rfl ?_
                          refine g_iload_n hC 3 dL_law_586 rfl rfl ?_
                          refine g_iconst hC dL_law_587 ?_
                          refine g_iadd hC dL_law_588 ?_
                          refine g_sld hC hsc0 hBs hX hbl hL q_107.1 q_107.2 dL_law_589 ?_
                          refine g_aload_n hC 0 dL_law_590 rfl rfl ?_
                          refine g_iload_n hC 3 dL_law_591 rfl rfl ?_
                          refine g_iconst hC dL_law_592 ?_
                          refine g_iadd hC dL_law_593 ?_
                          refine g_sld hC hsc0 hBs hX hbl hL q_108.1 q_108.2 dL_law_594 ?_
                          refine g_callVI hC (sk := [J r_109]) [J (sc (v3_1 + 1).toNat), J (sc (v3_1 + 2).toNat), J (sc (v3_1 + 3).toNat)] (c_X12_stem l B D K (sc (v3_1 + 1).toNat) (sc (v3_1 + 2).toNat) (sc (v3_1 + 3).toNat) (hsc _) (hsc _) (hsc _) M_2 h_M_2 _ hf) yv_X12_stem wm_L_62 okX12.1 sc95 rfl ⟨Nat.le_of_ble_eq_true rfl, Nat.le_of_ble_eq_true rfl, Nat.le_of_ble_eq_true rfl, Nat.le_of_ble_eq_true rfl⟩ rfl (Nat.le_of_ble_eq_true rfl) dL_law_595 ?_
                          intro r_111 M_112 h_r_111 h_M_112 hf
                          refine g_icmp_eq hC 1449 h_r_109 h_r_111 dL_law_598 rfl (fun c_115 => ?_) (fun c_115 => ?_)
                          · replace hf := hf.1 c_115
                            obtain ⟨q_114, hf⟩ := hf
                            obtain ⟨v3_113, e_v3_113⟩ : ∃ z : Int, z = v3_1 + 6 := ⟨_, rfl⟩
                            replace hf := hf v3_113 e_v3_113
                            have h_v3_113 : inR v3_113 := by rw [e_v3_113]; exact q_114
                            refine g_iincv hC 3 e_v3_113 [(3, J v3_113), (0, .ref b), (1, .ref (B + 0)), (2, .ref (B + 95))] dL_law_1449 rfl (by decide) rfl ?_
                            refine g_goto hC 18 dL_law_1452 rfl ?_
                            refine g_sub [(0, .ref b), (1, .ref (B + 0)), (2, .ref (B + 95)), (3, J v3_113)] [1, 2, 3, 0] rfl ?_
                            exact ih18 v3_113 M_112 hf h_v3_113 h_M_112
                          · replace hf := hf.2 c_115
                            refine g_iconst hC dL_law_601 ?_
                            exact hf.elim
                        · replace hf := hf.2
                          by_cases c_126 : bAnd (sc (v3_1).toNat) 63 = 11
                          · replace hf := hf.1 c_126
                            refine g_tabIn hC 11 603 (bAnd_in _ _) c_126 dL_law_33 (by decide) (by decide) rfl rfl ?_
                            refine g_aload_n hC 1 dL_law_603 rfl rfl ?_
                            refine g_aload_n hC 0 dL_law_604 rfl rfl ?_
                            refine g_iload_n hC 3 dL_law_605 rfl rfl ?_
                            refine g_iconst hC dL_law_606 ?_
                            refine g_iadd hC dL_law_607 ?_
                            obtain ⟨q_117, hf⟩ := hf
                            refine g_sld hC hsc0 hBs hX hbl hL q_117.1 q_117.2 dL_law_608 ?_
                            refine g_aload_n hC 0 dL_law_609 rfl rfl ?_
                            refine g_iload_n hC 3 dL_law_610 rfl rfl ?_
                            refine g_iconst hC dL_law_611 ?_
                            refine g_iadd hC dL_law_612 ?_
                            obtain ⟨q_118, hf⟩ := hf
                            refine g_sld hC hsc0 hBs hX hbl hL q_118.1 q_118.2 dL_law_613 ?_
                            refine g_callVI hC (sk := []) [J (sc (v3_1 + 1).toNat), J (sc (v3_1 + 2).toNat)] (c_X11_stems l B D K (sc (v3_1 + 1).toNat) (sc (v3_1 + 2).toNat) (hsc _) (hsc _) M_2 h_M_2 _ hf) yv_X11_stems wm_L_63 okX11.1 sc0 rfl ⟨Nat.le_of_ble_eq_true rfl, Nat.le_of_ble_eq_true rfl, Nat.le_of_ble_eq_true rfl, Nat.le_of_ble_eq_true rfl⟩ rfl (Nat.le_of_ble_eq_true rfl) dL_law_614 ?_
                            rintro r_119 M_120 h_r_119 - ⟨rfl, hf⟩
                            refine g_aload_n hC 2 dL_law_617 rfl rfl ?_
                            refine g_aload_n hC 0 dL_law_618 rfl rfl ?_
                            refine g_iload_n hC 3 dL_law_619 rfl rfl ?_
                            refine g_iconst hC dL_law_620 ?_
                            refine g_iadd hC dL_law_621 ?_
                            refine g_sld hC hsc0 hBs hX hbl hL q_117.1 q_117.2 dL_law_622 ?_
                            refine g_aload_n hC 0 dL_law_623 rfl rfl ?_
                            refine g_iload_n hC 3 dL_law_624 rfl rfl ?_
                            refine g_iconst hC dL_law_625 ?_
                            refine g_iadd hC dL_law_626 ?_
                            refine g_sld hC hsc0 hBs hX hbl hL q_118.1 q_118.2 dL_law_627 ?_
                            refine g_callVI hC (sk := [J r_119]) [J (sc (v3_1 + 1).toNat), J (sc (v3_1 + 2).toNat)] (c_X12_stems l B D K (sc (v3_1 + 1).toNat) (sc (v3_1 + 2).toNat) (hsc _) (hsc _) M_2 h_M_2 _ hf) yv_X12_stems wm_L_66 okX12.1 sc95 rfl ⟨Nat.le_of_ble_eq_true rfl, Nat.le_of_ble_eq_true rfl, Nat.le_of_ble_eq_true rfl, Nat.le_of_ble_eq_true rfl⟩ rfl (Nat.le_of_ble_eq_true rfl) dL_law_628 ?_
                            intro r_121 M_122 h_r_121 h_M_122 hf
                            refine g_icmp_eq hC 1449 h_r_119 h_r_121 dL_law_631 rfl (fun c_125 => ?_) (fun c_125 => ?_)
                            · replace hf := hf.1 c_125
                              obtain ⟨q_124, hf⟩ := hf
                              obtain ⟨v3_123, e_v3_123⟩ : ∃ z : Int, z = v3_1 + 6 := ⟨_, rfl⟩
                              replace hf := hf v3_123 e_v3_123
                              have h_v3_123 : inR v3_123 := by rw [e_v3_123]; exact q_124
                              refine g_iincv hC 3 e_v3_123 [(3, J v3_123), (0, .ref b), (1, .ref (B + 0)), (2, .ref (B + 95))] dL_law_1449 rfl (by decide) rfl ?_
                              refine g_goto hC 18 dL_law_1452 rfl ?_
                              refine g_sub [(0, .ref b), (1, .ref (B + 0)), (2, .ref (B + 95)), (3, J v3_123)] [1, 2, 3, 0] rfl ?_
                              exact ih18 v3_123 M_122 hf h_v3_123 h_M_122
                            · replace hf := hf.2 c_125
                              refine g_iconst hC dL_law_634 ?_
                              exact hf.elim
                          · replace hf := hf.2
                            by_cases c_136 : bAnd (sc (v3_1).toNat) 63 = 12
                            · replace hf := hf.1 c_136
                              refine g_tabIn hC 12 636 (bAnd_in _ _) c_136 dL_law_33 (by decide) (by decide) rfl rfl ?_
                              refine g_aload_n hC 1 dL_law_636 rfl rfl ?_
                              refine g_aload_n hC 0 dL_law_637 rfl rfl ?_
                              refine g_iload_n hC 3 dL_law_638 rfl rfl ?_
                              refine g_iconst hC dL_law_639 ?_
                              refine g_iadd hC dL_law_640 ?_
                              obtain ⟨q_127, hf⟩ := hf
                              refine g_sld hC hsc0 hBs hX hbl hL q_127.1 q_127.2 dL_law_641 ?_
                              refine g_aload_n hC 0 dL_law_642 rfl rfl ?_
                              refine g_iload_n hC 3 dL_law_643 rfl rfl ?_
                              refine g_iconst hC dL_law_644 ?_
                              refine g_iadd hC dL_law_645 ?_
                              obtain ⟨q_128, hf⟩ := hf
                              refine g_sld hC hsc0 hBs hX hbl hL q_128.1 q_128.2 dL_law_646 ?_
                              refine g_callVI hC (sk := []) [J (sc (v3_1 + 1).toNat), J (sc (v3_1 + 2).toNat)] (c_X11_beyond l B D K (sc (v3_1 + 1).toNat) (sc (v3_1 + 2).toNat) (hsc _) (hsc _) M_2 h_M_2 _ hf) yv_X11_beyond wm_L_67 okX11.1 sc0 rfl ⟨Nat.le_of_ble_eq_true rfl, Nat.le_of_ble_eq_true rfl, Nat.le_of_ble_eq_true rfl, Nat.le_of_ble_eq_true rfl⟩ rfl (Nat.le_of_ble_eq_true rfl) dL_law_647 ?_
                              rintro r_129 M_130 h_r_129 - ⟨rfl, hf⟩
                              refine g_aload_n hC 2 dL_law_650 rfl rfl ?_
                              refine g_aload_n hC 0 dL_law_651 rfl rfl ?_
                              refine g_iload_n hC 3 dL_law_652 rfl rfl ?_
                              refine g_iconst hC dL_law_653 ?_
                              refine g_iadd hC dL_law_654 ?_
                              refine g_sld hC hsc0 hBs hX hbl hL q_127.1 q_127.2 dL_law_655 ?_
                              refine g_aload_n hC 0 dL_law_656 rfl rfl ?_
                              refine g_iload_n hC 3 dL_law_657 rfl rfl ?_
                              refine g_iconst hC dL_law_658 ?_
                              refine g_iadd hC dL_law_659 ?_
                              refine g_sld hC hsc0 hBs hX hbl hL q_128.1 q_128.2 dL_law_660 ?_
                              refine g_callVI hC (sk := [J r_129]) [J (sc (v3_1 + 1).toNat), J (sc (v3_1 + 2).toNat)] (c_X12_beyond l B D K (sc (v3_1 + 1).toNat) (sc (v3_1 + 2).toNat) (hsc _) (hsc _) M_2 h_M_2 _ hf) yv_X12_beyond wm_L_70 okX12.1 sc95 rfl ⟨Nat.le_of_ble_eq_true rfl, Nat.le_of_ble_eq_true rfl, Nat.le_of_ble_eq_true rfl, Nat.le_of_ble_eq_true rfl⟩ rfl (Nat.le_of_ble_eq_true rfl) dL_law_661 ?_
                              intro r_131 M_132 h_r_131 h_M_132 hf
                              refine g_icmp_eq hC 1449 h_r_129 h_r_131 dL_law_664 rfl (fun c_135 => ?_) (fun c_135 => ?_)
                              · replace hf := hf.1 c_135
                                obtain ⟨q_134, hf⟩ := hf
                                obtain ⟨v3_133, e_v3_133⟩ : ∃ z : Int, z = v3_1 + 6 := ⟨_, rfl⟩
                                replace hf := hf v3_133 e_v3_133
                                have h_v3_133 : inR v3_133 := by rw [e_v3_133]; exact q_134
                                refine g_iincv hC 3 e_v3_133 [(3, J v3_133), (0, .ref b), (1, .ref (B + 0)), (2, .ref (B + 95))] dL_law_1449 rfl (by decide) rfl ?_
                                refine g_goto hC 18 dL_law_1452 rfl ?_
                                refine g_sub [(0, .ref b), (1, .ref (B + 0)), (2, .ref (B + 95)), (3, J v3_133)] [1, 2, 3, 0] rfl ?_
                                exact ih18 v3_133 M_132 hf h_v3_133 h_M_132
                              · replace hf := hf.2 c_135
                                refine g_iconst hC dL_law_667 ?_
                                exact hf.elim
                            · replace hf := hf.2
                              by_cases c_145 : bAnd (sc (v3_1).toNat) 63 = 13
                              · replace hf := hf.1 c_145
                                refine g_tabIn hC 13 669 (bAnd_in _ _) c_145 dL_law_33 (by decide) (by decide) rfl rfl ?_
                                refine g_aload_n hC 1 dL_law_669 rfl rfl ?_
                                refine g_aload_n hC 0 dL_law_670 rfl rfl ?_
                                refine g_iload_n hC 3 dL_law_671 rfl rfl ?_
                                refine g_iconst hC dL_law_672 ?_
                                refine g_iadd hC dL_law_673 ?_
                                obtain ⟨q_137, hf⟩ := hf
                                refine g_sld hC hsc0 hBs hX hbl hL q_137.1 q_137.2 dL_law_674 ?_
                                refine g_callVI hC (sk := []) [J (sc (v3_1 + 1).toNat)] (c_X11_springs l B D K (sc (v3_1 + 1).toNat) (hsc _) M_2 h_M_2 _ hf) yv_X11_springs wm_L_71 okX11.1 sc0 rfl ⟨Nat.le_of_ble_eq_true rfl, Nat.le_of_ble_eq_true rfl, Nat.le_of_ble_eq_true rfl, Nat.le_of_ble_eq_true rfl⟩ rfl (Nat.le_of_ble_eq_true rfl) dL_law_675 ?_
                                rintro r_138 M_139 h_r_138 - ⟨rfl, hf⟩
                                refine g_aload_n hC 2 dL_law_678 rfl rfl ?_
                                refine g_aload_n hC 0 dL_law_679 rfl rfl ?_
                                refine g_iload_n hC 3 dL_law_680 rfl rfl ?_
                                refine g_iconst hC dL_law_681 ?_
                                refine g_iadd hC dL_law_682 ?_
                                refine g_sld hC hsc0 hBs hX hbl hL q_137.1 q_137.2 dL_law_683 ?_
                                refine g_callVI hC (sk := [J r_138]) [J (sc (v3_1 + 1).toNat)] (c_X12_springs l B D K (sc (v3_1 + 1).toNat) (hsc _) M_2 h_M_2 _ hf) yv_X12_springs wm_L_74 okX12.1 sc95 rfl ⟨Nat.le_of_ble_eq_true rfl, Nat.le_of_ble_eq_true rfl, Nat.le_of_ble_eq_true rfl, Nat.le_of_ble_eq_true rfl⟩ rfl (Nat.le_of_ble_eq_true rfl) dL_law_684 ?_
                                intro r_140 M_141 h_r_140 h_M_141 hf
                                refine g_icmp_eq hC 1449 h_r_138 h_r_140 dL_law_687 rfl (fun c_144 => ?_) (fun c_144 => ?_)
                                · replace hf := hf.1 c_144
                                  obtain ⟨q_143, hf⟩ := hf
                                  obtain ⟨v3_142, e_v3_142⟩ : ∃ z : Int, z = v3_1 + 6 := ⟨_, rfl⟩
                                  replace hf := hf v3_142 e_v3_142
                                  have h_v3_142 : inR v3_142 := by rw [e_v3_142]; exact q_143
                                  refine g_iincv hC 3 e_v3_142 [(3, J v3_142), (0, .ref b), (1, .ref (B + 0)), (2, .ref (B + 95))] dL_law_1449 rfl (by decide) rfl ?_
                                  refine g_goto hC 18 dL_law_1452 rfl ?_
                                  refine g_sub [(0, .ref b), (1, .ref (B + 0)), (2, .ref (B + 95)), (3, J v3_142)] [1, 2, 3, 0] rfl ?_
                                  exact ih18 v3_142 M_141 hf h_v3_142 h_M_141
                                · replace hf := hf.2 c_144
                                  refine g_iconst hC dL_law_690 ?_
                                  exact hf.elim
                              · replace hf := hf.2
                                by_cases c_155 : bAnd (sc (v3_1).toNat) 63 = 14
                                · replace hf := hf.1 c_155
                                  refine g_tabIn hC 14 692 (bAnd_in _ _) c_155 dL_law_33 (by decide) (by decide) rfl rfl ?_
                                  refine g_aload_n hC 1 dL_law_692 rfl rfl ?_
                                  refine g_aload_n hC 0 dL_law_693 rfl rfl ?_
                                  refine g_iload_n hC 3 dL_law_694 rfl rfl ?_
                                  refine g_iconst hC dL_law_695 ?_
                                  refine g_iadd hC dL_law_696 ?_
                                  obtain ⟨q_146, hf⟩ := hf
                                  refine g_sld hC hsc0 hBs hX hbl hL q_146.1 q_146.2 dL_law_697 ?_
                                  refine g_aload_n hC 0 dL_law_698 rfl rfl ?_
                                  refine g_iload_n hC 3 dL_law_699 rfl rfl ?_
                                  refine g_iconst hC dL_law_700 ?_
                                  refine g_iadd hC dL_law_701 ?_
                                  obtain ⟨q_147, hf⟩ := hf
                                  refine g_sld hC hsc0 hBs hX hbl hL q_147.1 q_147.2 dL_law_702 ?_
                                  refine g_callVI hC (sk := []) [J (sc (v3_1 + 1).toNat), J (sc (v3_1 + 2).toNat)] (c_X11_ways l B D K (sc (v3_1 + 1).toNat) (sc (v3_1 + 2).toNat) (hsc _) (hsc _) M_2 h_M_2 _ hf) yv_X11_ways wm_L_75 okX11.1 sc0 rfl ⟨Nat.le_of_ble_eq_true rfl, Nat.le_of_ble_eq_true rfl, Nat.le_of_ble_eq_true rfl, Nat.le_of_ble_eq_true rfl⟩ rfl (Nat.le_of_ble_eq_true rfl) dL_law_703 ?_
                                  intro r_148 M_149 h_r_148 h_M_149 hf
                                  refine g_aload_n hC 2 dL_law_706 rfl rfl ?_
                                  refine g_aload_n hC 0 dL_law_707 rfl rfl ?_
                                  refine g_iload_n hC 3 dL_law_708 rfl rfl ?_
                                  refine g_iconst hC dL_law_709 ?_
                                  refine g_iadd hC dL_law_710 ?_
                                  refine g_sld hC hsc0 hBs hX hbl hL q_146.1 q_146.2 dL_law_711 ?_
                                  refine g_aload_n hC 0 dL_law_712 rfl rfl ?_
                                  refine g_iload_n hC 3 dL_law_713 rfl rfl ?_
                                  refine g_iconst hC dL_law_714 ?_
                                  refine g_iadd hC dL_law_715 ?_
                                  refine g_sld hC hsc0 hBs hX hbl hL q_147.1 q_147.2 dL_law_716 ?_
                                  refine g_callVI hC (sk := [J r_148]) [J (sc (v3_1 + 1).toNat), J (sc (v3_1 + 2).toNat)] (c_X12_ways l B D K (sc (v3_1 + 1).toNat) (sc (v3_1 + 2).toNat) (hsc _) (hsc _) M_149 h_M_149 _ hf) yv_X12_ways wm_L_78 okX12.1 sc95 rfl ⟨Nat.le_of_ble_eq_true rfl, Nat.le_of_ble_eq_true rfl, Nat.le_of_ble_eq_true rfl, Nat.le_of_ble_eq_true rfl⟩ rfl (Nat.le_of_ble_eq_true rfl) dL_law_717 ?_
                                  intro r_150 M_151 h_r_150 h_M_151 hf
                                  refine g_icmp_eq hC 1449 h_r_148 h_r_150 dL_law_720 rfl (fun c_154 => ?_) (fun c_154 => ?_)
                                  · replace hf := hf.1 c_154
                                    obtain ⟨q_153, hf⟩ := hf
                                    obtain ⟨v3_152, e_v3_152⟩ : ∃ z : Int, z = v3_1 + 6 := ⟨_, rfl⟩
                                    replace hf := hf v3_152 e_v3_152
                                    have h_v3_152 : inR v3_152 := by rw [e_v3_152]; exact q_153
                                    refine g_iincv hC 3 e_v3_152 [(3, J v3_152), (0, .ref b), (1, .ref (B + 0)), (2, .ref (B + 95))] dL_law_1449 rfl (by decide) rfl ?_
                                    refine g_goto hC 18 dL_law_1452 rfl ?_
                                    refine g_sub [(0, .ref b), (1, .ref (B + 0)), (2, .ref (B + 95)), (3, J v3_152)] [1, 2, 3, 0] rfl ?_
                                    exact ih18 v3_152 M_151 hf h_v3_152 h_M_151
                                  · replace hf := hf.2 c_154
                                    refine g_iconst hC dL_law_723 ?_
                                    exact hf.elim
                                · replace hf := hf.2
                                  by_cases c_166 : bAnd (sc (v3_1).toNat) 63 = 15
                                  · replace hf := hf.1 c_166
                                    refine g_tabIn hC 15 725 (bAnd_in _ _) c_166 dL_law_33 (by decide) (by decide) rfl rfl ?_
                                    refine g_aload_n hC 1 dL_law_725 rfl rfl ?_
                                    refine g_aload_n hC 0 dL_law_726 rfl rfl ?_
                                    refine g_iload_n hC 3 dL_law_727 rfl rfl ?_
                                    refine g_iconst hC dL_law_728 ?_
                                    refine g_iadd hC dL_law_729 ?_
                                    obtain ⟨q_156, hf⟩ := hf
                                    refine g_sld hC hsc0 hBs hX hbl hL q_156.1 q_156.2 dL_law_730 ?_
                                    refine g_aload_n hC 0 dL_law_731 rfl rfl ?_
                                    refine g_iload_n hC 3 dL_law_732 rfl rfl ?_
                                    refine g_iconst hC dL_law_733 ?_
                                    refine g_iadd hC dL_law_734 ?_
                                    obtain ⟨q_157, hf⟩ := hf
                                    refine g_sld hC hsc0 hBs hX hbl hL q_157.1 q_157.2 dL_law_735 ?_
                                    refine g_aload_n hC 0 dL_law_736 rfl rfl ?_
                                    refine g_iload_n hC 3 dL_law_737 rfl rfl ?_
                                    refine g_iconst hC dL_law_738 ?_
                                    refine g_iadd hC dL_law_739 ?_
                                    obtain ⟨q_158, hf⟩ := hf
                                    refine g_sld hC hsc0 hBs hX hbl hL q_158.1 q_158.2 dL_law_740 ?_
                                    refine g_callVI hC (sk := []) [J (sc (v3_1 + 1).toNat), J (sc (v3_1 + 2).toNat), J (sc (v3_1 + 3).toNat)] (c_X11_far l B D K (sc (v3_1 + 1).toNat) (sc (v3_1 + 2).toNat) (sc (v3_1 + 3).toNat) (hsc _) (hsc _) (hsc _) M_2 h_M_2 _ hf) yv_X11_far wm_L_79 okX11.1 sc0 rfl ⟨Nat.le_of_ble_eq_true rfl, Nat.le_of_ble_eq_true rfl, Nat.le_of_ble_eq_true rfl, Nat.le_of_ble_eq_true rfl⟩ rfl (Nat.le_of_ble_eq_true rfl) dL_law_741 ?_
                                    intro r_159 M_160 h_r_159 h_M_160 hf
                                    refine g_aload_n hC 2 dL_law_744 rfl rfl ?_
                                    refine g_aload_n hC 0 dL_law_745 rfl rfl ?_
                                    refine g_iload_n hC 3 dL_law_746 rfl rfl ?_
                                    refine g_iconst hC dL_law_747 ?_
                                    refine g_iadd hC dL_law_748 ?_
                                    refine g_sld hC hsc0 hBs hX hbl hL q_156.1 q_156.2 dL_law_749 ?_
                                    refine g_aload_n hC 0 dL_law_750 rfl rfl ?_
                                    refine g_iload_n hC 3 dL_law_751 rfl rfl ?_
                                    refine g_iconst hC dL_law_752 ?_
                                    refine g_iadd hC dL_law_753 ?_
                                    refine g_sld hC hsc0 hBs hX hbl hL q_157.1 q_157.2 dL_law_754 ?_
                                    refine g_aload_n hC 0 dL_law_755 rfl rfl ?_
                                    refine g_iload_n hC 3 dL_law_756 rfl rfl ?_
                                    refine g_iconst hC dL_law_757 ?_
                                    refine g_iadd hC dL_law_758 ?_
                                    refine g_sld hC hsc0 hBs hX hbl hL q_158.1 q_158.2 dL_law_759 ?_
                                    refine g_callVI hC (sk := [J r_159]) [J (sc (v3_1 + 1).toNat), J (sc (v3_1 + 2).toNat), J (sc (v3_1 + 3).toNat)] (c_X12_far l B D K (sc (v3_1 + 1).toNat) (sc (v3_1 + 2).toNat) (sc (v3_1 + 3).toNat) (hsc _) (hsc _) (hsc _) M_160 h_M_160 _ hf) yv_X12_far wm_L_82 okX12.1 sc95 rfl ⟨Nat.le_of_ble_eq_true rfl, Nat.le_of_ble_eq_true rfl, Nat.le_of_ble_eq_true rfl, Nat.le_of_ble_eq_true rfl⟩ rfl (Nat.le_of_ble_eq_true rfl) dL_law_760 ?_
                                    intro r_161 M_162 h_r_161 h_M_162 hf
                                    refine g_icmp_eq hC 1449 h_r_159 h_r_161 dL_law_763 rfl (fun c_165 => ?_) (fun c_165 => ?_)
                                    · replace hf := hf.1 c_165
                                      obtain ⟨q_164, hf⟩ := hf
                                      obtain ⟨v3_163, e_v3_163⟩ : ∃ z : Int, z = v3_1 + 6 := ⟨_, rfl⟩
                                      replace hf := hf v3_163 e_v3_163
                                      have h_v3_163 : inR v3_163 := by rw [e_v3_163]; exact q_164
                                      refine g_iincv hC 3 e_v3_163 [(3, J v3_163), (0, .ref b), (1, .ref (B + 0)), (2, .ref (B + 95))] dL_law_1449 rfl (by decide) rfl ?_
                                      refine g_goto hC 18 dL_law_1452 rfl ?_
                                      refine g_sub [(0, .ref b), (1, .ref (B + 0)), (2, .ref (B + 95)), (3, J v3_163)] [1, 2, 3, 0] rfl ?_
                                      exact ih18 v3_163 M_162 hf h_v3_163 h_M_162
                                    · replace hf := hf.2 c_165
                                      refine g_iconst hC dL_law_766 ?_
                                      exact hf.elim
                                  · replace hf := hf.2
                                    by_cases c_176 : bAnd (sc (v3_1).toNat) 63 = 16
                                    · replace hf := hf.1 c_176
                                      refine g_tabIn hC 16 768 (bAnd_in _ _) c_176 dL_law_33 (by decide) (by decide) rfl rfl ?_
                                      refine g_aload_n hC 1 dL_law_768 rfl rfl ?_
                                      refine g_aload_n hC 0 dL_law_769 rfl rfl ?_
                                      refine g_iload_n hC 3 dL_law_770 rfl rfl ?_
                                      refine g_iconst hC dL_law_771 ?_
                                      refine g_iadd hC dL_law_772 ?_
                                      obtain ⟨q_167, hf⟩ := hf
                                      refine g_sld hC hsc0 hBs hX hbl hL q_167.1 q_167.2 dL_law_773 ?_
                                      refine g_aload_n hC 0 dL_law_774 rfl rfl ?_
                                      refine g_iload_n hC 3 dL_law_775 rfl rfl ?_
                                      refine g_iconst hC dL_law_776 ?_
                                      refine g_iadd hC dL_law_777 ?_
                                      obtain ⟨q_168, hf⟩ := hf
                                      refine g_sld hC hsc0 hBs hX hbl hL q_168.1 q_168.2 dL_law_778 ?_
                                      refine g_callVI hC (sk := []) [J (sc (v3_1 + 1).toNat), J (sc (v3_1 + 2).toNat)] (c_X11_waters l B D K (sc (v3_1 + 1).toNat) (sc (v3_1 + 2).toNat) (hsc _) (hsc _) M_2 h_M_2 _ hf) yv_X11_waters wm_L_83 okX11.1 sc0 rfl ⟨Nat.le_of_ble_eq_true rfl, Nat.le_of_ble_eq_true rfl, Nat.le_of_ble_eq_true rfl, Nat.le_of_ble_eq_true rfl⟩ rfl (Nat.le_of_ble_eq_true rfl) dL_law_779 ?_
                                      rintro r_169 M_170 h_r_169 - ⟨rfl, hf⟩
                                      refine g_aload_n hC 2 dL_law_782 rfl rfl ?_
                                      refine g_aload_n hC 0 dL_law_783 rfl rfl ?_
                                      refine g_iload_n hC 3 dL_law_784 rfl rfl ?_
                                      refine g_iconst hC dL_law_785 ?_
                                      refine g_iadd hC dL_law_786 ?_
                                      refine g_sld hC hsc0 hBs hX hbl hL q_167.1 q_167.2 dL_law_787 ?_
                                      refine g_aload_n hC 0 dL_law_788 rfl rfl ?_
                                      refine g_iload_n hC 3 dL_law_789 rfl rfl ?_
                                      refine g_iconst hC dL_law_790 ?_
                                      refine g_iadd hC dL_law_791 ?_
                                      refine g_sld hC hsc0 hBs hX hbl hL q_168.1 q_168.2 dL_law_792 ?_
                                      refine g_callVI hC (sk := [J r_169]) [J (sc (v3_1 + 1).toNat), J (sc (v3_1 + 2).toNat)] (c_X12_waters l B D K (sc (v3_1 + 1).toNat) (sc (v3_1 + 2).toNat) (hsc _) (hsc _) M_2 h_M_2 _ hf) yv_X12_waters wm_L_86 okX12.1 sc95 rfl ⟨Nat.le_of_ble_eq_true rfl, Nat.le_of_ble_eq_true rfl, Nat.le_of_ble_eq_true rfl, Nat.le_of_ble_eq_true rfl⟩ rfl (Nat.le_of_ble_eq_true rfl) dL_law_793 ?_
                                      intro r_171 M_172 h_r_171 h_M_172 hf
                                      refine g_icmp_eq hC 1449 h_r_169 h_r_171 dL_law_796 rfl (fun c_175 => ?_) (fun c_175 => ?_)
                                      · replace hf := hf.1 c_175
                                        obtain ⟨q_174, hf⟩ := hf
                                        obtain ⟨v3_173, e_v3_173⟩ : ∃ z : Int, z = v3_1 + 6 := ⟨_, rfl⟩
                                        replace hf := hf v3_173 e_v3_173
                                        have h_v3_173 : inR v3_173 := by rw [e_v3_173]; exact q_174
                                        refine g_iincv hC 3 e_v3_173 [(3, J v3_173), (0, .ref b), (1, .ref (B + 0)), (2, .ref (B + 95))] dL_law_1449 rfl (by decide) rfl ?_
                                        refine g_goto hC 18 dL_law_1452 rfl ?_
                                        refine g_sub [(0, .ref b), (1, .ref (B + 0)), (2, .ref (B + 95)), (3, J v3_173)] [1, 2, 3, 0] rfl ?_
                                        exact ih18 v3_173 M_172 hf h_v3_173 h_M_172
                                      · replace hf := hf.2 c_175
                                        refine g_iconst hC dL_law_799 ?_
                                        exact hf.elim
                                    · replace hf := hf.2
                                      by_cases c_185 : bAnd (sc (v3_1).toNat) 63 = 17
                                      · replace hf := hf.1 c_185
                                        refine g_tabIn hC 17 801 (bAnd_in _ _) c_185 dL_law_33 (by decide) (by decide) rfl rfl ?_
                                        refine g_aload_n hC 1 dL_law_801 rfl rfl ?_
                                        refine g_aload_n hC 0 dL_law_802 rfl rfl ?_
                                        refine g_iload_n hC 3 dL_law_803 rfl rfl ?_
                                        refine g_iconst hC dL_law_804 ?_
                                        refine g_iadd hC dL_law_805 ?_
                                        obtain ⟨q_177, hf⟩ := hf
                                        refine g_sld hC hsc0 hBs hX hbl hL q_177.1 q_177.2 dL_law_806 ?_
                                        refine g_callVI hC (sk := []) [J (sc (v3_1 + 1).toNat)] (c_X11_braid l B D K (sc (v3_1 + 1).toNat) (hsc _) M_2 h_M_2 _ hf) yv_X11_braid wm_L_87 okX11.1 sc0 rfl ⟨Nat.le_of_ble_eq_true rfl, Nat.le_of_ble_eq_true rfl, Nat.le_of_ble_eq_true rfl, Nat.le_of_ble_eq_true rfl⟩ rfl (Nat.le_of_ble_eq_true rfl) dL_law_807 ?_
                                        rintro r_178 M_179 h_r_178 - ⟨rfl, hf⟩
                                        refine g_aload_n hC 2 dL_law_810 rfl rfl ?_
                                        refine g_aload_n hC 0 dL_law_811 rfl rfl ?_
                                        refine g_iload_n hC 3 dL_law_812 rfl rfl ?_
                                        refine g_iconst hC dL_law_813 ?_
                                        refine g_iadd hC dL_law_814 ?_
                                        refine g_sld hC hsc0 hBs hX hbl hL q_177.1 q_177.2 dL_law_815 ?_
                                        refine g_callVI hC (sk := [J r_178]) [J (sc (v3_1 + 1).toNat)] (c_X12_braid l B D K (sc (v3_1 + 1).toNat) (hsc _) M_2 h_M_2 _ hf) yv_X12_braid wm_L_90 okX12.1 sc95 rfl ⟨Nat.le_of_ble_eq_true rfl, Nat.le_of_ble_eq_true rfl, Nat.le_of_ble_eq_true rfl, Nat.le_of_ble_eq_true rfl⟩ rfl (Nat.le_of_ble_eq_true rfl) dL_law_816 ?_
                                        intro r_180 M_181 h_r_180 h_M_181 hf
                                        refine g_icmp_eq hC 1449 h_r_178 h_r_180 dL_law_819 rfl (fun c_184 => ?_) (fun c_184 => ?_)
                                        · replace hf := hf.1 c_184
                                          obtain ⟨q_183, hf⟩ := hf
                                          obtain ⟨v3_182, e_v3_182⟩ : ∃ z : Int, z = v3_1 + 6 := ⟨_, rfl⟩
                                          replace hf := hf v3_182 e_v3_182
                                          have h_v3_182 : inR v3_182 := by rw [e_v3_182]; exact q_183
                                          refine g_iincv hC 3 e_v3_182 [(3, J v3_182), (0, .ref b), (1, .ref (B + 0)), (2, .ref (B + 95))] dL_law_1449 rfl (by decide) rfl ?_
                                          refine g_goto hC 18 dL_law_1452 rfl ?_
                                          refine g_sub [(0, .ref b), (1, .ref (B + 0)), (2, .ref (B + 95)), (3, J v3_182)] [1, 2, 3, 0] rfl ?_
                                          exact ih18 v3_182 M_181 hf h_v3_182 h_M_181
                                        · replace hf := hf.2 c_184
                                          refine g_iconst hC dL_law_822 ?_
                                          exact hf.elim
                                      · replace hf := hf.2
                                        by_cases c_195 : bAnd (sc (v3_1).toNat) 63 = 18
                                        · replace hf := hf.1 c_195
                                          refine g_tabIn hC 18 824 (bAnd_in _ _) c_195 dL_law_33 (by decide) (by decide) rfl rfl ?_
                                          refine g_aload_n hC 1 dL_law_824 rfl rfl ?_
                                          refine g_aload_n hC 0 dL_law_825 rfl rfl ?_
                                          refine g_iload_n hC 3 dL_law_826 rfl rfl ?_
                                          refine g_iconst hC dL_law_827 ?_
                                          refine g_iadd hC dL_law_828 ?_
                                          obtain ⟨q_186, hf⟩ := hf
                                          refine g_sld hC hsc0 hBs hX hbl hL q_186.1 q_186.2 dL_law_829 ?_
                                          refine g_aload_n hC 0 dL_law_830 rfl rfl ?_
                                          refine g_iload_n hC 3 dL_law_831 rfl rfl ?_
                                          refine g_iconst hC dL_law_832 ?_
                                          refine g_iadd hC dL_law_833 ?_
                                          obtain ⟨q_187, hf⟩ := hf
                                          refine g_sld hC hsc0 hBs hX hbl hL q_187.1 q_187.2 dL_law_834 ?_
                                          refine g_callVI hC (sk := []) [J (sc (v3_1 + 1).toNat), J (sc (v3_1 + 2).toNat)] (c_X11_streams l B D K (sc (v3_1 + 1).toNat) (sc (v3_1 + 2).toNat) (hsc _) (hsc _) M_2 h_M_2 _ hf) yv_X11_streams wm_L_91 okX11.1 sc0 rfl ⟨Nat.le_of_ble_eq_true rfl, Nat.le_of_ble_eq_true rfl, Nat.le_of_ble_eq_true rfl, Nat.le_of_ble_eq_true rfl⟩ rfl (Nat.le_of_ble_eq_true rfl) dL_law_835 ?_
                                          intro r_188 M_189 h_r_188 h_M_189 hf
                                          refine g_aload_n hC 2 dL_law_838 rfl rfl ?_
                                          refine g_aload_n hC 0 dL_law_839 rfl rfl ?_
                                          refine g_iload_n hC 3 dL_law_840 rfl rfl ?_
                                          refine g_iconst hC dL_law_841 ?_
                                          refine g_iadd hC dL_law_842 ?_
                                          refine g_sld hC hsc0 hBs hX hbl hL q_186.1 q_186.2 dL_law_843 ?_
                                          refine g_aload_n hC 0 dL_law_844 rfl rfl ?_
                                          refine g_iload_n hC 3 dL_law_845 rfl rfl ?_
                                          refine g_iconst hC dL_law_846 ?_
                                          refine g_iadd hC dL_law_847 ?_
                                          refine g_sld hC hsc0 hBs hX hbl hL q_187.1 q_187.2 dL_law_848 ?_
                                          refine g_callVI hC (sk := [J r_188]) [J (sc (v3_1 + 1).toNat), J (sc (v3_1 + 2).toNat)] (c_X12_streams l B D K (sc (v3_1 + 1).toNat) (sc (v3_1 + 2).toNat) (hsc _) (hsc _) M_189 h_M_189 _ hf) yv_X12_streams wm_L_94 okX12.1 sc95 rfl ⟨Nat.le_of_ble_eq_true rfl, Nat.le_of_ble_eq_true rfl, Nat.le_of_ble_eq_true rfl, Nat.le_of_ble_eq_true rfl⟩ rfl (Nat.le_of_ble_eq_true rfl) dL_law_849 ?_
                                          intro r_190 M_191 h_r_190 h_M_191 hf
                                          refine g_icmp_eq hC 1449 h_r_188 h_r_190 dL_law_852 rfl (fun c_194 => ?_) (fun c_194 => ?_)
                                          · replace hf := hf.1 c_194
                                            obtain ⟨q_193, hf⟩ := hf
                                            obtain ⟨v3_192, e_v3_192⟩ : ∃ z : Int, z = v3_1 + 6 := ⟨_, rfl⟩
                                            replace hf := hf v3_192 e_v3_192
                                            have h_v3_192 : inR v3_192 := by rw [e_v3_192]; exact q_193
                                            refine g_iincv hC 3 e_v3_192 [(3, J v3_192), (0, .ref b), (1, .ref (B + 0)), (2, .ref (B + 95))] dL_law_1449 rfl (by decide) rfl ?_
                                            refine g_goto hC 18 dL_law_1452 rfl ?_
                                            refine g_sub [(0, .ref b), (1, .ref (B + 0)), (2, .ref (B + 95)), (3, J v3_192)] [1, 2, 3, 0] rfl ?_
                                            exact ih18 v3_192 M_191 hf h_v3_192 h_M_191
                                          · replace hf := hf.2 c_194
                                            refine g_iconst hC dL_law_855 ?_
                                            exact hf.elim
                                        · replace hf := hf.2
                                          by_cases c_205 : bAnd (sc (v3_1).toNat) 63 = 19
                                          · replace hf := hf.1 c_205
                                            refine g_tabIn hC 19 857 (bAnd_in _ _) c_205 dL_law_33 (by decide) (by decide) rfl rfl ?_
                                            refine g_aload_n hC 1 dL_law_857 rfl rfl ?_
                                            refine g_aload_n hC 0 dL_law_858 rfl rfl ?_
                                            refine g_iload_n hC 3 dL_law_859 rfl rfl ?_
                                            refine g_iconst hC dL_law_860 ?_
                                            refine g_iadd hC dL_law_861 ?_
                                            obtain ⟨q_196, hf⟩ := hf
                                            refine g_sld hC hsc0 hBs hX hbl hL q_196.1 q_196.2 dL_law_862 ?_
                                            refine g_aload_n hC 0 dL_law_863 rfl rfl ?_
                                            refine g_iload_n hC 3 dL_law_864 rfl rfl ?_
                                            refine g_iconst hC dL_law_865 ?_
                                            refine g_iadd hC dL_law_866 ?_
                                            obtain ⟨q_197, hf⟩ := hf
                                            refine g_sld hC hsc0 hBs hX hbl hL q_197.1 q_197.2 dL_law_867 ?_
                                            refine g_callVI hC (sk := []) [J (sc (v3_1 + 1).toNat), J (sc (v3_1 + 2).toNat)] (c_X11_river l B D K (sc (v3_1 + 1).toNat) (sc (v3_1 + 2).toNat) (hsc _) (hsc _) M_2 h_M_2 _ hf) yv_X11_river wm_L_95 okX11.1 sc0 rfl ⟨Nat.le_of_ble_eq_true rfl, Nat.le_of_ble_eq_true rfl, Nat.le_of_ble_eq_true rfl, Nat.le_of_ble_eq_true rfl⟩ rfl (Nat.le_of_ble_eq_true rfl) dL_law_868 ?_
                                            rintro r_198 M_199 h_r_198 - ⟨rfl, hf⟩
                                            refine g_aload_n hC 2 dL_law_871 rfl rfl ?_
                                            refine g_aload_n hC 0 dL_law_872 rfl rfl ?_
                                            refine g_iload_n hC 3 dL_law_873 rfl rfl ?_
                                            refine g_iconst hC dL_law_874 ?_
                                            refine g_iadd hC dL_law_875 ?_
                                            refine g_sld hC hsc0 hBs hX hbl hL q_196.1 q_196.2 dL_law_876 ?_
                                            refine g_aload_n hC 0 dL_law_877 rfl rfl ?_
                                            refine g_iload_n hC 3 dL_law_878 rfl rfl ?_
                                            refine g_iconst hC dL_law_879 ?_
                                            refine g_iadd hC dL_law_880 ?_
                                            refine g_sld hC hsc0 hBs hX hbl hL q_197.1 q_197.2 dL_law_881 ?_
                                            refine g_callVI hC (sk := [J r_198]) [J (sc (v3_1 + 1).toNat), J (sc (v3_1 + 2).toNat)] (c_X12_river l B D K (sc (v3_1 + 1).toNat) (sc (v3_1 + 2).toNat) (hsc _) (hsc _) M_2 h_M_2 _ hf) yv_X12_river wm_L_98 okX12.1 sc95 rfl ⟨Nat.le_of_ble_eq_true rfl, Nat.le_of_ble_eq_true rfl, Nat.le_of_ble_eq_true rfl, Nat.le_of_ble_eq_true rfl⟩ rfl (Nat.le_of_ble_eq_true rfl) dL_law_882 ?_
                                            intro r_200 M_201 h_r_200 h_M_201 hf
                                            refine g_icmp_eq hC 1449 h_r_198 h_r_200 dL_law_885 rfl (fun c_204 => ?_) (fun c_204 => ?_)
                                            · replace hf := hf.1 c_204
                                              obtain ⟨q_203, hf⟩ := hf
                                              obtain ⟨v3_202, e_v3_202⟩ : ∃ z : Int, z = v3_1 + 6 := ⟨_, rfl⟩
                                              replace hf := hf v3_202 e_v3_202
                                              have h_v3_202 : inR v3_202 := by rw [e_v3_202]; exact q_203
                                              refine g_iincv hC 3 e_v3_202 [(3, J v3_202), (0, .ref b), (1, .ref (B + 0)), (2, .ref (B + 95))] dL_law_1449 rfl (by decide) rfl ?_
                                              refine g_goto hC 18 dL_law_1452 rfl ?_
                                              refine g_sub [(0, .ref b), (1, .ref (B + 0)), (2, .ref (B + 95)), (3, J v3_202)] [1, 2, 3, 0] rfl ?_
                                              exact ih18 v3_202 M_201 hf h_v3_202 h_M_201
                                            · replace hf := hf.2 c_204
                                              refine g_iconst hC dL_law_888 ?_
                                              exact hf.elim
                                          · replace hf := hf.2
                                            by_cases c_214 : bAnd (sc (v3_1).toNat) 63 = 20
                                            · replace hf := hf.1 c_214
                                              refine g_tabIn hC 20 890 (bAnd_in _ _) c_214 dL_law_33 (by decide) (by decide) rfl rfl ?_
                                              refine g_aload_n hC 1 dL_law_890 rfl rfl ?_
                                              refine g_aload_n hC 0 dL_law_891 rfl rfl ?_
                                              refine g_iload_n hC 3 dL_law_892 rfl rfl ?_
                                              refine g_iconst hC dL_law_893 ?_
                                              refine g_iadd hC dL_law_894 ?_
                                              obtain ⟨q_206, hf⟩ := hf
                                              refine g_sld hC hsc0 hBs hX hbl hL q_206.1 q_206.2 dL_law_895 ?_
                                              refine g_callVI hC (sk := []) [J (sc (v3_1 + 1).toNat)] (c_X11_canTurn l B D K (sc (v3_1 + 1).toNat) (hsc _) M_2 h_M_2 _ hf) yv_X11_canTurn wm_L_99 okX11.1 sc0 rfl ⟨Nat.le_of_ble_eq_true rfl, Nat.le_of_ble_eq_true rfl, Nat.le_of_ble_eq_true rfl, Nat.le_of_ble_eq_true rfl⟩ rfl (Nat.le_of_ble_eq_true rfl) dL_law_896 ?_
                                              rintro r_207 M_208 h_r_207 - ⟨rfl, hf⟩
                                              refine g_aload_n hC 2 dL_law_899 rfl rfl ?_
                                              refine g_aload_n hC 0 dL_law_900 rfl rfl ?_
                                              refine g_iload_n hC 3 dL_law_901 rfl rfl ?_
                                              refine g_iconst hC dL_law_902 ?_
                                              refine g_iadd hC dL_law_903 ?_
                                              refine g_sld hC hsc0 hBs hX hbl hL q_206.1 q_206.2 dL_law_904 ?_
                                              refine g_callVI hC (sk := [J r_207]) [J (sc (v3_1 + 1).toNat)] (c_X12_canTurn l B D K (sc (v3_1 + 1).toNat) (hsc _) M_2 h_M_2 _ hf) yv_X12_canTurn wm_L_102 okX12.1 sc95 rfl ⟨Nat.le_of_ble_eq_true rfl, Nat.le_of_ble_eq_true rfl, Nat.le_of_ble_eq_true rfl, Nat.le_of_ble_eq_true rfl⟩ rfl (Nat.le_of_ble_eq_true rfl) dL_law_905 ?_
                                              rintro r_209 M_210 h_r_209 - ⟨rfl, hf⟩
                                              refine g_icmp_eq hC 1449 h_r_207 h_r_209 dL_law_908 rfl (fun c_213 => ?_) (fun c_213 => ?_)
                                              · replace hf := hf.1 c_213
                                                obtain ⟨q_212, hf⟩ := hf
                                                obtain ⟨v3_211, e_v3_211⟩ : ∃ z : Int, z = v3_1 + 6 := ⟨_, rfl⟩
                                                replace hf := hf v3_211 e_v3_211
                                                have h_v3_211 : inR v3_211 := by rw [e_v3_211]; exact q_212
                                                refine g_iincv hC 3 e_v3_211 [(3, J v3_211), (0, .ref b), (1, .ref (B + 0)), (2, .ref (B + 95))] dL_law_1449 rfl (by decide) rfl ?_
                                                refine g_goto hC 18 dL_law_1452 rfl ?_
                                                refine g_sub [(0, .ref b), (1, .ref (B + 0)), (2, .ref (B + 95)), (3, J v3_211)] [1, 2, 3, 0] rfl ?_
                                                exact ih18 v3_211 M_2 hf h_v3_211 h_M_2
                                              · replace hf := hf.2 c_213
                                                refine g_iconst hC dL_law_911 ?_
                                                exact hf.elim
                                            · replace hf := hf.2
                                              by_cases c_224 : bAnd (sc (v3_1).toNat) 63 = 21
                                              · replace hf := hf.1 c_224
                                                refine g_tabIn hC 21 913 (bAnd_in _ _) c_224 dL_law_33 (by decide) (by decide) rfl rfl ?_
                                                refine g_aload_n hC 1 dL_law_913 rfl rfl ?_
                                                refine g_aload_n hC 0 dL_law_914 rfl rfl ?_
                                                refine g_iload_n hC 3 dL_law_915 rfl rfl ?_
                                                refine g_iconst hC dL_law_916 ?_
                                                refine g_iadd hC dL_law_917 ?_
                                                obtain ⟨q_215, hf⟩ := hf
                                                refine g_sld hC hsc0 hBs hX hbl hL q_215.1 q_215.2 dL_law_918 ?_
                                                refine g_aload_n hC 0 dL_law_919 rfl rfl ?_
                                                refine g_iload_n hC 3 dL_law_920 rfl rfl ?_
                                                refine g_iconst hC dL_law_921 ?_
                                                refine g_iadd hC dL_law_922 ?_
                                                obtain ⟨q_216, hf⟩ := hf
                                                refine g_sld hC hsc0 hBs hX hbl hL q_216.1 q_216.2 dL_law_923 ?_
                                                refine g_callVI hC (sk := []) [J (sc (v3_1 + 1).toNat), J (sc (v3_1 + 2).toNat)] (c_X11_would l B D K (sc (v3_1 + 1).toNat) (sc (v3_1 + 2).toNat) (hsc _) (hsc _) M_2 h_M_2 _ hf) yv_X11_would wm_L_103 okX11.1 sc0 rfl ⟨Nat.le_of_ble_eq_true rfl, Nat.le_of_ble_eq_true rfl, Nat.le_of_ble_eq_true rfl, Nat.le_of_ble_eq_true rfl⟩ rfl (Nat.le_of_ble_eq_true rfl) dL_law_924 ?_
                                                intro r_217 M_218 h_r_217 h_M_218 hf
                                                refine g_aload_n hC 2 dL_law_927 rfl rfl ?_
                                                refine g_aload_n hC 0 dL_law_928 rfl rfl ?_
                                                refine g_iload_n hC 3 dL_law_929 rfl rfl ?_
                                                refine g_iconst hC dL_law_930 ?_
                                                refine g_iadd hC dL_law_931 ?_
                                                refine g_sld hC hsc0 hBs hX hbl hL q_215.1 q_215.2 dL_law_932 ?_
                                                refine g_aload_n hC 0 dL_law_933 rfl rfl ?_
                                                refine g_iload_n hC 3 dL_law_934 rfl rfl ?_
                                                refine g_iconst hC dL_law_935 ?_
                                                refine g_iadd hC dL_law_936 ?_
                                                refine g_sld hC hsc0 hBs hX hbl hL q_216.1 q_216.2 dL_law_937 ?_
                                                refine g_callVI hC (sk := [J r_217]) [J (sc (v3_1 + 1).toNat), J (sc (v3_1 + 2).toNat)] (c_X12_would l B D K (sc (v3_1 + 1).toNat) (sc (v3_1 + 2).toNat) (hsc _) (hsc _) M_218 h_M_218 _ hf) yv_X12_would wm_L_106 okX12.1 sc95 rfl ⟨Nat.le_of_ble_eq_true rfl, Nat.le_of_ble_eq_true rfl, Nat.le_of_ble_eq_true rfl, Nat.le_of_ble_eq_true rfl⟩ rfl (Nat.le_of_ble_eq_true rfl) dL_law_938 ?_
                                                intro r_219 M_220 h_r_219 h_M_220 hf
                                                refine g_icmp_eq hC 1449 h_r_217 h_r_219 dL_law_941 rfl (fun c_223 => ?_) (fun c_223 => ?_)
                                                · replace hf := hf.1 c_223
                                                  obtain ⟨q_222, hf⟩ := hf
                                                  obtain ⟨v3_221, e_v3_221⟩ : ∃ z : Int, z = v3_1 + 6 := ⟨_, rfl⟩
                                                  replace hf := hf v3_221 e_v3_221
                                                  have h_v3_221 : inR v3_221 := by rw [e_v3_221]; exact q_222
                                                  refine g_iincv hC 3 e_v3_221 [(3, J v3_221), (0, .ref b), (1, .ref (B + 0)), (2, .ref (B + 95))] dL_law_1449 rfl (by decide) rfl ?_
                                                  refine g_goto hC 18 dL_law_1452 rfl ?_
                                                  refine g_sub [(0, .ref b), (1, .ref (B + 0)), (2, .ref (B + 95)), (3, J v3_221)] [1, 2, 3, 0] rfl ?_
                                                  exact ih18 v3_221 M_220 hf h_v3_221 h_M_220
                                                · replace hf := hf.2 c_223
                                                  refine g_iconst hC dL_law_944 ?_
                                                  exact hf.elim
                                              · replace hf := hf.2
                                                by_cases c_233 : bAnd (sc (v3_1).toNat) 63 = 22
                                                · replace hf := hf.1 c_233
                                                  refine g_tabIn hC 22 946 (bAnd_in _ _) c_233 dL_law_33 (by decide) (by decide) rfl rfl ?_
                                                  refine g_aload_n hC 1 dL_law_946 rfl rfl ?_
                                                  refine g_aload_n hC 0 dL_law_947 rfl rfl ?_
                                                  refine g_iload_n hC 3 dL_law_948 rfl rfl ?_
                                                  refine g_iconst hC dL_law_949 ?_
                                                  refine g_iadd hC dL_law_950 ?_
                                                  obtain ⟨q_225, hf⟩ := hf
                                                  refine g_sld hC hsc0 hBs hX hbl hL q_225.1 q_225.2 dL_law_951 ?_
                                                  refine g_callVI hC (sk := []) [J (sc (v3_1 + 1).toNat)] (c_X11_loss l B D K (sc (v3_1 + 1).toNat) (hsc _) M_2 h_M_2 _ hf) yv_X11_loss wm_L_107 okX11.1 sc0 rfl ⟨Nat.le_of_ble_eq_true rfl, Nat.le_of_ble_eq_true rfl, Nat.le_of_ble_eq_true rfl, Nat.le_of_ble_eq_true rfl⟩ rfl (Nat.le_of_ble_eq_true rfl) dL_law_952 ?_
                                                  intro r_226 M_227 h_r_226 h_M_227 hf
                                                  refine g_aload_n hC 2 dL_law_955 rfl rfl ?_
                                                  refine g_aload_n hC 0 dL_law_956 rfl rfl ?_
                                                  refine g_iload_n hC 3 dL_law_957 rfl rfl ?_
                                                  refine g_iconst hC dL_law_958 ?_
                                                  refine g_iadd hC dL_law_959 ?_
                                                  refine g_sld hC hsc0 hBs hX hbl hL q_225.1 q_225.2 dL_law_960 ?_
                                                  refine g_callVI hC (sk := [J r_226]) [J (sc (v3_1 + 1).toNat)] (c_X12_loss l B D K (sc (v3_1 + 1).toNat) (hsc _) M_227 h_M_227 _ hf) yv_X12_loss wm_L_110 okX12.1 sc95 rfl ⟨Nat.le_of_ble_eq_true rfl, Nat.le_of_ble_eq_true rfl, Nat.le_of_ble_eq_true rfl, Nat.le_of_ble_eq_true rfl⟩ rfl (Nat.le_of_ble_eq_true rfl) dL_law_961 ?_
                                                  intro r_228 M_229 h_r_228 h_M_229 hf
                                                  refine g_icmp_eq hC 1449 h_r_226 h_r_228 dL_law_964 rfl (fun c_232 => ?_) (fun c_232 => ?_)
                                                  · replace hf := hf.1 c_232
                                                    obtain ⟨q_231, hf⟩ := hf
                                                    obtain ⟨v3_230, e_v3_230⟩ : ∃ z : Int, z = v3_1 + 6 := ⟨_, rfl⟩
                                                    replace hf := hf v3_230 e_v3_230
                                                    have h_v3_230 : inR v3_230 := by rw [e_v3_230]; exact q_231
                                                    refine g_iincv hC 3 e_v3_230 [(3, J v3_230), (0, .ref b), (1, .ref (B + 0)), (2, .ref (B + 95))] dL_law_1449 rfl (by decide) rfl ?_
                                                    refine g_goto hC 18 dL_law_1452 rfl ?_
                                                    refine g_sub [(0, .ref b), (1, .ref (B + 0)), (2, .ref (B + 95)), (3, J v3_230)] [1, 2, 3, 0] rfl ?_
                                                    exact ih18 v3_230 M_229 hf h_v3_230 h_M_229
                                                  · replace hf := hf.2 c_232
                                                    refine g_iconst hC dL_law_967 ?_
                                                    exact hf.elim
                                                · replace hf := hf.2
                                                  by_cases c_242 : bAnd (sc (v3_1).toNat) 63 = 23
                                                  · replace hf := hf.1 c_242
                                                    refine g_tabIn hC 23 969 (bAnd_in _ _) c_242 dL_law_33 (by decide) (by decide) rfl rfl ?_
                                                    refine g_aload_n hC 1 dL_law_969 rfl rfl ?_
                                                    refine g_aload_n hC 0 dL_law_970 rfl rfl ?_
                                                    refine g_iload_n hC 3 dL_law_971 rfl rfl ?_
                                                    refine g_iconst hC dL_law_972 ?_
                                                    refine g_iadd hC dL_law_973 ?_
                                                    obtain ⟨q_234, hf⟩ := hf
                                                    refine g_sld hC hsc0 hBs hX hbl hL q_234.1 q_234.2 dL_law_974 ?_
                                                    refine g_callVI hC (sk := []) [J (sc (v3_1 + 1).toNat)] (c_X11_starves l B D K (sc (v3_1 + 1).toNat) (hsc _) M_2 h_M_2 _ hf) yv_X11_starves wm_L_111 okX11.1 sc0 rfl ⟨Nat.le_of_ble_eq_true rfl, Nat.le_of_ble_eq_true rfl, Nat.le_of_ble_eq_true rfl, Nat.le_of_ble_eq_true rfl⟩ rfl (Nat.le_of_ble_eq_true rfl) dL_law_975 ?_
                                                    intro r_235 M_236 h_r_235 h_M_236 hf
                                                    refine g_aload_n hC 2 dL_law_978 rfl rfl ?_
                                                    refine g_aload_n hC 0 dL_law_979 rfl rfl ?_
                                                    refine g_iload_n hC 3 dL_law_980 rfl rfl ?_
                                                    refine g_iconst hC dL_law_981 ?_
                                                    refine g_iadd hC dL_law_982 ?_
                                                    refine g_sld hC hsc0 hBs hX hbl hL q_234.1 q_234.2 dL_law_983 ?_
                                                    refine g_callVI hC (sk := [J r_235]) [J (sc (v3_1 + 1).toNat)] (c_X12_starves l B D K (sc (v3_1 + 1).toNat) (hsc _) M_236 h_M_236 _ hf) yv_X12_starves wm_L_114 okX12.1 sc95 rfl ⟨Nat.le_of_ble_eq_true rfl, Nat.le_of_ble_eq_true rfl, Nat.le_of_ble_eq_true rfl, Nat.le_of_ble_eq_true rfl⟩ rfl (Nat.le_of_ble_eq_true rfl) dL_law_984 ?_
                                                    intro r_237 M_238 h_r_237 h_M_238 hf
                                                    refine g_icmp_eq hC 1449 h_r_235 h_r_237 dL_law_987 rfl (fun c_241 => ?_) (fun c_241 => ?_)
                                                    · replace hf := hf.1 c_241
                                                      obtain ⟨q_240, hf⟩ := hf
                                                      obtain ⟨v3_239, e_v3_239⟩ : ∃ z : Int, z = v3_1 + 6 := ⟨_, rfl⟩
                                                      replace hf := hf v3_239 e_v3_239
                                                      have h_v3_239 : inR v3_239 := by rw [e_v3_239]; exact q_240
                                                      refine g_iincv hC 3 e_v3_239 [(3, J v3_239), (0, .ref b), (1, .ref (B + 0)), (2, .ref (B + 95))] dL_law_1449 rfl (by decide) rfl ?_
                                                      refine g_goto hC 18 dL_law_1452 rfl ?_
                                                      refine g_sub [(0, .ref b), (1, .ref (B + 0)), (2, .ref (B + 95)), (3, J v3_239)] [1, 2, 3, 0] rfl ?_
                                                      exact ih18 v3_239 M_238 hf h_v3_239 h_M_238
                                                    · replace hf := hf.2 c_241
                                                      refine g_iconst hC dL_law_990 ?_
                                                      exact hf.elim
                                                  · replace hf := hf.2
                                                    by_cases c_251 : bAnd (sc (v3_1).toNat) 63 = 24
                                                    · replace hf := hf.1 c_251
                                                      refine g_tabIn hC 24 992 (bAnd_in _ _) c_251 dL_law_33 (by decide) (by decide) rfl rfl ?_
                                                      refine g_aload_n hC 1 dL_law_992 rfl rfl ?_
                                                      refine g_aload_n hC 0 dL_law_993 rfl rfl ?_
                                                      refine g_iload_n hC 3 dL_law_994 rfl rfl ?_
                                                      refine g_iconst hC dL_law_995 ?_
                                                      refine g_iadd hC dL_law_996 ?_
                                                      obtain ⟨q_243, hf⟩ := hf
                                                      refine g_sld hC hsc0 hBs hX hbl hL q_243.1 q_243.2 dL_law_997 ?_
                                                      refine g_callVI hC (sk := []) [J (sc (v3_1 + 1).toNat)] (c_X11_fewest l B D K (sc (v3_1 + 1).toNat) (hsc _) M_2 h_M_2 _ hf) yv_X11_fewest wm_L_115 okX11.1 sc0 rfl ⟨Nat.le_of_ble_eq_true rfl, Nat.le_of_ble_eq_true rfl, Nat.le_of_ble_eq_true rfl, Nat.le_of_ble_eq_true rfl⟩ rfl (Nat.le_of_ble_eq_true rfl) dL_law_998 ?_
                                                      intro r_244 M_245 h_r_244 h_M_245 hf
                                                      refine g_aload_n hC 2 dL_law_1001 rfl rfl ?_
                                                      refine g_aload_n hC 0 dL_law_1002 rfl rfl ?_
                                                      refine g_iload_n hC 3 dL_law_1003 rfl rfl ?_
                                                      refine g_iconst hC dL_law_1004 ?_
                                                      refine g_iadd hC dL_law_1005 ?_
                                                      refine g_sld hC hsc0 hBs hX hbl hL q_243.1 q_243.2 dL_law_1006 ?_
                                                      refine g_callVI hC (sk := [J r_244]) [J (sc (v3_1 + 1).toNat)] (c_X12_fewest l B D K (sc (v3_1 + 1).toNat) (hsc _) M_245 h_M_245 _ hf) yv_X12_fewest wm_L_118 okX12.1 sc95 rfl ⟨Nat.le_of_ble_eq_true rfl, Nat.le_of_ble_eq_true rfl, Nat.le_of_ble_eq_true rfl, Nat.le_of_ble_eq_true rfl⟩ rfl (Nat.le_of_ble_eq_true rfl) dL_law_1007 ?_
                                                      intro r_246 M_247 h_r_246 h_M_247 hf
                                                      refine g_icmp_eq hC 1449 h_r_244 h_r_246 dL_law_1010 rfl (fun c_250 => ?_) (fun c_250 => ?_)
                                                      · replace hf := hf.1 c_250
                                                        obtain ⟨q_249, hf⟩ := hf
                                                        obtain ⟨v3_248, e_v3_248⟩ : ∃ z : Int, z = v3_1 + 6 := ⟨_, rfl⟩
                                                        replace hf := hf v3_248 e_v3_248
                                                        have h_v3_248 : inR v3_248 := by rw [e_v3_248]; exact q_249
                                                        refine g_iincv hC 3 e_v3_248 [(3, J v3_248), (0, .ref b), (1, .ref (B + 0)), (2, .ref (B + 95))] dL_law_1449 rfl (by decide) rfl ?_
                                                        refine g_goto hC 18 dL_law_1452 rfl ?_
                                                        refine g_sub [(0, .ref b), (1, .ref (B + 0)), (2, .ref (B + 95)), (3, J v3_248)] [1, 2, 3, 0] rfl ?_
                                                        exact ih18 v3_248 M_247 hf h_v3_248 h_M_247
                                                      · replace hf := hf.2 c_250
                                                        refine g_iconst hC dL_law_1013 ?_
                                                        exact hf.elim
                                                    · replace hf := hf.2
                                                      by_cases c_261 : bAnd (sc (v3_1).toNat) 63 = 25
                                                      · replace hf := hf.1 c_261
                                                        refine g_tabIn hC 25 1015 (bAnd_in _ _) c_261 dL_law_33 (by decide) (by decide) rfl rfl ?_
                                                        refine g_aload_n hC 1 dL_law_1015 rfl rfl ?_
                                                        refine g_aload_n hC 0 dL_law_1016 rfl rfl ?_
                                                        refine g_iload_n hC 3 dL_law_1017 rfl rfl ?_
                                                        refine g_iconst hC dL_law_1018 ?_
                                                        refine g_iadd hC dL_law_1019 ?_
                                                        obtain ⟨q_252, hf⟩ := hf
                                                        refine g_sld hC hsc0 hBs hX hbl hL q_252.1 q_252.2 dL_law_1020 ?_
                                                        refine g_aload_n hC 0 dL_law_1021 rfl rfl ?_
                                                        refine g_iload_n hC 3 dL_law_1022 rfl rfl ?_
                                                        refine g_iconst hC dL_law_1023 ?_
                                                        refine g_iadd hC dL_law_1024 ?_
                                                        obtain ⟨q_253, hf⟩ := hf
                                                        refine g_sld hC hsc0 hBs hX hbl hL q_253.1 q_253.2 dL_law_1025 ?_
                                                        refine g_callVI hC (sk := []) [J (sc (v3_1 + 1).toNat), J (sc (v3_1 + 2).toNat)] (c_X11_wave l B D K (sc (v3_1 + 1).toNat) (sc (v3_1 + 2).toNat) (hsc _) (hsc _) M_2 h_M_2 _ hf) yv_X11_wave wm_L_119 okX11.1 sc0 rfl ⟨Nat.le_of_ble_eq_true rfl, Nat.le_of_ble_eq_true rfl, Nat.le_of_ble_eq_true rfl, Nat.le_of_ble_eq_true rfl⟩ rfl (Nat.le_of_ble_eq_true rfl) dL_law_1026 ?_
                                                        intro r_254 M_255 h_r_254 h_M_255 hf
                                                        refine g_aload_n hC 2 dL_law_1029 rfl rfl ?_
                                                        refine g_aload_n hC 0 dL_law_1030 rfl rfl ?_
                                                        refine g_iload_n hC 3 dL_law_1031 rfl rfl ?_
                                                        refine g_iconst hC dL_law_1032 ?_
                                                        refine g_iadd hC dL_law_1033 ?_
                                                        refine g_sld hC hsc0 hBs hX hbl hL q_252.1 q_252.2 dL_law_1034 ?_
                                                        refine g_aload_n hC 0 dL_law_1035 rfl rfl ?_
                                                        refine g_iload_n hC 3 dL_law_1036 rfl rfl ?_
                                                        refine g_iconst hC dL_law_1037 ?_
                                                        refine g_iadd hC dL_law_1038 ?_
                                                        refine g_sld hC hsc0 hBs hX hbl hL q_253.1 q_253.2 dL_law_1039 ?_
                                                        refine g_callVI hC (sk := [J r_254]) [J (sc (v3_1 + 1).toNat), J (sc (v3_1 + 2).toNat)] (c_X12_wave l B D K (sc (v3_1 + 1).toNat) (sc (v3_1 + 2).toNat) (hsc _) (hsc _) M_255 h_M_255 _ hf) yv_X12_wave wm_L_122 okX12.1 sc95 rfl ⟨Nat.le_of_ble_eq_true rfl, Nat.le_of_ble_eq_true rfl, Nat.le_of_ble_eq_true rfl, Nat.le_of_ble_eq_true rfl⟩ rfl (Nat.le_of_ble_eq_true rfl) dL_law_1040 ?_
                                                        intro r_256 M_257 h_r_256 h_M_257 hf
                                                        refine g_icmp_eq hC 1449 h_r_254 h_r_256 dL_law_1043 rfl (fun c_260 => ?_) (fun c_260 => ?_)
                                                        · replace hf := hf.1 c_260
                                                          obtain ⟨q_259, hf⟩ := hf
                                                          obtain ⟨v3_258, e_v3_258⟩ : ∃ z : Int, z = v3_1 + 6 := ⟨_, rfl⟩
                                                          replace hf := hf v3_258 e_v3_258
                                                          have h_v3_258 : inR v3_258 := by rw [e_v3_258]; exact q_259
                                                          refine g_iincv hC 3 e_v3_258 [(3, J v3_258), (0, .ref b), (1, .ref (B + 0)), (2, .ref (B + 95))] dL_law_1449 rfl (by decide) rfl ?_
                                                          refine g_goto hC 18 dL_law_1452 rfl ?_
                                                          refine g_sub [(0, .ref b), (1, .ref (B + 0)), (2, .ref (B + 95)), (3, J v3_258)] [1, 2, 3, 0] rfl ?_
                                                          exact ih18 v3_258 M_257 hf h_v3_258 h_M_257
                                                        · replace hf := hf.2 c_260
                                                          refine g_iconst hC dL_law_1046 ?_
                                                          exact hf.elim
                                                      · replace hf := hf.2
                                                        by_cases c_270 : bAnd (sc (v3_1).toNat) 63 = 26
                                                        · replace hf := hf.1 c_270
                                                          refine g_tabIn hC 26 1048 (bAnd_in _ _) c_270 dL_law_33 (by decide) (by decide) rfl rfl ?_
                                                          refine g_aload_n hC 1 dL_law_1048 rfl rfl ?_
                                                          refine g_aload_n hC 0 dL_law_1049 rfl rfl ?_
                                                          refine g_iload_n hC 3 dL_law_1050 rfl rfl ?_
                                                          refine g_iconst hC dL_law_1051 ?_
                                                          refine g_iadd hC dL_law_1052 ?_
                                                          obtain ⟨q_262, hf⟩ := hf
                                                          refine g_sld hC hsc0 hBs hX hbl hL q_262.1 q_262.2 dL_law_1053 ?_
                                                          refine g_callVI hC (sk := []) [J (sc (v3_1 + 1).toNat)] (c_X11_changed l B D K (sc (v3_1 + 1).toNat) (hsc _) M_2 h_M_2 _ hf) yv_X11_changed wm_L_123 okX11.1 sc0 rfl ⟨Nat.le_of_ble_eq_true rfl, Nat.le_of_ble_eq_true rfl, Nat.le_of_ble_eq_true rfl, Nat.le_of_ble_eq_true rfl⟩ rfl (Nat.le_of_ble_eq_true rfl) dL_law_1054 ?_
                                                          rintro r_263 M_264 h_r_263 - ⟨rfl, hf⟩
                                                          refine g_aload_n hC 2 dL_law_1057 rfl rfl ?_
                                                          refine g_aload_n hC 0 dL_law_1058 rfl rfl ?_
                                                          refine g_iload_n hC 3 dL_law_1059 rfl rfl ?_
                                                          refine g_iconst hC dL_law_1060 ?_
                                                          refine g_iadd hC dL_law_1061 ?_
                                                          refine g_sld hC hsc0 hBs hX hbl hL q_262.1 q_262.2 dL_law_1062 ?_
                                                          refine g_callVI hC (sk := [J r_263]) [J (sc (v3_1 + 1).toNat)] (c_X12_changed l B D K (sc (v3_1 + 1).toNat) (hsc _) M_2 h_M_2 _ hf) yv_X12_changed wm_L_126 okX12.1 sc95 rfl ⟨Nat.le_of_ble_eq_true rfl, Nat.le_of_ble_eq_true rfl, Nat.le_of_ble_eq_true rfl, Nat.le_of_ble_eq_true rfl⟩ rfl (Nat.le_of_ble_eq_true rfl) dL_law_1063 ?_
                                                          intro r_265 M_266 h_r_265 h_M_266 hf
                                                          refine g_icmp_eq hC 1449 h_r_263 h_r_265 dL_law_1066 rfl (fun c_269 => ?_) (fun c_269 => ?_)
                                                          · replace hf := hf.1 c_269
                                                            obtain ⟨q_268, hf⟩ := hf
                                                            obtain ⟨v3_267, e_v3_267⟩ : ∃ z : Int, z = v3_1 + 6 := ⟨_, rfl⟩
                                                            replace hf := hf v3_267 e_v3_267
                                                            have h_v3_267 : inR v3_267 := by rw [e_v3_267]; exact q_268
                                                            refine g_iincv hC 3 e_v3_267 [(3, J v3_267), (0, .ref b), (1, .ref (B + 0)), (2, .ref (B + 95))] dL_law_1449 rfl (by decide) rfl ?_
                                                            refine g_goto hC 18 dL_law_1452 rfl ?_
                                                            refine g_sub [(0, .ref b), (1, .ref (B + 0)), (2, .ref (B + 95)), (3, J v3_267)] [1, 2, 3, 0] rfl ?_
                                                            exact ih18 v3_267 M_266 hf h_v3_267 h_M_266
                                                          · replace hf := hf.2 c_269
                                                            refine g_iconst hC dL_law_1069 ?_
                                                            exact hf.elim
                                                        · replace hf := hf.2
                                                          by_cases c_278 : bAnd (sc (v3_1).toNat) 63 = 27
                                                          · replace hf := hf.1 c_278
                                                            refine g_tabIn hC 27 1071 (bAnd_in _ _) c_278 dL_law_33 (by decide) (by decide) rfl rfl ?_
                                                            refine g_aload_n hC 1 dL_law_1071 rfl rfl ?_
                                                            refine g_callVI hC (sk := []) [] (c_X11_see l B D K   M_2 h_M_2 _ hf) yv_X11_see wm_L_127 okX11.1 sc0 rfl ⟨Nat.le_of_ble_eq_true rfl, Nat.le_of_ble_eq_true rfl, Nat.le_of_ble_eq_true rfl, Nat.le_of_ble_eq_true rfl⟩ rfl (Nat.le_of_ble_eq_true rfl) dL_law_1072 ?_
                                                            intro r_271 M_272 h_r_271 h_M_272 hf
                                                            refine g_aload_n hC 2 dL_law_1075 rfl rfl ?_
                                                            refine g_callVI hC (sk := [J r_271]) [] (c_X12_see l B D K   M_272 h_M_272 _ hf) yv_X12_see wm_L_130 okX12.1 sc95 rfl ⟨Nat.le_of_ble_eq_true rfl, Nat.le_of_ble_eq_true rfl, Nat.le_of_ble_eq_true rfl, Nat.le_of_ble_eq_true rfl⟩ rfl (Nat.le_of_ble_eq_true rfl) dL_law_1076 ?_
                                                            intro r_273 M_274 h_r_273 h_M_274 hf
                                                            refine g_icmp_eq hC 1449 h_r_271 h_r_273 dL_law_1079 rfl (fun c_277 => ?_) (fun c_277 => ?_)
                                                            · replace hf := hf.1 c_277
                                                              obtain ⟨q_276, hf⟩ := hf
                                                              obtain ⟨v3_275, e_v3_275⟩ : ∃ z : Int, z = v3_1 + 6 := ⟨_, rfl⟩
                                                              replace hf := hf v3_275 e_v3_275
                                                              have h_v3_275 : inR v3_275 := by rw [e_v3_275]; exact q_276
                                                              refine g_iincv hC 3 e_v3_275 [(3, J v3_275), (0, .ref b), (1, .ref (B + 0)), (2, .ref (B + 95))] dL_law_1449 rfl (by decide) rfl ?_
                                                              refine g_goto hC 18 dL_law_1452 rfl ?_
                                                              refine g_sub [(0, .ref b), (1, .ref (B + 0)), (2, .ref (B + 95)), (3, J v3_275)] [1, 2, 3, 0] rfl ?_
                                                              exact ih18 v3_275 M_274 hf h_v3_275 h_M_274
                                                            · replace hf := hf.2 c_277
                                                              refine g_iconst hC dL_law_1082 ?_
                                                              exact hf.elim
                                                          · replace hf := hf.2
                                                            by_cases c_286 : bAnd (sc (v3_1).toNat) 63 = 28
                                                            · replace hf := hf.1 c_286
                                                              refine g_tabIn hC 28 1084 (bAnd_in _ _) c_286 dL_law_33 (by decide) (by decide) rfl rfl ?_
                                                              refine g_aload_n hC 1 dL_law_1084 rfl rfl ?_
                                                              refine g_callVI hC (sk := []) [] (c_X11_fits l B D K   M_2 h_M_2 _ hf) yv_X11_fits wm_L_131 okX11.1 sc0 rfl ⟨Nat.le_of_ble_eq_true rfl, Nat.le_of_ble_eq_true rfl, Nat.le_of_ble_eq_true rfl, Nat.le_of_ble_eq_true rfl⟩ rfl (Nat.le_of_ble_eq_true rfl) dL_law_1085 ?_
                                                              rintro r_279 M_280 h_r_279 - ⟨rfl, hf⟩
                                                              refine g_aload_n hC 2 dL_law_1088 rfl rfl ?_
                                                              refine g_callVI hC (sk := [J r_279]) [] (c_X12_fits l B D K   M_2 h_M_2 _ hf) yv_X12_fits wm_L_134 okX12.1 sc95 rfl ⟨Nat.le_of_ble_eq_true rfl, Nat.le_of_ble_eq_true rfl, Nat.le_of_ble_eq_true rfl, Nat.le_of_ble_eq_true rfl⟩ rfl (Nat.le_of_ble_eq_true rfl) dL_law_1089 ?_
                                                              intro r_281 M_282 h_r_281 h_M_282 hf
                                                              refine g_icmp_eq hC 1449 h_r_279 h_r_281 dL_law_1092 rfl (fun c_285 => ?_) (fun c_285 => ?_)
                                                              · replace hf := hf.1 c_285
                                                                obtain ⟨q_284, hf⟩ := hf
                                                                obtain ⟨v3_283, e_v3_283⟩ : ∃ z : Int, z = v3_1 + 6 := ⟨_, rfl⟩
                                                                replace hf := hf v3_283 e_v3_283
                                                                have h_v3_283 : inR v3_283 := by rw [e_v3_283]; exact q_284
                                                                refine g_iincv hC 3 e_v3_283 [(3, J v3_283), (0, .ref b), (1, .ref (B + 0)), (2, .ref (B + 95))] dL_law_1449 rfl (by decide) rfl ?_
                                                                refine g_goto hC 18 dL_law_1452 rfl ?_
                                                                refine g_sub [(0, .ref b), (1, .ref (B + 0)), (2, .ref (B + 95)), (3, J v3_283)] [1, 2, 3, 0] rfl ?_
                                                                exact ih18 v3_283 M_282 hf h_v3_283 h_M_282
                                                              · replace hf := hf.2 c_285
                                                                refine g_iconst hC dL_law_1095 ?_
                                                                exact hf.elim
                                                            · replace hf := hf.2
                                                              by_cases c_295 : bAnd (sc (v3_1).toNat) 63 = 29
                                                              · replace hf := hf.1 c_295
                                                                refine g_tabIn hC 29 1097 (bAnd_in _ _) c_295 dL_law_33 (by decide) (by decide) rfl rfl ?_
                                                                refine g_aload_n hC 1 dL_law_1097 rfl rfl ?_
                                                                refine g_aload_n hC 0 dL_law_1098 rfl rfl ?_
                                                                refine g_iload_n hC 3 dL_law_1099 rfl rfl ?_
                                                                refine g_iconst hC dL_law_1100 ?_
                                                                refine g_iadd hC dL_law_1101 ?_
                                                                obtain ⟨q_287, hf⟩ := hf
                                                                refine g_sld hC hsc0 hBs hX hbl hL q_287.1 q_287.2 dL_law_1102 ?_
                                                                refine g_callVI hC (sk := []) [J (sc (v3_1 + 1).toNat)] (c_X11_tells l B D K (sc (v3_1 + 1).toNat) (hsc _) M_2 h_M_2 _ hf) yv_X11_tells wm_L_135 okX11.1 sc0 rfl ⟨Nat.le_of_ble_eq_true rfl, Nat.le_of_ble_eq_true rfl, Nat.le_of_ble_eq_true rfl, Nat.le_of_ble_eq_true rfl⟩ rfl (Nat.le_of_ble_eq_true rfl) dL_law_1103 ?_
                                                                rintro r_288 M_289 h_r_288 - ⟨rfl, hf⟩
                                                                refine g_aload_n hC 2 dL_law_1106 rfl rfl ?_
                                                                refine g_aload_n hC 0 dL_law_1107 rfl rfl ?_
                                                                refine g_iload_n hC 3 dL_law_1108 rfl rfl ?_
                                                                refine g_iconst hC dL_law_1109 ?_
                                                                refine g_iadd hC dL_law_1110 ?_
                                                                refine g_sld hC hsc0 hBs hX hbl hL q_287.1 q_287.2 dL_law_1111 ?_
                                                                refine g_callVI hC (sk := [J r_288]) [J (sc (v3_1 + 1).toNat)] (c_X12_tells l B D K (sc (v3_1 + 1).toNat) (hsc _) M_2 h_M_2 _ hf) yv_X12_tells wm_L_138 okX12.1 sc95 rfl ⟨Nat.le_of_ble_eq_true rfl, Nat.le_of_ble_eq_true rfl, Nat.le_of_ble_eq_true rfl, Nat.le_of_ble_eq_true rfl⟩ rfl (Nat.le_of_ble_eq_true rfl) dL_law_1112 ?_
                                                                intro r_290 M_291 h_r_290 h_M_291 hf
                                                                refine g_icmp_eq hC 1449 h_r_288 h_r_290 dL_law_1115 rfl (fun c_294 => ?_) (fun c_294 => ?_)
                                                                · replace hf := hf.1 c_294
                                                                  obtain ⟨q_293, hf⟩ := hf
                                                                  obtain ⟨v3_292, e_v3_292⟩ : ∃ z : Int, z = v3_1 + 6 := ⟨_, rfl⟩
                                                                  replace hf := hf v3_292 e_v3_292
                                                                  have h_v3_292 : inR v3_292 := by rw [e_v3_292]; exact q_293
                                                                  refine g_iincv hC 3 e_v3_292 [(3, J v3_292), (0, .ref b), (1, .ref (B + 0)), (2, .ref (B + 95))] dL_law_1449 rfl (by decide) rfl ?_
                                                                  refine g_goto hC 18 dL_law_1452 rfl ?_
                                                                  refine g_sub [(0, .ref b), (1, .ref (B + 0)), (2, .ref (B + 95)), (3, J v3_292)] [1, 2, 3, 0] rfl ?_
                                                                  exact ih18 v3_292 M_291 hf h_v3_292 h_M_291
                                                                · replace hf := hf.2 c_294
                                                                  refine g_iconst hC dL_law_1118 ?_
                                                                  exact hf.elim
                                                              · replace hf := hf.2
                                                                by_cases c_307 : bAnd (sc (v3_1).toNat) 63 = 30
                                                                · replace hf := hf.1 c_307
                                                                  refine g_tabIn hC 30 1120 (bAnd_in _ _) c_307 dL_law_33 (by decide) (by decide) rfl rfl ?_
                                                                  refine g_aload_n hC 1 dL_law_1120 rfl rfl ?_
                                                                  refine g_aload_n hC 0 dL_law_1121 rfl rfl ?_
                                                                  refine g_iload_n hC 3 dL_law_1122 rfl rfl ?_
                                                                  refine g_iconst hC dL_law_1123 ?_
                                                                  refine g_iadd hC dL_law_1124 ?_
                                                                  obtain ⟨q_296, hf⟩ := hf
                                                                  refine g_sld hC hsc0 hBs hX hbl hL q_296.1 q_296.2 dL_law_1125 ?_
                                                                  refine g_aload_n hC 0 dL_law_1126 rfl rfl ?_
                                                                  refine g_iload_n hC 3 dL_law_1127 rfl rfl ?_
                                                                  refine g_iconst hC dL_law_1128 ?_
                                                                  refine g_iadd hC dL_law_1129 ?_
                                                                  obtain ⟨q_297, hf⟩ := hf
                                                                  refine g_sld hC hsc0 hBs hX hbl hL q_297.1 q_297.2 dL_law_1130 ?_
                                                                  refine g_aload_n hC 0 dL_law_1131 rfl rfl ?_
                                                                  refine g_iload_n hC 3 dL_law_1132 rfl rfl ?_
                                                                  refine g_iconst hC dL_law_1133 ?_
                                                                  refine g_iadd hC dL_law_1134 ?_
                                                                  obtain ⟨q_298, hf⟩ := hf
                                                                  refine g_sld hC hsc0 hBs hX hbl hL q_298.1 q_298.2 dL_law_1135 ?_
                                                                  refine g_aload_n hC 0 dL_law_1136 rfl rfl ?_
                                                                  refine g_iload_n hC 3 dL_law_1137 rfl rfl ?_
                                                                  refine g_iconst hC dL_law_1138 ?_
                                                                  refine g_iadd hC dL_law_1139 ?_
                                                                  obtain ⟨q_299, hf⟩ := hf
                                                                  refine g_sld hC hsc0 hBs hX hbl hL q_299.1 q_299.2 dL_law_1140 ?_
                                                                  refine g_callVI hC (sk := []) [J (sc (v3_1 + 1).toNat), J (sc (v3_1 + 2).toNat), J (sc (v3_1 + 3).toNat), J (sc (v3_1 + 4).toNat)] (c_X11_add l B D K (sc (v3_1 + 1).toNat) (sc (v3_1 + 2).toNat) (sc (v3_1 + 3).toNat) (sc (v3_1 + 4).toNat) (hsc _) (hsc _) (hsc _) (hsc _) M_2 h_M_2 _ hf) yv_X11_add wm_L_139 okX11.1 sc0 rfl ⟨Nat.le_of_ble_eq_true rfl, Nat.le_of_ble_eq_true rfl, Nat.le_of_ble_eq_true rfl, Nat.le_of_ble_eq_true rfl⟩ rfl (Nat.le_of_ble_eq_true rfl) dL_law_1141 ?_
                                                                  intro r_300 M_301 h_r_300 h_M_301 hf
                                                                  refine g_aload_n hC 2 dL_law_1144 rfl rfl ?_
                                                                  refine g_aload_n hC 0 dL_law_1145 rfl rfl ?_
                                                                  refine g_iload_n hC 3 dL_law_1146 rfl rfl ?_
                                                                  refine g_iconst hC dL_law_1147 ?_
                                                                  refine g_iadd hC dL_law_1148 ?_
                                                                  refine g_sld hC hsc0 hBs hX hbl hL q_296.1 q_296.2 dL_law_1149 ?_
                                                                  refine g_aload_n hC 0 dL_law_1150 rfl rfl ?_
                                                                  refine g_iload_n hC 3 dL_law_1151 rfl rfl ?_
                                                                  refine g_iconst hC dL_law_1152 ?_
                                                                  refine g_iadd hC dL_law_1153 ?_
                                                                  refine g_sld hC hsc0 hBs hX hbl hL q_297.1 q_297.2 dL_law_1154 ?_
                                                                  refine g_aload_n hC 0 dL_law_1155 rfl rfl ?_
                                                                  refine g_iload_n hC 3 dL_law_1156 rfl rfl ?_
                                                                  refine g_iconst hC dL_law_1157 ?_
                                                                  refine g_iadd hC dL_law_1158 ?_
                                                                  refine g_sld hC hsc0 hBs hX hbl hL q_298.1 q_298.2 dL_law_1159 ?_
                                                                  refine g_aload_n hC 0 dL_law_1160 rfl rfl ?_
                                                                  refine g_iload_n hC 3 dL_law_1161 rfl rfl ?_
                                                                  refine g_iconst hC dL_law_1162 ?_
                                                                  refine g_iadd hC dL_law_1163 ?_
                                                                  refine g_sld hC hsc0 hBs hX hbl hL q_299.1 q_299.2 dL_law_1164 ?_
                                                                  refine g_callVI hC (sk := [J r_300]) [J (sc (v3_1 + 1).toNat), J (sc (v3_1 + 2).toNat), J (sc (v3_1 + 3).toNat), J (sc (v3_1 + 4).toNat)] (c_X12_add l B D K (sc (v3_1 + 1).toNat) (sc (v3_1 + 2).toNat) (sc (v3_1 + 3).toNat) (sc (v3_1 + 4).toNat) (hsc _) (hsc _) (hsc _) (hsc _) M_301 h_M_301 _ hf) yv_X12_add wm_L_143 okX12.1 sc95 rfl ⟨Nat.le_of_ble_eq_true rfl, Nat.le_of_ble_eq_true rfl, Nat.le_of_ble_eq_true rfl, Nat.le_of_ble_eq_true rfl⟩ rfl (Nat.le_of_ble_eq_true rfl) dL_law_1165 ?_
                                                                  intro r_302 M_303 h_r_302 h_M_303 hf
                                                                  refine g_icmp_eq hC 1449 h_r_300 h_r_302 dL_law_1168 rfl (fun c_306 => ?_) (fun c_306 => ?_)
                                                                  · replace hf := hf.1 c_306
                                                                    obtain ⟨q_305, hf⟩ := hf
                                                                    obtain ⟨v3_304, e_v3_304⟩ : ∃ z : Int, z = v3_1 + 6 := ⟨_, rfl⟩
                                                                    replace hf := hf v3_304 e_v3_304
                                                                    have h_v3_304 : inR v3_304 := by rw [e_v3_304]; exact q_305
                                                                    refine g_iincv hC 3 e_v3_304 [(3, J v3_304), (0, .ref b), (1, .ref (B + 0)), (2, .ref (B + 95))] dL_law_1449 rfl (by decide) rfl ?_
                                                                    refine g_goto hC 18 dL_law_1452 rfl ?_
                                                                    refine g_sub [(0, .ref b), (1, .ref (B + 0)), (2, .ref (B + 95)), (3, J v3_304)] [1, 2, 3, 0] rfl ?_
                                                                    exact ih18 v3_304 M_303 hf h_v3_304 h_M_303
                                                                  · replace hf := hf.2 c_306
                                                                    refine g_iconst hC dL_law_1171 ?_
                                                                    exact hf.elim
                                                                · replace hf := hf.2
                                                                  by_cases c_316 : bAnd (sc (v3_1).toNat) 63 = 31
                                                                  · replace hf := hf.1 c_316
                                                                    refine g_tabIn hC 31 1173 (bAnd_in _ _) c_316 dL_law_33 (by decide) (by decide) rfl rfl ?_
                                                                    refine g_aload_n hC 1 dL_law_1173 rfl rfl ?_
                                                                    refine g_aload_n hC 0 dL_law_1174 rfl rfl ?_
                                                                    refine g_iload_n hC 3 dL_law_1175 rfl rfl ?_
                                                                    refine g_iconst hC dL_law_1176 ?_
                                                                    refine g_iadd hC dL_law_1177 ?_
                                                                    obtain ⟨q_308, hf⟩ := hf
                                                                    refine g_sld hC hsc0 hBs hX hbl hL q_308.1 q_308.2 dL_law_1178 ?_
                                                                    refine g_callVZ hC (sk := []) [J (sc (v3_1 + 1).toNat)] (c_X11_drop l B D K (sc (v3_1 + 1).toNat) (hsc _) M_2 h_M_2 _ hf) yv_X11_drop wm_L_144 okX11.1 sc0 rfl ⟨Nat.le_of_ble_eq_true rfl, Nat.le_of_ble_eq_true rfl, Nat.le_of_ble_eq_true rfl, Nat.le_of_ble_eq_true rfl⟩ rfl (Nat.le_of_ble_eq_true rfl) dL_law_1179 ?_
                                                                    intro r_309 M_310 h_r_309 h_M_310 hf
                                                                    refine g_aload_n hC 2 dL_law_1182 rfl rfl ?_
                                                                    refine g_aload_n hC 0 dL_law_1183 rfl rfl ?_
                                                                    refine g_iload_n hC 3 dL_law_1184 rfl rfl ?_
                                                                    refine g_iconst hC dL_law_1185 ?_
                                                                    refine g_iadd hC dL_law_1186 ?_
                                                                    refine g_sld hC hsc0 hBs hX hbl hL q_308.1 q_308.2 dL_law_1187 ?_
                                                                    refine g_callVZ hC (sk := [J r_309]) [J (sc (v3_1 + 1).toNat)] (c_X12_drop l B D K (sc (v3_1 + 1).toNat) (hsc _) M_310 h_M_310 _ hf) yv_X12_drop wm_L_147 okX12.1 sc95 rfl ⟨Nat.le_of_ble_eq_true rfl, Nat.le_of_ble_eq_true rfl, Nat.le_of_ble_eq_true rfl, Nat.le_of_ble_eq_true rfl⟩ rfl (Nat.le_of_ble_eq_true rfl) dL_law_1188 ?_
                                                                    intro r_311 M_312 h_r_311 h_M_312 hf
                                                                    refine g_icmp_eq hC 1449 (zi_ h_r_309) (zi_ h_r_311) dL_law_1191 rfl (fun c_315 => ?_) (fun c_315 => ?_)
                                                                    · replace hf := hf.1 c_315
                                                                      obtain ⟨q_314, hf⟩ := hf
                                                                      obtain ⟨v3_313, e_v3_313⟩ : ∃ z : Int, z = v3_1 + 6 := ⟨_, rfl⟩
                                                                      replace hf := hf v3_313 e_v3_313
                                                                      have h_v3_313 : inR v3_313 := by rw [e_v3_313]; exact q_314
                                                                      refine g_iincv hC 3 e_v3_313 [(3, J v3_313), (0, .ref b), (1, .ref (B + 0)), (2, .ref (B + 95))] dL_law_1449 rfl (by decide) rfl ?_
                                                                      refine g_goto hC 18 dL_law_1452 rfl ?_
                                                                      refine g_sub [(0, .ref b), (1, .ref (B + 0)), (2, .ref (B + 95)), (3, J v3_313)] [1, 2, 3, 0] rfl ?_
                                                                      exact ih18 v3_313 M_312 hf h_v3_313 h_M_312
                                                                    · replace hf := hf.2 c_315
                                                                      refine g_iconst hC dL_law_1194 ?_
                                                                      exact hf.elim
                                                                  · replace hf := hf.2
                                                                    by_cases c_326 : bAnd (sc (v3_1).toNat) 63 = 32
                                                                    · replace hf := hf.1 c_326
                                                                      refine g_tabIn hC 32 1196 (bAnd_in _ _) c_326 dL_law_33 (by decide) (by decide) rfl rfl ?_
                                                                      refine g_aload_n hC 1 dL_law_1196 rfl rfl ?_
                                                                      refine g_aload_n hC 0 dL_law_1197 rfl rfl ?_
                                                                      refine g_iload_n hC 3 dL_law_1198 rfl rfl ?_
                                                                      refine g_iconst hC dL_law_1199 ?_
                                                                      refine g_iadd hC dL_law_1200 ?_
                                                                      obtain ⟨q_317, hf⟩ := hf
                                                                      refine g_sld hC hsc0 hBs hX hbl hL q_317.1 q_317.2 dL_law_1201 ?_
                                                                      refine g_aload_n hC 0 dL_law_1202 rfl rfl ?_
                                                                      refine g_iload_n hC 3 dL_law_1203 rfl rfl ?_
                                                                      refine g_iconst hC dL_law_1204 ?_
                                                                      refine g_iadd hC dL_law_1205 ?_
                                                                      obtain ⟨q_318, hf⟩ := hf
                                                                      refine g_sld hC hsc0 hBs hX hbl hL q_318.1 q_318.2 dL_law_1206 ?_
                                                                      refine g_callVI hC (sk := []) [J (sc (v3_1 + 1).toNat), J (sc (v3_1 + 2).toNat)] (c_X11_cut l B D K (sc (v3_1 + 1).toNat) (sc (v3_1 + 2).toNat) (hsc _) (hsc _) M_2 h_M_2 _ hf) yv_X11_cut wm_L_148 okX11.1 sc0 rfl ⟨Nat.le_of_ble_eq_true rfl, Nat.le_of_ble_eq_true rfl, Nat.le_of_ble_eq_true rfl, Nat.le_of_ble_eq_true rfl⟩ rfl (Nat.le_of_ble_eq_true rfl) dL_law_1207 ?_
                                                                      intro r_319 M_320 h_r_319 h_M_320 hf
                                                                      refine g_aload_n hC 2 dL_law_1210 rfl rfl ?_
                                                                      refine g_aload_n hC 0 dL_law_1211 rfl rfl ?_
                                                                      refine g_iload_n hC 3 dL_law_1212 rfl rfl ?_
                                                                      refine g_iconst hC dL_law_1213 ?_
                                                                      refine g_iadd hC dL_law_1214 ?_
                                                                      refine g_sld hC hsc0 hBs hX hbl hL q_317.1 q_317.2 dL_law_1215 ?_
                                                                      refine g_aload_n hC 0 dL_law_1216 rfl rfl ?_
                                                                      refine g_iload_n hC 3 dL_law_1217 rfl rfl ?_
                                                                      refine g_iconst hC dL_law_1218 ?_
                                                                      refine g_iadd hC dL_law_1219 ?_
                                                                      refine g_sld hC hsc0 hBs hX hbl hL q_318.1 q_318.2 dL_law_1220 ?_
                                                                      refine g_callVI hC (sk := [J r_319]) [J (sc (v3_1 + 1).toNat), J (sc (v3_1 + 2).toNat)] (c_X12_cut l B D K (sc (v3_1 + 1).toNat) (sc (v3_1 + 2).toNat) (hsc _) (hsc _) M_320 h_M_320 _ hf) yv_X12_cut wm_L_151 okX12.1 sc95 rfl ⟨Nat.le_of_ble_eq_true rfl, Nat.le_of_ble_eq_true rfl, Nat.le_of_ble_eq_true rfl, Nat.le_of_ble_eq_true rfl⟩ rfl (Nat.le_of_ble_eq_true rfl) dL_law_1221 ?_
                                                                      intro r_321 M_322 h_r_321 h_M_322 hf
                                                                      refine g_icmp_eq hC 1449 h_r_319 h_r_321 dL_law_1224 rfl (fun c_325 => ?_) (fun c_325 => ?_)
                                                                      · replace hf := hf.1 c_325
                                                                        obtain ⟨q_324, hf⟩ := hf
                                                                        obtain ⟨v3_323, e_v3_323⟩ : ∃ z : Int, z = v3_1 + 6 := ⟨_, rfl⟩
                                                                        replace hf := hf v3_323 e_v3_323
                                                                        have h_v3_323 : inR v3_323 := by rw [e_v3_323]; exact q_324
                                                                        refine g_iincv hC 3 e_v3_323 [(3, J v3_323), (0, .ref b), (1, .ref (B + 0)), (2, .ref (B + 95))] dL_law_1449 rfl (by decide) rfl ?_
                                                                        refine g_goto hC 18 dL_law_1452 rfl ?_
                                                                        refine g_sub [(0, .ref b), (1, .ref (B + 0)), (2, .ref (B + 95)), (3, J v3_323)] [1, 2, 3, 0] rfl ?_
                                                                        exact ih18 v3_323 M_322 hf h_v3_323 h_M_322
                                                                      · replace hf := hf.2 c_325
                                                                        refine g_iconst hC dL_law_1227 ?_
                                                                        exact hf.elim
                                                                    · replace hf := hf.2
                                                                      by_cases c_335 : bAnd (sc (v3_1).toNat) 63 = 33
                                                                      · replace hf := hf.1 c_335
                                                                        refine g_tabIn hC 33 1229 (bAnd_in _ _) c_335 dL_law_33 (by decide) (by decide) rfl rfl ?_
                                                                        refine g_aload_n hC 1 dL_law_1229 rfl rfl ?_
                                                                        refine g_aload_n hC 0 dL_law_1230 rfl rfl ?_
                                                                        refine g_iload_n hC 3 dL_law_1231 rfl rfl ?_
                                                                        refine g_iconst hC dL_law_1232 ?_
                                                                        refine g_iadd hC dL_law_1233 ?_
                                                                        obtain ⟨q_327, hf⟩ := hf
                                                                        refine g_sld hC hsc0 hBs hX hbl hL q_327.1 q_327.2 dL_law_1234 ?_
                                                                        refine g_callVZ hC (sk := []) [J (sc (v3_1 + 1).toNat)] (c_X11_turn l B D K (sc (v3_1 + 1).toNat) (hsc _) M_2 h_M_2 _ hf) yv_X11_turn wm_L_152 okX11.1 sc0 rfl ⟨Nat.le_of_ble_eq_true rfl, Nat.le_of_ble_eq_true rfl, Nat.le_of_ble_eq_true rfl, Nat.le_of_ble_eq_true rfl⟩ rfl (Nat.le_of_ble_eq_true rfl) dL_law_1235 ?_
                                                                        intro r_328 M_329 h_r_328 h_M_329 hf
                                                                        refine g_aload_n hC 2 dL_law_1238 rfl rfl ?_
                                                                        refine g_aload_n hC 0 dL_law_1239 rfl rfl ?_
                                                                        refine g_iload_n hC 3 dL_law_1240 rfl rfl ?_
                                                                        refine g_iconst hC dL_law_1241 ?_
                                                                        refine g_iadd hC dL_law_1242 ?_
                                                                        refine g_sld hC hsc0 hBs hX hbl hL q_327.1 q_327.2 dL_law_1243 ?_
                                                                        refine g_callVZ hC (sk := [J r_328]) [J (sc (v3_1 + 1).toNat)] (c_X12_turn l B D K (sc (v3_1 + 1).toNat) (hsc _) M_329 h_M_329 _ hf) yv_X12_turn wm_L_155 okX12.1 sc95 rfl ⟨Nat.le_of_ble_eq_true rfl, Nat.le_of_ble_eq_true rfl, Nat.le_of_ble_eq_true rfl, Nat.le_of_ble_eq_true rfl⟩ rfl (Nat.le_of_ble_eq_true rfl) dL_law_1244 ?_
                                                                        intro r_330 M_331 h_r_330 h_M_331 hf
                                                                        refine g_icmp_eq hC 1449 (zi_ h_r_328) (zi_ h_r_330) dL_law_1247 rfl (fun c_334 => ?_) (fun c_334 => ?_)
                                                                        · replace hf := hf.1 c_334
                                                                          obtain ⟨q_333, hf⟩ := hf
                                                                          obtain ⟨v3_332, e_v3_332⟩ : ∃ z : Int, z = v3_1 + 6 := ⟨_, rfl⟩
                                                                          replace hf := hf v3_332 e_v3_332
                                                                          have h_v3_332 : inR v3_332 := by rw [e_v3_332]; exact q_333
                                                                          refine g_iincv hC 3 e_v3_332 [(3, J v3_332), (0, .ref b), (1, .ref (B + 0)), (2, .ref (B + 95))] dL_law_1449 rfl (by decide) rfl ?_
                                                                          refine g_goto hC 18 dL_law_1452 rfl ?_
                                                                          refine g_sub [(0, .ref b), (1, .ref (B + 0)), (2, .ref (B + 95)), (3, J v3_332)] [1, 2, 3, 0] rfl ?_
                                                                          exact ih18 v3_332 M_331 hf h_v3_332 h_M_331
                                                                        · replace hf := hf.2 c_334
                                                                          refine g_iconst hC dL_law_1250 ?_
                                                                          exact hf.elim
                                                                      · replace hf := hf.2
                                                                        by_cases c_345 : bAnd (sc (v3_1).toNat) 63 = 34
                                                                        · replace hf := hf.1 c_345
                                                                          refine g_tabIn hC 34 1252 (bAnd_in _ _) c_345 dL_law_33 (by decide) (by decide) rfl rfl ?_
                                                                          refine g_aload_n hC 1 dL_law_1252 rfl rfl ?_
                                                                          refine g_aload_n hC 0 dL_law_1253 rfl rfl ?_
                                                                          refine g_iload_n hC 3 dL_law_1254 rfl rfl ?_
                                                                          refine g_iconst hC dL_law_1255 ?_
                                                                          refine g_iadd hC dL_law_1256 ?_
                                                                          obtain ⟨q_336, hf⟩ := hf
                                                                          refine g_sld hC hsc0 hBs hX hbl hL q_336.1 q_336.2 dL_law_1257 ?_
                                                                          refine g_aload_n hC 0 dL_law_1258 rfl rfl ?_
                                                                          refine g_iload_n hC 3 dL_law_1259 rfl rfl ?_
                                                                          refine g_iconst hC dL_law_1260 ?_
                                                                          refine g_iadd hC dL_law_1261 ?_
                                                                          obtain ⟨q_337, hf⟩ := hf
                                                                          refine g_sld hC hsc0 hBs hX hbl hL q_337.1 q_337.2 dL_law_1262 ?_
                                                                          refine g_callVZ hC (sk := []) [J (sc (v3_1 + 1).toNat), J (sc (v3_1 + 2).toNat)] (c_X11_gives l B D K (sc (v3_1 + 1).toNat) (sc (v3_1 + 2).toNat) (hsc _) (hsc _) M_2 h_M_2 _ hf) yv_X11_gives wm_L_156 okX11.1 sc0 rfl ⟨Nat.le_of_ble_eq_true rfl, Nat.le_of_ble_eq_true rfl, Nat.le_of_ble_eq_true rfl, Nat.le_of_ble_eq_true rfl⟩ rfl (Nat.le_of_ble_eq_true rfl) dL_law_1263 ?_
                                                                          intro r_338 M_339 h_r_338 h_M_339 hf
                                                                          refine g_aload_n hC 2 dL_law_1266 rfl rfl ?_
                                                                          refine g_aload_n hC 0 dL_law_1267 rfl rfl ?_
                                                                          refine g_iload_n hC 3 dL_law_1268 rfl rfl ?_
                                                                          refine g_iconst hC dL_law_1269 ?_
                                                                          refine g_iadd hC dL_law_1270 ?_
                                                                          refine g_sld hC hsc0 hBs hX hbl hL q_336.1 q_336.2 dL_law_1271 ?_
                                                                          refine g_aload_n hC 0 dL_law_1272 rfl rfl ?_
                                                                          refine g_iload_n hC 3 dL_law_1273 rfl rfl ?_
                                                                          refine g_iconst hC dL_law_1274 ?_
                                                                          refine g_iadd hC dL_law_1275 ?_
                                                                          refine g_sld hC hsc0 hBs hX hbl hL q_337.1 q_337.2 dL_law_1276 ?_
                                                                          refine g_callVZ hC (sk := [J r_338]) [J (sc (v3_1 + 1).toNat), J (sc (v3_1 + 2).toNat)] (c_X12_gives l B D K (sc (v3_1 + 1).toNat) (sc (v3_1 + 2).toNat) (hsc _) (hsc _) M_339 h_M_339 _ hf) yv_X12_gives wm_L_160 okX12.1 sc95 rfl ⟨Nat.le_of_ble_eq_true rfl, Nat.le_of_ble_eq_true rfl, Nat.le_of_ble_eq_true rfl, Nat.le_of_ble_eq_true rfl⟩ rfl (Nat.le_of_ble_eq_true rfl) dL_law_1277 ?_
                                                                          intro r_340 M_341 h_r_340 h_M_341 hf
                                                                          refine g_icmp_eq hC 1449 (zi_ h_r_338) (zi_ h_r_340) dL_law_1280 rfl (fun c_344 => ?_) (fun c_344 => ?_)
                                                                          · replace hf := hf.1 c_344
                                                                            obtain ⟨q_343, hf⟩ := hf
                                                                            obtain ⟨v3_342, e_v3_342⟩ : ∃ z : Int, z = v3_1 + 6 := ⟨_, rfl⟩
                                                                            replace hf := hf v3_342 e_v3_342
                                                                            have h_v3_342 : inR v3_342 := by rw [e_v3_342]; exact q_343
                                                                            refine g_iincv hC 3 e_v3_342 [(3, J v3_342), (0, .ref b), (1, .ref (B + 0)), (2, .ref (B + 95))] dL_law_1449 rfl (by decide) rfl ?_
                                                                            refine g_goto hC 18 dL_law_1452 rfl ?_
                                                                            refine g_sub [(0, .ref b), (1, .ref (B + 0)), (2, .ref (B + 95)), (3, J v3_342)] [1, 2, 3, 0] rfl ?_
                                                                            exact ih18 v3_342 M_341 hf h_v3_342 h_M_341
                                                                          · replace hf := hf.2 c_344
                                                                            refine g_iconst hC dL_law_1283 ?_
                                                                            exact hf.elim
                                                                        · replace hf := hf.2
                                                                          by_cases c_355 : bAnd (sc (v3_1).toNat) 63 = 35
                                                                          · replace hf := hf.1 c_355
                                                                            refine g_tabIn hC 35 1285 (bAnd_in _ _) c_355 dL_law_33 (by decide) (by decide) rfl rfl ?_
                                                                            refine g_aload_n hC 1 dL_law_1285 rfl rfl ?_
                                                                            refine g_aload_n hC 0 dL_law_1286 rfl rfl ?_
                                                                            refine g_iload_n hC 3 dL_law_1287 rfl rfl ?_
                                                                            refine g_iconst hC dL_law_1288 ?_
                                                                            refine g_iadd hC dL_law_1289 ?_
                                                                            obtain ⟨q_346, hf⟩ := hf
                                                                            refine g_sld hC hsc0 hBs hX hbl hL q_346.1 q_346.2 dL_law_1290 ?_
                                                                            refine g_aload_n hC 0 dL_law_1291 rfl rfl ?_
                                                                            refine g_iload_n hC 3 dL_law_1292 rfl rfl ?_
                                                                            refine g_iconst hC dL_law_1293 ?_
                                                                            refine g_iadd hC dL_law_1294 ?_
                                                                            obtain ⟨q_347, hf⟩ := hf
                                                                            refine g_sld hC hsc0 hBs hX hbl hL q_347.1 q_347.2 dL_law_1295 ?_
                                                                            refine g_callVZ hC (sk := []) [J (sc (v3_1 + 1).toNat), J (sc (v3_1 + 2).toNat)] (c_X11_call l B D K (sc (v3_1 + 1).toNat) (sc (v3_1 + 2).toNat) (hsc _) (hsc _) M_2 h_M_2 _ hf) yv_X11_call wm_L_161 okX11.1 sc0 rfl ⟨Nat.le_of_ble_eq_true rfl, Nat.le_of_ble_eq_true rfl, Nat.le_of_ble_eq_true rfl, Nat.le_of_ble_eq_true rfl⟩ rfl (Nat.le_of_ble_eq_true rfl) dL_law_1296 ?_
                                                                            intro r_348 M_349 h_r_348 h_M_349 hf
                                                                            refine g_aload_n hC 2 dL_law_1299 rfl rfl ?_
                                                                            refine g_aload_n hC 0 dL_law_1300 rfl rfl ?_
                                                                            refine g_iload_n hC 3 dL_law_1301 rfl rfl ?_
                                                                            refine g_iconst hC dL_law_1302 ?_
                                                                            refine g_iadd hC dL_law_1303 ?_
                                                                            refine g_sld hC hsc0 hBs hX hbl hL q_346.1 q_346.2 dL_law_1304 ?_
                                                                            refine g_aload_n hC 0 dL_law_1305 rfl rfl ?_
                                                                            refine g_iload_n hC 3 dL_law_1306 rfl rfl ?_
                                                                            refine g_iconst hC dL_law_1307 ?_
                                                                            refine g_iadd hC dL_law_1308 ?_
                                                                            refine g_sld hC hsc0 hBs hX hbl hL q_347.1 q_347.2 dL_law_1309 ?_
                                                                            refine g_callVZ hC (sk := [J r_348]) [J (sc (v3_1 + 1).toNat), J (sc (v3_1 + 2).toNat)] (c_X12_call l B D K (sc (v3_1 + 1).toNat) (sc (v3_1 + 2).toNat) (hsc _) (hsc _) M_349 h_M_349 _ hf) yv_X12_call wm_L_164 okX12.1 sc95 rfl ⟨Nat.le_of_ble_eq_true rfl, Nat.le_of_ble_eq_true rfl, Nat.le_of_ble_eq_true rfl, Nat.le_of_ble_eq_true rfl⟩ rfl (Nat.le_of_ble_eq_true rfl) dL_law_1310 ?_
                                                                            intro r_350 M_351 h_r_350 h_M_351 hf
                                                                            refine g_icmp_eq hC 1449 (zi_ h_r_348) (zi_ h_r_350) dL_law_1313 rfl (fun c_354 => ?_) (fun c_354 => ?_)
                                                                            · replace hf := hf.1 c_354
                                                                              obtain ⟨q_353, hf⟩ := hf
                                                                              obtain ⟨v3_352, e_v3_352⟩ : ∃ z : Int, z = v3_1 + 6 := ⟨_, rfl⟩
                                                                              replace hf := hf v3_352 e_v3_352
                                                                              have h_v3_352 : inR v3_352 := by rw [e_v3_352]; exact q_353
                                                                              refine g_iincv hC 3 e_v3_352 [(3, J v3_352), (0, .ref b), (1, .ref (B + 0)), (2, .ref (B + 95))] dL_law_1449 rfl (by decide) rfl ?_
                                                                              refine g_goto hC 18 dL_law_1452 rfl ?_
                                                                              refine g_sub [(0, .ref b), (1, .ref (B + 0)), (2, .ref (B + 95)), (3, J v3_352)] [1, 2, 3, 0] rfl ?_
                                                                              exact ih18 v3_352 M_351 hf h_v3_352 h_M_351
                                                                            · replace hf := hf.2 c_354
                                                                              refine g_iconst hC dL_law_1316 ?_
                                                                              exact hf.elim
                                                                          · replace hf := hf.2
                                                                            by_cases c_364 : bAnd (sc (v3_1).toNat) 63 = 36
                                                                            · replace hf := hf.1 c_364
                                                                              refine g_tabIn hC 36 1318 (bAnd_in _ _) c_364 dL_law_33 (by decide) (by decide) rfl rfl ?_
                                                                              refine g_aload_n hC 1 dL_law_1318 rfl rfl ?_
                                                                              refine g_aload_n hC 0 dL_law_1319 rfl rfl ?_
                                                                              refine g_iload_n hC 3 dL_law_1320 rfl rfl ?_
                                                                              refine g_iconst hC dL_law_1321 ?_
                                                                              refine g_iadd hC dL_law_1322 ?_
                                                                              obtain ⟨q_356, hf⟩ := hf
                                                                              refine g_sld hC hsc0 hBs hX hbl hL q_356.1 q_356.2 dL_law_1323 ?_
                                                                              refine g_callVI hC (sk := []) [J (sc (v3_1 + 1).toNat)] (c_X11_chance l B D K (sc (v3_1 + 1).toNat) (hsc _) M_2 h_M_2 _ hf) yv_X11_chance wm_L_165 okX11.1 sc0 rfl ⟨Nat.le_of_ble_eq_true rfl, Nat.le_of_ble_eq_true rfl, Nat.le_of_ble_eq_true rfl, Nat.le_of_ble_eq_true rfl⟩ rfl (Nat.le_of_ble_eq_true rfl) dL_law_1324 ?_
                                                                              intro r_357 M_358 h_r_357 h_M_358 hf
                                                                              refine g_aload_n hC 2 dL_law_1327 rfl rfl ?_
                                                                              refine g_aload_n hC 0 dL_law_1328 rfl rfl ?_
                                                                              refine g_iload_n hC 3 dL_law_1329 rfl rfl ?_
                                                                              refine g_iconst hC dL_law_1330 ?_
                                                                              refine g_iadd hC dL_law_1331 ?_
                                                                              refine g_sld hC hsc0 hBs hX hbl hL q_356.1 q_356.2 dL_law_1332 ?_
                                                                              refine g_callVI hC (sk := [J r_357]) [J (sc (v3_1 + 1).toNat)] (c_X12_chance l B D K (sc (v3_1 + 1).toNat) (hsc _) M_358 h_M_358 _ hf) yv_X12_chance wm_L_168 okX12.1 sc95 rfl ⟨Nat.le_of_ble_eq_true rfl, Nat.le_of_ble_eq_true rfl, Nat.le_of_ble_eq_true rfl, Nat.le_of_ble_eq_true rfl⟩ rfl (Nat.le_of_ble_eq_true rfl) dL_law_1333 ?_
                                                                              intro r_359 M_360 h_r_359 h_M_360 hf
                                                                              refine g_icmp_eq hC 1449 h_r_357 h_r_359 dL_law_1336 rfl (fun c_363 => ?_) (fun c_363 => ?_)
                                                                              · replace hf := hf.1 c_363
                                                                                obtain ⟨q_362, hf⟩ := hf
                                                                                obtain ⟨v3_361, e_v3_361⟩ : ∃ z : Int, z = v3_1 + 6 := ⟨_, rfl⟩
                                                                                replace hf := hf v3_361 e_v3_361
                                                                                have h_v3_361 : inR v3_361 := by rw [e_v3_361]; exact q_362
                                                                                refine g_iincv hC 3 e_v3_361 [(3, J v3_361), (0, .ref b), (1, .ref (B + 0)), (2, .ref (B + 95))] dL_law_1449 rfl (by decide) rfl ?_
                                                                                refine g_goto hC 18 dL_law_1452 rfl ?_
                                                                                refine g_sub [(0, .ref b), (1, .ref (B + 0)), (2, .ref (B + 95)), (3, J v3_361)] [1, 2, 3, 0] rfl ?_
                                                                                exact ih18 v3_361 M_360 hf h_v3_361 h_M_360
                                                                              · replace hf := hf.2 c_363
                                                                                refine g_iconst hC dL_law_1339 ?_
                                                                                exact hf.elim
                                                                            · replace hf := hf.2
                                                                              by_cases c_372 : bAnd (sc (v3_1).toNat) 63 = 37
                                                                              · replace hf := hf.1 c_372
                                                                                refine g_tabIn hC 37 1341 (bAnd_in _ _) c_372 dL_law_33 (by decide) (by decide) rfl rfl ?_
                                                                                refine g_aload_n hC 1 dL_law_1341 rfl rfl ?_
                                                                                refine g_callVZ hC (sk := []) [] (c_X11_undo l B D K   M_2 h_M_2 _ hf) yv_X11_undo wm_L_169 okX11.1 sc0 rfl ⟨Nat.le_of_ble_eq_true rfl, Nat.le_of_ble_eq_true rfl, Nat.le_of_ble_eq_true rfl, Nat.le_of_ble_eq_true rfl⟩ rfl (Nat.le_of_ble_eq_true rfl) dL_law_1342 ?_
                                                                                intro r_365 M_366 h_r_365 h_M_366 hf
                                                                                refine g_aload_n hC 2 dL_law_1345 rfl rfl ?_
                                                                                refine g_callVZ hC (sk := [J r_365]) [] (c_X12_undo l B D K   M_366 h_M_366 _ hf) yv_X12_undo wm_L_173 okX12.1 sc95 rfl ⟨Nat.le_of_ble_eq_true rfl, Nat.le_of_ble_eq_true rfl, Nat.le_of_ble_eq_true rfl, Nat.le_of_ble_eq_true rfl⟩ rfl (Nat.le_of_ble_eq_true rfl) dL_law_1346 ?_
                                                                                intro r_367 M_368 h_r_367 h_M_368 hf
                                                                                refine g_icmp_eq hC 1449 (zi_ h_r_365) (zi_ h_r_367) dL_law_1349 rfl (fun c_371 => ?_) (fun c_371 => ?_)
                                                                                · replace hf := hf.1 c_371
                                                                                  obtain ⟨q_370, hf⟩ := hf
                                                                                  obtain ⟨v3_369, e_v3_369⟩ : ∃ z : Int, z = v3_1 + 6 := ⟨_, rfl⟩
                                                                                  replace hf := hf v3_369 e_v3_369
                                                                                  have h_v3_369 : inR v3_369 := by rw [e_v3_369]; exact q_370
                                                                                  refine g_iincv hC 3 e_v3_369 [(3, J v3_369), (0, .ref b), (1, .ref (B + 0)), (2, .ref (B + 95))] dL_law_1449 rfl (by decide) rfl ?_
                                                                                  refine g_goto hC 18 dL_law_1452 rfl ?_
                                                                                  refine g_sub [(0, .ref b), (1, .ref (B + 0)), (2, .ref (B + 95)), (3, J v3_369)] [1, 2, 3, 0] rfl ?_
                                                                                  exact ih18 v3_369 M_368 hf h_v3_369 h_M_368
                                                                                · replace hf := hf.2 c_371
                                                                                  refine g_iconst hC dL_law_1352 ?_
                                                                                  exact hf.elim
                                                                              · replace hf := hf.2
                                                                                by_cases c_381 : bAnd (sc (v3_1).toNat) 63 = 38
                                                                                · replace hf := hf.1 c_381
                                                                                  refine g_tabIn hC 38 1354 (bAnd_in _ _) c_381 dL_law_33 (by decide) (by decide) rfl rfl ?_
                                                                                  refine g_aload_n hC 1 dL_law_1354 rfl rfl ?_
                                                                                  refine g_aload_n hC 0 dL_law_1355 rfl rfl ?_
                                                                                  refine g_iload_n hC 3 dL_law_1356 rfl rfl ?_
                                                                                  refine g_iconst hC dL_law_1357 ?_
                                                                                  refine g_iadd hC dL_law_1358 ?_
                                                                                  obtain ⟨q_373, hf⟩ := hf
                                                                                  refine g_sld hC hsc0 hBs hX hbl hL q_373.1 q_373.2 dL_law_1359 ?_
                                                                                  refine g_callVZ hC (sk := []) [J (sc (v3_1 + 1).toNat)] (c_X11_seed l B D K (sc (v3_1 + 1).toNat) (hsc _) M_2 h_M_2 _ hf) yv_X11_seed wm_L_174 okX11.1 sc0 rfl ⟨Nat.le_of_ble_eq_true rfl, Nat.le_of_ble_eq_true rfl, Nat.le_of_ble_eq_true rfl, Nat.le_of_ble_eq_true rfl⟩ rfl (Nat.le_of_ble_eq_true rfl) dL_law_1360 ?_
                                                                                  intro r_374 M_375 h_r_374 h_M_375 hf
                                                                                  refine g_aload_n hC 2 dL_law_1363 rfl rfl ?_
                                                                                  refine g_aload_n hC 0 dL_law_1364 rfl rfl ?_
                                                                                  refine g_iload_n hC 3 dL_law_1365 rfl rfl ?_
                                                                                  refine g_iconst hC dL_law_1366 ?_
                                                                                  refine g_iadd hC dL_law_1367 ?_
                                                                                  refine g_sld hC hsc0 hBs hX hbl hL q_373.1 q_373.2 dL_law_1368 ?_
                                                                                  refine g_callVZ hC (sk := [J r_374]) [J (sc (v3_1 + 1).toNat)] (c_X12_seed l B D K (sc (v3_1 + 1).toNat) (hsc _) M_375 h_M_375 _ hf) yv_X12_seed wm_L_177 okX12.1 sc95 rfl ⟨Nat.le_of_ble_eq_true rfl, Nat.le_of_ble_eq_true rfl, Nat.le_of_ble_eq_true rfl, Nat.le_of_ble_eq_true rfl⟩ rfl (Nat.le_of_ble_eq_true rfl) dL_law_1369 ?_
                                                                                  intro r_376 M_377 h_r_376 h_M_377 hf
                                                                                  refine g_icmp_eq hC 1449 (zi_ h_r_374) (zi_ h_r_376) dL_law_1372 rfl (fun c_380 => ?_) (fun c_380 => ?_)
                                                                                  · replace hf := hf.1 c_380
                                                                                    obtain ⟨q_379, hf⟩ := hf
                                                                                    obtain ⟨v3_378, e_v3_378⟩ : ∃ z : Int, z = v3_1 + 6 := ⟨_, rfl⟩
                                                                                    replace hf := hf v3_378 e_v3_378
                                                                                    have h_v3_378 : inR v3_378 := by rw [e_v3_378]; exact q_379
                                                                                    refine g_iincv hC 3 e_v3_378 [(3, J v3_378), (0, .ref b), (1, .ref (B + 0)), (2, .ref (B + 95))] dL_law_1449 rfl (by decide) rfl ?_
                                                                                    refine g_goto hC 18 dL_law_1452 rfl ?_
                                                                                    refine g_sub [(0, .ref b), (1, .ref (B + 0)), (2, .ref (B + 95)), (3, J v3_378)] [1, 2, 3, 0] rfl ?_
                                                                                    exact ih18 v3_378 M_377 hf h_v3_378 h_M_377
                                                                                  · replace hf := hf.2 c_380
                                                                                    refine g_iconst hC dL_law_1375 ?_
                                                                                    exact hf.elim
                                                                                · replace hf := hf.2
                                                                                  by_cases c_389 : bAnd (sc (v3_1).toNat) 63 = 39
                                                                                  · replace hf := hf.1 c_389
                                                                                    refine g_tabIn hC 39 1377 (bAnd_in _ _) c_389 dL_law_33 (by decide) (by decide) rfl rfl ?_
                                                                                    refine g_aload_n hC 1 dL_law_1377 rfl rfl ?_
                                                                                    refine g_callVI hC (sk := []) [] (c_X11_image l B D K   M_2 h_M_2 _ hf) yv_X11_image wm_L_178 okX11.1 sc0 rfl ⟨Nat.le_of_ble_eq_true rfl, Nat.le_of_ble_eq_true rfl, Nat.le_of_ble_eq_true rfl, Nat.le_of_ble_eq_true rfl⟩ rfl (Nat.le_of_ble_eq_true rfl) dL_law_1378 ?_
                                                                                    intro r_382 M_383 h_r_382 h_M_383 hf
                                                                                    refine g_aload_n hC 2 dL_law_1381 rfl rfl ?_
                                                                                    refine g_callVI hC (sk := [J r_382]) [] (c_X12_image l B D K   M_383 h_M_383 _ hf) yv_X12_image wm_L_181 okX12.1 sc95 rfl ⟨Nat.le_of_ble_eq_true rfl, Nat.le_of_ble_eq_true rfl, Nat.le_of_ble_eq_true rfl, Nat.le_of_ble_eq_true rfl⟩ rfl (Nat.le_of_ble_eq_true rfl) dL_law_1382 ?_
                                                                                    intro r_384 M_385 h_r_384 h_M_385 hf
                                                                                    refine g_icmp_eq hC 1449 h_r_382 h_r_384 dL_law_1385 rfl (fun c_388 => ?_) (fun c_388 => ?_)
                                                                                    · replace hf := hf.1 c_388
                                                                                      obtain ⟨q_387, hf⟩ := hf
                                                                                      obtain ⟨v3_386, e_v3_386⟩ : ∃ z : Int, z = v3_1 + 6 := ⟨_, rfl⟩
                                                                                      replace hf := hf v3_386 e_v3_386
                                                                                      have h_v3_386 : inR v3_386 := by rw [e_v3_386]; exact q_387
                                                                                      refine g_iincv hC 3 e_v3_386 [(3, J v3_386), (0, .ref b), (1, .ref (B + 0)), (2, .ref (B + 95))] dL_law_1449 rfl (by decide) rfl ?_
                                                                                      refine g_goto hC 18 dL_law_1452 rfl ?_
                                                                                      refine g_sub [(0, .ref b), (1, .ref (B + 0)), (2, .ref (B + 95)), (3, J v3_386)] [1, 2, 3, 0] rfl ?_
                                                                                      exact ih18 v3_386 M_385 hf h_v3_386 h_M_385
                                                                                    · replace hf := hf.2 c_388
                                                                                      refine g_iconst hC dL_law_1388 ?_
                                                                                      exact hf.elim
                                                                                  · replace hf := hf.2
                                                                                    by_cases c_398 : bAnd (sc (v3_1).toNat) 63 = 40
                                                                                    · replace hf := hf.1 c_398
                                                                                      refine g_tabIn hC 40 1390 (bAnd_in _ _) c_398 dL_law_33 (by decide) (by decide) rfl rfl ?_
                                                                                      refine g_aload_n hC 1 dL_law_1390 rfl rfl ?_
                                                                                      refine g_aload_n hC 0 dL_law_1391 rfl rfl ?_
                                                                                      refine g_iload_n hC 3 dL_law_1392 rfl rfl ?_
                                                                                      refine g_iconst hC dL_law_1393 ?_
                                                                                      refine g_iadd hC dL_law_1394 ?_
                                                                                      obtain ⟨q_390, hf⟩ := hf
                                                                                      refine g_sld hC hsc0 hBs hX hbl hL q_390.1 q_390.2 dL_law_1395 ?_
                                                                                      refine g_callVI hC (sk := []) [J (sc (v3_1 + 1).toNat)] (c_X11_octet l B D K (sc (v3_1 + 1).toNat) (hsc _) M_2 h_M_2 _ hf) yv_X11_octet wm_L_182 okX11.1 sc0 rfl ⟨Nat.le_of_ble_eq_true rfl, Nat.le_of_ble_eq_true rfl, Nat.le_of_ble_eq_true rfl, Nat.le_of_ble_eq_true rfl⟩ rfl (Nat.le_of_ble_eq_true rfl) dL_law_1396 ?_
                                                                                      rintro r_391 M_392 h_r_391 - ⟨rfl, hf⟩
                                                                                      refine g_aload_n hC 2 dL_law_1399 rfl rfl ?_
                                                                                      refine g_aload_n hC 0 dL_law_1400 rfl rfl ?_
                                                                                      refine g_iload_n hC 3 dL_law_1401 rfl rfl ?_
                                                                                      refine g_iconst hC dL_law_1402 ?_
                                                                                      refine g_iadd hC dL_law_1403 ?_
                                                                                      refine g_sld hC hsc0 hBs hX hbl hL q_390.1 q_390.2 dL_law_1404 ?_
                                                                                      refine g_callVI hC (sk := [J r_391]) [J (sc (v3_1 + 1).toNat)] (c_X12_octet l B D K (sc (v3_1 + 1).toNat) (hsc _) M_2 h_M_2 _ hf) yv_X12_octet wm_L_185 okX12.1 sc95 rfl ⟨Nat.le_of_ble_eq_true rfl, Nat.le_of_ble_eq_true rfl, Nat.le_of_ble_eq_true rfl, Nat.le_of_ble_eq_true rfl⟩ rfl (Nat.le_of_ble_eq_true rfl) dL_law_1405 ?_
                                                                                      rintro r_393 M_394 h_r_393 - ⟨rfl, hf⟩
                                                                                      refine g_icmp_eq hC 1449 h_r_391 h_r_393 dL_law_1408 rfl (fun c_397 => ?_) (fun c_397 => ?_)
                                                                                      · replace hf := hf.1 c_397
                                                                                        obtain ⟨q_396, hf⟩ := hf
                                                                                        obtain ⟨v3_395, e_v3_395⟩ : ∃ z : Int, z = v3_1 + 6 := ⟨_, rfl⟩
                                                                                        replace hf := hf v3_395 e_v3_395
                                                                                        have h_v3_395 : inR v3_395 := by rw [e_v3_395]; exact q_396
                                                                                        refine g_iincv hC 3 e_v3_395 [(3, J v3_395), (0, .ref b), (1, .ref (B + 0)), (2, .ref (B + 95))] dL_law_1449 rfl (by decide) rfl ?_
                                                                                        refine g_goto hC 18 dL_law_1452 rfl ?_
                                                                                        refine g_sub [(0, .ref b), (1, .ref (B + 0)), (2, .ref (B + 95)), (3, J v3_395)] [1, 2, 3, 0] rfl ?_
                                                                                        exact ih18 v3_395 M_2 hf h_v3_395 h_M_2
                                                                                      · replace hf := hf.2 c_397
                                                                                        refine g_iconst hC dL_law_1411 ?_
                                                                                        exact hf.elim
                                                                                    · replace hf := hf.2
                                                                                      by_cases c_406 : bAnd (sc (v3_1).toNat) 63 = 41
                                                                                      · replace hf := hf.1 c_406
                                                                                        refine g_tabIn hC 41 1413 (bAnd_in _ _) c_406 dL_law_33 (by decide) (by decide) rfl rfl ?_
                                                                                        refine g_aload_n hC 1 dL_law_1413 rfl rfl ?_
                                                                                        refine g_callVZ hC (sk := []) [] (c_X11_on l B D K   M_2 h_M_2 _ hf) yv_X11_on wm_L_186 okX11.1 sc0 rfl ⟨Nat.le_of_ble_eq_true rfl, Nat.le_of_ble_eq_true rfl, Nat.le_of_ble_eq_true rfl, Nat.le_of_ble_eq_true rfl⟩ rfl (Nat.le_of_ble_eq_true rfl) dL_law_1414 ?_
                                                                                        intro r_399 M_400 h_r_399 h_M_400 hf
                                                                                        refine g_aload_n hC 2 dL_law_1417 rfl rfl ?_
                                                                                        refine g_callVZ hC (sk := [J r_399]) [] (c_X12_on l B D K   M_400 h_M_400 _ hf) yv_X12_on wm_L_189 okX12.1 sc95 rfl ⟨Nat.le_of_ble_eq_true rfl, Nat.le_of_ble_eq_true rfl, Nat.le_of_ble_eq_true rfl, Nat.le_of_ble_eq_true rfl⟩ rfl (Nat.le_of_ble_eq_true rfl) dL_law_1418 ?_
                                                                                        intro r_401 M_402 h_r_401 h_M_402 hf
                                                                                        refine g_icmp_eq hC 1449 (zi_ h_r_399) (zi_ h_r_401) dL_law_1421 rfl (fun c_405 => ?_) (fun c_405 => ?_)
                                                                                        · replace hf := hf.1 c_405
                                                                                          obtain ⟨q_404, hf⟩ := hf
                                                                                          obtain ⟨v3_403, e_v3_403⟩ : ∃ z : Int, z = v3_1 + 6 := ⟨_, rfl⟩
                                                                                          replace hf := hf v3_403 e_v3_403
                                                                                          have h_v3_403 : inR v3_403 := by rw [e_v3_403]; exact q_404
                                                                                          refine g_iincv hC 3 e_v3_403 [(3, J v3_403), (0, .ref b), (1, .ref (B + 0)), (2, .ref (B + 95))] dL_law_1449 rfl (by decide) rfl ?_
                                                                                          refine g_goto hC 18 dL_law_1452 rfl ?_
                                                                                          refine g_sub [(0, .ref b), (1, .ref (B + 0)), (2, .ref (B + 95)), (3, J v3_403)] [1, 2, 3, 0] rfl ?_
                                                                                          exact ih18 v3_403 M_402 hf h_v3_403 h_M_402
                                                                                        · replace hf := hf.2 c_405
                                                                                          refine g_iconst hC dL_law_1424 ?_
                                                                                          exact hf.elim
                                                                                      · replace hf := hf.2
                                                                                        by_cases c_415 : bAnd (sc (v3_1).toNat) 63 = 42
                                                                                        · replace hf := hf.1 c_415
                                                                                          refine g_tabIn hC 42 1426 (bAnd_in _ _) c_415 dL_law_33 (by decide) (by decide) rfl rfl ?_
                                                                                          refine g_aload_n hC 1 dL_law_1426 rfl rfl ?_
                                                                                          refine g_aload_n hC 0 dL_law_1427 rfl rfl ?_
                                                                                          refine g_iload_n hC 3 dL_law_1428 rfl rfl ?_
                                                                                          refine g_iconst hC dL_law_1429 ?_
                                                                                          refine g_iadd hC dL_law_1430 ?_
                                                                                          obtain ⟨q_407, hf⟩ := hf
                                                                                          refine g_sld hC hsc0 hBs hX hbl hL q_407.1 q_407.2 dL_law_1431 ?_
                                                                                          refine g_callVI hC (sk := []) [J (sc (v3_1 + 1).toNat)] (c_X11_status l B D K (sc (v3_1 + 1).toNat) (hsc _) M_2 h_M_2 _ hf) yv_X11_status wm_L_190 okX11.1 sc0 rfl ⟨Nat.le_of_ble_eq_true rfl, Nat.le_of_ble_eq_true rfl, Nat.le_of_ble_eq_true rfl, Nat.le_of_ble_eq_true rfl⟩ rfl (Nat.le_of_ble_eq_true rfl) dL_law_1432 ?_
                                                                                          rintro r_408 M_409 h_r_408 - ⟨rfl, hf⟩
                                                                                          refine g_aload_n hC 2 dL_law_1435 rfl rfl ?_
                                                                                          refine g_aload_n hC 0 dL_law_1436 rfl rfl ?_
                                                                                          refine g_iload_n hC 3 dL_law_1437 rfl rfl ?_
                                                                                          refine g_iconst hC dL_law_1438 ?_
                                                                                          refine g_iadd hC dL_law_1439 ?_
                                                                                          refine g_sld hC hsc0 hBs hX hbl hL q_407.1 q_407.2 dL_law_1440 ?_
                                                                                          refine g_callVI hC (sk := [J r_408]) [J (sc (v3_1 + 1).toNat)] (c_X12_status l B D K (sc (v3_1 + 1).toNat) (hsc _) M_2 h_M_2 _ hf) yv_X12_status wm_L_193 okX12.1 sc95 rfl ⟨Nat.le_of_ble_eq_true rfl, Nat.le_of_ble_eq_true rfl, Nat.le_of_ble_eq_true rfl, Nat.le_of_ble_eq_true rfl⟩ rfl (Nat.le_of_ble_eq_true rfl) dL_law_1441 ?_
                                                                                          rintro r_410 M_411 h_r_410 - ⟨rfl, hf⟩
                                                                                          refine g_icmp_eq hC 1449 h_r_408 h_r_410 dL_law_1444 rfl (fun c_414 => ?_) (fun c_414 => ?_)
                                                                                          · replace hf := hf.1 c_414
                                                                                            obtain ⟨q_413, hf⟩ := hf
                                                                                            obtain ⟨v3_412, e_v3_412⟩ : ∃ z : Int, z = v3_1 + 6 := ⟨_, rfl⟩
                                                                                            replace hf := hf v3_412 e_v3_412
                                                                                            have h_v3_412 : inR v3_412 := by rw [e_v3_412]; exact q_413
                                                                                            refine g_iincv hC 3 e_v3_412 [(3, J v3_412), (0, .ref b), (1, .ref (B + 0)), (2, .ref (B + 95))] dL_law_1449 rfl (by decide) rfl ?_
                                                                                            refine g_goto hC 18 dL_law_1452 rfl ?_
                                                                                            refine g_sub [(0, .ref b), (1, .ref (B + 0)), (2, .ref (B + 95)), (3, J v3_412)] [1, 2, 3, 0] rfl ?_
                                                                                            exact ih18 v3_412 M_2 hf h_v3_412 h_M_2
                                                                                          · replace hf := hf.2 c_414
                                                                                            refine g_iconst hC dL_law_1447 ?_
                                                                                            exact hf.elim
                                                                                        · replace hf := hf.2
                                                                                          have c_418 : bAnd (sc (v3_1).toNat) 63 < 0 ∨ 42 < bAnd (sc (v3_1).toNat) 63 := by omega
                                                                                          replace hf := hf c_418
                                                                                          refine g_tabOut hC 1449 (bAnd_in _ _) dL_law_33 c_418 rfl ?_
                                                                                          obtain ⟨q_417, hf⟩ := hf
                                                                                          obtain ⟨v3_416, e_v3_416⟩ : ∃ z : Int, z = v3_1 + 6 := ⟨_, rfl⟩
                                                                                          replace hf := hf v3_416 e_v3_416
                                                                                          have h_v3_416 : inR v3_416 := by rw [e_v3_416]; exact q_417
                                                                                          refine g_iincv hC 3 e_v3_416 [(3, J v3_416), (0, .ref b), (1, .ref (B + 0)), (2, .ref (B + 95))] dL_law_1449 rfl (by decide) rfl ?_
                                                                                          refine g_goto hC 18 dL_law_1452 rfl ?_
                                                                                          refine g_sub [(0, .ref b), (1, .ref (B + 0)), (2, .ref (B + 95)), (3, J v3_416)] [1, 2, 3, 0] rfl ?_
                                                                                          exact ih18 v3_416 M_2 hf h_v3_416 h_M_2
