def R_X11_at (x1 : Int32) (mA : Nat) (M : Mem) : Option (Int32) := bnd1 (if (M.1 242 1) ≤ x1 then (some (-1 : Int32)) else (ck x1 800 (some (M.1 243 x1.toNatClampNeg)))) (fun v3_0 => some v3_0)
theorem S_X11_at {sh : List SC} {M : Mem} {x1 : Int32} {mA : Nat} {oA : Nat} {v' : Int32} (hb1 : ModelAt sh mA oA)  (h : R_X11_at x1 mA M = some v') : Gv m_X11_at [.ref 242, .int x1] sh M (.int v') M := by
  refine Sp.of (ls := [some (.ref 242), some (.int x1)]) (by decide +kernel) (Nat.le_of_ble_eq_true rfl) rfl ?_
  have k0 : kd sh 242 = some (10 + 7, 0) := hb1.1
  have k1 : rf sh 242 0 = some 243 := hb1.2.1
  have k2 : kd sh 243 = some (0, 800) := hb1.2.2.2.2.2.2.2.2.2.2.2.2.2.2.2.2.2.2.2.2.2.2.2.2.2.2.2.1
  unfold R_X11_at at h
  refine r_iload_n e_X11_at_0 rfl ?_
  refine r_aload_n e_X11_at_1 rfl ?_
  refine r_getI e_X11_at_2 fl_X11_1 i0 k0 ?_
  obtain ⟨K3, hK3, h⟩ := bnd1_in h
  suffices j3 : ∀ v3_0, K3 v3_0 = some v' → WP m_X11_at _ 18 [none, none] [.int v3_0] sh M 0 0 by
    refine r_icmp_ge e_X11_at_5 (fun c1 => ?_) (fun c1 => ?_)
    · rw [if_pos c1] at h
      refine r_iconst e_X11_at_17 ic_m1 ?_
      refine d_2_0 ?_
      refine d_2_1 ?_
      exact j3 _ h
    · rw [if_neg c1] at h
      refine r_aload_n e_X11_at_8 rfl ?_
      refine r_getR e_X11_at_9 fl_X11_7 k0 k1 ?_
      refine r_iload_n e_X11_at_12 rfl ?_
      obtain ⟨b4, h⟩ := ck_elK h
      refine r_iaload e_X11_at_13 k2 b4 ?_
      refine r_goto e_X11_at_14 ?_
      refine d_2_0 ?_
      refine d_2_1 ?_
      exact j3 _ h
  intro v3_0 h
  rw [hK3] at h
  refine r_ireturn e_X11_at_18 rfl ⟨rfl, rfl⟩ ?_
  obtain rfl := Option.some.inj h; exact ⟨rfl, rfl, rfl⟩
def R_X11_findWord (mA : Nat) (M : Mem) : Option (Mem) := if (lg_cmp (M.2 242 7) (10492313 : Int64)) = 0 then (some (setI M 242 5 (10 : Int32))) else (if (lg_cmp (M.2 242 7) (458690 : Int64)) = 0 then (some (setI M 242 5 (11 : Int32))) else (if (lg_cmp (M.2 242 7) (1111 : Int64)) = 0 then (some (setI M 242 5 (12 : Int32))) else (if (lg_cmp (M.2 242 7) (204 : Int64)) = 0 then (some (setI M 242 5 (13 : Int32))) else (if (lg_cmp (M.2 242 7) (14006 : Int64)) = 0 then (some (setI M 242 5 (14 : Int32))) else (if (lg_cmp (M.2 242 7) (267413 : Int64)) = 0 then (some (setI M 242 5 (15 : Int32))) else (if (lg_cmp (M.2 242 7) (555 : Int64)) = 0 then (some (setI M 242 5 (16 : Int32))) else (if (lg_cmp (M.2 242 7) (223166 : Int64)) = 0 then (some (setI M 242 5 (17 : Int32))) else (if (lg_cmp (M.2 242 7) (388609 : Int64)) = 0 then (some (setI M 242 5 (18 : Int32))) else (if 0 ≤ (lg_cmp (M.2 242 7) (5 : Int64)) then (if (lg_cmp (M.2 242 7) (6943155 : Int64)) = 0 then (some (setI (setI M 242 5 (5 : Int32)) 242 6 (0 : Int32))) else (if (lg_cmp (M.2 242 7) (6943156 : Int64)) = 0 then (some (setI (setI M 242 5 (5 : Int32)) 242 6 (1 : Int32))) else (if (lg_cmp (M.2 242 7) (129192 : Int64)) = 0 then (some (setI (setI M 242 5 (5 : Int32)) 242 6 (2 : Int32))) else (if (lg_cmp (M.2 242 7) (129193 : Int64)) = 0 then (some (setI (setI M 242 5 (5 : Int32)) 242 6 (3 : Int32))) else (if (lg_cmp (M.2 242 7) (1091661 : Int64)) = 0 then (some (setI (setI M 242 5 (4 : Int32)) 242 6 (0 : Int32))) else (if (lg_cmp (M.2 242 7) (1091662 : Int64)) = 0 then (some (setI (setI M 242 5 (4 : Int32)) 242 6 (1 : Int32))) else (if (lg_cmp (M.2 242 7) (10176 : Int64)) = 0 then (some (setI (setI M 242 5 (4 : Int32)) 242 6 (2 : Int32))) else (if (lg_cmp (M.2 242 7) (10177 : Int64)) = 0 then (some (setI (setI M 242 5 (4 : Int32)) 242 6 (3 : Int32))) else (if (lg_cmp (M.2 242 7) (161437 : Int64)) = 0 then (some (setI (setI M 242 5 (4 : Int32)) 242 6 (4 : Int32))) else (if (lg_cmp (M.2 242 7) (400313 : Int64)) = 0 then (some (setI (setI M 242 5 (4 : Int32)) 242 6 (5 : Int32))) else (if (lg_cmp (M.2 242 7) (239872 : Int64)) = 0 then (some (setI (setI M 242 5 (4 : Int32)) 242 6 (6 : Int32))) else (if (lg_cmp (M.2 242 7) (279252 : Int64)) = 0 then (some (setI (setI M 242 5 (4 : Int32)) 242 6 (7 : Int32))) else (some (setI M 242 5 (1 : Int32))))))))))))))) else (some (setI (setI M 242 5 (3 : Int32)) 242 6 ((M.2 242 7).toInt32 - (1 : Int32)))))))))))))
theorem S_X11_findWord {sh : List SC} {M : Mem}  {mA : Nat} {oA : Nat} {M' : Mem} (hb1 : ModelAt sh mA oA)  (h : R_X11_findWord mA M = some M') : Gu m_X11_findWord [.ref 242] sh M M' := by
  refine Sp.of (ls := [some (.ref 242), none, none]) (by decide +kernel) (Nat.le_of_ble_eq_true rfl) rfl ?_
  have k0 : kd sh 242 = some (10 + 7, 0) := hb1.1
  unfold R_X11_findWord at h
  refine r_aload_n e_X11_findWord_0 rfl ?_
  refine r_getJ e_X11_findWord_1 fl_X11_24 k0 ?_
  refine p_lstore_n_3_1 e_X11_findWord_4 rfl rfl ?_
  refine r_lload_n e_X11_findWord_5 rfl ?_
  refine r_ldc2 e_X11_findWord_6 lc_X11_55 ?_
  refine r_lcmp e_X11_findWord_9 ?_
  refine r_if_ne e_X11_findWord_10 (fun c1 => ?_) (fun c1 => ?_)
  · rw [if_neg c1] at h
    refine r_lload_n e_X11_findWord_20 rfl ?_
    refine r_ldc2 e_X11_findWord_21 lc_X11_57 ?_
    refine r_lcmp e_X11_findWord_24 ?_
    refine r_if_ne e_X11_findWord_25 (fun c2 => ?_) (fun c2 => ?_)
    · rw [if_neg c2] at h
      refine r_lload_n e_X11_findWord_35 rfl ?_
      refine r_ldc2 e_X11_findWord_36 lc_X11_59 ?_
      refine r_lcmp e_X11_findWord_39 ?_
      refine r_if_ne e_X11_findWord_40 (fun c3 => ?_) (fun c3 => ?_)
      · rw [if_neg c3] at h
        refine r_lload_n e_X11_findWord_50 rfl ?_
        refine r_ldc2 e_X11_findWord_51 lc_X11_61 ?_
        refine r_lcmp e_X11_findWord_54 ?_
        refine r_if_ne e_X11_findWord_55 (fun c4 => ?_) (fun c4 => ?_)
        · rw [if_neg c4] at h
          refine r_lload_n e_X11_findWord_65 rfl ?_
          refine r_ldc2 e_X11_findWord_66 lc_X11_63 ?_
          refine r_lcmp e_X11_findWord_69 ?_
          refine r_if_ne e_X11_findWord_70 (fun c5 => ?_) (fun c5 => ?_)
          · rw [if_neg c5] at h
            refine r_lload_n e_X11_findWord_80 rfl ?_
            refine r_ldc2 e_X11_findWord_81 lc_X11_65 ?_
            refine r_lcmp e_X11_findWord_84 ?_
            refine r_if_ne e_X11_findWord_85 (fun c6 => ?_) (fun c6 => ?_)
            · rw [if_neg c6] at h
              refine r_lload_n e_X11_findWord_95 rfl ?_
              refine r_ldc2 e_X11_findWord_96 lc_X11_67 ?_
              refine r_lcmp e_X11_findWord_99 ?_
              refine r_if_ne e_X11_findWord_100 (fun c7 => ?_) (fun c7 => ?_)
              · rw [if_neg c7] at h
                refine r_lload_n e_X11_findWord_110 rfl ?_
                refine r_ldc2 e_X11_findWord_111 lc_X11_69 ?_
                refine r_lcmp e_X11_findWord_114 ?_
                refine r_if_ne e_X11_findWord_115 (fun c8 => ?_) (fun c8 => ?_)
                · rw [if_neg c8] at h
                  refine r_lload_n e_X11_findWord_125 rfl ?_
                  refine r_ldc2 e_X11_findWord_126 lc_X11_71 ?_
                  refine r_lcmp e_X11_findWord_129 ?_
                  refine r_if_ne e_X11_findWord_130 (fun c9 => ?_) (fun c9 => ?_)
                  · rw [if_neg c9] at h
                    refine r_lload_n e_X11_findWord_140 rfl ?_
                    refine r_ldc2 e_X11_findWord_141 lc_X11_73 ?_
                    refine r_lcmp e_X11_findWord_144 ?_
                    refine r_if_ge e_X11_findWord_145 (fun c10 => ?_) (fun c10 => ?_)
                    · rw [if_pos c10] at h
                      refine r_lload_n e_X11_findWord_162 rfl ?_
                      refine r_ldc2 e_X11_findWord_163 lc_X11_75 ?_
                      refine r_lcmp e_X11_findWord_166 ?_
                      refine r_if_ne e_X11_findWord_167 (fun c11 => ?_) (fun c11 => ?_)
                      · rw [if_neg c11] at h
                        refine r_lload_n e_X11_findWord_181 rfl ?_
                        refine r_ldc2 e_X11_findWord_182 lc_X11_77 ?_
                        refine r_lcmp e_X11_findWord_185 ?_
                        refine r_if_ne e_X11_findWord_186 (fun c12 => ?_) (fun c12 => ?_)
                        · rw [if_neg c12] at h
                          refine r_lload_n e_X11_findWord_200 rfl ?_
                          refine r_ldc2 e_X11_findWord_201 lc_X11_79 ?_
                          refine r_lcmp e_X11_findWord_204 ?_
                          refine r_if_ne e_X11_findWord_205 (fun c13 => ?_) (fun c13 => ?_)
                          · rw [if_neg c13] at h
                            refine r_lload_n e_X11_findWord_219 rfl ?_
                            refine r_ldc2 e_X11_findWord_220 lc_X11_81 ?_
                            refine r_lcmp e_X11_findWord_223 ?_
                            refine r_if_ne e_X11_findWord_224 (fun c14 => ?_) (fun c14 => ?_)
                            · rw [if_neg c14] at h
                              refine r_lload_n e_X11_findWord_238 rfl ?_
                              refine r_ldc2 e_X11_findWord_239 lc_X11_83 ?_
                              refine r_lcmp e_X11_findWord_242 ?_
                              refine r_if_ne e_X11_findWord_243 (fun c15 => ?_) (fun c15 => ?_)
                              · rw [if_neg c15] at h
                                refine r_lload_n e_X11_findWord_257 rfl ?_
                                refine r_ldc2 e_X11_findWord_258 lc_X11_85 ?_
                                refine r_lcmp e_X11_findWord_261 ?_
                                refine r_if_ne e_X11_findWord_262 (fun c16 => ?_) (fun c16 => ?_)
                                · rw [if_neg c16] at h
                                  refine r_lload_n e_X11_findWord_276 rfl ?_
                                  refine r_ldc2 e_X11_findWord_277 lc_X11_87 ?_
                                  refine r_lcmp e_X11_findWord_280 ?_
                                  refine r_if_ne e_X11_findWord_281 (fun c17 => ?_) (fun c17 => ?_)
                                  · rw [if_neg c17] at h
                                    refine r_lload_n e_X11_findWord_295 rfl ?_
                                    refine r_ldc2 e_X11_findWord_296 lc_X11_89 ?_
                                    refine r_lcmp e_X11_findWord_299 ?_
                                    refine r_if_ne e_X11_findWord_300 (fun c18 => ?_) (fun c18 => ?_)
                                    · rw [if_neg c18] at h
                                      refine r_lload_n e_X11_findWord_314 rfl ?_
                                      refine r_ldc2 e_X11_findWord_315 lc_X11_91 ?_
                                      refine r_lcmp e_X11_findWord_318 ?_
                                      refine r_if_ne e_X11_findWord_319 (fun c19 => ?_) (fun c19 => ?_)
                                      · rw [if_neg c19] at h
                                        refine r_lload_n e_X11_findWord_333 rfl ?_
                                        refine r_ldc2 e_X11_findWord_334 lc_X11_93 ?_
                                        refine r_lcmp e_X11_findWord_337 ?_
                                        refine r_if_ne e_X11_findWord_338 (fun c20 => ?_) (fun c20 => ?_)
                                        · rw [if_neg c20] at h
                                          refine r_lload_n e_X11_findWord_352 rfl ?_
                                          refine r_ldc2 e_X11_findWord_353 lc_X11_95 ?_
                                          refine r_lcmp e_X11_findWord_356 ?_
                                          refine r_if_ne e_X11_findWord_357 (fun c21 => ?_) (fun c21 => ?_)
                                          · rw [if_neg c21] at h
                                            refine r_lload_n e_X11_findWord_372 rfl ?_
                                            refine r_ldc2 e_X11_findWord_373 lc_X11_97 ?_
                                            refine r_lcmp e_X11_findWord_376 ?_
                                            refine r_if_ne e_X11_findWord_377 (fun c22 => ?_) (fun c22 => ?_)
                                            · rw [if_neg c22] at h
                                              refine r_aload_n e_X11_findWord_392 rfl ?_
                                              refine r_iconst e_X11_findWord_393 ic_1 ?_
                                              refine r_putI e_X11_findWord_394 fl_X11_28 k0 ?_
                                              refine r_return e_X11_findWord_397 rfl ⟨rfl, rfl⟩ ?_
                                              obtain rfl := Option.some.inj h; exact ⟨rfl, rfl, rfl⟩
                                            · rw [if_pos c22] at h
                                              refine r_aload_n e_X11_findWord_380 rfl ?_
                                              refine r_iconst e_X11_findWord_381 ic_4 ?_
                                              refine r_putI e_X11_findWord_382 fl_X11_28 k0 ?_
                                              refine r_aload_n e_X11_findWord_385 rfl ?_
                                              refine r_bipush e_X11_findWord_386 bp_7 ?_
                                              refine r_putI e_X11_findWord_388 fl_X11_21 k0 ?_
                                              refine r_return e_X11_findWord_391 rfl ⟨rfl, rfl⟩ ?_
                                              obtain rfl := Option.some.inj h; exact ⟨rfl, rfl, rfl⟩
                                          · rw [if_pos c21] at h
                                            refine r_aload_n e_X11_findWord_360 rfl ?_
                                            refine r_iconst e_X11_findWord_361 ic_4 ?_
                                            refine r_putI e_X11_findWord_362 fl_X11_28 k0 ?_
                                            refine r_aload_n e_X11_findWord_365 rfl ?_
                                            refine r_bipush e_X11_findWord_366 bp_6 ?_
                                            refine r_putI e_X11_findWord_368 fl_X11_21 k0 ?_
                                            refine r_return e_X11_findWord_371 rfl ⟨rfl, rfl⟩ ?_
                                            obtain rfl := Option.some.inj h; exact ⟨rfl, rfl, rfl⟩
                                        · rw [if_pos c20] at h
                                          refine r_aload_n e_X11_findWord_341 rfl ?_
                                          refine r_iconst e_X11_findWord_342 ic_4 ?_
                                          refine r_putI e_X11_findWord_343 fl_X11_28 k0 ?_
                                          refine r_aload_n e_X11_findWord_346 rfl ?_
                                          refine r_iconst e_X11_findWord_347 ic_5 ?_
                                          refine r_putI e_X11_findWord_348 fl_X11_21 k0 ?_
                                          refine r_return e_X11_findWord_351 rfl ⟨rfl, rfl⟩ ?_
                                          obtain rfl := Option.some.inj h; exact ⟨rfl, rfl, rfl⟩
                                      · rw [if_pos c19] at h
                                        refine r_aload_n e_X11_findWord_322 rfl ?_
                                        refine r_iconst e_X11_findWord_323 ic_4 ?_
                                        refine r_putI e_X11_findWord_324 fl_X11_28 k0 ?_
                                        refine r_aload_n e_X11_findWord_327 rfl ?_
                                        refine r_iconst e_X11_findWord_328 ic_4 ?_
                                        refine r_putI e_X11_findWord_329 fl_X11_21 k0 ?_
                                        refine r_return e_X11_findWord_332 rfl ⟨rfl, rfl⟩ ?_
                                        obtain rfl := Option.some.inj h; exact ⟨rfl, rfl, rfl⟩
                                    · rw [if_pos c18] at h
                                      refine r_aload_n e_X11_findWord_303 rfl ?_
                                      refine r_iconst e_X11_findWord_304 ic_4 ?_
                                      refine r_putI e_X11_findWord_305 fl_X11_28 k0 ?_
                                      refine r_aload_n e_X11_findWord_308 rfl ?_
                                      refine r_iconst e_X11_findWord_309 ic_3 ?_
                                      refine r_putI e_X11_findWord_310 fl_X11_21 k0 ?_
                                      refine r_return e_X11_findWord_313 rfl ⟨rfl, rfl⟩ ?_
                                      obtain rfl := Option.some.inj h; exact ⟨rfl, rfl, rfl⟩
                                  · rw [if_pos c17] at h
                                    refine r_aload_n e_X11_findWord_284 rfl ?_
                                    refine r_iconst e_X11_findWord_285 ic_4 ?_
                                    refine r_putI e_X11_findWord_286 fl_X11_28 k0 ?_
                                    refine r_aload_n e_X11_findWord_289 rfl ?_
                                    refine r_iconst e_X11_findWord_290 ic_2 ?_
                                    refine r_putI e_X11_findWord_291 fl_X11_21 k0 ?_
                                    refine r_return e_X11_findWord_294 rfl ⟨rfl, rfl⟩ ?_
                                    obtain rfl := Option.some.inj h; exact ⟨rfl, rfl, rfl⟩
                                · rw [if_pos c16] at h
                                  refine r_aload_n e_X11_findWord_265 rfl ?_
                                  refine r_iconst e_X11_findWord_266 ic_4 ?_
                                  refine r_putI e_X11_findWord_267 fl_X11_28 k0 ?_
                                  refine r_aload_n e_X11_findWord_270 rfl ?_
                                  refine r_iconst e_X11_findWord_271 ic_1 ?_
                                  refine r_putI e_X11_findWord_272 fl_X11_21 k0 ?_
                                  refine r_return e_X11_findWord_275 rfl ⟨rfl, rfl⟩ ?_
                                  obtain rfl := Option.some.inj h; exact ⟨rfl, rfl, rfl⟩
                              · rw [if_pos c15] at h
                                refine r_aload_n e_X11_findWord_246 rfl ?_
                                refine r_iconst e_X11_findWord_247 ic_4 ?_
                                refine r_putI e_X11_findWord_248 fl_X11_28 k0 ?_
                                refine r_aload_n e_X11_findWord_251 rfl ?_
                                refine r_iconst e_X11_findWord_252 ic_0 ?_
                                refine r_putI e_X11_findWord_253 fl_X11_21 k0 ?_
                                refine r_return e_X11_findWord_256 rfl ⟨rfl, rfl⟩ ?_
                                obtain rfl := Option.some.inj h; exact ⟨rfl, rfl, rfl⟩
                            · rw [if_pos c14] at h
                              refine r_aload_n e_X11_findWord_227 rfl ?_
                              refine r_iconst e_X11_findWord_228 ic_5 ?_
                              refine r_putI e_X11_findWord_229 fl_X11_28 k0 ?_
                              refine r_aload_n e_X11_findWord_232 rfl ?_
                              refine r_iconst e_X11_findWord_233 ic_3 ?_
                              refine r_putI e_X11_findWord_234 fl_X11_21 k0 ?_
                              refine r_return e_X11_findWord_237 rfl ⟨rfl, rfl⟩ ?_
                              obtain rfl := Option.some.inj h; exact ⟨rfl, rfl, rfl⟩
                          · rw [if_pos c13] at h
                            refine r_aload_n e_X11_findWord_208 rfl ?_
                            refine r_iconst e_X11_findWord_209 ic_5 ?_
                            refine r_putI e_X11_findWord_210 fl_X11_28 k0 ?_
                            refine r_aload_n e_X11_findWord_213 rfl ?_
                            refine r_iconst e_X11_findWord_214 ic_2 ?_
                            refine r_putI e_X11_findWord_215 fl_X11_21 k0 ?_
                            refine r_return e_X11_findWord_218 rfl ⟨rfl, rfl⟩ ?_
                            obtain rfl := Option.some.inj h; exact ⟨rfl, rfl, rfl⟩
                        · rw [if_pos c12] at h
                          refine r_aload_n e_X11_findWord_189 rfl ?_
                          refine r_iconst e_X11_findWord_190 ic_5 ?_
                          refine r_putI e_X11_findWord_191 fl_X11_28 k0 ?_
                          refine r_aload_n e_X11_findWord_194 rfl ?_
                          refine r_iconst e_X11_findWord_195 ic_1 ?_
                          refine r_putI e_X11_findWord_196 fl_X11_21 k0 ?_
                          refine r_return e_X11_findWord_199 rfl ⟨rfl, rfl⟩ ?_
                          obtain rfl := Option.some.inj h; exact ⟨rfl, rfl, rfl⟩
                      · rw [if_pos c11] at h
                        refine r_aload_n e_X11_findWord_170 rfl ?_
                        refine r_iconst e_X11_findWord_171 ic_5 ?_
                        refine r_putI e_X11_findWord_172 fl_X11_28 k0 ?_
                        refine r_aload_n e_X11_findWord_175 rfl ?_
                        refine r_iconst e_X11_findWord_176 ic_0 ?_
                        refine r_putI e_X11_findWord_177 fl_X11_21 k0 ?_
                        refine r_return e_X11_findWord_180 rfl ⟨rfl, rfl⟩ ?_
                        obtain rfl := Option.some.inj h; exact ⟨rfl, rfl, rfl⟩
                    · rw [if_neg c10] at h
                      refine r_aload_n e_X11_findWord_148 rfl ?_
                      refine r_iconst e_X11_findWord_149 ic_3 ?_
                      refine r_putI e_X11_findWord_150 fl_X11_28 k0 ?_
                      refine r_aload_n e_X11_findWord_153 rfl ?_
                      refine r_lload_n e_X11_findWord_154 rfl ?_
                      refine r_l2i e_X11_findWord_155 ?_
                      refine r_iconst e_X11_findWord_156 ic_1 ?_
                      refine r_isub e_X11_findWord_157 ?_
                      refine r_putI e_X11_findWord_158 fl_X11_21 k0 ?_
                      refine r_return e_X11_findWord_161 rfl ⟨rfl, rfl⟩ ?_
                      obtain rfl := Option.some.inj h; exact ⟨rfl, rfl, rfl⟩
                  · rw [if_pos c9] at h
                    refine r_aload_n e_X11_findWord_133 rfl ?_
                    refine r_bipush e_X11_findWord_134 bp_18 ?_
                    refine r_putI e_X11_findWord_136 fl_X11_28 k0 ?_
                    refine r_return e_X11_findWord_139 rfl ⟨rfl, rfl⟩ ?_
                    obtain rfl := Option.some.inj h; exact ⟨rfl, rfl, rfl⟩
                · rw [if_pos c8] at h
                  refine r_aload_n e_X11_findWord_118 rfl ?_
                  refine r_bipush e_X11_findWord_119 bp_17 ?_
                  refine r_putI e_X11_findWord_121 fl_X11_28 k0 ?_
                  refine r_return e_X11_findWord_124 rfl ⟨rfl, rfl⟩ ?_
                  obtain rfl := Option.some.inj h; exact ⟨rfl, rfl, rfl⟩
              · rw [if_pos c7] at h
                refine r_aload_n e_X11_findWord_103 rfl ?_
                refine r_bipush e_X11_findWord_104 bp_16 ?_
                refine r_putI e_X11_findWord_106 fl_X11_28 k0 ?_
                refine r_return e_X11_findWord_109 rfl ⟨rfl, rfl⟩ ?_
                obtain rfl := Option.some.inj h; exact ⟨rfl, rfl, rfl⟩
            · rw [if_pos c6] at h
              refine r_aload_n e_X11_findWord_88 rfl ?_
              refine r_bipush e_X11_findWord_89 bp_15 ?_
              refine r_putI e_X11_findWord_91 fl_X11_28 k0 ?_
              refine r_return e_X11_findWord_94 rfl ⟨rfl, rfl⟩ ?_
              obtain rfl := Option.some.inj h; exact ⟨rfl, rfl, rfl⟩
          · rw [if_pos c5] at h
            refine r_aload_n e_X11_findWord_73 rfl ?_
            refine r_bipush e_X11_findWord_74 bp_14 ?_
            refine r_putI e_X11_findWord_76 fl_X11_28 k0 ?_
            refine r_return e_X11_findWord_79 rfl ⟨rfl, rfl⟩ ?_
            obtain rfl := Option.some.inj h; exact ⟨rfl, rfl, rfl⟩
        · rw [if_pos c4] at h
          refine r_aload_n e_X11_findWord_58 rfl ?_
          refine r_bipush e_X11_findWord_59 bp_13 ?_
          refine r_putI e_X11_findWord_61 fl_X11_28 k0 ?_
          refine r_return e_X11_findWord_64 rfl ⟨rfl, rfl⟩ ?_
          obtain rfl := Option.some.inj h; exact ⟨rfl, rfl, rfl⟩
      · rw [if_pos c3] at h
        refine r_aload_n e_X11_findWord_43 rfl ?_
        refine r_bipush e_X11_findWord_44 bp_12 ?_
        refine r_putI e_X11_findWord_46 fl_X11_28 k0 ?_
        refine r_return e_X11_findWord_49 rfl ⟨rfl, rfl⟩ ?_
        obtain rfl := Option.some.inj h; exact ⟨rfl, rfl, rfl⟩
    · rw [if_pos c2] at h
      refine r_aload_n e_X11_findWord_28 rfl ?_
      refine r_bipush e_X11_findWord_29 bp_11 ?_
      refine r_putI e_X11_findWord_31 fl_X11_28 k0 ?_
      refine r_return e_X11_findWord_34 rfl ⟨rfl, rfl⟩ ?_
      obtain rfl := Option.some.inj h; exact ⟨rfl, rfl, rfl⟩
  · rw [if_pos c1] at h
    refine r_aload_n e_X11_findWord_13 rfl ?_
    refine r_bipush e_X11_findWord_14 bp_10 ?_
    refine r_putI e_X11_findWord_16 fl_X11_28 k0 ?_
    refine r_return e_X11_findWord_19 rfl ⟨rfl, rfl⟩ ?_
    obtain rfl := Option.some.inj h; exact ⟨rfl, rfl, rfl⟩
def L_X11_figures_0 (mA : Nat) : Nat → Mem → Option (Mem)
  | 0, _ => none
  | n + 1, M => bnd1 (R_X11_at (M.1 242 4) mA M) (fun v1 => if (V_X11_isFigure v1 M) = 0 then (some M) else (bnd1 (if (M.1 242 6) ≤ (999 : Int32) then (bnd1 (R_X11_at (M.1 242 4) mA M) (fun v6 => (some ((((10 : Int32) * (M.1 242 6)) + v6) - (48 : Int32))))) else (some (M.1 242 6))) (fun v5_0 => L_X11_figures_0 mA n (setI (setI M 242 6 v5_0) 242 4 ((M.1 242 4) + (1 : Int32))))))
theorem LW_X11_figures_0 {sh : List SC} {Q : Po}  {mA : Nat} {oA : Nat}  (hb1 : ModelAt sh mA oA)  : ∀ (n : Nat) (M : Mem) (Mz : Mem), L_X11_figures_0 mA n M = some Mz → WP m_X11_figures Q 67 [some (.ref 242)] [] sh Mz 0 0 → WP m_X11_figures Q 0 [some (.ref 242)] [] sh M 0 0 := by
  intro n
  induction n with
  | zero =>
    intro M Mz h hE
    rw [L_X11_figures_0] at h
    cases h
  | succ n ih =>
    intro M Mz h hE
    rw [L_X11_figures_0] at h
    have k0 : kd sh 242 = some (10 + 7, 0) := hb1.1
    refine r_aload_n e_X11_figures_0 rfl ?_
    refine r_aload_n e_X11_figures_1 rfl ?_
    refine r_getI e_X11_figures_2 fl_X11_11 i0 k0 ?_
    obtain ⟨v1, w1, h⟩ := bnd1_el h
    refine cV1v e_X11_figures_5 cl_X11_14 ⟨Nat.le_of_ble_eq_true rfl, Nat.le_of_ble_eq_true rfl⟩ ⟨rfl, rfl⟩ k0 (Nat.le_of_ble_eq_true rfl) (S_X11_at hb1 w1) ?_
    refine cS1v e_X11_figures_8 cl_X11_39 ⟨Nat.le_of_ble_eq_true rfl, Nat.le_of_ble_eq_true rfl⟩ ⟨rfl, rfl⟩  (Nat.le_of_ble_eq_true rfl) (S_X11_isFigure ) ?_
    refine r_if_eq e_X11_figures_11 (fun c2 => ?_) (fun c2 => ?_)
    · rw [if_pos c2] at h
      obtain rfl := Option.some.inj h; exact hE
    · rw [if_neg c2] at h
      refine r_aload_n e_X11_figures_14 rfl ?_
      refine r_aload_n e_X11_figures_15 rfl ?_
      refine r_getI e_X11_figures_16 fl_X11_21 i0 k0 ?_
      refine r_sipush e_X11_figures_19 sp_999 ?_
      obtain ⟨K5, hK5, h⟩ := bnd1_in h
      suffices j5 : ∀ v5_0, K5 v5_0 = some Mz → WP m_X11_figures _ 51 [some (.ref 242)] [.int v5_0, .ref 242] sh M 0 0 by
        refine r_icmp_le e_X11_figures_22 (fun c3 => ?_) (fun c3 => ?_)
        · rw [if_pos c3] at h
          refine r_bipush e_X11_figures_32 bp_10 ?_
          refine r_aload_n e_X11_figures_34 rfl ?_
          refine r_getI e_X11_figures_35 fl_X11_21 i0 k0 ?_
          refine r_imul e_X11_figures_38 ?_
          refine r_aload_n e_X11_figures_39 rfl ?_
          refine r_aload_n e_X11_figures_40 rfl ?_
          refine r_getI e_X11_figures_41 fl_X11_11 i0 k0 ?_
          obtain ⟨v6, w6, h⟩ := bnd1_elK h
          refine cV1v e_X11_figures_44 cl_X11_14 ⟨Nat.le_of_ble_eq_true rfl, Nat.le_of_ble_eq_true rfl⟩ ⟨rfl, rfl⟩ k0 (Nat.le_of_ble_eq_true rfl) (S_X11_at hb1 w6) ?_
          refine r_iadd e_X11_figures_47 ?_
          refine r_bipush e_X11_figures_48 bp_48 ?_
          refine r_isub e_X11_figures_50 ?_
          exact j5 _ h
        · rw [if_neg c3] at h
          refine r_aload_n e_X11_figures_25 rfl ?_
          refine r_getI e_X11_figures_26 fl_X11_21 i0 k0 ?_
          refine r_goto e_X11_figures_29 ?_
          exact j5 _ h
      intro v5_0 h
      rw [hK5] at h
      refine r_putI e_X11_figures_51 fl_X11_21 k0 ?_
      refine r_aload_n e_X11_figures_54 rfl ?_
      refine r_dup e_X11_figures_55 rfl ?_
      refine r_getIe e_X11_figures_56 fl_X11_11 i0 k0 (gs_nI (by decide)) ?_
      refine r_iconst e_X11_figures_59 ic_1 ?_
      refine r_iadd e_X11_figures_60 ?_
      refine r_putI e_X11_figures_61 fl_X11_11 k0 ?_
      refine r_goto e_X11_figures_64 ?_
      exact ih  _ _ h hE
def R_X11_figures (mA : Nat) (M : Mem) : Option (Mem) := bnd1 (L_X11_figures_0 mA FUEL M) (fun M7 => bd1 (if (M7.1 242 6) ≤ (999 : Int32) then (2 : Int32) else (6 : Int32)) (fun v9_0 => some (setI M7 242 5 v9_0)))
theorem S_X11_figures {sh : List SC} {M : Mem}  {mA : Nat} {oA : Nat} {M' : Mem} (hb1 : ModelAt sh mA oA)  (h : R_X11_figures mA M = some M') : Gu m_X11_figures [.ref 242] sh M M' := by
  refine Sp.of (ls := [some (.ref 242)]) (by decide +kernel) (Nat.le_of_ble_eq_true rfl) rfl ?_
  have k0 : kd sh 242 = some (10 + 7, 0) := hb1.1
  unfold R_X11_figures at h
  obtain ⟨M7, w7, h⟩ := bnd1_el h
  refine LW_X11_figures_0 hb1 _ _ _ w7 ?_
  refine r_aload_n e_X11_figures_67 rfl ?_
  refine r_aload_n e_X11_figures_68 rfl ?_
  refine r_getI e_X11_figures_69 fl_X11_21 i0 k0 ?_
  refine r_sipush e_X11_figures_72 sp_999 ?_
  obtain ⟨v9_0, q9, h⟩ := bd1_el h
  suffices j9 : WP m_X11_figures _ 84 [none] [.int v9_0, .ref 242] sh M7 0 0 by
    refine r_icmp_le e_X11_figures_75 (fun c8 => ?_) (fun c8 => ?_)
    · rw [if_pos c8] at q9
      refine r_iconst e_X11_figures_83 ic_2 ?_
      refine d_1_0 ?_
      subst q9; exact j9
    · rw [if_neg c8] at q9
      refine r_bipush e_X11_figures_78 bp_6 ?_
      refine r_goto e_X11_figures_80 ?_
      refine d_1_0 ?_
      subst q9; exact j9
  refine r_putI e_X11_figures_84 fl_X11_28 k0 ?_
  refine r_return e_X11_figures_87 rfl ⟨rfl, rfl⟩ ?_
  obtain rfl := Option.some.inj h; exact ⟨rfl, rfl, rfl⟩
def L_X11_findNames_34 (mA : Nat) (w1 : Int32) (w2 : Int32) : Nat → Int32 → Int32 → Mem → Option (Int32)
  | 0, _, _, _ => none
  | n + 1, u3, u4, M => if u4 < 0 then (some u3) else (ck u4 8 (ck w2 800 (bd1 (if (lg_cmp (M.2 248 u4.toNatClampNeg) (M.2 249 w2.toNatClampNeg)) = 0 then u4 else u3) (fun v9_0 => L_X11_findNames_34 mA w1 w2 n v9_0 (u4 + (-1)) M))))
theorem LW_X11_findNames_34 {sh : List SC} {Q : Po}  {mA : Nat} {oA : Nat} {w1 : Int32} {w2 : Int32} (hb1 : ModelAt sh mA oA)  : ∀ (n : Nat) (u3 : Int32) (u4 : Int32) (M : Mem) (z3 : Int32), L_X11_findNames_34 mA w1 w2 n u3 u4 M = some z3 → WP m_X11_findNames Q 69 [some (.ref 242), some (.int w1), some (.int w2), some (.int z3), none] [] sh M 0 0 → WP m_X11_findNames Q 34 [some (.ref 242), some (.int w1), some (.int w2), some (.int u3), some (.int u4)] [] sh M 0 0 := by
  intro n
  induction n with
  | zero =>
    intro u3 u4 M z3 h hE
    rw [L_X11_findNames_34] at h
    cases h
  | succ n ih =>
    intro u3 u4 M z3 h hE
    rw [L_X11_findNames_34] at h
    have k0 : kd sh 242 = some (10 + 7, 0) := hb1.1
    have k1 : rf sh 242 14 = some 248 := hb1.2.2.2.2.2.2.1
    have k2 : kd sh 248 = some (1, 8) := hb1.2.2.2.2.2.2.2.2.2.2.2.2.2.2.2.2.2.2.2.2.2.2.2.2.2.2.2.2.2.2.2.2.1
    have k3 : rf sh 242 16 = some 249 := hb1.2.2.2.2.2.2.2.1
    have k4 : kd sh 249 = some (1, 800) := hb1.2.2.2.2.2.2.2.2.2.2.2.2.2.2.2.2.2.2.2.2.2.2.2.2.2.2.2.2.2.2.2.2.2.1
    refine r_iload e_X11_findNames_34 rfl ?_
    refine r_if_lt e_X11_findNames_36 (fun c5 => ?_) (fun c5 => ?_)
    · rw [if_pos c5] at h
      refine d_5_4 ?_
      obtain rfl := Option.some.inj h; exact hE
    · rw [if_neg c5] at h
      refine r_aload_n e_X11_findNames_39 rfl ?_
      refine r_getR e_X11_findNames_40 fl_X11_169 k0 k1 ?_
      refine r_iload e_X11_findNames_43 rfl ?_
      obtain ⟨b6, h⟩ := ck_el h
      refine r_laload e_X11_findNames_45 k2 b6 ?_
      refine r_aload_n e_X11_findNames_46 rfl ?_
      refine r_getR e_X11_findNames_47 fl_X11_124 k0 k3 ?_
      refine r_iload_n e_X11_findNames_50 rfl ?_
      obtain ⟨b7, h⟩ := ck_el h
      refine r_laload e_X11_findNames_51 k4 b7 ?_
      refine r_lcmp e_X11_findNames_52 ?_
      obtain ⟨v9_0, q9, h⟩ := bd1_el h
      suffices j9 : WP m_X11_findNames _ 62 [some (.ref 242), some (.int w1), some (.int w2), none, some (.int u4)] [.int v9_0] sh M 0 0 by
        refine r_if_ne e_X11_findNames_53 (fun c8 => ?_) (fun c8 => ?_)
        · rw [if_neg c8] at q9
          refine r_iload_n e_X11_findNames_61 rfl ?_
          refine d_5_3 ?_
          subst q9; exact j9
        · rw [if_pos c8] at q9
          refine r_iload e_X11_findNames_56 rfl ?_
          refine r_goto e_X11_findNames_58 ?_
          refine d_5_3 ?_
          subst q9; exact j9
      refine p_istore_n_5_3 e_X11_findNames_62 rfl rfl ?_
      refine p_iinc_5_4 e_X11_findNames_63 rfl ic_m1 rfl ?_
      refine r_goto e_X11_findNames_66 ?_
      exact ih _ _ _ _ h hE
def L_X11_findNames_4 (mA : Nat) : Nat → Int32 → Int32 → Mem → Option (Mem)
  | 0, _, _, _ => none
  | n + 1, u1, u2, M => if (M.1 242 15) ≤ u2 then (some M) else (if 0 ≤ (M.1 242 2) then (some M) else (ck (M.1 242 8) 6 (bd1 ((M.1 246 (M.1 242 8).toNatClampNeg) - (1 : Int32)) (fun v4 => bnd1 (L_X11_findNames_34 mA u1 u2 FUEL (-1 : Int32) v4 M) (fun v10_0 => ck u2 800 (bnd1 (if (M.1 252 u2.toNatClampNeg) = 0 then (if 0 ≤ v10_0 then (some M) else (ck u2 800 (some (setI M 242 2 (M.1 250 u2.toNatClampNeg))))) else (if u1 ≤ v10_0 then (some M) else (ck u2 800 (some (setI M 242 2 (M.1 250 u2.toNatClampNeg)))))) (fun M15 => ck u2 800 (bd1 (if (M15.1 252 u2.toNatClampNeg) = 0 then (0 : Int32) else (1 : Int32)) (fun v22_0 => ck u2 800 (ck (((800 : Int32) * (M15.1 242 8)) + (M15.1 251 u2.toNatClampNeg)) 4800 (L_X11_findNames_4 mA n (u1 + v22_0) (u2 + 1) (setI M15 245 (((800 : Int32) * (M15.1 242 8)) + (M15.1 251 u2.toNatClampNeg)).toNatClampNeg v10_0))))))))))))
theorem LW_X11_findNames_4 {sh : List SC} {Q : Po}  {mA : Nat} {oA : Nat}  (hb1 : ModelAt sh mA oA)  : ∀ (n : Nat) (u1 : Int32) (u2 : Int32) (M : Mem) (Mz : Mem), L_X11_findNames_4 mA n u1 u2 M = some Mz → WP m_X11_findNames Q 144 [none, none, none, none, none] [] sh Mz 0 0 → WP m_X11_findNames Q 4 [some (.ref 242), some (.int u1), some (.int u2), none, none] [] sh M 0 0 := by
  intro n
  induction n with
  | zero =>
    intro u1 u2 M Mz h hE
    rw [L_X11_findNames_4] at h
    cases h
  | succ n ih =>
    intro u1 u2 M Mz h hE
    rw [L_X11_findNames_4] at h
    have k0 : kd sh 242 = some (10 + 7, 0) := hb1.1
    have k1 : rf sh 242 12 = some 246 := hb1.2.2.2.2.1
    have k2 : kd sh 246 = some (0, 6) := hb1.2.2.2.2.2.2.2.2.2.2.2.2.2.2.2.2.2.2.2.2.2.2.2.2.2.2.2.2.2.2.1
    have k3 : rf sh 242 19 = some 252 := hb1.2.2.2.2.2.2.2.2.2.2.1
    have k4 : kd sh 252 = some (2, 800) := hb1.2.2.2.2.2.2.2.2.2.2.2.2.2.2.2.2.2.2.2.2.2.2.2.2.2.2.2.2.2.2.2.2.2.2.2.2.1
    have k5 : rf sh 242 17 = some 250 := hb1.2.2.2.2.2.2.2.2.1
    have k6 : kd sh 250 = some (0, 800) := hb1.2.2.2.2.2.2.2.2.2.2.2.2.2.2.2.2.2.2.2.2.2.2.2.2.2.2.2.2.2.2.2.2.2.2.1
    have k7 : rf sh 242 10 = some 245 := hb1.2.2.2.1
    have k8 : kd sh 245 = some (0, 4800) := hb1.2.2.2.2.2.2.2.2.2.2.2.2.2.2.2.2.2.2.2.2.2.2.2.2.2.2.2.2.2.1
    have k9 : rf sh 242 18 = some 251 := hb1.2.2.2.2.2.2.2.2.2.1
    have k10 : kd sh 251 = some (0, 800) := hb1.2.2.2.2.2.2.2.2.2.2.2.2.2.2.2.2.2.2.2.2.2.2.2.2.2.2.2.2.2.2.2.2.2.2.2.1
    refine r_iload_n e_X11_findNames_4 rfl ?_
    refine r_aload_n e_X11_findNames_5 rfl ?_
    refine r_getI e_X11_findNames_6 fl_X11_128 i0 k0 ?_
    refine r_icmp_ge e_X11_findNames_9 (fun c1 => ?_) (fun c1 => ?_)
    · rw [if_pos c1] at h
      refine d_5_0 ?_
      refine d_5_1 ?_
      refine d_5_2 ?_
      obtain rfl := Option.some.inj h; exact hE
    · rw [if_neg c1] at h
      refine r_aload_n e_X11_findNames_12 rfl ?_
      refine r_getI e_X11_findNames_13 fl_X11_99 i0 k0 ?_
      refine r_if_ge e_X11_findNames_16 (fun c2 => ?_) (fun c2 => ?_)
      · rw [if_pos c2] at h
        refine d_5_0 ?_
        refine d_5_1 ?_
        refine d_5_2 ?_
        obtain rfl := Option.some.inj h; exact hE
      · rw [if_neg c2] at h
        refine r_iconst e_X11_findNames_19 ic_m1 ?_
        refine p_istore_n_5_3 e_X11_findNames_20 rfl rfl ?_
        refine r_aload_n e_X11_findNames_21 rfl ?_
        refine r_getR e_X11_findNames_22 fl_X11_166 k0 k1 ?_
        refine r_aload_n e_X11_findNames_25 rfl ?_
        refine r_getI e_X11_findNames_26 fl_X11_105 i0 k0 ?_
        obtain ⟨b3, h⟩ := ck_el h
        refine r_iaload e_X11_findNames_29 k2 b3 ?_
        refine r_iconst e_X11_findNames_30 ic_1 ?_
        refine r_isub e_X11_findNames_31 ?_
        obtain ⟨v4, e4, h⟩ := bd1_el h
        rw [e4]
        refine p_istore_5_4 e_X11_findNames_32 rfl rfl ?_
        obtain ⟨v10_0, w10, h⟩ := bnd1_el h
        refine LW_X11_findNames_34 hb1 _ _ _ _ _ w10 ?_
        refine r_aload_n e_X11_findNames_69 rfl ?_
        refine r_getR e_X11_findNames_70 fl_X11_137 k0 k3 ?_
        refine r_iload_n e_X11_findNames_73 rfl ?_
        obtain ⟨b11, h⟩ := ck_el h
        refine r_zaload e_X11_findNames_74 k4 b11 ?_
        obtain ⟨K15, hK15, h⟩ := bnd1_in h
        suffices j15 : ∀ M15, K15 M15 = some Mz → WP m_X11_findNames _ 100 [some (.ref 242), some (.int u1), some (.int u2), some (.int v10_0), none] [] sh M15 0 0 by
          refine r_if_eq e_X11_findNames_75 (fun c12 => ?_) (fun c12 => ?_)
          · rw [if_pos c12] at h
            refine r_iload_n e_X11_findNames_86 rfl ?_
            refine r_if_ge e_X11_findNames_87 (fun c16 => ?_) (fun c16 => ?_)
            · rw [if_pos c16] at h
              exact j15 _ h
            · rw [if_neg c16] at h
              refine r_aload_n e_X11_findNames_90 rfl ?_
              refine r_aload_n e_X11_findNames_91 rfl ?_
              refine r_getR e_X11_findNames_92 fl_X11_131 k0 k5 ?_
              refine r_iload_n e_X11_findNames_95 rfl ?_
              obtain ⟨b17, h⟩ := ck_elK h
              refine r_iaload e_X11_findNames_96 k6 b17 ?_
              refine r_putI e_X11_findNames_97 fl_X11_99 k0 ?_
              exact j15 _ h
          · rw [if_neg c12] at h
            refine r_iload_n e_X11_findNames_78 rfl ?_
            refine r_iload_n e_X11_findNames_79 rfl ?_
            refine r_icmp_ge e_X11_findNames_80 (fun c18 => ?_) (fun c18 => ?_)
            · rw [if_pos c18] at h
              exact j15 _ h
            · rw [if_neg c18] at h
              refine r_goto e_X11_findNames_83 ?_
              refine r_aload_n e_X11_findNames_90 rfl ?_
              refine r_aload_n e_X11_findNames_91 rfl ?_
              refine r_getR e_X11_findNames_92 fl_X11_131 k0 k5 ?_
              refine r_iload_n e_X11_findNames_95 rfl ?_
              obtain ⟨b19, h⟩ := ck_elK h
              refine r_iaload e_X11_findNames_96 k6 b19 ?_
              refine r_putI e_X11_findNames_97 fl_X11_99 k0 ?_
              exact j15 _ h
        intro M15 h
        rw [hK15] at h
        refine r_iload_n e_X11_findNames_100 rfl ?_
        refine r_aload_n e_X11_findNames_101 rfl ?_
        refine r_getR e_X11_findNames_102 fl_X11_137 k0 k3 ?_
        refine r_iload_n e_X11_findNames_105 rfl ?_
        obtain ⟨b20, h⟩ := ck_el h
        refine r_zaload e_X11_findNames_106 k4 b20 ?_
        obtain ⟨v22_0, q22, h⟩ := bd1_el h
        suffices j22 : WP m_X11_findNames _ 115 [some (.ref 242), none, some (.int u2), some (.int v10_0), none] [.int v22_0, .int u1] sh M15 0 0 by
          refine r_if_eq e_X11_findNames_107 (fun c21 => ?_) (fun c21 => ?_)
          · rw [if_pos c21] at q22
            refine r_iconst e_X11_findNames_114 ic_0 ?_
            refine d_5_1 ?_
            subst q22; exact j22
          · rw [if_neg c21] at q22
            refine r_iconst e_X11_findNames_110 ic_1 ?_
            refine r_goto e_X11_findNames_111 ?_
            refine d_5_1 ?_
            subst q22; exact j22
        refine r_iadd e_X11_findNames_115 ?_
        refine p_istore_n_5_1 e_X11_findNames_116 rfl rfl ?_
        refine r_aload_n e_X11_findNames_117 rfl ?_
        refine r_getR e_X11_findNames_118 fl_X11_111 k0 k7 ?_
        refine r_sipush e_X11_findNames_121 sp_800 ?_
        refine r_aload_n e_X11_findNames_124 rfl ?_
        refine r_getI e_X11_findNames_125 fl_X11_105 i0 k0 ?_
        refine r_imul e_X11_findNames_128 ?_
        refine r_aload_n e_X11_findNames_129 rfl ?_
        refine r_getR e_X11_findNames_130 fl_X11_134 k0 k9 ?_
        refine r_iload_n e_X11_findNames_133 rfl ?_
        obtain ⟨b23, h⟩ := ck_el h
        refine r_iaload e_X11_findNames_134 k10 b23 ?_
        refine r_iadd e_X11_findNames_135 ?_
        refine r_iload_n e_X11_findNames_136 rfl ?_
        obtain ⟨b24, h⟩ := ck_el h
        refine r_iastore e_X11_findNames_137 k8 b24 ?_
        refine p_iinc_5_2 e_X11_findNames_138 rfl ic_1 rfl ?_
        refine r_goto e_X11_findNames_141 ?_
        refine d_5_3 ?_
        exact ih _ _ _ _ h hE
def R_X11_findNames (mA : Nat) (M : Mem) : Option (Mem) := bnd1 (L_X11_findNames_4 mA FUEL (0 : Int32) (0 : Int32) M) (fun M25 => some M25)
theorem S_X11_findNames {sh : List SC} {M : Mem}  {mA : Nat} {oA : Nat} {M' : Mem} (hb1 : ModelAt sh mA oA)  (h : R_X11_findNames mA M = some M') : Gu m_X11_findNames [.ref 242] sh M M' := by
  refine Sp.of (ls := [some (.ref 242), none, none, none, none]) (by decide +kernel) (Nat.le_of_ble_eq_true rfl) rfl ?_
  unfold R_X11_findNames at h
  refine r_iconst e_X11_findNames_0 ic_0 ?_
  refine p_istore_n_5_1 e_X11_findNames_1 rfl rfl ?_
  refine r_iconst e_X11_findNames_2 ic_0 ?_
  refine p_istore_n_5_2 e_X11_findNames_3 rfl rfl ?_
  obtain ⟨M25, w25, h⟩ := bnd1_el h
  refine LW_X11_findNames_4 hb1 _ _ _ _ _ w25 ?_
  refine r_return e_X11_findNames_144 rfl ⟨rfl, rfl⟩ ?_
  obtain rfl := Option.some.inj h; exact ⟨rfl, rfl, rfl⟩
def R_X11_program (x1 : Int32) (x2 : Int32) (x3 : Int32) (mA : Nat) (M : Mem) : Option (Int32 × Mem) := if (V_X11_isTeam x1 M) = 0 then (bnd2 (R_X11_finding (-1001 : Int32) mA M) (fun v2 M2 => some (v2, M2))) else (if (V_X11_in x2 (0 : Int32) (4 : Int32) M) = 0 then (bnd2 (R_X11_finding (-1001 : Int32) mA M) (fun v4 M4 => some (v4, M4))) else (if (V_X11_in x3 (-1 : Int32) ((M.1 242 8) - (1 : Int32)) M) = 0 then (bnd2 (R_X11_finding (-1001 : Int32) mA M) (fun v7 M7 => some (v7, M7))) else (ck (((5 : Int32) * x1) + x2) 20 (some ((1 : Int32), setI M 254 (((5 : Int32) * x1) + x2).toNatClampNeg x3)))))
theorem S_X11_program {sh : List SC} {M : Mem} {x1 : Int32} {x2 : Int32} {x3 : Int32} {mA : Nat} {oA : Nat} {v' : Int32} {M' : Mem} (hb1 : ModelAt sh mA oA)  (h : R_X11_program x1 x2 x3 mA M = some (v', M')) : Gv m_X11_program [.ref 242, .int x1, .int x2, .int x3] sh M (.int v') M' := by
  refine Sp.of (ls := [some (.ref 242), some (.int x1), some (.int x2), some (.int x3)]) (by decide +kernel) (Nat.le_of_ble_eq_true rfl) rfl ?_
  have k0 : kd sh 242 = some (10 + 7, 0) := hb1.1
  have k1 : rf sh 242 22 = some 254 := hb1.2.2.2.2.2.2.2.2.2.2.2.2.1
  have k2 : kd sh 254 = some (0, 20) := hb1.2.2.2.2.2.2.2.2.2.2.2.2.2.2.2.2.2.2.2.2.2.2.2.2.2.2.2.2.2.2.2.2.2.2.2.2.2.2.1
  unfold R_X11_program at h
  refine r_iload_n e_X11_program_0 rfl ?_
  refine cS1v e_X11_program_1 cl_X11_249 ⟨Nat.le_of_ble_eq_true rfl, Nat.le_of_ble_eq_true rfl⟩ ⟨rfl, rfl⟩  (Nat.le_of_ble_eq_true rfl) (S_X11_isTeam ) ?_
  refine r_if_eq e_X11_program_4 (fun c1 => ?_) (fun c1 => ?_)
  · rw [if_pos c1] at h
    refine r_aload_n e_X11_program_30 rfl ?_
    refine r_sipush e_X11_program_31 sp_m1001 ?_
    obtain ⟨v2, M2, w2, h⟩ := bnd2_el h
    refine cV1v e_X11_program_34 cl_X11_178 ⟨Nat.le_of_ble_eq_true rfl, Nat.le_of_ble_eq_true rfl⟩ ⟨rfl, rfl⟩ k0 (Nat.le_of_ble_eq_true rfl) (S_X11_finding hb1 w2) ?_
    refine r_ireturn e_X11_program_37 rfl ⟨rfl, rfl⟩ ?_
    obtain ⟨rfl, rfl⟩ := ps2 h; exact ⟨rfl, rfl, rfl⟩
  · rw [if_neg c1] at h
    refine r_iload_n e_X11_program_7 rfl ?_
    refine r_iconst e_X11_program_8 ic_0 ?_
    refine r_iconst e_X11_program_9 ic_4 ?_
    refine cS3v e_X11_program_10 cl_X11_245 ⟨Nat.le_of_ble_eq_true rfl, Nat.le_of_ble_eq_true rfl⟩ ⟨rfl, rfl⟩  (Nat.le_of_ble_eq_true rfl) (S_X11_in ) ?_
    refine r_if_eq e_X11_program_13 (fun c3 => ?_) (fun c3 => ?_)
    · rw [if_pos c3] at h
      refine r_aload_n e_X11_program_30 rfl ?_
      refine r_sipush e_X11_program_31 sp_m1001 ?_
      obtain ⟨v4, M4, w4, h⟩ := bnd2_el h
      refine cV1v e_X11_program_34 cl_X11_178 ⟨Nat.le_of_ble_eq_true rfl, Nat.le_of_ble_eq_true rfl⟩ ⟨rfl, rfl⟩ k0 (Nat.le_of_ble_eq_true rfl) (S_X11_finding hb1 w4) ?_
      refine r_ireturn e_X11_program_37 rfl ⟨rfl, rfl⟩ ?_
      obtain ⟨rfl, rfl⟩ := ps2 h; exact ⟨rfl, rfl, rfl⟩
    · rw [if_neg c3] at h
      refine r_iload_n e_X11_program_16 rfl ?_
      refine r_iconst e_X11_program_17 ic_m1 ?_
      refine r_aload_n e_X11_program_18 rfl ?_
      refine r_getI e_X11_program_19 fl_X11_105 i0 k0 ?_
      refine r_iconst e_X11_program_22 ic_1 ?_
      refine r_isub e_X11_program_23 ?_
      refine cS3v e_X11_program_24 cl_X11_245 ⟨Nat.le_of_ble_eq_true rfl, Nat.le_of_ble_eq_true rfl⟩ ⟨rfl, rfl⟩  (Nat.le_of_ble_eq_true rfl) (S_X11_in ) ?_
      refine r_if_ne e_X11_program_27 (fun c5 => ?_) (fun c5 => ?_)
      · rw [if_neg c5] at h
        refine r_aload_n e_X11_program_38 rfl ?_
        refine r_getR e_X11_program_39 fl_X11_197 k0 k1 ?_
        refine r_iconst e_X11_program_42 ic_5 ?_
        refine r_iload_n e_X11_program_43 rfl ?_
        refine r_imul e_X11_program_44 ?_
        refine r_iload_n e_X11_program_45 rfl ?_
        refine r_iadd e_X11_program_46 ?_
        refine r_iload_n e_X11_program_47 rfl ?_
        obtain ⟨b6, h⟩ := ck_el h
        refine r_iastore e_X11_program_48 k2 b6 ?_
        refine r_iconst e_X11_program_49 ic_1 ?_
        refine r_ireturn e_X11_program_50 rfl ⟨rfl, rfl⟩ ?_
        obtain ⟨rfl, rfl⟩ := ps2 h; exact ⟨rfl, rfl, rfl⟩
      · rw [if_pos c5] at h
        refine r_aload_n e_X11_program_30 rfl ?_
        refine r_sipush e_X11_program_31 sp_m1001 ?_
        obtain ⟨v7, M7, w7, h⟩ := bnd2_el h
        refine cV1v e_X11_program_34 cl_X11_178 ⟨Nat.le_of_ble_eq_true rfl, Nat.le_of_ble_eq_true rfl⟩ ⟨rfl, rfl⟩ k0 (Nat.le_of_ble_eq_true rfl) (S_X11_finding hb1 w7) ?_
        refine r_ireturn e_X11_program_37 rfl ⟨rfl, rfl⟩ ?_
        obtain ⟨rfl, rfl⟩ := ps2 h; exact ⟨rfl, rfl, rfl⟩
def R_X11_start (x1 : Int32) (x2 : Int32) (x3 : Int32) (x4 : Int32) (mA : Nat) (M : Mem) : Option (Int32 × Mem) := if (V_X11_isTeam x1 M) = 0 then (bnd2 (R_X11_finding (-1001 : Int32) mA M) (fun v2 M2 => some (v2, M2))) else (if (V_X11_in x2 (0 : Int32) (4 : Int32) M) = 0 then (bnd2 (R_X11_finding (-1001 : Int32) mA M) (fun v4 M4 => some (v4, M4))) else (if (V_X11_in x3 (0 : Int32) (6 : Int32) M) = 0 then (bnd2 (R_X11_finding (-1001 : Int32) mA M) (fun v6 M6 => some (v6, M6))) else (if (V_X11_in x4 (0 : Int32) (8 : Int32) M) = 0 then (bnd2 (R_X11_finding (-1001 : Int32) mA M) (fun v10 M10 => some (v10, M10))) else (ck (((5 : Int32) * x1) + x2) 20 (ck (((5 : Int32) * x1) + x2) 20 (some ((1 : Int32), setI (setI M 255 (((5 : Int32) * x1) + x2).toNatClampNeg x3) 256 (((5 : Int32) * x1) + x2).toNatClampNeg x4)))))))
theorem S_X11_start {sh : List SC} {M : Mem} {x1 : Int32} {x2 : Int32} {x3 : Int32} {x4 : Int32} {mA : Nat} {oA : Nat} {v' : Int32} {M' : Mem} (hb1 : ModelAt sh mA oA)  (h : R_X11_start x1 x2 x3 x4 mA M = some (v', M')) : Gv m_X11_start [.ref 242, .int x1, .int x2, .int x3, .int x4] sh M (.int v') M' := by
  refine Sp.of (ls := [some (.ref 242), some (.int x1), some (.int x2), some (.int x3), some (.int x4)]) (by decide +kernel) (Nat.le_of_ble_eq_true rfl) rfl ?_
  have k0 : kd sh 242 = some (10 + 7, 0) := hb1.1
  have k1 : rf sh 242 23 = some 255 := hb1.2.2.2.2.2.2.2.2.2.2.2.2.2.1
  have k2 : kd sh 255 = some (0, 20) := hb1.2.2.2.2.2.2.2.2.2.2.2.2.2.2.2.2.2.2.2.2.2.2.2.2.2.2.2.2.2.2.2.2.2.2.2.2.2.2.2.1
  have k3 : rf sh 242 24 = some 256 := hb1.2.2.2.2.2.2.2.2.2.2.2.2.2.2.1
  have k4 : kd sh 256 = some (0, 20) := hb1.2.2.2.2.2.2.2.2.2.2.2.2.2.2.2.2.2.2.2.2.2.2.2.2.2.2.2.2.2.2.2.2.2.2.2.2.2.2.2.2.1
  unfold R_X11_start at h
  refine r_iload_n e_X11_start_0 rfl ?_
  refine cS1v e_X11_start_1 cl_X11_249 ⟨Nat.le_of_ble_eq_true rfl, Nat.le_of_ble_eq_true rfl⟩ ⟨rfl, rfl⟩  (Nat.le_of_ble_eq_true rfl) (S_X11_isTeam ) ?_
  refine r_if_eq e_X11_start_4 (fun c1 => ?_) (fun c1 => ?_)
  · rw [if_pos c1] at h
    refine r_aload_n e_X11_start_37 rfl ?_
    refine r_sipush e_X11_start_38 sp_m1001 ?_
    obtain ⟨v2, M2, w2, h⟩ := bnd2_el h
    refine cV1v e_X11_start_41 cl_X11_178 ⟨Nat.le_of_ble_eq_true rfl, Nat.le_of_ble_eq_true rfl⟩ ⟨rfl, rfl⟩ k0 (Nat.le_of_ble_eq_true rfl) (S_X11_finding hb1 w2) ?_
    refine r_ireturn e_X11_start_44 rfl ⟨rfl, rfl⟩ ?_
    obtain ⟨rfl, rfl⟩ := ps2 h; exact ⟨rfl, rfl, rfl⟩
  · rw [if_neg c1] at h
    refine r_iload_n e_X11_start_7 rfl ?_
    refine r_iconst e_X11_start_8 ic_0 ?_
    refine r_iconst e_X11_start_9 ic_4 ?_
    refine cS3v e_X11_start_10 cl_X11_245 ⟨Nat.le_of_ble_eq_true rfl, Nat.le_of_ble_eq_true rfl⟩ ⟨rfl, rfl⟩  (Nat.le_of_ble_eq_true rfl) (S_X11_in ) ?_
    refine r_if_eq e_X11_start_13 (fun c3 => ?_) (fun c3 => ?_)
    · rw [if_pos c3] at h
      refine r_aload_n e_X11_start_37 rfl ?_
      refine r_sipush e_X11_start_38 sp_m1001 ?_
      obtain ⟨v4, M4, w4, h⟩ := bnd2_el h
      refine cV1v e_X11_start_41 cl_X11_178 ⟨Nat.le_of_ble_eq_true rfl, Nat.le_of_ble_eq_true rfl⟩ ⟨rfl, rfl⟩ k0 (Nat.le_of_ble_eq_true rfl) (S_X11_finding hb1 w4) ?_
      refine r_ireturn e_X11_start_44 rfl ⟨rfl, rfl⟩ ?_
      obtain ⟨rfl, rfl⟩ := ps2 h; exact ⟨rfl, rfl, rfl⟩
    · rw [if_neg c3] at h
      refine r_iload_n e_X11_start_16 rfl ?_
      refine r_iconst e_X11_start_17 ic_0 ?_
      refine r_bipush e_X11_start_18 bp_6 ?_
      refine cS3v e_X11_start_20 cl_X11_245 ⟨Nat.le_of_ble_eq_true rfl, Nat.le_of_ble_eq_true rfl⟩ ⟨rfl, rfl⟩  (Nat.le_of_ble_eq_true rfl) (S_X11_in ) ?_
      refine r_if_eq e_X11_start_23 (fun c5 => ?_) (fun c5 => ?_)
      · rw [if_pos c5] at h
        refine r_aload_n e_X11_start_37 rfl ?_
        refine r_sipush e_X11_start_38 sp_m1001 ?_
        obtain ⟨v6, M6, w6, h⟩ := bnd2_el h
        refine cV1v e_X11_start_41 cl_X11_178 ⟨Nat.le_of_ble_eq_true rfl, Nat.le_of_ble_eq_true rfl⟩ ⟨rfl, rfl⟩ k0 (Nat.le_of_ble_eq_true rfl) (S_X11_finding hb1 w6) ?_
        refine r_ireturn e_X11_start_44 rfl ⟨rfl, rfl⟩ ?_
        obtain ⟨rfl, rfl⟩ := ps2 h; exact ⟨rfl, rfl, rfl⟩
      · rw [if_neg c5] at h
        refine r_iload e_X11_start_26 rfl ?_
        refine r_iconst e_X11_start_28 ic_0 ?_
        refine r_bipush e_X11_start_29 bp_8 ?_
        refine cS3v e_X11_start_31 cl_X11_245 ⟨Nat.le_of_ble_eq_true rfl, Nat.le_of_ble_eq_true rfl⟩ ⟨rfl, rfl⟩  (Nat.le_of_ble_eq_true rfl) (S_X11_in ) ?_
        refine r_if_ne e_X11_start_34 (fun c7 => ?_) (fun c7 => ?_)
        · rw [if_neg c7] at h
          refine r_aload_n e_X11_start_45 rfl ?_
          refine r_getR e_X11_start_46 fl_X11_200 k0 k1 ?_
          refine r_iconst e_X11_start_49 ic_5 ?_
          refine r_iload_n e_X11_start_50 rfl ?_
          refine r_imul e_X11_start_51 ?_
          refine r_iload_n e_X11_start_52 rfl ?_
          refine r_iadd e_X11_start_53 ?_
          refine r_iload_n e_X11_start_54 rfl ?_
          obtain ⟨b8, h⟩ := ck_el h
          refine r_iastore e_X11_start_55 k2 b8 ?_
          refine r_aload_n e_X11_start_56 rfl ?_
          refine r_getR e_X11_start_57 fl_X11_203 k0 k3 ?_
          refine r_iconst e_X11_start_60 ic_5 ?_
          refine r_iload_n e_X11_start_61 rfl ?_
          refine r_imul e_X11_start_62 ?_
          refine r_iload_n e_X11_start_63 rfl ?_
          refine r_iadd e_X11_start_64 ?_
          refine r_iload e_X11_start_65 rfl ?_
          obtain ⟨b9, h⟩ := ck_el h
          refine r_iastore e_X11_start_67 k4 b9 ?_
          refine r_iconst e_X11_start_68 ic_1 ?_
          refine r_ireturn e_X11_start_69 rfl ⟨rfl, rfl⟩ ?_
          obtain ⟨rfl, rfl⟩ := ps2 h; exact ⟨rfl, rfl, rfl⟩
        · rw [if_pos c7] at h
          refine r_aload_n e_X11_start_37 rfl ?_
          refine r_sipush e_X11_start_38 sp_m1001 ?_
          obtain ⟨v10, M10, w10, h⟩ := bnd2_el h
          refine cV1v e_X11_start_41 cl_X11_178 ⟨Nat.le_of_ble_eq_true rfl, Nat.le_of_ble_eq_true rfl⟩ ⟨rfl, rfl⟩ k0 (Nat.le_of_ble_eq_true rfl) (S_X11_finding hb1 w10) ?_
          refine r_ireturn e_X11_start_44 rfl ⟨rfl, rfl⟩ ?_
          obtain ⟨rfl, rfl⟩ := ps2 h; exact ⟨rfl, rfl, rfl⟩
def R_X11_views (x1 : Int32) (x2 : Int32) (x3 : Int32) (mA : Nat) (M : Mem) : Option (Int32 × Mem) := if (V_X11_isTeam x1 M) = 0 then (bnd2 (R_X11_finding (-1001 : Int32) mA M) (fun v2 M2 => some (v2, M2))) else (if (V_X11_in x2 (0 : Int32) (3 : Int32) M) = 0 then (bnd2 (R_X11_finding (-1001 : Int32) mA M) (fun v4 M4 => some (v4, M4))) else (br1 (if x3 = 0 then (some (.inr ())) else (if (V_X11_in x3 (2 : Int32) (9 : Int32) M) = 0 then (bnd2 (R_X11_finding (-1001 : Int32) mA M) (fun v13 M13 => some (.inl (v13, M13)))) else (some (.inr ())))) (fun u11 => ck x1 4 (ck x1 4 (some ((1 : Int32), setI (setI M 257 x1.toNatClampNeg x2) 258 x1.toNatClampNeg x3))))))
theorem S_X11_views {sh : List SC} {M : Mem} {x1 : Int32} {x2 : Int32} {x3 : Int32} {mA : Nat} {oA : Nat} {v' : Int32} {M' : Mem} (hb1 : ModelAt sh mA oA)  (h : R_X11_views x1 x2 x3 mA M = some (v', M')) : Gv m_X11_views [.ref 242, .int x1, .int x2, .int x3] sh M (.int v') M' := by
  refine Sp.of (ls := [some (.ref 242), some (.int x1), some (.int x2), some (.int x3)]) (by decide +kernel) (Nat.le_of_ble_eq_true rfl) rfl ?_
  have k0 : kd sh 242 = some (10 + 7, 0) := hb1.1
  have k1 : rf sh 242 25 = some 257 := hb1.2.2.2.2.2.2.2.2.2.2.2.2.2.2.2.1
  have k2 : kd sh 257 = some (0, 4) := hb1.2.2.2.2.2.2.2.2.2.2.2.2.2.2.2.2.2.2.2.2.2.2.2.2.2.2.2.2.2.2.2.2.2.2.2.2.2.2.2.2.2.1
  have k3 : rf sh 242 26 = some 258 := hb1.2.2.2.2.2.2.2.2.2.2.2.2.2.2.2.2.1
  have k4 : kd sh 258 = some (0, 4) := hb1.2.2.2.2.2.2.2.2.2.2.2.2.2.2.2.2.2.2.2.2.2.2.2.2.2.2.2.2.2.2.2.2.2.2.2.2.2.2.2.2.2.2.1
  unfold R_X11_views at h
  refine r_iload_n e_X11_views_0 rfl ?_
  refine cS1v e_X11_views_1 cl_X11_249 ⟨Nat.le_of_ble_eq_true rfl, Nat.le_of_ble_eq_true rfl⟩ ⟨rfl, rfl⟩  (Nat.le_of_ble_eq_true rfl) (S_X11_isTeam ) ?_
  refine r_if_eq e_X11_views_4 (fun c1 => ?_) (fun c1 => ?_)
  · rw [if_pos c1] at h
    refine r_aload_n e_X11_views_30 rfl ?_
    refine r_sipush e_X11_views_31 sp_m1001 ?_
    obtain ⟨v2, M2, w2, h⟩ := bnd2_el h
    refine cV1v e_X11_views_34 cl_X11_178 ⟨Nat.le_of_ble_eq_true rfl, Nat.le_of_ble_eq_true rfl⟩ ⟨rfl, rfl⟩ k0 (Nat.le_of_ble_eq_true rfl) (S_X11_finding hb1 w2) ?_
    refine r_ireturn e_X11_views_37 rfl ⟨rfl, rfl⟩ ?_
    obtain ⟨rfl, rfl⟩ := ps2 h; exact ⟨rfl, rfl, rfl⟩
  · rw [if_neg c1] at h
    refine r_iload_n e_X11_views_7 rfl ?_
    refine r_iconst e_X11_views_8 ic_0 ?_
    refine r_iconst e_X11_views_9 ic_3 ?_
    refine cS3v e_X11_views_10 cl_X11_245 ⟨Nat.le_of_ble_eq_true rfl, Nat.le_of_ble_eq_true rfl⟩ ⟨rfl, rfl⟩  (Nat.le_of_ble_eq_true rfl) (S_X11_in ) ?_
    refine r_if_eq e_X11_views_13 (fun c3 => ?_) (fun c3 => ?_)
    · rw [if_pos c3] at h
      refine r_aload_n e_X11_views_30 rfl ?_
      refine r_sipush e_X11_views_31 sp_m1001 ?_
      obtain ⟨v4, M4, w4, h⟩ := bnd2_el h
      refine cV1v e_X11_views_34 cl_X11_178 ⟨Nat.le_of_ble_eq_true rfl, Nat.le_of_ble_eq_true rfl⟩ ⟨rfl, rfl⟩ k0 (Nat.le_of_ble_eq_true rfl) (S_X11_finding hb1 w4) ?_
      refine r_ireturn e_X11_views_37 rfl ⟨rfl, rfl⟩ ?_
      obtain ⟨rfl, rfl⟩ := ps2 h; exact ⟨rfl, rfl, rfl⟩
    · rw [if_neg c3] at h
      refine r_iload_n e_X11_views_16 rfl ?_
      obtain ⟨K11, hK11, hL11, h⟩ := br1_in h
      suffices j11 : ∀ u11, K11 (.inr u11) = some (v', M') → WP m_X11_views _ 38 [some (.ref 242), some (.int x1), some (.int x2), some (.int x3)] [] sh M 0 0 by
        refine r_if_eq e_X11_views_17 (fun c5 => ?_) (fun c5 => ?_)
        · rw [if_pos c5] at h
          exact j11 _ h
        · rw [if_neg c5] at h
          refine r_iload_n e_X11_views_20 rfl ?_
          refine r_iconst e_X11_views_21 ic_2 ?_
          refine r_bipush e_X11_views_22 bp_9 ?_
          refine cS3v e_X11_views_24 cl_X11_245 ⟨Nat.le_of_ble_eq_true rfl, Nat.le_of_ble_eq_true rfl⟩ ⟨rfl, rfl⟩  (Nat.le_of_ble_eq_true rfl) (S_X11_in ) ?_
          refine r_if_ne e_X11_views_27 (fun c12 => ?_) (fun c12 => ?_)
          · rw [if_neg c12] at h
            exact j11 _ h
          · rw [if_pos c12] at h
            refine r_aload_n e_X11_views_30 rfl ?_
            refine r_sipush e_X11_views_31 sp_m1001 ?_
            obtain ⟨v13, M13, w13, h⟩ := bnd2_elK h
            refine cV1v e_X11_views_34 cl_X11_178 ⟨Nat.le_of_ble_eq_true rfl, Nat.le_of_ble_eq_true rfl⟩ ⟨rfl, rfl⟩ k0 (Nat.le_of_ble_eq_true rfl) (S_X11_finding hb1 w13) ?_
            refine r_ireturn e_X11_views_37 rfl ⟨rfl, rfl⟩ ?_
            have h := (hL11 _).symm.trans h
            obtain ⟨rfl, rfl⟩ := ps2 h; exact ⟨rfl, rfl, rfl⟩
      intro u11 h
      rw [hK11] at h
      refine r_aload_n e_X11_views_38 rfl ?_
      refine r_getR e_X11_views_39 fl_X11_206 k0 k1 ?_
      refine r_iload_n e_X11_views_42 rfl ?_
      refine r_iload_n e_X11_views_43 rfl ?_
      obtain ⟨b14, h⟩ := ck_el h
      refine r_iastore e_X11_views_44 k2 b14 ?_
      refine r_aload_n e_X11_views_45 rfl ?_
      refine r_getR e_X11_views_46 fl_X11_209 k0 k3 ?_
      refine r_iload_n e_X11_views_49 rfl ?_
      refine r_iload_n e_X11_views_50 rfl ?_
      obtain ⟨b15, h⟩ := ck_el h
      refine r_iastore e_X11_views_51 k4 b15 ?_
      refine r_iconst e_X11_views_52 ic_1 ?_
      refine r_ireturn e_X11_views_53 rfl ⟨rfl, rfl⟩ ?_
      obtain ⟨rfl, rfl⟩ := ps2 h; exact ⟨rfl, rfl, rfl⟩
def R_X11_set (x1 : Int32) (x2 : Int32) (x3 : Int32) (mA : Nat) (M : Mem) : Option (Mem) := ck (((44 : Int32) + ((16 : Int32) * x1)) + x2) 212 (some (setI M mA (((44 : Int32) + ((16 : Int32) * x1)) + x2).toNatClampNeg x3))
theorem S_X11_set {sh : List SC} {M : Mem} {x1 : Int32} {x2 : Int32} {x3 : Int32} {mA : Nat} {oA : Nat} {M' : Mem} (hb1 : ModelAt sh mA oA)  (h : R_X11_set x1 x2 x3 mA M = some M') : Gu m_X11_set [.ref 242, .int x1, .int x2, .int x3] sh M M' := by
  refine Sp.of (ls := [some (.ref 242), some (.int x1), some (.int x2), some (.int x3)]) (by decide +kernel) (Nat.le_of_ble_eq_true rfl) rfl ?_
  have k0 : kd sh 242 = some (10 + 7, 0) := hb1.1
  have k1 : rf sh 242 27 = some mA := hb1.2.2.2.2.2.2.2.2.2.2.2.2.2.2.2.2.2.1
  have k2 : kd sh mA = some (0, 212) := hb1.2.2.2.2.2.2.2.2.2.2.2.2.2.2.2.2.2.2.2.2.2.2.2.2.2.2.2.2.2.2.2.2.2.2.2.2.2.2.2.2.2.2.2.2.2.2.2.2.2.2.2.1
  unfold R_X11_set at h
  refine r_aload_n e_X11_set_0 rfl ?_
  refine r_getR e_X11_set_1 fl_X11_212 k0 k1 ?_
  refine r_bipush e_X11_set_4 bp_44 ?_
  refine r_bipush e_X11_set_6 bp_16 ?_
  refine r_iload_n e_X11_set_8 rfl ?_
  refine r_imul e_X11_set_9 ?_
  refine r_iadd e_X11_set_10 ?_
  refine r_iload_n e_X11_set_11 rfl ?_
  refine r_iadd e_X11_set_12 ?_
  refine r_iload_n e_X11_set_13 rfl ?_
  obtain ⟨b1, h⟩ := ck_el h
  refine r_iastore e_X11_set_14 k2 b1 ?_
  refine r_return e_X11_set_15 rfl ⟨rfl, rfl⟩ ?_
  obtain rfl := Option.some.inj h; exact ⟨rfl, rfl, rfl⟩
def R_X11_of (x1 : Int32) (x2 : Int32) (mA : Nat) (M : Mem) : Option (Int32) := ck (((44 : Int32) + ((16 : Int32) * x1)) + x2) 212 (some (M.1 mA (((44 : Int32) + ((16 : Int32) * x1)) + x2).toNatClampNeg))
theorem S_X11_of {sh : List SC} {M : Mem} {x1 : Int32} {x2 : Int32} {mA : Nat} {oA : Nat} {v' : Int32} (hb1 : ModelAt sh mA oA)  (h : R_X11_of x1 x2 mA M = some v') : Gv m_X11_of [.ref 242, .int x1, .int x2] sh M (.int v') M := by
  refine Sp.of (ls := [some (.ref 242), some (.int x1), some (.int x2)]) (by decide +kernel) (Nat.le_of_ble_eq_true rfl) rfl ?_
  have k0 : kd sh 242 = some (10 + 7, 0) := hb1.1
  have k1 : rf sh 242 27 = some mA := hb1.2.2.2.2.2.2.2.2.2.2.2.2.2.2.2.2.2.1
  have k2 : kd sh mA = some (0, 212) := hb1.2.2.2.2.2.2.2.2.2.2.2.2.2.2.2.2.2.2.2.2.2.2.2.2.2.2.2.2.2.2.2.2.2.2.2.2.2.2.2.2.2.2.2.2.2.2.2.2.2.2.2.1
  unfold R_X11_of at h
  refine r_aload_n e_X11_of_0 rfl ?_
  refine r_getR e_X11_of_1 fl_X11_212 k0 k1 ?_
  refine r_bipush e_X11_of_4 bp_44 ?_
  refine r_bipush e_X11_of_6 bp_16 ?_
  refine r_iload_n e_X11_of_8 rfl ?_
  refine r_imul e_X11_of_9 ?_
  refine r_iadd e_X11_of_10 ?_
  refine r_iload_n e_X11_of_11 rfl ?_
  refine r_iadd e_X11_of_12 ?_
  obtain ⟨b1, h⟩ := ck_el h
  refine r_iaload e_X11_of_13 k2 b1 ?_
  refine r_ireturn e_X11_of_14 rfl ⟨rfl, rfl⟩ ?_
  obtain rfl := Option.some.inj h; exact ⟨rfl, rfl, rfl⟩
def L_X11_robotAt_3 (x1 : Int32) (x2 : Int32) (x3 : Int32) (mA : Nat) : Nat → Int32 → Mem → Option ((Int32) ⊕ (Unit))
  | 0, _, _ => none
  | n + 1, u4, M => if (M.1 242 30) ≤ u4 then (some (.inr ())) else (if u4 = x3 then (L_X11_robotAt_3 x1 x2 x3 mA n (u4 + 1) M) else (bnd1 (R_X11_of u4 (0 : Int32) mA M) (fun v9 => if v9 = x1 then (bnd1 (R_X11_of u4 (1 : Int32) mA M) (fun v11 => if v11 = x2 then (some (.inl u4)) else (L_X11_robotAt_3 x1 x2 x3 mA n (u4 + 1) M))) else (L_X11_robotAt_3 x1 x2 x3 mA n (u4 + 1) M))))
theorem LW_X11_robotAt_3 {sh : List SC} {Q : Po} {x1 : Int32} {x2 : Int32} {x3 : Int32} {mA : Nat} {oA : Nat}  (hb1 : ModelAt sh mA oA)  : ∀ (n : Nat) (u4 : Int32) (M : Mem) (q : (Int32) ⊕ (Unit)), L_X11_robotAt_3 x1 x2 x3 mA n u4 M = some q → (∀ x, q = .inl x → Q (some (.int x)) sh M) → (∀ zu, q = .inr zu → WP m_X11_robotAt Q 49 [none, none, none, none, none] [] sh M 0 0) → WP m_X11_robotAt Q 3 [some (.ref 242), some (.int x1), some (.int x2), some (.int x3), some (.int u4)] [] sh M 0 0 := by
  intro n
  induction n with
  | zero =>
    intro u4 M q h hR hE
    rw [L_X11_robotAt_3] at h
    cases h
  | succ n ih =>
    intro u4 M q h hR hE
    rw [L_X11_robotAt_3] at h
    have k0 : kd sh 242 = some (10 + 7, 0) := hb1.1
    refine r_iload e_X11_robotAt_3 rfl ?_
    refine r_aload_n e_X11_robotAt_5 rfl ?_
    refine r_getI e_X11_robotAt_6 fl_X11_221 i0 k0 ?_
    refine r_icmp_ge e_X11_robotAt_9 (fun c7 => ?_) (fun c7 => ?_)
    · rw [if_pos c7] at h
      refine d_5_0 ?_
      refine d_5_1 ?_
      refine d_5_2 ?_
      refine d_5_3 ?_
      refine d_5_4 ?_
      exact hE _ (Option.some.inj h).symm
    · rw [if_neg c7] at h
      refine r_iload e_X11_robotAt_12 rfl ?_
      refine r_iload_n e_X11_robotAt_14 rfl ?_
      refine r_icmp_eq e_X11_robotAt_15 (fun c8 => ?_) (fun c8 => ?_)
      · rw [if_pos c8] at h
        refine p_iinc_5_4 e_X11_robotAt_43 rfl ic_1 rfl ?_
        refine r_goto e_X11_robotAt_46 ?_
        exact ih _ _ _ h hR hE
      · rw [if_neg c8] at h
        refine r_aload_n e_X11_robotAt_18 rfl ?_
        refine r_iload e_X11_robotAt_19 rfl ?_
        refine r_iconst e_X11_robotAt_21 ic_0 ?_
        obtain ⟨v9, w9, h⟩ := bnd1_el h
        refine cV2v e_X11_robotAt_22 cl_X11_252 ⟨Nat.le_of_ble_eq_true rfl, Nat.le_of_ble_eq_true rfl⟩ ⟨rfl, rfl⟩ k0 (Nat.le_of_ble_eq_true rfl) (S_X11_of hb1 w9) ?_
        refine r_iload_n e_X11_robotAt_25 rfl ?_
        refine r_icmp_ne e_X11_robotAt_26 (fun c10 => ?_) (fun c10 => ?_)
        · rw [if_neg c10] at h
          refine p_iinc_5_4 e_X11_robotAt_43 rfl ic_1 rfl ?_
          refine r_goto e_X11_robotAt_46 ?_
          exact ih _ _ _ h hR hE
        · rw [if_pos c10] at h
          refine r_aload_n e_X11_robotAt_29 rfl ?_
          refine r_iload e_X11_robotAt_30 rfl ?_
          refine r_iconst e_X11_robotAt_32 ic_1 ?_
          obtain ⟨v11, w11, h⟩ := bnd1_el h
          refine cV2v e_X11_robotAt_33 cl_X11_252 ⟨Nat.le_of_ble_eq_true rfl, Nat.le_of_ble_eq_true rfl⟩ ⟨rfl, rfl⟩ k0 (Nat.le_of_ble_eq_true rfl) (S_X11_of hb1 w11) ?_
          refine r_iload_n e_X11_robotAt_36 rfl ?_
          refine r_icmp_ne e_X11_robotAt_37 (fun c12 => ?_) (fun c12 => ?_)
          · rw [if_neg c12] at h
            refine p_iinc_5_4 e_X11_robotAt_43 rfl ic_1 rfl ?_
            refine r_goto e_X11_robotAt_46 ?_
            exact ih _ _ _ h hR hE
          · rw [if_pos c12] at h
            refine r_iload e_X11_robotAt_40 rfl ?_
            refine r_ireturn e_X11_robotAt_42 rfl ⟨rfl, rfl⟩ ?_
            exact hR _ (Option.some.inj h).symm
def R_X11_robotAt (x1 : Int32) (x2 : Int32) (x3 : Int32) (mA : Nat) (M : Mem) : Option (Int32) := br1 (L_X11_robotAt_3 x1 x2 x3 mA FUEL (0 : Int32) M) (fun u13 => some (-1 : Int32))
theorem S_X11_robotAt {sh : List SC} {M : Mem} {x1 : Int32} {x2 : Int32} {x3 : Int32} {mA : Nat} {oA : Nat} {v' : Int32} (hb1 : ModelAt sh mA oA)  (h : R_X11_robotAt x1 x2 x3 mA M = some v') : Gv m_X11_robotAt [.ref 242, .int x1, .int x2, .int x3] sh M (.int v') M := by
  refine Sp.of (ls := [some (.ref 242), some (.int x1), some (.int x2), some (.int x3), none]) (by decide +kernel) (Nat.le_of_ble_eq_true rfl) rfl ?_
  unfold R_X11_robotAt at h
  refine r_iconst e_X11_robotAt_0 ic_0 ?_
  refine p_istore_5_4 e_X11_robotAt_1 rfl rfl ?_
  obtain ⟨q13, w13, l13, r13⟩ := br1_el h
  refine LW_X11_robotAt_3 hb1 _ _ _ _ w13 (fun x13 y13 => ?_) (fun u13 y13 => ?_)
  · have h := l13 _ y13
    obtain rfl := Option.some.inj h; exact ⟨rfl, rfl, rfl⟩
  have h := r13 _ y13
  refine r_iconst e_X11_robotAt_49 ic_m1 ?_
  refine r_ireturn e_X11_robotAt_50 rfl ⟨rfl, rfl⟩ ?_
  obtain rfl := Option.some.inj h; exact ⟨rfl, rfl, rfl⟩
