def f_L_law (h : zq_H) (L : Nat) (xs : Nat → Int32) : Option Int32 := (Option.bind (zq_nw1 h (0) 5) fun h_1 => (zq_at h_1 ((0) + 1) fun _ => (Option.bind (f_X5_init h_1 (0)) fun v_3 => (zq_let (0) fun v_6 => (Option.bind (zq_nw1 v_3 (104) 6) fun h_8 => (zq_at h_8 ((104) + 1) fun _ => (Option.bind (f_X6_init h_8 (104)) fun v_10 => (zq_let (104) fun v_13 => (Option.bind (zq_na v_10 (118) 11 1 1) fun h_15 => (zq_let (118) fun v_17 => ((zq_lp (σ := Int32 × zq_H) (ρ := (zq_H) ⊕ Int32) (fun s_19 => (if ((nI L) - 4) < s_19.1 then some (.inr (.inl s_19.2)) else (Option.bind (zq_sx L xs s_19.1) fun v_30 => (if (v_30 &&& 31) = 0 then (Option.bind (zq_sx L xs (s_19.1 + 1)) fun v_33 => (Option.bind (f_L_begin s_19.2 v_6 v_33 v_17) fun v_35 => (Option.bind (zq_sx L xs (s_19.1 + 1)) fun v_37 => (zq_ck v_35.2 v_13 6 fun _ => (Option.bind (f_X6_begin v_35.2 v_13 v_37) fun v_39 => (zq_ck v_39.2 v_13 6 fun _ => (Option.bind (f_X6_thrown v_39.2 v_13) fun v_42 => (if v_42 = v_35.1 then (if v_35.1 = 0 then (Option.bind (zq_al v_39.2 v_17 0) fun v_49 => (if (lg_cmp v_49 (v_39.1 : Int32).toInt64) = 0 then (zq_let (s_19.1 + 4) fun v_52 => some (.inl (v_52, v_39.2))) else some (.inr (.inr (0 : Int32))))) else (zq_let (s_19.1 + 4) fun v_47 => some (.inl (v_47, v_39.2)))) else some (.inr (.inr (0 : Int32))))))))))) else (if (v_30 &&& 31) = 1 then (Option.bind (zq_sx L xs (s_19.1 + 1)) fun v_55 => (Option.bind (zq_sx L xs (s_19.1 + 2)) fun v_57 => (Option.bind (zq_sx L xs (s_19.1 + 3)) fun v_59 => (Option.bind (f_L_flip s_19.2 v_6 v_55 v_57 v_59 v_17) fun v_61 => (Option.bind (zq_sx L xs (s_19.1 + 1)) fun v_63 => (Option.bind (zq_sx L xs (s_19.1 + 2)) fun v_65 => (Option.bind (zq_sx L xs (s_19.1 + 3)) fun v_67 => (zq_ck v_61.2 v_13 6 fun _ => (Option.bind (f_X6_flip v_61.2 v_13 v_63 v_65 v_67) fun v_69 => (zq_ck v_69.2 v_13 6 fun _ => (Option.bind (f_X6_thrown v_69.2 v_13) fun v_72 => (if v_72 = v_61.1 then (if v_61.1 = 0 then (Option.bind (zq_al v_69.2 v_17 0) fun v_79 => (if (lg_cmp v_79 (v_69.1 : Int32).toInt64) = 0 then (zq_let (s_19.1 + 4) fun v_82 => some (.inl (v_82, v_69.2))) else some (.inr (.inr (0 : Int32))))) else (zq_let (s_19.1 + 4) fun v_77 => some (.inl (v_77, v_69.2)))) else some (.inr (.inr (0 : Int32))))))))))))))) else (if (v_30 &&& 31) = 2 then (Option.bind (zq_sx L xs (s_19.1 + 1)) fun v_85 => (Option.bind (zq_sx L xs (s_19.1 + 2)) fun v_87 => (Option.bind (f_L_fan s_19.2 v_6 v_85 v_87 v_17) fun v_89 => (Option.bind (zq_sx L xs (s_19.1 + 1)) fun v_91 => (Option.bind (zq_sx L xs (s_19.1 + 2)) fun v_93 => (zq_ck v_89.2 v_13 6 fun _ => (Option.bind (f_X6_fan v_89.2 v_13 v_91 v_93) fun v_95 => (zq_ck v_95.2 v_13 6 fun _ => (Option.bind (f_X6_thrown v_95.2 v_13) fun v_98 => (if v_98 = v_89.1 then (if v_89.1 = 0 then (Option.bind (zq_al v_95.2 v_17 0) fun v_105 => (if (lg_cmp v_105 (v_95.1 : Int32).toInt64) = 0 then (zq_let (s_19.1 + 4) fun v_108 => some (.inl (v_108, v_95.2))) else some (.inr (.inr (0 : Int32))))) else (zq_let (s_19.1 + 4) fun v_103 => some (.inl (v_103, v_95.2)))) else some (.inr (.inr (0 : Int32))))))))))))) else (if (v_30 &&& 31) = 3 then (Option.bind (zq_sx L xs (s_19.1 + 1)) fun v_111 => (Option.bind (zq_sx L xs (s_19.1 + 2)) fun v_113 => (Option.bind (f_L_turn s_19.2 v_6 v_111 v_113 v_17) fun v_115 => (Option.bind (zq_sx L xs (s_19.1 + 1)) fun v_117 => (Option.bind (zq_sx L xs (s_19.1 + 2)) fun v_119 => (zq_ck v_115.2 v_13 6 fun _ => (Option.bind (f_X6_turn v_115.2 v_13 v_117 v_119) fun v_121 => (zq_ck v_121.2 v_13 6 fun _ => (Option.bind (f_X6_thrown v_121.2 v_13) fun v_124 => (if v_124 = v_115.1 then (if v_115.1 = 0 then (Option.bind (zq_al v_121.2 v_17 0) fun v_131 => (if (lg_cmp v_131 (v_121.1 : Int32).toInt64) = 0 then (zq_let (s_19.1 + 4) fun v_134 => some (.inl (v_134, v_121.2))) else some (.inr (.inr (0 : Int32))))) else (zq_let (s_19.1 + 4) fun v_129 => some (.inl (v_129, v_121.2)))) else some (.inr (.inr (0 : Int32))))))))))))) else (if (v_30 &&& 31) = 4 then (Option.bind (zq_sx L xs (s_19.1 + 1)) fun v_137 => (Option.bind (f_L_mirror s_19.2 v_6 v_137 v_17) fun v_139 => (Option.bind (zq_sx L xs (s_19.1 + 1)) fun v_141 => (zq_ck v_139.2 v_13 6 fun _ => (Option.bind (f_X6_mirror v_139.2 v_13 v_141) fun v_143 => (zq_ck v_143.2 v_13 6 fun _ => (Option.bind (f_X6_thrown v_143.2 v_13) fun v_146 => (if v_146 = v_139.1 then (if v_139.1 = 0 then (Option.bind (zq_al v_143.2 v_17 0) fun v_153 => (if (lg_cmp v_153 (v_143.1 : Int32).toInt64) = 0 then (zq_let (s_19.1 + 4) fun v_156 => some (.inl (v_156, v_143.2))) else some (.inr (.inr (0 : Int32))))) else (zq_let (s_19.1 + 4) fun v_151 => some (.inl (v_151, v_143.2)))) else some (.inr (.inr (0 : Int32))))))))))) else (if (v_30 &&& 31) = 5 then (zq_ck s_19.2 v_6 5 fun _ => (Option.bind (f_X5_exchange s_19.2 v_6) fun v_159 => (zq_ck v_159.2 v_13 6 fun _ => (Option.bind (f_X6_exchange v_159.2 v_13) fun v_162 => (if v_159.1 = v_162.1 then (zq_let (s_19.1 + 4) fun v_166 => some (.inl (v_166, v_162.2))) else some (.inr (.inr (0 : Int32)))))))) else (if (v_30 &&& 31) = 6 then (Option.bind (zq_sx L xs (s_19.1 + 1)) fun v_169 => (Option.bind (zq_sx L xs (s_19.1 + 2)) fun v_171 => (Option.bind (zq_sx L xs (s_19.1 + 3)) fun v_173 => (if v_173 = 0 then (Option.bind (f_L_lock s_19.2 v_6 v_169 v_171 0 v_17) fun v_176 => (Option.bind (zq_sx L xs (s_19.1 + 1)) fun v_178 => (Option.bind (zq_sx L xs (s_19.1 + 2)) fun v_180 => (Option.bind (zq_sx L xs (s_19.1 + 3)) fun v_182 => (if v_182 = 0 then (zq_ck v_176.2 v_13 6 fun _ => (Option.bind (f_X6_lock v_176.2 v_13 v_178 v_180 0) fun v_185 => (zq_ck v_185.2 v_13 6 fun _ => (Option.bind (f_X6_thrown v_185.2 v_13) fun v_188 => (if v_188 = v_176.1 then (if v_176.1 = 0 then (Option.bind (zq_al v_185.2 v_17 0) fun v_195 => (if (lg_cmp v_195 (v_185.1 : Int32).toInt64) = 0 then (zq_let (s_19.1 + 4) fun v_198 => some (.inl (v_198, v_185.2))) else some (.inr (.inr (0 : Int32))))) else (zq_let (s_19.1 + 4) fun v_193 => some (.inl (v_193, v_185.2)))) else some (.inr (.inr (0 : Int32)))))))) else (zq_ck v_176.2 v_13 6 fun _ => (Option.bind (f_X6_lock v_176.2 v_13 v_178 v_180 1) fun v_200 => (zq_ck v_200.2 v_13 6 fun _ => (Option.bind (f_X6_thrown v_200.2 v_13) fun v_203 => (if v_203 = v_176.1 then (if v_176.1 = 0 then (Option.bind (zq_al v_200.2 v_17 0) fun v_210 => (if (lg_cmp v_210 (v_200.1 : Int32).toInt64) = 0 then (zq_let (s_19.1 + 4) fun v_213 => some (.inl (v_213, v_200.2))) else some (.inr (.inr (0 : Int32))))) else (zq_let (s_19.1 + 4) fun v_208 => some (.inl (v_208, v_200.2)))) else some (.inr (.inr (0 : Int32))))))))))))) else (Option.bind (f_L_lock s_19.2 v_6 v_169 v_171 1 v_17) fun v_215 => (Option.bind (zq_sx L xs (s_19.1 + 1)) fun v_217 => (Option.bind (zq_sx L xs (s_19.1 + 2)) fun v_219 => (Option.bind (zq_sx L xs (s_19.1 + 3)) fun v_221 => (if v_221 = 0 then (zq_ck v_215.2 v_13 6 fun _ => (Option.bind (f_X6_lock v_215.2 v_13 v_217 v_219 0) fun v_224 => (zq_ck v_224.2 v_13 6 fun _ => (Option.bind (f_X6_thrown v_224.2 v_13) fun v_227 => (if v_227 = v_215.1 then (if v_215.1 = 0 then (Option.bind (zq_al v_224.2 v_17 0) fun v_234 => (if (lg_cmp v_234 (v_224.1 : Int32).toInt64) = 0 then (zq_let (s_19.1 + 4) fun v_237 => some (.inl (v_237, v_224.2))) else some (.inr (.inr (0 : Int32))))) else (zq_let (s_19.1 + 4) fun v_232 => some (.inl (v_232, v_224.2)))) else some (.inr (.inr (0 : Int32)))))))) else (zq_ck v_215.2 v_13 6 fun _ => (Option.bind (f_X6_lock v_215.2 v_13 v_217 v_219 1) fun v_239 => (zq_ck v_239.2 v_13 6 fun _ => (Option.bind (f_X6_thrown v_239.2 v_13) fun v_242 => (if v_242 = v_215.1 then (if v_215.1 = 0 then (Option.bind (zq_al v_239.2 v_17 0) fun v_249 => (if (lg_cmp v_249 (v_239.1 : Int32).toInt64) = 0 then (zq_let (s_19.1 + 4) fun v_252 => some (.inl (v_252, v_239.2))) else some (.inr (.inr (0 : Int32))))) else (zq_let (s_19.1 + 4) fun v_247 => some (.inl (v_247, v_239.2)))) else some (.inr (.inr (0 : Int32))))))))))))))))) else (if (v_30 &&& 31) = 7 then (Option.bind (zq_sx L xs (s_19.1 + 1)) fun v_255 => (Option.bind (f_L_walk s_19.2 v_6 v_255 v_17) fun v_257 => (Option.bind (zq_sx L xs (s_19.1 + 1)) fun v_259 => (zq_ck v_257.2 v_13 6 fun _ => (Option.bind (f_X6_walk v_257.2 v_13 v_259) fun v_261 => (zq_ck v_261.2 v_13 6 fun _ => (Option.bind (f_X6_thrown v_261.2 v_13) fun v_264 => (if v_264 = v_257.1 then (if v_257.1 = 0 then (Option.bind (zq_al v_261.2 v_17 0) fun v_271 => (if (lg_cmp v_271 (v_261.1 : Int32).toInt64) = 0 then (zq_let (s_19.1 + 4) fun v_274 => some (.inl (v_274, v_261.2))) else some (.inr (.inr (0 : Int32))))) else (zq_let (s_19.1 + 4) fun v_269 => some (.inl (v_269, v_261.2)))) else some (.inr (.inr (0 : Int32))))))))))) else (if (v_30 &&& 31) = 8 then (Option.bind (zq_sx L xs (s_19.1 + 1)) fun v_277 => (Option.bind (f_L_append s_19.2 v_6 v_277 v_17) fun v_279 => (Option.bind (zq_sx L xs (s_19.1 + 1)) fun v_281 => (zq_ck v_279.2 v_13 6 fun _ => (Option.bind (f_X6_append v_279.2 v_13 v_281) fun v_283 => (zq_ck v_283.2 v_13 6 fun _ => (Option.bind (f_X6_thrown v_283.2 v_13) fun v_286 => (if v_286 = v_279.1 then (if v_279.1 = 0 then (Option.bind (zq_al v_283.2 v_17 0) fun v_293 => (if (lg_cmp v_293 (v_283.1 : Int32).toInt64) = 0 then (zq_let (s_19.1 + 4) fun v_296 => some (.inl (v_296, v_283.2))) else some (.inr (.inr (0 : Int32))))) else (zq_let (s_19.1 + 4) fun v_291 => some (.inl (v_291, v_283.2)))) else some (.inr (.inr (0 : Int32))))))))))) else (if (v_30 &&& 31) = 9 then (zq_ck s_19.2 v_6 5 fun _ => (Option.bind (f_X5_clearBuffer s_19.2 v_6) fun v_299 => (zq_ck v_299.2 v_13 6 fun _ => (Option.bind (f_X6_clearBuffer v_299.2 v_13) fun v_302 => (if v_299.1 = v_302.1 then (zq_let (s_19.1 + 4) fun v_306 => some (.inl (v_306, v_302.2))) else some (.inr (.inr (0 : Int32)))))))) else (if (v_30 &&& 31) = 10 then (zq_ck s_19.2 v_6 5 fun _ => (Option.bind (f_X5_firstError s_19.2 v_6) fun v_309 => (zq_ck s_19.2 v_13 6 fun _ => (Option.bind (f_X6_firstError s_19.2 v_13) fun v_312 => (if v_309 = v_312.1 then (zq_let (s_19.1 + 4) fun v_316 => some (.inl (v_316, v_312.2))) else some (.inr (.inr (0 : Int32)))))))) else (if (v_30 &&& 31) = 11 then (Option.bind (zq_sx L xs (s_19.1 + 1)) fun v_319 => (Option.bind (f_L_read s_19.2 v_6 v_319 v_17) fun v_321 => (Option.bind (zq_sx L xs (s_19.1 + 1)) fun v_323 => (zq_ck v_321.2 v_13 6 fun _ => (Option.bind (f_X6_read v_321.2 v_13 v_323) fun v_325 => (zq_ck v_325.2 v_13 6 fun _ => (Option.bind (f_X6_thrown v_325.2 v_13) fun v_328 => (if v_328 = v_321.1 then (if v_321.1 = 0 then (Option.bind (zq_al v_325.2 v_17 0) fun v_335 => (if (lg_cmp v_335 (v_325.1 : Int32).toInt64) = 0 then (zq_let (s_19.1 + 4) fun v_338 => some (.inl (v_338, v_325.2))) else some (.inr (.inr (0 : Int32))))) else (zq_let (s_19.1 + 4) fun v_333 => some (.inl (v_333, v_325.2)))) else some (.inr (.inr (0 : Int32))))))))))) else (if (v_30 &&& 31) = 12 then (Option.bind (zq_sx L xs (s_19.1 + 1)) fun v_341 => (Option.bind (f_L_take s_19.2 v_6 v_341 v_17) fun v_343 => (Option.bind (zq_sx L xs (s_19.1 + 1)) fun v_345 => (zq_ck v_343.2 v_13 6 fun _ => (Option.bind (f_X6_take v_343.2 v_13 v_345) fun v_347 => (zq_ck v_347.2 v_13 6 fun _ => (Option.bind (f_X6_thrown v_347.2 v_13) fun v_350 => (if v_350 = v_343.1 then (if v_343.1 = 0 then (Option.bind (zq_al v_347.2 v_17 0) fun v_357 => (if (lg_cmp v_357 (v_347.1 : Int32).toInt64) = 0 then (zq_let (s_19.1 + 4) fun v_360 => some (.inl (v_360, v_347.2))) else some (.inr (.inr (0 : Int32))))) else (zq_let (s_19.1 + 4) fun v_355 => some (.inl (v_355, v_347.2)))) else some (.inr (.inr (0 : Int32))))))))))) else (if (v_30 &&& 31) = 13 then (Option.bind (zq_sx L xs (s_19.1 + 1)) fun v_363 => (Option.bind (f_L_restore s_19.2 v_6 v_363 v_17) fun v_365 => (Option.bind (zq_sx L xs (s_19.1 + 1)) fun v_367 => (zq_ck v_365.2 v_13 6 fun _ => (Option.bind (f_X6_restore v_365.2 v_13 v_367) fun v_369 => (zq_ck v_369.2 v_13 6 fun _ => (Option.bind (f_X6_thrown v_369.2 v_13) fun v_372 => (if v_372 = v_365.1 then (if v_365.1 = 0 then (Option.bind (zq_al v_369.2 v_17 0) fun v_379 => (if (lg_cmp v_379 (v_369.1 : Int32).toInt64) = 0 then (zq_let (s_19.1 + 4) fun v_382 => some (.inl (v_382, v_369.2))) else some (.inr (.inr (0 : Int32))))) else (zq_let (s_19.1 + 4) fun v_377 => some (.inl (v_377, v_369.2)))) else some (.inr (.inr (0 : Int32))))))))))) else (if (v_30 &&& 31) = 14 then (Option.bind (f_L_undo s_19.2 v_6 v_17) fun v_385 => (zq_ck v_385.2 v_13 6 fun _ => (Option.bind (f_X6_undo v_385.2 v_13) fun v_387 => (zq_ck v_387.2 v_13 6 fun _ => (Option.bind (f_X6_thrown v_387.2 v_13) fun v_390 => (if v_390 = v_385.1 then (if v_385.1 = 0 then (Option.bind (zq_al v_387.2 v_17 0) fun v_397 => (if (lg_cmp v_397 (v_387.1 : Int32).toInt64) = 0 then (zq_let (s_19.1 + 4) fun v_400 => some (.inl (v_400, v_387.2))) else some (.inr (.inr (0 : Int32))))) else (zq_let (s_19.1 + 4) fun v_395 => some (.inl (v_395, v_387.2)))) else some (.inr (.inr (0 : Int32))))))))) else (if (v_30 &&& 31) = 15 then (Option.bind (zq_sx L xs (s_19.1 + 1)) fun v_403 => (Option.bind (zq_sx L xs (s_19.1 + 2)) fun v_405 => (Option.bind (f_L_number s_19.2 v_6 v_403 v_405 v_17) fun v_407 => (Option.bind (zq_sx L xs (s_19.1 + 1)) fun v_409 => (Option.bind (zq_sx L xs (s_19.1 + 2)) fun v_411 => (zq_ck v_407.2 v_13 6 fun _ => (Option.bind (f_X6_number v_407.2 v_13 v_409 v_411) fun v_413 => (zq_ck v_413.2 v_13 6 fun _ => (Option.bind (f_X6_thrown v_413.2 v_13) fun v_416 => (if v_416 = v_407.1 then (if v_407.1 = 0 then (Option.bind (zq_al v_413.2 v_17 0) fun v_423 => (if (lg_cmp v_423 (v_413.1 : Int32).toInt64) = 0 then (zq_let (s_19.1 + 4) fun v_426 => some (.inl (v_426, v_413.2))) else some (.inr (.inr (0 : Int32))))) else (zq_let (s_19.1 + 4) fun v_421 => some (.inl (v_421, v_413.2)))) else some (.inr (.inr (0 : Int32))))))))))))) else (if (v_30 &&& 31) = 16 then (Option.bind (zq_sx L xs (s_19.1 + 1)) fun v_429 => (Option.bind (zq_sx L xs (s_19.1 + 2)) fun v_431 => (Option.bind (f_L_triangulation s_19.2 v_6 v_429 v_431 v_17) fun v_433 => (Option.bind (zq_sx L xs (s_19.1 + 1)) fun v_435 => (Option.bind (zq_sx L xs (s_19.1 + 2)) fun v_437 => (zq_ck v_433.2 v_13 6 fun _ => (Option.bind (f_X6_triangulation v_433.2 v_13 v_435 v_437) fun v_439 => (zq_ck v_439.2 v_13 6 fun _ => (Option.bind (f_X6_thrown v_439.2 v_13) fun v_442 => (if v_442 = v_433.1 then (if v_433.1 = 0 then (Option.bind (zq_al v_439.2 v_17 0) fun v_449 => (if (lg_cmp v_449 (v_439.1 : Int32).toInt64) = 0 then (zq_let (s_19.1 + 4) fun v_452 => some (.inl (v_452, v_439.2))) else some (.inr (.inr (0 : Int32))))) else (zq_let (s_19.1 + 4) fun v_447 => some (.inl (v_447, v_439.2)))) else some (.inr (.inr (0 : Int32))))))))))))) else (if (v_30 &&& 31) = 17 then (Option.bind (zq_sx L xs (s_19.1 + 1)) fun v_455 => (Option.bind (zq_sx L xs (s_19.1 + 2)) fun v_457 => (Option.bind (f_L_degree s_19.2 v_6 v_455 v_457 v_17) fun v_459 => (Option.bind (zq_sx L xs (s_19.1 + 1)) fun v_461 => (Option.bind (zq_sx L xs (s_19.1 + 2)) fun v_463 => (zq_ck v_459.2 v_13 6 fun _ => (Option.bind (f_X6_degree v_459.2 v_13 v_461 v_463) fun v_465 => (zq_ck v_465.2 v_13 6 fun _ => (Option.bind (f_X6_thrown v_465.2 v_13) fun v_468 => (if v_468 = v_459.1 then (if v_459.1 = 0 then (Option.bind (zq_al v_465.2 v_17 0) fun v_475 => (if (lg_cmp v_475 (v_465.1 : Int32).toInt64) = 0 then (zq_let (s_19.1 + 4) fun v_478 => some (.inl (v_478, v_465.2))) else some (.inr (.inr (0 : Int32))))) else (zq_let (s_19.1 + 4) fun v_473 => some (.inl (v_473, v_465.2)))) else some (.inr (.inr (0 : Int32))))))))))))) else (if (v_30 &&& 31) = 18 then (Option.bind (zq_sx L xs (s_19.1 + 1)) fun v_481 => (Option.bind (zq_sx L xs (s_19.1 + 2)) fun v_483 => (Option.bind (zq_sx L xs (s_19.1 + 3)) fun v_485 => (Option.bind (f_L_other s_19.2 v_6 v_481 v_483 v_485 v_17) fun v_487 => (Option.bind (zq_sx L xs (s_19.1 + 1)) fun v_489 => (Option.bind (zq_sx L xs (s_19.1 + 2)) fun v_491 => (Option.bind (zq_sx L xs (s_19.1 + 3)) fun v_493 => (zq_ck v_487.2 v_13 6 fun _ => (Option.bind (f_X6_other v_487.2 v_13 v_489 v_491 v_493) fun v_495 => (zq_ck v_495.2 v_13 6 fun _ => (Option.bind (f_X6_thrown v_495.2 v_13) fun v_498 => (if v_498 = v_487.1 then (if v_487.1 = 0 then (Option.bind (zq_al v_495.2 v_17 0) fun v_505 => (if (lg_cmp v_505 (v_495.1 : Int32).toInt64) = 0 then (zq_let (s_19.1 + 4) fun v_508 => some (.inl (v_508, v_495.2))) else some (.inr (.inr (0 : Int32))))) else (zq_let (s_19.1 + 4) fun v_503 => some (.inl (v_503, v_495.2)))) else some (.inr (.inr (0 : Int32))))))))))))))) else (if (v_30 &&& 31) = 19 then (Option.bind (zq_sx L xs (s_19.1 + 1)) fun v_511 => (Option.bind (zq_sx L xs (s_19.1 + 2)) fun v_513 => (Option.bind (f_L_whyNot s_19.2 v_6 v_511 v_513 v_17) fun v_515 => (Option.bind (zq_sx L xs (s_19.1 + 1)) fun v_517 => (Option.bind (zq_sx L xs (s_19.1 + 2)) fun v_519 => (zq_ck v_515.2 v_13 6 fun _ => (Option.bind (f_X6_whyNot v_515.2 v_13 v_517 v_519) fun v_521 => (zq_ck v_521.2 v_13 6 fun _ => (Option.bind (f_X6_thrown v_521.2 v_13) fun v_524 => (if v_524 = v_515.1 then (if v_515.1 = 0 then (Option.bind (zq_al v_521.2 v_17 0) fun v_531 => (if (lg_cmp v_531 (v_521.1 : Int32).toInt64) = 0 then (zq_let (s_19.1 + 4) fun v_534 => some (.inl (v_534, v_521.2))) else some (.inr (.inr (0 : Int32))))) else (zq_let (s_19.1 + 4) fun v_529 => some (.inl (v_529, v_521.2)))) else some (.inr (.inr (0 : Int32))))))))))))) else (if (v_30 &&& 31) = 20 then (Option.bind (zq_sx L xs (s_19.1 + 1)) fun v_537 => (Option.bind (f_L_distance s_19.2 v_6 v_537 v_17) fun v_539 => (Option.bind (zq_sx L xs (s_19.1 + 1)) fun v_541 => (zq_ck v_539.2 v_13 6 fun _ => (Option.bind (f_X6_distance v_539.2 v_13 v_541) fun v_543 => (zq_ck v_543.2 v_13 6 fun _ => (Option.bind (f_X6_thrown v_543.2 v_13) fun v_546 => (if v_546 = v_539.1 then (if v_539.1 = 0 then (Option.bind (zq_al v_543.2 v_17 0) fun v_553 => (if (lg_cmp v_553 (v_543.1 : Int32).toInt64) = 0 then (zq_let (s_19.1 + 4) fun v_556 => some (.inl (v_556, v_543.2))) else some (.inr (.inr (0 : Int32))))) else (zq_let (s_19.1 + 4) fun v_551 => some (.inl (v_551, v_543.2)))) else some (.inr (.inr (0 : Int32))))))))))) else (if (v_30 &&& 31) = 21 then (Option.bind (zq_sx L xs (s_19.1 + 1)) fun v_559 => (Option.bind (zq_sx L xs (s_19.1 + 2)) fun v_561 => (Option.bind (f_L_ifFlipped s_19.2 v_6 v_559 v_561 v_17) fun v_563 => (Option.bind (zq_sx L xs (s_19.1 + 1)) fun v_565 => (Option.bind (zq_sx L xs (s_19.1 + 2)) fun v_567 => (zq_ck v_563.2 v_13 6 fun _ => (Option.bind (f_X6_ifFlipped v_563.2 v_13 v_565 v_567) fun v_569 => (zq_ck v_569.2 v_13 6 fun _ => (Option.bind (f_X6_thrown v_569.2 v_13) fun v_572 => (if v_572 = v_563.1 then (if v_563.1 = 0 then (Option.bind (zq_al v_569.2 v_17 0) fun v_579 => (if (lg_cmp v_579 (v_569.1 : Int32).toInt64) = 0 then (zq_let (s_19.1 + 4) fun v_582 => some (.inl (v_582, v_569.2))) else some (.inr (.inr (0 : Int32))))) else (zq_let (s_19.1 + 4) fun v_577 => some (.inl (v_577, v_569.2)))) else some (.inr (.inr (0 : Int32))))))))))))) else (if (v_30 &&& 31) = 22 then (Option.bind (zq_sx L xs (s_19.1 + 1)) fun v_585 => (Option.bind (f_L_count s_19.2 v_6 v_585 v_17) fun v_587 => (Option.bind (zq_sx L xs (s_19.1 + 1)) fun v_589 => (zq_ck v_587.2 v_13 6 fun _ => (Option.bind (f_X6_count v_587.2 v_13 v_589) fun v_591 => (zq_ck v_591.2 v_13 6 fun _ => (Option.bind (f_X6_thrown v_591.2 v_13) fun v_594 => (if v_594 = v_587.1 then (if v_587.1 = 0 then (Option.bind (zq_al v_591.2 v_17 0) fun v_601 => (if (lg_cmp v_601 (v_591.1 : Int32).toInt64) = 0 then (zq_let (s_19.1 + 4) fun v_604 => some (.inl (v_604, v_591.2))) else some (.inr (.inr (0 : Int32))))) else (zq_let (s_19.1 + 4) fun v_599 => some (.inl (v_599, v_591.2)))) else some (.inr (.inr (0 : Int32))))))))))) else (if (v_30 &&& 31) = 23 then (zq_ck s_19.2 v_6 5 fun _ => (Option.bind (f_X5_farShare s_19.2 v_6) fun v_607 => (zq_ck v_607.2 v_13 6 fun _ => (Option.bind (f_X6_farShare v_607.2 v_13) fun v_610 => (if (Op.cmpValue (FP.dcmp v_607.1 v_610.1) .l) = 0 then (zq_let (s_19.1 + 4) fun v_614 => some (.inl (v_614, v_610.2))) else (if (Op.cmpValue (FP.dcmp v_607.1 v_607.1) .l) = 0 then some (.inr (.inr (0 : Int32))) else (if (Op.cmpValue (FP.dcmp v_610.1 v_610.1) .l) = 0 then some (.inr (.inr (0 : Int32))) else (zq_let (s_19.1 + 4) fun v_618 => some (.inl (v_618, v_610.2)))))))))) else (if (v_30 &&& 31) = 24 then (zq_ck s_19.2 v_6 5 fun _ => (Option.bind (f_X5_digest s_19.2 v_6) fun v_621 => (zq_ck v_621.2 v_13 6 fun _ => (Option.bind (f_X6_digest v_621.2 v_13) fun v_624 => (if (lg_cmp v_621.1 v_624.1) = 0 then (zq_let (s_19.1 + 4) fun v_628 => some (.inl (v_628, v_624.2))) else some (.inr (.inr (0 : Int32)))))))) else (zq_let (s_19.1 + 4) fun v_630 => some (.inl (v_630, s_19.2))))))))))))))))))))))))))))))) 513 (0, h_15)).bind (Sum.elim (fun y_22 : zq_H => some (1 : Int32)) (fun z_23 => some z_23)))))))))))))
theorem dL_law_0 : decode cL_law 0 = .ok (.new 8, 3) := by decide +kernel
theorem dL_law_3 : decode cL_law 3 = .ok (.dup, 1) := by decide +kernel
theorem dL_law_4 : decode cL_law 4 = .ok (.invokespecial 80, 3) := by decide +kernel
theorem dL_law_7 : decode cL_law 7 = .ok (.astore_n 1, 1) := by decide +kernel
theorem dL_law_8 : decode cL_law 8 = .ok (.new 81, 3) := by decide +kernel
theorem dL_law_11 : decode cL_law 11 = .ok (.dup, 1) := by decide +kernel
theorem dL_law_12 : decode cL_law 12 = .ok (.invokespecial 83, 3) := by decide +kernel
theorem dL_law_15 : decode cL_law 15 = .ok (.astore_n 2, 1) := by decide +kernel
theorem dL_law_16 : decode cL_law 16 = .ok (.iconst 1, 1) := by decide +kernel
theorem dL_law_17 : decode cL_law 17 = .ok (.newarray .long, 2) := by decide +kernel
theorem dL_law_19 : decode cL_law 19 = .ok (.astore_n 3, 1) := by decide +kernel
theorem dL_law_20 : decode cL_law 20 = .ok (.iconst 0, 1) := by decide +kernel
theorem dL_law_21 : decode cL_law 21 = .ok (.istore 4, 2) := by decide +kernel
theorem dL_law_23 : decode cL_law 23 = .ok (.iload 4, 2) := by decide +kernel
theorem dL_law_25 : decode cL_law 25 = .ok (.aload_n 0, 1) := by decide +kernel
theorem dL_law_26 : decode cL_law 26 = .ok (.arraylength, 1) := by decide +kernel
theorem dL_law_27 : decode cL_law 27 = .ok (.iconst 4, 1) := by decide +kernel
theorem dL_law_28 : decode cL_law 28 = .ok (.isub, 1) := by decide +kernel
theorem dL_law_29 : decode cL_law 29 = .ok (.if_icmp .gt 1503, 3) := by decide +kernel
theorem dL_law_32 : decode cL_law 32 = .ok (.aload_n 0, 1) := by decide +kernel
theorem dL_law_33 : decode cL_law 33 = .ok (.iload 4, 2) := by decide +kernel
theorem dL_law_35 : decode cL_law 35 = .ok (.iaload, 1) := by decide +kernel
theorem dL_law_36 : decode cL_law 36 = .ok (.bipush 31, 2) := by decide +kernel
theorem dL_law_38 : decode cL_law 38 = .ok (.iand, 1) := by decide +kernel
theorem dL_law_39 : decode cL_law 39 = .ok (.tableswitch 1487 0 24 #[113, 169, 249, 317, 385, 441, 454, 550, 606, 662, 675, 688, 744, 800, 856, 900, 968, 1036, 1104, 1184, 1252, 1308, 1376, 1432, 1473], 113) := by decide +kernel
theorem dL_law_152 : decode cL_law 152 = .ok (.aload_n 1, 1) := by decide +kernel
theorem dL_law_153 : decode cL_law 153 = .ok (.aload_n 0, 1) := by decide +kernel
theorem dL_law_154 : decode cL_law 154 = .ok (.iload 4, 2) := by decide +kernel
theorem dL_law_156 : decode cL_law 156 = .ok (.iconst 1, 1) := by decide +kernel
theorem dL_law_157 : decode cL_law 157 = .ok (.iadd, 1) := by decide +kernel
theorem dL_law_158 : decode cL_law 158 = .ok (.iaload, 1) := by decide +kernel
theorem dL_law_159 : decode cL_law 159 = .ok (.aload_n 3, 1) := by decide +kernel
theorem dL_law_160 : decode cL_law 160 = .ok (.invokestatic 84, 3) := by decide +kernel
theorem dL_law_163 : decode cL_law 163 = .ok (.istore 5, 2) := by decide +kernel
theorem dL_law_165 : decode cL_law 165 = .ok (.aload_n 2, 1) := by decide +kernel
theorem dL_law_166 : decode cL_law 166 = .ok (.aload_n 0, 1) := by decide +kernel
theorem dL_law_167 : decode cL_law 167 = .ok (.iload 4, 2) := by decide +kernel
theorem dL_law_169 : decode cL_law 169 = .ok (.iconst 1, 1) := by decide +kernel
theorem dL_law_170 : decode cL_law 170 = .ok (.iadd, 1) := by decide +kernel
theorem dL_law_171 : decode cL_law 171 = .ok (.iaload, 1) := by decide +kernel
theorem dL_law_172 : decode cL_law 172 = .ok (.invokevirtual 89, 3) := by decide +kernel
theorem dL_law_175 : decode cL_law 175 = .ok (.istore 6, 2) := by decide +kernel
theorem dL_law_177 : decode cL_law 177 = .ok (.aload_n 2, 1) := by decide +kernel
theorem dL_law_178 : decode cL_law 178 = .ok (.invokevirtual 90, 3) := by decide +kernel
theorem dL_law_181 : decode cL_law 181 = .ok (.iload 5, 2) := by decide +kernel
theorem dL_law_183 : decode cL_law 183 = .ok (.if_icmp .eq 5, 3) := by decide +kernel
theorem dL_law_186 : decode cL_law 186 = .ok (.iconst 0, 1) := by decide +kernel
theorem dL_law_187 : decode cL_law 187 = .ok (.ireturn, 1) := by decide +kernel
theorem dL_law_188 : decode cL_law 188 = .ok (.iload 5, 2) := by decide +kernel
theorem dL_law_190 : decode cL_law 190 = .ok (.ifCond .ne 15, 3) := by decide +kernel
theorem dL_law_193 : decode cL_law 193 = .ok (.aload_n 3, 1) := by decide +kernel
theorem dL_law_194 : decode cL_law 194 = .ok (.iconst 0, 1) := by decide +kernel
theorem dL_law_195 : decode cL_law 195 = .ok (.laload, 1) := by decide +kernel
theorem dL_law_196 : decode cL_law 196 = .ok (.iload 6, 2) := by decide +kernel
theorem dL_law_198 : decode cL_law 198 = .ok (.i2l, 1) := by decide +kernel
theorem dL_law_199 : decode cL_law 199 = .ok (.lcmp, 1) := by decide +kernel
theorem dL_law_200 : decode cL_law 200 = .ok (.ifCond .eq 5, 3) := by decide +kernel
theorem dL_law_203 : decode cL_law 203 = .ok (.iconst 0, 1) := by decide +kernel
theorem dL_law_204 : decode cL_law 204 = .ok (.ireturn, 1) := by decide +kernel
theorem dL_law_205 : decode cL_law 205 = .ok (.goto 1321, 3) := by decide +kernel
theorem dL_law_208 : decode cL_law 208 = .ok (.aload_n 1, 1) := by decide +kernel
theorem dL_law_209 : decode cL_law 209 = .ok (.aload_n 0, 1) := by decide +kernel
theorem dL_law_210 : decode cL_law 210 = .ok (.iload 4, 2) := by decide +kernel
theorem dL_law_212 : decode cL_law 212 = .ok (.iconst 1, 1) := by decide +kernel
theorem dL_law_213 : decode cL_law 213 = .ok (.iadd, 1) := by decide +kernel
theorem dL_law_214 : decode cL_law 214 = .ok (.iaload, 1) := by decide +kernel
theorem dL_law_215 : decode cL_law 215 = .ok (.aload_n 0, 1) := by decide +kernel
theorem dL_law_216 : decode cL_law 216 = .ok (.iload 4, 2) := by decide +kernel
theorem dL_law_218 : decode cL_law 218 = .ok (.iconst 2, 1) := by decide +kernel
theorem dL_law_219 : decode cL_law 219 = .ok (.iadd, 1) := by decide +kernel
theorem dL_law_220 : decode cL_law 220 = .ok (.iaload, 1) := by decide +kernel
theorem dL_law_221 : decode cL_law 221 = .ok (.aload_n 0, 1) := by decide +kernel
theorem dL_law_222 : decode cL_law 222 = .ok (.iload 4, 2) := by decide +kernel
theorem dL_law_224 : decode cL_law 224 = .ok (.iconst 3, 1) := by decide +kernel
theorem dL_law_225 : decode cL_law 225 = .ok (.iadd, 1) := by decide +kernel
theorem dL_law_226 : decode cL_law 226 = .ok (.iaload, 1) := by decide +kernel
theorem dL_law_227 : decode cL_law 227 = .ok (.aload_n 3, 1) := by decide +kernel
theorem dL_law_228 : decode cL_law 228 = .ok (.invokestatic 93, 3) := by decide +kernel
theorem dL_law_231 : decode cL_law 231 = .ok (.istore 5, 2) := by decide +kernel
theorem dL_law_233 : decode cL_law 233 = .ok (.aload_n 2, 1) := by decide +kernel
theorem dL_law_234 : decode cL_law 234 = .ok (.aload_n 0, 1) := by decide +kernel
theorem dL_law_235 : decode cL_law 235 = .ok (.iload 4, 2) := by decide +kernel
theorem dL_law_237 : decode cL_law 237 = .ok (.iconst 1, 1) := by decide +kernel
theorem dL_law_238 : decode cL_law 238 = .ok (.iadd, 1) := by decide +kernel
theorem dL_law_239 : decode cL_law 239 = .ok (.iaload, 1) := by decide +kernel
theorem dL_law_240 : decode cL_law 240 = .ok (.aload_n 0, 1) := by decide +kernel
theorem dL_law_241 : decode cL_law 241 = .ok (.iload 4, 2) := by decide +kernel
theorem dL_law_243 : decode cL_law 243 = .ok (.iconst 2, 1) := by decide +kernel
theorem dL_law_244 : decode cL_law 244 = .ok (.iadd, 1) := by decide +kernel
theorem dL_law_245 : decode cL_law 245 = .ok (.iaload, 1) := by decide +kernel
theorem dL_law_246 : decode cL_law 246 = .ok (.aload_n 0, 1) := by decide +kernel
theorem dL_law_247 : decode cL_law 247 = .ok (.iload 4, 2) := by decide +kernel
theorem dL_law_249 : decode cL_law 249 = .ok (.iconst 3, 1) := by decide +kernel
theorem dL_law_250 : decode cL_law 250 = .ok (.iadd, 1) := by decide +kernel
theorem dL_law_251 : decode cL_law 251 = .ok (.iaload, 1) := by decide +kernel
theorem dL_law_252 : decode cL_law 252 = .ok (.invokevirtual 96, 3) := by decide +kernel
theorem dL_law_255 : decode cL_law 255 = .ok (.istore 6, 2) := by decide +kernel
theorem dL_law_257 : decode cL_law 257 = .ok (.aload_n 2, 1) := by decide +kernel
theorem dL_law_258 : decode cL_law 258 = .ok (.invokevirtual 90, 3) := by decide +kernel
theorem dL_law_261 : decode cL_law 261 = .ok (.iload 5, 2) := by decide +kernel
theorem dL_law_263 : decode cL_law 263 = .ok (.if_icmp .eq 5, 3) := by decide +kernel
theorem dL_law_266 : decode cL_law 266 = .ok (.iconst 0, 1) := by decide +kernel
theorem dL_law_267 : decode cL_law 267 = .ok (.ireturn, 1) := by decide +kernel
theorem dL_law_268 : decode cL_law 268 = .ok (.iload 5, 2) := by decide +kernel
theorem dL_law_270 : decode cL_law 270 = .ok (.ifCond .ne 15, 3) := by decide +kernel
theorem dL_law_273 : decode cL_law 273 = .ok (.aload_n 3, 1) := by decide +kernel
theorem dL_law_274 : decode cL_law 274 = .ok (.iconst 0, 1) := by decide +kernel
theorem dL_law_275 : decode cL_law 275 = .ok (.laload, 1) := by decide +kernel
theorem dL_law_276 : decode cL_law 276 = .ok (.iload 6, 2) := by decide +kernel
theorem dL_law_278 : decode cL_law 278 = .ok (.i2l, 1) := by decide +kernel
theorem dL_law_279 : decode cL_law 279 = .ok (.lcmp, 1) := by decide +kernel
theorem dL_law_280 : decode cL_law 280 = .ok (.ifCond .eq 5, 3) := by decide +kernel
theorem dL_law_283 : decode cL_law 283 = .ok (.iconst 0, 1) := by decide +kernel
theorem dL_law_284 : decode cL_law 284 = .ok (.ireturn, 1) := by decide +kernel
theorem dL_law_285 : decode cL_law 285 = .ok (.goto 1241, 3) := by decide +kernel
theorem dL_law_288 : decode cL_law 288 = .ok (.aload_n 1, 1) := by decide +kernel
theorem dL_law_289 : decode cL_law 289 = .ok (.aload_n 0, 1) := by decide +kernel
theorem dL_law_290 : decode cL_law 290 = .ok (.iload 4, 2) := by decide +kernel
theorem dL_law_292 : decode cL_law 292 = .ok (.iconst 1, 1) := by decide +kernel
theorem dL_law_293 : decode cL_law 293 = .ok (.iadd, 1) := by decide +kernel
theorem dL_law_294 : decode cL_law 294 = .ok (.iaload, 1) := by decide +kernel
theorem dL_law_295 : decode cL_law 295 = .ok (.aload_n 0, 1) := by decide +kernel
theorem dL_law_296 : decode cL_law 296 = .ok (.iload 4, 2) := by decide +kernel
theorem dL_law_298 : decode cL_law 298 = .ok (.iconst 2, 1) := by decide +kernel
theorem dL_law_299 : decode cL_law 299 = .ok (.iadd, 1) := by decide +kernel
theorem dL_law_300 : decode cL_law 300 = .ok (.iaload, 1) := by decide +kernel
theorem dL_law_301 : decode cL_law 301 = .ok (.aload_n 3, 1) := by decide +kernel
theorem dL_law_302 : decode cL_law 302 = .ok (.invokestatic 97, 3) := by decide +kernel
theorem dL_law_305 : decode cL_law 305 = .ok (.istore 5, 2) := by decide +kernel
theorem dL_law_307 : decode cL_law 307 = .ok (.aload_n 2, 1) := by decide +kernel
theorem dL_law_308 : decode cL_law 308 = .ok (.aload_n 0, 1) := by decide +kernel
theorem dL_law_309 : decode cL_law 309 = .ok (.iload 4, 2) := by decide +kernel
theorem dL_law_311 : decode cL_law 311 = .ok (.iconst 1, 1) := by decide +kernel
theorem dL_law_312 : decode cL_law 312 = .ok (.iadd, 1) := by decide +kernel
theorem dL_law_313 : decode cL_law 313 = .ok (.iaload, 1) := by decide +kernel
theorem dL_law_314 : decode cL_law 314 = .ok (.aload_n 0, 1) := by decide +kernel
theorem dL_law_315 : decode cL_law 315 = .ok (.iload 4, 2) := by decide +kernel
theorem dL_law_317 : decode cL_law 317 = .ok (.iconst 2, 1) := by decide +kernel
theorem dL_law_318 : decode cL_law 318 = .ok (.iadd, 1) := by decide +kernel
theorem dL_law_319 : decode cL_law 319 = .ok (.iaload, 1) := by decide +kernel
theorem dL_law_320 : decode cL_law 320 = .ok (.invokevirtual 100, 3) := by decide +kernel
theorem dL_law_323 : decode cL_law 323 = .ok (.istore 6, 2) := by decide +kernel
theorem dL_law_325 : decode cL_law 325 = .ok (.aload_n 2, 1) := by decide +kernel
theorem dL_law_326 : decode cL_law 326 = .ok (.invokevirtual 90, 3) := by decide +kernel
theorem dL_law_329 : decode cL_law 329 = .ok (.iload 5, 2) := by decide +kernel
theorem dL_law_331 : decode cL_law 331 = .ok (.if_icmp .eq 5, 3) := by decide +kernel
theorem dL_law_334 : decode cL_law 334 = .ok (.iconst 0, 1) := by decide +kernel
theorem dL_law_335 : decode cL_law 335 = .ok (.ireturn, 1) := by decide +kernel
theorem dL_law_336 : decode cL_law 336 = .ok (.iload 5, 2) := by decide +kernel
theorem dL_law_338 : decode cL_law 338 = .ok (.ifCond .ne 15, 3) := by decide +kernel
theorem dL_law_341 : decode cL_law 341 = .ok (.aload_n 3, 1) := by decide +kernel
theorem dL_law_342 : decode cL_law 342 = .ok (.iconst 0, 1) := by decide +kernel
theorem dL_law_343 : decode cL_law 343 = .ok (.laload, 1) := by decide +kernel
theorem dL_law_344 : decode cL_law 344 = .ok (.iload 6, 2) := by decide +kernel
theorem dL_law_346 : decode cL_law 346 = .ok (.i2l, 1) := by decide +kernel
theorem dL_law_347 : decode cL_law 347 = .ok (.lcmp, 1) := by decide +kernel
theorem dL_law_348 : decode cL_law 348 = .ok (.ifCond .eq 5, 3) := by decide +kernel
theorem dL_law_351 : decode cL_law 351 = .ok (.iconst 0, 1) := by decide +kernel
theorem dL_law_352 : decode cL_law 352 = .ok (.ireturn, 1) := by decide +kernel
theorem dL_law_353 : decode cL_law 353 = .ok (.goto 1173, 3) := by decide +kernel
theorem dL_law_356 : decode cL_law 356 = .ok (.aload_n 1, 1) := by decide +kernel
theorem dL_law_357 : decode cL_law 357 = .ok (.aload_n 0, 1) := by decide +kernel
theorem dL_law_358 : decode cL_law 358 = .ok (.iload 4, 2) := by decide +kernel
theorem dL_law_360 : decode cL_law 360 = .ok (.iconst 1, 1) := by decide +kernel
theorem dL_law_361 : decode cL_law 361 = .ok (.iadd, 1) := by decide +kernel
theorem dL_law_362 : decode cL_law 362 = .ok (.iaload, 1) := by decide +kernel
theorem dL_law_363 : decode cL_law 363 = .ok (.aload_n 0, 1) := by decide +kernel
theorem dL_law_364 : decode cL_law 364 = .ok (.iload 4, 2) := by decide +kernel
theorem dL_law_366 : decode cL_law 366 = .ok (.iconst 2, 1) := by decide +kernel
theorem dL_law_367 : decode cL_law 367 = .ok (.iadd, 1) := by decide +kernel
theorem dL_law_368 : decode cL_law 368 = .ok (.iaload, 1) := by decide +kernel
theorem dL_law_369 : decode cL_law 369 = .ok (.aload_n 3, 1) := by decide +kernel
theorem dL_law_370 : decode cL_law 370 = .ok (.invokestatic 101, 3) := by decide +kernel
theorem dL_law_373 : decode cL_law 373 = .ok (.istore 5, 2) := by decide +kernel
theorem dL_law_375 : decode cL_law 375 = .ok (.aload_n 2, 1) := by decide +kernel
theorem dL_law_376 : decode cL_law 376 = .ok (.aload_n 0, 1) := by decide +kernel
theorem dL_law_377 : decode cL_law 377 = .ok (.iload 4, 2) := by decide +kernel
theorem dL_law_379 : decode cL_law 379 = .ok (.iconst 1, 1) := by decide +kernel
theorem dL_law_380 : decode cL_law 380 = .ok (.iadd, 1) := by decide +kernel
theorem dL_law_381 : decode cL_law 381 = .ok (.iaload, 1) := by decide +kernel
theorem dL_law_382 : decode cL_law 382 = .ok (.aload_n 0, 1) := by decide +kernel
theorem dL_law_383 : decode cL_law 383 = .ok (.iload 4, 2) := by decide +kernel
theorem dL_law_385 : decode cL_law 385 = .ok (.iconst 2, 1) := by decide +kernel
theorem dL_law_386 : decode cL_law 386 = .ok (.iadd, 1) := by decide +kernel
theorem dL_law_387 : decode cL_law 387 = .ok (.iaload, 1) := by decide +kernel
theorem dL_law_388 : decode cL_law 388 = .ok (.invokevirtual 103, 3) := by decide +kernel
theorem dL_law_391 : decode cL_law 391 = .ok (.istore 6, 2) := by decide +kernel
theorem dL_law_393 : decode cL_law 393 = .ok (.aload_n 2, 1) := by decide +kernel
theorem dL_law_394 : decode cL_law 394 = .ok (.invokevirtual 90, 3) := by decide +kernel
theorem dL_law_397 : decode cL_law 397 = .ok (.iload 5, 2) := by decide +kernel
theorem dL_law_399 : decode cL_law 399 = .ok (.if_icmp .eq 5, 3) := by decide +kernel
theorem dL_law_402 : decode cL_law 402 = .ok (.iconst 0, 1) := by decide +kernel
theorem dL_law_403 : decode cL_law 403 = .ok (.ireturn, 1) := by decide +kernel
theorem dL_law_404 : decode cL_law 404 = .ok (.iload 5, 2) := by decide +kernel
theorem dL_law_406 : decode cL_law 406 = .ok (.ifCond .ne 15, 3) := by decide +kernel
theorem dL_law_409 : decode cL_law 409 = .ok (.aload_n 3, 1) := by decide +kernel
theorem dL_law_410 : decode cL_law 410 = .ok (.iconst 0, 1) := by decide +kernel
theorem dL_law_411 : decode cL_law 411 = .ok (.laload, 1) := by decide +kernel
theorem dL_law_412 : decode cL_law 412 = .ok (.iload 6, 2) := by decide +kernel
theorem dL_law_414 : decode cL_law 414 = .ok (.i2l, 1) := by decide +kernel
theorem dL_law_415 : decode cL_law 415 = .ok (.lcmp, 1) := by decide +kernel
theorem dL_law_416 : decode cL_law 416 = .ok (.ifCond .eq 5, 3) := by decide +kernel
theorem dL_law_419 : decode cL_law 419 = .ok (.iconst 0, 1) := by decide +kernel
theorem dL_law_420 : decode cL_law 420 = .ok (.ireturn, 1) := by decide +kernel
theorem dL_law_421 : decode cL_law 421 = .ok (.goto 1105, 3) := by decide +kernel
theorem dL_law_424 : decode cL_law 424 = .ok (.aload_n 1, 1) := by decide +kernel
theorem dL_law_425 : decode cL_law 425 = .ok (.aload_n 0, 1) := by decide +kernel
theorem dL_law_426 : decode cL_law 426 = .ok (.iload 4, 2) := by decide +kernel
theorem dL_law_428 : decode cL_law 428 = .ok (.iconst 1, 1) := by decide +kernel
theorem dL_law_429 : decode cL_law 429 = .ok (.iadd, 1) := by decide +kernel
theorem dL_law_430 : decode cL_law 430 = .ok (.iaload, 1) := by decide +kernel
theorem dL_law_431 : decode cL_law 431 = .ok (.aload_n 3, 1) := by decide +kernel
theorem dL_law_432 : decode cL_law 432 = .ok (.invokestatic 104, 3) := by decide +kernel
theorem dL_law_435 : decode cL_law 435 = .ok (.istore 5, 2) := by decide +kernel
theorem dL_law_437 : decode cL_law 437 = .ok (.aload_n 2, 1) := by decide +kernel
theorem dL_law_438 : decode cL_law 438 = .ok (.aload_n 0, 1) := by decide +kernel
theorem dL_law_439 : decode cL_law 439 = .ok (.iload 4, 2) := by decide +kernel
theorem dL_law_441 : decode cL_law 441 = .ok (.iconst 1, 1) := by decide +kernel
theorem dL_law_442 : decode cL_law 442 = .ok (.iadd, 1) := by decide +kernel
theorem dL_law_443 : decode cL_law 443 = .ok (.iaload, 1) := by decide +kernel
theorem dL_law_444 : decode cL_law 444 = .ok (.invokevirtual 106, 3) := by decide +kernel
theorem dL_law_447 : decode cL_law 447 = .ok (.istore 6, 2) := by decide +kernel
theorem dL_law_449 : decode cL_law 449 = .ok (.aload_n 2, 1) := by decide +kernel
theorem dL_law_450 : decode cL_law 450 = .ok (.invokevirtual 90, 3) := by decide +kernel
theorem dL_law_453 : decode cL_law 453 = .ok (.iload 5, 2) := by decide +kernel
theorem dL_law_455 : decode cL_law 455 = .ok (.if_icmp .eq 5, 3) := by decide +kernel
theorem dL_law_458 : decode cL_law 458 = .ok (.iconst 0, 1) := by decide +kernel
theorem dL_law_459 : decode cL_law 459 = .ok (.ireturn, 1) := by decide +kernel
theorem dL_law_460 : decode cL_law 460 = .ok (.iload 5, 2) := by decide +kernel
theorem dL_law_462 : decode cL_law 462 = .ok (.ifCond .ne 15, 3) := by decide +kernel
theorem dL_law_465 : decode cL_law 465 = .ok (.aload_n 3, 1) := by decide +kernel
theorem dL_law_466 : decode cL_law 466 = .ok (.iconst 0, 1) := by decide +kernel
theorem dL_law_467 : decode cL_law 467 = .ok (.laload, 1) := by decide +kernel
theorem dL_law_468 : decode cL_law 468 = .ok (.iload 6, 2) := by decide +kernel
theorem dL_law_470 : decode cL_law 470 = .ok (.i2l, 1) := by decide +kernel
theorem dL_law_471 : decode cL_law 471 = .ok (.lcmp, 1) := by decide +kernel
theorem dL_law_472 : decode cL_law 472 = .ok (.ifCond .eq 5, 3) := by decide +kernel
theorem dL_law_475 : decode cL_law 475 = .ok (.iconst 0, 1) := by decide +kernel
theorem dL_law_476 : decode cL_law 476 = .ok (.ireturn, 1) := by decide +kernel
theorem dL_law_477 : decode cL_law 477 = .ok (.goto 1049, 3) := by decide +kernel
theorem dL_law_480 : decode cL_law 480 = .ok (.aload_n 1, 1) := by decide +kernel
theorem dL_law_481 : decode cL_law 481 = .ok (.invokevirtual 107, 3) := by decide +kernel
theorem dL_law_484 : decode cL_law 484 = .ok (.aload_n 2, 1) := by decide +kernel
theorem dL_law_485 : decode cL_law 485 = .ok (.invokevirtual 110, 3) := by decide +kernel
theorem dL_law_488 : decode cL_law 488 = .ok (.if_icmp .eq 1038, 3) := by decide +kernel
theorem dL_law_491 : decode cL_law 491 = .ok (.iconst 0, 1) := by decide +kernel
theorem dL_law_492 : decode cL_law 492 = .ok (.ireturn, 1) := by decide +kernel
theorem dL_law_493 : decode cL_law 493 = .ok (.aload_n 1, 1) := by decide +kernel
theorem dL_law_494 : decode cL_law 494 = .ok (.aload_n 0, 1) := by decide +kernel
theorem dL_law_495 : decode cL_law 495 = .ok (.iload 4, 2) := by decide +kernel
theorem dL_law_497 : decode cL_law 497 = .ok (.iconst 1, 1) := by decide +kernel
theorem dL_law_498 : decode cL_law 498 = .ok (.iadd, 1) := by decide +kernel
theorem dL_law_499 : decode cL_law 499 = .ok (.iaload, 1) := by decide +kernel
theorem dL_law_500 : decode cL_law 500 = .ok (.aload_n 0, 1) := by decide +kernel
theorem dL_law_501 : decode cL_law 501 = .ok (.iload 4, 2) := by decide +kernel
theorem dL_law_503 : decode cL_law 503 = .ok (.iconst 2, 1) := by decide +kernel
theorem dL_law_504 : decode cL_law 504 = .ok (.iadd, 1) := by decide +kernel
theorem dL_law_505 : decode cL_law 505 = .ok (.iaload, 1) := by decide +kernel
theorem dL_law_506 : decode cL_law 506 = .ok (.aload_n 0, 1) := by decide +kernel
theorem dL_law_507 : decode cL_law 507 = .ok (.iload 4, 2) := by decide +kernel
theorem dL_law_509 : decode cL_law 509 = .ok (.iconst 3, 1) := by decide +kernel
theorem dL_law_510 : decode cL_law 510 = .ok (.iadd, 1) := by decide +kernel
theorem dL_law_511 : decode cL_law 511 = .ok (.iaload, 1) := by decide +kernel
theorem dL_law_512 : decode cL_law 512 = .ok (.ifCond .eq 7, 3) := by decide +kernel
theorem dL_law_515 : decode cL_law 515 = .ok (.iconst 1, 1) := by decide +kernel
theorem dL_law_516 : decode cL_law 516 = .ok (.goto 4, 3) := by decide +kernel
theorem dL_law_519 : decode cL_law 519 = .ok (.iconst 0, 1) := by decide +kernel
theorem dL_law_520 : decode cL_law 520 = .ok (.aload_n 3, 1) := by decide +kernel
theorem dL_law_521 : decode cL_law 521 = .ok (.invokestatic 111, 3) := by decide +kernel
theorem dL_law_524 : decode cL_law 524 = .ok (.istore 5, 2) := by decide +kernel
theorem dL_law_526 : decode cL_law 526 = .ok (.aload_n 2, 1) := by decide +kernel
theorem dL_law_527 : decode cL_law 527 = .ok (.aload_n 0, 1) := by decide +kernel
theorem dL_law_528 : decode cL_law 528 = .ok (.iload 4, 2) := by decide +kernel
theorem dL_law_530 : decode cL_law 530 = .ok (.iconst 1, 1) := by decide +kernel
theorem dL_law_531 : decode cL_law 531 = .ok (.iadd, 1) := by decide +kernel
theorem dL_law_532 : decode cL_law 532 = .ok (.iaload, 1) := by decide +kernel
theorem dL_law_533 : decode cL_law 533 = .ok (.aload_n 0, 1) := by decide +kernel
theorem dL_law_534 : decode cL_law 534 = .ok (.iload 4, 2) := by decide +kernel
theorem dL_law_536 : decode cL_law 536 = .ok (.iconst 2, 1) := by decide +kernel
theorem dL_law_537 : decode cL_law 537 = .ok (.iadd, 1) := by decide +kernel
theorem dL_law_538 : decode cL_law 538 = .ok (.iaload, 1) := by decide +kernel
theorem dL_law_539 : decode cL_law 539 = .ok (.aload_n 0, 1) := by decide +kernel
theorem dL_law_540 : decode cL_law 540 = .ok (.iload 4, 2) := by decide +kernel
theorem dL_law_542 : decode cL_law 542 = .ok (.iconst 3, 1) := by decide +kernel
theorem dL_law_543 : decode cL_law 543 = .ok (.iadd, 1) := by decide +kernel
theorem dL_law_544 : decode cL_law 544 = .ok (.iaload, 1) := by decide +kernel
theorem dL_law_545 : decode cL_law 545 = .ok (.ifCond .eq 7, 3) := by decide +kernel
theorem dL_law_548 : decode cL_law 548 = .ok (.iconst 1, 1) := by decide +kernel
theorem dL_law_549 : decode cL_law 549 = .ok (.goto 4, 3) := by decide +kernel
theorem dL_law_552 : decode cL_law 552 = .ok (.iconst 0, 1) := by decide +kernel
theorem dL_law_553 : decode cL_law 553 = .ok (.invokevirtual 114, 3) := by decide +kernel
theorem dL_law_556 : decode cL_law 556 = .ok (.istore 6, 2) := by decide +kernel
theorem dL_law_558 : decode cL_law 558 = .ok (.aload_n 2, 1) := by decide +kernel
theorem dL_law_559 : decode cL_law 559 = .ok (.invokevirtual 90, 3) := by decide +kernel
theorem dL_law_562 : decode cL_law 562 = .ok (.iload 5, 2) := by decide +kernel
theorem dL_law_564 : decode cL_law 564 = .ok (.if_icmp .eq 5, 3) := by decide +kernel
theorem dL_law_567 : decode cL_law 567 = .ok (.iconst 0, 1) := by decide +kernel
theorem dL_law_568 : decode cL_law 568 = .ok (.ireturn, 1) := by decide +kernel
theorem dL_law_569 : decode cL_law 569 = .ok (.iload 5, 2) := by decide +kernel
theorem dL_law_571 : decode cL_law 571 = .ok (.ifCond .ne 15, 3) := by decide +kernel
theorem dL_law_574 : decode cL_law 574 = .ok (.aload_n 3, 1) := by decide +kernel
theorem dL_law_575 : decode cL_law 575 = .ok (.iconst 0, 1) := by decide +kernel
theorem dL_law_576 : decode cL_law 576 = .ok (.laload, 1) := by decide +kernel
theorem dL_law_577 : decode cL_law 577 = .ok (.iload 6, 2) := by decide +kernel
theorem dL_law_579 : decode cL_law 579 = .ok (.i2l, 1) := by decide +kernel
theorem dL_law_580 : decode cL_law 580 = .ok (.lcmp, 1) := by decide +kernel
theorem dL_law_581 : decode cL_law 581 = .ok (.ifCond .eq 5, 3) := by decide +kernel
theorem dL_law_584 : decode cL_law 584 = .ok (.iconst 0, 1) := by decide +kernel
theorem dL_law_585 : decode cL_law 585 = .ok (.ireturn, 1) := by decide +kernel
theorem dL_law_586 : decode cL_law 586 = .ok (.goto 940, 3) := by decide +kernel
theorem dL_law_589 : decode cL_law 589 = .ok (.aload_n 1, 1) := by decide +kernel
theorem dL_law_590 : decode cL_law 590 = .ok (.aload_n 0, 1) := by decide +kernel
theorem dL_law_591 : decode cL_law 591 = .ok (.iload 4, 2) := by decide +kernel
theorem dL_law_593 : decode cL_law 593 = .ok (.iconst 1, 1) := by decide +kernel
theorem dL_law_594 : decode cL_law 594 = .ok (.iadd, 1) := by decide +kernel
theorem dL_law_595 : decode cL_law 595 = .ok (.iaload, 1) := by decide +kernel
theorem dL_law_596 : decode cL_law 596 = .ok (.aload_n 3, 1) := by decide +kernel
theorem dL_law_597 : decode cL_law 597 = .ok (.invokestatic 115, 3) := by decide +kernel
theorem dL_law_600 : decode cL_law 600 = .ok (.istore 5, 2) := by decide +kernel
theorem dL_law_602 : decode cL_law 602 = .ok (.aload_n 2, 1) := by decide +kernel
theorem dL_law_603 : decode cL_law 603 = .ok (.aload_n 0, 1) := by decide +kernel
theorem dL_law_604 : decode cL_law 604 = .ok (.iload 4, 2) := by decide +kernel
theorem dL_law_606 : decode cL_law 606 = .ok (.iconst 1, 1) := by decide +kernel
theorem dL_law_607 : decode cL_law 607 = .ok (.iadd, 1) := by decide +kernel
theorem dL_law_608 : decode cL_law 608 = .ok (.iaload, 1) := by decide +kernel
theorem dL_law_609 : decode cL_law 609 = .ok (.invokevirtual 117, 3) := by decide +kernel
theorem dL_law_612 : decode cL_law 612 = .ok (.istore 6, 2) := by decide +kernel
theorem dL_law_614 : decode cL_law 614 = .ok (.aload_n 2, 1) := by decide +kernel
theorem dL_law_615 : decode cL_law 615 = .ok (.invokevirtual 90, 3) := by decide +kernel
theorem dL_law_618 : decode cL_law 618 = .ok (.iload 5, 2) := by decide +kernel
theorem dL_law_620 : decode cL_law 620 = .ok (.if_icmp .eq 5, 3) := by decide +kernel
theorem dL_law_623 : decode cL_law 623 = .ok (.iconst 0, 1) := by decide +kernel
theorem dL_law_624 : decode cL_law 624 = .ok (.ireturn, 1) := by decide +kernel
theorem dL_law_625 : decode cL_law 625 = .ok (.iload 5, 2) := by decide +kernel
theorem dL_law_627 : decode cL_law 627 = .ok (.ifCond .ne 15, 3) := by decide +kernel
theorem dL_law_630 : decode cL_law 630 = .ok (.aload_n 3, 1) := by decide +kernel
theorem dL_law_631 : decode cL_law 631 = .ok (.iconst 0, 1) := by decide +kernel
theorem dL_law_632 : decode cL_law 632 = .ok (.laload, 1) := by decide +kernel
theorem dL_law_633 : decode cL_law 633 = .ok (.iload 6, 2) := by decide +kernel
theorem dL_law_635 : decode cL_law 635 = .ok (.i2l, 1) := by decide +kernel
theorem dL_law_636 : decode cL_law 636 = .ok (.lcmp, 1) := by decide +kernel
theorem dL_law_637 : decode cL_law 637 = .ok (.ifCond .eq 5, 3) := by decide +kernel
theorem dL_law_640 : decode cL_law 640 = .ok (.iconst 0, 1) := by decide +kernel
theorem dL_law_641 : decode cL_law 641 = .ok (.ireturn, 1) := by decide +kernel
theorem dL_law_642 : decode cL_law 642 = .ok (.goto 884, 3) := by decide +kernel
theorem dL_law_645 : decode cL_law 645 = .ok (.aload_n 1, 1) := by decide +kernel
theorem dL_law_646 : decode cL_law 646 = .ok (.aload_n 0, 1) := by decide +kernel
theorem dL_law_647 : decode cL_law 647 = .ok (.iload 4, 2) := by decide +kernel
theorem dL_law_649 : decode cL_law 649 = .ok (.iconst 1, 1) := by decide +kernel
theorem dL_law_650 : decode cL_law 650 = .ok (.iadd, 1) := by decide +kernel
theorem dL_law_651 : decode cL_law 651 = .ok (.iaload, 1) := by decide +kernel
theorem dL_law_652 : decode cL_law 652 = .ok (.aload_n 3, 1) := by decide +kernel
theorem dL_law_653 : decode cL_law 653 = .ok (.invokestatic 118, 3) := by decide +kernel
theorem dL_law_656 : decode cL_law 656 = .ok (.istore 5, 2) := by decide +kernel
theorem dL_law_658 : decode cL_law 658 = .ok (.aload_n 2, 1) := by decide +kernel
theorem dL_law_659 : decode cL_law 659 = .ok (.aload_n 0, 1) := by decide +kernel
theorem dL_law_660 : decode cL_law 660 = .ok (.iload 4, 2) := by decide +kernel
theorem dL_law_662 : decode cL_law 662 = .ok (.iconst 1, 1) := by decide +kernel
theorem dL_law_663 : decode cL_law 663 = .ok (.iadd, 1) := by decide +kernel
theorem dL_law_664 : decode cL_law 664 = .ok (.iaload, 1) := by decide +kernel
theorem dL_law_665 : decode cL_law 665 = .ok (.invokevirtual 120, 3) := by decide +kernel
theorem dL_law_668 : decode cL_law 668 = .ok (.istore 6, 2) := by decide +kernel
theorem dL_law_670 : decode cL_law 670 = .ok (.aload_n 2, 1) := by decide +kernel
theorem dL_law_671 : decode cL_law 671 = .ok (.invokevirtual 90, 3) := by decide +kernel
theorem dL_law_674 : decode cL_law 674 = .ok (.iload 5, 2) := by decide +kernel
theorem dL_law_676 : decode cL_law 676 = .ok (.if_icmp .eq 5, 3) := by decide +kernel
theorem dL_law_679 : decode cL_law 679 = .ok (.iconst 0, 1) := by decide +kernel
theorem dL_law_680 : decode cL_law 680 = .ok (.ireturn, 1) := by decide +kernel
theorem dL_law_681 : decode cL_law 681 = .ok (.iload 5, 2) := by decide +kernel
theorem dL_law_683 : decode cL_law 683 = .ok (.ifCond .ne 15, 3) := by decide +kernel
theorem dL_law_686 : decode cL_law 686 = .ok (.aload_n 3, 1) := by decide +kernel
theorem dL_law_687 : decode cL_law 687 = .ok (.iconst 0, 1) := by decide +kernel
theorem dL_law_688 : decode cL_law 688 = .ok (.laload, 1) := by decide +kernel
theorem dL_law_689 : decode cL_law 689 = .ok (.iload 6, 2) := by decide +kernel
theorem dL_law_691 : decode cL_law 691 = .ok (.i2l, 1) := by decide +kernel
theorem dL_law_692 : decode cL_law 692 = .ok (.lcmp, 1) := by decide +kernel
theorem dL_law_693 : decode cL_law 693 = .ok (.ifCond .eq 5, 3) := by decide +kernel
theorem dL_law_696 : decode cL_law 696 = .ok (.iconst 0, 1) := by decide +kernel
theorem dL_law_697 : decode cL_law 697 = .ok (.ireturn, 1) := by decide +kernel
theorem dL_law_698 : decode cL_law 698 = .ok (.goto 828, 3) := by decide +kernel
theorem dL_law_701 : decode cL_law 701 = .ok (.aload_n 1, 1) := by decide +kernel
theorem dL_law_702 : decode cL_law 702 = .ok (.invokevirtual 121, 3) := by decide +kernel
theorem dL_law_705 : decode cL_law 705 = .ok (.aload_n 2, 1) := by decide +kernel
theorem dL_law_706 : decode cL_law 706 = .ok (.invokevirtual 124, 3) := by decide +kernel
theorem dL_law_709 : decode cL_law 709 = .ok (.if_icmp .eq 817, 3) := by decide +kernel
theorem dL_law_712 : decode cL_law 712 = .ok (.iconst 0, 1) := by decide +kernel
theorem dL_law_713 : decode cL_law 713 = .ok (.ireturn, 1) := by decide +kernel
theorem dL_law_714 : decode cL_law 714 = .ok (.aload_n 1, 1) := by decide +kernel
theorem dL_law_715 : decode cL_law 715 = .ok (.invokevirtual 125, 3) := by decide +kernel
theorem dL_law_718 : decode cL_law 718 = .ok (.aload_n 2, 1) := by decide +kernel
theorem dL_law_719 : decode cL_law 719 = .ok (.invokevirtual 128, 3) := by decide +kernel
theorem dL_law_722 : decode cL_law 722 = .ok (.if_icmp .eq 804, 3) := by decide +kernel
theorem dL_law_725 : decode cL_law 725 = .ok (.iconst 0, 1) := by decide +kernel
theorem dL_law_726 : decode cL_law 726 = .ok (.ireturn, 1) := by decide +kernel
theorem dL_law_727 : decode cL_law 727 = .ok (.aload_n 1, 1) := by decide +kernel
theorem dL_law_728 : decode cL_law 728 = .ok (.aload_n 0, 1) := by decide +kernel
theorem dL_law_729 : decode cL_law 729 = .ok (.iload 4, 2) := by decide +kernel
theorem dL_law_731 : decode cL_law 731 = .ok (.iconst 1, 1) := by decide +kernel
theorem dL_law_732 : decode cL_law 732 = .ok (.iadd, 1) := by decide +kernel
theorem dL_law_733 : decode cL_law 733 = .ok (.iaload, 1) := by decide +kernel
theorem dL_law_734 : decode cL_law 734 = .ok (.aload_n 3, 1) := by decide +kernel
theorem dL_law_735 : decode cL_law 735 = .ok (.invokestatic 129, 3) := by decide +kernel
theorem dL_law_738 : decode cL_law 738 = .ok (.istore 5, 2) := by decide +kernel
theorem dL_law_740 : decode cL_law 740 = .ok (.aload_n 2, 1) := by decide +kernel
theorem dL_law_741 : decode cL_law 741 = .ok (.aload_n 0, 1) := by decide +kernel
theorem dL_law_742 : decode cL_law 742 = .ok (.iload 4, 2) := by decide +kernel
theorem dL_law_744 : decode cL_law 744 = .ok (.iconst 1, 1) := by decide +kernel
theorem dL_law_745 : decode cL_law 745 = .ok (.iadd, 1) := by decide +kernel
theorem dL_law_746 : decode cL_law 746 = .ok (.iaload, 1) := by decide +kernel
theorem dL_law_747 : decode cL_law 747 = .ok (.invokevirtual 131, 3) := by decide +kernel
theorem dL_law_750 : decode cL_law 750 = .ok (.istore 6, 2) := by decide +kernel
theorem dL_law_752 : decode cL_law 752 = .ok (.aload_n 2, 1) := by decide +kernel
theorem dL_law_753 : decode cL_law 753 = .ok (.invokevirtual 90, 3) := by decide +kernel
theorem dL_law_756 : decode cL_law 756 = .ok (.iload 5, 2) := by decide +kernel
theorem dL_law_758 : decode cL_law 758 = .ok (.if_icmp .eq 5, 3) := by decide +kernel
theorem dL_law_761 : decode cL_law 761 = .ok (.iconst 0, 1) := by decide +kernel
theorem dL_law_762 : decode cL_law 762 = .ok (.ireturn, 1) := by decide +kernel
theorem dL_law_763 : decode cL_law 763 = .ok (.iload 5, 2) := by decide +kernel
theorem dL_law_765 : decode cL_law 765 = .ok (.ifCond .ne 15, 3) := by decide +kernel
theorem dL_law_768 : decode cL_law 768 = .ok (.aload_n 3, 1) := by decide +kernel
theorem dL_law_769 : decode cL_law 769 = .ok (.iconst 0, 1) := by decide +kernel
theorem dL_law_770 : decode cL_law 770 = .ok (.laload, 1) := by decide +kernel
theorem dL_law_771 : decode cL_law 771 = .ok (.iload 6, 2) := by decide +kernel
theorem dL_law_773 : decode cL_law 773 = .ok (.i2l, 1) := by decide +kernel
theorem dL_law_774 : decode cL_law 774 = .ok (.lcmp, 1) := by decide +kernel
theorem dL_law_775 : decode cL_law 775 = .ok (.ifCond .eq 5, 3) := by decide +kernel
theorem dL_law_778 : decode cL_law 778 = .ok (.iconst 0, 1) := by decide +kernel
theorem dL_law_779 : decode cL_law 779 = .ok (.ireturn, 1) := by decide +kernel
theorem dL_law_780 : decode cL_law 780 = .ok (.goto 746, 3) := by decide +kernel
theorem dL_law_783 : decode cL_law 783 = .ok (.aload_n 1, 1) := by decide +kernel
theorem dL_law_784 : decode cL_law 784 = .ok (.aload_n 0, 1) := by decide +kernel
theorem dL_law_785 : decode cL_law 785 = .ok (.iload 4, 2) := by decide +kernel
theorem dL_law_787 : decode cL_law 787 = .ok (.iconst 1, 1) := by decide +kernel
theorem dL_law_788 : decode cL_law 788 = .ok (.iadd, 1) := by decide +kernel
theorem dL_law_789 : decode cL_law 789 = .ok (.iaload, 1) := by decide +kernel
theorem dL_law_790 : decode cL_law 790 = .ok (.aload_n 3, 1) := by decide +kernel
theorem dL_law_791 : decode cL_law 791 = .ok (.invokestatic 132, 3) := by decide +kernel
theorem dL_law_794 : decode cL_law 794 = .ok (.istore 5, 2) := by decide +kernel
theorem dL_law_796 : decode cL_law 796 = .ok (.aload_n 2, 1) := by decide +kernel
theorem dL_law_797 : decode cL_law 797 = .ok (.aload_n 0, 1) := by decide +kernel
theorem dL_law_798 : decode cL_law 798 = .ok (.iload 4, 2) := by decide +kernel
theorem dL_law_800 : decode cL_law 800 = .ok (.iconst 1, 1) := by decide +kernel
theorem dL_law_801 : decode cL_law 801 = .ok (.iadd, 1) := by decide +kernel
theorem dL_law_802 : decode cL_law 802 = .ok (.iaload, 1) := by decide +kernel
theorem dL_law_803 : decode cL_law 803 = .ok (.invokevirtual 134, 3) := by decide +kernel
theorem dL_law_806 : decode cL_law 806 = .ok (.istore 6, 2) := by decide +kernel
theorem dL_law_808 : decode cL_law 808 = .ok (.aload_n 2, 1) := by decide +kernel
theorem dL_law_809 : decode cL_law 809 = .ok (.invokevirtual 90, 3) := by decide +kernel
theorem dL_law_812 : decode cL_law 812 = .ok (.iload 5, 2) := by decide +kernel
theorem dL_law_814 : decode cL_law 814 = .ok (.if_icmp .eq 5, 3) := by decide +kernel
theorem dL_law_817 : decode cL_law 817 = .ok (.iconst 0, 1) := by decide +kernel
theorem dL_law_818 : decode cL_law 818 = .ok (.ireturn, 1) := by decide +kernel
theorem dL_law_819 : decode cL_law 819 = .ok (.iload 5, 2) := by decide +kernel
theorem dL_law_821 : decode cL_law 821 = .ok (.ifCond .ne 15, 3) := by decide +kernel
theorem dL_law_824 : decode cL_law 824 = .ok (.aload_n 3, 1) := by decide +kernel
theorem dL_law_825 : decode cL_law 825 = .ok (.iconst 0, 1) := by decide +kernel
theorem dL_law_826 : decode cL_law 826 = .ok (.laload, 1) := by decide +kernel
theorem dL_law_827 : decode cL_law 827 = .ok (.iload 6, 2) := by decide +kernel
theorem dL_law_829 : decode cL_law 829 = .ok (.i2l, 1) := by decide +kernel
theorem dL_law_830 : decode cL_law 830 = .ok (.lcmp, 1) := by decide +kernel
theorem dL_law_831 : decode cL_law 831 = .ok (.ifCond .eq 5, 3) := by decide +kernel
theorem dL_law_834 : decode cL_law 834 = .ok (.iconst 0, 1) := by decide +kernel
theorem dL_law_835 : decode cL_law 835 = .ok (.ireturn, 1) := by decide +kernel
theorem dL_law_836 : decode cL_law 836 = .ok (.goto 690, 3) := by decide +kernel
theorem dL_law_839 : decode cL_law 839 = .ok (.aload_n 1, 1) := by decide +kernel
theorem dL_law_840 : decode cL_law 840 = .ok (.aload_n 0, 1) := by decide +kernel
theorem dL_law_841 : decode cL_law 841 = .ok (.iload 4, 2) := by decide +kernel
theorem dL_law_843 : decode cL_law 843 = .ok (.iconst 1, 1) := by decide +kernel
theorem dL_law_844 : decode cL_law 844 = .ok (.iadd, 1) := by decide +kernel
theorem dL_law_845 : decode cL_law 845 = .ok (.iaload, 1) := by decide +kernel
theorem dL_law_846 : decode cL_law 846 = .ok (.aload_n 3, 1) := by decide +kernel
theorem dL_law_847 : decode cL_law 847 = .ok (.invokestatic 135, 3) := by decide +kernel
theorem dL_law_850 : decode cL_law 850 = .ok (.istore 5, 2) := by decide +kernel
theorem dL_law_852 : decode cL_law 852 = .ok (.aload_n 2, 1) := by decide +kernel
theorem dL_law_853 : decode cL_law 853 = .ok (.aload_n 0, 1) := by decide +kernel
theorem dL_law_854 : decode cL_law 854 = .ok (.iload 4, 2) := by decide +kernel
theorem dL_law_856 : decode cL_law 856 = .ok (.iconst 1, 1) := by decide +kernel
theorem dL_law_857 : decode cL_law 857 = .ok (.iadd, 1) := by decide +kernel
theorem dL_law_858 : decode cL_law 858 = .ok (.iaload, 1) := by decide +kernel
theorem dL_law_859 : decode cL_law 859 = .ok (.invokevirtual 137, 3) := by decide +kernel
theorem dL_law_862 : decode cL_law 862 = .ok (.istore 6, 2) := by decide +kernel
theorem dL_law_864 : decode cL_law 864 = .ok (.aload_n 2, 1) := by decide +kernel
theorem dL_law_865 : decode cL_law 865 = .ok (.invokevirtual 90, 3) := by decide +kernel
theorem dL_law_868 : decode cL_law 868 = .ok (.iload 5, 2) := by decide +kernel
theorem dL_law_870 : decode cL_law 870 = .ok (.if_icmp .eq 5, 3) := by decide +kernel
theorem dL_law_873 : decode cL_law 873 = .ok (.iconst 0, 1) := by decide +kernel
theorem dL_law_874 : decode cL_law 874 = .ok (.ireturn, 1) := by decide +kernel
theorem dL_law_875 : decode cL_law 875 = .ok (.iload 5, 2) := by decide +kernel
theorem dL_law_877 : decode cL_law 877 = .ok (.ifCond .ne 15, 3) := by decide +kernel
theorem dL_law_880 : decode cL_law 880 = .ok (.aload_n 3, 1) := by decide +kernel
theorem dL_law_881 : decode cL_law 881 = .ok (.iconst 0, 1) := by decide +kernel
theorem dL_law_882 : decode cL_law 882 = .ok (.laload, 1) := by decide +kernel
theorem dL_law_883 : decode cL_law 883 = .ok (.iload 6, 2) := by decide +kernel
theorem dL_law_885 : decode cL_law 885 = .ok (.i2l, 1) := by decide +kernel
theorem dL_law_886 : decode cL_law 886 = .ok (.lcmp, 1) := by decide +kernel
theorem dL_law_887 : decode cL_law 887 = .ok (.ifCond .eq 5, 3) := by decide +kernel
theorem dL_law_890 : decode cL_law 890 = .ok (.iconst 0, 1) := by decide +kernel
theorem dL_law_891 : decode cL_law 891 = .ok (.ireturn, 1) := by decide +kernel
theorem dL_law_892 : decode cL_law 892 = .ok (.goto 634, 3) := by decide +kernel
theorem dL_law_895 : decode cL_law 895 = .ok (.aload_n 1, 1) := by decide +kernel
theorem dL_law_896 : decode cL_law 896 = .ok (.aload_n 3, 1) := by decide +kernel
theorem dL_law_897 : decode cL_law 897 = .ok (.invokestatic 138, 3) := by decide +kernel
theorem dL_law_900 : decode cL_law 900 = .ok (.istore 5, 2) := by decide +kernel
theorem dL_law_902 : decode cL_law 902 = .ok (.aload_n 2, 1) := by decide +kernel
theorem dL_law_903 : decode cL_law 903 = .ok (.invokevirtual 141, 3) := by decide +kernel
theorem dL_law_906 : decode cL_law 906 = .ok (.istore 6, 2) := by decide +kernel
theorem dL_law_908 : decode cL_law 908 = .ok (.aload_n 2, 1) := by decide +kernel
theorem dL_law_909 : decode cL_law 909 = .ok (.invokevirtual 90, 3) := by decide +kernel
theorem dL_law_912 : decode cL_law 912 = .ok (.iload 5, 2) := by decide +kernel
theorem dL_law_914 : decode cL_law 914 = .ok (.if_icmp .eq 5, 3) := by decide +kernel
theorem dL_law_917 : decode cL_law 917 = .ok (.iconst 0, 1) := by decide +kernel
theorem dL_law_918 : decode cL_law 918 = .ok (.ireturn, 1) := by decide +kernel
theorem dL_law_919 : decode cL_law 919 = .ok (.iload 5, 2) := by decide +kernel
theorem dL_law_921 : decode cL_law 921 = .ok (.ifCond .ne 15, 3) := by decide +kernel
theorem dL_law_924 : decode cL_law 924 = .ok (.aload_n 3, 1) := by decide +kernel
theorem dL_law_925 : decode cL_law 925 = .ok (.iconst 0, 1) := by decide +kernel
theorem dL_law_926 : decode cL_law 926 = .ok (.laload, 1) := by decide +kernel
theorem dL_law_927 : decode cL_law 927 = .ok (.iload 6, 2) := by decide +kernel
theorem dL_law_929 : decode cL_law 929 = .ok (.i2l, 1) := by decide +kernel
theorem dL_law_930 : decode cL_law 930 = .ok (.lcmp, 1) := by decide +kernel
theorem dL_law_931 : decode cL_law 931 = .ok (.ifCond .eq 5, 3) := by decide +kernel
theorem dL_law_934 : decode cL_law 934 = .ok (.iconst 0, 1) := by decide +kernel
theorem dL_law_935 : decode cL_law 935 = .ok (.ireturn, 1) := by decide +kernel
theorem dL_law_936 : decode cL_law 936 = .ok (.goto 590, 3) := by decide +kernel
theorem dL_law_939 : decode cL_law 939 = .ok (.aload_n 1, 1) := by decide +kernel
theorem dL_law_940 : decode cL_law 940 = .ok (.aload_n 0, 1) := by decide +kernel
theorem dL_law_941 : decode cL_law 941 = .ok (.iload 4, 2) := by decide +kernel
theorem dL_law_943 : decode cL_law 943 = .ok (.iconst 1, 1) := by decide +kernel
theorem dL_law_944 : decode cL_law 944 = .ok (.iadd, 1) := by decide +kernel
theorem dL_law_945 : decode cL_law 945 = .ok (.iaload, 1) := by decide +kernel
theorem dL_law_946 : decode cL_law 946 = .ok (.aload_n 0, 1) := by decide +kernel
theorem dL_law_947 : decode cL_law 947 = .ok (.iload 4, 2) := by decide +kernel
theorem dL_law_949 : decode cL_law 949 = .ok (.iconst 2, 1) := by decide +kernel
theorem dL_law_950 : decode cL_law 950 = .ok (.iadd, 1) := by decide +kernel
theorem dL_law_951 : decode cL_law 951 = .ok (.iaload, 1) := by decide +kernel
theorem dL_law_952 : decode cL_law 952 = .ok (.aload_n 3, 1) := by decide +kernel
theorem dL_law_953 : decode cL_law 953 = .ok (.invokestatic 142, 3) := by decide +kernel
theorem dL_law_956 : decode cL_law 956 = .ok (.istore 5, 2) := by decide +kernel
theorem dL_law_958 : decode cL_law 958 = .ok (.aload_n 2, 1) := by decide +kernel
theorem dL_law_959 : decode cL_law 959 = .ok (.aload_n 0, 1) := by decide +kernel
theorem dL_law_960 : decode cL_law 960 = .ok (.iload 4, 2) := by decide +kernel
theorem dL_law_962 : decode cL_law 962 = .ok (.iconst 1, 1) := by decide +kernel
theorem dL_law_963 : decode cL_law 963 = .ok (.iadd, 1) := by decide +kernel
theorem dL_law_964 : decode cL_law 964 = .ok (.iaload, 1) := by decide +kernel
theorem dL_law_965 : decode cL_law 965 = .ok (.aload_n 0, 1) := by decide +kernel
theorem dL_law_966 : decode cL_law 966 = .ok (.iload 4, 2) := by decide +kernel
theorem dL_law_968 : decode cL_law 968 = .ok (.iconst 2, 1) := by decide +kernel
theorem dL_law_969 : decode cL_law 969 = .ok (.iadd, 1) := by decide +kernel
theorem dL_law_970 : decode cL_law 970 = .ok (.iaload, 1) := by decide +kernel
theorem dL_law_971 : decode cL_law 971 = .ok (.invokevirtual 144, 3) := by decide +kernel
theorem dL_law_974 : decode cL_law 974 = .ok (.istore 6, 2) := by decide +kernel
theorem dL_law_976 : decode cL_law 976 = .ok (.aload_n 2, 1) := by decide +kernel
theorem dL_law_977 : decode cL_law 977 = .ok (.invokevirtual 90, 3) := by decide +kernel
theorem dL_law_980 : decode cL_law 980 = .ok (.iload 5, 2) := by decide +kernel
theorem dL_law_982 : decode cL_law 982 = .ok (.if_icmp .eq 5, 3) := by decide +kernel
theorem dL_law_985 : decode cL_law 985 = .ok (.iconst 0, 1) := by decide +kernel
theorem dL_law_986 : decode cL_law 986 = .ok (.ireturn, 1) := by decide +kernel
theorem dL_law_987 : decode cL_law 987 = .ok (.iload 5, 2) := by decide +kernel
theorem dL_law_989 : decode cL_law 989 = .ok (.ifCond .ne 15, 3) := by decide +kernel
theorem dL_law_992 : decode cL_law 992 = .ok (.aload_n 3, 1) := by decide +kernel
theorem dL_law_993 : decode cL_law 993 = .ok (.iconst 0, 1) := by decide +kernel
theorem dL_law_994 : decode cL_law 994 = .ok (.laload, 1) := by decide +kernel
theorem dL_law_995 : decode cL_law 995 = .ok (.iload 6, 2) := by decide +kernel
theorem dL_law_997 : decode cL_law 997 = .ok (.i2l, 1) := by decide +kernel
theorem dL_law_998 : decode cL_law 998 = .ok (.lcmp, 1) := by decide +kernel
theorem dL_law_999 : decode cL_law 999 = .ok (.ifCond .eq 5, 3) := by decide +kernel
theorem dL_law_1002 : decode cL_law 1002 = .ok (.iconst 0, 1) := by decide +kernel
theorem dL_law_1003 : decode cL_law 1003 = .ok (.ireturn, 1) := by decide +kernel
theorem dL_law_1004 : decode cL_law 1004 = .ok (.goto 522, 3) := by decide +kernel
theorem dL_law_1007 : decode cL_law 1007 = .ok (.aload_n 1, 1) := by decide +kernel
theorem dL_law_1008 : decode cL_law 1008 = .ok (.aload_n 0, 1) := by decide +kernel
theorem dL_law_1009 : decode cL_law 1009 = .ok (.iload 4, 2) := by decide +kernel
theorem dL_law_1011 : decode cL_law 1011 = .ok (.iconst 1, 1) := by decide +kernel
theorem dL_law_1012 : decode cL_law 1012 = .ok (.iadd, 1) := by decide +kernel
theorem dL_law_1013 : decode cL_law 1013 = .ok (.iaload, 1) := by decide +kernel
theorem dL_law_1014 : decode cL_law 1014 = .ok (.aload_n 0, 1) := by decide +kernel
theorem dL_law_1015 : decode cL_law 1015 = .ok (.iload 4, 2) := by decide +kernel
theorem dL_law_1017 : decode cL_law 1017 = .ok (.iconst 2, 1) := by decide +kernel
theorem dL_law_1018 : decode cL_law 1018 = .ok (.iadd, 1) := by decide +kernel
theorem dL_law_1019 : decode cL_law 1019 = .ok (.iaload, 1) := by decide +kernel
theorem dL_law_1020 : decode cL_law 1020 = .ok (.aload_n 3, 1) := by decide +kernel
theorem dL_law_1021 : decode cL_law 1021 = .ok (.invokestatic 145, 3) := by decide +kernel
theorem dL_law_1024 : decode cL_law 1024 = .ok (.istore 5, 2) := by decide +kernel
theorem dL_law_1026 : decode cL_law 1026 = .ok (.aload_n 2, 1) := by decide +kernel
theorem dL_law_1027 : decode cL_law 1027 = .ok (.aload_n 0, 1) := by decide +kernel
theorem dL_law_1028 : decode cL_law 1028 = .ok (.iload 4, 2) := by decide +kernel
theorem dL_law_1030 : decode cL_law 1030 = .ok (.iconst 1, 1) := by decide +kernel
theorem dL_law_1031 : decode cL_law 1031 = .ok (.iadd, 1) := by decide +kernel
theorem dL_law_1032 : decode cL_law 1032 = .ok (.iaload, 1) := by decide +kernel
theorem dL_law_1033 : decode cL_law 1033 = .ok (.aload_n 0, 1) := by decide +kernel
theorem dL_law_1034 : decode cL_law 1034 = .ok (.iload 4, 2) := by decide +kernel
theorem dL_law_1036 : decode cL_law 1036 = .ok (.iconst 2, 1) := by decide +kernel
theorem dL_law_1037 : decode cL_law 1037 = .ok (.iadd, 1) := by decide +kernel
theorem dL_law_1038 : decode cL_law 1038 = .ok (.iaload, 1) := by decide +kernel
theorem dL_law_1039 : decode cL_law 1039 = .ok (.invokevirtual 147, 3) := by decide +kernel
theorem dL_law_1042 : decode cL_law 1042 = .ok (.istore 6, 2) := by decide +kernel
theorem dL_law_1044 : decode cL_law 1044 = .ok (.aload_n 2, 1) := by decide +kernel
theorem dL_law_1045 : decode cL_law 1045 = .ok (.invokevirtual 90, 3) := by decide +kernel
theorem dL_law_1048 : decode cL_law 1048 = .ok (.iload 5, 2) := by decide +kernel
theorem dL_law_1050 : decode cL_law 1050 = .ok (.if_icmp .eq 5, 3) := by decide +kernel
theorem dL_law_1053 : decode cL_law 1053 = .ok (.iconst 0, 1) := by decide +kernel
theorem dL_law_1054 : decode cL_law 1054 = .ok (.ireturn, 1) := by decide +kernel
theorem dL_law_1055 : decode cL_law 1055 = .ok (.iload 5, 2) := by decide +kernel
theorem dL_law_1057 : decode cL_law 1057 = .ok (.ifCond .ne 15, 3) := by decide +kernel
theorem dL_law_1060 : decode cL_law 1060 = .ok (.aload_n 3, 1) := by decide +kernel
theorem dL_law_1061 : decode cL_law 1061 = .ok (.iconst 0, 1) := by decide +kernel
theorem dL_law_1062 : decode cL_law 1062 = .ok (.laload, 1) := by decide +kernel
theorem dL_law_1063 : decode cL_law 1063 = .ok (.iload 6, 2) := by decide +kernel
theorem dL_law_1065 : decode cL_law 1065 = .ok (.i2l, 1) := by decide +kernel
theorem dL_law_1066 : decode cL_law 1066 = .ok (.lcmp, 1) := by decide +kernel
theorem dL_law_1067 : decode cL_law 1067 = .ok (.ifCond .eq 5, 3) := by decide +kernel
theorem dL_law_1070 : decode cL_law 1070 = .ok (.iconst 0, 1) := by decide +kernel
theorem dL_law_1071 : decode cL_law 1071 = .ok (.ireturn, 1) := by decide +kernel
theorem dL_law_1072 : decode cL_law 1072 = .ok (.goto 454, 3) := by decide +kernel
theorem dL_law_1075 : decode cL_law 1075 = .ok (.aload_n 1, 1) := by decide +kernel
theorem dL_law_1076 : decode cL_law 1076 = .ok (.aload_n 0, 1) := by decide +kernel
theorem dL_law_1077 : decode cL_law 1077 = .ok (.iload 4, 2) := by decide +kernel
theorem dL_law_1079 : decode cL_law 1079 = .ok (.iconst 1, 1) := by decide +kernel
theorem dL_law_1080 : decode cL_law 1080 = .ok (.iadd, 1) := by decide +kernel
theorem dL_law_1081 : decode cL_law 1081 = .ok (.iaload, 1) := by decide +kernel
theorem dL_law_1082 : decode cL_law 1082 = .ok (.aload_n 0, 1) := by decide +kernel
theorem dL_law_1083 : decode cL_law 1083 = .ok (.iload 4, 2) := by decide +kernel
theorem dL_law_1085 : decode cL_law 1085 = .ok (.iconst 2, 1) := by decide +kernel
theorem dL_law_1086 : decode cL_law 1086 = .ok (.iadd, 1) := by decide +kernel
theorem dL_law_1087 : decode cL_law 1087 = .ok (.iaload, 1) := by decide +kernel
theorem dL_law_1088 : decode cL_law 1088 = .ok (.aload_n 3, 1) := by decide +kernel
theorem dL_law_1089 : decode cL_law 1089 = .ok (.invokestatic 148, 3) := by decide +kernel
theorem dL_law_1092 : decode cL_law 1092 = .ok (.istore 5, 2) := by decide +kernel
theorem dL_law_1094 : decode cL_law 1094 = .ok (.aload_n 2, 1) := by decide +kernel
theorem dL_law_1095 : decode cL_law 1095 = .ok (.aload_n 0, 1) := by decide +kernel
theorem dL_law_1096 : decode cL_law 1096 = .ok (.iload 4, 2) := by decide +kernel
theorem dL_law_1098 : decode cL_law 1098 = .ok (.iconst 1, 1) := by decide +kernel
theorem dL_law_1099 : decode cL_law 1099 = .ok (.iadd, 1) := by decide +kernel
theorem dL_law_1100 : decode cL_law 1100 = .ok (.iaload, 1) := by decide +kernel
theorem dL_law_1101 : decode cL_law 1101 = .ok (.aload_n 0, 1) := by decide +kernel
theorem dL_law_1102 : decode cL_law 1102 = .ok (.iload 4, 2) := by decide +kernel
theorem dL_law_1104 : decode cL_law 1104 = .ok (.iconst 2, 1) := by decide +kernel
theorem dL_law_1105 : decode cL_law 1105 = .ok (.iadd, 1) := by decide +kernel
theorem dL_law_1106 : decode cL_law 1106 = .ok (.iaload, 1) := by decide +kernel
theorem dL_law_1107 : decode cL_law 1107 = .ok (.invokevirtual 150, 3) := by decide +kernel
theorem dL_law_1110 : decode cL_law 1110 = .ok (.istore 6, 2) := by decide +kernel
theorem dL_law_1112 : decode cL_law 1112 = .ok (.aload_n 2, 1) := by decide +kernel
theorem dL_law_1113 : decode cL_law 1113 = .ok (.invokevirtual 90, 3) := by decide +kernel
theorem dL_law_1116 : decode cL_law 1116 = .ok (.iload 5, 2) := by decide +kernel
theorem dL_law_1118 : decode cL_law 1118 = .ok (.if_icmp .eq 5, 3) := by decide +kernel
theorem dL_law_1121 : decode cL_law 1121 = .ok (.iconst 0, 1) := by decide +kernel
theorem dL_law_1122 : decode cL_law 1122 = .ok (.ireturn, 1) := by decide +kernel
theorem dL_law_1123 : decode cL_law 1123 = .ok (.iload 5, 2) := by decide +kernel
theorem dL_law_1125 : decode cL_law 1125 = .ok (.ifCond .ne 15, 3) := by decide +kernel
theorem dL_law_1128 : decode cL_law 1128 = .ok (.aload_n 3, 1) := by decide +kernel
theorem dL_law_1129 : decode cL_law 1129 = .ok (.iconst 0, 1) := by decide +kernel
theorem dL_law_1130 : decode cL_law 1130 = .ok (.laload, 1) := by decide +kernel
theorem dL_law_1131 : decode cL_law 1131 = .ok (.iload 6, 2) := by decide +kernel
theorem dL_law_1133 : decode cL_law 1133 = .ok (.i2l, 1) := by decide +kernel
theorem dL_law_1134 : decode cL_law 1134 = .ok (.lcmp, 1) := by decide +kernel
theorem dL_law_1135 : decode cL_law 1135 = .ok (.ifCond .eq 5, 3) := by decide +kernel
theorem dL_law_1138 : decode cL_law 1138 = .ok (.iconst 0, 1) := by decide +kernel
theorem dL_law_1139 : decode cL_law 1139 = .ok (.ireturn, 1) := by decide +kernel
theorem dL_law_1140 : decode cL_law 1140 = .ok (.goto 386, 3) := by decide +kernel
theorem dL_law_1143 : decode cL_law 1143 = .ok (.aload_n 1, 1) := by decide +kernel
theorem dL_law_1144 : decode cL_law 1144 = .ok (.aload_n 0, 1) := by decide +kernel
theorem dL_law_1145 : decode cL_law 1145 = .ok (.iload 4, 2) := by decide +kernel
theorem dL_law_1147 : decode cL_law 1147 = .ok (.iconst 1, 1) := by decide +kernel
theorem dL_law_1148 : decode cL_law 1148 = .ok (.iadd, 1) := by decide +kernel
theorem dL_law_1149 : decode cL_law 1149 = .ok (.iaload, 1) := by decide +kernel
theorem dL_law_1150 : decode cL_law 1150 = .ok (.aload_n 0, 1) := by decide +kernel
theorem dL_law_1151 : decode cL_law 1151 = .ok (.iload 4, 2) := by decide +kernel
theorem dL_law_1153 : decode cL_law 1153 = .ok (.iconst 2, 1) := by decide +kernel
theorem dL_law_1154 : decode cL_law 1154 = .ok (.iadd, 1) := by decide +kernel
theorem dL_law_1155 : decode cL_law 1155 = .ok (.iaload, 1) := by decide +kernel
theorem dL_law_1156 : decode cL_law 1156 = .ok (.aload_n 0, 1) := by decide +kernel
theorem dL_law_1157 : decode cL_law 1157 = .ok (.iload 4, 2) := by decide +kernel
theorem dL_law_1159 : decode cL_law 1159 = .ok (.iconst 3, 1) := by decide +kernel
theorem dL_law_1160 : decode cL_law 1160 = .ok (.iadd, 1) := by decide +kernel
theorem dL_law_1161 : decode cL_law 1161 = .ok (.iaload, 1) := by decide +kernel
theorem dL_law_1162 : decode cL_law 1162 = .ok (.aload_n 3, 1) := by decide +kernel
theorem dL_law_1163 : decode cL_law 1163 = .ok (.invokestatic 151, 3) := by decide +kernel
theorem dL_law_1166 : decode cL_law 1166 = .ok (.istore 5, 2) := by decide +kernel
theorem dL_law_1168 : decode cL_law 1168 = .ok (.aload_n 2, 1) := by decide +kernel
theorem dL_law_1169 : decode cL_law 1169 = .ok (.aload_n 0, 1) := by decide +kernel
theorem dL_law_1170 : decode cL_law 1170 = .ok (.iload 4, 2) := by decide +kernel
theorem dL_law_1172 : decode cL_law 1172 = .ok (.iconst 1, 1) := by decide +kernel
theorem dL_law_1173 : decode cL_law 1173 = .ok (.iadd, 1) := by decide +kernel
theorem dL_law_1174 : decode cL_law 1174 = .ok (.iaload, 1) := by decide +kernel
theorem dL_law_1175 : decode cL_law 1175 = .ok (.aload_n 0, 1) := by decide +kernel
theorem dL_law_1176 : decode cL_law 1176 = .ok (.iload 4, 2) := by decide +kernel
theorem dL_law_1178 : decode cL_law 1178 = .ok (.iconst 2, 1) := by decide +kernel
theorem dL_law_1179 : decode cL_law 1179 = .ok (.iadd, 1) := by decide +kernel
theorem dL_law_1180 : decode cL_law 1180 = .ok (.iaload, 1) := by decide +kernel
theorem dL_law_1181 : decode cL_law 1181 = .ok (.aload_n 0, 1) := by decide +kernel
theorem dL_law_1182 : decode cL_law 1182 = .ok (.iload 4, 2) := by decide +kernel
theorem dL_law_1184 : decode cL_law 1184 = .ok (.iconst 3, 1) := by decide +kernel
theorem dL_law_1185 : decode cL_law 1185 = .ok (.iadd, 1) := by decide +kernel
theorem dL_law_1186 : decode cL_law 1186 = .ok (.iaload, 1) := by decide +kernel
theorem dL_law_1187 : decode cL_law 1187 = .ok (.invokevirtual 153, 3) := by decide +kernel
theorem dL_law_1190 : decode cL_law 1190 = .ok (.istore 6, 2) := by decide +kernel
theorem dL_law_1192 : decode cL_law 1192 = .ok (.aload_n 2, 1) := by decide +kernel
theorem dL_law_1193 : decode cL_law 1193 = .ok (.invokevirtual 90, 3) := by decide +kernel
theorem dL_law_1196 : decode cL_law 1196 = .ok (.iload 5, 2) := by decide +kernel
theorem dL_law_1198 : decode cL_law 1198 = .ok (.if_icmp .eq 5, 3) := by decide +kernel
theorem dL_law_1201 : decode cL_law 1201 = .ok (.iconst 0, 1) := by decide +kernel
theorem dL_law_1202 : decode cL_law 1202 = .ok (.ireturn, 1) := by decide +kernel
theorem dL_law_1203 : decode cL_law 1203 = .ok (.iload 5, 2) := by decide +kernel
theorem dL_law_1205 : decode cL_law 1205 = .ok (.ifCond .ne 15, 3) := by decide +kernel
theorem dL_law_1208 : decode cL_law 1208 = .ok (.aload_n 3, 1) := by decide +kernel
theorem dL_law_1209 : decode cL_law 1209 = .ok (.iconst 0, 1) := by decide +kernel
theorem dL_law_1210 : decode cL_law 1210 = .ok (.laload, 1) := by decide +kernel
theorem dL_law_1211 : decode cL_law 1211 = .ok (.iload 6, 2) := by decide +kernel
theorem dL_law_1213 : decode cL_law 1213 = .ok (.i2l, 1) := by decide +kernel
theorem dL_law_1214 : decode cL_law 1214 = .ok (.lcmp, 1) := by decide +kernel
theorem dL_law_1215 : decode cL_law 1215 = .ok (.ifCond .eq 5, 3) := by decide +kernel
theorem dL_law_1218 : decode cL_law 1218 = .ok (.iconst 0, 1) := by decide +kernel
theorem dL_law_1219 : decode cL_law 1219 = .ok (.ireturn, 1) := by decide +kernel
theorem dL_law_1220 : decode cL_law 1220 = .ok (.goto 306, 3) := by decide +kernel
theorem dL_law_1223 : decode cL_law 1223 = .ok (.aload_n 1, 1) := by decide +kernel
theorem dL_law_1224 : decode cL_law 1224 = .ok (.aload_n 0, 1) := by decide +kernel
theorem dL_law_1225 : decode cL_law 1225 = .ok (.iload 4, 2) := by decide +kernel
theorem dL_law_1227 : decode cL_law 1227 = .ok (.iconst 1, 1) := by decide +kernel
theorem dL_law_1228 : decode cL_law 1228 = .ok (.iadd, 1) := by decide +kernel
theorem dL_law_1229 : decode cL_law 1229 = .ok (.iaload, 1) := by decide +kernel
theorem dL_law_1230 : decode cL_law 1230 = .ok (.aload_n 0, 1) := by decide +kernel
theorem dL_law_1231 : decode cL_law 1231 = .ok (.iload 4, 2) := by decide +kernel
theorem dL_law_1233 : decode cL_law 1233 = .ok (.iconst 2, 1) := by decide +kernel
theorem dL_law_1234 : decode cL_law 1234 = .ok (.iadd, 1) := by decide +kernel
theorem dL_law_1235 : decode cL_law 1235 = .ok (.iaload, 1) := by decide +kernel
theorem dL_law_1236 : decode cL_law 1236 = .ok (.aload_n 3, 1) := by decide +kernel
theorem dL_law_1237 : decode cL_law 1237 = .ok (.invokestatic 154, 3) := by decide +kernel
theorem dL_law_1240 : decode cL_law 1240 = .ok (.istore 5, 2) := by decide +kernel
theorem dL_law_1242 : decode cL_law 1242 = .ok (.aload_n 2, 1) := by decide +kernel
theorem dL_law_1243 : decode cL_law 1243 = .ok (.aload_n 0, 1) := by decide +kernel
theorem dL_law_1244 : decode cL_law 1244 = .ok (.iload 4, 2) := by decide +kernel
theorem dL_law_1246 : decode cL_law 1246 = .ok (.iconst 1, 1) := by decide +kernel
theorem dL_law_1247 : decode cL_law 1247 = .ok (.iadd, 1) := by decide +kernel
theorem dL_law_1248 : decode cL_law 1248 = .ok (.iaload, 1) := by decide +kernel
theorem dL_law_1249 : decode cL_law 1249 = .ok (.aload_n 0, 1) := by decide +kernel
theorem dL_law_1250 : decode cL_law 1250 = .ok (.iload 4, 2) := by decide +kernel
theorem dL_law_1252 : decode cL_law 1252 = .ok (.iconst 2, 1) := by decide +kernel
theorem dL_law_1253 : decode cL_law 1253 = .ok (.iadd, 1) := by decide +kernel
theorem dL_law_1254 : decode cL_law 1254 = .ok (.iaload, 1) := by decide +kernel
theorem dL_law_1255 : decode cL_law 1255 = .ok (.invokevirtual 156, 3) := by decide +kernel
theorem dL_law_1258 : decode cL_law 1258 = .ok (.istore 6, 2) := by decide +kernel
theorem dL_law_1260 : decode cL_law 1260 = .ok (.aload_n 2, 1) := by decide +kernel
theorem dL_law_1261 : decode cL_law 1261 = .ok (.invokevirtual 90, 3) := by decide +kernel
theorem dL_law_1264 : decode cL_law 1264 = .ok (.iload 5, 2) := by decide +kernel
theorem dL_law_1266 : decode cL_law 1266 = .ok (.if_icmp .eq 5, 3) := by decide +kernel
theorem dL_law_1269 : decode cL_law 1269 = .ok (.iconst 0, 1) := by decide +kernel
theorem dL_law_1270 : decode cL_law 1270 = .ok (.ireturn, 1) := by decide +kernel
theorem dL_law_1271 : decode cL_law 1271 = .ok (.iload 5, 2) := by decide +kernel
theorem dL_law_1273 : decode cL_law 1273 = .ok (.ifCond .ne 15, 3) := by decide +kernel
theorem dL_law_1276 : decode cL_law 1276 = .ok (.aload_n 3, 1) := by decide +kernel
theorem dL_law_1277 : decode cL_law 1277 = .ok (.iconst 0, 1) := by decide +kernel
theorem dL_law_1278 : decode cL_law 1278 = .ok (.laload, 1) := by decide +kernel
theorem dL_law_1279 : decode cL_law 1279 = .ok (.iload 6, 2) := by decide +kernel
theorem dL_law_1281 : decode cL_law 1281 = .ok (.i2l, 1) := by decide +kernel
theorem dL_law_1282 : decode cL_law 1282 = .ok (.lcmp, 1) := by decide +kernel
theorem dL_law_1283 : decode cL_law 1283 = .ok (.ifCond .eq 5, 3) := by decide +kernel
theorem dL_law_1286 : decode cL_law 1286 = .ok (.iconst 0, 1) := by decide +kernel
theorem dL_law_1287 : decode cL_law 1287 = .ok (.ireturn, 1) := by decide +kernel
theorem dL_law_1288 : decode cL_law 1288 = .ok (.goto 238, 3) := by decide +kernel
theorem dL_law_1291 : decode cL_law 1291 = .ok (.aload_n 1, 1) := by decide +kernel
theorem dL_law_1292 : decode cL_law 1292 = .ok (.aload_n 0, 1) := by decide +kernel
theorem dL_law_1293 : decode cL_law 1293 = .ok (.iload 4, 2) := by decide +kernel
theorem dL_law_1295 : decode cL_law 1295 = .ok (.iconst 1, 1) := by decide +kernel
theorem dL_law_1296 : decode cL_law 1296 = .ok (.iadd, 1) := by decide +kernel
theorem dL_law_1297 : decode cL_law 1297 = .ok (.iaload, 1) := by decide +kernel
theorem dL_law_1298 : decode cL_law 1298 = .ok (.aload_n 3, 1) := by decide +kernel
theorem dL_law_1299 : decode cL_law 1299 = .ok (.invokestatic 157, 3) := by decide +kernel
theorem dL_law_1302 : decode cL_law 1302 = .ok (.istore 5, 2) := by decide +kernel
theorem dL_law_1304 : decode cL_law 1304 = .ok (.aload_n 2, 1) := by decide +kernel
theorem dL_law_1305 : decode cL_law 1305 = .ok (.aload_n 0, 1) := by decide +kernel
theorem dL_law_1306 : decode cL_law 1306 = .ok (.iload 4, 2) := by decide +kernel
theorem dL_law_1308 : decode cL_law 1308 = .ok (.iconst 1, 1) := by decide +kernel
theorem dL_law_1309 : decode cL_law 1309 = .ok (.iadd, 1) := by decide +kernel
theorem dL_law_1310 : decode cL_law 1310 = .ok (.iaload, 1) := by decide +kernel
theorem dL_law_1311 : decode cL_law 1311 = .ok (.invokevirtual 159, 3) := by decide +kernel
theorem dL_law_1314 : decode cL_law 1314 = .ok (.istore 6, 2) := by decide +kernel
theorem dL_law_1316 : decode cL_law 1316 = .ok (.aload_n 2, 1) := by decide +kernel
theorem dL_law_1317 : decode cL_law 1317 = .ok (.invokevirtual 90, 3) := by decide +kernel
theorem dL_law_1320 : decode cL_law 1320 = .ok (.iload 5, 2) := by decide +kernel
theorem dL_law_1322 : decode cL_law 1322 = .ok (.if_icmp .eq 5, 3) := by decide +kernel
theorem dL_law_1325 : decode cL_law 1325 = .ok (.iconst 0, 1) := by decide +kernel
theorem dL_law_1326 : decode cL_law 1326 = .ok (.ireturn, 1) := by decide +kernel
theorem dL_law_1327 : decode cL_law 1327 = .ok (.iload 5, 2) := by decide +kernel
theorem dL_law_1329 : decode cL_law 1329 = .ok (.ifCond .ne 15, 3) := by decide +kernel
theorem dL_law_1332 : decode cL_law 1332 = .ok (.aload_n 3, 1) := by decide +kernel
theorem dL_law_1333 : decode cL_law 1333 = .ok (.iconst 0, 1) := by decide +kernel
theorem dL_law_1334 : decode cL_law 1334 = .ok (.laload, 1) := by decide +kernel
theorem dL_law_1335 : decode cL_law 1335 = .ok (.iload 6, 2) := by decide +kernel
theorem dL_law_1337 : decode cL_law 1337 = .ok (.i2l, 1) := by decide +kernel
theorem dL_law_1338 : decode cL_law 1338 = .ok (.lcmp, 1) := by decide +kernel
theorem dL_law_1339 : decode cL_law 1339 = .ok (.ifCond .eq 5, 3) := by decide +kernel
theorem dL_law_1342 : decode cL_law 1342 = .ok (.iconst 0, 1) := by decide +kernel
theorem dL_law_1343 : decode cL_law 1343 = .ok (.ireturn, 1) := by decide +kernel
theorem dL_law_1344 : decode cL_law 1344 = .ok (.goto 182, 3) := by decide +kernel
theorem dL_law_1347 : decode cL_law 1347 = .ok (.aload_n 1, 1) := by decide +kernel
theorem dL_law_1348 : decode cL_law 1348 = .ok (.aload_n 0, 1) := by decide +kernel
theorem dL_law_1349 : decode cL_law 1349 = .ok (.iload 4, 2) := by decide +kernel
theorem dL_law_1351 : decode cL_law 1351 = .ok (.iconst 1, 1) := by decide +kernel
theorem dL_law_1352 : decode cL_law 1352 = .ok (.iadd, 1) := by decide +kernel
theorem dL_law_1353 : decode cL_law 1353 = .ok (.iaload, 1) := by decide +kernel
theorem dL_law_1354 : decode cL_law 1354 = .ok (.aload_n 0, 1) := by decide +kernel
theorem dL_law_1355 : decode cL_law 1355 = .ok (.iload 4, 2) := by decide +kernel
theorem dL_law_1357 : decode cL_law 1357 = .ok (.iconst 2, 1) := by decide +kernel
theorem dL_law_1358 : decode cL_law 1358 = .ok (.iadd, 1) := by decide +kernel
theorem dL_law_1359 : decode cL_law 1359 = .ok (.iaload, 1) := by decide +kernel
theorem dL_law_1360 : decode cL_law 1360 = .ok (.aload_n 3, 1) := by decide +kernel
theorem dL_law_1361 : decode cL_law 1361 = .ok (.invokestatic 160, 3) := by decide +kernel
theorem dL_law_1364 : decode cL_law 1364 = .ok (.istore 5, 2) := by decide +kernel
theorem dL_law_1366 : decode cL_law 1366 = .ok (.aload_n 2, 1) := by decide +kernel
theorem dL_law_1367 : decode cL_law 1367 = .ok (.aload_n 0, 1) := by decide +kernel
theorem dL_law_1368 : decode cL_law 1368 = .ok (.iload 4, 2) := by decide +kernel
theorem dL_law_1370 : decode cL_law 1370 = .ok (.iconst 1, 1) := by decide +kernel
theorem dL_law_1371 : decode cL_law 1371 = .ok (.iadd, 1) := by decide +kernel
theorem dL_law_1372 : decode cL_law 1372 = .ok (.iaload, 1) := by decide +kernel
theorem dL_law_1373 : decode cL_law 1373 = .ok (.aload_n 0, 1) := by decide +kernel
theorem dL_law_1374 : decode cL_law 1374 = .ok (.iload 4, 2) := by decide +kernel
theorem dL_law_1376 : decode cL_law 1376 = .ok (.iconst 2, 1) := by decide +kernel
theorem dL_law_1377 : decode cL_law 1377 = .ok (.iadd, 1) := by decide +kernel
theorem dL_law_1378 : decode cL_law 1378 = .ok (.iaload, 1) := by decide +kernel
theorem dL_law_1379 : decode cL_law 1379 = .ok (.invokevirtual 162, 3) := by decide +kernel
theorem dL_law_1382 : decode cL_law 1382 = .ok (.istore 6, 2) := by decide +kernel
theorem dL_law_1384 : decode cL_law 1384 = .ok (.aload_n 2, 1) := by decide +kernel
theorem dL_law_1385 : decode cL_law 1385 = .ok (.invokevirtual 90, 3) := by decide +kernel
theorem dL_law_1388 : decode cL_law 1388 = .ok (.iload 5, 2) := by decide +kernel
theorem dL_law_1390 : decode cL_law 1390 = .ok (.if_icmp .eq 5, 3) := by decide +kernel
theorem dL_law_1393 : decode cL_law 1393 = .ok (.iconst 0, 1) := by decide +kernel
theorem dL_law_1394 : decode cL_law 1394 = .ok (.ireturn, 1) := by decide +kernel
theorem dL_law_1395 : decode cL_law 1395 = .ok (.iload 5, 2) := by decide +kernel
theorem dL_law_1397 : decode cL_law 1397 = .ok (.ifCond .ne 15, 3) := by decide +kernel
theorem dL_law_1400 : decode cL_law 1400 = .ok (.aload_n 3, 1) := by decide +kernel
theorem dL_law_1401 : decode cL_law 1401 = .ok (.iconst 0, 1) := by decide +kernel
theorem dL_law_1402 : decode cL_law 1402 = .ok (.laload, 1) := by decide +kernel
theorem dL_law_1403 : decode cL_law 1403 = .ok (.iload 6, 2) := by decide +kernel
theorem dL_law_1405 : decode cL_law 1405 = .ok (.i2l, 1) := by decide +kernel
theorem dL_law_1406 : decode cL_law 1406 = .ok (.lcmp, 1) := by decide +kernel
theorem dL_law_1407 : decode cL_law 1407 = .ok (.ifCond .eq 5, 3) := by decide +kernel
theorem dL_law_1410 : decode cL_law 1410 = .ok (.iconst 0, 1) := by decide +kernel
theorem dL_law_1411 : decode cL_law 1411 = .ok (.ireturn, 1) := by decide +kernel
theorem dL_law_1412 : decode cL_law 1412 = .ok (.goto 114, 3) := by decide +kernel
theorem dL_law_1415 : decode cL_law 1415 = .ok (.aload_n 1, 1) := by decide +kernel
theorem dL_law_1416 : decode cL_law 1416 = .ok (.aload_n 0, 1) := by decide +kernel
theorem dL_law_1417 : decode cL_law 1417 = .ok (.iload 4, 2) := by decide +kernel
theorem dL_law_1419 : decode cL_law 1419 = .ok (.iconst 1, 1) := by decide +kernel
theorem dL_law_1420 : decode cL_law 1420 = .ok (.iadd, 1) := by decide +kernel
theorem dL_law_1421 : decode cL_law 1421 = .ok (.iaload, 1) := by decide +kernel
theorem dL_law_1422 : decode cL_law 1422 = .ok (.aload_n 3, 1) := by decide +kernel
theorem dL_law_1423 : decode cL_law 1423 = .ok (.invokestatic 163, 3) := by decide +kernel
theorem dL_law_1426 : decode cL_law 1426 = .ok (.istore 5, 2) := by decide +kernel
theorem dL_law_1428 : decode cL_law 1428 = .ok (.aload_n 2, 1) := by decide +kernel
theorem dL_law_1429 : decode cL_law 1429 = .ok (.aload_n 0, 1) := by decide +kernel
theorem dL_law_1430 : decode cL_law 1430 = .ok (.iload 4, 2) := by decide +kernel
theorem dL_law_1432 : decode cL_law 1432 = .ok (.iconst 1, 1) := by decide +kernel
theorem dL_law_1433 : decode cL_law 1433 = .ok (.iadd, 1) := by decide +kernel
theorem dL_law_1434 : decode cL_law 1434 = .ok (.iaload, 1) := by decide +kernel
theorem dL_law_1435 : decode cL_law 1435 = .ok (.invokevirtual 165, 3) := by decide +kernel
theorem dL_law_1438 : decode cL_law 1438 = .ok (.istore 6, 2) := by decide +kernel
theorem dL_law_1440 : decode cL_law 1440 = .ok (.aload_n 2, 1) := by decide +kernel
theorem dL_law_1441 : decode cL_law 1441 = .ok (.invokevirtual 90, 3) := by decide +kernel
theorem dL_law_1444 : decode cL_law 1444 = .ok (.iload 5, 2) := by decide +kernel
theorem dL_law_1446 : decode cL_law 1446 = .ok (.if_icmp .eq 5, 3) := by decide +kernel
theorem dL_law_1449 : decode cL_law 1449 = .ok (.iconst 0, 1) := by decide +kernel
theorem dL_law_1450 : decode cL_law 1450 = .ok (.ireturn, 1) := by decide +kernel
theorem dL_law_1451 : decode cL_law 1451 = .ok (.iload 5, 2) := by decide +kernel
theorem dL_law_1453 : decode cL_law 1453 = .ok (.ifCond .ne 15, 3) := by decide +kernel
theorem dL_law_1456 : decode cL_law 1456 = .ok (.aload_n 3, 1) := by decide +kernel
theorem dL_law_1457 : decode cL_law 1457 = .ok (.iconst 0, 1) := by decide +kernel
theorem dL_law_1458 : decode cL_law 1458 = .ok (.laload, 1) := by decide +kernel
theorem dL_law_1459 : decode cL_law 1459 = .ok (.iload 6, 2) := by decide +kernel
theorem dL_law_1461 : decode cL_law 1461 = .ok (.i2l, 1) := by decide +kernel
theorem dL_law_1462 : decode cL_law 1462 = .ok (.lcmp, 1) := by decide +kernel
theorem dL_law_1463 : decode cL_law 1463 = .ok (.ifCond .eq 5, 3) := by decide +kernel
theorem dL_law_1466 : decode cL_law 1466 = .ok (.iconst 0, 1) := by decide +kernel
theorem dL_law_1467 : decode cL_law 1467 = .ok (.ireturn, 1) := by decide +kernel
theorem dL_law_1468 : decode cL_law 1468 = .ok (.goto 58, 3) := by decide +kernel
theorem dL_law_1471 : decode cL_law 1471 = .ok (.aload_n 1, 1) := by decide +kernel
theorem dL_law_1472 : decode cL_law 1472 = .ok (.invokevirtual 166, 3) := by decide +kernel
theorem dL_law_1475 : decode cL_law 1475 = .ok (.dstore 5, 2) := by decide +kernel
theorem dL_law_1477 : decode cL_law 1477 = .ok (.aload_n 2, 1) := by decide +kernel
theorem dL_law_1478 : decode cL_law 1478 = .ok (.invokevirtual 170, 3) := by decide +kernel
theorem dL_law_1481 : decode cL_law 1481 = .ok (.dstore 7, 2) := by decide +kernel
theorem dL_law_1483 : decode cL_law 1483 = .ok (.dload 5, 2) := by decide +kernel
theorem dL_law_1485 : decode cL_law 1485 = .ok (.dload 7, 2) := by decide +kernel
theorem dL_law_1487 : decode cL_law 1487 = .ok (.dcmp .l, 1) := by decide +kernel
theorem dL_law_1488 : decode cL_law 1488 = .ok (.ifCond .eq 21, 3) := by decide +kernel
theorem dL_law_1491 : decode cL_law 1491 = .ok (.dload 5, 2) := by decide +kernel
theorem dL_law_1493 : decode cL_law 1493 = .ok (.dload 5, 2) := by decide +kernel
theorem dL_law_1495 : decode cL_law 1495 = .ok (.dcmp .l, 1) := by decide +kernel
theorem dL_law_1496 : decode cL_law 1496 = .ok (.ifCond .eq 11, 3) := by decide +kernel
theorem dL_law_1499 : decode cL_law 1499 = .ok (.dload 7, 2) := by decide +kernel
theorem dL_law_1501 : decode cL_law 1501 = .ok (.dload 7, 2) := by decide +kernel
theorem dL_law_1503 : decode cL_law 1503 = .ok (.dcmp .l, 1) := by decide +kernel
theorem dL_law_1504 : decode cL_law 1504 = .ok (.ifCond .ne 5, 3) := by decide +kernel
theorem dL_law_1507 : decode cL_law 1507 = .ok (.iconst 0, 1) := by decide +kernel
theorem dL_law_1508 : decode cL_law 1508 = .ok (.ireturn, 1) := by decide +kernel
theorem dL_law_1509 : decode cL_law 1509 = .ok (.goto 17, 3) := by decide +kernel
theorem dL_law_1512 : decode cL_law 1512 = .ok (.aload_n 1, 1) := by decide +kernel
theorem dL_law_1513 : decode cL_law 1513 = .ok (.invokevirtual 171, 3) := by decide +kernel
theorem dL_law_1516 : decode cL_law 1516 = .ok (.aload_n 2, 1) := by decide +kernel
theorem dL_law_1517 : decode cL_law 1517 = .ok (.invokevirtual 175, 3) := by decide +kernel
theorem dL_law_1520 : decode cL_law 1520 = .ok (.lcmp, 1) := by decide +kernel
theorem dL_law_1521 : decode cL_law 1521 = .ok (.ifCond .eq 5, 3) := by decide +kernel
theorem dL_law_1524 : decode cL_law 1524 = .ok (.iconst 0, 1) := by decide +kernel
theorem dL_law_1525 : decode cL_law 1525 = .ok (.ireturn, 1) := by decide +kernel
theorem dL_law_1526 : decode cL_law 1526 = .ok (.iinc 4 4, 3) := by decide +kernel
theorem dL_law_1529 : decode cL_law 1529 = .ok (.goto (-1506), 3) := by decide +kernel
theorem dL_law_1532 : decode cL_law 1532 = .ok (.iconst 1, 1) := by decide +kernel
theorem dL_law_1533 : decode cL_law 1533 = .ok (.ireturn, 1) := by decide +kernel
set_option maxRecDepth 100000 in
set_option maxHeartbeats 40000000 in
theorem v_L_law {X : zq_X} (C : zq_C X RL code 9 zq_all room_1) (T : zq_T X (some 0)) {b L : Nat} {xs : Nat → Int32} (hs : zq_Sc X b L xs) {h : zq_H} (hF : f_L_law h L xs = some 1) (hE : ∀ (cells slots : Nat) (h2 : zq_H) (pc : Nat) (lv : List (Nat × Value)), cells ≤ 601024 → slots ≤ 7293034 → decode code pc = .ok (.ireturn, 1) → zq_W X cells slots h2 pc lv [.int 1]) : zq_W X 0 0 h 0 [(0, .retAddr b)] [] := by
  unfold f_L_law at hF
  replace hF := zq_bd hF; obtain ⟨h_1, e_2, hF⟩ := hF
  refine zq_newo (n := 0) (pc' := 3) C zq_K5 zq_in5w wd_778 wd_779 wd_95 T rfl dL_law_0 rfl e_2 ⟨Nat.le_of_ble_eq_true rfl, Nat.le_of_ble_eq_true rfl⟩ ?_
  refine zq_widen 1 11 (Nat.le_of_ble_eq_true rfl) (Nat.le_of_ble_eq_true rfl) ?_
  refine zq_dup (pc' := 4) C dL_law_3 rfl rfl ?_
  replace hF := zq_at_e hF; obtain ⟨e_5, hF⟩ := hF
  replace hF := zq_bd hF; obtain ⟨v_3, e_4, hF⟩ := hF
  refine zq_callI (pc' := 7) C (c_X5_init e_4) (fun n hn => by cases hn; exact ⟨_, T, rfl, e_5⟩) (zq_goodC wd_237) rfl wd_95 wd_783 wd_784 rfl yi_X5_init dL_law_4 rfl rfl ⟨Nat.le_of_ble_eq_true rfl, Nat.le_of_ble_eq_true rfl⟩ (Nat.le_of_ble_eq_true rfl) ⟨Nat.le_of_ble_eq_true rfl, Nat.le_of_ble_eq_true rfl⟩ ?_
  refine zq_widen 104 30931 (Nat.le_of_ble_eq_true rfl) (Nat.le_of_ble_eq_true rfl) ?_
  replace hF := zq_let_e hF; obtain ⟨v_6, e_7, hF⟩ := hF
  refine zq_astore_n (lv' := [(1, .ref v_6), (0, .retAddr b)]) (pc' := 8) C dL_law_7 rfl rfl (by decide) e_7 rfl ?_
  replace hF := zq_bd hF; obtain ⟨h_8, e_9, hF⟩ := hF
  refine zq_newo (n := 104) (pc' := 11) C zq_K6 zq_in6w wd_780 wd_781 wd_458 T rfl dL_law_8 rfl e_9 ⟨Nat.le_of_ble_eq_true rfl, Nat.le_of_ble_eq_true rfl⟩ ?_
  refine zq_widen 105 30953 (Nat.le_of_ble_eq_true rfl) (Nat.le_of_ble_eq_true rfl) ?_
  refine zq_dup (pc' := 12) C dL_law_11 rfl rfl ?_
  replace hF := zq_at_e hF; obtain ⟨e_12, hF⟩ := hF
  replace hF := zq_bd hF; obtain ⟨v_10, e_11, hF⟩ := hF
  refine zq_callI (pc' := 15) C (c_X6_init e_11) (fun n hn => by cases hn; exact ⟨_, T, rfl, e_12⟩) (zq_goodC wd_540) rfl wd_458 wd_785 wd_786 rfl yi_X6_init dL_law_12 rfl rfl ⟨Nat.le_of_ble_eq_true rfl, Nat.le_of_ble_eq_true rfl⟩ (Nat.le_of_ble_eq_true rfl) ⟨Nat.le_of_ble_eq_true rfl, Nat.le_of_ble_eq_true rfl⟩ ?_
  refine zq_widen 118 35485 (Nat.le_of_ble_eq_true rfl) (Nat.le_of_ble_eq_true rfl) ?_
  replace hF := zq_let_e hF; obtain ⟨v_13, e_14, hF⟩ := hF
  refine zq_astore_n (lv' := [(2, .ref v_13), (1, .ref v_6), (0, .retAddr b)]) (pc' := 16) C dL_law_15 rfl rfl (by decide) e_14 rfl ?_
  refine zq_iconst (pc' := 17) C 1 dL_law_16 rfl (by decide) ?_
  replace hF := zq_bd hF; obtain ⟨h_15, e_16, hF⟩ := hF
  refine zq_newL (n := 118) (pc' := 19) C wd_782 T rfl dL_law_17 rfl e_16 (by decide) ⟨Nat.le_of_ble_eq_true rfl, Nat.le_of_ble_eq_true rfl⟩ ?_
  refine zq_widen 119 35486 (Nat.le_of_ble_eq_true rfl) (Nat.le_of_ble_eq_true rfl) ?_
  replace hF := zq_let_e hF; obtain ⟨v_17, e_18, hF⟩ := hF
  refine zq_astore_n (lv' := [(3, .ref v_17), (2, .ref v_13), (1, .ref v_6), (0, .retAddr b)]) (pc' := 20) C dL_law_19 rfl rfl (by decide) e_18 rfl ?_
  refine zq_iconst (pc' := 21) C 0 dL_law_20 rfl (by decide) ?_
  refine zq_istore (lv' := [(4, .int 0), (3, .ref v_17), (2, .ref v_13), (1, .ref v_6), (0, .retAddr b)]) (pc' := 23) C dL_law_21 rfl (by decide) rfl rfl ?_
  refine zq_sub [4, 3, 2, 1, 0] rfl ?_
  replace hF := zq_bd hF; obtain ⟨r_20, e_21, hF⟩ := hF
  refine zq_lpWc (fun k9 s_19 => zq_W X (119 + k9) (35486 + 6 * k9) s_19.2 23 [(0, .retAddr b), (1, .ref v_6), (2, .ref v_13), (3, .ref v_17), (4, .int s_19.1)] []) (Sum.elim (fun y_22 => zq_W X 632 38564 y_22 1532 [] []) (fun z_23 => (1 : Int32) = z_23)) e_21 (fun k9 s_19 q_26 hk9 hF hrec_24 hex_25 => ?_) ?_
  · have hc0 : 119 + k9 ≤ room_1.cells ∧ 35486 + 6 * k9 ≤ room_1.slots := ⟨by show _ ≤ 601024; omega, by show _ ≤ 7293034; omega⟩
    have hc1 : 119 + k9 + 1 ≤ room_1.cells ∧ 35486 + 6 * k9 + 6 ≤ room_1.slots := ⟨by show _ ≤ 601024; omega, by show _ ≤ 7293034; omega⟩
    refine zq_iload (pc' := 25) C dL_law_23 rfl rfl ?_
    refine zq_aloadR_n (pc' := 26) C dL_law_25 rfl rfl rfl ?_
    refine zq_slen (pc' := 27) C hs dL_law_26 rfl ?_
    refine zq_iconst (pc' := 28) C 4 dL_law_27 rfl (by decide) ?_
    refine zq_isub (pc' := 29) C dL_law_28 rfl ?_
    refine zq_icmp_gt (pc' := 32) C 1532 dL_law_29 (by decide) rfl (fun c_29 => ?_) (fun c_29 => ?_)
    · have hF := (zq_ifp hF c_29)
      skip
      cases hF
      refine zq_widen 632 38564 (by omega) (by omega) ?_
      exact zq_sub [] rfl (hex_25 _ rfl)
    · have hF := (zq_ifn hF c_29)
      refine zq_aloadR_n (pc' := 33) C dL_law_32 rfl rfl rfl ?_
      refine zq_iload (pc' := 35) C dL_law_33 rfl rfl ?_
      replace hF := zq_bd hF; obtain ⟨v_30, e_31, hF⟩ := hF
      refine zq_sld (pc' := 36) C hs dL_law_35 rfl e_31 ?_
      refine zq_bipush (pc' := 38) C 31 dL_law_36 rfl (by decide) ?_
      refine zq_iand (pc' := 39) C dL_law_38 rfl ?_
      by_cases c_32 : (v_30 &&& 31) = 0
      · have hF := zq_ifp hF c_32
        refine zq_tsIn C 152 dL_law_39 (by rw [c_32]; decide) (by rw [c_32]; decide) (by rw [c_32]; rfl) (by decide) ?_
        refine zq_aload_n (pc' := 153) C dL_law_152 rfl rfl rfl ?_
        refine zq_aloadR_n (pc' := 154) C dL_law_153 rfl rfl rfl ?_
        refine zq_iload (pc' := 156) C dL_law_154 rfl rfl ?_
        refine zq_iconst (pc' := 157) C 1 dL_law_156 rfl (by decide) ?_
        refine zq_iadd (pc' := 158) C dL_law_157 rfl ?_
        replace hF := zq_bd hF; obtain ⟨v_33, e_34, hF⟩ := hF
        refine zq_sld (pc' := 159) C hs dL_law_158 rfl e_34 ?_
        refine zq_aload_n (pc' := 160) C dL_law_159 rfl rfl rfl ?_
        replace hF := zq_bd hF; obtain ⟨v_35, e_36, hF⟩ := hF
        refine zq_callL (pc' := 163) C (c_L_begin e_36) yl_L_begin wd_787 dL_law_160 rfl rfl rfl ⟨Nat.le_of_ble_eq_true rfl, Nat.le_of_ble_eq_true rfl⟩ (Nat.le_of_ble_eq_true rfl) hc1 ?_
        refine zq_widen (119 + k9 + 1) (35486 + 6 * k9 + 6) (Nat.le_refl _) (Nat.le_refl _) ?_
        refine zq_istore (lv' := [(5, .int v_35.1), (0, .retAddr b), (1, .ref v_6), (2, .ref v_13), (3, .ref v_17), (4, .int s_19.1)]) (pc' := 165) C dL_law_163 rfl (by decide) rfl rfl ?_
        refine zq_aload_n (pc' := 166) C dL_law_165 rfl rfl rfl ?_
        refine zq_aloadR_n (pc' := 167) C dL_law_166 rfl rfl rfl ?_
        refine zq_iload (pc' := 169) C dL_law_167 rfl rfl ?_
        refine zq_iconst (pc' := 170) C 1 dL_law_169 rfl (by decide) ?_
        refine zq_iadd (pc' := 171) C dL_law_170 rfl ?_
        replace hF := zq_bd hF; obtain ⟨v_37, e_38, hF⟩ := hF
        refine zq_sld (pc' := 172) C hs dL_law_171 rfl e_38 ?_
        replace hF := zq_ck_e hF; obtain ⟨e_41, hF⟩ := hF
        replace hF := zq_bd hF; obtain ⟨v_39, e_40, hF⟩ := hF
        refine zq_cV (pc' := 175) C (c_X6_begin e_40) yv_X6_begin wd_790 zq_K6 e_41 dL_law_172 rfl rfl rfl ⟨Nat.le_of_ble_eq_true rfl, Nat.le_of_ble_eq_true rfl⟩ (Nat.le_of_ble_eq_true rfl) ⟨rfl, rfl⟩ hc1 rfl ?_
        refine zq_istore (lv' := [(6, .int v_39.1), (5, .int v_35.1), (0, .retAddr b), (1, .ref v_6), (2, .ref v_13), (3, .ref v_17), (4, .int s_19.1)]) (pc' := 177) C dL_law_175 rfl (by decide) rfl rfl ?_
        refine zq_aload_n (pc' := 178) C dL_law_177 rfl rfl rfl ?_
        replace hF := zq_ck_e hF; obtain ⟨e_44, hF⟩ := hF
        replace hF := zq_bd hF; obtain ⟨v_42, e_43, hF⟩ := hF
        refine zq_cV (pc' := 181) C (c_X6_thrown e_43) yv_X6_thrown wd_793 zq_K6 e_44 dL_law_178 rfl rfl rfl ⟨Nat.le_of_ble_eq_true rfl, Nat.le_of_ble_eq_true rfl⟩ (Nat.le_of_ble_eq_true rfl) ⟨rfl, rfl⟩ hc1 rfl ?_
        refine zq_iload (pc' := 183) C dL_law_181 rfl rfl ?_
        refine zq_icmp_eq (pc' := 186) C 188 dL_law_183 (by decide) rfl (fun c_45 => ?_) (fun c_45 => ?_)
        · have hF := (zq_ifp hF c_45)
          skip
          refine zq_iload (pc' := 190) C dL_law_188 rfl rfl ?_
          refine zq_if_ne (pc' := 193) C 205 dL_law_190 (by decide) rfl (fun c_46 => ?_) (fun c_46 => ?_)
          · have hF := (zq_ifn hF c_46)
            skip
            refine zq_goto C 1526 dL_law_205 (by decide) ?_
            replace hF := zq_let_e hF; obtain ⟨v_47, e_48, hF⟩ := hF
            refine zq_iinc (lv' := [(4, .int v_47), (6, .int v_39.1), (5, .int v_35.1), (0, .retAddr b), (1, .ref v_6), (2, .ref v_13), (3, .ref v_17)]) (pc' := 1529) C dL_law_1526 rfl (by decide) 6 rfl e_48 rfl ?_
            refine zq_goto C 23 dL_law_1529 (by decide) ?_
            cases hF
            refine zq_widen (119 + (k9 + 1)) (35486 + 6 * (k9 + 1)) (by omega) (by omega) ?_
            exact zq_sub [3, 4, 5, 6, 0] rfl (hrec_24 _ rfl)
          · have hF := (zq_ifp hF c_46)
            refine zq_aload_n (pc' := 194) C dL_law_193 rfl rfl rfl ?_
            refine zq_iconst (pc' := 195) C 0 dL_law_194 rfl (by decide) ?_
            replace hF := zq_bd hF; obtain ⟨v_49, e_50, hF⟩ := hF
            refine zq_laload (pc' := 196) C dL_law_195 rfl e_50 ?_
            refine zq_iload (pc' := 198) C dL_law_196 rfl rfl ?_
            refine zq_i2l (pc' := 199) C dL_law_198 rfl ?_
            refine zq_lcmp (pc' := 200) C dL_law_199 rfl ?_
            refine zq_if_eq (pc' := 203) C 205 dL_law_200 (by decide) rfl (fun c_51 => ?_) (fun c_51 => ?_)
            · have hF := (zq_ifp hF c_51)
              skip
              refine zq_goto C 1526 dL_law_205 (by decide) ?_
              replace hF := zq_let_e hF; obtain ⟨v_52, e_53, hF⟩ := hF
              refine zq_iinc (lv' := [(4, .int v_52), (6, .int v_39.1), (5, .int v_35.1), (0, .retAddr b), (1, .ref v_6), (2, .ref v_13), (3, .ref v_17)]) (pc' := 1529) C dL_law_1526 rfl (by decide) 6 rfl e_53 rfl ?_
              refine zq_goto C 23 dL_law_1529 (by decide) ?_
              cases hF
              refine zq_widen (119 + (k9 + 1)) (35486 + 6 * (k9 + 1)) (by omega) (by omega) ?_
              exact zq_sub [3, 4, 5, 6, 0] rfl (hrec_24 _ rfl)
            · have hF := (zq_ifn hF c_51)
              refine zq_iconst (pc' := 204) C 0 dL_law_203 rfl (by decide) ?_
              cases hF
              have q9 : (1 : Int32) = 0 := hex_25 _ rfl
              exact absurd q9 (by decide)
        · have hF := (zq_ifn hF c_45)
          refine zq_iconst (pc' := 187) C 0 dL_law_186 rfl (by decide) ?_
          cases hF
          have q9 : (1 : Int32) = 0 := hex_25 _ rfl
          exact absurd q9 (by decide)
      have hF := zq_ifn hF c_32
      by_cases c_54 : (v_30 &&& 31) = 1
      · have hF := zq_ifp hF c_54
        refine zq_tsIn C 208 dL_law_39 (by rw [c_54]; decide) (by rw [c_54]; decide) (by rw [c_54]; rfl) (by decide) ?_
        refine zq_aload_n (pc' := 209) C dL_law_208 rfl rfl rfl ?_
        refine zq_aloadR_n (pc' := 210) C dL_law_209 rfl rfl rfl ?_
        refine zq_iload (pc' := 212) C dL_law_210 rfl rfl ?_
        refine zq_iconst (pc' := 213) C 1 dL_law_212 rfl (by decide) ?_
        refine zq_iadd (pc' := 214) C dL_law_213 rfl ?_
        replace hF := zq_bd hF; obtain ⟨v_55, e_56, hF⟩ := hF
        refine zq_sld (pc' := 215) C hs dL_law_214 rfl e_56 ?_
        refine zq_aloadR_n (pc' := 216) C dL_law_215 rfl rfl rfl ?_
        refine zq_iload (pc' := 218) C dL_law_216 rfl rfl ?_
        refine zq_iconst (pc' := 219) C 2 dL_law_218 rfl (by decide) ?_
        refine zq_iadd (pc' := 220) C dL_law_219 rfl ?_
        replace hF := zq_bd hF; obtain ⟨v_57, e_58, hF⟩ := hF
        refine zq_sld (pc' := 221) C hs dL_law_220 rfl e_58 ?_
        refine zq_aloadR_n (pc' := 222) C dL_law_221 rfl rfl rfl ?_
        refine zq_iload (pc' := 224) C dL_law_222 rfl rfl ?_
        refine zq_iconst (pc' := 225) C 3 dL_law_224 rfl (by decide) ?_
        refine zq_iadd (pc' := 226) C dL_law_225 rfl ?_
        replace hF := zq_bd hF; obtain ⟨v_59, e_60, hF⟩ := hF
        refine zq_sld (pc' := 227) C hs dL_law_226 rfl e_60 ?_
        refine zq_aload_n (pc' := 228) C dL_law_227 rfl rfl rfl ?_
        replace hF := zq_bd hF; obtain ⟨v_61, e_62, hF⟩ := hF
        refine zq_callL (pc' := 231) C (c_L_flip e_62) yl_L_flip wd_796 dL_law_228 rfl rfl rfl ⟨Nat.le_of_ble_eq_true rfl, Nat.le_of_ble_eq_true rfl⟩ (Nat.le_of_ble_eq_true rfl) hc1 ?_
        refine zq_widen (119 + k9 + 1) (35486 + 6 * k9 + 6) (Nat.le_refl _) (Nat.le_refl _) ?_
        refine zq_istore (lv' := [(5, .int v_61.1), (0, .retAddr b), (1, .ref v_6), (2, .ref v_13), (3, .ref v_17), (4, .int s_19.1)]) (pc' := 233) C dL_law_231 rfl (by decide) rfl rfl ?_
        refine zq_aload_n (pc' := 234) C dL_law_233 rfl rfl rfl ?_
        refine zq_aloadR_n (pc' := 235) C dL_law_234 rfl rfl rfl ?_
        refine zq_iload (pc' := 237) C dL_law_235 rfl rfl ?_
        refine zq_iconst (pc' := 238) C 1 dL_law_237 rfl (by decide) ?_
        refine zq_iadd (pc' := 239) C dL_law_238 rfl ?_
        replace hF := zq_bd hF; obtain ⟨v_63, e_64, hF⟩ := hF
        refine zq_sld (pc' := 240) C hs dL_law_239 rfl e_64 ?_
        refine zq_aloadR_n (pc' := 241) C dL_law_240 rfl rfl rfl ?_
        refine zq_iload (pc' := 243) C dL_law_241 rfl rfl ?_
        refine zq_iconst (pc' := 244) C 2 dL_law_243 rfl (by decide) ?_
        refine zq_iadd (pc' := 245) C dL_law_244 rfl ?_
        replace hF := zq_bd hF; obtain ⟨v_65, e_66, hF⟩ := hF
        refine zq_sld (pc' := 246) C hs dL_law_245 rfl e_66 ?_
        refine zq_aloadR_n (pc' := 247) C dL_law_246 rfl rfl rfl ?_
        refine zq_iload (pc' := 249) C dL_law_247 rfl rfl ?_
        refine zq_iconst (pc' := 250) C 3 dL_law_249 rfl (by decide) ?_
        refine zq_iadd (pc' := 251) C dL_law_250 rfl ?_
        replace hF := zq_bd hF; obtain ⟨v_67, e_68, hF⟩ := hF
        refine zq_sld (pc' := 252) C hs dL_law_251 rfl e_68 ?_
        replace hF := zq_ck_e hF; obtain ⟨e_71, hF⟩ := hF
        replace hF := zq_bd hF; obtain ⟨v_69, e_70, hF⟩ := hF
        refine zq_cV (pc' := 255) C (c_X6_flip e_70) yv_X6_flip wd_798 zq_K6 e_71 dL_law_252 rfl rfl rfl ⟨Nat.le_of_ble_eq_true rfl, Nat.le_of_ble_eq_true rfl⟩ (Nat.le_of_ble_eq_true rfl) ⟨rfl, rfl⟩ hc1 rfl ?_
        refine zq_istore (lv' := [(6, .int v_69.1), (5, .int v_61.1), (0, .retAddr b), (1, .ref v_6), (2, .ref v_13), (3, .ref v_17), (4, .int s_19.1)]) (pc' := 257) C dL_law_255 rfl (by decide) rfl rfl ?_
        refine zq_aload_n (pc' := 258) C dL_law_257 rfl rfl rfl ?_
        replace hF := zq_ck_e hF; obtain ⟨e_74, hF⟩ := hF
        replace hF := zq_bd hF; obtain ⟨v_72, e_73, hF⟩ := hF
        refine zq_cV (pc' := 261) C (c_X6_thrown e_73) yv_X6_thrown wd_793 zq_K6 e_74 dL_law_258 rfl rfl rfl ⟨Nat.le_of_ble_eq_true rfl, Nat.le_of_ble_eq_true rfl⟩ (Nat.le_of_ble_eq_true rfl) ⟨rfl, rfl⟩ hc1 rfl ?_
        refine zq_iload (pc' := 263) C dL_law_261 rfl rfl ?_
        refine zq_icmp_eq (pc' := 266) C 268 dL_law_263 (by decide) rfl (fun c_75 => ?_) (fun c_75 => ?_)
        · have hF := (zq_ifp hF c_75)
          skip
          refine zq_iload (pc' := 270) C dL_law_268 rfl rfl ?_
          refine zq_if_ne (pc' := 273) C 285 dL_law_270 (by decide) rfl (fun c_76 => ?_) (fun c_76 => ?_)
          · have hF := (zq_ifn hF c_76)
            skip
            refine zq_goto C 1526 dL_law_285 (by decide) ?_
            replace hF := zq_let_e hF; obtain ⟨v_77, e_78, hF⟩ := hF
            refine zq_iinc (lv' := [(4, .int v_77), (6, .int v_69.1), (5, .int v_61.1), (0, .retAddr b), (1, .ref v_6), (2, .ref v_13), (3, .ref v_17)]) (pc' := 1529) C dL_law_1526 rfl (by decide) 6 rfl e_78 rfl ?_
            refine zq_goto C 23 dL_law_1529 (by decide) ?_
            cases hF
            refine zq_widen (119 + (k9 + 1)) (35486 + 6 * (k9 + 1)) (by omega) (by omega) ?_
            exact zq_sub [3, 4, 5, 6, 0] rfl (hrec_24 _ rfl)
          · have hF := (zq_ifp hF c_76)
            refine zq_aload_n (pc' := 274) C dL_law_273 rfl rfl rfl ?_
            refine zq_iconst (pc' := 275) C 0 dL_law_274 rfl (by decide) ?_
            replace hF := zq_bd hF; obtain ⟨v_79, e_80, hF⟩ := hF
            refine zq_laload (pc' := 276) C dL_law_275 rfl e_80 ?_
            refine zq_iload (pc' := 278) C dL_law_276 rfl rfl ?_
            refine zq_i2l (pc' := 279) C dL_law_278 rfl ?_
            refine zq_lcmp (pc' := 280) C dL_law_279 rfl ?_
            refine zq_if_eq (pc' := 283) C 285 dL_law_280 (by decide) rfl (fun c_81 => ?_) (fun c_81 => ?_)
            · have hF := (zq_ifp hF c_81)
              skip
              refine zq_goto C 1526 dL_law_285 (by decide) ?_
              replace hF := zq_let_e hF; obtain ⟨v_82, e_83, hF⟩ := hF
              refine zq_iinc (lv' := [(4, .int v_82), (6, .int v_69.1), (5, .int v_61.1), (0, .retAddr b), (1, .ref v_6), (2, .ref v_13), (3, .ref v_17)]) (pc' := 1529) C dL_law_1526 rfl (by decide) 6 rfl e_83 rfl ?_
              refine zq_goto C 23 dL_law_1529 (by decide) ?_
              cases hF
              refine zq_widen (119 + (k9 + 1)) (35486 + 6 * (k9 + 1)) (by omega) (by omega) ?_
              exact zq_sub [3, 4, 5, 6, 0] rfl (hrec_24 _ rfl)
            · have hF := (zq_ifn hF c_81)
              refine zq_iconst (pc' := 284) C 0 dL_law_283 rfl (by decide) ?_
              cases hF
              have q9 : (1 : Int32) = 0 := hex_25 _ rfl
              exact absurd q9 (by decide)
        · have hF := (zq_ifn hF c_75)
          refine zq_iconst (pc' := 267) C 0 dL_law_266 rfl (by decide) ?_
          cases hF
          have q9 : (1 : Int32) = 0 := hex_25 _ rfl
          exact absurd q9 (by decide)
      have hF := zq_ifn hF c_54
      by_cases c_84 : (v_30 &&& 31) = 2
      · have hF := zq_ifp hF c_84
        refine zq_tsIn C 288 dL_law_39 (by rw [c_84]; decide) (by rw [c_84]; decide) (by rw [c_84]; rfl) (by decide) ?_
        refine zq_aload_n (pc' := 289) C dL_law_288 rfl rfl rfl ?_
        refine zq_aloadR_n (pc' := 290) C dL_law_289 rfl rfl rfl ?_
        refine zq_iload (pc' := 292) C dL_law_290 rfl rfl ?_
        refine zq_iconst (pc' := 293) C 1 dL_law_292 rfl (by decide) ?_
        refine zq_iadd (pc' := 294) C dL_law_293 rfl ?_
        replace hF := zq_bd hF; obtain ⟨v_85, e_86, hF⟩ := hF
        refine zq_sld (pc' := 295) C hs dL_law_294 rfl e_86 ?_
        refine zq_aloadR_n (pc' := 296) C dL_law_295 rfl rfl rfl ?_
        refine zq_iload (pc' := 298) C dL_law_296 rfl rfl ?_
        refine zq_iconst (pc' := 299) C 2 dL_law_298 rfl (by decide) ?_
        refine zq_iadd (pc' := 300) C dL_law_299 rfl ?_
        replace hF := zq_bd hF; obtain ⟨v_87, e_88, hF⟩ := hF
        refine zq_sld (pc' := 301) C hs dL_law_300 rfl e_88 ?_
        refine zq_aload_n (pc' := 302) C dL_law_301 rfl rfl rfl ?_
        replace hF := zq_bd hF; obtain ⟨v_89, e_90, hF⟩ := hF
        refine zq_callL (pc' := 305) C (c_L_fan e_90) yl_L_fan wd_801 dL_law_302 rfl rfl rfl ⟨Nat.le_of_ble_eq_true rfl, Nat.le_of_ble_eq_true rfl⟩ (Nat.le_of_ble_eq_true rfl) hc1 ?_
        refine zq_widen (119 + k9 + 1) (35486 + 6 * k9 + 6) (Nat.le_refl _) (Nat.le_refl _) ?_
        refine zq_istore (lv' := [(5, .int v_89.1), (0, .retAddr b), (1, .ref v_6), (2, .ref v_13), (3, .ref v_17), (4, .int s_19.1)]) (pc' := 307) C dL_law_305 rfl (by decide) rfl rfl ?_
        refine zq_aload_n (pc' := 308) C dL_law_307 rfl rfl rfl ?_
        refine zq_aloadR_n (pc' := 309) C dL_law_308 rfl rfl rfl ?_
        refine zq_iload (pc' := 311) C dL_law_309 rfl rfl ?_
        refine zq_iconst (pc' := 312) C 1 dL_law_311 rfl (by decide) ?_
        refine zq_iadd (pc' := 313) C dL_law_312 rfl ?_
        replace hF := zq_bd hF; obtain ⟨v_91, e_92, hF⟩ := hF
        refine zq_sld (pc' := 314) C hs dL_law_313 rfl e_92 ?_
        refine zq_aloadR_n (pc' := 315) C dL_law_314 rfl rfl rfl ?_
        refine zq_iload (pc' := 317) C dL_law_315 rfl rfl ?_
        refine zq_iconst (pc' := 318) C 2 dL_law_317 rfl (by decide) ?_
        refine zq_iadd (pc' := 319) C dL_law_318 rfl ?_
        replace hF := zq_bd hF; obtain ⟨v_93, e_94, hF⟩ := hF
        refine zq_sld (pc' := 320) C hs dL_law_319 rfl e_94 ?_
        replace hF := zq_ck_e hF; obtain ⟨e_97, hF⟩ := hF
        replace hF := zq_bd hF; obtain ⟨v_95, e_96, hF⟩ := hF
        refine zq_cV (pc' := 323) C (c_X6_fan e_96) yv_X6_fan wd_803 zq_K6 e_97 dL_law_320 rfl rfl rfl ⟨Nat.le_of_ble_eq_true rfl, Nat.le_of_ble_eq_true rfl⟩ (Nat.le_of_ble_eq_true rfl) ⟨rfl, rfl⟩ hc1 rfl ?_
        refine zq_istore (lv' := [(6, .int v_95.1), (5, .int v_89.1), (0, .retAddr b), (1, .ref v_6), (2, .ref v_13), (3, .ref v_17), (4, .int s_19.1)]) (pc' := 325) C dL_law_323 rfl (by decide) rfl rfl ?_
        refine zq_aload_n (pc' := 326) C dL_law_325 rfl rfl rfl ?_
        replace hF := zq_ck_e hF; obtain ⟨e_100, hF⟩ := hF
        replace hF := zq_bd hF; obtain ⟨v_98, e_99, hF⟩ := hF
        refine zq_cV (pc' := 329) C (c_X6_thrown e_99) yv_X6_thrown wd_793 zq_K6 e_100 dL_law_326 rfl rfl rfl ⟨Nat.le_of_ble_eq_true rfl, Nat.le_of_ble_eq_true rfl⟩ (Nat.le_of_ble_eq_true rfl) ⟨rfl, rfl⟩ hc1 rfl ?_
        refine zq_iload (pc' := 331) C dL_law_329 rfl rfl ?_
        refine zq_icmp_eq (pc' := 334) C 336 dL_law_331 (by decide) rfl (fun c_101 => ?_) (fun c_101 => ?_)
        · have hF := (zq_ifp hF c_101)
          skip
          refine zq_iload (pc' := 338) C dL_law_336 rfl rfl ?_
          refine zq_if_ne (pc' := 341) C 353 dL_law_338 (by decide) rfl (fun c_102 => ?_) (fun c_102 => ?_)
          · have hF := (zq_ifn hF c_102)
            skip
            refine zq_goto C 1526 dL_law_353 (by decide) ?_
            replace hF := zq_let_e hF; obtain ⟨v_103, e_104, hF⟩ := hF
            refine zq_iinc (lv' := [(4, .int v_103), (6, .int v_95.1), (5, .int v_89.1), (0, .retAddr b), (1, .ref v_6), (2, .ref v_13), (3, .ref v_17)]) (pc' := 1529) C dL_law_1526 rfl (by decide) 6 rfl e_104 rfl ?_
            refine zq_goto C 23 dL_law_1529 (by decide) ?_
            cases hF
            refine zq_widen (119 + (k9 + 1)) (35486 + 6 * (k9 + 1)) (by omega) (by omega) ?_
            exact zq_sub [3, 4, 5, 6, 0] rfl (hrec_24 _ rfl)
          · have hF := (zq_ifp hF c_102)
            refine zq_aload_n (pc' := 342) C dL_law_341 rfl rfl rfl ?_
            refine zq_iconst (pc' := 343) C 0 dL_law_342 rfl (by decide) ?_
            replace hF := zq_bd hF; obtain ⟨v_105, e_106, hF⟩ := hF
            refine zq_laload (pc' := 344) C dL_law_343 rfl e_106 ?_
            refine zq_iload (pc' := 346) C dL_law_344 rfl rfl ?_
            refine zq_i2l (pc' := 347) C dL_law_346 rfl ?_
            refine zq_lcmp (pc' := 348) C dL_law_347 rfl ?_
            refine zq_if_eq (pc' := 351) C 353 dL_law_348 (by decide) rfl (fun c_107 => ?_) (fun c_107 => ?_)
            · have hF := (zq_ifp hF c_107)
              skip
              refine zq_goto C 1526 dL_law_353 (by decide) ?_
              replace hF := zq_let_e hF; obtain ⟨v_108, e_109, hF⟩ := hF
              refine zq_iinc (lv' := [(4, .int v_108), (6, .int v_95.1), (5, .int v_89.1), (0, .retAddr b), (1, .ref v_6), (2, .ref v_13), (3, .ref v_17)]) (pc' := 1529) C dL_law_1526 rfl (by decide) 6 rfl e_109 rfl ?_
              refine zq_goto C 23 dL_law_1529 (by decide) ?_
              cases hF
              refine zq_widen (119 + (k9 + 1)) (35486 + 6 * (k9 + 1)) (by omega) (by omega) ?_
              exact zq_sub [3, 4, 5, 6, 0] rfl (hrec_24 _ rfl)
            · have hF := (zq_ifn hF c_107)
              refine zq_iconst (pc' := 352) C 0 dL_law_351 rfl (by decide) ?_
              cases hF
              have q9 : (1 : Int32) = 0 := hex_25 _ rfl
              exact absurd q9 (by decide)
        · have hF := (zq_ifn hF c_101)
          refine zq_iconst (pc' := 335) C 0 dL_law_334 rfl (by decide) ?_
          cases hF
          have q9 : (1 : Int32) = 0 := hex_25 _ rfl
          exact absurd q9 (by decide)
      have hF := zq_ifn hF c_84
      by_cases c_110 : (v_30 &&& 31) = 3
      · have hF := zq_ifp hF c_110
        refine zq_tsIn C 356 dL_law_39 (by rw [c_110]; decide) (by rw [c_110]; decide) (by rw [c_110]; rfl) (by decide) ?_
        refine zq_aload_n (pc' := 357) C dL_law_356 rfl rfl rfl ?_
        refine zq_aloadR_n (pc' := 358) C dL_law_357 rfl rfl rfl ?_
        refine zq_iload (pc' := 360) C dL_law_358 rfl rfl ?_
        refine zq_iconst (pc' := 361) C 1 dL_law_360 rfl (by decide) ?_
        refine zq_iadd (pc' := 362) C dL_law_361 rfl ?_
        replace hF := zq_bd hF; obtain ⟨v_111, e_112, hF⟩ := hF
        refine zq_sld (pc' := 363) C hs dL_law_362 rfl e_112 ?_
        refine zq_aloadR_n (pc' := 364) C dL_law_363 rfl rfl rfl ?_
        refine zq_iload (pc' := 366) C dL_law_364 rfl rfl ?_
        refine zq_iconst (pc' := 367) C 2 dL_law_366 rfl (by decide) ?_
        refine zq_iadd (pc' := 368) C dL_law_367 rfl ?_
        replace hF := zq_bd hF; obtain ⟨v_113, e_114, hF⟩ := hF
        refine zq_sld (pc' := 369) C hs dL_law_368 rfl e_114 ?_
        refine zq_aload_n (pc' := 370) C dL_law_369 rfl rfl rfl ?_
        replace hF := zq_bd hF; obtain ⟨v_115, e_116, hF⟩ := hF
        refine zq_callL (pc' := 373) C (c_L_turn e_116) yl_L_turn wd_806 dL_law_370 rfl rfl rfl ⟨Nat.le_of_ble_eq_true rfl, Nat.le_of_ble_eq_true rfl⟩ (Nat.le_of_ble_eq_true rfl) hc1 ?_
        refine zq_widen (119 + k9 + 1) (35486 + 6 * k9 + 6) (Nat.le_refl _) (Nat.le_refl _) ?_
        refine zq_istore (lv' := [(5, .int v_115.1), (0, .retAddr b), (1, .ref v_6), (2, .ref v_13), (3, .ref v_17), (4, .int s_19.1)]) (pc' := 375) C dL_law_373 rfl (by decide) rfl rfl ?_
        refine zq_aload_n (pc' := 376) C dL_law_375 rfl rfl rfl ?_
        refine zq_aloadR_n (pc' := 377) C dL_law_376 rfl rfl rfl ?_
        refine zq_iload (pc' := 379) C dL_law_377 rfl rfl ?_
        refine zq_iconst (pc' := 380) C 1 dL_law_379 rfl (by decide) ?_
        refine zq_iadd (pc' := 381) C dL_law_380 rfl ?_
        replace hF := zq_bd hF; obtain ⟨v_117, e_118, hF⟩ := hF
        refine zq_sld (pc' := 382) C hs dL_law_381 rfl e_118 ?_
        refine zq_aloadR_n (pc' := 383) C dL_law_382 rfl rfl rfl ?_
        refine zq_iload (pc' := 385) C dL_law_383 rfl rfl ?_
        refine zq_iconst (pc' := 386) C 2 dL_law_385 rfl (by decide) ?_
        refine zq_iadd (pc' := 387) C dL_law_386 rfl ?_
        replace hF := zq_bd hF; obtain ⟨v_119, e_120, hF⟩ := hF
        refine zq_sld (pc' := 388) C hs dL_law_387 rfl e_120 ?_
        replace hF := zq_ck_e hF; obtain ⟨e_123, hF⟩ := hF
        replace hF := zq_bd hF; obtain ⟨v_121, e_122, hF⟩ := hF
        refine zq_cV (pc' := 391) C (c_X6_turn e_122) yv_X6_turn wd_808 zq_K6 e_123 dL_law_388 rfl rfl rfl ⟨Nat.le_of_ble_eq_true rfl, Nat.le_of_ble_eq_true rfl⟩ (Nat.le_of_ble_eq_true rfl) ⟨rfl, rfl⟩ hc1 rfl ?_
        refine zq_istore (lv' := [(6, .int v_121.1), (5, .int v_115.1), (0, .retAddr b), (1, .ref v_6), (2, .ref v_13), (3, .ref v_17), (4, .int s_19.1)]) (pc' := 393) C dL_law_391 rfl (by decide) rfl rfl ?_
        refine zq_aload_n (pc' := 394) C dL_law_393 rfl rfl rfl ?_
        replace hF := zq_ck_e hF; obtain ⟨e_126, hF⟩ := hF
        replace hF := zq_bd hF; obtain ⟨v_124, e_125, hF⟩ := hF
        refine zq_cV (pc' := 397) C (c_X6_thrown e_125) yv_X6_thrown wd_793 zq_K6 e_126 dL_law_394 rfl rfl rfl ⟨Nat.le_of_ble_eq_true rfl, Nat.le_of_ble_eq_true rfl⟩ (Nat.le_of_ble_eq_true rfl) ⟨rfl, rfl⟩ hc1 rfl ?_
        refine zq_iload (pc' := 399) C dL_law_397 rfl rfl ?_
        refine zq_icmp_eq (pc' := 402) C 404 dL_law_399 (by decide) rfl (fun c_127 => ?_) (fun c_127 => ?_)
        · have hF := (zq_ifp hF c_127)
          skip
          refine zq_iload (pc' := 406) C dL_law_404 rfl rfl ?_
          refine zq_if_ne (pc' := 409) C 421 dL_law_406 (by decide) rfl (fun c_128 => ?_) (fun c_128 => ?_)
          · have hF := (zq_ifn hF c_128)
            skip
            refine zq_goto C 1526 dL_law_421 (by decide) ?_
            replace hF := zq_let_e hF; obtain ⟨v_129, e_130, hF⟩ := hF
            refine zq_iinc (lv' := [(4, .int v_129), (6, .int v_121.1), (5, .int v_115.1), (0, .retAddr b), (1, .ref v_6), (2, .ref v_13), (3, .ref v_17)]) (pc' := 1529) C dL_law_1526 rfl (by decide) 6 rfl e_130 rfl ?_
            refine zq_goto C 23 dL_law_1529 (by decide) ?_
            cases hF
            refine zq_widen (119 + (k9 + 1)) (35486 + 6 * (k9 + 1)) (by omega) (by omega) ?_
            exact zq_sub [3, 4, 5, 6, 0] rfl (hrec_24 _ rfl)
          · have hF := (zq_ifp hF c_128)
            refine zq_aload_n (pc' := 410) C dL_law_409 rfl rfl rfl ?_
            refine zq_iconst (pc' := 411) C 0 dL_law_410 rfl (by decide) ?_
            replace hF := zq_bd hF; obtain ⟨v_131, e_132, hF⟩ := hF
            refine zq_laload (pc' := 412) C dL_law_411 rfl e_132 ?_
            refine zq_iload (pc' := 414) C dL_law_412 rfl rfl ?_
            refine zq_i2l (pc' := 415) C dL_law_414 rfl ?_
            refine zq_lcmp (pc' := 416) C dL_law_415 rfl ?_
            refine zq_if_eq (pc' := 419) C 421 dL_law_416 (by decide) rfl (fun c_133 => ?_) (fun c_133 => ?_)
            · have hF := (zq_ifp hF c_133)
              skip
              refine zq_goto C 1526 dL_law_421 (by decide) ?_
              replace hF := zq_let_e hF; obtain ⟨v_134, e_135, hF⟩ := hF
              refine zq_iinc (lv' := [(4, .int v_134), (6, .int v_121.1), (5, .int v_115.1), (0, .retAddr b), (1, .ref v_6), (2, .ref v_13), (3, .ref v_17)]) (pc' := 1529) C dL_law_1526 rfl (by decide) 6 rfl e_135 rfl ?_
              refine zq_goto C 23 dL_law_1529 (by decide) ?_
              cases hF
              refine zq_widen (119 + (k9 + 1)) (35486 + 6 * (k9 + 1)) (by omega) (by omega) ?_
              exact zq_sub [3, 4, 5, 6, 0] rfl (hrec_24 _ rfl)
            · have hF := (zq_ifn hF c_133)
              refine zq_iconst (pc' := 420) C 0 dL_law_419 rfl (by decide) ?_
              cases hF
              have q9 : (1 : Int32) = 0 := hex_25 _ rfl
              exact absurd q9 (by decide)
        · have hF := (zq_ifn hF c_127)
          refine zq_iconst (pc' := 403) C 0 dL_law_402 rfl (by decide) ?_
          cases hF
          have q9 : (1 : Int32) = 0 := hex_25 _ rfl
          exact absurd q9 (by decide)
      have hF := zq_ifn hF c_110
      by_cases c_136 : (v_30 &&& 31) = 4
      · have hF := zq_ifp hF c_136
        refine zq_tsIn C 424 dL_law_39 (by rw [c_136]; decide) (by rw [c_136]; decide) (by rw [c_136]; rfl) (by decide) ?_
        refine zq_aload_n (pc' := 425) C dL_law_424 rfl rfl rfl ?_
        refine zq_aloadR_n (pc' := 426) C dL_law_425 rfl rfl rfl ?_
        refine zq_iload (pc' := 428) C dL_law_426 rfl rfl ?_
        refine zq_iconst (pc' := 429) C 1 dL_law_428 rfl (by decide) ?_
        refine zq_iadd (pc' := 430) C dL_law_429 rfl ?_
        replace hF := zq_bd hF; obtain ⟨v_137, e_138, hF⟩ := hF
        refine zq_sld (pc' := 431) C hs dL_law_430 rfl e_138 ?_
        refine zq_aload_n (pc' := 432) C dL_law_431 rfl rfl rfl ?_
        replace hF := zq_bd hF; obtain ⟨v_139, e_140, hF⟩ := hF
        refine zq_callL (pc' := 435) C (c_L_mirror e_140) yl_L_mirror wd_811 dL_law_432 rfl rfl rfl ⟨Nat.le_of_ble_eq_true rfl, Nat.le_of_ble_eq_true rfl⟩ (Nat.le_of_ble_eq_true rfl) hc1 ?_
        refine zq_widen (119 + k9 + 1) (35486 + 6 * k9 + 6) (Nat.le_refl _) (Nat.le_refl _) ?_
        refine zq_istore (lv' := [(5, .int v_139.1), (0, .retAddr b), (1, .ref v_6), (2, .ref v_13), (3, .ref v_17), (4, .int s_19.1)]) (pc' := 437) C dL_law_435 rfl (by decide) rfl rfl ?_
        refine zq_aload_n (pc' := 438) C dL_law_437 rfl rfl rfl ?_
        refine zq_aloadR_n (pc' := 439) C dL_law_438 rfl rfl rfl ?_
        refine zq_iload (pc' := 441) C dL_law_439 rfl rfl ?_
        refine zq_iconst (pc' := 442) C 1 dL_law_441 rfl (by decide) ?_
        refine zq_iadd (pc' := 443) C dL_law_442 rfl ?_
        replace hF := zq_bd hF; obtain ⟨v_141, e_142, hF⟩ := hF
        refine zq_sld (pc' := 444) C hs dL_law_443 rfl e_142 ?_
        replace hF := zq_ck_e hF; obtain ⟨e_145, hF⟩ := hF
        replace hF := zq_bd hF; obtain ⟨v_143, e_144, hF⟩ := hF
        refine zq_cV (pc' := 447) C (c_X6_mirror e_144) yv_X6_mirror wd_813 zq_K6 e_145 dL_law_444 rfl rfl rfl ⟨Nat.le_of_ble_eq_true rfl, Nat.le_of_ble_eq_true rfl⟩ (Nat.le_of_ble_eq_true rfl) ⟨rfl, rfl⟩ hc1 rfl ?_
        refine zq_istore (lv' := [(6, .int v_143.1), (5, .int v_139.1), (0, .retAddr b), (1, .ref v_6), (2, .ref v_13), (3, .ref v_17), (4, .int s_19.1)]) (pc' := 449) C dL_law_447 rfl (by decide) rfl rfl ?_
        refine zq_aload_n (pc' := 450) C dL_law_449 rfl rfl rfl ?_
        replace hF := zq_ck_e hF; obtain ⟨e_148, hF⟩ := hF
        replace hF := zq_bd hF; obtain ⟨v_146, e_147, hF⟩ := hF
        refine zq_cV (pc' := 453) C (c_X6_thrown e_147) yv_X6_thrown wd_793 zq_K6 e_148 dL_law_450 rfl rfl rfl ⟨Nat.le_of_ble_eq_true rfl, Nat.le_of_ble_eq_true rfl⟩ (Nat.le_of_ble_eq_true rfl) ⟨rfl, rfl⟩ hc1 rfl ?_
        refine zq_iload (pc' := 455) C dL_law_453 rfl rfl ?_
        refine zq_icmp_eq (pc' := 458) C 460 dL_law_455 (by decide) rfl (fun c_149 => ?_) (fun c_149 => ?_)
        · have hF := (zq_ifp hF c_149)
          skip
          refine zq_iload (pc' := 462) C dL_law_460 rfl rfl ?_
          refine zq_if_ne (pc' := 465) C 477 dL_law_462 (by decide) rfl (fun c_150 => ?_) (fun c_150 => ?_)
          · have hF := (zq_ifn hF c_150)
            skip
            refine zq_goto C 1526 dL_law_477 (by decide) ?_
            replace hF := zq_let_e hF; obtain ⟨v_151, e_152, hF⟩ := hF
            refine zq_iinc (lv' := [(4, .int v_151), (6, .int v_143.1), (5, .int v_139.1), (0, .retAddr b), (1, .ref v_6), (2, .ref v_13), (3, .ref v_17)]) (pc' := 1529) C dL_law_1526 rfl (by decide) 6 rfl e_152 rfl ?_
            refine zq_goto C 23 dL_law_1529 (by decide) ?_
            cases hF
            refine zq_widen (119 + (k9 + 1)) (35486 + 6 * (k9 + 1)) (by omega) (by omega) ?_
            exact zq_sub [3, 4, 5, 6, 0] rfl (hrec_24 _ rfl)
          · have hF := (zq_ifp hF c_150)
            refine zq_aload_n (pc' := 466) C dL_law_465 rfl rfl rfl ?_
            refine zq_iconst (pc' := 467) C 0 dL_law_466 rfl (by decide) ?_
            replace hF := zq_bd hF; obtain ⟨v_153, e_154, hF⟩ := hF
            refine zq_laload (pc' := 468) C dL_law_467 rfl e_154 ?_
            refine zq_iload (pc' := 470) C dL_law_468 rfl rfl ?_
            refine zq_i2l (pc' := 471) C dL_law_470 rfl ?_
            refine zq_lcmp (pc' := 472) C dL_law_471 rfl ?_
            refine zq_if_eq (pc' := 475) C 477 dL_law_472 (by decide) rfl (fun c_155 => ?_) (fun c_155 => ?_)
            · have hF := (zq_ifp hF c_155)
              skip
              refine zq_goto C 1526 dL_law_477 (by decide) ?_
              replace hF := zq_let_e hF; obtain ⟨v_156, e_157, hF⟩ := hF
              refine zq_iinc (lv' := [(4, .int v_156), (6, .int v_143.1), (5, .int v_139.1), (0, .retAddr b), (1, .ref v_6), (2, .ref v_13), (3, .ref v_17)]) (pc' := 1529) C dL_law_1526 rfl (by decide) 6 rfl e_157 rfl ?_
              refine zq_goto C 23 dL_law_1529 (by decide) ?_
              cases hF
              refine zq_widen (119 + (k9 + 1)) (35486 + 6 * (k9 + 1)) (by omega) (by omega) ?_
              exact zq_sub [3, 4, 5, 6, 0] rfl (hrec_24 _ rfl)
            · have hF := (zq_ifn hF c_155)
              refine zq_iconst (pc' := 476) C 0 dL_law_475 rfl (by decide) ?_
              cases hF
              have q9 : (1 : Int32) = 0 := hex_25 _ rfl
              exact absurd q9 (by decide)
        · have hF := (zq_ifn hF c_149)
          refine zq_iconst (pc' := 459) C 0 dL_law_458 rfl (by decide) ?_
          cases hF
          have q9 : (1 : Int32) = 0 := hex_25 _ rfl
          exact absurd q9 (by decide)
      have hF := zq_ifn hF c_136
      by_cases c_158 : (v_30 &&& 31) = 5
      · have hF := zq_ifp hF c_158
        refine zq_tsIn C 480 dL_law_39 (by rw [c_158]; decide) (by rw [c_158]; decide) (by rw [c_158]; rfl) (by decide) ?_
        refine zq_aload_n (pc' := 481) C dL_law_480 rfl rfl rfl ?_
        replace hF := zq_ck_e hF; obtain ⟨e_161, hF⟩ := hF
        replace hF := zq_bd hF; obtain ⟨v_159, e_160, hF⟩ := hF
        refine zq_cV (pc' := 484) C (c_X5_exchange e_160) yv_X5_exchange wd_816 zq_K5 e_161 dL_law_481 rfl rfl rfl ⟨Nat.le_of_ble_eq_true rfl, Nat.le_of_ble_eq_true rfl⟩ (Nat.le_of_ble_eq_true rfl) ⟨rfl, rfl⟩ hc0 rfl ?_
        refine zq_aload_n (pc' := 485) C dL_law_484 rfl rfl rfl ?_
        replace hF := zq_ck_e hF; obtain ⟨e_164, hF⟩ := hF
        replace hF := zq_bd hF; obtain ⟨v_162, e_163, hF⟩ := hF
        refine zq_cV (pc' := 488) C (c_X6_exchange e_163) yv_X6_exchange wd_819 zq_K6 e_164 dL_law_485 rfl rfl rfl ⟨Nat.le_of_ble_eq_true rfl, Nat.le_of_ble_eq_true rfl⟩ (Nat.le_of_ble_eq_true rfl) ⟨rfl, rfl⟩ hc0 rfl ?_
        refine zq_icmp_eq (pc' := 491) C 1526 dL_law_488 (by decide) rfl (fun c_165 => ?_) (fun c_165 => ?_)
        · have hF := (zq_ifp hF c_165)
          skip
          replace hF := zq_let_e hF; obtain ⟨v_166, e_167, hF⟩ := hF
          refine zq_iinc (lv' := [(4, .int v_166), (0, .retAddr b), (1, .ref v_6), (2, .ref v_13), (3, .ref v_17)]) (pc' := 1529) C dL_law_1526 rfl (by decide) 4 rfl e_167 rfl ?_
          refine zq_goto C 23 dL_law_1529 (by decide) ?_
          cases hF
          refine zq_widen (119 + (k9 + 1)) (35486 + 6 * (k9 + 1)) (by omega) (by omega) ?_
          exact zq_sub [1, 2, 3, 4, 0] rfl (hrec_24 _ rfl)
        · have hF := (zq_ifn hF c_165)
          refine zq_iconst (pc' := 492) C 0 dL_law_491 rfl (by decide) ?_
          cases hF
          have q9 : (1 : Int32) = 0 := hex_25 _ rfl
          exact absurd q9 (by decide)
      have hF := zq_ifn hF c_158
      by_cases c_168 : (v_30 &&& 31) = 6
      · have hF := zq_ifp hF c_168
        refine zq_tsIn C 493 dL_law_39 (by rw [c_168]; decide) (by rw [c_168]; decide) (by rw [c_168]; rfl) (by decide) ?_
        refine zq_aload_n (pc' := 494) C dL_law_493 rfl rfl rfl ?_
        refine zq_aloadR_n (pc' := 495) C dL_law_494 rfl rfl rfl ?_
        refine zq_iload (pc' := 497) C dL_law_495 rfl rfl ?_
        refine zq_iconst (pc' := 498) C 1 dL_law_497 rfl (by decide) ?_
        refine zq_iadd (pc' := 499) C dL_law_498 rfl ?_
        replace hF := zq_bd hF; obtain ⟨v_169, e_170, hF⟩ := hF
        refine zq_sld (pc' := 500) C hs dL_law_499 rfl e_170 ?_
        refine zq_aloadR_n (pc' := 501) C dL_law_500 rfl rfl rfl ?_
        refine zq_iload (pc' := 503) C dL_law_501 rfl rfl ?_
        refine zq_iconst (pc' := 504) C 2 dL_law_503 rfl (by decide) ?_
        refine zq_iadd (pc' := 505) C dL_law_504 rfl ?_
        replace hF := zq_bd hF; obtain ⟨v_171, e_172, hF⟩ := hF
        refine zq_sld (pc' := 506) C hs dL_law_505 rfl e_172 ?_
        refine zq_aloadR_n (pc' := 507) C dL_law_506 rfl rfl rfl ?_
        refine zq_iload (pc' := 509) C dL_law_507 rfl rfl ?_
        refine zq_iconst (pc' := 510) C 3 dL_law_509 rfl (by decide) ?_
        refine zq_iadd (pc' := 511) C dL_law_510 rfl ?_
        replace hF := zq_bd hF; obtain ⟨v_173, e_174, hF⟩ := hF
        refine zq_sld (pc' := 512) C hs dL_law_511 rfl e_174 ?_
        refine zq_if_eq (pc' := 515) C 519 dL_law_512 (by decide) rfl (fun c_175 => ?_) (fun c_175 => ?_)
        · have hF := (zq_ifp hF c_175)
          skip
          refine zq_iconst (pc' := 520) C 0 dL_law_519 rfl (by decide) ?_
          refine zq_aload_n (pc' := 521) C dL_law_520 rfl rfl rfl ?_
          replace hF := zq_bd hF; obtain ⟨v_176, e_177, hF⟩ := hF
          refine zq_callL (pc' := 524) C (c_L_lock e_177) yl_L_lock wd_822 dL_law_521 rfl rfl rfl ⟨Nat.le_of_ble_eq_true rfl, Nat.le_of_ble_eq_true rfl⟩ (Nat.le_of_ble_eq_true rfl) hc1 ?_
          refine zq_widen (119 + k9 + 1) (35486 + 6 * k9 + 6) (Nat.le_refl _) (Nat.le_refl _) ?_
          refine zq_istore (lv' := [(5, .int v_176.1), (0, .retAddr b), (1, .ref v_6), (2, .ref v_13), (3, .ref v_17), (4, .int s_19.1)]) (pc' := 526) C dL_law_524 rfl (by decide) rfl rfl ?_
          refine zq_aload_n (pc' := 527) C dL_law_526 rfl rfl rfl ?_
          refine zq_aloadR_n (pc' := 528) C dL_law_527 rfl rfl rfl ?_
          refine zq_iload (pc' := 530) C dL_law_528 rfl rfl ?_
          refine zq_iconst (pc' := 531) C 1 dL_law_530 rfl (by decide) ?_
          refine zq_iadd (pc' := 532) C dL_law_531 rfl ?_
          replace hF := zq_bd hF; obtain ⟨v_178, e_179, hF⟩ := hF
          refine zq_sld (pc' := 533) C hs dL_law_532 rfl e_179 ?_
          refine zq_aloadR_n (pc' := 534) C dL_law_533 rfl rfl rfl ?_
          refine zq_iload (pc' := 536) C dL_law_534 rfl rfl ?_
          refine zq_iconst (pc' := 537) C 2 dL_law_536 rfl (by decide) ?_
          refine zq_iadd (pc' := 538) C dL_law_537 rfl ?_
          replace hF := zq_bd hF; obtain ⟨v_180, e_181, hF⟩ := hF
          refine zq_sld (pc' := 539) C hs dL_law_538 rfl e_181 ?_
          refine zq_aloadR_n (pc' := 540) C dL_law_539 rfl rfl rfl ?_
          refine zq_iload (pc' := 542) C dL_law_540 rfl rfl ?_
          refine zq_iconst (pc' := 543) C 3 dL_law_542 rfl (by decide) ?_
          refine zq_iadd (pc' := 544) C dL_law_543 rfl ?_
          replace hF := zq_bd hF; obtain ⟨v_182, e_183, hF⟩ := hF
          refine zq_sld (pc' := 545) C hs dL_law_544 rfl e_183 ?_
          refine zq_if_eq (pc' := 548) C 552 dL_law_545 (by decide) rfl (fun c_184 => ?_) (fun c_184 => ?_)
          · have hF := (zq_ifp hF c_184)
            skip
            refine zq_iconst (pc' := 553) C 0 dL_law_552 rfl (by decide) ?_
            replace hF := zq_ck_e hF; obtain ⟨e_187, hF⟩ := hF
            replace hF := zq_bd hF; obtain ⟨v_185, e_186, hF⟩ := hF
            refine zq_cV (pc' := 556) C (c_X6_lock e_186) yv_X6_lock wd_824 zq_K6 e_187 dL_law_553 rfl rfl rfl ⟨Nat.le_of_ble_eq_true rfl, Nat.le_of_ble_eq_true rfl⟩ (Nat.le_of_ble_eq_true rfl) ⟨rfl, rfl⟩ hc1 rfl ?_
            refine zq_istore (lv' := [(6, .int v_185.1), (5, .int v_176.1), (0, .retAddr b), (1, .ref v_6), (2, .ref v_13), (3, .ref v_17), (4, .int s_19.1)]) (pc' := 558) C dL_law_556 rfl (by decide) rfl rfl ?_
            refine zq_aload_n (pc' := 559) C dL_law_558 rfl rfl rfl ?_
            replace hF := zq_ck_e hF; obtain ⟨e_190, hF⟩ := hF
            replace hF := zq_bd hF; obtain ⟨v_188, e_189, hF⟩ := hF
            refine zq_cV (pc' := 562) C (c_X6_thrown e_189) yv_X6_thrown wd_793 zq_K6 e_190 dL_law_559 rfl rfl rfl ⟨Nat.le_of_ble_eq_true rfl, Nat.le_of_ble_eq_true rfl⟩ (Nat.le_of_ble_eq_true rfl) ⟨rfl, rfl⟩ hc1 rfl ?_
            refine zq_iload (pc' := 564) C dL_law_562 rfl rfl ?_
            refine zq_icmp_eq (pc' := 567) C 569 dL_law_564 (by decide) rfl (fun c_191 => ?_) (fun c_191 => ?_)
            · have hF := (zq_ifp hF c_191)
              skip
              refine zq_iload (pc' := 571) C dL_law_569 rfl rfl ?_
              refine zq_if_ne (pc' := 574) C 586 dL_law_571 (by decide) rfl (fun c_192 => ?_) (fun c_192 => ?_)
              · have hF := (zq_ifn hF c_192)
                skip
                refine zq_goto C 1526 dL_law_586 (by decide) ?_
                replace hF := zq_let_e hF; obtain ⟨v_193, e_194, hF⟩ := hF
                refine zq_iinc (lv' := [(4, .int v_193), (6, .int v_185.1), (5, .int v_176.1), (0, .retAddr b), (1, .ref v_6), (2, .ref v_13), (3, .ref v_17)]) (pc' := 1529) C dL_law_1526 rfl (by decide) 6 rfl e_194 rfl ?_
                refine zq_goto C 23 dL_law_1529 (by decide) ?_
                cases hF
                refine zq_widen (119 + (k9 + 1)) (35486 + 6 * (k9 + 1)) (by omega) (by omega) ?_
                exact zq_sub [3, 4, 5, 6, 0] rfl (hrec_24 _ rfl)
              · have hF := (zq_ifp hF c_192)
                refine zq_aload_n (pc' := 575) C dL_law_574 rfl rfl rfl ?_
                refine zq_iconst (pc' := 576) C 0 dL_law_575 rfl (by decide) ?_
                replace hF := zq_bd hF; obtain ⟨v_195, e_196, hF⟩ := hF
                refine zq_laload (pc' := 577) C dL_law_576 rfl e_196 ?_
                refine zq_iload (pc' := 579) C dL_law_577 rfl rfl ?_
                refine zq_i2l (pc' := 580) C dL_law_579 rfl ?_
                refine zq_lcmp (pc' := 581) C dL_law_580 rfl ?_
                refine zq_if_eq (pc' := 584) C 586 dL_law_581 (by decide) rfl (fun c_197 => ?_) (fun c_197 => ?_)
                · have hF := (zq_ifp hF c_197)
                  skip
                  refine zq_goto C 1526 dL_law_586 (by decide) ?_
                  replace hF := zq_let_e hF; obtain ⟨v_198, e_199, hF⟩ := hF
                  refine zq_iinc (lv' := [(4, .int v_198), (6, .int v_185.1), (5, .int v_176.1), (0, .retAddr b), (1, .ref v_6), (2, .ref v_13), (3, .ref v_17)]) (pc' := 1529) C dL_law_1526 rfl (by decide) 6 rfl e_199 rfl ?_
                  refine zq_goto C 23 dL_law_1529 (by decide) ?_
                  cases hF
                  refine zq_widen (119 + (k9 + 1)) (35486 + 6 * (k9 + 1)) (by omega) (by omega) ?_
                  exact zq_sub [3, 4, 5, 6, 0] rfl (hrec_24 _ rfl)
                · have hF := (zq_ifn hF c_197)
                  refine zq_iconst (pc' := 585) C 0 dL_law_584 rfl (by decide) ?_
                  cases hF
                  have q9 : (1 : Int32) = 0 := hex_25 _ rfl
                  exact absurd q9 (by decide)
            · have hF := (zq_ifn hF c_191)
              refine zq_iconst (pc' := 568) C 0 dL_law_567 rfl (by decide) ?_
              cases hF
              have q9 : (1 : Int32) = 0 := hex_25 _ rfl
              exact absurd q9 (by decide)
          · have hF := (zq_ifn hF c_184)
            refine zq_iconst (pc' := 549) C 1 dL_law_548 rfl (by decide) ?_
            refine zq_goto C 553 dL_law_549 (by decide) ?_
            replace hF := zq_ck_e hF; obtain ⟨e_202, hF⟩ := hF
            replace hF := zq_bd hF; obtain ⟨v_200, e_201, hF⟩ := hF
            refine zq_cV (pc' := 556) C (c_X6_lock e_201) yv_X6_lock wd_824 zq_K6 e_202 dL_law_553 rfl rfl rfl ⟨Nat.le_of_ble_eq_true rfl, Nat.le_of_ble_eq_true rfl⟩ (Nat.le_of_ble_eq_true rfl) ⟨rfl, rfl⟩ hc1 rfl ?_
            refine zq_istore (lv' := [(6, .int v_200.1), (5, .int v_176.1), (0, .retAddr b), (1, .ref v_6), (2, .ref v_13), (3, .ref v_17), (4, .int s_19.1)]) (pc' := 558) C dL_law_556 rfl (by decide) rfl rfl ?_
            refine zq_aload_n (pc' := 559) C dL_law_558 rfl rfl rfl ?_
            replace hF := zq_ck_e hF; obtain ⟨e_205, hF⟩ := hF
            replace hF := zq_bd hF; obtain ⟨v_203, e_204, hF⟩ := hF
            refine zq_cV (pc' := 562) C (c_X6_thrown e_204) yv_X6_thrown wd_793 zq_K6 e_205 dL_law_559 rfl rfl rfl ⟨Nat.le_of_ble_eq_true rfl, Nat.le_of_ble_eq_true rfl⟩ (Nat.le_of_ble_eq_true rfl) ⟨rfl, rfl⟩ hc1 rfl ?_
            refine zq_iload (pc' := 564) C dL_law_562 rfl rfl ?_
            refine zq_icmp_eq (pc' := 567) C 569 dL_law_564 (by decide) rfl (fun c_206 => ?_) (fun c_206 => ?_)
            · have hF := (zq_ifp hF c_206)
              skip
              refine zq_iload (pc' := 571) C dL_law_569 rfl rfl ?_
              refine zq_if_ne (pc' := 574) C 586 dL_law_571 (by decide) rfl (fun c_207 => ?_) (fun c_207 => ?_)
              · have hF := (zq_ifn hF c_207)
                skip
                refine zq_goto C 1526 dL_law_586 (by decide) ?_
                replace hF := zq_let_e hF; obtain ⟨v_208, e_209, hF⟩ := hF
                refine zq_iinc (lv' := [(4, .int v_208), (6, .int v_200.1), (5, .int v_176.1), (0, .retAddr b), (1, .ref v_6), (2, .ref v_13), (3, .ref v_17)]) (pc' := 1529) C dL_law_1526 rfl (by decide) 6 rfl e_209 rfl ?_
                refine zq_goto C 23 dL_law_1529 (by decide) ?_
                cases hF
                refine zq_widen (119 + (k9 + 1)) (35486 + 6 * (k9 + 1)) (by omega) (by omega) ?_
                exact zq_sub [3, 4, 5, 6, 0] rfl (hrec_24 _ rfl)
              · have hF := (zq_ifp hF c_207)
                refine zq_aload_n (pc' := 575) C dL_law_574 rfl rfl rfl ?_
                refine zq_iconst (pc' := 576) C 0 dL_law_575 rfl (by decide) ?_
                replace hF := zq_bd hF; obtain ⟨v_210, e_211, hF⟩ := hF
                refine zq_laload (pc' := 577) C dL_law_576 rfl e_211 ?_
                refine zq_iload (pc' := 579) C dL_law_577 rfl rfl ?_
                refine zq_i2l (pc' := 580) C dL_law_579 rfl ?_
                refine zq_lcmp (pc' := 581) C dL_law_580 rfl ?_
                refine zq_if_eq (pc' := 584) C 586 dL_law_581 (by decide) rfl (fun c_212 => ?_) (fun c_212 => ?_)
                · have hF := (zq_ifp hF c_212)
                  skip
                  refine zq_goto C 1526 dL_law_586 (by decide) ?_
                  replace hF := zq_let_e hF; obtain ⟨v_213, e_214, hF⟩ := hF
                  refine zq_iinc (lv' := [(4, .int v_213), (6, .int v_200.1), (5, .int v_176.1), (0, .retAddr b), (1, .ref v_6), (2, .ref v_13), (3, .ref v_17)]) (pc' := 1529) C dL_law_1526 rfl (by decide) 6 rfl e_214 rfl ?_
                  refine zq_goto C 23 dL_law_1529 (by decide) ?_
                  cases hF
                  refine zq_widen (119 + (k9 + 1)) (35486 + 6 * (k9 + 1)) (by omega) (by omega) ?_
                  exact zq_sub [3, 4, 5, 6, 0] rfl (hrec_24 _ rfl)
                · have hF := (zq_ifn hF c_212)
                  refine zq_iconst (pc' := 585) C 0 dL_law_584 rfl (by decide) ?_
                  cases hF
                  have q9 : (1 : Int32) = 0 := hex_25 _ rfl
                  exact absurd q9 (by decide)
            · have hF := (zq_ifn hF c_206)
              refine zq_iconst (pc' := 568) C 0 dL_law_567 rfl (by decide) ?_
              cases hF
              have q9 : (1 : Int32) = 0 := hex_25 _ rfl
              exact absurd q9 (by decide)
        · have hF := (zq_ifn hF c_175)
          refine zq_iconst (pc' := 516) C 1 dL_law_515 rfl (by decide) ?_
          refine zq_goto C 520 dL_law_516 (by decide) ?_
          refine zq_aload_n (pc' := 521) C dL_law_520 rfl rfl rfl ?_
          replace hF := zq_bd hF; obtain ⟨v_215, e_216, hF⟩ := hF
          refine zq_callL (pc' := 524) C (c_L_lock e_216) yl_L_lock wd_822 dL_law_521 rfl rfl rfl ⟨Nat.le_of_ble_eq_true rfl, Nat.le_of_ble_eq_true rfl⟩ (Nat.le_of_ble_eq_true rfl) hc1 ?_
          refine zq_widen (119 + k9 + 1) (35486 + 6 * k9 + 6) (Nat.le_refl _) (Nat.le_refl _) ?_
          refine zq_istore (lv' := [(5, .int v_215.1), (0, .retAddr b), (1, .ref v_6), (2, .ref v_13), (3, .ref v_17), (4, .int s_19.1)]) (pc' := 526) C dL_law_524 rfl (by decide) rfl rfl ?_
          refine zq_aload_n (pc' := 527) C dL_law_526 rfl rfl rfl ?_
          refine zq_aloadR_n (pc' := 528) C dL_law_527 rfl rfl rfl ?_
          refine zq_iload (pc' := 530) C dL_law_528 rfl rfl ?_
          refine zq_iconst (pc' := 531) C 1 dL_law_530 rfl (by decide) ?_
          refine zq_iadd (pc' := 532) C dL_law_531 rfl ?_
          replace hF := zq_bd hF; obtain ⟨v_217, e_218, hF⟩ := hF
          refine zq_sld (pc' := 533) C hs dL_law_532 rfl e_218 ?_
          refine zq_aloadR_n (pc' := 534) C dL_law_533 rfl rfl rfl ?_
          refine zq_iload (pc' := 536) C dL_law_534 rfl rfl ?_
          refine zq_iconst (pc' := 537) C 2 dL_law_536 rfl (by decide) ?_
          refine zq_iadd (pc' := 538) C dL_law_537 rfl ?_
          replace hF := zq_bd hF; obtain ⟨v_219, e_220, hF⟩ := hF
          refine zq_sld (pc' := 539) C hs dL_law_538 rfl e_220 ?_
          refine zq_aloadR_n (pc' := 540) C dL_law_539 rfl rfl rfl ?_
          refine zq_iload (pc' := 542) C dL_law_540 rfl rfl ?_
          refine zq_iconst (pc' := 543) C 3 dL_law_542 rfl (by decide) ?_
          refine zq_iadd (pc' := 544) C dL_law_543 rfl ?_
          replace hF := zq_bd hF; obtain ⟨v_221, e_222, hF⟩ := hF
          refine zq_sld (pc' := 545) C hs dL_law_544 rfl e_222 ?_
          refine zq_if_eq (pc' := 548) C 552 dL_law_545 (by decide) rfl (fun c_223 => ?_) (fun c_223 => ?_)
          · have hF := (zq_ifp hF c_223)
            skip
            refine zq_iconst (pc' := 553) C 0 dL_law_552 rfl (by decide) ?_
            replace hF := zq_ck_e hF; obtain ⟨e_226, hF⟩ := hF
            replace hF := zq_bd hF; obtain ⟨v_224, e_225, hF⟩ := hF
            refine zq_cV (pc' := 556) C (c_X6_lock e_225) yv_X6_lock wd_824 zq_K6 e_226 dL_law_553 rfl rfl rfl ⟨Nat.le_of_ble_eq_true rfl, Nat.le_of_ble_eq_true rfl⟩ (Nat.le_of_ble_eq_true rfl) ⟨rfl, rfl⟩ hc1 rfl ?_
            refine zq_istore (lv' := [(6, .int v_224.1), (5, .int v_215.1), (0, .retAddr b), (1, .ref v_6), (2, .ref v_13), (3, .ref v_17), (4, .int s_19.1)]) (pc' := 558) C dL_law_556 rfl (by decide) rfl rfl ?_
            refine zq_aload_n (pc' := 559) C dL_law_558 rfl rfl rfl ?_
            replace hF := zq_ck_e hF; obtain ⟨e_229, hF⟩ := hF
            replace hF := zq_bd hF; obtain ⟨v_227, e_228, hF⟩ := hF
            refine zq_cV (pc' := 562) C (c_X6_thrown e_228) yv_X6_thrown wd_793 zq_K6 e_229 dL_law_559 rfl rfl rfl ⟨Nat.le_of_ble_eq_true rfl, Nat.le_of_ble_eq_true rfl⟩ (Nat.le_of_ble_eq_true rfl) ⟨rfl, rfl⟩ hc1 rfl ?_
            refine zq_iload (pc' := 564) C dL_law_562 rfl rfl ?_
            refine zq_icmp_eq (pc' := 567) C 569 dL_law_564 (by decide) rfl (fun c_230 => ?_) (fun c_230 => ?_)
            · have hF := (zq_ifp hF c_230)
              skip
              refine zq_iload (pc' := 571) C dL_law_569 rfl rfl ?_
              refine zq_if_ne (pc' := 574) C 586 dL_law_571 (by decide) rfl (fun c_231 => ?_) (fun c_231 => ?_)
              · have hF := (zq_ifn hF c_231)
                skip
                refine zq_goto C 1526 dL_law_586 (by decide) ?_
                replace hF := zq_let_e hF; obtain ⟨v_232, e_233, hF⟩ := hF
                refine zq_iinc (lv' := [(4, .int v_232), (6, .int v_224.1), (5, .int v_215.1), (0, .retAddr b), (1, .ref v_6), (2, .ref v_13), (3, .ref v_17)]) (pc' := 1529) C dL_law_1526 rfl (by decide) 6 rfl e_233 rfl ?_
                refine zq_goto C 23 dL_law_1529 (by decide) ?_
                cases hF
                refine zq_widen (119 + (k9 + 1)) (35486 + 6 * (k9 + 1)) (by omega) (by omega) ?_
                exact zq_sub [3, 4, 5, 6, 0] rfl (hrec_24 _ rfl)
              · have hF := (zq_ifp hF c_231)
                refine zq_aload_n (pc' := 575) C dL_law_574 rfl rfl rfl ?_
                refine zq_iconst (pc' := 576) C 0 dL_law_575 rfl (by decide) ?_
                replace hF := zq_bd hF; obtain ⟨v_234, e_235, hF⟩ := hF
                refine zq_laload (pc' := 577) C dL_law_576 rfl e_235 ?_
                refine zq_iload (pc' := 579) C dL_law_577 rfl rfl ?_
                refine zq_i2l (pc' := 580) C dL_law_579 rfl ?_
                refine zq_lcmp (pc' := 581) C dL_law_580 rfl ?_
                refine zq_if_eq (pc' := 584) C 586 dL_law_581 (by decide) rfl (fun c_236 => ?_) (fun c_236 => ?_)
                · have hF := (zq_ifp hF c_236)
                  skip
                  refine zq_goto C 1526 dL_law_586 (by decide) ?_
                  replace hF := zq_let_e hF; obtain ⟨v_237, e_238, hF⟩ := hF
                  refine zq_iinc (lv' := [(4, .int v_237), (6, .int v_224.1), (5, .int v_215.1), (0, .retAddr b), (1, .ref v_6), (2, .ref v_13), (3, .ref v_17)]) (pc' := 1529) C dL_law_1526 rfl (by decide) 6 rfl e_238 rfl ?_
                  refine zq_goto C 23 dL_law_1529 (by decide) ?_
                  cases hF
                  refine zq_widen (119 + (k9 + 1)) (35486 + 6 * (k9 + 1)) (by omega) (by omega) ?_
                  exact zq_sub [3, 4, 5, 6, 0] rfl (hrec_24 _ rfl)
                · have hF := (zq_ifn hF c_236)
                  refine zq_iconst (pc' := 585) C 0 dL_law_584 rfl (by decide) ?_
                  cases hF
                  have q9 : (1 : Int32) = 0 := hex_25 _ rfl
                  exact absurd q9 (by decide)
            · have hF := (zq_ifn hF c_230)
              refine zq_iconst (pc' := 568) C 0 dL_law_567 rfl (by decide) ?_
              cases hF
              have q9 : (1 : Int32) = 0 := hex_25 _ rfl
              exact absurd q9 (by decide)
          · have hF := (zq_ifn hF c_223)
            refine zq_iconst (pc' := 549) C 1 dL_law_548 rfl (by decide) ?_
            refine zq_goto C 553 dL_law_549 (by decide) ?_
            replace hF := zq_ck_e hF; obtain ⟨e_241, hF⟩ := hF
            replace hF := zq_bd hF; obtain ⟨v_239, e_240, hF⟩ := hF
            refine zq_cV (pc' := 556) C (c_X6_lock e_240) yv_X6_lock wd_824 zq_K6 e_241 dL_law_553 rfl rfl rfl ⟨Nat.le_of_ble_eq_true rfl, Nat.le_of_ble_eq_true rfl⟩ (Nat.le_of_ble_eq_true rfl) ⟨rfl, rfl⟩ hc1 rfl ?_
            refine zq_istore (lv' := [(6, .int v_239.1), (5, .int v_215.1), (0, .retAddr b), (1, .ref v_6), (2, .ref v_13), (3, .ref v_17), (4, .int s_19.1)]) (pc' := 558) C dL_law_556 rfl (by decide) rfl rfl ?_
            refine zq_aload_n (pc' := 559) C dL_law_558 rfl rfl rfl ?_
            replace hF := zq_ck_e hF; obtain ⟨e_244, hF⟩ := hF
            replace hF := zq_bd hF; obtain ⟨v_242, e_243, hF⟩ := hF
            refine zq_cV (pc' := 562) C (c_X6_thrown e_243) yv_X6_thrown wd_793 zq_K6 e_244 dL_law_559 rfl rfl rfl ⟨Nat.le_of_ble_eq_true rfl, Nat.le_of_ble_eq_true rfl⟩ (Nat.le_of_ble_eq_true rfl) ⟨rfl, rfl⟩ hc1 rfl ?_
            refine zq_iload (pc' := 564) C dL_law_562 rfl rfl ?_
            refine zq_icmp_eq (pc' := 567) C 569 dL_law_564 (by decide) rfl (fun c_245 => ?_) (fun c_245 => ?_)
            · have hF := (zq_ifp hF c_245)
              skip
              refine zq_iload (pc' := 571) C dL_law_569 rfl rfl ?_
              refine zq_if_ne (pc' := 574) C 586 dL_law_571 (by decide) rfl (fun c_246 => ?_) (fun c_246 => ?_)
              · have hF := (zq_ifn hF c_246)
                skip
                refine zq_goto C 1526 dL_law_586 (by decide) ?_
                replace hF := zq_let_e hF; obtain ⟨v_247, e_248, hF⟩ := hF
                refine zq_iinc (lv' := [(4, .int v_247), (6, .int v_239.1), (5, .int v_215.1), (0, .retAddr b), (1, .ref v_6), (2, .ref v_13), (3, .ref v_17)]) (pc' := 1529) C dL_law_1526 rfl (by decide) 6 rfl e_248 rfl ?_
                refine zq_goto C 23 dL_law_1529 (by decide) ?_
                cases hF
                refine zq_widen (119 + (k9 + 1)) (35486 + 6 * (k9 + 1)) (by omega) (by omega) ?_
                exact zq_sub [3, 4, 5, 6, 0] rfl (hrec_24 _ rfl)
              · have hF := (zq_ifp hF c_246)
                refine zq_aload_n (pc' := 575) C dL_law_574 rfl rfl rfl ?_
                refine zq_iconst (pc' := 576) C 0 dL_law_575 rfl (by decide) ?_
                replace hF := zq_bd hF; obtain ⟨v_249, e_250, hF⟩ := hF
                refine zq_laload (pc' := 577) C dL_law_576 rfl e_250 ?_
                refine zq_iload (pc' := 579) C dL_law_577 rfl rfl ?_
                refine zq_i2l (pc' := 580) C dL_law_579 rfl ?_
                refine zq_lcmp (pc' := 581) C dL_law_580 rfl ?_
                refine zq_if_eq (pc' := 584) C 586 dL_law_581 (by decide) rfl (fun c_251 => ?_) (fun c_251 => ?_)
                · have hF := (zq_ifp hF c_251)
                  skip
                  refine zq_goto C 1526 dL_law_586 (by decide) ?_
                  replace hF := zq_let_e hF; obtain ⟨v_252, e_253, hF⟩ := hF
                  refine zq_iinc (lv' := [(4, .int v_252), (6, .int v_239.1), (5, .int v_215.1), (0, .retAddr b), (1, .ref v_6), (2, .ref v_13), (3, .ref v_17)]) (pc' := 1529) C dL_law_1526 rfl (by decide) 6 rfl e_253 rfl ?_
                  refine zq_goto C 23 dL_law_1529 (by decide) ?_
                  cases hF
                  refine zq_widen (119 + (k9 + 1)) (35486 + 6 * (k9 + 1)) (by omega) (by omega) ?_
                  exact zq_sub [3, 4, 5, 6, 0] rfl (hrec_24 _ rfl)
                · have hF := (zq_ifn hF c_251)
                  refine zq_iconst (pc' := 585) C 0 dL_law_584 rfl (by decide) ?_
                  cases hF
                  have q9 : (1 : Int32) = 0 := hex_25 _ rfl
                  exact absurd q9 (by decide)
            · have hF := (zq_ifn hF c_245)
              refine zq_iconst (pc' := 568) C 0 dL_law_567 rfl (by decide) ?_
              cases hF
              have q9 : (1 : Int32) = 0 := hex_25 _ rfl
              exact absurd q9 (by decide)
      have hF := zq_ifn hF c_168
      by_cases c_254 : (v_30 &&& 31) = 7
      · have hF := zq_ifp hF c_254
        refine zq_tsIn C 589 dL_law_39 (by rw [c_254]; decide) (by rw [c_254]; decide) (by rw [c_254]; rfl) (by decide) ?_
        refine zq_aload_n (pc' := 590) C dL_law_589 rfl rfl rfl ?_
        refine zq_aloadR_n (pc' := 591) C dL_law_590 rfl rfl rfl ?_
        refine zq_iload (pc' := 593) C dL_law_591 rfl rfl ?_
        refine zq_iconst (pc' := 594) C 1 dL_law_593 rfl (by decide) ?_
        refine zq_iadd (pc' := 595) C dL_law_594 rfl ?_
        replace hF := zq_bd hF; obtain ⟨v_255, e_256, hF⟩ := hF
        refine zq_sld (pc' := 596) C hs dL_law_595 rfl e_256 ?_
        refine zq_aload_n (pc' := 597) C dL_law_596 rfl rfl rfl ?_
        replace hF := zq_bd hF; obtain ⟨v_257, e_258, hF⟩ := hF
        refine zq_callL (pc' := 600) C (c_L_walk e_258) yl_L_walk wd_827 dL_law_597 rfl rfl rfl ⟨Nat.le_of_ble_eq_true rfl, Nat.le_of_ble_eq_true rfl⟩ (Nat.le_of_ble_eq_true rfl) hc1 ?_
        refine zq_widen (119 + k9 + 1) (35486 + 6 * k9 + 6) (Nat.le_refl _) (Nat.le_refl _) ?_
        refine zq_istore (lv' := [(5, .int v_257.1), (0, .retAddr b), (1, .ref v_6), (2, .ref v_13), (3, .ref v_17), (4, .int s_19.1)]) (pc' := 602) C dL_law_600 rfl (by decide) rfl rfl ?_
        refine zq_aload_n (pc' := 603) C dL_law_602 rfl rfl rfl ?_
        refine zq_aloadR_n (pc' := 604) C dL_law_603 rfl rfl rfl ?_
        refine zq_iload (pc' := 606) C dL_law_604 rfl rfl ?_
        refine zq_iconst (pc' := 607) C 1 dL_law_606 rfl (by decide) ?_
        refine zq_iadd (pc' := 608) C dL_law_607 rfl ?_
        replace hF := zq_bd hF; obtain ⟨v_259, e_260, hF⟩ := hF
        refine zq_sld (pc' := 609) C hs dL_law_608 rfl e_260 ?_
        replace hF := zq_ck_e hF; obtain ⟨e_263, hF⟩ := hF
        replace hF := zq_bd hF; obtain ⟨v_261, e_262, hF⟩ := hF
        refine zq_cV (pc' := 612) C (c_X6_walk e_262) yv_X6_walk wd_829 zq_K6 e_263 dL_law_609 rfl rfl rfl ⟨Nat.le_of_ble_eq_true rfl, Nat.le_of_ble_eq_true rfl⟩ (Nat.le_of_ble_eq_true rfl) ⟨rfl, rfl⟩ hc1 rfl ?_
        refine zq_istore (lv' := [(6, .int v_261.1), (5, .int v_257.1), (0, .retAddr b), (1, .ref v_6), (2, .ref v_13), (3, .ref v_17), (4, .int s_19.1)]) (pc' := 614) C dL_law_612 rfl (by decide) rfl rfl ?_
        refine zq_aload_n (pc' := 615) C dL_law_614 rfl rfl rfl ?_
        replace hF := zq_ck_e hF; obtain ⟨e_266, hF⟩ := hF
        replace hF := zq_bd hF; obtain ⟨v_264, e_265, hF⟩ := hF
        refine zq_cV (pc' := 618) C (c_X6_thrown e_265) yv_X6_thrown wd_793 zq_K6 e_266 dL_law_615 rfl rfl rfl ⟨Nat.le_of_ble_eq_true rfl, Nat.le_of_ble_eq_true rfl⟩ (Nat.le_of_ble_eq_true rfl) ⟨rfl, rfl⟩ hc1 rfl ?_
        refine zq_iload (pc' := 620) C dL_law_618 rfl rfl ?_
        refine zq_icmp_eq (pc' := 623) C 625 dL_law_620 (by decide) rfl (fun c_267 => ?_) (fun c_267 => ?_)
        · have hF := (zq_ifp hF c_267)
          skip
          refine zq_iload (pc' := 627) C dL_law_625 rfl rfl ?_
          refine zq_if_ne (pc' := 630) C 642 dL_law_627 (by decide) rfl (fun c_268 => ?_) (fun c_268 => ?_)
          · have hF := (zq_ifn hF c_268)
            skip
            refine zq_goto C 1526 dL_law_642 (by decide) ?_
            replace hF := zq_let_e hF; obtain ⟨v_269, e_270, hF⟩ := hF
            refine zq_iinc (lv' := [(4, .int v_269), (6, .int v_261.1), (5, .int v_257.1), (0, .retAddr b), (1, .ref v_6), (2, .ref v_13), (3, .ref v_17)]) (pc' := 1529) C dL_law_1526 rfl (by decide) 6 rfl e_270 rfl ?_
            refine zq_goto C 23 dL_law_1529 (by decide) ?_
            cases hF
            refine zq_widen (119 + (k9 + 1)) (35486 + 6 * (k9 + 1)) (by omega) (by omega) ?_
            exact zq_sub [3, 4, 5, 6, 0] rfl (hrec_24 _ rfl)
          · have hF := (zq_ifp hF c_268)
            refine zq_aload_n (pc' := 631) C dL_law_630 rfl rfl rfl ?_
            refine zq_iconst (pc' := 632) C 0 dL_law_631 rfl (by decide) ?_
            replace hF := zq_bd hF; obtain ⟨v_271, e_272, hF⟩ := hF
            refine zq_laload (pc' := 633) C dL_law_632 rfl e_272 ?_
            refine zq_iload (pc' := 635) C dL_law_633 rfl rfl ?_
            refine zq_i2l (pc' := 636) C dL_law_635 rfl ?_
            refine zq_lcmp (pc' := 637) C dL_law_636 rfl ?_
            refine zq_if_eq (pc' := 640) C 642 dL_law_637 (by decide) rfl (fun c_273 => ?_) (fun c_273 => ?_)
            · have hF := (zq_ifp hF c_273)
              skip
              refine zq_goto C 1526 dL_law_642 (by decide) ?_
              replace hF := zq_let_e hF; obtain ⟨v_274, e_275, hF⟩ := hF
              refine zq_iinc (lv' := [(4, .int v_274), (6, .int v_261.1), (5, .int v_257.1), (0, .retAddr b), (1, .ref v_6), (2, .ref v_13), (3, .ref v_17)]) (pc' := 1529) C dL_law_1526 rfl (by decide) 6 rfl e_275 rfl ?_
              refine zq_goto C 23 dL_law_1529 (by decide) ?_
              cases hF
              refine zq_widen (119 + (k9 + 1)) (35486 + 6 * (k9 + 1)) (by omega) (by omega) ?_
              exact zq_sub [3, 4, 5, 6, 0] rfl (hrec_24 _ rfl)
            · have hF := (zq_ifn hF c_273)
              refine zq_iconst (pc' := 641) C 0 dL_law_640 rfl (by decide) ?_
              cases hF
              have q9 : (1 : Int32) = 0 := hex_25 _ rfl
              exact absurd q9 (by decide)
        · have hF := (zq_ifn hF c_267)
          refine zq_iconst (pc' := 624) C 0 dL_law_623 rfl (by decide) ?_
          cases hF
          have q9 : (1 : Int32) = 0 := hex_25 _ rfl
          exact absurd q9 (by decide)
      have hF := zq_ifn hF c_254
      by_cases c_276 : (v_30 &&& 31) = 8
      · have hF := zq_ifp hF c_276
        refine zq_tsIn C 645 dL_law_39 (by rw [c_276]; decide) (by rw [c_276]; decide) (by rw [c_276]; rfl) (by decide) ?_
        refine zq_aload_n (pc' := 646) C dL_law_645 rfl rfl rfl ?_
        refine zq_aloadR_n (pc' := 647) C dL_law_646 rfl rfl rfl ?_
        refine zq_iload (pc' := 649) C dL_law_647 rfl rfl ?_
        refine zq_iconst (pc' := 650) C 1 dL_law_649 rfl (by decide) ?_
        refine zq_iadd (pc' := 651) C dL_law_650 rfl ?_
        replace hF := zq_bd hF; obtain ⟨v_277, e_278, hF⟩ := hF
        refine zq_sld (pc' := 652) C hs dL_law_651 rfl e_278 ?_
        refine zq_aload_n (pc' := 653) C dL_law_652 rfl rfl rfl ?_
        replace hF := zq_bd hF; obtain ⟨v_279, e_280, hF⟩ := hF
        refine zq_callL (pc' := 656) C (c_L_append e_280) yl_L_append wd_832 dL_law_653 rfl rfl rfl ⟨Nat.le_of_ble_eq_true rfl, Nat.le_of_ble_eq_true rfl⟩ (Nat.le_of_ble_eq_true rfl) hc1 ?_
        refine zq_widen (119 + k9 + 1) (35486 + 6 * k9 + 6) (Nat.le_refl _) (Nat.le_refl _) ?_
        refine zq_istore (lv' := [(5, .int v_279.1), (0, .retAddr b), (1, .ref v_6), (2, .ref v_13), (3, .ref v_17), (4, .int s_19.1)]) (pc' := 658) C dL_law_656 rfl (by decide) rfl rfl ?_
        refine zq_aload_n (pc' := 659) C dL_law_658 rfl rfl rfl ?_
        refine zq_aloadR_n (pc' := 660) C dL_law_659 rfl rfl rfl ?_
        refine zq_iload (pc' := 662) C dL_law_660 rfl rfl ?_
        refine zq_iconst (pc' := 663) C 1 dL_law_662 rfl (by decide) ?_
        refine zq_iadd (pc' := 664) C dL_law_663 rfl ?_
        replace hF := zq_bd hF; obtain ⟨v_281, e_282, hF⟩ := hF
        refine zq_sld (pc' := 665) C hs dL_law_664 rfl e_282 ?_
        replace hF := zq_ck_e hF; obtain ⟨e_285, hF⟩ := hF
        replace hF := zq_bd hF; obtain ⟨v_283, e_284, hF⟩ := hF
        refine zq_cV (pc' := 668) C (c_X6_append e_284) yv_X6_append wd_834 zq_K6 e_285 dL_law_665 rfl rfl rfl ⟨Nat.le_of_ble_eq_true rfl, Nat.le_of_ble_eq_true rfl⟩ (Nat.le_of_ble_eq_true rfl) ⟨rfl, rfl⟩ hc1 rfl ?_
        refine zq_istore (lv' := [(6, .int v_283.1), (5, .int v_279.1), (0, .retAddr b), (1, .ref v_6), (2, .ref v_13), (3, .ref v_17), (4, .int s_19.1)]) (pc' := 670) C dL_law_668 rfl (by decide) rfl rfl ?_
        refine zq_aload_n (pc' := 671) C dL_law_670 rfl rfl rfl ?_
        replace hF := zq_ck_e hF; obtain ⟨e_288, hF⟩ := hF
        replace hF := zq_bd hF; obtain ⟨v_286, e_287, hF⟩ := hF
        refine zq_cV (pc' := 674) C (c_X6_thrown e_287) yv_X6_thrown wd_793 zq_K6 e_288 dL_law_671 rfl rfl rfl ⟨Nat.le_of_ble_eq_true rfl, Nat.le_of_ble_eq_true rfl⟩ (Nat.le_of_ble_eq_true rfl) ⟨rfl, rfl⟩ hc1 rfl ?_
        refine zq_iload (pc' := 676) C dL_law_674 rfl rfl ?_
        refine zq_icmp_eq (pc' := 679) C 681 dL_law_676 (by decide) rfl (fun c_289 => ?_) (fun c_289 => ?_)
        · have hF := (zq_ifp hF c_289)
          skip
          refine zq_iload (pc' := 683) C dL_law_681 rfl rfl ?_
          refine zq_if_ne (pc' := 686) C 698 dL_law_683 (by decide) rfl (fun c_290 => ?_) (fun c_290 => ?_)
          · have hF := (zq_ifn hF c_290)
            skip
            refine zq_goto C 1526 dL_law_698 (by decide) ?_
            replace hF := zq_let_e hF; obtain ⟨v_291, e_292, hF⟩ := hF
            refine zq_iinc (lv' := [(4, .int v_291), (6, .int v_283.1), (5, .int v_279.1), (0, .retAddr b), (1, .ref v_6), (2, .ref v_13), (3, .ref v_17)]) (pc' := 1529) C dL_law_1526 rfl (by decide) 6 rfl e_292 rfl ?_
            refine zq_goto C 23 dL_law_1529 (by decide) ?_
            cases hF
            refine zq_widen (119 + (k9 + 1)) (35486 + 6 * (k9 + 1)) (by omega) (by omega) ?_
            exact zq_sub [3, 4, 5, 6, 0] rfl (hrec_24 _ rfl)
          · have hF := (zq_ifp hF c_290)
            refine zq_aload_n (pc' := 687) C dL_law_686 rfl rfl rfl ?_
            refine zq_iconst (pc' := 688) C 0 dL_law_687 rfl (by decide) ?_
            replace hF := zq_bd hF; obtain ⟨v_293, e_294, hF⟩ := hF
            refine zq_laload (pc' := 689) C dL_law_688 rfl e_294 ?_
            refine zq_iload (pc' := 691) C dL_law_689 rfl rfl ?_
            refine zq_i2l (pc' := 692) C dL_law_691 rfl ?_
            refine zq_lcmp (pc' := 693) C dL_law_692 rfl ?_
            refine zq_if_eq (pc' := 696) C 698 dL_law_693 (by decide) rfl (fun c_295 => ?_) (fun c_295 => ?_)
            · have hF := (zq_ifp hF c_295)
              skip
              refine zq_goto C 1526 dL_law_698 (by decide) ?_
              replace hF := zq_let_e hF; obtain ⟨v_296, e_297, hF⟩ := hF
              refine zq_iinc (lv' := [(4, .int v_296), (6, .int v_283.1), (5, .int v_279.1), (0, .retAddr b), (1, .ref v_6), (2, .ref v_13), (3, .ref v_17)]) (pc' := 1529) C dL_law_1526 rfl (by decide) 6 rfl e_297 rfl ?_
              refine zq_goto C 23 dL_law_1529 (by decide) ?_
              cases hF
              refine zq_widen (119 + (k9 + 1)) (35486 + 6 * (k9 + 1)) (by omega) (by omega) ?_
              exact zq_sub [3, 4, 5, 6, 0] rfl (hrec_24 _ rfl)
            · have hF := (zq_ifn hF c_295)
              refine zq_iconst (pc' := 697) C 0 dL_law_696 rfl (by decide) ?_
              cases hF
              have q9 : (1 : Int32) = 0 := hex_25 _ rfl
              exact absurd q9 (by decide)
        · have hF := (zq_ifn hF c_289)
          refine zq_iconst (pc' := 680) C 0 dL_law_679 rfl (by decide) ?_
          cases hF
          have q9 : (1 : Int32) = 0 := hex_25 _ rfl
          exact absurd q9 (by decide)
      have hF := zq_ifn hF c_276
      by_cases c_298 : (v_30 &&& 31) = 9
      · have hF := zq_ifp hF c_298
        refine zq_tsIn C 701 dL_law_39 (by rw [c_298]; decide) (by rw [c_298]; decide) (by rw [c_298]; rfl) (by decide) ?_
        refine zq_aload_n (pc' := 702) C dL_law_701 rfl rfl rfl ?_
        replace hF := zq_ck_e hF; obtain ⟨e_301, hF⟩ := hF
        replace hF := zq_bd hF; obtain ⟨v_299, e_300, hF⟩ := hF
        refine zq_cV (pc' := 705) C (c_X5_clearBuffer e_300) yv_X5_clearBuffer wd_837 zq_K5 e_301 dL_law_702 rfl rfl rfl ⟨Nat.le_of_ble_eq_true rfl, Nat.le_of_ble_eq_true rfl⟩ (Nat.le_of_ble_eq_true rfl) ⟨rfl, rfl⟩ hc0 rfl ?_
        refine zq_aload_n (pc' := 706) C dL_law_705 rfl rfl rfl ?_
        replace hF := zq_ck_e hF; obtain ⟨e_304, hF⟩ := hF
        replace hF := zq_bd hF; obtain ⟨v_302, e_303, hF⟩ := hF
        refine zq_cV (pc' := 709) C (c_X6_clearBuffer e_303) yv_X6_clearBuffer wd_840 zq_K6 e_304 dL_law_706 rfl rfl rfl ⟨Nat.le_of_ble_eq_true rfl, Nat.le_of_ble_eq_true rfl⟩ (Nat.le_of_ble_eq_true rfl) ⟨rfl, rfl⟩ hc0 rfl ?_
        refine zq_icmp_eq (pc' := 712) C 1526 dL_law_709 (by decide) rfl (fun c_305 => ?_) (fun c_305 => ?_)
        · have hF := (zq_ifp hF c_305)
          skip
          replace hF := zq_let_e hF; obtain ⟨v_306, e_307, hF⟩ := hF
          refine zq_iinc (lv' := [(4, .int v_306), (0, .retAddr b), (1, .ref v_6), (2, .ref v_13), (3, .ref v_17)]) (pc' := 1529) C dL_law_1526 rfl (by decide) 4 rfl e_307 rfl ?_
          refine zq_goto C 23 dL_law_1529 (by decide) ?_
          cases hF
          refine zq_widen (119 + (k9 + 1)) (35486 + 6 * (k9 + 1)) (by omega) (by omega) ?_
          exact zq_sub [1, 2, 3, 4, 0] rfl (hrec_24 _ rfl)
        · have hF := (zq_ifn hF c_305)
          refine zq_iconst (pc' := 713) C 0 dL_law_712 rfl (by decide) ?_
          cases hF
          have q9 : (1 : Int32) = 0 := hex_25 _ rfl
          exact absurd q9 (by decide)
      have hF := zq_ifn hF c_298
      by_cases c_308 : (v_30 &&& 31) = 10
      · have hF := zq_ifp hF c_308
        refine zq_tsIn C 714 dL_law_39 (by rw [c_308]; decide) (by rw [c_308]; decide) (by rw [c_308]; rfl) (by decide) ?_
        refine zq_aload_n (pc' := 715) C dL_law_714 rfl rfl rfl ?_
        replace hF := zq_ck_e hF; obtain ⟨e_311, hF⟩ := hF
        replace hF := zq_bd hF; obtain ⟨v_309, e_310, hF⟩ := hF
        refine zq_cV (pc' := 718) C (c_X5_firstError e_310) yv_X5_firstError wd_843 zq_K5 e_311 dL_law_715 rfl rfl rfl ⟨Nat.le_of_ble_eq_true rfl, Nat.le_of_ble_eq_true rfl⟩ (Nat.le_of_ble_eq_true rfl) ⟨rfl, rfl⟩ hc0 rfl ?_
        refine zq_aload_n (pc' := 719) C dL_law_718 rfl rfl rfl ?_
        replace hF := zq_ck_e hF; obtain ⟨e_314, hF⟩ := hF
        replace hF := zq_bd hF; obtain ⟨v_312, e_313, hF⟩ := hF
        refine zq_cV (pc' := 722) C (c_X6_firstError e_313) yv_X6_firstError wd_846 zq_K6 e_314 dL_law_719 rfl rfl rfl ⟨Nat.le_of_ble_eq_true rfl, Nat.le_of_ble_eq_true rfl⟩ (Nat.le_of_ble_eq_true rfl) ⟨rfl, rfl⟩ hc0 rfl ?_
        refine zq_icmp_eq (pc' := 725) C 1526 dL_law_722 (by decide) rfl (fun c_315 => ?_) (fun c_315 => ?_)
        · have hF := (zq_ifp hF c_315)
          skip
          replace hF := zq_let_e hF; obtain ⟨v_316, e_317, hF⟩ := hF
          refine zq_iinc (lv' := [(4, .int v_316), (0, .retAddr b), (1, .ref v_6), (2, .ref v_13), (3, .ref v_17)]) (pc' := 1529) C dL_law_1526 rfl (by decide) 4 rfl e_317 rfl ?_
          refine zq_goto C 23 dL_law_1529 (by decide) ?_
          cases hF
          refine zq_widen (119 + (k9 + 1)) (35486 + 6 * (k9 + 1)) (by omega) (by omega) ?_
          exact zq_sub [1, 2, 3, 4, 0] rfl (hrec_24 _ rfl)
        · have hF := (zq_ifn hF c_315)
          refine zq_iconst (pc' := 726) C 0 dL_law_725 rfl (by decide) ?_
          cases hF
          have q9 : (1 : Int32) = 0 := hex_25 _ rfl
          exact absurd q9 (by decide)
      have hF := zq_ifn hF c_308
      by_cases c_318 : (v_30 &&& 31) = 11
      · have hF := zq_ifp hF c_318
        refine zq_tsIn C 727 dL_law_39 (by rw [c_318]; decide) (by rw [c_318]; decide) (by rw [c_318]; rfl) (by decide) ?_
        refine zq_aload_n (pc' := 728) C dL_law_727 rfl rfl rfl ?_
        refine zq_aloadR_n (pc' := 729) C dL_law_728 rfl rfl rfl ?_
        refine zq_iload (pc' := 731) C dL_law_729 rfl rfl ?_
        refine zq_iconst (pc' := 732) C 1 dL_law_731 rfl (by decide) ?_
        refine zq_iadd (pc' := 733) C dL_law_732 rfl ?_
        replace hF := zq_bd hF; obtain ⟨v_319, e_320, hF⟩ := hF
        refine zq_sld (pc' := 734) C hs dL_law_733 rfl e_320 ?_
        refine zq_aload_n (pc' := 735) C dL_law_734 rfl rfl rfl ?_
        replace hF := zq_bd hF; obtain ⟨v_321, e_322, hF⟩ := hF
        refine zq_callL (pc' := 738) C (c_L_read e_322) yl_L_read wd_849 dL_law_735 rfl rfl rfl ⟨Nat.le_of_ble_eq_true rfl, Nat.le_of_ble_eq_true rfl⟩ (Nat.le_of_ble_eq_true rfl) hc1 ?_
        refine zq_widen (119 + k9 + 1) (35486 + 6 * k9 + 6) (Nat.le_refl _) (Nat.le_refl _) ?_
        refine zq_istore (lv' := [(5, .int v_321.1), (0, .retAddr b), (1, .ref v_6), (2, .ref v_13), (3, .ref v_17), (4, .int s_19.1)]) (pc' := 740) C dL_law_738 rfl (by decide) rfl rfl ?_
        refine zq_aload_n (pc' := 741) C dL_law_740 rfl rfl rfl ?_
        refine zq_aloadR_n (pc' := 742) C dL_law_741 rfl rfl rfl ?_
        refine zq_iload (pc' := 744) C dL_law_742 rfl rfl ?_
        refine zq_iconst (pc' := 745) C 1 dL_law_744 rfl (by decide) ?_
        refine zq_iadd (pc' := 746) C dL_law_745 rfl ?_
        replace hF := zq_bd hF; obtain ⟨v_323, e_324, hF⟩ := hF
        refine zq_sld (pc' := 747) C hs dL_law_746 rfl e_324 ?_
        replace hF := zq_ck_e hF; obtain ⟨e_327, hF⟩ := hF
        replace hF := zq_bd hF; obtain ⟨v_325, e_326, hF⟩ := hF
        refine zq_cV (pc' := 750) C (c_X6_read e_326) yv_X6_read wd_851 zq_K6 e_327 dL_law_747 rfl rfl rfl ⟨Nat.le_of_ble_eq_true rfl, Nat.le_of_ble_eq_true rfl⟩ (Nat.le_of_ble_eq_true rfl) ⟨rfl, rfl⟩ hc1 rfl ?_
        refine zq_istore (lv' := [(6, .int v_325.1), (5, .int v_321.1), (0, .retAddr b), (1, .ref v_6), (2, .ref v_13), (3, .ref v_17), (4, .int s_19.1)]) (pc' := 752) C dL_law_750 rfl (by decide) rfl rfl ?_
        refine zq_aload_n (pc' := 753) C dL_law_752 rfl rfl rfl ?_
        replace hF := zq_ck_e hF; obtain ⟨e_330, hF⟩ := hF
        replace hF := zq_bd hF; obtain ⟨v_328, e_329, hF⟩ := hF
        refine zq_cV (pc' := 756) C (c_X6_thrown e_329) yv_X6_thrown wd_793 zq_K6 e_330 dL_law_753 rfl rfl rfl ⟨Nat.le_of_ble_eq_true rfl, Nat.le_of_ble_eq_true rfl⟩ (Nat.le_of_ble_eq_true rfl) ⟨rfl, rfl⟩ hc1 rfl ?_
        refine zq_iload (pc' := 758) C dL_law_756 rfl rfl ?_
        refine zq_icmp_eq (pc' := 761) C 763 dL_law_758 (by decide) rfl (fun c_331 => ?_) (fun c_331 => ?_)
        · have hF := (zq_ifp hF c_331)
          skip
          refine zq_iload (pc' := 765) C dL_law_763 rfl rfl ?_
          refine zq_if_ne (pc' := 768) C 780 dL_law_765 (by decide) rfl (fun c_332 => ?_) (fun c_332 => ?_)
          · have hF := (zq_ifn hF c_332)
            skip
            refine zq_goto C 1526 dL_law_780 (by decide) ?_
            replace hF := zq_let_e hF; obtain ⟨v_333, e_334, hF⟩ := hF
            refine zq_iinc (lv' := [(4, .int v_333), (6, .int v_325.1), (5, .int v_321.1), (0, .retAddr b), (1, .ref v_6), (2, .ref v_13), (3, .ref v_17)]) (pc' := 1529) C dL_law_1526 rfl (by decide) 6 rfl e_334 rfl ?_
            refine zq_goto C 23 dL_law_1529 (by decide) ?_
            cases hF
            refine zq_widen (119 + (k9 + 1)) (35486 + 6 * (k9 + 1)) (by omega) (by omega) ?_
            exact zq_sub [3, 4, 5, 6, 0] rfl (hrec_24 _ rfl)
          · have hF := (zq_ifp hF c_332)
            refine zq_aload_n (pc' := 769) C dL_law_768 rfl rfl rfl ?_
            refine zq_iconst (pc' := 770) C 0 dL_law_769 rfl (by decide) ?_
            replace hF := zq_bd hF; obtain ⟨v_335, e_336, hF⟩ := hF
            refine zq_laload (pc' := 771) C dL_law_770 rfl e_336 ?_
            refine zq_iload (pc' := 773) C dL_law_771 rfl rfl ?_
            refine zq_i2l (pc' := 774) C dL_law_773 rfl ?_
            refine zq_lcmp (pc' := 775) C dL_law_774 rfl ?_
            refine zq_if_eq (pc' := 778) C 780 dL_law_775 (by decide) rfl (fun c_337 => ?_) (fun c_337 => ?_)
            · have hF := (zq_ifp hF c_337)
              skip
              refine zq_goto C 1526 dL_law_780 (by decide) ?_
              replace hF := zq_let_e hF; obtain ⟨v_338, e_339, hF⟩ := hF
              refine zq_iinc (lv' := [(4, .int v_338), (6, .int v_325.1), (5, .int v_321.1), (0, .retAddr b), (1, .ref v_6), (2, .ref v_13), (3, .ref v_17)]) (pc' := 1529) C dL_law_1526 rfl (by decide) 6 rfl e_339 rfl ?_
              refine zq_goto C 23 dL_law_1529 (by decide) ?_
              cases hF
              refine zq_widen (119 + (k9 + 1)) (35486 + 6 * (k9 + 1)) (by omega) (by omega) ?_
              exact zq_sub [3, 4, 5, 6, 0] rfl (hrec_24 _ rfl)
            · have hF := (zq_ifn hF c_337)
              refine zq_iconst (pc' := 779) C 0 dL_law_778 rfl (by decide) ?_
              cases hF
              have q9 : (1 : Int32) = 0 := hex_25 _ rfl
              exact absurd q9 (by decide)
        · have hF := (zq_ifn hF c_331)
          refine zq_iconst (pc' := 762) C 0 dL_law_761 rfl (by decide) ?_
          cases hF
          have q9 : (1 : Int32) = 0 := hex_25 _ rfl
          exact absurd q9 (by decide)
      have hF := zq_ifn hF c_318
      by_cases c_340 : (v_30 &&& 31) = 12
      · have hF := zq_ifp hF c_340
        refine zq_tsIn C 783 dL_law_39 (by rw [c_340]; decide) (by rw [c_340]; decide) (by rw [c_340]; rfl) (by decide) ?_
        refine zq_aload_n (pc' := 784) C dL_law_783 rfl rfl rfl ?_
        refine zq_aloadR_n (pc' := 785) C dL_law_784 rfl rfl rfl ?_
        refine zq_iload (pc' := 787) C dL_law_785 rfl rfl ?_
        refine zq_iconst (pc' := 788) C 1 dL_law_787 rfl (by decide) ?_
        refine zq_iadd (pc' := 789) C dL_law_788 rfl ?_
        replace hF := zq_bd hF; obtain ⟨v_341, e_342, hF⟩ := hF
        refine zq_sld (pc' := 790) C hs dL_law_789 rfl e_342 ?_
        refine zq_aload_n (pc' := 791) C dL_law_790 rfl rfl rfl ?_
        replace hF := zq_bd hF; obtain ⟨v_343, e_344, hF⟩ := hF
        refine zq_callL (pc' := 794) C (c_L_take e_344) yl_L_take wd_854 dL_law_791 rfl rfl rfl ⟨Nat.le_of_ble_eq_true rfl, Nat.le_of_ble_eq_true rfl⟩ (Nat.le_of_ble_eq_true rfl) hc1 ?_
        refine zq_widen (119 + k9 + 1) (35486 + 6 * k9 + 6) (Nat.le_refl _) (Nat.le_refl _) ?_
        refine zq_istore (lv' := [(5, .int v_343.1), (0, .retAddr b), (1, .ref v_6), (2, .ref v_13), (3, .ref v_17), (4, .int s_19.1)]) (pc' := 796) C dL_law_794 rfl (by decide) rfl rfl ?_
        refine zq_aload_n (pc' := 797) C dL_law_796 rfl rfl rfl ?_
        refine zq_aloadR_n (pc' := 798) C dL_law_797 rfl rfl rfl ?_
        refine zq_iload (pc' := 800) C dL_law_798 rfl rfl ?_
        refine zq_iconst (pc' := 801) C 1 dL_law_800 rfl (by decide) ?_
        refine zq_iadd (pc' := 802) C dL_law_801 rfl ?_
        replace hF := zq_bd hF; obtain ⟨v_345, e_346, hF⟩ := hF
        refine zq_sld (pc' := 803) C hs dL_law_802 rfl e_346 ?_
        replace hF := zq_ck_e hF; obtain ⟨e_349, hF⟩ := hF
        replace hF := zq_bd hF; obtain ⟨v_347, e_348, hF⟩ := hF
        refine zq_cV (pc' := 806) C (c_X6_take e_348) yv_X6_take wd_856 zq_K6 e_349 dL_law_803 rfl rfl rfl ⟨Nat.le_of_ble_eq_true rfl, Nat.le_of_ble_eq_true rfl⟩ (Nat.le_of_ble_eq_true rfl) ⟨rfl, rfl⟩ hc1 rfl ?_
        refine zq_istore (lv' := [(6, .int v_347.1), (5, .int v_343.1), (0, .retAddr b), (1, .ref v_6), (2, .ref v_13), (3, .ref v_17), (4, .int s_19.1)]) (pc' := 808) C dL_law_806 rfl (by decide) rfl rfl ?_
        refine zq_aload_n (pc' := 809) C dL_law_808 rfl rfl rfl ?_
        replace hF := zq_ck_e hF; obtain ⟨e_352, hF⟩ := hF
        replace hF := zq_bd hF; obtain ⟨v_350, e_351, hF⟩ := hF
        refine zq_cV (pc' := 812) C (c_X6_thrown e_351) yv_X6_thrown wd_793 zq_K6 e_352 dL_law_809 rfl rfl rfl ⟨Nat.le_of_ble_eq_true rfl, Nat.le_of_ble_eq_true rfl⟩ (Nat.le_of_ble_eq_true rfl) ⟨rfl, rfl⟩ hc1 rfl ?_
        refine zq_iload (pc' := 814) C dL_law_812 rfl rfl ?_
        refine zq_icmp_eq (pc' := 817) C 819 dL_law_814 (by decide) rfl (fun c_353 => ?_) (fun c_353 => ?_)
        · have hF := (zq_ifp hF c_353)
          skip
          refine zq_iload (pc' := 821) C dL_law_819 rfl rfl ?_
          refine zq_if_ne (pc' := 824) C 836 dL_law_821 (by decide) rfl (fun c_354 => ?_) (fun c_354 => ?_)
          · have hF := (zq_ifn hF c_354)
            skip
            refine zq_goto C 1526 dL_law_836 (by decide) ?_
            replace hF := zq_let_e hF; obtain ⟨v_355, e_356, hF⟩ := hF
            refine zq_iinc (lv' := [(4, .int v_355), (6, .int v_347.1), (5, .int v_343.1), (0, .retAddr b), (1, .ref v_6), (2, .ref v_13), (3, .ref v_17)]) (pc' := 1529) C dL_law_1526 rfl (by decide) 6 rfl e_356 rfl ?_
            refine zq_goto C 23 dL_law_1529 (by decide) ?_
            cases hF
            refine zq_widen (119 + (k9 + 1)) (35486 + 6 * (k9 + 1)) (by omega) (by omega) ?_
            exact zq_sub [3, 4, 5, 6, 0] rfl (hrec_24 _ rfl)
          · have hF := (zq_ifp hF c_354)
            refine zq_aload_n (pc' := 825) C dL_law_824 rfl rfl rfl ?_
            refine zq_iconst (pc' := 826) C 0 dL_law_825 rfl (by decide) ?_
            replace hF := zq_bd hF; obtain ⟨v_357, e_358, hF⟩ := hF
            refine zq_laload (pc' := 827) C dL_law_826 rfl e_358 ?_
            refine zq_iload (pc' := 829) C dL_law_827 rfl rfl ?_
            refine zq_i2l (pc' := 830) C dL_law_829 rfl ?_
            refine zq_lcmp (pc' := 831) C dL_law_830 rfl ?_
            refine zq_if_eq (pc' := 834) C 836 dL_law_831 (by decide) rfl (fun c_359 => ?_) (fun c_359 => ?_)
            · have hF := (zq_ifp hF c_359)
              skip
              refine zq_goto C 1526 dL_law_836 (by decide) ?_
              replace hF := zq_let_e hF; obtain ⟨v_360, e_361, hF⟩ := hF
              refine zq_iinc (lv' := [(4, .int v_360), (6, .int v_347.1), (5, .int v_343.1), (0, .retAddr b), (1, .ref v_6), (2, .ref v_13), (3, .ref v_17)]) (pc' := 1529) C dL_law_1526 rfl (by decide) 6 rfl e_361 rfl ?_
              refine zq_goto C 23 dL_law_1529 (by decide) ?_
              cases hF
              refine zq_widen (119 + (k9 + 1)) (35486 + 6 * (k9 + 1)) (by omega) (by omega) ?_
              exact zq_sub [3, 4, 5, 6, 0] rfl (hrec_24 _ rfl)
            · have hF := (zq_ifn hF c_359)
              refine zq_iconst (pc' := 835) C 0 dL_law_834 rfl (by decide) ?_
              cases hF
              have q9 : (1 : Int32) = 0 := hex_25 _ rfl
              exact absurd q9 (by decide)
        · have hF := (zq_ifn hF c_353)
          refine zq_iconst (pc' := 818) C 0 dL_law_817 rfl (by decide) ?_
          cases hF
          have q9 : (1 : Int32) = 0 := hex_25 _ rfl
          exact absurd q9 (by decide)
      have hF := zq_ifn hF c_340
      by_cases c_362 : (v_30 &&& 31) = 13
      · have hF := zq_ifp hF c_362
        refine zq_tsIn C 839 dL_law_39 (by rw [c_362]; decide) (by rw [c_362]; decide) (by rw [c_362]; rfl) (by decide) ?_
        refine zq_aload_n (pc' := 840) C dL_law_839 rfl rfl rfl ?_
        refine zq_aloadR_n (pc' := 841) C dL_law_840 rfl rfl rfl ?_
        refine zq_iload (pc' := 843) C dL_law_841 rfl rfl ?_
        refine zq_iconst (pc' := 844) C 1 dL_law_843 rfl (by decide) ?_
        refine zq_iadd (pc' := 845) C dL_law_844 rfl ?_
        replace hF := zq_bd hF; obtain ⟨v_363, e_364, hF⟩ := hF
        refine zq_sld (pc' := 846) C hs dL_law_845 rfl e_364 ?_
        refine zq_aload_n (pc' := 847) C dL_law_846 rfl rfl rfl ?_
        replace hF := zq_bd hF; obtain ⟨v_365, e_366, hF⟩ := hF
        refine zq_callL (pc' := 850) C (c_L_restore e_366) yl_L_restore wd_859 dL_law_847 rfl rfl rfl ⟨Nat.le_of_ble_eq_true rfl, Nat.le_of_ble_eq_true rfl⟩ (Nat.le_of_ble_eq_true rfl) hc1 ?_
        refine zq_widen (119 + k9 + 1) (35486 + 6 * k9 + 6) (Nat.le_refl _) (Nat.le_refl _) ?_
        refine zq_istore (lv' := [(5, .int v_365.1), (0, .retAddr b), (1, .ref v_6), (2, .ref v_13), (3, .ref v_17), (4, .int s_19.1)]) (pc' := 852) C dL_law_850 rfl (by decide) rfl rfl ?_
        refine zq_aload_n (pc' := 853) C dL_law_852 rfl rfl rfl ?_
        refine zq_aloadR_n (pc' := 854) C dL_law_853 rfl rfl rfl ?_
        refine zq_iload (pc' := 856) C dL_law_854 rfl rfl ?_
        refine zq_iconst (pc' := 857) C 1 dL_law_856 rfl (by decide) ?_
        refine zq_iadd (pc' := 858) C dL_law_857 rfl ?_
        replace hF := zq_bd hF; obtain ⟨v_367, e_368, hF⟩ := hF
        refine zq_sld (pc' := 859) C hs dL_law_858 rfl e_368 ?_
        replace hF := zq_ck_e hF; obtain ⟨e_371, hF⟩ := hF
        replace hF := zq_bd hF; obtain ⟨v_369, e_370, hF⟩ := hF
        refine zq_cV (pc' := 862) C (c_X6_restore e_370) yv_X6_restore wd_861 zq_K6 e_371 dL_law_859 rfl rfl rfl ⟨Nat.le_of_ble_eq_true rfl, Nat.le_of_ble_eq_true rfl⟩ (Nat.le_of_ble_eq_true rfl) ⟨rfl, rfl⟩ hc1 rfl ?_
        refine zq_istore (lv' := [(6, .int v_369.1), (5, .int v_365.1), (0, .retAddr b), (1, .ref v_6), (2, .ref v_13), (3, .ref v_17), (4, .int s_19.1)]) (pc' := 864) C dL_law_862 rfl (by decide) rfl rfl ?_
        refine zq_aload_n (pc' := 865) C dL_law_864 rfl rfl rfl ?_
        replace hF := zq_ck_e hF; obtain ⟨e_374, hF⟩ := hF
        replace hF := zq_bd hF; obtain ⟨v_372, e_373, hF⟩ := hF
        refine zq_cV (pc' := 868) C (c_X6_thrown e_373) yv_X6_thrown wd_793 zq_K6 e_374 dL_law_865 rfl rfl rfl ⟨Nat.le_of_ble_eq_true rfl, Nat.le_of_ble_eq_true rfl⟩ (Nat.le_of_ble_eq_true rfl) ⟨rfl, rfl⟩ hc1 rfl ?_
        refine zq_iload (pc' := 870) C dL_law_868 rfl rfl ?_
        refine zq_icmp_eq (pc' := 873) C 875 dL_law_870 (by decide) rfl (fun c_375 => ?_) (fun c_375 => ?_)
        · have hF := (zq_ifp hF c_375)
          skip
          refine zq_iload (pc' := 877) C dL_law_875 rfl rfl ?_
          refine zq_if_ne (pc' := 880) C 892 dL_law_877 (by decide) rfl (fun c_376 => ?_) (fun c_376 => ?_)
          · have hF := (zq_ifn hF c_376)
            skip
            refine zq_goto C 1526 dL_law_892 (by decide) ?_
            replace hF := zq_let_e hF; obtain ⟨v_377, e_378, hF⟩ := hF
            refine zq_iinc (lv' := [(4, .int v_377), (6, .int v_369.1), (5, .int v_365.1), (0, .retAddr b), (1, .ref v_6), (2, .ref v_13), (3, .ref v_17)]) (pc' := 1529) C dL_law_1526 rfl (by decide) 6 rfl e_378 rfl ?_
            refine zq_goto C 23 dL_law_1529 (by decide) ?_
            cases hF
            refine zq_widen (119 + (k9 + 1)) (35486 + 6 * (k9 + 1)) (by omega) (by omega) ?_
            exact zq_sub [3, 4, 5, 6, 0] rfl (hrec_24 _ rfl)
          · have hF := (zq_ifp hF c_376)
            refine zq_aload_n (pc' := 881) C dL_law_880 rfl rfl rfl ?_
            refine zq_iconst (pc' := 882) C 0 dL_law_881 rfl (by decide) ?_
            replace hF := zq_bd hF; obtain ⟨v_379, e_380, hF⟩ := hF
            refine zq_laload (pc' := 883) C dL_law_882 rfl e_380 ?_
            refine zq_iload (pc' := 885) C dL_law_883 rfl rfl ?_
            refine zq_i2l (pc' := 886) C dL_law_885 rfl ?_
            refine zq_lcmp (pc' := 887) C dL_law_886 rfl ?_
            refine zq_if_eq (pc' := 890) C 892 dL_law_887 (by decide) rfl (fun c_381 => ?_) (fun c_381 => ?_)
            · have hF := (zq_ifp hF c_381)
              skip
              refine zq_goto C 1526 dL_law_892 (by decide) ?_
              replace hF := zq_let_e hF; obtain ⟨v_382, e_383, hF⟩ := hF
              refine zq_iinc (lv' := [(4, .int v_382), (6, .int v_369.1), (5, .int v_365.1), (0, .retAddr b), (1, .ref v_6), (2, .ref v_13), (3, .ref v_17)]) (pc' := 1529) C dL_law_1526 rfl (by decide) 6 rfl e_383 rfl ?_
              refine zq_goto C 23 dL_law_1529 (by decide) ?_
              cases hF
              refine zq_widen (119 + (k9 + 1)) (35486 + 6 * (k9 + 1)) (by omega) (by omega) ?_
              exact zq_sub [3, 4, 5, 6, 0] rfl (hrec_24 _ rfl)
            · have hF := (zq_ifn hF c_381)
              refine zq_iconst (pc' := 891) C 0 dL_law_890 rfl (by decide) ?_
              cases hF
              have q9 : (1 : Int32) = 0 := hex_25 _ rfl
              exact absurd q9 (by decide)
        · have hF := (zq_ifn hF c_375)
          refine zq_iconst (pc' := 874) C 0 dL_law_873 rfl (by decide) ?_
          cases hF
          have q9 : (1 : Int32) = 0 := hex_25 _ rfl
          exact absurd q9 (by decide)
      have hF := zq_ifn hF c_362
      by_cases c_384 : (v_30 &&& 31) = 14
      · have hF := zq_ifp hF c_384
        refine zq_tsIn C 895 dL_law_39 (by rw [c_384]; decide) (by rw [c_384]; decide) (by rw [c_384]; rfl) (by decide) ?_
        refine zq_aload_n (pc' := 896) C dL_law_895 rfl rfl rfl ?_
        refine zq_aload_n (pc' := 897) C dL_law_896 rfl rfl rfl ?_
        replace hF := zq_bd hF; obtain ⟨v_385, e_386, hF⟩ := hF
        refine zq_callL (pc' := 900) C (c_L_undo e_386) yl_L_undo wd_864 dL_law_897 rfl rfl rfl ⟨Nat.le_of_ble_eq_true rfl, Nat.le_of_ble_eq_true rfl⟩ (Nat.le_of_ble_eq_true rfl) hc1 ?_
        refine zq_widen (119 + k9 + 1) (35486 + 6 * k9 + 6) (Nat.le_refl _) (Nat.le_refl _) ?_
        refine zq_istore (lv' := [(5, .int v_385.1), (0, .retAddr b), (1, .ref v_6), (2, .ref v_13), (3, .ref v_17), (4, .int s_19.1)]) (pc' := 902) C dL_law_900 rfl (by decide) rfl rfl ?_
        refine zq_aload_n (pc' := 903) C dL_law_902 rfl rfl rfl ?_
        replace hF := zq_ck_e hF; obtain ⟨e_389, hF⟩ := hF
        replace hF := zq_bd hF; obtain ⟨v_387, e_388, hF⟩ := hF
        refine zq_cV (pc' := 906) C (c_X6_undo e_388) yv_X6_undo wd_866 zq_K6 e_389 dL_law_903 rfl rfl rfl ⟨Nat.le_of_ble_eq_true rfl, Nat.le_of_ble_eq_true rfl⟩ (Nat.le_of_ble_eq_true rfl) ⟨rfl, rfl⟩ hc1 rfl ?_
        refine zq_istore (lv' := [(6, .int v_387.1), (5, .int v_385.1), (0, .retAddr b), (1, .ref v_6), (2, .ref v_13), (3, .ref v_17), (4, .int s_19.1)]) (pc' := 908) C dL_law_906 rfl (by decide) rfl rfl ?_
        refine zq_aload_n (pc' := 909) C dL_law_908 rfl rfl rfl ?_
        replace hF := zq_ck_e hF; obtain ⟨e_392, hF⟩ := hF
        replace hF := zq_bd hF; obtain ⟨v_390, e_391, hF⟩ := hF
        refine zq_cV (pc' := 912) C (c_X6_thrown e_391) yv_X6_thrown wd_793 zq_K6 e_392 dL_law_909 rfl rfl rfl ⟨Nat.le_of_ble_eq_true rfl, Nat.le_of_ble_eq_true rfl⟩ (Nat.le_of_ble_eq_true rfl) ⟨rfl, rfl⟩ hc1 rfl ?_
        refine zq_iload (pc' := 914) C dL_law_912 rfl rfl ?_
        refine zq_icmp_eq (pc' := 917) C 919 dL_law_914 (by decide) rfl (fun c_393 => ?_) (fun c_393 => ?_)
        · have hF := (zq_ifp hF c_393)
          skip
          refine zq_iload (pc' := 921) C dL_law_919 rfl rfl ?_
          refine zq_if_ne (pc' := 924) C 936 dL_law_921 (by decide) rfl (fun c_394 => ?_) (fun c_394 => ?_)
          · have hF := (zq_ifn hF c_394)
            skip
            refine zq_goto C 1526 dL_law_936 (by decide) ?_
            replace hF := zq_let_e hF; obtain ⟨v_395, e_396, hF⟩ := hF
            refine zq_iinc (lv' := [(4, .int v_395), (6, .int v_387.1), (5, .int v_385.1), (0, .retAddr b), (1, .ref v_6), (2, .ref v_13), (3, .ref v_17)]) (pc' := 1529) C dL_law_1526 rfl (by decide) 6 rfl e_396 rfl ?_
            refine zq_goto C 23 dL_law_1529 (by decide) ?_
            cases hF
            refine zq_widen (119 + (k9 + 1)) (35486 + 6 * (k9 + 1)) (by omega) (by omega) ?_
            exact zq_sub [3, 4, 5, 6, 0] rfl (hrec_24 _ rfl)
          · have hF := (zq_ifp hF c_394)
            refine zq_aload_n (pc' := 925) C dL_law_924 rfl rfl rfl ?_
            refine zq_iconst (pc' := 926) C 0 dL_law_925 rfl (by decide) ?_
            replace hF := zq_bd hF; obtain ⟨v_397, e_398, hF⟩ := hF
            refine zq_laload (pc' := 927) C dL_law_926 rfl e_398 ?_
            refine zq_iload (pc' := 929) C dL_law_927 rfl rfl ?_
            refine zq_i2l (pc' := 930) C dL_law_929 rfl ?_
            refine zq_lcmp (pc' := 931) C dL_law_930 rfl ?_
            refine zq_if_eq (pc' := 934) C 936 dL_law_931 (by decide) rfl (fun c_399 => ?_) (fun c_399 => ?_)
            · have hF := (zq_ifp hF c_399)
              skip
              refine zq_goto C 1526 dL_law_936 (by decide) ?_
              replace hF := zq_let_e hF; obtain ⟨v_400, e_401, hF⟩ := hF
              refine zq_iinc (lv' := [(4, .int v_400), (6, .int v_387.1), (5, .int v_385.1), (0, .retAddr b), (1, .ref v_6), (2, .ref v_13), (3, .ref v_17)]) (pc' := 1529) C dL_law_1526 rfl (by decide) 6 rfl e_401 rfl ?_
              refine zq_goto C 23 dL_law_1529 (by decide) ?_
              cases hF
              refine zq_widen (119 + (k9 + 1)) (35486 + 6 * (k9 + 1)) (by omega) (by omega) ?_
              exact zq_sub [3, 4, 5, 6, 0] rfl (hrec_24 _ rfl)
            · have hF := (zq_ifn hF c_399)
              refine zq_iconst (pc' := 935) C 0 dL_law_934 rfl (by decide) ?_
              cases hF
              have q9 : (1 : Int32) = 0 := hex_25 _ rfl
              exact absurd q9 (by decide)
        · have hF := (zq_ifn hF c_393)
          refine zq_iconst (pc' := 918) C 0 dL_law_917 rfl (by decide) ?_
          cases hF
          have q9 : (1 : Int32) = 0 := hex_25 _ rfl
          exact absurd q9 (by decide)
      have hF := zq_ifn hF c_384
      by_cases c_402 : (v_30 &&& 31) = 15
      · have hF := zq_ifp hF c_402
        refine zq_tsIn C 939 dL_law_39 (by rw [c_402]; decide) (by rw [c_402]; decide) (by rw [c_402]; rfl) (by decide) ?_
        refine zq_aload_n (pc' := 940) C dL_law_939 rfl rfl rfl ?_
        refine zq_aloadR_n (pc' := 941) C dL_law_940 rfl rfl rfl ?_
        refine zq_iload (pc' := 943) C dL_law_941 rfl rfl ?_
        refine zq_iconst (pc' := 944) C 1 dL_law_943 rfl (by decide) ?_
        refine zq_iadd (pc' := 945) C dL_law_944 rfl ?_
        replace hF := zq_bd hF; obtain ⟨v_403, e_404, hF⟩ := hF
        refine zq_sld (pc' := 946) C hs dL_law_945 rfl e_404 ?_
        refine zq_aloadR_n (pc' := 947) C dL_law_946 rfl rfl rfl ?_
        refine zq_iload (pc' := 949) C dL_law_947 rfl rfl ?_
        refine zq_iconst (pc' := 950) C 2 dL_law_949 rfl (by decide) ?_
        refine zq_iadd (pc' := 951) C dL_law_950 rfl ?_
        replace hF := zq_bd hF; obtain ⟨v_405, e_406, hF⟩ := hF
        refine zq_sld (pc' := 952) C hs dL_law_951 rfl e_406 ?_
        refine zq_aload_n (pc' := 953) C dL_law_952 rfl rfl rfl ?_
        replace hF := zq_bd hF; obtain ⟨v_407, e_408, hF⟩ := hF
        refine zq_callL (pc' := 956) C (c_L_number e_408) yl_L_number wd_869 dL_law_953 rfl rfl rfl ⟨Nat.le_of_ble_eq_true rfl, Nat.le_of_ble_eq_true rfl⟩ (Nat.le_of_ble_eq_true rfl) hc1 ?_
        refine zq_widen (119 + k9 + 1) (35486 + 6 * k9 + 6) (Nat.le_refl _) (Nat.le_refl _) ?_
        refine zq_istore (lv' := [(5, .int v_407.1), (0, .retAddr b), (1, .ref v_6), (2, .ref v_13), (3, .ref v_17), (4, .int s_19.1)]) (pc' := 958) C dL_law_956 rfl (by decide) rfl rfl ?_
        refine zq_aload_n (pc' := 959) C dL_law_958 rfl rfl rfl ?_
        refine zq_aloadR_n (pc' := 960) C dL_law_959 rfl rfl rfl ?_
        refine zq_iload (pc' := 962) C dL_law_960 rfl rfl ?_
        refine zq_iconst (pc' := 963) C 1 dL_law_962 rfl (by decide) ?_
        refine zq_iadd (pc' := 964) C dL_law_963 rfl ?_
        replace hF := zq_bd hF; obtain ⟨v_409, e_410, hF⟩ := hF
        refine zq_sld (pc' := 965) C hs dL_law_964 rfl e_410 ?_
        refine zq_aloadR_n (pc' := 966) C dL_law_965 rfl rfl rfl ?_
        refine zq_iload (pc' := 968) C dL_law_966 rfl rfl ?_
        refine zq_iconst (pc' := 969) C 2 dL_law_968 rfl (by decide) ?_
        refine zq_iadd (pc' := 970) C dL_law_969 rfl ?_
        replace hF := zq_bd hF; obtain ⟨v_411, e_412, hF⟩ := hF
        refine zq_sld (pc' := 971) C hs dL_law_970 rfl e_412 ?_
        replace hF := zq_ck_e hF; obtain ⟨e_415, hF⟩ := hF
        replace hF := zq_bd hF; obtain ⟨v_413, e_414, hF⟩ := hF
        refine zq_cV (pc' := 974) C (c_X6_number e_414) yv_X6_number wd_871 zq_K6 e_415 dL_law_971 rfl rfl rfl ⟨Nat.le_of_ble_eq_true rfl, Nat.le_of_ble_eq_true rfl⟩ (Nat.le_of_ble_eq_true rfl) ⟨rfl, rfl⟩ hc1 rfl ?_
        refine zq_istore (lv' := [(6, .int v_413.1), (5, .int v_407.1), (0, .retAddr b), (1, .ref v_6), (2, .ref v_13), (3, .ref v_17), (4, .int s_19.1)]) (pc' := 976) C dL_law_974 rfl (by decide) rfl rfl ?_
        refine zq_aload_n (pc' := 977) C dL_law_976 rfl rfl rfl ?_
        replace hF := zq_ck_e hF; obtain ⟨e_418, hF⟩ := hF
        replace hF := zq_bd hF; obtain ⟨v_416, e_417, hF⟩ := hF
        refine zq_cV (pc' := 980) C (c_X6_thrown e_417) yv_X6_thrown wd_793 zq_K6 e_418 dL_law_977 rfl rfl rfl ⟨Nat.le_of_ble_eq_true rfl, Nat.le_of_ble_eq_true rfl⟩ (Nat.le_of_ble_eq_true rfl) ⟨rfl, rfl⟩ hc1 rfl ?_
        refine zq_iload (pc' := 982) C dL_law_980 rfl rfl ?_
        refine zq_icmp_eq (pc' := 985) C 987 dL_law_982 (by decide) rfl (fun c_419 => ?_) (fun c_419 => ?_)
        · have hF := (zq_ifp hF c_419)
          skip
          refine zq_iload (pc' := 989) C dL_law_987 rfl rfl ?_
          refine zq_if_ne (pc' := 992) C 1004 dL_law_989 (by decide) rfl (fun c_420 => ?_) (fun c_420 => ?_)
          · have hF := (zq_ifn hF c_420)
            skip
            refine zq_goto C 1526 dL_law_1004 (by decide) ?_
            replace hF := zq_let_e hF; obtain ⟨v_421, e_422, hF⟩ := hF
            refine zq_iinc (lv' := [(4, .int v_421), (6, .int v_413.1), (5, .int v_407.1), (0, .retAddr b), (1, .ref v_6), (2, .ref v_13), (3, .ref v_17)]) (pc' := 1529) C dL_law_1526 rfl (by decide) 6 rfl e_422 rfl ?_
            refine zq_goto C 23 dL_law_1529 (by decide) ?_
            cases hF
            refine zq_widen (119 + (k9 + 1)) (35486 + 6 * (k9 + 1)) (by omega) (by omega) ?_
            exact zq_sub [3, 4, 5, 6, 0] rfl (hrec_24 _ rfl)
          · have hF := (zq_ifp hF c_420)
            refine zq_aload_n (pc' := 993) C dL_law_992 rfl rfl rfl ?_
            refine zq_iconst (pc' := 994) C 0 dL_law_993 rfl (by decide) ?_
            replace hF := zq_bd hF; obtain ⟨v_423, e_424, hF⟩ := hF
            refine zq_laload (pc' := 995) C dL_law_994 rfl e_424 ?_
            refine zq_iload (pc' := 997) C dL_law_995 rfl rfl ?_
            refine zq_i2l (pc' := 998) C dL_law_997 rfl ?_
            refine zq_lcmp (pc' := 999) C dL_law_998 rfl ?_
            refine zq_if_eq (pc' := 1002) C 1004 dL_law_999 (by decide) rfl (fun c_425 => ?_) (fun c_425 => ?_)
            · have hF := (zq_ifp hF c_425)
              skip
              refine zq_goto C 1526 dL_law_1004 (by decide) ?_
              replace hF := zq_let_e hF; obtain ⟨v_426, e_427, hF⟩ := hF
              refine zq_iinc (lv' := [(4, .int v_426), (6, .int v_413.1), (5, .int v_407.1), (0, .retAddr b), (1, .ref v_6), (2, .ref v_13), (3, .ref v_17)]) (pc' := 1529) C dL_law_1526 rfl (by decide) 6 rfl e_427 rfl ?_
              refine zq_goto C 23 dL_law_1529 (by decide) ?_
              cases hF
              refine zq_widen (119 + (k9 + 1)) (35486 + 6 * (k9 + 1)) (by omega) (by omega) ?_
              exact zq_sub [3, 4, 5, 6, 0] rfl (hrec_24 _ rfl)
            · have hF := (zq_ifn hF c_425)
              refine zq_iconst (pc' := 1003) C 0 dL_law_1002 rfl (by decide) ?_
              cases hF
              have q9 : (1 : Int32) = 0 := hex_25 _ rfl
              exact absurd q9 (by decide)
        · have hF := (zq_ifn hF c_419)
          refine zq_iconst (pc' := 986) C 0 dL_law_985 rfl (by decide) ?_
          cases hF
          have q9 : (1 : Int32) = 0 := hex_25 _ rfl
          exact absurd q9 (by decide)
      have hF := zq_ifn hF c_402
      by_cases c_428 : (v_30 &&& 31) = 16
      · have hF := zq_ifp hF c_428
        refine zq_tsIn C 1007 dL_law_39 (by rw [c_428]; decide) (by rw [c_428]; decide) (by rw [c_428]; rfl) (by decide) ?_
        refine zq_aload_n (pc' := 1008) C dL_law_1007 rfl rfl rfl ?_
        refine zq_aloadR_n (pc' := 1009) C dL_law_1008 rfl rfl rfl ?_
        refine zq_iload (pc' := 1011) C dL_law_1009 rfl rfl ?_
        refine zq_iconst (pc' := 1012) C 1 dL_law_1011 rfl (by decide) ?_
        refine zq_iadd (pc' := 1013) C dL_law_1012 rfl ?_
        replace hF := zq_bd hF; obtain ⟨v_429, e_430, hF⟩ := hF
        refine zq_sld (pc' := 1014) C hs dL_law_1013 rfl e_430 ?_
        refine zq_aloadR_n (pc' := 1015) C dL_law_1014 rfl rfl rfl ?_
        refine zq_iload (pc' := 1017) C dL_law_1015 rfl rfl ?_
        refine zq_iconst (pc' := 1018) C 2 dL_law_1017 rfl (by decide) ?_
        refine zq_iadd (pc' := 1019) C dL_law_1018 rfl ?_
        replace hF := zq_bd hF; obtain ⟨v_431, e_432, hF⟩ := hF
        refine zq_sld (pc' := 1020) C hs dL_law_1019 rfl e_432 ?_
        refine zq_aload_n (pc' := 1021) C dL_law_1020 rfl rfl rfl ?_
        replace hF := zq_bd hF; obtain ⟨v_433, e_434, hF⟩ := hF
        refine zq_callL (pc' := 1024) C (c_L_triangulation e_434) yl_L_triangulation wd_874 dL_law_1021 rfl rfl rfl ⟨Nat.le_of_ble_eq_true rfl, Nat.le_of_ble_eq_true rfl⟩ (Nat.le_of_ble_eq_true rfl) hc1 ?_
        refine zq_widen (119 + k9 + 1) (35486 + 6 * k9 + 6) (Nat.le_refl _) (Nat.le_refl _) ?_
        refine zq_istore (lv' := [(5, .int v_433.1), (0, .retAddr b), (1, .ref v_6), (2, .ref v_13), (3, .ref v_17), (4, .int s_19.1)]) (pc' := 1026) C dL_law_1024 rfl (by decide) rfl rfl ?_
        refine zq_aload_n (pc' := 1027) C dL_law_1026 rfl rfl rfl ?_
        refine zq_aloadR_n (pc' := 1028) C dL_law_1027 rfl rfl rfl ?_
        refine zq_iload (pc' := 1030) C dL_law_1028 rfl rfl ?_
        refine zq_iconst (pc' := 1031) C 1 dL_law_1030 rfl (by decide) ?_
        refine zq_iadd (pc' := 1032) C dL_law_1031 rfl ?_
        replace hF := zq_bd hF; obtain ⟨v_435, e_436, hF⟩ := hF
        refine zq_sld (pc' := 1033) C hs dL_law_1032 rfl e_436 ?_
        refine zq_aloadR_n (pc' := 1034) C dL_law_1033 rfl rfl rfl ?_
        refine zq_iload (pc' := 1036) C dL_law_1034 rfl rfl ?_
        refine zq_iconst (pc' := 1037) C 2 dL_law_1036 rfl (by decide) ?_
        refine zq_iadd (pc' := 1038) C dL_law_1037 rfl ?_
        replace hF := zq_bd hF; obtain ⟨v_437, e_438, hF⟩ := hF
        refine zq_sld (pc' := 1039) C hs dL_law_1038 rfl e_438 ?_
        replace hF := zq_ck_e hF; obtain ⟨e_441, hF⟩ := hF
        replace hF := zq_bd hF; obtain ⟨v_439, e_440, hF⟩ := hF
        refine zq_cV (pc' := 1042) C (c_X6_triangulation e_440) yv_X6_triangulation wd_876 zq_K6 e_441 dL_law_1039 rfl rfl rfl ⟨Nat.le_of_ble_eq_true rfl, Nat.le_of_ble_eq_true rfl⟩ (Nat.le_of_ble_eq_true rfl) ⟨rfl, rfl⟩ hc1 rfl ?_
        refine zq_istore (lv' := [(6, .int v_439.1), (5, .int v_433.1), (0, .retAddr b), (1, .ref v_6), (2, .ref v_13), (3, .ref v_17), (4, .int s_19.1)]) (pc' := 1044) C dL_law_1042 rfl (by decide) rfl rfl ?_
        refine zq_aload_n (pc' := 1045) C dL_law_1044 rfl rfl rfl ?_
        replace hF := zq_ck_e hF; obtain ⟨e_444, hF⟩ := hF
        replace hF := zq_bd hF; obtain ⟨v_442, e_443, hF⟩ := hF
        refine zq_cV (pc' := 1048) C (c_X6_thrown e_443) yv_X6_thrown wd_793 zq_K6 e_444 dL_law_1045 rfl rfl rfl ⟨Nat.le_of_ble_eq_true rfl, Nat.le_of_ble_eq_true rfl⟩ (Nat.le_of_ble_eq_true rfl) ⟨rfl, rfl⟩ hc1 rfl ?_
        refine zq_iload (pc' := 1050) C dL_law_1048 rfl rfl ?_
        refine zq_icmp_eq (pc' := 1053) C 1055 dL_law_1050 (by decide) rfl (fun c_445 => ?_) (fun c_445 => ?_)
        · have hF := (zq_ifp hF c_445)
          skip
          refine zq_iload (pc' := 1057) C dL_law_1055 rfl rfl ?_
          refine zq_if_ne (pc' := 1060) C 1072 dL_law_1057 (by decide) rfl (fun c_446 => ?_) (fun c_446 => ?_)
          · have hF := (zq_ifn hF c_446)
            skip
            refine zq_goto C 1526 dL_law_1072 (by decide) ?_
            replace hF := zq_let_e hF; obtain ⟨v_447, e_448, hF⟩ := hF
            refine zq_iinc (lv' := [(4, .int v_447), (6, .int v_439.1), (5, .int v_433.1), (0, .retAddr b), (1, .ref v_6), (2, .ref v_13), (3, .ref v_17)]) (pc' := 1529) C dL_law_1526 rfl (by decide) 6 rfl e_448 rfl ?_
            refine zq_goto C 23 dL_law_1529 (by decide) ?_
            cases hF
            refine zq_widen (119 + (k9 + 1)) (35486 + 6 * (k9 + 1)) (by omega) (by omega) ?_
            exact zq_sub [3, 4, 5, 6, 0] rfl (hrec_24 _ rfl)
          · have hF := (zq_ifp hF c_446)
            refine zq_aload_n (pc' := 1061) C dL_law_1060 rfl rfl rfl ?_
            refine zq_iconst (pc' := 1062) C 0 dL_law_1061 rfl (by decide) ?_
            replace hF := zq_bd hF; obtain ⟨v_449, e_450, hF⟩ := hF
            refine zq_laload (pc' := 1063) C dL_law_1062 rfl e_450 ?_
            refine zq_iload (pc' := 1065) C dL_law_1063 rfl rfl ?_
            refine zq_i2l (pc' := 1066) C dL_law_1065 rfl ?_
            refine zq_lcmp (pc' := 1067) C dL_law_1066 rfl ?_
            refine zq_if_eq (pc' := 1070) C 1072 dL_law_1067 (by decide) rfl (fun c_451 => ?_) (fun c_451 => ?_)
            · have hF := (zq_ifp hF c_451)
              skip
              refine zq_goto C 1526 dL_law_1072 (by decide) ?_
              replace hF := zq_let_e hF; obtain ⟨v_452, e_453, hF⟩ := hF
              refine zq_iinc (lv' := [(4, .int v_452), (6, .int v_439.1), (5, .int v_433.1), (0, .retAddr b), (1, .ref v_6), (2, .ref v_13), (3, .ref v_17)]) (pc' := 1529) C dL_law_1526 rfl (by decide) 6 rfl e_453 rfl ?_
              refine zq_goto C 23 dL_law_1529 (by decide) ?_
              cases hF
              refine zq_widen (119 + (k9 + 1)) (35486 + 6 * (k9 + 1)) (by omega) (by omega) ?_
              exact zq_sub [3, 4, 5, 6, 0] rfl (hrec_24 _ rfl)
            · have hF := (zq_ifn hF c_451)
              refine zq_iconst (pc' := 1071) C 0 dL_law_1070 rfl (by decide) ?_
              cases hF
              have q9 : (1 : Int32) = 0 := hex_25 _ rfl
              exact absurd q9 (by decide)
        · have hF := (zq_ifn hF c_445)
          refine zq_iconst (pc' := 1054) C 0 dL_law_1053 rfl (by decide) ?_
          cases hF
          have q9 : (1 : Int32) = 0 := hex_25 _ rfl
          exact absurd q9 (by decide)
      have hF := zq_ifn hF c_428
      by_cases c_454 : (v_30 &&& 31) = 17
      · have hF := zq_ifp hF c_454
        refine zq_tsIn C 1075 dL_law_39 (by rw [c_454]; decide) (by rw [c_454]; decide) (by rw [c_454]; rfl) (by decide) ?_
        refine zq_aload_n (pc' := 1076) C dL_law_1075 rfl rfl rfl ?_
        refine zq_aloadR_n (pc' := 1077) C dL_law_1076 rfl rfl rfl ?_
        refine zq_iload (pc' := 1079) C dL_law_1077 rfl rfl ?_
        refine zq_iconst (pc' := 1080) C 1 dL_law_1079 rfl (by decide) ?_
        refine zq_iadd (pc' := 1081) C dL_law_1080 rfl ?_
        replace hF := zq_bd hF; obtain ⟨v_455, e_456, hF⟩ := hF
        refine zq_sld (pc' := 1082) C hs dL_law_1081 rfl e_456 ?_
        refine zq_aloadR_n (pc' := 1083) C dL_law_1082 rfl rfl rfl ?_
        refine zq_iload (pc' := 1085) C dL_law_1083 rfl rfl ?_
        refine zq_iconst (pc' := 1086) C 2 dL_law_1085 rfl (by decide) ?_
        refine zq_iadd (pc' := 1087) C dL_law_1086 rfl ?_
        replace hF := zq_bd hF; obtain ⟨v_457, e_458, hF⟩ := hF
        refine zq_sld (pc' := 1088) C hs dL_law_1087 rfl e_458 ?_
        refine zq_aload_n (pc' := 1089) C dL_law_1088 rfl rfl rfl ?_
        replace hF := zq_bd hF; obtain ⟨v_459, e_460, hF⟩ := hF
        refine zq_callL (pc' := 1092) C (c_L_degree e_460) yl_L_degree wd_879 dL_law_1089 rfl rfl rfl ⟨Nat.le_of_ble_eq_true rfl, Nat.le_of_ble_eq_true rfl⟩ (Nat.le_of_ble_eq_true rfl) hc1 ?_
        refine zq_widen (119 + k9 + 1) (35486 + 6 * k9 + 6) (Nat.le_refl _) (Nat.le_refl _) ?_
        refine zq_istore (lv' := [(5, .int v_459.1), (0, .retAddr b), (1, .ref v_6), (2, .ref v_13), (3, .ref v_17), (4, .int s_19.1)]) (pc' := 1094) C dL_law_1092 rfl (by decide) rfl rfl ?_
        refine zq_aload_n (pc' := 1095) C dL_law_1094 rfl rfl rfl ?_
        refine zq_aloadR_n (pc' := 1096) C dL_law_1095 rfl rfl rfl ?_
        refine zq_iload (pc' := 1098) C dL_law_1096 rfl rfl ?_
        refine zq_iconst (pc' := 1099) C 1 dL_law_1098 rfl (by decide) ?_
        refine zq_iadd (pc' := 1100) C dL_law_1099 rfl ?_
        replace hF := zq_bd hF; obtain ⟨v_461, e_462, hF⟩ := hF
        refine zq_sld (pc' := 1101) C hs dL_law_1100 rfl e_462 ?_
        refine zq_aloadR_n (pc' := 1102) C dL_law_1101 rfl rfl rfl ?_
        refine zq_iload (pc' := 1104) C dL_law_1102 rfl rfl ?_
        refine zq_iconst (pc' := 1105) C 2 dL_law_1104 rfl (by decide) ?_
        refine zq_iadd (pc' := 1106) C dL_law_1105 rfl ?_
        replace hF := zq_bd hF; obtain ⟨v_463, e_464, hF⟩ := hF
        refine zq_sld (pc' := 1107) C hs dL_law_1106 rfl e_464 ?_
        replace hF := zq_ck_e hF; obtain ⟨e_467, hF⟩ := hF
        replace hF := zq_bd hF; obtain ⟨v_465, e_466, hF⟩ := hF
        refine zq_cV (pc' := 1110) C (c_X6_degree e_466) yv_X6_degree wd_881 zq_K6 e_467 dL_law_1107 rfl rfl rfl ⟨Nat.le_of_ble_eq_true rfl, Nat.le_of_ble_eq_true rfl⟩ (Nat.le_of_ble_eq_true rfl) ⟨rfl, rfl⟩ hc1 rfl ?_
        refine zq_istore (lv' := [(6, .int v_465.1), (5, .int v_459.1), (0, .retAddr b), (1, .ref v_6), (2, .ref v_13), (3, .ref v_17), (4, .int s_19.1)]) (pc' := 1112) C dL_law_1110 rfl (by decide) rfl rfl ?_
        refine zq_aload_n (pc' := 1113) C dL_law_1112 rfl rfl rfl ?_
        replace hF := zq_ck_e hF; obtain ⟨e_470, hF⟩ := hF
        replace hF := zq_bd hF; obtain ⟨v_468, e_469, hF⟩ := hF
        refine zq_cV (pc' := 1116) C (c_X6_thrown e_469) yv_X6_thrown wd_793 zq_K6 e_470 dL_law_1113 rfl rfl rfl ⟨Nat.le_of_ble_eq_true rfl, Nat.le_of_ble_eq_true rfl⟩ (Nat.le_of_ble_eq_true rfl) ⟨rfl, rfl⟩ hc1 rfl ?_
        refine zq_iload (pc' := 1118) C dL_law_1116 rfl rfl ?_
        refine zq_icmp_eq (pc' := 1121) C 1123 dL_law_1118 (by decide) rfl (fun c_471 => ?_) (fun c_471 => ?_)
        · have hF := (zq_ifp hF c_471)
          skip
          refine zq_iload (pc' := 1125) C dL_law_1123 rfl rfl ?_
          refine zq_if_ne (pc' := 1128) C 1140 dL_law_1125 (by decide) rfl (fun c_472 => ?_) (fun c_472 => ?_)
          · have hF := (zq_ifn hF c_472)
            skip
            refine zq_goto C 1526 dL_law_1140 (by decide) ?_
            replace hF := zq_let_e hF; obtain ⟨v_473, e_474, hF⟩ := hF
            refine zq_iinc (lv' := [(4, .int v_473), (6, .int v_465.1), (5, .int v_459.1), (0, .retAddr b), (1, .ref v_6), (2, .ref v_13), (3, .ref v_17)]) (pc' := 1529) C dL_law_1526 rfl (by decide) 6 rfl e_474 rfl ?_
            refine zq_goto C 23 dL_law_1529 (by decide) ?_
            cases hF
            refine zq_widen (119 + (k9 + 1)) (35486 + 6 * (k9 + 1)) (by omega) (by omega) ?_
            exact zq_sub [3, 4, 5, 6, 0] rfl (hrec_24 _ rfl)
          · have hF := (zq_ifp hF c_472)
            refine zq_aload_n (pc' := 1129) C dL_law_1128 rfl rfl rfl ?_
            refine zq_iconst (pc' := 1130) C 0 dL_law_1129 rfl (by decide) ?_
            replace hF := zq_bd hF; obtain ⟨v_475, e_476, hF⟩ := hF
            refine zq_laload (pc' := 1131) C dL_law_1130 rfl e_476 ?_
            refine zq_iload (pc' := 1133) C dL_law_1131 rfl rfl ?_
            refine zq_i2l (pc' := 1134) C dL_law_1133 rfl ?_
            refine zq_lcmp (pc' := 1135) C dL_law_1134 rfl ?_
            refine zq_if_eq (pc' := 1138) C 1140 dL_law_1135 (by decide) rfl (fun c_477 => ?_) (fun c_477 => ?_)
            · have hF := (zq_ifp hF c_477)
              skip
              refine zq_goto C 1526 dL_law_1140 (by decide) ?_
              replace hF := zq_let_e hF; obtain ⟨v_478, e_479, hF⟩ := hF
              refine zq_iinc (lv' := [(4, .int v_478), (6, .int v_465.1), (5, .int v_459.1), (0, .retAddr b), (1, .ref v_6), (2, .ref v_13), (3, .ref v_17)]) (pc' := 1529) C dL_law_1526 rfl (by decide) 6 rfl e_479 rfl ?_
              refine zq_goto C 23 dL_law_1529 (by decide) ?_
              cases hF
              refine zq_widen (119 + (k9 + 1)) (35486 + 6 * (k9 + 1)) (by omega) (by omega) ?_
              exact zq_sub [3, 4, 5, 6, 0] rfl (hrec_24 _ rfl)
            · have hF := (zq_ifn hF c_477)
              refine zq_iconst (pc' := 1139) C 0 dL_law_1138 rfl (by decide) ?_
              cases hF
              have q9 : (1 : Int32) = 0 := hex_25 _ rfl
              exact absurd q9 (by decide)
        · have hF := (zq_ifn hF c_471)
          refine zq_iconst (pc' := 1122) C 0 dL_law_1121 rfl (by decide) ?_
          cases hF
          have q9 : (1 : Int32) = 0 := hex_25 _ rfl
          exact absurd q9 (by decide)
      have hF := zq_ifn hF c_454
      by_cases c_480 : (v_30 &&& 31) = 18
      · have hF := zq_ifp hF c_480
        refine zq_tsIn C 1143 dL_law_39 (by rw [c_480]; decide) (by rw [c_480]; decide) (by rw [c_480]; rfl) (by decide) ?_
        refine zq_aload_n (pc' := 1144) C dL_law_1143 rfl rfl rfl ?_
        refine zq_aloadR_n (pc' := 1145) C dL_law_1144 rfl rfl rfl ?_
        refine zq_iload (pc' := 1147) C dL_law_1145 rfl rfl ?_
        refine zq_iconst (pc' := 1148) C 1 dL_law_1147 rfl (by decide) ?_
        refine zq_iadd (pc' := 1149) C dL_law_1148 rfl ?_
        replace hF := zq_bd hF; obtain ⟨v_481, e_482, hF⟩ := hF
        refine zq_sld (pc' := 1150) C hs dL_law_1149 rfl e_482 ?_
        refine zq_aloadR_n (pc' := 1151) C dL_law_1150 rfl rfl rfl ?_
        refine zq_iload (pc' := 1153) C dL_law_1151 rfl rfl ?_
        refine zq_iconst (pc' := 1154) C 2 dL_law_1153 rfl (by decide) ?_
        refine zq_iadd (pc' := 1155) C dL_law_1154 rfl ?_
        replace hF := zq_bd hF; obtain ⟨v_483, e_484, hF⟩ := hF
        refine zq_sld (pc' := 1156) C hs dL_law_1155 rfl e_484 ?_
        refine zq_aloadR_n (pc' := 1157) C dL_law_1156 rfl rfl rfl ?_
        refine zq_iload (pc' := 1159) C dL_law_1157 rfl rfl ?_
        refine zq_iconst (pc' := 1160) C 3 dL_law_1159 rfl (by decide) ?_
        refine zq_iadd (pc' := 1161) C dL_law_1160 rfl ?_
        replace hF := zq_bd hF; obtain ⟨v_485, e_486, hF⟩ := hF
        refine zq_sld (pc' := 1162) C hs dL_law_1161 rfl e_486 ?_
        refine zq_aload_n (pc' := 1163) C dL_law_1162 rfl rfl rfl ?_
        replace hF := zq_bd hF; obtain ⟨v_487, e_488, hF⟩ := hF
        refine zq_callL (pc' := 1166) C (c_L_other e_488) yl_L_other wd_884 dL_law_1163 rfl rfl rfl ⟨Nat.le_of_ble_eq_true rfl, Nat.le_of_ble_eq_true rfl⟩ (Nat.le_of_ble_eq_true rfl) hc1 ?_
        refine zq_widen (119 + k9 + 1) (35486 + 6 * k9 + 6) (Nat.le_refl _) (Nat.le_refl _) ?_
        refine zq_istore (lv' := [(5, .int v_487.1), (0, .retAddr b), (1, .ref v_6), (2, .ref v_13), (3, .ref v_17), (4, .int s_19.1)]) (pc' := 1168) C dL_law_1166 rfl (by decide) rfl rfl ?_
        refine zq_aload_n (pc' := 1169) C dL_law_1168 rfl rfl rfl ?_
        refine zq_aloadR_n (pc' := 1170) C dL_law_1169 rfl rfl rfl ?_
        refine zq_iload (pc' := 1172) C dL_law_1170 rfl rfl ?_
        refine zq_iconst (pc' := 1173) C 1 dL_law_1172 rfl (by decide) ?_
        refine zq_iadd (pc' := 1174) C dL_law_1173 rfl ?_
        replace hF := zq_bd hF; obtain ⟨v_489, e_490, hF⟩ := hF
        refine zq_sld (pc' := 1175) C hs dL_law_1174 rfl e_490 ?_
        refine zq_aloadR_n (pc' := 1176) C dL_law_1175 rfl rfl rfl ?_
        refine zq_iload (pc' := 1178) C dL_law_1176 rfl rfl ?_
        refine zq_iconst (pc' := 1179) C 2 dL_law_1178 rfl (by decide) ?_
        refine zq_iadd (pc' := 1180) C dL_law_1179 rfl ?_
        replace hF := zq_bd hF; obtain ⟨v_491, e_492, hF⟩ := hF
        refine zq_sld (pc' := 1181) C hs dL_law_1180 rfl e_492 ?_
        refine zq_aloadR_n (pc' := 1182) C dL_law_1181 rfl rfl rfl ?_
        refine zq_iload (pc' := 1184) C dL_law_1182 rfl rfl ?_
        refine zq_iconst (pc' := 1185) C 3 dL_law_1184 rfl (by decide) ?_
        refine zq_iadd (pc' := 1186) C dL_law_1185 rfl ?_
        replace hF := zq_bd hF; obtain ⟨v_493, e_494, hF⟩ := hF
        refine zq_sld (pc' := 1187) C hs dL_law_1186 rfl e_494 ?_
        replace hF := zq_ck_e hF; obtain ⟨e_497, hF⟩ := hF
        replace hF := zq_bd hF; obtain ⟨v_495, e_496, hF⟩ := hF
        refine zq_cV (pc' := 1190) C (c_X6_other e_496) yv_X6_other wd_886 zq_K6 e_497 dL_law_1187 rfl rfl rfl ⟨Nat.le_of_ble_eq_true rfl, Nat.le_of_ble_eq_true rfl⟩ (Nat.le_of_ble_eq_true rfl) ⟨rfl, rfl⟩ hc1 rfl ?_
        refine zq_istore (lv' := [(6, .int v_495.1), (5, .int v_487.1), (0, .retAddr b), (1, .ref v_6), (2, .ref v_13), (3, .ref v_17), (4, .int s_19.1)]) (pc' := 1192) C dL_law_1190 rfl (by decide) rfl rfl ?_
        refine zq_aload_n (pc' := 1193) C dL_law_1192 rfl rfl rfl ?_
        replace hF := zq_ck_e hF; obtain ⟨e_500, hF⟩ := hF
        replace hF := zq_bd hF; obtain ⟨v_498, e_499, hF⟩ := hF
        refine zq_cV (pc' := 1196) C (c_X6_thrown e_499) yv_X6_thrown wd_793 zq_K6 e_500 dL_law_1193 rfl rfl rfl ⟨Nat.le_of_ble_eq_true rfl, Nat.le_of_ble_eq_true rfl⟩ (Nat.le_of_ble_eq_true rfl) ⟨rfl, rfl⟩ hc1 rfl ?_
        refine zq_iload (pc' := 1198) C dL_law_1196 rfl rfl ?_
        refine zq_icmp_eq (pc' := 1201) C 1203 dL_law_1198 (by decide) rfl (fun c_501 => ?_) (fun c_501 => ?_)
        · have hF := (zq_ifp hF c_501)
          skip
          refine zq_iload (pc' := 1205) C dL_law_1203 rfl rfl ?_
          refine zq_if_ne (pc' := 1208) C 1220 dL_law_1205 (by decide) rfl (fun c_502 => ?_) (fun c_502 => ?_)
          · have hF := (zq_ifn hF c_502)
            skip
            refine zq_goto C 1526 dL_law_1220 (by decide) ?_
            replace hF := zq_let_e hF; obtain ⟨v_503, e_504, hF⟩ := hF
            refine zq_iinc (lv' := [(4, .int v_503), (6, .int v_495.1), (5, .int v_487.1), (0, .retAddr b), (1, .ref v_6), (2, .ref v_13), (3, .ref v_17)]) (pc' := 1529) C dL_law_1526 rfl (by decide) 6 rfl e_504 rfl ?_
            refine zq_goto C 23 dL_law_1529 (by decide) ?_
            cases hF
            refine zq_widen (119 + (k9 + 1)) (35486 + 6 * (k9 + 1)) (by omega) (by omega) ?_
            exact zq_sub [3, 4, 5, 6, 0] rfl (hrec_24 _ rfl)
          · have hF := (zq_ifp hF c_502)
            refine zq_aload_n (pc' := 1209) C dL_law_1208 rfl rfl rfl ?_
            refine zq_iconst (pc' := 1210) C 0 dL_law_1209 rfl (by decide) ?_
            replace hF := zq_bd hF; obtain ⟨v_505, e_506, hF⟩ := hF
            refine zq_laload (pc' := 1211) C dL_law_1210 rfl e_506 ?_
            refine zq_iload (pc' := 1213) C dL_law_1211 rfl rfl ?_
            refine zq_i2l (pc' := 1214) C dL_law_1213 rfl ?_
            refine zq_lcmp (pc' := 1215) C dL_law_1214 rfl ?_
            refine zq_if_eq (pc' := 1218) C 1220 dL_law_1215 (by decide) rfl (fun c_507 => ?_) (fun c_507 => ?_)
            · have hF := (zq_ifp hF c_507)
              skip
              refine zq_goto C 1526 dL_law_1220 (by decide) ?_
              replace hF := zq_let_e hF; obtain ⟨v_508, e_509, hF⟩ := hF
              refine zq_iinc (lv' := [(4, .int v_508), (6, .int v_495.1), (5, .int v_487.1), (0, .retAddr b), (1, .ref v_6), (2, .ref v_13), (3, .ref v_17)]) (pc' := 1529) C dL_law_1526 rfl (by decide) 6 rfl e_509 rfl ?_
              refine zq_goto C 23 dL_law_1529 (by decide) ?_
              cases hF
              refine zq_widen (119 + (k9 + 1)) (35486 + 6 * (k9 + 1)) (by omega) (by omega) ?_
              exact zq_sub [3, 4, 5, 6, 0] rfl (hrec_24 _ rfl)
            · have hF := (zq_ifn hF c_507)
              refine zq_iconst (pc' := 1219) C 0 dL_law_1218 rfl (by decide) ?_
              cases hF
              have q9 : (1 : Int32) = 0 := hex_25 _ rfl
              exact absurd q9 (by decide)
        · have hF := (zq_ifn hF c_501)
          refine zq_iconst (pc' := 1202) C 0 dL_law_1201 rfl (by decide) ?_
          cases hF
          have q9 : (1 : Int32) = 0 := hex_25 _ rfl
          exact absurd q9 (by decide)
      have hF := zq_ifn hF c_480
      by_cases c_510 : (v_30 &&& 31) = 19
      · have hF := zq_ifp hF c_510
        refine zq_tsIn C 1223 dL_law_39 (by rw [c_510]; decide) (by rw [c_510]; decide) (by rw [c_510]; rfl) (by decide) ?_
        refine zq_aload_n (pc' := 1224) C dL_law_1223 rfl rfl rfl ?_
        refine zq_aloadR_n (pc' := 1225) C dL_law_1224 rfl rfl rfl ?_
        refine zq_iload (pc' := 1227) C dL_law_1225 rfl rfl ?_
        refine zq_iconst (pc' := 1228) C 1 dL_law_1227 rfl (by decide) ?_
        refine zq_iadd (pc' := 1229) C dL_law_1228 rfl ?_
        replace hF := zq_bd hF; obtain ⟨v_511, e_512, hF⟩ := hF
        refine zq_sld (pc' := 1230) C hs dL_law_1229 rfl e_512 ?_
        refine zq_aloadR_n (pc' := 1231) C dL_law_1230 rfl rfl rfl ?_
        refine zq_iload (pc' := 1233) C dL_law_1231 rfl rfl ?_
        refine zq_iconst (pc' := 1234) C 2 dL_law_1233 rfl (by decide) ?_
        refine zq_iadd (pc' := 1235) C dL_law_1234 rfl ?_
        replace hF := zq_bd hF; obtain ⟨v_513, e_514, hF⟩ := hF
        refine zq_sld (pc' := 1236) C hs dL_law_1235 rfl e_514 ?_
        refine zq_aload_n (pc' := 1237) C dL_law_1236 rfl rfl rfl ?_
        replace hF := zq_bd hF; obtain ⟨v_515, e_516, hF⟩ := hF
        refine zq_callL (pc' := 1240) C (c_L_whyNot e_516) yl_L_whyNot wd_889 dL_law_1237 rfl rfl rfl ⟨Nat.le_of_ble_eq_true rfl, Nat.le_of_ble_eq_true rfl⟩ (Nat.le_of_ble_eq_true rfl) hc1 ?_
        refine zq_widen (119 + k9 + 1) (35486 + 6 * k9 + 6) (Nat.le_refl _) (Nat.le_refl _) ?_
        refine zq_istore (lv' := [(5, .int v_515.1), (0, .retAddr b), (1, .ref v_6), (2, .ref v_13), (3, .ref v_17), (4, .int s_19.1)]) (pc' := 1242) C dL_law_1240 rfl (by decide) rfl rfl ?_
        refine zq_aload_n (pc' := 1243) C dL_law_1242 rfl rfl rfl ?_
        refine zq_aloadR_n (pc' := 1244) C dL_law_1243 rfl rfl rfl ?_
        refine zq_iload (pc' := 1246) C dL_law_1244 rfl rfl ?_
        refine zq_iconst (pc' := 1247) C 1 dL_law_1246 rfl (by decide) ?_
        refine zq_iadd (pc' := 1248) C dL_law_1247 rfl ?_
        replace hF := zq_bd hF; obtain ⟨v_517, e_518, hF⟩ := hF
        refine zq_sld (pc' := 1249) C hs dL_law_1248 rfl e_518 ?_
        refine zq_aloadR_n (pc' := 1250) C dL_law_1249 rfl rfl rfl ?_
        refine zq_iload (pc' := 1252) C dL_law_1250 rfl rfl ?_
        refine zq_iconst (pc' := 1253) C 2 dL_law_1252 rfl (by decide) ?_
        refine zq_iadd (pc' := 1254) C dL_law_1253 rfl ?_
        replace hF := zq_bd hF; obtain ⟨v_519, e_520, hF⟩ := hF
        refine zq_sld (pc' := 1255) C hs dL_law_1254 rfl e_520 ?_
        replace hF := zq_ck_e hF; obtain ⟨e_523, hF⟩ := hF
        replace hF := zq_bd hF; obtain ⟨v_521, e_522, hF⟩ := hF
        refine zq_cV (pc' := 1258) C (c_X6_whyNot e_522) yv_X6_whyNot wd_891 zq_K6 e_523 dL_law_1255 rfl rfl rfl ⟨Nat.le_of_ble_eq_true rfl, Nat.le_of_ble_eq_true rfl⟩ (Nat.le_of_ble_eq_true rfl) ⟨rfl, rfl⟩ hc1 rfl ?_
        refine zq_istore (lv' := [(6, .int v_521.1), (5, .int v_515.1), (0, .retAddr b), (1, .ref v_6), (2, .ref v_13), (3, .ref v_17), (4, .int s_19.1)]) (pc' := 1260) C dL_law_1258 rfl (by decide) rfl rfl ?_
        refine zq_aload_n (pc' := 1261) C dL_law_1260 rfl rfl rfl ?_
        replace hF := zq_ck_e hF; obtain ⟨e_526, hF⟩ := hF
        replace hF := zq_bd hF; obtain ⟨v_524, e_525, hF⟩ := hF
        refine zq_cV (pc' := 1264) C (c_X6_thrown e_525) yv_X6_thrown wd_793 zq_K6 e_526 dL_law_1261 rfl rfl rfl ⟨Nat.le_of_ble_eq_true rfl, Nat.le_of_ble_eq_true rfl⟩ (Nat.le_of_ble_eq_true rfl) ⟨rfl, rfl⟩ hc1 rfl ?_
        refine zq_iload (pc' := 1266) C dL_law_1264 rfl rfl ?_
        refine zq_icmp_eq (pc' := 1269) C 1271 dL_law_1266 (by decide) rfl (fun c_527 => ?_) (fun c_527 => ?_)
        · have hF := (zq_ifp hF c_527)
          skip
          refine zq_iload (pc' := 1273) C dL_law_1271 rfl rfl ?_
          refine zq_if_ne (pc' := 1276) C 1288 dL_law_1273 (by decide) rfl (fun c_528 => ?_) (fun c_528 => ?_)
          · have hF := (zq_ifn hF c_528)
            skip
            refine zq_goto C 1526 dL_law_1288 (by decide) ?_
            replace hF := zq_let_e hF; obtain ⟨v_529, e_530, hF⟩ := hF
            refine zq_iinc (lv' := [(4, .int v_529), (6, .int v_521.1), (5, .int v_515.1), (0, .retAddr b), (1, .ref v_6), (2, .ref v_13), (3, .ref v_17)]) (pc' := 1529) C dL_law_1526 rfl (by decide) 6 rfl e_530 rfl ?_
            refine zq_goto C 23 dL_law_1529 (by decide) ?_
            cases hF
            refine zq_widen (119 + (k9 + 1)) (35486 + 6 * (k9 + 1)) (by omega) (by omega) ?_
            exact zq_sub [3, 4, 5, 6, 0] rfl (hrec_24 _ rfl)
          · have hF := (zq_ifp hF c_528)
            refine zq_aload_n (pc' := 1277) C dL_law_1276 rfl rfl rfl ?_
            refine zq_iconst (pc' := 1278) C 0 dL_law_1277 rfl (by decide) ?_
            replace hF := zq_bd hF; obtain ⟨v_531, e_532, hF⟩ := hF
            refine zq_laload (pc' := 1279) C dL_law_1278 rfl e_532 ?_
            refine zq_iload (pc' := 1281) C dL_law_1279 rfl rfl ?_
            refine zq_i2l (pc' := 1282) C dL_law_1281 rfl ?_
            refine zq_lcmp (pc' := 1283) C dL_law_1282 rfl ?_
            refine zq_if_eq (pc' := 1286) C 1288 dL_law_1283 (by decide) rfl (fun c_533 => ?_) (fun c_533 => ?_)
            · have hF := (zq_ifp hF c_533)
              skip
              refine zq_goto C 1526 dL_law_1288 (by decide) ?_
              replace hF := zq_let_e hF; obtain ⟨v_534, e_535, hF⟩ := hF
              refine zq_iinc (lv' := [(4, .int v_534), (6, .int v_521.1), (5, .int v_515.1), (0, .retAddr b), (1, .ref v_6), (2, .ref v_13), (3, .ref v_17)]) (pc' := 1529) C dL_law_1526 rfl (by decide) 6 rfl e_535 rfl ?_
              refine zq_goto C 23 dL_law_1529 (by decide) ?_
              cases hF
              refine zq_widen (119 + (k9 + 1)) (35486 + 6 * (k9 + 1)) (by omega) (by omega) ?_
              exact zq_sub [3, 4, 5, 6, 0] rfl (hrec_24 _ rfl)
            · have hF := (zq_ifn hF c_533)
              refine zq_iconst (pc' := 1287) C 0 dL_law_1286 rfl (by decide) ?_
              cases hF
              have q9 : (1 : Int32) = 0 := hex_25 _ rfl
              exact absurd q9 (by decide)
        · have hF := (zq_ifn hF c_527)
          refine zq_iconst (pc' := 1270) C 0 dL_law_1269 rfl (by decide) ?_
          cases hF
          have q9 : (1 : Int32) = 0 := hex_25 _ rfl
          exact absurd q9 (by decide)
      have hF := zq_ifn hF c_510
      by_cases c_536 : (v_30 &&& 31) = 20
      · have hF := zq_ifp hF c_536
        refine zq_tsIn C 1291 dL_law_39 (by rw [c_536]; decide) (by rw [c_536]; decide) (by rw [c_536]; rfl) (by decide) ?_
        refine zq_aload_n (pc' := 1292) C dL_law_1291 rfl rfl rfl ?_
        refine zq_aloadR_n (pc' := 1293) C dL_law_1292 rfl rfl rfl ?_
        refine zq_iload (pc' := 1295) C dL_law_1293 rfl rfl ?_
        refine zq_iconst (pc' := 1296) C 1 dL_law_1295 rfl (by decide) ?_
        refine zq_iadd (pc' := 1297) C dL_law_1296 rfl ?_
        replace hF := zq_bd hF; obtain ⟨v_537, e_538, hF⟩ := hF
        refine zq_sld (pc' := 1298) C hs dL_law_1297 rfl e_538 ?_
        refine zq_aload_n (pc' := 1299) C dL_law_1298 rfl rfl rfl ?_
        replace hF := zq_bd hF; obtain ⟨v_539, e_540, hF⟩ := hF
        refine zq_callL (pc' := 1302) C (c_L_distance e_540) yl_L_distance wd_894 dL_law_1299 rfl rfl rfl ⟨Nat.le_of_ble_eq_true rfl, Nat.le_of_ble_eq_true rfl⟩ (Nat.le_of_ble_eq_true rfl) hc1 ?_
        refine zq_widen (119 + k9 + 1) (35486 + 6 * k9 + 6) (Nat.le_refl _) (Nat.le_refl _) ?_
        refine zq_istore (lv' := [(5, .int v_539.1), (0, .retAddr b), (1, .ref v_6), (2, .ref v_13), (3, .ref v_17), (4, .int s_19.1)]) (pc' := 1304) C dL_law_1302 rfl (by decide) rfl rfl ?_
        refine zq_aload_n (pc' := 1305) C dL_law_1304 rfl rfl rfl ?_
        refine zq_aloadR_n (pc' := 1306) C dL_law_1305 rfl rfl rfl ?_
        refine zq_iload (pc' := 1308) C dL_law_1306 rfl rfl ?_
        refine zq_iconst (pc' := 1309) C 1 dL_law_1308 rfl (by decide) ?_
        refine zq_iadd (pc' := 1310) C dL_law_1309 rfl ?_
        replace hF := zq_bd hF; obtain ⟨v_541, e_542, hF⟩ := hF
        refine zq_sld (pc' := 1311) C hs dL_law_1310 rfl e_542 ?_
        replace hF := zq_ck_e hF; obtain ⟨e_545, hF⟩ := hF
        replace hF := zq_bd hF; obtain ⟨v_543, e_544, hF⟩ := hF
        refine zq_cV (pc' := 1314) C (c_X6_distance e_544) yv_X6_distance wd_896 zq_K6 e_545 dL_law_1311 rfl rfl rfl ⟨Nat.le_of_ble_eq_true rfl, Nat.le_of_ble_eq_true rfl⟩ (Nat.le_of_ble_eq_true rfl) ⟨rfl, rfl⟩ hc1 rfl ?_
        refine zq_istore (lv' := [(6, .int v_543.1), (5, .int v_539.1), (0, .retAddr b), (1, .ref v_6), (2, .ref v_13), (3, .ref v_17), (4, .int s_19.1)]) (pc' := 1316) C dL_law_1314 rfl (by decide) rfl rfl ?_
        refine zq_aload_n (pc' := 1317) C dL_law_1316 rfl rfl rfl ?_
        replace hF := zq_ck_e hF; obtain ⟨e_548, hF⟩ := hF
        replace hF := zq_bd hF; obtain ⟨v_546, e_547, hF⟩ := hF
        refine zq_cV (pc' := 1320) C (c_X6_thrown e_547) yv_X6_thrown wd_793 zq_K6 e_548 dL_law_1317 rfl rfl rfl ⟨Nat.le_of_ble_eq_true rfl, Nat.le_of_ble_eq_true rfl⟩ (Nat.le_of_ble_eq_true rfl) ⟨rfl, rfl⟩ hc1 rfl ?_
        refine zq_iload (pc' := 1322) C dL_law_1320 rfl rfl ?_
        refine zq_icmp_eq (pc' := 1325) C 1327 dL_law_1322 (by decide) rfl (fun c_549 => ?_) (fun c_549 => ?_)
        · have hF := (zq_ifp hF c_549)
          skip
          refine zq_iload (pc' := 1329) C dL_law_1327 rfl rfl ?_
          refine zq_if_ne (pc' := 1332) C 1344 dL_law_1329 (by decide) rfl (fun c_550 => ?_) (fun c_550 => ?_)
          · have hF := (zq_ifn hF c_550)
            skip
            refine zq_goto C 1526 dL_law_1344 (by decide) ?_
            replace hF := zq_let_e hF; obtain ⟨v_551, e_552, hF⟩ := hF
            refine zq_iinc (lv' := [(4, .int v_551), (6, .int v_543.1), (5, .int v_539.1), (0, .retAddr b), (1, .ref v_6), (2, .ref v_13), (3, .ref v_17)]) (pc' := 1529) C dL_law_1526 rfl (by decide) 6 rfl e_552 rfl ?_
            refine zq_goto C 23 dL_law_1529 (by decide) ?_
            cases hF
            refine zq_widen (119 + (k9 + 1)) (35486 + 6 * (k9 + 1)) (by omega) (by omega) ?_
            exact zq_sub [3, 4, 5, 6, 0] rfl (hrec_24 _ rfl)
          · have hF := (zq_ifp hF c_550)
            refine zq_aload_n (pc' := 1333) C dL_law_1332 rfl rfl rfl ?_
            refine zq_iconst (pc' := 1334) C 0 dL_law_1333 rfl (by decide) ?_
            replace hF := zq_bd hF; obtain ⟨v_553, e_554, hF⟩ := hF
            refine zq_laload (pc' := 1335) C dL_law_1334 rfl e_554 ?_
            refine zq_iload (pc' := 1337) C dL_law_1335 rfl rfl ?_
            refine zq_i2l (pc' := 1338) C dL_law_1337 rfl ?_
            refine zq_lcmp (pc' := 1339) C dL_law_1338 rfl ?_
            refine zq_if_eq (pc' := 1342) C 1344 dL_law_1339 (by decide) rfl (fun c_555 => ?_) (fun c_555 => ?_)
            · have hF := (zq_ifp hF c_555)
              skip
              refine zq_goto C 1526 dL_law_1344 (by decide) ?_
              replace hF := zq_let_e hF; obtain ⟨v_556, e_557, hF⟩ := hF
              refine zq_iinc (lv' := [(4, .int v_556), (6, .int v_543.1), (5, .int v_539.1), (0, .retAddr b), (1, .ref v_6), (2, .ref v_13), (3, .ref v_17)]) (pc' := 1529) C dL_law_1526 rfl (by decide) 6 rfl e_557 rfl ?_
              refine zq_goto C 23 dL_law_1529 (by decide) ?_
              cases hF
              refine zq_widen (119 + (k9 + 1)) (35486 + 6 * (k9 + 1)) (by omega) (by omega) ?_
              exact zq_sub [3, 4, 5, 6, 0] rfl (hrec_24 _ rfl)
            · have hF := (zq_ifn hF c_555)
              refine zq_iconst (pc' := 1343) C 0 dL_law_1342 rfl (by decide) ?_
              cases hF
              have q9 : (1 : Int32) = 0 := hex_25 _ rfl
              exact absurd q9 (by decide)
        · have hF := (zq_ifn hF c_549)
          refine zq_iconst (pc' := 1326) C 0 dL_law_1325 rfl (by decide) ?_
          cases hF
          have q9 : (1 : Int32) = 0 := hex_25 _ rfl
          exact absurd q9 (by decide)
      have hF := zq_ifn hF c_536
      by_cases c_558 : (v_30 &&& 31) = 21
      · have hF := zq_ifp hF c_558
        refine zq_tsIn C 1347 dL_law_39 (by rw [c_558]; decide) (by rw [c_558]; decide) (by rw [c_558]; rfl) (by decide) ?_
        refine zq_aload_n (pc' := 1348) C dL_law_1347 rfl rfl rfl ?_
        refine zq_aloadR_n (pc' := 1349) C dL_law_1348 rfl rfl rfl ?_
        refine zq_iload (pc' := 1351) C dL_law_1349 rfl rfl ?_
        refine zq_iconst (pc' := 1352) C 1 dL_law_1351 rfl (by decide) ?_
        refine zq_iadd (pc' := 1353) C dL_law_1352 rfl ?_
        replace hF := zq_bd hF; obtain ⟨v_559, e_560, hF⟩ := hF
        refine zq_sld (pc' := 1354) C hs dL_law_1353 rfl e_560 ?_
        refine zq_aloadR_n (pc' := 1355) C dL_law_1354 rfl rfl rfl ?_
        refine zq_iload (pc' := 1357) C dL_law_1355 rfl rfl ?_
        refine zq_iconst (pc' := 1358) C 2 dL_law_1357 rfl (by decide) ?_
        refine zq_iadd (pc' := 1359) C dL_law_1358 rfl ?_
        replace hF := zq_bd hF; obtain ⟨v_561, e_562, hF⟩ := hF
        refine zq_sld (pc' := 1360) C hs dL_law_1359 rfl e_562 ?_
        refine zq_aload_n (pc' := 1361) C dL_law_1360 rfl rfl rfl ?_
        replace hF := zq_bd hF; obtain ⟨v_563, e_564, hF⟩ := hF
        refine zq_callL (pc' := 1364) C (c_L_ifFlipped e_564) yl_L_ifFlipped wd_899 dL_law_1361 rfl rfl rfl ⟨Nat.le_of_ble_eq_true rfl, Nat.le_of_ble_eq_true rfl⟩ (Nat.le_of_ble_eq_true rfl) hc1 ?_
        refine zq_widen (119 + k9 + 1) (35486 + 6 * k9 + 6) (Nat.le_refl _) (Nat.le_refl _) ?_
        refine zq_istore (lv' := [(5, .int v_563.1), (0, .retAddr b), (1, .ref v_6), (2, .ref v_13), (3, .ref v_17), (4, .int s_19.1)]) (pc' := 1366) C dL_law_1364 rfl (by decide) rfl rfl ?_
        refine zq_aload_n (pc' := 1367) C dL_law_1366 rfl rfl rfl ?_
        refine zq_aloadR_n (pc' := 1368) C dL_law_1367 rfl rfl rfl ?_
        refine zq_iload (pc' := 1370) C dL_law_1368 rfl rfl ?_
        refine zq_iconst (pc' := 1371) C 1 dL_law_1370 rfl (by decide) ?_
        refine zq_iadd (pc' := 1372) C dL_law_1371 rfl ?_
        replace hF := zq_bd hF; obtain ⟨v_565, e_566, hF⟩ := hF
        refine zq_sld (pc' := 1373) C hs dL_law_1372 rfl e_566 ?_
        refine zq_aloadR_n (pc' := 1374) C dL_law_1373 rfl rfl rfl ?_
        refine zq_iload (pc' := 1376) C dL_law_1374 rfl rfl ?_
        refine zq_iconst (pc' := 1377) C 2 dL_law_1376 rfl (by decide) ?_
        refine zq_iadd (pc' := 1378) C dL_law_1377 rfl ?_
        replace hF := zq_bd hF; obtain ⟨v_567, e_568, hF⟩ := hF
        refine zq_sld (pc' := 1379) C hs dL_law_1378 rfl e_568 ?_
        replace hF := zq_ck_e hF; obtain ⟨e_571, hF⟩ := hF
        replace hF := zq_bd hF; obtain ⟨v_569, e_570, hF⟩ := hF
        refine zq_cV (pc' := 1382) C (c_X6_ifFlipped e_570) yv_X6_ifFlipped wd_901 zq_K6 e_571 dL_law_1379 rfl rfl rfl ⟨Nat.le_of_ble_eq_true rfl, Nat.le_of_ble_eq_true rfl⟩ (Nat.le_of_ble_eq_true rfl) ⟨rfl, rfl⟩ hc1 rfl ?_
        refine zq_istore (lv' := [(6, .int v_569.1), (5, .int v_563.1), (0, .retAddr b), (1, .ref v_6), (2, .ref v_13), (3, .ref v_17), (4, .int s_19.1)]) (pc' := 1384) C dL_law_1382 rfl (by decide) rfl rfl ?_
        refine zq_aload_n (pc' := 1385) C dL_law_1384 rfl rfl rfl ?_
        replace hF := zq_ck_e hF; obtain ⟨e_574, hF⟩ := hF
        replace hF := zq_bd hF; obtain ⟨v_572, e_573, hF⟩ := hF
        refine zq_cV (pc' := 1388) C (c_X6_thrown e_573) yv_X6_thrown wd_793 zq_K6 e_574 dL_law_1385 rfl rfl rfl ⟨Nat.le_of_ble_eq_true rfl, Nat.le_of_ble_eq_true rfl⟩ (Nat.le_of_ble_eq_true rfl) ⟨rfl, rfl⟩ hc1 rfl ?_
        refine zq_iload (pc' := 1390) C dL_law_1388 rfl rfl ?_
        refine zq_icmp_eq (pc' := 1393) C 1395 dL_law_1390 (by decide) rfl (fun c_575 => ?_) (fun c_575 => ?_)
        · have hF := (zq_ifp hF c_575)
          skip
          refine zq_iload (pc' := 1397) C dL_law_1395 rfl rfl ?_
          refine zq_if_ne (pc' := 1400) C 1412 dL_law_1397 (by decide) rfl (fun c_576 => ?_) (fun c_576 => ?_)
          · have hF := (zq_ifn hF c_576)
            skip
            refine zq_goto C 1526 dL_law_1412 (by decide) ?_
            replace hF := zq_let_e hF; obtain ⟨v_577, e_578, hF⟩ := hF
            refine zq_iinc (lv' := [(4, .int v_577), (6, .int v_569.1), (5, .int v_563.1), (0, .retAddr b), (1, .ref v_6), (2, .ref v_13), (3, .ref v_17)]) (pc' := 1529) C dL_law_1526 rfl (by decide) 6 rfl e_578 rfl ?_
            refine zq_goto C 23 dL_law_1529 (by decide) ?_
            cases hF
            refine zq_widen (119 + (k9 + 1)) (35486 + 6 * (k9 + 1)) (by omega) (by omega) ?_
            exact zq_sub [3, 4, 5, 6, 0] rfl (hrec_24 _ rfl)
          · have hF := (zq_ifp hF c_576)
            refine zq_aload_n (pc' := 1401) C dL_law_1400 rfl rfl rfl ?_
            refine zq_iconst (pc' := 1402) C 0 dL_law_1401 rfl (by decide) ?_
            replace hF := zq_bd hF; obtain ⟨v_579, e_580, hF⟩ := hF
            refine zq_laload (pc' := 1403) C dL_law_1402 rfl e_580 ?_
            refine zq_iload (pc' := 1405) C dL_law_1403 rfl rfl ?_
            refine zq_i2l (pc' := 1406) C dL_law_1405 rfl ?_
            refine zq_lcmp (pc' := 1407) C dL_law_1406 rfl ?_
            refine zq_if_eq (pc' := 1410) C 1412 dL_law_1407 (by decide) rfl (fun c_581 => ?_) (fun c_581 => ?_)
            · have hF := (zq_ifp hF c_581)
              skip
              refine zq_goto C 1526 dL_law_1412 (by decide) ?_
              replace hF := zq_let_e hF; obtain ⟨v_582, e_583, hF⟩ := hF
              refine zq_iinc (lv' := [(4, .int v_582), (6, .int v_569.1), (5, .int v_563.1), (0, .retAddr b), (1, .ref v_6), (2, .ref v_13), (3, .ref v_17)]) (pc' := 1529) C dL_law_1526 rfl (by decide) 6 rfl e_583 rfl ?_
              refine zq_goto C 23 dL_law_1529 (by decide) ?_
              cases hF
              refine zq_widen (119 + (k9 + 1)) (35486 + 6 * (k9 + 1)) (by omega) (by omega) ?_
              exact zq_sub [3, 4, 5, 6, 0] rfl (hrec_24 _ rfl)
            · have hF := (zq_ifn hF c_581)
              refine zq_iconst (pc' := 1411) C 0 dL_law_1410 rfl (by decide) ?_
              cases hF
              have q9 : (1 : Int32) = 0 := hex_25 _ rfl
              exact absurd q9 (by decide)
        · have hF := (zq_ifn hF c_575)
          refine zq_iconst (pc' := 1394) C 0 dL_law_1393 rfl (by decide) ?_
          cases hF
          have q9 : (1 : Int32) = 0 := hex_25 _ rfl
          exact absurd q9 (by decide)
      have hF := zq_ifn hF c_558
      by_cases c_584 : (v_30 &&& 31) = 22
      · have hF := zq_ifp hF c_584
        refine zq_tsIn C 1415 dL_law_39 (by rw [c_584]; decide) (by rw [c_584]; decide) (by rw [c_584]; rfl) (by decide) ?_
        refine zq_aload_n (pc' := 1416) C dL_law_1415 rfl rfl rfl ?_
        refine zq_aloadR_n (pc' := 1417) C dL_law_1416 rfl rfl rfl ?_
        refine zq_iload (pc' := 1419) C dL_law_1417 rfl rfl ?_
        refine zq_iconst (pc' := 1420) C 1 dL_law_1419 rfl (by decide) ?_
        refine zq_iadd (pc' := 1421) C dL_law_1420 rfl ?_
        replace hF := zq_bd hF; obtain ⟨v_585, e_586, hF⟩ := hF
        refine zq_sld (pc' := 1422) C hs dL_law_1421 rfl e_586 ?_
        refine zq_aload_n (pc' := 1423) C dL_law_1422 rfl rfl rfl ?_
        replace hF := zq_bd hF; obtain ⟨v_587, e_588, hF⟩ := hF
        refine zq_callL (pc' := 1426) C (c_L_count e_588) yl_L_count wd_904 dL_law_1423 rfl rfl rfl ⟨Nat.le_of_ble_eq_true rfl, Nat.le_of_ble_eq_true rfl⟩ (Nat.le_of_ble_eq_true rfl) hc1 ?_
        refine zq_widen (119 + k9 + 1) (35486 + 6 * k9 + 6) (Nat.le_refl _) (Nat.le_refl _) ?_
        refine zq_istore (lv' := [(5, .int v_587.1), (0, .retAddr b), (1, .ref v_6), (2, .ref v_13), (3, .ref v_17), (4, .int s_19.1)]) (pc' := 1428) C dL_law_1426 rfl (by decide) rfl rfl ?_
        refine zq_aload_n (pc' := 1429) C dL_law_1428 rfl rfl rfl ?_
        refine zq_aloadR_n (pc' := 1430) C dL_law_1429 rfl rfl rfl ?_
        refine zq_iload (pc' := 1432) C dL_law_1430 rfl rfl ?_
        refine zq_iconst (pc' := 1433) C 1 dL_law_1432 rfl (by decide) ?_
        refine zq_iadd (pc' := 1434) C dL_law_1433 rfl ?_
        replace hF := zq_bd hF; obtain ⟨v_589, e_590, hF⟩ := hF
        refine zq_sld (pc' := 1435) C hs dL_law_1434 rfl e_590 ?_
        replace hF := zq_ck_e hF; obtain ⟨e_593, hF⟩ := hF
        replace hF := zq_bd hF; obtain ⟨v_591, e_592, hF⟩ := hF
        refine zq_cV (pc' := 1438) C (c_X6_count e_592) yv_X6_count wd_906 zq_K6 e_593 dL_law_1435 rfl rfl rfl ⟨Nat.le_of_ble_eq_true rfl, Nat.le_of_ble_eq_true rfl⟩ (Nat.le_of_ble_eq_true rfl) ⟨rfl, rfl⟩ hc1 rfl ?_
        refine zq_istore (lv' := [(6, .int v_591.1), (5, .int v_587.1), (0, .retAddr b), (1, .ref v_6), (2, .ref v_13), (3, .ref v_17), (4, .int s_19.1)]) (pc' := 1440) C dL_law_1438 rfl (by decide) rfl rfl ?_
        refine zq_aload_n (pc' := 1441) C dL_law_1440 rfl rfl rfl ?_
        replace hF := zq_ck_e hF; obtain ⟨e_596, hF⟩ := hF
        replace hF := zq_bd hF; obtain ⟨v_594, e_595, hF⟩ := hF
        refine zq_cV (pc' := 1444) C (c_X6_thrown e_595) yv_X6_thrown wd_793 zq_K6 e_596 dL_law_1441 rfl rfl rfl ⟨Nat.le_of_ble_eq_true rfl, Nat.le_of_ble_eq_true rfl⟩ (Nat.le_of_ble_eq_true rfl) ⟨rfl, rfl⟩ hc1 rfl ?_
        refine zq_iload (pc' := 1446) C dL_law_1444 rfl rfl ?_
        refine zq_icmp_eq (pc' := 1449) C 1451 dL_law_1446 (by decide) rfl (fun c_597 => ?_) (fun c_597 => ?_)
        · have hF := (zq_ifp hF c_597)
          skip
          refine zq_iload (pc' := 1453) C dL_law_1451 rfl rfl ?_
          refine zq_if_ne (pc' := 1456) C 1468 dL_law_1453 (by decide) rfl (fun c_598 => ?_) (fun c_598 => ?_)
          · have hF := (zq_ifn hF c_598)
            skip
            refine zq_goto C 1526 dL_law_1468 (by decide) ?_
            replace hF := zq_let_e hF; obtain ⟨v_599, e_600, hF⟩ := hF
            refine zq_iinc (lv' := [(4, .int v_599), (6, .int v_591.1), (5, .int v_587.1), (0, .retAddr b), (1, .ref v_6), (2, .ref v_13), (3, .ref v_17)]) (pc' := 1529) C dL_law_1526 rfl (by decide) 6 rfl e_600 rfl ?_
            refine zq_goto C 23 dL_law_1529 (by decide) ?_
            cases hF
            refine zq_widen (119 + (k9 + 1)) (35486 + 6 * (k9 + 1)) (by omega) (by omega) ?_
            exact zq_sub [3, 4, 5, 6, 0] rfl (hrec_24 _ rfl)
          · have hF := (zq_ifp hF c_598)
            refine zq_aload_n (pc' := 1457) C dL_law_1456 rfl rfl rfl ?_
            refine zq_iconst (pc' := 1458) C 0 dL_law_1457 rfl (by decide) ?_
            replace hF := zq_bd hF; obtain ⟨v_601, e_602, hF⟩ := hF
            refine zq_laload (pc' := 1459) C dL_law_1458 rfl e_602 ?_
            refine zq_iload (pc' := 1461) C dL_law_1459 rfl rfl ?_
            refine zq_i2l (pc' := 1462) C dL_law_1461 rfl ?_
            refine zq_lcmp (pc' := 1463) C dL_law_1462 rfl ?_
            refine zq_if_eq (pc' := 1466) C 1468 dL_law_1463 (by decide) rfl (fun c_603 => ?_) (fun c_603 => ?_)
            · have hF := (zq_ifp hF c_603)
              skip
              refine zq_goto C 1526 dL_law_1468 (by decide) ?_
              replace hF := zq_let_e hF; obtain ⟨v_604, e_605, hF⟩ := hF
              refine zq_iinc (lv' := [(4, .int v_604), (6, .int v_591.1), (5, .int v_587.1), (0, .retAddr b), (1, .ref v_6), (2, .ref v_13), (3, .ref v_17)]) (pc' := 1529) C dL_law_1526 rfl (by decide) 6 rfl e_605 rfl ?_
              refine zq_goto C 23 dL_law_1529 (by decide) ?_
              cases hF
              refine zq_widen (119 + (k9 + 1)) (35486 + 6 * (k9 + 1)) (by omega) (by omega) ?_
              exact zq_sub [3, 4, 5, 6, 0] rfl (hrec_24 _ rfl)
            · have hF := (zq_ifn hF c_603)
              refine zq_iconst (pc' := 1467) C 0 dL_law_1466 rfl (by decide) ?_
              cases hF
              have q9 : (1 : Int32) = 0 := hex_25 _ rfl
              exact absurd q9 (by decide)
        · have hF := (zq_ifn hF c_597)
          refine zq_iconst (pc' := 1450) C 0 dL_law_1449 rfl (by decide) ?_
          cases hF
          have q9 : (1 : Int32) = 0 := hex_25 _ rfl
          exact absurd q9 (by decide)
      have hF := zq_ifn hF c_584
      by_cases c_606 : (v_30 &&& 31) = 23
      · have hF := zq_ifp hF c_606
        refine zq_tsIn C 1471 dL_law_39 (by rw [c_606]; decide) (by rw [c_606]; decide) (by rw [c_606]; rfl) (by decide) ?_
        refine zq_aload_n (pc' := 1472) C dL_law_1471 rfl rfl rfl ?_
        replace hF := zq_ck_e hF; obtain ⟨e_609, hF⟩ := hF
        replace hF := zq_bd hF; obtain ⟨v_607, e_608, hF⟩ := hF
        refine zq_cV (pc' := 1475) C (c_X5_farShare e_608) yv_X5_farShare wd_909 zq_K5 e_609 dL_law_1472 rfl rfl rfl ⟨Nat.le_of_ble_eq_true rfl, Nat.le_of_ble_eq_true rfl⟩ (Nat.le_of_ble_eq_true rfl) ⟨rfl, rfl⟩ hc0 rfl ?_
        refine zq_dstore (lv' := [(5, .double v_607.1), (0, .retAddr b), (1, .ref v_6), (2, .ref v_13), (3, .ref v_17), (4, .int s_19.1)]) (pc' := 1477) C dL_law_1475 rfl (by decide) rfl rfl ?_
        refine zq_aload_n (pc' := 1478) C dL_law_1477 rfl rfl rfl ?_
        replace hF := zq_ck_e hF; obtain ⟨e_612, hF⟩ := hF
        replace hF := zq_bd hF; obtain ⟨v_610, e_611, hF⟩ := hF
        refine zq_cV (pc' := 1481) C (c_X6_farShare e_611) yv_X6_farShare wd_912 zq_K6 e_612 dL_law_1478 rfl rfl rfl ⟨Nat.le_of_ble_eq_true rfl, Nat.le_of_ble_eq_true rfl⟩ (Nat.le_of_ble_eq_true rfl) ⟨rfl, rfl⟩ hc0 rfl ?_
        refine zq_dstore (lv' := [(7, .double v_610.1), (5, .double v_607.1), (0, .retAddr b), (1, .ref v_6), (2, .ref v_13), (3, .ref v_17), (4, .int s_19.1)]) (pc' := 1483) C dL_law_1481 rfl (by decide) rfl rfl ?_
        refine zq_dload (pc' := 1485) C dL_law_1483 rfl rfl ?_
        refine zq_dload (pc' := 1487) C dL_law_1485 rfl rfl ?_
        refine zq_dcmp (pc' := 1488) C dL_law_1487 rfl ?_
        refine zq_if_eq (pc' := 1491) C 1509 dL_law_1488 (by decide) rfl (fun c_613 => ?_) (fun c_613 => ?_)
        · have hF := (zq_ifp hF c_613)
          skip
          refine zq_goto C 1526 dL_law_1509 (by decide) ?_
          replace hF := zq_let_e hF; obtain ⟨v_614, e_615, hF⟩ := hF
          refine zq_iinc (lv' := [(4, .int v_614), (7, .double v_610.1), (5, .double v_607.1), (0, .retAddr b), (1, .ref v_6), (2, .ref v_13), (3, .ref v_17)]) (pc' := 1529) C dL_law_1526 rfl (by decide) 6 rfl e_615 rfl ?_
          refine zq_goto C 23 dL_law_1529 (by decide) ?_
          cases hF
          refine zq_widen (119 + (k9 + 1)) (35486 + 6 * (k9 + 1)) (by omega) (by omega) ?_
          exact zq_sub [3, 4, 5, 6, 0] rfl (hrec_24 _ rfl)
        · have hF := (zq_ifn hF c_613)
          refine zq_dload (pc' := 1493) C dL_law_1491 rfl rfl ?_
          refine zq_dload (pc' := 1495) C dL_law_1493 rfl rfl ?_
          refine zq_dcmp (pc' := 1496) C dL_law_1495 rfl ?_
          refine zq_if_eq (pc' := 1499) C 1507 dL_law_1496 (by decide) rfl (fun c_616 => ?_) (fun c_616 => ?_)
          · have hF := (zq_ifp hF c_616)
            skip
            refine zq_iconst (pc' := 1508) C 0 dL_law_1507 rfl (by decide) ?_
            cases hF
            have q9 : (1 : Int32) = 0 := hex_25 _ rfl
            exact absurd q9 (by decide)
          · have hF := (zq_ifn hF c_616)
            refine zq_dload (pc' := 1501) C dL_law_1499 rfl rfl ?_
            refine zq_dload (pc' := 1503) C dL_law_1501 rfl rfl ?_
            refine zq_dcmp (pc' := 1504) C dL_law_1503 rfl ?_
            refine zq_if_ne (pc' := 1507) C 1509 dL_law_1504 (by decide) rfl (fun c_617 => ?_) (fun c_617 => ?_)
            · have hF := (zq_ifn hF c_617)
              skip
              refine zq_goto C 1526 dL_law_1509 (by decide) ?_
              replace hF := zq_let_e hF; obtain ⟨v_618, e_619, hF⟩ := hF
              refine zq_iinc (lv' := [(4, .int v_618), (7, .double v_610.1), (5, .double v_607.1), (0, .retAddr b), (1, .ref v_6), (2, .ref v_13), (3, .ref v_17)]) (pc' := 1529) C dL_law_1526 rfl (by decide) 6 rfl e_619 rfl ?_
              refine zq_goto C 23 dL_law_1529 (by decide) ?_
              cases hF
              refine zq_widen (119 + (k9 + 1)) (35486 + 6 * (k9 + 1)) (by omega) (by omega) ?_
              exact zq_sub [3, 4, 5, 6, 0] rfl (hrec_24 _ rfl)
            · have hF := (zq_ifp hF c_617)
              refine zq_iconst (pc' := 1508) C 0 dL_law_1507 rfl (by decide) ?_
              cases hF
              have q9 : (1 : Int32) = 0 := hex_25 _ rfl
              exact absurd q9 (by decide)
      have hF := zq_ifn hF c_606
      by_cases c_620 : (v_30 &&& 31) = 24
      · have hF := zq_ifp hF c_620
        refine zq_tsIn C 1512 dL_law_39 (by rw [c_620]; decide) (by rw [c_620]; decide) (by rw [c_620]; rfl) (by decide) ?_
        refine zq_aload_n (pc' := 1513) C dL_law_1512 rfl rfl rfl ?_
        replace hF := zq_ck_e hF; obtain ⟨e_623, hF⟩ := hF
        replace hF := zq_bd hF; obtain ⟨v_621, e_622, hF⟩ := hF
        refine zq_cV (pc' := 1516) C (c_X5_digest e_622) yv_X5_digest wd_915 zq_K5 e_623 dL_law_1513 rfl rfl rfl ⟨Nat.le_of_ble_eq_true rfl, Nat.le_of_ble_eq_true rfl⟩ (Nat.le_of_ble_eq_true rfl) ⟨rfl, rfl⟩ hc0 rfl ?_
        refine zq_aload_n (pc' := 1517) C dL_law_1516 rfl rfl rfl ?_
        replace hF := zq_ck_e hF; obtain ⟨e_626, hF⟩ := hF
        replace hF := zq_bd hF; obtain ⟨v_624, e_625, hF⟩ := hF
        refine zq_cV (pc' := 1520) C (c_X6_digest e_625) yv_X6_digest wd_918 zq_K6 e_626 dL_law_1517 rfl rfl rfl ⟨Nat.le_of_ble_eq_true rfl, Nat.le_of_ble_eq_true rfl⟩ (Nat.le_of_ble_eq_true rfl) ⟨rfl, rfl⟩ hc0 rfl ?_
        refine zq_lcmp (pc' := 1521) C dL_law_1520 rfl ?_
        refine zq_if_eq (pc' := 1524) C 1526 dL_law_1521 (by decide) rfl (fun c_627 => ?_) (fun c_627 => ?_)
        · have hF := (zq_ifp hF c_627)
          skip
          replace hF := zq_let_e hF; obtain ⟨v_628, e_629, hF⟩ := hF
          refine zq_iinc (lv' := [(4, .int v_628), (0, .retAddr b), (1, .ref v_6), (2, .ref v_13), (3, .ref v_17)]) (pc' := 1529) C dL_law_1526 rfl (by decide) 4 rfl e_629 rfl ?_
          refine zq_goto C 23 dL_law_1529 (by decide) ?_
          cases hF
          refine zq_widen (119 + (k9 + 1)) (35486 + 6 * (k9 + 1)) (by omega) (by omega) ?_
          exact zq_sub [1, 2, 3, 4, 0] rfl (hrec_24 _ rfl)
        · have hF := (zq_ifn hF c_627)
          refine zq_iconst (pc' := 1525) C 0 dL_law_1524 rfl (by decide) ?_
          cases hF
          have q9 : (1 : Int32) = 0 := hex_25 _ rfl
          exact absurd q9 (by decide)
      have hF := zq_ifn hF c_620
      refine zq_tsOut C 1526 dL_law_39 (zq_out (n := 25) rfl rfl (by decide) (fun k hk => match k, hk with | 0, _ => c_32 | 1, _ => c_54 | 2, _ => c_84 | 3, _ => c_110 | 4, _ => c_136 | 5, _ => c_158 | 6, _ => c_168 | 7, _ => c_254 | 8, _ => c_276 | 9, _ => c_298 | 10, _ => c_308 | 11, _ => c_318 | 12, _ => c_340 | 13, _ => c_362 | 14, _ => c_384 | 15, _ => c_402 | 16, _ => c_428 | 17, _ => c_454 | 18, _ => c_480 | 19, _ => c_510 | 20, _ => c_536 | 21, _ => c_558 | 22, _ => c_584 | 23, _ => c_606 | 24, _ => c_620 | k + 25, hk => absurd hk (by omega))) (by decide) ?_
      replace hF := zq_let_e hF; obtain ⟨v_630, e_631, hF⟩ := hF
      refine zq_iinc (lv' := [(4, .int v_630), (0, .retAddr b), (1, .ref v_6), (2, .ref v_13), (3, .ref v_17)]) (pc' := 1529) C dL_law_1526 rfl (by decide) 4 rfl e_631 rfl ?_
      refine zq_goto C 23 dL_law_1529 (by decide) ?_
      cases hF
      refine zq_widen (119 + (k9 + 1)) (35486 + 6 * (k9 + 1)) (by omega) (by omega) ?_
      exact zq_sub [1, 2, 3, 4, 0] rfl (hrec_24 _ rfl)
  · rcases r_20 with y_22 | z_23
    · dsimp only [Sum.elim_inl] at hF
      show zq_W X 632 38564 y_22 1532 [] []
      refine zq_iconst (pc' := 1533) C 1 dL_law_1532 rfl (by decide) ?_
      cases hF
      exact hE _ _ _ _ _ (Nat.le_of_ble_eq_true rfl) (Nat.le_of_ble_eq_true rfl) dL_law_1533
    · cases hF; rfl
