def f_X5_buildUpTo (h : zq_H) (r0 : Nat) (x1 : Int32) : Option zq_H := ((zq_lp (σ := Int32 × zq_H) (ρ := zq_H) (fun s_1 => (if x1 < s_1.1 then some (.inr s_1.2) else (Option.bind (zq_an s_1.2 r0) fun v_10 => (if v_10 ≤ s_1.1 then some (.inr s_1.2) else (Option.bind (zq_aq s_1.2 r0 12 s_1.1) fun v_13 => (zq_ck s_1.2 v_13 0 fun _ => (Option.bind (f_X0_build s_1.2 v_13) fun v_15 => (zq_let (s_1.1 + 1) fun v_18 => some (.inl (v_18, v_15)))))))))) zq_N (0, h)).bind (fun y_4 : zq_H => some (y_4)))
abbrev rm_X5_buildUpTo : Room := { frames := 3, cells := 0, slots := 0, locals := 71 }
theorem dX5_buildUpTo_0 : decode cX5_buildUpTo 0 = .ok (.iconst 0, 1) := by decide +kernel
theorem dX5_buildUpTo_1 : decode cX5_buildUpTo 1 = .ok (.istore_n 2, 1) := by decide +kernel
theorem dX5_buildUpTo_2 : decode cX5_buildUpTo 2 = .ok (.iload_n 2, 1) := by decide +kernel
theorem dX5_buildUpTo_3 : decode cX5_buildUpTo 3 = .ok (.iload_n 1, 1) := by decide +kernel
theorem dX5_buildUpTo_4 : decode cX5_buildUpTo 4 = .ok (.if_icmp .gt 21, 3) := by decide +kernel
theorem dX5_buildUpTo_7 : decode cX5_buildUpTo 7 = .ok (.iload_n 2, 1) := by decide +kernel
theorem dX5_buildUpTo_8 : decode cX5_buildUpTo 8 = .ok (.aload_n 0, 1) := by decide +kernel
theorem dX5_buildUpTo_9 : decode cX5_buildUpTo 9 = .ok (.arraylength, 1) := by decide +kernel
theorem dX5_buildUpTo_10 : decode cX5_buildUpTo 10 = .ok (.if_icmp .ge 15, 3) := by decide +kernel
theorem dX5_buildUpTo_13 : decode cX5_buildUpTo 13 = .ok (.aload_n 0, 1) := by decide +kernel
theorem dX5_buildUpTo_14 : decode cX5_buildUpTo 14 = .ok (.iload_n 2, 1) := by decide +kernel
theorem dX5_buildUpTo_15 : decode cX5_buildUpTo 15 = .ok (.aaload, 1) := by decide +kernel
theorem dX5_buildUpTo_16 : decode cX5_buildUpTo 16 = .ok (.invokevirtual 275, 3) := by decide +kernel
theorem dX5_buildUpTo_19 : decode cX5_buildUpTo 19 = .ok (.iinc 2 1, 3) := by decide +kernel
theorem dX5_buildUpTo_22 : decode cX5_buildUpTo 22 = .ok (.goto (-20), 3) := by decide +kernel
theorem dX5_buildUpTo_25 : decode cX5_buildUpTo 25 = .ok (.return_, 1) := by decide +kernel
set_option maxRecDepth 100000 in
set_option maxHeartbeats 4000000 in
theorem v_X5_buildUpTo {X : zq_X} (C : zq_C X RX5 cX5_buildUpTo 3 zq_all rm_X5_buildUpTo) {h : zq_H} {r0 : Nat} {x1 : Int32} (T : zq_T X none) (hn : X.2.2.2.2.2.2.2.2.1.name = yX5_buildUpTo.name) {out : zq_H} (hF : f_X5_buildUpTo h r0 x1 = some out) (hE : zq_End X cX5_buildUpTo 0 0 none out) : zq_W X 0 0 h 0 [(0, .ref r0), (1, .int x1)] [] := by
  unfold f_X5_buildUpTo at hF
  refine zq_iconst (pc' := 1) C 0 dX5_buildUpTo_0 rfl (by decide) ?_
  refine zq_istore_n (lv' := [(2, .int 0), (0, .ref r0), (1, .int x1)]) (pc' := 2) C dX5_buildUpTo_1 rfl rfl (by decide) rfl rfl ?_
  refine zq_sub [1, 2, 0] rfl ?_
  replace hF := zq_bd hF; obtain ⟨r_2, e_3, hF⟩ := hF
  refine zq_lpW (fun s_1 => zq_W X 0 0 s_1.2 2 [(0, .ref r0), (1, .int x1), (2, .int s_1.1)] []) (fun y_4 => zq_W X 0 0 y_4 25 [] []) e_3 (fun s_1 q_8 hF hrec_6 hex_7 => ?_) ?_
  · skip
    refine zq_iload_n (pc' := 3) C dX5_buildUpTo_2 rfl rfl rfl ?_
    refine zq_iload_n (pc' := 4) C dX5_buildUpTo_3 rfl rfl rfl ?_
    refine zq_icmp_gt (pc' := 7) C 25 dX5_buildUpTo_4 (by decide) rfl (fun c_9 => ?_) (fun c_9 => ?_)
    · have hF := (zq_ifp hF c_9)
      skip
      cases hF
      exact zq_sub [] rfl (hex_7 _ rfl)
    · have hF := (zq_ifn hF c_9)
      refine zq_iload_n (pc' := 8) C dX5_buildUpTo_7 rfl rfl rfl ?_
      refine zq_aload_n (pc' := 9) C dX5_buildUpTo_8 rfl rfl rfl ?_
      replace hF := zq_bd hF; obtain ⟨v_10, e_11, hF⟩ := hF
      refine zq_alen (pc' := 10) C dX5_buildUpTo_9 rfl e_11 ?_
      refine zq_icmp_ge (pc' := 13) C 25 dX5_buildUpTo_10 (by decide) rfl (fun c_12 => ?_) (fun c_12 => ?_)
      · have hF := (zq_ifp hF c_12)
        skip
        cases hF
        exact zq_sub [] rfl (hex_7 _ rfl)
      · have hF := (zq_ifn hF c_12)
        refine zq_aload_n (pc' := 14) C dX5_buildUpTo_13 rfl rfl rfl ?_
        refine zq_iload_n (pc' := 15) C dX5_buildUpTo_14 rfl rfl rfl ?_
        replace hF := zq_bd hF; obtain ⟨v_13, e_14, hF⟩ := hF
        refine zq_aaload (pc' := 16) C 12 (by decide) dX5_buildUpTo_15 rfl e_14 ?_
        replace hF := zq_ck_e hF; obtain ⟨e_17, hF⟩ := hF
        replace hF := zq_bd hF; obtain ⟨v_15, e_16, hF⟩ := hF
        refine zq_cV (pc' := 19) C (c_X0_build e_16) yv_X0_build wd_197 zq_K0 e_17 dX5_buildUpTo_16 rfl rfl rfl ⟨Nat.le_of_ble_eq_true rfl, Nat.le_of_ble_eq_true rfl⟩ (Nat.le_of_ble_eq_true rfl) ⟨rfl, rfl⟩ ⟨Nat.le_of_ble_eq_true rfl, Nat.le_of_ble_eq_true rfl⟩ rfl ?_
        replace hF := zq_let_e hF; obtain ⟨v_18, e_19, hF⟩ := hF
        refine zq_iinc (lv' := [(2, .int v_18), (0, .ref r0), (1, .int x1)]) (pc' := 22) C dX5_buildUpTo_19 rfl (by decide) 2 rfl e_19 rfl ?_
        refine zq_goto C 2 dX5_buildUpTo_22 (by decide) ?_
        cases hF
        exact zq_sub [1, 2, 0] rfl (hrec_6 _ rfl)
  · skip
    obtain ⟨y_4, rfl⟩ : ∃ z9, z9 = r_2 := ⟨_, rfl⟩
    show zq_W X 0 0 y_4 25 [] []
    have hF := Option.some.inj hF
    subst hF
    exact hE _ _ _ _ (Nat.le_of_ble_eq_true rfl) (Nat.le_of_ble_eq_true rfl) dX5_buildUpTo_25
theorem c_X5_buildUpTo {h : zq_H} {r0 : Nat} {x1 : Int32} {out : zq_H} (hF : f_X5_buildUpTo h r0 x1 = some out) : zq_M none yX5_buildUpTo (Cond.code yX5_buildUpTo cX5_buildUpTo 3 none :: zq_all) rm_X5_buildUpTo [.ref r0, .int x1] h none out := zq_met2 (own := RX5) (by decide +kernel) rfl (Nat.le_of_ble_eq_true rfl) rfl rfl (fun X C T hn hE => v_X5_buildUpTo C T hn hF hE)
theorem ys_X5_buildUpTo : zq_calS yX5_buildUpTo cX5_buildUpTo 3 none 2 := ⟨by decide +kernel, wd_200, wd_228, wd_95⟩
def f_X5_init (h : zq_H) (t : Nat) : Option zq_H := (Option.bind (zq_na h (t + 1) 12 6 6) fun h_1 => (Option.bind (zq_pr h_1 t 5 0 (t + 1)) fun h_3 => (zq_is (zq_gr h_3 t 5 0) (t + 1) fun _ => (zq_is (zq_an h_3 (t + 1)) 6 fun _ => (zq_is (zq_gr h_3 t 5 0) (t + 1) fun _ => (Option.bind (zq_nw1 h_3 (t + 2) 0) fun h_12 => (Option.bind (zq_nw1 h_12 (t + 3) 1) fun h_14 => (zq_at h_14 ((t + 3) + 1) fun _ => (Option.bind (f_X1_init h_14 (t + 3) (4 + 0)) fun v_16 => (zq_at v_16 ((t + 2) + 9) fun _ => (Option.bind (f_X0_init v_16 (t + 2) (t + 3)) fun v_19 => (Option.bind (zq_sq v_19 (t + 1) 12 0 0 (t + 2)) fun h_22 => (zq_is (zq_gr h_22 t 5 0) (t + 1) fun _ => (zq_is (zq_an h_22 (t + 1)) 6 fun _ => (zq_is (zq_gr h_22 t 5 0) (t + 1) fun _ => (Option.bind (zq_nw1 h_22 (t + 14) 0) fun h_31 => (Option.bind (zq_nw1 h_31 (t + 15) 1) fun h_33 => (zq_at h_33 ((t + 15) + 1) fun _ => (Option.bind (f_X1_init h_33 (t + 15) (4 + 1)) fun v_35 => (zq_at v_35 ((t + 14) + 9) fun _ => (Option.bind (f_X0_init v_35 (t + 14) (t + 15)) fun v_38 => (Option.bind (zq_sq v_38 (t + 1) 12 0 1 (t + 14)) fun h_41 => (zq_is (zq_gr h_41 t 5 0) (t + 1) fun _ => (zq_is (zq_an h_41 (t + 1)) 6 fun _ => (zq_is (zq_gr h_41 t 5 0) (t + 1) fun _ => (Option.bind (zq_nw1 h_41 (t + 26) 0) fun h_50 => (Option.bind (zq_nw1 h_50 (t + 27) 1) fun h_52 => (zq_at h_52 ((t + 27) + 1) fun _ => (Option.bind (f_X1_init h_52 (t + 27) (4 + 2)) fun v_54 => (zq_at v_54 ((t + 26) + 9) fun _ => (Option.bind (f_X0_init v_54 (t + 26) (t + 27)) fun v_57 => (Option.bind (zq_sq v_57 (t + 1) 12 0 2 (t + 26)) fun h_60 => (zq_is (zq_gr h_60 t 5 0) (t + 1) fun _ => (zq_is (zq_an h_60 (t + 1)) 6 fun _ => (zq_is (zq_gr h_60 t 5 0) (t + 1) fun _ => (Option.bind (zq_nw1 h_60 (t + 38) 0) fun h_69 => (Option.bind (zq_nw1 h_69 (t + 39) 1) fun h_71 => (zq_at h_71 ((t + 39) + 1) fun _ => (Option.bind (f_X1_init h_71 (t + 39) (4 + 3)) fun v_73 => (zq_at v_73 ((t + 38) + 9) fun _ => (Option.bind (f_X0_init v_73 (t + 38) (t + 39)) fun v_76 => (Option.bind (zq_sq v_76 (t + 1) 12 0 3 (t + 38)) fun h_79 => (zq_is (zq_gr h_79 t 5 0) (t + 1) fun _ => (zq_is (zq_an h_79 (t + 1)) 6 fun _ => (zq_is (zq_gr h_79 t 5 0) (t + 1) fun _ => (Option.bind (zq_nw1 h_79 (t + 50) 0) fun h_88 => (Option.bind (zq_nw1 h_88 (t + 51) 1) fun h_90 => (zq_at h_90 ((t + 51) + 1) fun _ => (Option.bind (f_X1_init h_90 (t + 51) (4 + 4)) fun v_92 => (zq_at v_92 ((t + 50) + 9) fun _ => (Option.bind (f_X0_init v_92 (t + 50) (t + 51)) fun v_95 => (Option.bind (zq_sq v_95 (t + 1) 12 0 4 (t + 50)) fun h_98 => (zq_is (zq_gr h_98 t 5 0) (t + 1) fun _ => (zq_is (zq_an h_98 (t + 1)) 6 fun _ => (zq_is (zq_gr h_98 t 5 0) (t + 1) fun _ => (Option.bind (zq_nw1 h_98 (t + 62) 0) fun h_107 => (Option.bind (zq_nw1 h_107 (t + 63) 1) fun h_109 => (zq_at h_109 ((t + 63) + 1) fun _ => (Option.bind (f_X1_init h_109 (t + 63) (4 + 5)) fun v_111 => (zq_at v_111 ((t + 62) + 9) fun _ => (Option.bind (f_X0_init v_111 (t + 62) (t + 63)) fun v_114 => (Option.bind (zq_sq v_114 (t + 1) 12 0 5 (t + 62)) fun h_117 => (zq_is (zq_gr h_117 t 5 0) (t + 1) fun _ => (zq_is (zq_an h_117 (t + 1)) 6 fun _ => (zq_is (zq_gr h_117 t 5 0) (t + 1) fun _ => (Option.bind (f_X5_buildUpTo h_117 (t + 1) 2) fun v_126 => (Option.bind (zq_nw1 v_126 (t + 74) 3) fun h_128 => (Option.bind (f_X3_init h_128 (t + 74)) fun v_130 => (Option.bind (zq_pr h_128 t 5 1 (t + 74)) fun h_132 => (zq_is (zq_gr h_132 t 5 1) (t + 74) fun _ => (zq_is (zq_gr h_132 t 5 0) (t + 1) fun _ => (Option.bind (zq_aq h_132 (t + 1) 12 2) fun v_138 => (zq_ck h_132 (t + 74) 3 fun _ => (Option.bind (f_X3_startWith h_132 (t + 74) v_138) fun v_140 => (Option.bind (zq_na v_140 (t + 75) 13 6 6) fun h_143 => (Option.bind (zq_pr h_143 t 5 2 (t + 75)) fun h_145 => (zq_is (zq_gr h_145 t 5 2) (t + 75) fun _ => (zq_is (zq_an h_145 (t + 75)) 6 fun _ => (zq_is (zq_gr h_145 t 5 2) (t + 75) fun _ => (Option.bind (zq_nw1 h_145 (t + 76) 3) fun h_154 => (Option.bind (f_X3_init h_154 (t + 76)) fun v_156 => (Option.bind (zq_sq h_154 (t + 75) 13 3 0 (t + 76)) fun h_158 => (zq_is (zq_gr h_158 t 5 2) (t + 75) fun _ => (zq_is (zq_an h_158 (t + 75)) 6 fun _ => (zq_is (zq_gr h_158 t 5 2) (t + 75) fun _ => (Option.bind (zq_nw1 h_158 (t + 77) 3) fun h_167 => (Option.bind (f_X3_init h_167 (t + 77)) fun v_169 => (Option.bind (zq_sq h_167 (t + 75) 13 3 1 (t + 77)) fun h_171 => (zq_is (zq_gr h_171 t 5 2) (t + 75) fun _ => (zq_is (zq_an h_171 (t + 75)) 6 fun _ => (zq_is (zq_gr h_171 t 5 2) (t + 75) fun _ => (Option.bind (zq_nw1 h_171 (t + 78) 3) fun h_180 => (Option.bind (f_X3_init h_180 (t + 78)) fun v_182 => (Option.bind (zq_sq h_180 (t + 75) 13 3 2 (t + 78)) fun h_184 => (zq_is (zq_gr h_184 t 5 2) (t + 75) fun _ => (zq_is (zq_an h_184 (t + 75)) 6 fun _ => (zq_is (zq_gr h_184 t 5 2) (t + 75) fun _ => (Option.bind (zq_nw1 h_184 (t + 79) 3) fun h_193 => (Option.bind (f_X3_init h_193 (t + 79)) fun v_195 => (Option.bind (zq_sq h_193 (t + 75) 13 3 3 (t + 79)) fun h_197 => (zq_is (zq_gr h_197 t 5 2) (t + 75) fun _ => (zq_is (zq_an h_197 (t + 75)) 6 fun _ => (zq_is (zq_gr h_197 t 5 2) (t + 75) fun _ => (Option.bind (zq_nw1 h_197 (t + 80) 3) fun h_206 => (Option.bind (f_X3_init h_206 (t + 80)) fun v_208 => (Option.bind (zq_sq h_206 (t + 75) 13 3 4 (t + 80)) fun h_210 => (zq_is (zq_gr h_210 t 5 2) (t + 75) fun _ => (zq_is (zq_an h_210 (t + 75)) 6 fun _ => (zq_is (zq_gr h_210 t 5 2) (t + 75) fun _ => (Option.bind (zq_nw1 h_210 (t + 81) 3) fun h_219 => (Option.bind (f_X3_init h_219 (t + 81)) fun v_221 => (Option.bind (zq_sq h_219 (t + 75) 13 3 5 (t + 81)) fun h_223 => (zq_is (zq_gr h_223 t 5 2) (t + 75) fun _ => (zq_is (zq_an h_223 (t + 75)) 6 fun _ => (Option.bind (zq_na h_223 (t + 82) 13 2 2) fun h_230 => (Option.bind (zq_pr h_230 t 5 4 (t + 82)) fun h_232 => (zq_is (zq_gr h_232 t 5 4) (t + 82) fun _ => (zq_is (zq_an h_232 (t + 82)) 2 fun _ => (zq_is (zq_gr h_232 t 5 4) (t + 82) fun _ => (Option.bind (zq_nw1 h_232 (t + 83) 3) fun h_241 => (Option.bind (f_X3_init h_241 (t + 83)) fun v_243 => (Option.bind (zq_sq h_241 (t + 82) 13 3 0 (t + 83)) fun h_245 => (zq_is (zq_gr h_245 t 5 4) (t + 82) fun _ => (zq_is (zq_an h_245 (t + 82)) 2 fun _ => (zq_is (zq_gr h_245 t 5 4) (t + 82) fun _ => (Option.bind (zq_nw1 h_245 (t + 84) 3) fun h_254 => (Option.bind (f_X3_init h_254 (t + 84)) fun v_256 => (Option.bind (zq_sq h_254 (t + 82) 13 3 1 (t + 84)) fun h_258 => (zq_is (zq_gr h_258 t 5 4) (t + 82) fun _ => (zq_is (zq_an h_258 (t + 82)) 2 fun _ => (Option.bind (zq_nw1 h_258 (t + 85) 4) fun h_265 => (zq_at h_265 ((t + 85) + 1) fun _ => (Option.bind (f_X4_init h_265 (t + 85)) fun v_267 => (Option.bind (zq_pr v_267 t 5 5 (t + 85)) fun h_270 => (Option.bind (zq_nw1 h_270 (t + 87) 2) fun h_272 => (zq_is (zq_gr h_272 t 5 0) (t + 1) fun _ => (Option.bind (zq_aq h_272 (t + 1) 12 0) fun v_276 => (zq_at h_272 ((t + 87) + 1) fun _ => (Option.bind (f_X2_init h_272 (t + 87) v_276) fun v_278 => (Option.bind (zq_pr v_278 t 5 6 (t + 87)) fun h_281 => (Option.bind (zq_nw1 h_281 (t + 91) 2) fun h_283 => (zq_is (zq_gr h_283 t 5 0) (t + 1) fun _ => (Option.bind (zq_aq h_283 (t + 1) 12 0) fun v_287 => (zq_at h_283 ((t + 91) + 1) fun _ => (Option.bind (f_X2_init h_283 (t + 91) v_287) fun v_289 => (Option.bind (zq_pr v_289 t 5 7 (t + 91)) fun h_292 => (Option.bind (zq_nw1 h_292 (t + 95) 2) fun h_294 => (zq_is (zq_gr h_294 t 5 0) (t + 1) fun _ => (Option.bind (zq_aq h_294 (t + 1) 12 0) fun v_298 => (zq_at h_294 ((t + 95) + 1) fun _ => (Option.bind (f_X2_init h_294 (t + 95) v_298) fun v_300 => (Option.bind (zq_pr v_300 t 5 8 (t + 95)) fun h_303 => (Option.bind (zq_nw1 h_303 (t + 99) 2) fun h_305 => (zq_is (zq_gr h_305 t 5 0) (t + 1) fun _ => (Option.bind (zq_aq h_305 (t + 1) 12 0) fun v_309 => (zq_at h_305 ((t + 99) + 1) fun _ => (Option.bind (f_X2_init h_305 (t + 99) v_309) fun v_311 => (Option.bind (zq_pr v_311 t 5 9 (t + 99)) fun h_314 => (Option.bind (zq_na h_314 (t + 103) 10 7 7) fun h_316 => (Option.bind (zq_pr h_316 t 5 10 (t + 103)) fun h_318 => some (h_318)))))))))))))))))))))))))))))))))))))))))))))))))))))))))))))))))))))))))))))))))))))))))))))))))))))))))))))))))))))))))))))))))))))))))))))))))))))))))))))))))
abbrev rm_X5_init : Room := { frames := 4, cells := 103, slots := 30920, locals := 93 }
theorem dX5_init_0 : decode cX5_init 0 = .ok (.aload_n 0, 1) := by decide +kernel
theorem dX5_init_1 : decode cX5_init 1 = .ok (.invokespecial 1, 3) := by decide +kernel
theorem dX5_init_4 : decode cX5_init 4 = .ok (.aload_n 0, 1) := by decide +kernel
theorem dX5_init_5 : decode cX5_init 5 = .ok (.bipush 6, 2) := by decide +kernel
theorem dX5_init_7 : decode cX5_init 7 = .ok (.anewarray 9, 3) := by decide +kernel
theorem dX5_init_10 : decode cX5_init 10 = .ok (.putfield 11, 3) := by decide +kernel
theorem dX5_init_13 : decode cX5_init 13 = .ok (.iconst 0, 1) := by decide +kernel
theorem dX5_init_14 : decode cX5_init 14 = .ok (.istore_n 1, 1) := by decide +kernel
theorem dX5_init_15 : decode cX5_init 15 = .ok (.iload_n 1, 1) := by decide +kernel
theorem dX5_init_16 : decode cX5_init 16 = .ok (.aload_n 0, 1) := by decide +kernel
theorem dX5_init_17 : decode cX5_init 17 = .ok (.getfield 11, 3) := by decide +kernel
theorem dX5_init_20 : decode cX5_init 20 = .ok (.arraylength, 1) := by decide +kernel
theorem dX5_init_21 : decode cX5_init 21 = .ok (.if_icmp .ge 32, 3) := by decide +kernel
theorem dX5_init_24 : decode cX5_init 24 = .ok (.aload_n 0, 1) := by decide +kernel
theorem dX5_init_25 : decode cX5_init 25 = .ok (.getfield 11, 3) := by decide +kernel
theorem dX5_init_28 : decode cX5_init 28 = .ok (.iload_n 1, 1) := by decide +kernel
theorem dX5_init_29 : decode cX5_init 29 = .ok (.new 9, 3) := by decide +kernel
theorem dX5_init_32 : decode cX5_init 32 = .ok (.dup, 1) := by decide +kernel
theorem dX5_init_33 : decode cX5_init 33 = .ok (.new 15, 3) := by decide +kernel
theorem dX5_init_36 : decode cX5_init 36 = .ok (.dup, 1) := by decide +kernel
theorem dX5_init_37 : decode cX5_init 37 = .ok (.iconst 4, 1) := by decide +kernel
theorem dX5_init_38 : decode cX5_init 38 = .ok (.iload_n 1, 1) := by decide +kernel
theorem dX5_init_39 : decode cX5_init 39 = .ok (.iadd, 1) := by decide +kernel
theorem dX5_init_40 : decode cX5_init 40 = .ok (.invokespecial 17, 3) := by decide +kernel
theorem dX5_init_43 : decode cX5_init 43 = .ok (.invokespecial 20, 3) := by decide +kernel
theorem dX5_init_46 : decode cX5_init 46 = .ok (.aastore, 1) := by decide +kernel
theorem dX5_init_47 : decode cX5_init 47 = .ok (.iinc 1 1, 3) := by decide +kernel
theorem dX5_init_50 : decode cX5_init 50 = .ok (.goto (-35), 3) := by decide +kernel
theorem dX5_init_53 : decode cX5_init 53 = .ok (.iconst 2, 1) := by decide +kernel
theorem dX5_init_54 : decode cX5_init 54 = .ok (.istore_n 1, 1) := by decide +kernel
theorem dX5_init_55 : decode cX5_init 55 = .ok (.aload_n 0, 1) := by decide +kernel
theorem dX5_init_56 : decode cX5_init 56 = .ok (.getfield 11, 3) := by decide +kernel
theorem dX5_init_59 : decode cX5_init 59 = .ok (.iload_n 1, 1) := by decide +kernel
theorem dX5_init_60 : decode cX5_init 60 = .ok (.invokestatic 23, 3) := by decide +kernel
theorem dX5_init_63 : decode cX5_init 63 = .ok (.aload_n 0, 1) := by decide +kernel
theorem dX5_init_64 : decode cX5_init 64 = .ok (.new 27, 3) := by decide +kernel
theorem dX5_init_67 : decode cX5_init 67 = .ok (.dup, 1) := by decide +kernel
theorem dX5_init_68 : decode cX5_init 68 = .ok (.invokespecial 29, 3) := by decide +kernel
theorem dX5_init_71 : decode cX5_init 71 = .ok (.putfield 30, 3) := by decide +kernel
theorem dX5_init_74 : decode cX5_init 74 = .ok (.aload_n 0, 1) := by decide +kernel
theorem dX5_init_75 : decode cX5_init 75 = .ok (.getfield 30, 3) := by decide +kernel
theorem dX5_init_78 : decode cX5_init 78 = .ok (.aload_n 0, 1) := by decide +kernel
theorem dX5_init_79 : decode cX5_init 79 = .ok (.getfield 11, 3) := by decide +kernel
theorem dX5_init_82 : decode cX5_init 82 = .ok (.iload_n 1, 1) := by decide +kernel
theorem dX5_init_83 : decode cX5_init 83 = .ok (.aaload, 1) := by decide +kernel
theorem dX5_init_84 : decode cX5_init 84 = .ok (.invokevirtual 34, 3) := by decide +kernel
theorem dX5_init_87 : decode cX5_init 87 = .ok (.aload_n 0, 1) := by decide +kernel
theorem dX5_init_88 : decode cX5_init 88 = .ok (.bipush 6, 2) := by decide +kernel
theorem dX5_init_90 : decode cX5_init 90 = .ok (.anewarray 27, 3) := by decide +kernel
theorem dX5_init_93 : decode cX5_init 93 = .ok (.putfield 38, 3) := by decide +kernel
theorem dX5_init_96 : decode cX5_init 96 = .ok (.iconst 0, 1) := by decide +kernel
theorem dX5_init_97 : decode cX5_init 97 = .ok (.istore_n 2, 1) := by decide +kernel
theorem dX5_init_98 : decode cX5_init 98 = .ok (.iload_n 2, 1) := by decide +kernel
theorem dX5_init_99 : decode cX5_init 99 = .ok (.aload_n 0, 1) := by decide +kernel
theorem dX5_init_100 : decode cX5_init 100 = .ok (.getfield 38, 3) := by decide +kernel
theorem dX5_init_103 : decode cX5_init 103 = .ok (.arraylength, 1) := by decide +kernel
theorem dX5_init_104 : decode cX5_init 104 = .ok (.if_icmp .ge 22, 3) := by decide +kernel
theorem dX5_init_107 : decode cX5_init 107 = .ok (.aload_n 0, 1) := by decide +kernel
theorem dX5_init_108 : decode cX5_init 108 = .ok (.getfield 38, 3) := by decide +kernel
theorem dX5_init_111 : decode cX5_init 111 = .ok (.iload_n 2, 1) := by decide +kernel
theorem dX5_init_112 : decode cX5_init 112 = .ok (.new 27, 3) := by decide +kernel
theorem dX5_init_115 : decode cX5_init 115 = .ok (.dup, 1) := by decide +kernel
theorem dX5_init_116 : decode cX5_init 116 = .ok (.invokespecial 29, 3) := by decide +kernel
theorem dX5_init_119 : decode cX5_init 119 = .ok (.aastore, 1) := by decide +kernel
theorem dX5_init_120 : decode cX5_init 120 = .ok (.iinc 2 1, 3) := by decide +kernel
theorem dX5_init_123 : decode cX5_init 123 = .ok (.goto (-25), 3) := by decide +kernel
theorem dX5_init_126 : decode cX5_init 126 = .ok (.aload_n 0, 1) := by decide +kernel
theorem dX5_init_127 : decode cX5_init 127 = .ok (.iconst 2, 1) := by decide +kernel
theorem dX5_init_128 : decode cX5_init 128 = .ok (.anewarray 27, 3) := by decide +kernel
theorem dX5_init_131 : decode cX5_init 131 = .ok (.putfield 42, 3) := by decide +kernel
theorem dX5_init_134 : decode cX5_init 134 = .ok (.iconst 0, 1) := by decide +kernel
theorem dX5_init_135 : decode cX5_init 135 = .ok (.istore_n 2, 1) := by decide +kernel
theorem dX5_init_136 : decode cX5_init 136 = .ok (.iload_n 2, 1) := by decide +kernel
theorem dX5_init_137 : decode cX5_init 137 = .ok (.aload_n 0, 1) := by decide +kernel
theorem dX5_init_138 : decode cX5_init 138 = .ok (.getfield 42, 3) := by decide +kernel
theorem dX5_init_141 : decode cX5_init 141 = .ok (.arraylength, 1) := by decide +kernel
theorem dX5_init_142 : decode cX5_init 142 = .ok (.if_icmp .ge 22, 3) := by decide +kernel
theorem dX5_init_145 : decode cX5_init 145 = .ok (.aload_n 0, 1) := by decide +kernel
theorem dX5_init_146 : decode cX5_init 146 = .ok (.getfield 42, 3) := by decide +kernel
theorem dX5_init_149 : decode cX5_init 149 = .ok (.iload_n 2, 1) := by decide +kernel
theorem dX5_init_150 : decode cX5_init 150 = .ok (.new 27, 3) := by decide +kernel
theorem dX5_init_153 : decode cX5_init 153 = .ok (.dup, 1) := by decide +kernel
theorem dX5_init_154 : decode cX5_init 154 = .ok (.invokespecial 29, 3) := by decide +kernel
theorem dX5_init_157 : decode cX5_init 157 = .ok (.aastore, 1) := by decide +kernel
theorem dX5_init_158 : decode cX5_init 158 = .ok (.iinc 2 1, 3) := by decide +kernel
theorem dX5_init_161 : decode cX5_init 161 = .ok (.goto (-25), 3) := by decide +kernel
theorem dX5_init_164 : decode cX5_init 164 = .ok (.aload_n 0, 1) := by decide +kernel
theorem dX5_init_165 : decode cX5_init 165 = .ok (.new 45, 3) := by decide +kernel
theorem dX5_init_168 : decode cX5_init 168 = .ok (.dup, 1) := by decide +kernel
theorem dX5_init_169 : decode cX5_init 169 = .ok (.invokespecial 47, 3) := by decide +kernel
theorem dX5_init_172 : decode cX5_init 172 = .ok (.putfield 48, 3) := by decide +kernel
theorem dX5_init_175 : decode cX5_init 175 = .ok (.aload_n 0, 1) := by decide +kernel
theorem dX5_init_176 : decode cX5_init 176 = .ok (.new 52, 3) := by decide +kernel
theorem dX5_init_179 : decode cX5_init 179 = .ok (.dup, 1) := by decide +kernel
theorem dX5_init_180 : decode cX5_init 180 = .ok (.aload_n 0, 1) := by decide +kernel
theorem dX5_init_181 : decode cX5_init 181 = .ok (.getfield 11, 3) := by decide +kernel
theorem dX5_init_184 : decode cX5_init 184 = .ok (.iconst 0, 1) := by decide +kernel
theorem dX5_init_185 : decode cX5_init 185 = .ok (.aaload, 1) := by decide +kernel
theorem dX5_init_186 : decode cX5_init 186 = .ok (.invokespecial 54, 3) := by decide +kernel
theorem dX5_init_189 : decode cX5_init 189 = .ok (.putfield 56, 3) := by decide +kernel
theorem dX5_init_192 : decode cX5_init 192 = .ok (.aload_n 0, 1) := by decide +kernel
theorem dX5_init_193 : decode cX5_init 193 = .ok (.new 52, 3) := by decide +kernel
theorem dX5_init_196 : decode cX5_init 196 = .ok (.dup, 1) := by decide +kernel
theorem dX5_init_197 : decode cX5_init 197 = .ok (.aload_n 0, 1) := by decide +kernel
theorem dX5_init_198 : decode cX5_init 198 = .ok (.getfield 11, 3) := by decide +kernel
theorem dX5_init_201 : decode cX5_init 201 = .ok (.iconst 0, 1) := by decide +kernel
theorem dX5_init_202 : decode cX5_init 202 = .ok (.aaload, 1) := by decide +kernel
theorem dX5_init_203 : decode cX5_init 203 = .ok (.invokespecial 54, 3) := by decide +kernel
theorem dX5_init_206 : decode cX5_init 206 = .ok (.putfield 60, 3) := by decide +kernel
theorem dX5_init_209 : decode cX5_init 209 = .ok (.aload_n 0, 1) := by decide +kernel
theorem dX5_init_210 : decode cX5_init 210 = .ok (.new 52, 3) := by decide +kernel
theorem dX5_init_213 : decode cX5_init 213 = .ok (.dup, 1) := by decide +kernel
theorem dX5_init_214 : decode cX5_init 214 = .ok (.aload_n 0, 1) := by decide +kernel
theorem dX5_init_215 : decode cX5_init 215 = .ok (.getfield 11, 3) := by decide +kernel
theorem dX5_init_218 : decode cX5_init 218 = .ok (.iconst 0, 1) := by decide +kernel
theorem dX5_init_219 : decode cX5_init 219 = .ok (.aaload, 1) := by decide +kernel
theorem dX5_init_220 : decode cX5_init 220 = .ok (.invokespecial 54, 3) := by decide +kernel
theorem dX5_init_223 : decode cX5_init 223 = .ok (.putfield 63, 3) := by decide +kernel
theorem dX5_init_226 : decode cX5_init 226 = .ok (.aload_n 0, 1) := by decide +kernel
theorem dX5_init_227 : decode cX5_init 227 = .ok (.new 52, 3) := by decide +kernel
theorem dX5_init_230 : decode cX5_init 230 = .ok (.dup, 1) := by decide +kernel
theorem dX5_init_231 : decode cX5_init 231 = .ok (.aload_n 0, 1) := by decide +kernel
theorem dX5_init_232 : decode cX5_init 232 = .ok (.getfield 11, 3) := by decide +kernel
theorem dX5_init_235 : decode cX5_init 235 = .ok (.iconst 0, 1) := by decide +kernel
theorem dX5_init_236 : decode cX5_init 236 = .ok (.aaload, 1) := by decide +kernel
theorem dX5_init_237 : decode cX5_init 237 = .ok (.invokespecial 54, 3) := by decide +kernel
theorem dX5_init_240 : decode cX5_init 240 = .ok (.putfield 66, 3) := by decide +kernel
theorem dX5_init_243 : decode cX5_init 243 = .ok (.aload_n 0, 1) := by decide +kernel
theorem dX5_init_244 : decode cX5_init 244 = .ok (.bipush 7, 2) := by decide +kernel
theorem dX5_init_246 : decode cX5_init 246 = .ok (.newarray .int, 2) := by decide +kernel
theorem dX5_init_248 : decode cX5_init 248 = .ok (.putfield 69, 3) := by decide +kernel
theorem dX5_init_251 : decode cX5_init 251 = .ok (.return_, 1) := by decide +kernel
set_option maxRecDepth 100000 in
set_option maxHeartbeats 4000000 in
theorem v_X5_init {X : zq_X} (C : zq_C X RX5 cX5_init 3 zq_all rm_X5_init) {h : zq_H} {t : Nat} (T : zq_T X (some (t + 1))) (hn : X.2.2.2.2.2.2.2.2.1.name = yX5_init.name) {out : zq_H} (hF : f_X5_init h t = some out) (hE : zq_End X cX5_init 103 30920 none out) : zq_W X 0 0 h 0 [(0, .ref t)] [] := by
  unfold f_X5_init at hF
  refine zq_aload_n (pc' := 1) C dX5_init_0 rfl rfl rfl ?_
  refine zq_objInit (pc' := 4) C wd_201 wd_3 wd_4 dX5_init_1 rfl (by decide) (Nat.le_of_ble_eq_true rfl) (Nat.le_of_ble_eq_true rfl) ?_
  refine zq_aload_n (pc' := 5) C dX5_init_4 rfl rfl rfl ?_
  refine zq_bipush (pc' := 7) C 6 dX5_init_5 rfl (by decide) ?_
  replace hF := zq_bd hF; obtain ⟨h_1, e_2, hF⟩ := hF
  refine zq_newQ (n := t + 1) (pc' := 10) C 12 "FlipPolygons$FlipGraph" (by decide) wd_202 T rfl dX5_init_7 rfl e_2 (by decide) ⟨Nat.le_of_ble_eq_true rfl, Nat.le_of_ble_eq_true rfl⟩ ?_
  refine zq_widen 1 6 (Nat.le_of_ble_eq_true rfl) (Nat.le_of_ble_eq_true rfl) ?_
  replace hF := zq_bd hF; obtain ⟨h_3, e_4, hF⟩ := hF
  refine zq_putR (j := 0) (pc' := 13) C zq_K5 zq_in5w (Or.inl wd_203) (by decide) rfl (Or.inr ⟨_, rfl⟩) dX5_init_10 rfl (Or.inr ⟨hn, rfl, rfl, wd_203⟩) e_4 ?_
  refine zq_iconst (pc' := 14) C 0 dX5_init_13 rfl (by decide) ?_
  refine zq_istore_n (lv' := [(1, .int 0), (0, .ref t)]) (pc' := 15) C dX5_init_14 rfl rfl (by decide) rfl rfl ?_
  refine zq_iload_n (pc' := 16) C dX5_init_15 rfl rfl rfl ?_
  refine zq_aload_n (pc' := 17) C dX5_init_16 rfl rfl rfl ?_
  replace hF := zq_is_e hF; obtain ⟨e_6, hF⟩ := hF
  refine zq_getR (j := 0) (pc' := 20) C zq_K5 zq_in5w (Or.inl wd_203) (by decide) rfl dX5_init_17 rfl e_6 ?_
  replace hF := zq_is_e hF; obtain ⟨e_8, hF⟩ := hF
  refine zq_alen (pc' := 21) C dX5_init_20 rfl e_8 ?_
  refine zq_icmp_ge (pc' := 24) C 53 dX5_init_21 (by decide) rfl (fun c_9 => absurd c_9 (by decide)) (fun _ => ?_)
  refine zq_aload_n (pc' := 25) C dX5_init_24 rfl rfl rfl ?_
  replace hF := zq_is_e hF; obtain ⟨e_11, hF⟩ := hF
  refine zq_getR (j := 0) (pc' := 28) C zq_K5 zq_in5w (Or.inl wd_203) (by decide) rfl dX5_init_25 rfl e_11 ?_
  refine zq_iload_n (pc' := 29) C dX5_init_28 rfl rfl rfl ?_
  replace hF := zq_bd hF; obtain ⟨h_12, e_13, hF⟩ := hF
  refine zq_newo (n := t + 2) (pc' := 32) C zq_K0 zq_in0w wd_202 wd_204 wd_16 T rfl dX5_init_29 rfl e_13 ⟨Nat.le_of_ble_eq_true rfl, Nat.le_of_ble_eq_true rfl⟩ ?_
  refine zq_widen 2 15 (Nat.le_of_ble_eq_true rfl) (Nat.le_of_ble_eq_true rfl) ?_
  refine zq_dup (pc' := 33) C dX5_init_32 rfl rfl ?_
  replace hF := zq_bd hF; obtain ⟨h_14, e_15, hF⟩ := hF
  refine zq_newo (n := t + 3) (pc' := 36) C zq_K1 zq_in1w wd_205 wd_206 wd_27 T rfl dX5_init_33 rfl e_15 ⟨Nat.le_of_ble_eq_true rfl, Nat.le_of_ble_eq_true rfl⟩ ?_
  refine zq_widen 3 24 (Nat.le_of_ble_eq_true rfl) (Nat.le_of_ble_eq_true rfl) ?_
  refine zq_dup (pc' := 37) C dX5_init_36 rfl rfl ?_
  refine zq_iconst (pc' := 38) C 4 dX5_init_37 rfl (by decide) ?_
  refine zq_iload_n (pc' := 39) C dX5_init_38 rfl rfl rfl ?_
  refine zq_iadd (pc' := 40) C dX5_init_39 rfl ?_
  replace hF := zq_at_e hF; obtain ⟨e_18, hF⟩ := hF
  replace hF := zq_bd hF; obtain ⟨v_16, e_17, hF⟩ := hF
  refine zq_callI (pc' := 43) C (c_X1_init e_17) (fun n hn => by cases hn; exact ⟨_, T, rfl, e_18⟩) (zq_goodC wd_88) rfl wd_27 wd_223 wd_224 rfl yi_X1_init dX5_init_40 rfl rfl ⟨Nat.le_of_ble_eq_true rfl, Nat.le_of_ble_eq_true rfl⟩ (Nat.le_of_ble_eq_true rfl) ⟨Nat.le_of_ble_eq_true rfl, Nat.le_of_ble_eq_true rfl⟩ ?_
  refine zq_widen 10 249 (Nat.le_of_ble_eq_true rfl) (Nat.le_of_ble_eq_true rfl) ?_
  replace hF := zq_at_e hF; obtain ⟨e_21, hF⟩ := hF
  replace hF := zq_bd hF; obtain ⟨v_19, e_20, hF⟩ := hF
  refine zq_callI (pc' := 46) C (c_X0_init e_20) (fun n hn => by cases hn; exact ⟨_, T, rfl, e_21⟩) (zq_goodC wd_1) rfl wd_16 wd_225 wd_226 rfl yi_X0_init dX5_init_43 rfl rfl ⟨Nat.le_of_ble_eq_true rfl, Nat.le_of_ble_eq_true rfl⟩ (Nat.le_of_ble_eq_true rfl) ⟨Nat.le_of_ble_eq_true rfl, Nat.le_of_ble_eq_true rfl⟩ ?_
  refine zq_widen 13 4276 (Nat.le_of_ble_eq_true rfl) (Nat.le_of_ble_eq_true rfl) ?_
  replace hF := zq_bd hF; obtain ⟨h_22, e_23, hF⟩ := hF
  refine zq_aastore (pc' := 47) C 12 0 (by decide) dX5_init_46 rfl e_23 ?_
  refine zq_iinc (lv' := [(1, .int 1), (0, .ref t)]) (v := 1) (pc' := 50) C dX5_init_47 rfl (by decide) 0 rfl (by decide) rfl ?_
  refine zq_goto C 15 dX5_init_50 (by decide) ?_
  refine zq_iload_n (pc' := 16) C dX5_init_15 rfl rfl rfl ?_
  refine zq_aload_n (pc' := 17) C dX5_init_16 rfl rfl rfl ?_
  replace hF := zq_is_e hF; obtain ⟨e_25, hF⟩ := hF
  refine zq_getR (j := 0) (pc' := 20) C zq_K5 zq_in5w (Or.inl wd_203) (by decide) rfl dX5_init_17 rfl e_25 ?_
  replace hF := zq_is_e hF; obtain ⟨e_27, hF⟩ := hF
  refine zq_alen (pc' := 21) C dX5_init_20 rfl e_27 ?_
  refine zq_icmp_ge (pc' := 24) C 53 dX5_init_21 (by decide) rfl (fun c_28 => absurd c_28 (by decide)) (fun _ => ?_)
  refine zq_aload_n (pc' := 25) C dX5_init_24 rfl rfl rfl ?_
  replace hF := zq_is_e hF; obtain ⟨e_30, hF⟩ := hF
  refine zq_getR (j := 0) (pc' := 28) C zq_K5 zq_in5w (Or.inl wd_203) (by decide) rfl dX5_init_25 rfl e_30 ?_
  refine zq_iload_n (pc' := 29) C dX5_init_28 rfl rfl rfl ?_
  replace hF := zq_bd hF; obtain ⟨h_31, e_32, hF⟩ := hF
  refine zq_newo (n := t + 14) (pc' := 32) C zq_K0 zq_in0w wd_202 wd_204 wd_16 T rfl dX5_init_29 rfl e_32 ⟨Nat.le_of_ble_eq_true rfl, Nat.le_of_ble_eq_true rfl⟩ ?_
  refine zq_widen 14 4285 (Nat.le_of_ble_eq_true rfl) (Nat.le_of_ble_eq_true rfl) ?_
  refine zq_dup (pc' := 33) C dX5_init_32 rfl rfl ?_
  replace hF := zq_bd hF; obtain ⟨h_33, e_34, hF⟩ := hF
  refine zq_newo (n := t + 15) (pc' := 36) C zq_K1 zq_in1w wd_205 wd_206 wd_27 T rfl dX5_init_33 rfl e_34 ⟨Nat.le_of_ble_eq_true rfl, Nat.le_of_ble_eq_true rfl⟩ ?_
  refine zq_widen 15 4294 (Nat.le_of_ble_eq_true rfl) (Nat.le_of_ble_eq_true rfl) ?_
  refine zq_dup (pc' := 37) C dX5_init_36 rfl rfl ?_
  refine zq_iconst (pc' := 38) C 4 dX5_init_37 rfl (by decide) ?_
  refine zq_iload_n (pc' := 39) C dX5_init_38 rfl rfl rfl ?_
  refine zq_iadd (pc' := 40) C dX5_init_39 rfl ?_
  replace hF := zq_at_e hF; obtain ⟨e_37, hF⟩ := hF
  replace hF := zq_bd hF; obtain ⟨v_35, e_36, hF⟩ := hF
  refine zq_callI (pc' := 43) C (c_X1_init e_36) (fun n hn => by cases hn; exact ⟨_, T, rfl, e_37⟩) (zq_goodC wd_88) rfl wd_27 wd_223 wd_224 rfl yi_X1_init dX5_init_40 rfl rfl ⟨Nat.le_of_ble_eq_true rfl, Nat.le_of_ble_eq_true rfl⟩ (Nat.le_of_ble_eq_true rfl) ⟨Nat.le_of_ble_eq_true rfl, Nat.le_of_ble_eq_true rfl⟩ ?_
  refine zq_widen 22 4519 (Nat.le_of_ble_eq_true rfl) (Nat.le_of_ble_eq_true rfl) ?_
  replace hF := zq_at_e hF; obtain ⟨e_40, hF⟩ := hF
  replace hF := zq_bd hF; obtain ⟨v_38, e_39, hF⟩ := hF
  refine zq_callI (pc' := 46) C (c_X0_init e_39) (fun n hn => by cases hn; exact ⟨_, T, rfl, e_40⟩) (zq_goodC wd_1) rfl wd_16 wd_225 wd_226 rfl yi_X0_init dX5_init_43 rfl rfl ⟨Nat.le_of_ble_eq_true rfl, Nat.le_of_ble_eq_true rfl⟩ (Nat.le_of_ble_eq_true rfl) ⟨Nat.le_of_ble_eq_true rfl, Nat.le_of_ble_eq_true rfl⟩ ?_
  refine zq_widen 25 8546 (Nat.le_of_ble_eq_true rfl) (Nat.le_of_ble_eq_true rfl) ?_
  replace hF := zq_bd hF; obtain ⟨h_41, e_42, hF⟩ := hF
  refine zq_aastore (pc' := 47) C 12 0 (by decide) dX5_init_46 rfl e_42 ?_
  refine zq_iinc (lv' := [(1, .int 2), (0, .ref t)]) (v := 2) (pc' := 50) C dX5_init_47 rfl (by decide) 0 rfl (by decide) rfl ?_
  refine zq_goto C 15 dX5_init_50 (by decide) ?_
  refine zq_iload_n (pc' := 16) C dX5_init_15 rfl rfl rfl ?_
  refine zq_aload_n (pc' := 17) C dX5_init_16 rfl rfl rfl ?_
  replace hF := zq_is_e hF; obtain ⟨e_44, hF⟩ := hF
  refine zq_getR (j := 0) (pc' := 20) C zq_K5 zq_in5w (Or.inl wd_203) (by decide) rfl dX5_init_17 rfl e_44 ?_
  replace hF := zq_is_e hF; obtain ⟨e_46, hF⟩ := hF
  refine zq_alen (pc' := 21) C dX5_init_20 rfl e_46 ?_
  refine zq_icmp_ge (pc' := 24) C 53 dX5_init_21 (by decide) rfl (fun c_47 => absurd c_47 (by decide)) (fun _ => ?_)
  refine zq_aload_n (pc' := 25) C dX5_init_24 rfl rfl rfl ?_
  replace hF := zq_is_e hF; obtain ⟨e_49, hF⟩ := hF
  refine zq_getR (j := 0) (pc' := 28) C zq_K5 zq_in5w (Or.inl wd_203) (by decide) rfl dX5_init_25 rfl e_49 ?_
  refine zq_iload_n (pc' := 29) C dX5_init_28 rfl rfl rfl ?_
  replace hF := zq_bd hF; obtain ⟨h_50, e_51, hF⟩ := hF
  refine zq_newo (n := t + 26) (pc' := 32) C zq_K0 zq_in0w wd_202 wd_204 wd_16 T rfl dX5_init_29 rfl e_51 ⟨Nat.le_of_ble_eq_true rfl, Nat.le_of_ble_eq_true rfl⟩ ?_
  refine zq_widen 26 8555 (Nat.le_of_ble_eq_true rfl) (Nat.le_of_ble_eq_true rfl) ?_
  refine zq_dup (pc' := 33) C dX5_init_32 rfl rfl ?_
  replace hF := zq_bd hF; obtain ⟨h_52, e_53, hF⟩ := hF
  refine zq_newo (n := t + 27) (pc' := 36) C zq_K1 zq_in1w wd_205 wd_206 wd_27 T rfl dX5_init_33 rfl e_53 ⟨Nat.le_of_ble_eq_true rfl, Nat.le_of_ble_eq_true rfl⟩ ?_
  refine zq_widen 27 8564 (Nat.le_of_ble_eq_true rfl) (Nat.le_of_ble_eq_true rfl) ?_
  refine zq_dup (pc' := 37) C dX5_init_36 rfl rfl ?_
  refine zq_iconst (pc' := 38) C 4 dX5_init_37 rfl (by decide) ?_
  refine zq_iload_n (pc' := 39) C dX5_init_38 rfl rfl rfl ?_
  refine zq_iadd (pc' := 40) C dX5_init_39 rfl ?_
  replace hF := zq_at_e hF; obtain ⟨e_56, hF⟩ := hF
  replace hF := zq_bd hF; obtain ⟨v_54, e_55, hF⟩ := hF
  refine zq_callI (pc' := 43) C (c_X1_init e_55) (fun n hn => by cases hn; exact ⟨_, T, rfl, e_56⟩) (zq_goodC wd_88) rfl wd_27 wd_223 wd_224 rfl yi_X1_init dX5_init_40 rfl rfl ⟨Nat.le_of_ble_eq_true rfl, Nat.le_of_ble_eq_true rfl⟩ (Nat.le_of_ble_eq_true rfl) ⟨Nat.le_of_ble_eq_true rfl, Nat.le_of_ble_eq_true rfl⟩ ?_
  refine zq_widen 34 8789 (Nat.le_of_ble_eq_true rfl) (Nat.le_of_ble_eq_true rfl) ?_
  replace hF := zq_at_e hF; obtain ⟨e_59, hF⟩ := hF
  replace hF := zq_bd hF; obtain ⟨v_57, e_58, hF⟩ := hF
  refine zq_callI (pc' := 46) C (c_X0_init e_58) (fun n hn => by cases hn; exact ⟨_, T, rfl, e_59⟩) (zq_goodC wd_1) rfl wd_16 wd_225 wd_226 rfl yi_X0_init dX5_init_43 rfl rfl ⟨Nat.le_of_ble_eq_true rfl, Nat.le_of_ble_eq_true rfl⟩ (Nat.le_of_ble_eq_true rfl) ⟨Nat.le_of_ble_eq_true rfl, Nat.le_of_ble_eq_true rfl⟩ ?_
  refine zq_widen 37 12816 (Nat.le_of_ble_eq_true rfl) (Nat.le_of_ble_eq_true rfl) ?_
  replace hF := zq_bd hF; obtain ⟨h_60, e_61, hF⟩ := hF
  refine zq_aastore (pc' := 47) C 12 0 (by decide) dX5_init_46 rfl e_61 ?_
  refine zq_iinc (lv' := [(1, .int 3), (0, .ref t)]) (v := 3) (pc' := 50) C dX5_init_47 rfl (by decide) 0 rfl (by decide) rfl ?_
  refine zq_goto C 15 dX5_init_50 (by decide) ?_
  refine zq_iload_n (pc' := 16) C dX5_init_15 rfl rfl rfl ?_
  refine zq_aload_n (pc' := 17) C dX5_init_16 rfl rfl rfl ?_
  replace hF := zq_is_e hF; obtain ⟨e_63, hF⟩ := hF
  refine zq_getR (j := 0) (pc' := 20) C zq_K5 zq_in5w (Or.inl wd_203) (by decide) rfl dX5_init_17 rfl e_63 ?_
  replace hF := zq_is_e hF; obtain ⟨e_65, hF⟩ := hF
  refine zq_alen (pc' := 21) C dX5_init_20 rfl e_65 ?_
  refine zq_icmp_ge (pc' := 24) C 53 dX5_init_21 (by decide) rfl (fun c_66 => absurd c_66 (by decide)) (fun _ => ?_)
  refine zq_aload_n (pc' := 25) C dX5_init_24 rfl rfl rfl ?_
  replace hF := zq_is_e hF; obtain ⟨e_68, hF⟩ := hF
  refine zq_getR (j := 0) (pc' := 28) C zq_K5 zq_in5w (Or.inl wd_203) (by decide) rfl dX5_init_25 rfl e_68 ?_
  refine zq_iload_n (pc' := 29) C dX5_init_28 rfl rfl rfl ?_
  replace hF := zq_bd hF; obtain ⟨h_69, e_70, hF⟩ := hF
  refine zq_newo (n := t + 38) (pc' := 32) C zq_K0 zq_in0w wd_202 wd_204 wd_16 T rfl dX5_init_29 rfl e_70 ⟨Nat.le_of_ble_eq_true rfl, Nat.le_of_ble_eq_true rfl⟩ ?_
  refine zq_widen 38 12825 (Nat.le_of_ble_eq_true rfl) (Nat.le_of_ble_eq_true rfl) ?_
  refine zq_dup (pc' := 33) C dX5_init_32 rfl rfl ?_
  replace hF := zq_bd hF; obtain ⟨h_71, e_72, hF⟩ := hF
  refine zq_newo (n := t + 39) (pc' := 36) C zq_K1 zq_in1w wd_205 wd_206 wd_27 T rfl dX5_init_33 rfl e_72 ⟨Nat.le_of_ble_eq_true rfl, Nat.le_of_ble_eq_true rfl⟩ ?_
  refine zq_widen 39 12834 (Nat.le_of_ble_eq_true rfl) (Nat.le_of_ble_eq_true rfl) ?_
  refine zq_dup (pc' := 37) C dX5_init_36 rfl rfl ?_
  refine zq_iconst (pc' := 38) C 4 dX5_init_37 rfl (by decide) ?_
  refine zq_iload_n (pc' := 39) C dX5_init_38 rfl rfl rfl ?_
  refine zq_iadd (pc' := 40) C dX5_init_39 rfl ?_
  replace hF := zq_at_e hF; obtain ⟨e_75, hF⟩ := hF
  replace hF := zq_bd hF; obtain ⟨v_73, e_74, hF⟩ := hF
  refine zq_callI (pc' := 43) C (c_X1_init e_74) (fun n hn => by cases hn; exact ⟨_, T, rfl, e_75⟩) (zq_goodC wd_88) rfl wd_27 wd_223 wd_224 rfl yi_X1_init dX5_init_40 rfl rfl ⟨Nat.le_of_ble_eq_true rfl, Nat.le_of_ble_eq_true rfl⟩ (Nat.le_of_ble_eq_true rfl) ⟨Nat.le_of_ble_eq_true rfl, Nat.le_of_ble_eq_true rfl⟩ ?_
  refine zq_widen 46 13059 (Nat.le_of_ble_eq_true rfl) (Nat.le_of_ble_eq_true rfl) ?_
  replace hF := zq_at_e hF; obtain ⟨e_78, hF⟩ := hF
  replace hF := zq_bd hF; obtain ⟨v_76, e_77, hF⟩ := hF
  refine zq_callI (pc' := 46) C (c_X0_init e_77) (fun n hn => by cases hn; exact ⟨_, T, rfl, e_78⟩) (zq_goodC wd_1) rfl wd_16 wd_225 wd_226 rfl yi_X0_init dX5_init_43 rfl rfl ⟨Nat.le_of_ble_eq_true rfl, Nat.le_of_ble_eq_true rfl⟩ (Nat.le_of_ble_eq_true rfl) ⟨Nat.le_of_ble_eq_true rfl, Nat.le_of_ble_eq_true rfl⟩ ?_
  refine zq_widen 49 17086 (Nat.le_of_ble_eq_true rfl) (Nat.le_of_ble_eq_true rfl) ?_
  replace hF := zq_bd hF; obtain ⟨h_79, e_80, hF⟩ := hF
  refine zq_aastore (pc' := 47) C 12 0 (by decide) dX5_init_46 rfl e_80 ?_
  refine zq_iinc (lv' := [(1, .int 4), (0, .ref t)]) (v := 4) (pc' := 50) C dX5_init_47 rfl (by decide) 0 rfl (by decide) rfl ?_
  refine zq_goto C 15 dX5_init_50 (by decide) ?_
  refine zq_iload_n (pc' := 16) C dX5_init_15 rfl rfl rfl ?_
  refine zq_aload_n (pc' := 17) C dX5_init_16 rfl rfl rfl ?_
  replace hF := zq_is_e hF; obtain ⟨e_82, hF⟩ := hF
  refine zq_getR (j := 0) (pc' := 20) C zq_K5 zq_in5w (Or.inl wd_203) (by decide) rfl dX5_init_17 rfl e_82 ?_
  replace hF := zq_is_e hF; obtain ⟨e_84, hF⟩ := hF
  refine zq_alen (pc' := 21) C dX5_init_20 rfl e_84 ?_
  refine zq_icmp_ge (pc' := 24) C 53 dX5_init_21 (by decide) rfl (fun c_85 => absurd c_85 (by decide)) (fun _ => ?_)
  refine zq_aload_n (pc' := 25) C dX5_init_24 rfl rfl rfl ?_
  replace hF := zq_is_e hF; obtain ⟨e_87, hF⟩ := hF
  refine zq_getR (j := 0) (pc' := 28) C zq_K5 zq_in5w (Or.inl wd_203) (by decide) rfl dX5_init_25 rfl e_87 ?_
  refine zq_iload_n (pc' := 29) C dX5_init_28 rfl rfl rfl ?_
  replace hF := zq_bd hF; obtain ⟨h_88, e_89, hF⟩ := hF
  refine zq_newo (n := t + 50) (pc' := 32) C zq_K0 zq_in0w wd_202 wd_204 wd_16 T rfl dX5_init_29 rfl e_89 ⟨Nat.le_of_ble_eq_true rfl, Nat.le_of_ble_eq_true rfl⟩ ?_
  refine zq_widen 50 17095 (Nat.le_of_ble_eq_true rfl) (Nat.le_of_ble_eq_true rfl) ?_
  refine zq_dup (pc' := 33) C dX5_init_32 rfl rfl ?_
  replace hF := zq_bd hF; obtain ⟨h_90, e_91, hF⟩ := hF
  refine zq_newo (n := t + 51) (pc' := 36) C zq_K1 zq_in1w wd_205 wd_206 wd_27 T rfl dX5_init_33 rfl e_91 ⟨Nat.le_of_ble_eq_true rfl, Nat.le_of_ble_eq_true rfl⟩ ?_
  refine zq_widen 51 17104 (Nat.le_of_ble_eq_true rfl) (Nat.le_of_ble_eq_true rfl) ?_
  refine zq_dup (pc' := 37) C dX5_init_36 rfl rfl ?_
  refine zq_iconst (pc' := 38) C 4 dX5_init_37 rfl (by decide) ?_
  refine zq_iload_n (pc' := 39) C dX5_init_38 rfl rfl rfl ?_
  refine zq_iadd (pc' := 40) C dX5_init_39 rfl ?_
  replace hF := zq_at_e hF; obtain ⟨e_94, hF⟩ := hF
  replace hF := zq_bd hF; obtain ⟨v_92, e_93, hF⟩ := hF
  refine zq_callI (pc' := 43) C (c_X1_init e_93) (fun n hn => by cases hn; exact ⟨_, T, rfl, e_94⟩) (zq_goodC wd_88) rfl wd_27 wd_223 wd_224 rfl yi_X1_init dX5_init_40 rfl rfl ⟨Nat.le_of_ble_eq_true rfl, Nat.le_of_ble_eq_true rfl⟩ (Nat.le_of_ble_eq_true rfl) ⟨Nat.le_of_ble_eq_true rfl, Nat.le_of_ble_eq_true rfl⟩ ?_
  refine zq_widen 58 17329 (Nat.le_of_ble_eq_true rfl) (Nat.le_of_ble_eq_true rfl) ?_
  replace hF := zq_at_e hF; obtain ⟨e_97, hF⟩ := hF
  replace hF := zq_bd hF; obtain ⟨v_95, e_96, hF⟩ := hF
  refine zq_callI (pc' := 46) C (c_X0_init e_96) (fun n hn => by cases hn; exact ⟨_, T, rfl, e_97⟩) (zq_goodC wd_1) rfl wd_16 wd_225 wd_226 rfl yi_X0_init dX5_init_43 rfl rfl ⟨Nat.le_of_ble_eq_true rfl, Nat.le_of_ble_eq_true rfl⟩ (Nat.le_of_ble_eq_true rfl) ⟨Nat.le_of_ble_eq_true rfl, Nat.le_of_ble_eq_true rfl⟩ ?_
  refine zq_widen 61 21356 (Nat.le_of_ble_eq_true rfl) (Nat.le_of_ble_eq_true rfl) ?_
  replace hF := zq_bd hF; obtain ⟨h_98, e_99, hF⟩ := hF
  refine zq_aastore (pc' := 47) C 12 0 (by decide) dX5_init_46 rfl e_99 ?_
  refine zq_iinc (lv' := [(1, .int 5), (0, .ref t)]) (v := 5) (pc' := 50) C dX5_init_47 rfl (by decide) 0 rfl (by decide) rfl ?_
  refine zq_goto C 15 dX5_init_50 (by decide) ?_
  refine zq_iload_n (pc' := 16) C dX5_init_15 rfl rfl rfl ?_
  refine zq_aload_n (pc' := 17) C dX5_init_16 rfl rfl rfl ?_
  replace hF := zq_is_e hF; obtain ⟨e_101, hF⟩ := hF
  refine zq_getR (j := 0) (pc' := 20) C zq_K5 zq_in5w (Or.inl wd_203) (by decide) rfl dX5_init_17 rfl e_101 ?_
  replace hF := zq_is_e hF; obtain ⟨e_103, hF⟩ := hF
  refine zq_alen (pc' := 21) C dX5_init_20 rfl e_103 ?_
  refine zq_icmp_ge (pc' := 24) C 53 dX5_init_21 (by decide) rfl (fun c_104 => absurd c_104 (by decide)) (fun _ => ?_)
  refine zq_aload_n (pc' := 25) C dX5_init_24 rfl rfl rfl ?_
  replace hF := zq_is_e hF; obtain ⟨e_106, hF⟩ := hF
  refine zq_getR (j := 0) (pc' := 28) C zq_K5 zq_in5w (Or.inl wd_203) (by decide) rfl dX5_init_25 rfl e_106 ?_
  refine zq_iload_n (pc' := 29) C dX5_init_28 rfl rfl rfl ?_
  replace hF := zq_bd hF; obtain ⟨h_107, e_108, hF⟩ := hF
  refine zq_newo (n := t + 62) (pc' := 32) C zq_K0 zq_in0w wd_202 wd_204 wd_16 T rfl dX5_init_29 rfl e_108 ⟨Nat.le_of_ble_eq_true rfl, Nat.le_of_ble_eq_true rfl⟩ ?_
  refine zq_widen 62 21365 (Nat.le_of_ble_eq_true rfl) (Nat.le_of_ble_eq_true rfl) ?_
  refine zq_dup (pc' := 33) C dX5_init_32 rfl rfl ?_
  replace hF := zq_bd hF; obtain ⟨h_109, e_110, hF⟩ := hF
  refine zq_newo (n := t + 63) (pc' := 36) C zq_K1 zq_in1w wd_205 wd_206 wd_27 T rfl dX5_init_33 rfl e_110 ⟨Nat.le_of_ble_eq_true rfl, Nat.le_of_ble_eq_true rfl⟩ ?_
  refine zq_widen 63 21374 (Nat.le_of_ble_eq_true rfl) (Nat.le_of_ble_eq_true rfl) ?_
  refine zq_dup (pc' := 37) C dX5_init_36 rfl rfl ?_
  refine zq_iconst (pc' := 38) C 4 dX5_init_37 rfl (by decide) ?_
  refine zq_iload_n (pc' := 39) C dX5_init_38 rfl rfl rfl ?_
  refine zq_iadd (pc' := 40) C dX5_init_39 rfl ?_
  replace hF := zq_at_e hF; obtain ⟨e_113, hF⟩ := hF
  replace hF := zq_bd hF; obtain ⟨v_111, e_112, hF⟩ := hF
  refine zq_callI (pc' := 43) C (c_X1_init e_112) (fun n hn => by cases hn; exact ⟨_, T, rfl, e_113⟩) (zq_goodC wd_88) rfl wd_27 wd_223 wd_224 rfl yi_X1_init dX5_init_40 rfl rfl ⟨Nat.le_of_ble_eq_true rfl, Nat.le_of_ble_eq_true rfl⟩ (Nat.le_of_ble_eq_true rfl) ⟨Nat.le_of_ble_eq_true rfl, Nat.le_of_ble_eq_true rfl⟩ ?_
  refine zq_widen 70 21599 (Nat.le_of_ble_eq_true rfl) (Nat.le_of_ble_eq_true rfl) ?_
  replace hF := zq_at_e hF; obtain ⟨e_116, hF⟩ := hF
  replace hF := zq_bd hF; obtain ⟨v_114, e_115, hF⟩ := hF
  refine zq_callI (pc' := 46) C (c_X0_init e_115) (fun n hn => by cases hn; exact ⟨_, T, rfl, e_116⟩) (zq_goodC wd_1) rfl wd_16 wd_225 wd_226 rfl yi_X0_init dX5_init_43 rfl rfl ⟨Nat.le_of_ble_eq_true rfl, Nat.le_of_ble_eq_true rfl⟩ (Nat.le_of_ble_eq_true rfl) ⟨Nat.le_of_ble_eq_true rfl, Nat.le_of_ble_eq_true rfl⟩ ?_
  refine zq_widen 73 25626 (Nat.le_of_ble_eq_true rfl) (Nat.le_of_ble_eq_true rfl) ?_
  replace hF := zq_bd hF; obtain ⟨h_117, e_118, hF⟩ := hF
  refine zq_aastore (pc' := 47) C 12 0 (by decide) dX5_init_46 rfl e_118 ?_
  refine zq_iinc (lv' := [(1, .int 6), (0, .ref t)]) (v := 6) (pc' := 50) C dX5_init_47 rfl (by decide) 0 rfl (by decide) rfl ?_
  refine zq_goto C 15 dX5_init_50 (by decide) ?_
  refine zq_iload_n (pc' := 16) C dX5_init_15 rfl rfl rfl ?_
  refine zq_aload_n (pc' := 17) C dX5_init_16 rfl rfl rfl ?_
  replace hF := zq_is_e hF; obtain ⟨e_120, hF⟩ := hF
  refine zq_getR (j := 0) (pc' := 20) C zq_K5 zq_in5w (Or.inl wd_203) (by decide) rfl dX5_init_17 rfl e_120 ?_
  replace hF := zq_is_e hF; obtain ⟨e_122, hF⟩ := hF
  refine zq_alen (pc' := 21) C dX5_init_20 rfl e_122 ?_
  refine zq_icmp_ge (pc' := 24) C 53 dX5_init_21 (by decide) rfl (fun _ => ?_) (fun c_123 => absurd c_123 (by decide))
  refine zq_iconst (pc' := 54) C 2 dX5_init_53 rfl (by decide) ?_
  refine zq_istore_n (lv' := [(1, .int 2), (0, .ref t)]) (pc' := 55) C dX5_init_54 rfl rfl (by decide) rfl rfl ?_
  refine zq_aload_n (pc' := 56) C dX5_init_55 rfl rfl rfl ?_
  replace hF := zq_is_e hF; obtain ⟨e_125, hF⟩ := hF
  refine zq_getR (j := 0) (pc' := 59) C zq_K5 zq_in5w (Or.inl wd_203) (by decide) rfl dX5_init_56 rfl e_125 ?_
  refine zq_iload_n (pc' := 60) C dX5_init_59 rfl rfl rfl ?_
  replace hF := zq_bd hF; obtain ⟨v_126, e_127, hF⟩ := hF
  refine zq_cS (pc' := 63) C (c_X5_buildUpTo e_127) ys_X5_buildUpTo wd_227 dX5_init_60 rfl rfl rfl ⟨Nat.le_of_ble_eq_true rfl, Nat.le_of_ble_eq_true rfl⟩ (Nat.le_of_ble_eq_true rfl) ⟨rfl, rfl⟩ ⟨Nat.le_of_ble_eq_true rfl, Nat.le_of_ble_eq_true rfl⟩ rfl ?_
  refine zq_aload_n (pc' := 64) C dX5_init_63 rfl rfl rfl ?_
  replace hF := zq_bd hF; obtain ⟨h_128, e_129, hF⟩ := hF
  refine zq_newo (n := t + 74) (pc' := 67) C zq_K3 zq_in3w wd_207 wd_208 wd_209 T rfl dX5_init_64 rfl e_129 ⟨Nat.le_of_ble_eq_true rfl, Nat.le_of_ble_eq_true rfl⟩ ?_
  refine zq_widen 74 25631 (Nat.le_of_ble_eq_true rfl) (Nat.le_of_ble_eq_true rfl) ?_
  refine zq_dup (pc' := 68) C dX5_init_67 rfl rfl ?_
  replace hF := zq_bd hF; obtain ⟨v_130, e_131, hF⟩ := hF
  refine zq_callIN (host := "FlipPolygons") (pc' := 71) C (c_X3_init e_131) (zq_goodC wd_154) rfl wd_209 (by decide +kernel) wd_229 rfl yi_X3_init dX5_init_68 rfl rfl ⟨Nat.le_of_ble_eq_true rfl, Nat.le_of_ble_eq_true rfl⟩ (Nat.le_of_ble_eq_true rfl) ⟨Nat.le_of_ble_eq_true rfl, Nat.le_of_ble_eq_true rfl⟩ ?_
  refine zq_widen 74 25631 (Nat.le_of_ble_eq_true rfl) (Nat.le_of_ble_eq_true rfl) ?_
  replace hF := zq_bd hF; obtain ⟨h_132, e_133, hF⟩ := hF
  refine zq_putR (j := 1) (pc' := 74) C zq_K5 zq_in5w (Or.inl wd_210) (by decide) rfl (Or.inl ⟨_, rfl⟩) dX5_init_71 rfl (Or.inr ⟨hn, rfl, rfl, wd_210⟩) e_133 ?_
  refine zq_aload_n (pc' := 75) C dX5_init_74 rfl rfl rfl ?_
  replace hF := zq_is_e hF; obtain ⟨e_135, hF⟩ := hF
  refine zq_getR (j := 1) (pc' := 78) C zq_K5 zq_in5w (Or.inl wd_210) (by decide) rfl dX5_init_75 rfl e_135 ?_
  refine zq_aload_n (pc' := 79) C dX5_init_78 rfl rfl rfl ?_
  replace hF := zq_is_e hF; obtain ⟨e_137, hF⟩ := hF
  refine zq_getR (j := 0) (pc' := 82) C zq_K5 zq_in5w (Or.inl wd_203) (by decide) rfl dX5_init_79 rfl e_137 ?_
  refine zq_iload_n (pc' := 83) C dX5_init_82 rfl rfl rfl ?_
  replace hF := zq_bd hF; obtain ⟨v_138, e_139, hF⟩ := hF
  refine zq_aaload (pc' := 84) C 12 (by decide) dX5_init_83 rfl e_139 ?_
  replace hF := zq_ck_e hF; obtain ⟨e_142, hF⟩ := hF
  replace hF := zq_bd hF; obtain ⟨v_140, e_141, hF⟩ := hF
  refine zq_cV (pc' := 87) C (c_X3_startWith e_141) yv_X3_startWith wd_230 zq_K3 e_142 dX5_init_84 rfl rfl rfl ⟨Nat.le_of_ble_eq_true rfl, Nat.le_of_ble_eq_true rfl⟩ (Nat.le_of_ble_eq_true rfl) ⟨rfl, rfl⟩ ⟨Nat.le_of_ble_eq_true rfl, Nat.le_of_ble_eq_true rfl⟩ rfl ?_
  refine zq_aload_n (pc' := 88) C dX5_init_87 rfl rfl rfl ?_
  refine zq_bipush (pc' := 90) C 6 dX5_init_88 rfl (by decide) ?_
  replace hF := zq_bd hF; obtain ⟨h_143, e_144, hF⟩ := hF
  refine zq_newQ (n := t + 75) (pc' := 93) C 13 "FlipPolygons$State" (by decide) wd_207 T rfl dX5_init_90 rfl e_144 (by decide) ⟨Nat.le_of_ble_eq_true rfl, Nat.le_of_ble_eq_true rfl⟩ ?_
  refine zq_widen 75 25637 (Nat.le_of_ble_eq_true rfl) (Nat.le_of_ble_eq_true rfl) ?_
  replace hF := zq_bd hF; obtain ⟨h_145, e_146, hF⟩ := hF
  refine zq_putR (j := 2) (pc' := 96) C zq_K5 zq_in5w (Or.inl wd_211) (by decide) rfl (Or.inr ⟨_, rfl⟩) dX5_init_93 rfl (Or.inr ⟨hn, rfl, rfl, wd_211⟩) e_146 ?_
  refine zq_iconst (pc' := 97) C 0 dX5_init_96 rfl (by decide) ?_
  refine zq_istore_n (lv' := [(2, .int 0), (1, .int 2), (0, .ref t)]) (pc' := 98) C dX5_init_97 rfl rfl (by decide) rfl rfl ?_
  refine zq_iload_n (pc' := 99) C dX5_init_98 rfl rfl rfl ?_
  refine zq_aload_n (pc' := 100) C dX5_init_99 rfl rfl rfl ?_
  replace hF := zq_is_e hF; obtain ⟨e_148, hF⟩ := hF
  refine zq_getR (j := 2) (pc' := 103) C zq_K5 zq_in5w (Or.inl wd_211) (by decide) rfl dX5_init_100 rfl e_148 ?_
  replace hF := zq_is_e hF; obtain ⟨e_150, hF⟩ := hF
  refine zq_alen (pc' := 104) C dX5_init_103 rfl e_150 ?_
  refine zq_icmp_ge (pc' := 107) C 126 dX5_init_104 (by decide) rfl (fun c_151 => absurd c_151 (by decide)) (fun _ => ?_)
  refine zq_aload_n (pc' := 108) C dX5_init_107 rfl rfl rfl ?_
  replace hF := zq_is_e hF; obtain ⟨e_153, hF⟩ := hF
  refine zq_getR (j := 2) (pc' := 111) C zq_K5 zq_in5w (Or.inl wd_211) (by decide) rfl dX5_init_108 rfl e_153 ?_
  refine zq_iload_n (pc' := 112) C dX5_init_111 rfl rfl rfl ?_
  replace hF := zq_bd hF; obtain ⟨h_154, e_155, hF⟩ := hF
  refine zq_newo (n := t + 76) (pc' := 115) C zq_K3 zq_in3w wd_207 wd_208 wd_209 T rfl dX5_init_112 rfl e_155 ⟨Nat.le_of_ble_eq_true rfl, Nat.le_of_ble_eq_true rfl⟩ ?_
  refine zq_widen 76 25642 (Nat.le_of_ble_eq_true rfl) (Nat.le_of_ble_eq_true rfl) ?_
  refine zq_dup (pc' := 116) C dX5_init_115 rfl rfl ?_
  replace hF := zq_bd hF; obtain ⟨v_156, e_157, hF⟩ := hF
  refine zq_callIN (host := "FlipPolygons") (pc' := 119) C (c_X3_init e_157) (zq_goodC wd_154) rfl wd_209 (by decide +kernel) wd_229 rfl yi_X3_init dX5_init_116 rfl rfl ⟨Nat.le_of_ble_eq_true rfl, Nat.le_of_ble_eq_true rfl⟩ (Nat.le_of_ble_eq_true rfl) ⟨Nat.le_of_ble_eq_true rfl, Nat.le_of_ble_eq_true rfl⟩ ?_
  refine zq_widen 76 25642 (Nat.le_of_ble_eq_true rfl) (Nat.le_of_ble_eq_true rfl) ?_
  replace hF := zq_bd hF; obtain ⟨h_158, e_159, hF⟩ := hF
  refine zq_aastore (pc' := 120) C 13 3 (by decide) dX5_init_119 rfl e_159 ?_
  refine zq_iinc (lv' := [(2, .int 1), (1, .int 2), (0, .ref t)]) (v := 1) (pc' := 123) C dX5_init_120 rfl (by decide) 0 rfl (by decide) rfl ?_
  refine zq_goto C 98 dX5_init_123 (by decide) ?_
  refine zq_iload_n (pc' := 99) C dX5_init_98 rfl rfl rfl ?_
  refine zq_aload_n (pc' := 100) C dX5_init_99 rfl rfl rfl ?_
  replace hF := zq_is_e hF; obtain ⟨e_161, hF⟩ := hF
  refine zq_getR (j := 2) (pc' := 103) C zq_K5 zq_in5w (Or.inl wd_211) (by decide) rfl dX5_init_100 rfl e_161 ?_
  replace hF := zq_is_e hF; obtain ⟨e_163, hF⟩ := hF
  refine zq_alen (pc' := 104) C dX5_init_103 rfl e_163 ?_
  refine zq_icmp_ge (pc' := 107) C 126 dX5_init_104 (by decide) rfl (fun c_164 => absurd c_164 (by decide)) (fun _ => ?_)
  refine zq_aload_n (pc' := 108) C dX5_init_107 rfl rfl rfl ?_
  replace hF := zq_is_e hF; obtain ⟨e_166, hF⟩ := hF
  refine zq_getR (j := 2) (pc' := 111) C zq_K5 zq_in5w (Or.inl wd_211) (by decide) rfl dX5_init_108 rfl e_166 ?_
  refine zq_iload_n (pc' := 112) C dX5_init_111 rfl rfl rfl ?_
  replace hF := zq_bd hF; obtain ⟨h_167, e_168, hF⟩ := hF
  refine zq_newo (n := t + 77) (pc' := 115) C zq_K3 zq_in3w wd_207 wd_208 wd_209 T rfl dX5_init_112 rfl e_168 ⟨Nat.le_of_ble_eq_true rfl, Nat.le_of_ble_eq_true rfl⟩ ?_
  refine zq_widen 77 25647 (Nat.le_of_ble_eq_true rfl) (Nat.le_of_ble_eq_true rfl) ?_
  refine zq_dup (pc' := 116) C dX5_init_115 rfl rfl ?_
  replace hF := zq_bd hF; obtain ⟨v_169, e_170, hF⟩ := hF
  refine zq_callIN (host := "FlipPolygons") (pc' := 119) C (c_X3_init e_170) (zq_goodC wd_154) rfl wd_209 (by decide +kernel) wd_229 rfl yi_X3_init dX5_init_116 rfl rfl ⟨Nat.le_of_ble_eq_true rfl, Nat.le_of_ble_eq_true rfl⟩ (Nat.le_of_ble_eq_true rfl) ⟨Nat.le_of_ble_eq_true rfl, Nat.le_of_ble_eq_true rfl⟩ ?_
  refine zq_widen 77 25647 (Nat.le_of_ble_eq_true rfl) (Nat.le_of_ble_eq_true rfl) ?_
  replace hF := zq_bd hF; obtain ⟨h_171, e_172, hF⟩ := hF
  refine zq_aastore (pc' := 120) C 13 3 (by decide) dX5_init_119 rfl e_172 ?_
  refine zq_iinc (lv' := [(2, .int 2), (1, .int 2), (0, .ref t)]) (v := 2) (pc' := 123) C dX5_init_120 rfl (by decide) 0 rfl (by decide) rfl ?_
  refine zq_goto C 98 dX5_init_123 (by decide) ?_
  refine zq_iload_n (pc' := 99) C dX5_init_98 rfl rfl rfl ?_
  refine zq_aload_n (pc' := 100) C dX5_init_99 rfl rfl rfl ?_
  replace hF := zq_is_e hF; obtain ⟨e_174, hF⟩ := hF
  refine zq_getR (j := 2) (pc' := 103) C zq_K5 zq_in5w (Or.inl wd_211) (by decide) rfl dX5_init_100 rfl e_174 ?_
  replace hF := zq_is_e hF; obtain ⟨e_176, hF⟩ := hF
  refine zq_alen (pc' := 104) C dX5_init_103 rfl e_176 ?_
  refine zq_icmp_ge (pc' := 107) C 126 dX5_init_104 (by decide) rfl (fun c_177 => absurd c_177 (by decide)) (fun _ => ?_)
  refine zq_aload_n (pc' := 108) C dX5_init_107 rfl rfl rfl ?_
  replace hF := zq_is_e hF; obtain ⟨e_179, hF⟩ := hF
  refine zq_getR (j := 2) (pc' := 111) C zq_K5 zq_in5w (Or.inl wd_211) (by decide) rfl dX5_init_108 rfl e_179 ?_
  refine zq_iload_n (pc' := 112) C dX5_init_111 rfl rfl rfl ?_
  replace hF := zq_bd hF; obtain ⟨h_180, e_181, hF⟩ := hF
  refine zq_newo (n := t + 78) (pc' := 115) C zq_K3 zq_in3w wd_207 wd_208 wd_209 T rfl dX5_init_112 rfl e_181 ⟨Nat.le_of_ble_eq_true rfl, Nat.le_of_ble_eq_true rfl⟩ ?_
  refine zq_widen 78 25652 (Nat.le_of_ble_eq_true rfl) (Nat.le_of_ble_eq_true rfl) ?_
  refine zq_dup (pc' := 116) C dX5_init_115 rfl rfl ?_
  replace hF := zq_bd hF; obtain ⟨v_182, e_183, hF⟩ := hF
  refine zq_callIN (host := "FlipPolygons") (pc' := 119) C (c_X3_init e_183) (zq_goodC wd_154) rfl wd_209 (by decide +kernel) wd_229 rfl yi_X3_init dX5_init_116 rfl rfl ⟨Nat.le_of_ble_eq_true rfl, Nat.le_of_ble_eq_true rfl⟩ (Nat.le_of_ble_eq_true rfl) ⟨Nat.le_of_ble_eq_true rfl, Nat.le_of_ble_eq_true rfl⟩ ?_
  refine zq_widen 78 25652 (Nat.le_of_ble_eq_true rfl) (Nat.le_of_ble_eq_true rfl) ?_
  replace hF := zq_bd hF; obtain ⟨h_184, e_185, hF⟩ := hF
  refine zq_aastore (pc' := 120) C 13 3 (by decide) dX5_init_119 rfl e_185 ?_
  refine zq_iinc (lv' := [(2, .int 3), (1, .int 2), (0, .ref t)]) (v := 3) (pc' := 123) C dX5_init_120 rfl (by decide) 0 rfl (by decide) rfl ?_
  refine zq_goto C 98 dX5_init_123 (by decide) ?_
  refine zq_iload_n (pc' := 99) C dX5_init_98 rfl rfl rfl ?_
  refine zq_aload_n (pc' := 100) C dX5_init_99 rfl rfl rfl ?_
  replace hF := zq_is_e hF; obtain ⟨e_187, hF⟩ := hF
  refine zq_getR (j := 2) (pc' := 103) C zq_K5 zq_in5w (Or.inl wd_211) (by decide) rfl dX5_init_100 rfl e_187 ?_
  replace hF := zq_is_e hF; obtain ⟨e_189, hF⟩ := hF
  refine zq_alen (pc' := 104) C dX5_init_103 rfl e_189 ?_
  refine zq_icmp_ge (pc' := 107) C 126 dX5_init_104 (by decide) rfl (fun c_190 => absurd c_190 (by decide)) (fun _ => ?_)
  refine zq_aload_n (pc' := 108) C dX5_init_107 rfl rfl rfl ?_
  replace hF := zq_is_e hF; obtain ⟨e_192, hF⟩ := hF
  refine zq_getR (j := 2) (pc' := 111) C zq_K5 zq_in5w (Or.inl wd_211) (by decide) rfl dX5_init_108 rfl e_192 ?_
  refine zq_iload_n (pc' := 112) C dX5_init_111 rfl rfl rfl ?_
  replace hF := zq_bd hF; obtain ⟨h_193, e_194, hF⟩ := hF
  refine zq_newo (n := t + 79) (pc' := 115) C zq_K3 zq_in3w wd_207 wd_208 wd_209 T rfl dX5_init_112 rfl e_194 ⟨Nat.le_of_ble_eq_true rfl, Nat.le_of_ble_eq_true rfl⟩ ?_
  refine zq_widen 79 25657 (Nat.le_of_ble_eq_true rfl) (Nat.le_of_ble_eq_true rfl) ?_
  refine zq_dup (pc' := 116) C dX5_init_115 rfl rfl ?_
  replace hF := zq_bd hF; obtain ⟨v_195, e_196, hF⟩ := hF
  refine zq_callIN (host := "FlipPolygons") (pc' := 119) C (c_X3_init e_196) (zq_goodC wd_154) rfl wd_209 (by decide +kernel) wd_229 rfl yi_X3_init dX5_init_116 rfl rfl ⟨Nat.le_of_ble_eq_true rfl, Nat.le_of_ble_eq_true rfl⟩ (Nat.le_of_ble_eq_true rfl) ⟨Nat.le_of_ble_eq_true rfl, Nat.le_of_ble_eq_true rfl⟩ ?_
  refine zq_widen 79 25657 (Nat.le_of_ble_eq_true rfl) (Nat.le_of_ble_eq_true rfl) ?_
  replace hF := zq_bd hF; obtain ⟨h_197, e_198, hF⟩ := hF
  refine zq_aastore (pc' := 120) C 13 3 (by decide) dX5_init_119 rfl e_198 ?_
  refine zq_iinc (lv' := [(2, .int 4), (1, .int 2), (0, .ref t)]) (v := 4) (pc' := 123) C dX5_init_120 rfl (by decide) 0 rfl (by decide) rfl ?_
  refine zq_goto C 98 dX5_init_123 (by decide) ?_
  refine zq_iload_n (pc' := 99) C dX5_init_98 rfl rfl rfl ?_
  refine zq_aload_n (pc' := 100) C dX5_init_99 rfl rfl rfl ?_
  replace hF := zq_is_e hF; obtain ⟨e_200, hF⟩ := hF
  refine zq_getR (j := 2) (pc' := 103) C zq_K5 zq_in5w (Or.inl wd_211) (by decide) rfl dX5_init_100 rfl e_200 ?_
  replace hF := zq_is_e hF; obtain ⟨e_202, hF⟩ := hF
  refine zq_alen (pc' := 104) C dX5_init_103 rfl e_202 ?_
  refine zq_icmp_ge (pc' := 107) C 126 dX5_init_104 (by decide) rfl (fun c_203 => absurd c_203 (by decide)) (fun _ => ?_)
  refine zq_aload_n (pc' := 108) C dX5_init_107 rfl rfl rfl ?_
  replace hF := zq_is_e hF; obtain ⟨e_205, hF⟩ := hF
  refine zq_getR (j := 2) (pc' := 111) C zq_K5 zq_in5w (Or.inl wd_211) (by decide) rfl dX5_init_108 rfl e_205 ?_
  refine zq_iload_n (pc' := 112) C dX5_init_111 rfl rfl rfl ?_
  replace hF := zq_bd hF; obtain ⟨h_206, e_207, hF⟩ := hF
  refine zq_newo (n := t + 80) (pc' := 115) C zq_K3 zq_in3w wd_207 wd_208 wd_209 T rfl dX5_init_112 rfl e_207 ⟨Nat.le_of_ble_eq_true rfl, Nat.le_of_ble_eq_true rfl⟩ ?_
  refine zq_widen 80 25662 (Nat.le_of_ble_eq_true rfl) (Nat.le_of_ble_eq_true rfl) ?_
  refine zq_dup (pc' := 116) C dX5_init_115 rfl rfl ?_
  replace hF := zq_bd hF; obtain ⟨v_208, e_209, hF⟩ := hF
  refine zq_callIN (host := "FlipPolygons") (pc' := 119) C (c_X3_init e_209) (zq_goodC wd_154) rfl wd_209 (by decide +kernel) wd_229 rfl yi_X3_init dX5_init_116 rfl rfl ⟨Nat.le_of_ble_eq_true rfl, Nat.le_of_ble_eq_true rfl⟩ (Nat.le_of_ble_eq_true rfl) ⟨Nat.le_of_ble_eq_true rfl, Nat.le_of_ble_eq_true rfl⟩ ?_
  refine zq_widen 80 25662 (Nat.le_of_ble_eq_true rfl) (Nat.le_of_ble_eq_true rfl) ?_
  replace hF := zq_bd hF; obtain ⟨h_210, e_211, hF⟩ := hF
  refine zq_aastore (pc' := 120) C 13 3 (by decide) dX5_init_119 rfl e_211 ?_
  refine zq_iinc (lv' := [(2, .int 5), (1, .int 2), (0, .ref t)]) (v := 5) (pc' := 123) C dX5_init_120 rfl (by decide) 0 rfl (by decide) rfl ?_
  refine zq_goto C 98 dX5_init_123 (by decide) ?_
  refine zq_iload_n (pc' := 99) C dX5_init_98 rfl rfl rfl ?_
  refine zq_aload_n (pc' := 100) C dX5_init_99 rfl rfl rfl ?_
  replace hF := zq_is_e hF; obtain ⟨e_213, hF⟩ := hF
  refine zq_getR (j := 2) (pc' := 103) C zq_K5 zq_in5w (Or.inl wd_211) (by decide) rfl dX5_init_100 rfl e_213 ?_
  replace hF := zq_is_e hF; obtain ⟨e_215, hF⟩ := hF
  refine zq_alen (pc' := 104) C dX5_init_103 rfl e_215 ?_
  refine zq_icmp_ge (pc' := 107) C 126 dX5_init_104 (by decide) rfl (fun c_216 => absurd c_216 (by decide)) (fun _ => ?_)
  refine zq_aload_n (pc' := 108) C dX5_init_107 rfl rfl rfl ?_
  replace hF := zq_is_e hF; obtain ⟨e_218, hF⟩ := hF
  refine zq_getR (j := 2) (pc' := 111) C zq_K5 zq_in5w (Or.inl wd_211) (by decide) rfl dX5_init_108 rfl e_218 ?_
  refine zq_iload_n (pc' := 112) C dX5_init_111 rfl rfl rfl ?_
  replace hF := zq_bd hF; obtain ⟨h_219, e_220, hF⟩ := hF
  refine zq_newo (n := t + 81) (pc' := 115) C zq_K3 zq_in3w wd_207 wd_208 wd_209 T rfl dX5_init_112 rfl e_220 ⟨Nat.le_of_ble_eq_true rfl, Nat.le_of_ble_eq_true rfl⟩ ?_
  refine zq_widen 81 25667 (Nat.le_of_ble_eq_true rfl) (Nat.le_of_ble_eq_true rfl) ?_
  refine zq_dup (pc' := 116) C dX5_init_115 rfl rfl ?_
  replace hF := zq_bd hF; obtain ⟨v_221, e_222, hF⟩ := hF
  refine zq_callIN (host := "FlipPolygons") (pc' := 119) C (c_X3_init e_222) (zq_goodC wd_154) rfl wd_209 (by decide +kernel) wd_229 rfl yi_X3_init dX5_init_116 rfl rfl ⟨Nat.le_of_ble_eq_true rfl, Nat.le_of_ble_eq_true rfl⟩ (Nat.le_of_ble_eq_true rfl) ⟨Nat.le_of_ble_eq_true rfl, Nat.le_of_ble_eq_true rfl⟩ ?_
  refine zq_widen 81 25667 (Nat.le_of_ble_eq_true rfl) (Nat.le_of_ble_eq_true rfl) ?_
  replace hF := zq_bd hF; obtain ⟨h_223, e_224, hF⟩ := hF
  refine zq_aastore (pc' := 120) C 13 3 (by decide) dX5_init_119 rfl e_224 ?_
  refine zq_iinc (lv' := [(2, .int 6), (1, .int 2), (0, .ref t)]) (v := 6) (pc' := 123) C dX5_init_120 rfl (by decide) 0 rfl (by decide) rfl ?_
  refine zq_goto C 98 dX5_init_123 (by decide) ?_
  refine zq_iload_n (pc' := 99) C dX5_init_98 rfl rfl rfl ?_
  refine zq_aload_n (pc' := 100) C dX5_init_99 rfl rfl rfl ?_
  replace hF := zq_is_e hF; obtain ⟨e_226, hF⟩ := hF
  refine zq_getR (j := 2) (pc' := 103) C zq_K5 zq_in5w (Or.inl wd_211) (by decide) rfl dX5_init_100 rfl e_226 ?_
  replace hF := zq_is_e hF; obtain ⟨e_228, hF⟩ := hF
  refine zq_alen (pc' := 104) C dX5_init_103 rfl e_228 ?_
  refine zq_icmp_ge (pc' := 107) C 126 dX5_init_104 (by decide) rfl (fun _ => ?_) (fun c_229 => absurd c_229 (by decide))
  refine zq_aload_n (pc' := 127) C dX5_init_126 rfl rfl rfl ?_
  refine zq_iconst (pc' := 128) C 2 dX5_init_127 rfl (by decide) ?_
  replace hF := zq_bd hF; obtain ⟨h_230, e_231, hF⟩ := hF
  refine zq_newQ (n := t + 82) (pc' := 131) C 13 "FlipPolygons$State" (by decide) wd_207 T rfl dX5_init_128 rfl e_231 (by decide) ⟨Nat.le_of_ble_eq_true rfl, Nat.le_of_ble_eq_true rfl⟩ ?_
  refine zq_widen 82 25669 (Nat.le_of_ble_eq_true rfl) (Nat.le_of_ble_eq_true rfl) ?_
  replace hF := zq_bd hF; obtain ⟨h_232, e_233, hF⟩ := hF
  refine zq_putR (j := 4) (pc' := 134) C zq_K5 zq_in5w (Or.inl wd_212) (by decide) rfl (Or.inr ⟨_, rfl⟩) dX5_init_131 rfl (Or.inr ⟨hn, rfl, rfl, wd_212⟩) e_233 ?_
  refine zq_iconst (pc' := 135) C 0 dX5_init_134 rfl (by decide) ?_
  refine zq_istore_n (lv' := [(2, .int 0), (1, .int 2), (0, .ref t)]) (pc' := 136) C dX5_init_135 rfl rfl (by decide) rfl rfl ?_
  refine zq_iload_n (pc' := 137) C dX5_init_136 rfl rfl rfl ?_
  refine zq_aload_n (pc' := 138) C dX5_init_137 rfl rfl rfl ?_
  replace hF := zq_is_e hF; obtain ⟨e_235, hF⟩ := hF
  refine zq_getR (j := 4) (pc' := 141) C zq_K5 zq_in5w (Or.inl wd_212) (by decide) rfl dX5_init_138 rfl e_235 ?_
  replace hF := zq_is_e hF; obtain ⟨e_237, hF⟩ := hF
  refine zq_alen (pc' := 142) C dX5_init_141 rfl e_237 ?_
  refine zq_icmp_ge (pc' := 145) C 164 dX5_init_142 (by decide) rfl (fun c_238 => absurd c_238 (by decide)) (fun _ => ?_)
  refine zq_aload_n (pc' := 146) C dX5_init_145 rfl rfl rfl ?_
  replace hF := zq_is_e hF; obtain ⟨e_240, hF⟩ := hF
  refine zq_getR (j := 4) (pc' := 149) C zq_K5 zq_in5w (Or.inl wd_212) (by decide) rfl dX5_init_146 rfl e_240 ?_
  refine zq_iload_n (pc' := 150) C dX5_init_149 rfl rfl rfl ?_
  replace hF := zq_bd hF; obtain ⟨h_241, e_242, hF⟩ := hF
  refine zq_newo (n := t + 83) (pc' := 153) C zq_K3 zq_in3w wd_207 wd_208 wd_209 T rfl dX5_init_150 rfl e_242 ⟨Nat.le_of_ble_eq_true rfl, Nat.le_of_ble_eq_true rfl⟩ ?_
  refine zq_widen 83 25674 (Nat.le_of_ble_eq_true rfl) (Nat.le_of_ble_eq_true rfl) ?_
  refine zq_dup (pc' := 154) C dX5_init_153 rfl rfl ?_
  replace hF := zq_bd hF; obtain ⟨v_243, e_244, hF⟩ := hF
  refine zq_callIN (host := "FlipPolygons") (pc' := 157) C (c_X3_init e_244) (zq_goodC wd_154) rfl wd_209 (by decide +kernel) wd_229 rfl yi_X3_init dX5_init_154 rfl rfl ⟨Nat.le_of_ble_eq_true rfl, Nat.le_of_ble_eq_true rfl⟩ (Nat.le_of_ble_eq_true rfl) ⟨Nat.le_of_ble_eq_true rfl, Nat.le_of_ble_eq_true rfl⟩ ?_
  refine zq_widen 83 25674 (Nat.le_of_ble_eq_true rfl) (Nat.le_of_ble_eq_true rfl) ?_
  replace hF := zq_bd hF; obtain ⟨h_245, e_246, hF⟩ := hF
  refine zq_aastore (pc' := 158) C 13 3 (by decide) dX5_init_157 rfl e_246 ?_
  refine zq_iinc (lv' := [(2, .int 1), (1, .int 2), (0, .ref t)]) (v := 1) (pc' := 161) C dX5_init_158 rfl (by decide) 0 rfl (by decide) rfl ?_
  refine zq_goto C 136 dX5_init_161 (by decide) ?_
  refine zq_iload_n (pc' := 137) C dX5_init_136 rfl rfl rfl ?_
  refine zq_aload_n (pc' := 138) C dX5_init_137 rfl rfl rfl ?_
  replace hF := zq_is_e hF; obtain ⟨e_248, hF⟩ := hF
  refine zq_getR (j := 4) (pc' := 141) C zq_K5 zq_in5w (Or.inl wd_212) (by decide) rfl dX5_init_138 rfl e_248 ?_
  replace hF := zq_is_e hF; obtain ⟨e_250, hF⟩ := hF
  refine zq_alen (pc' := 142) C dX5_init_141 rfl e_250 ?_
  refine zq_icmp_ge (pc' := 145) C 164 dX5_init_142 (by decide) rfl (fun c_251 => absurd c_251 (by decide)) (fun _ => ?_)
  refine zq_aload_n (pc' := 146) C dX5_init_145 rfl rfl rfl ?_
  replace hF := zq_is_e hF; obtain ⟨e_253, hF⟩ := hF
  refine zq_getR (j := 4) (pc' := 149) C zq_K5 zq_in5w (Or.inl wd_212) (by decide) rfl dX5_init_146 rfl e_253 ?_
  refine zq_iload_n (pc' := 150) C dX5_init_149 rfl rfl rfl ?_
  replace hF := zq_bd hF; obtain ⟨h_254, e_255, hF⟩ := hF
  refine zq_newo (n := t + 84) (pc' := 153) C zq_K3 zq_in3w wd_207 wd_208 wd_209 T rfl dX5_init_150 rfl e_255 ⟨Nat.le_of_ble_eq_true rfl, Nat.le_of_ble_eq_true rfl⟩ ?_
  refine zq_widen 84 25679 (Nat.le_of_ble_eq_true rfl) (Nat.le_of_ble_eq_true rfl) ?_
  refine zq_dup (pc' := 154) C dX5_init_153 rfl rfl ?_
  replace hF := zq_bd hF; obtain ⟨v_256, e_257, hF⟩ := hF
  refine zq_callIN (host := "FlipPolygons") (pc' := 157) C (c_X3_init e_257) (zq_goodC wd_154) rfl wd_209 (by decide +kernel) wd_229 rfl yi_X3_init dX5_init_154 rfl rfl ⟨Nat.le_of_ble_eq_true rfl, Nat.le_of_ble_eq_true rfl⟩ (Nat.le_of_ble_eq_true rfl) ⟨Nat.le_of_ble_eq_true rfl, Nat.le_of_ble_eq_true rfl⟩ ?_
  refine zq_widen 84 25679 (Nat.le_of_ble_eq_true rfl) (Nat.le_of_ble_eq_true rfl) ?_
  replace hF := zq_bd hF; obtain ⟨h_258, e_259, hF⟩ := hF
  refine zq_aastore (pc' := 158) C 13 3 (by decide) dX5_init_157 rfl e_259 ?_
  refine zq_iinc (lv' := [(2, .int 2), (1, .int 2), (0, .ref t)]) (v := 2) (pc' := 161) C dX5_init_158 rfl (by decide) 0 rfl (by decide) rfl ?_
  refine zq_goto C 136 dX5_init_161 (by decide) ?_
  refine zq_iload_n (pc' := 137) C dX5_init_136 rfl rfl rfl ?_
  refine zq_aload_n (pc' := 138) C dX5_init_137 rfl rfl rfl ?_
  replace hF := zq_is_e hF; obtain ⟨e_261, hF⟩ := hF
  refine zq_getR (j := 4) (pc' := 141) C zq_K5 zq_in5w (Or.inl wd_212) (by decide) rfl dX5_init_138 rfl e_261 ?_
  replace hF := zq_is_e hF; obtain ⟨e_263, hF⟩ := hF
  refine zq_alen (pc' := 142) C dX5_init_141 rfl e_263 ?_
  refine zq_icmp_ge (pc' := 145) C 164 dX5_init_142 (by decide) rfl (fun _ => ?_) (fun c_264 => absurd c_264 (by decide))
  refine zq_aload_n (pc' := 165) C dX5_init_164 rfl rfl rfl ?_
  replace hF := zq_bd hF; obtain ⟨h_265, e_266, hF⟩ := hF
  refine zq_newo (n := t + 85) (pc' := 168) C zq_K4 zq_in4w wd_213 wd_214 wd_180 T rfl dX5_init_165 rfl e_266 ⟨Nat.le_of_ble_eq_true rfl, Nat.le_of_ble_eq_true rfl⟩ ?_
  refine zq_widen 85 25681 (Nat.le_of_ble_eq_true rfl) (Nat.le_of_ble_eq_true rfl) ?_
  refine zq_dup (pc' := 169) C dX5_init_168 rfl rfl ?_
  replace hF := zq_at_e hF; obtain ⟨e_269, hF⟩ := hF
  replace hF := zq_bd hF; obtain ⟨v_267, e_268, hF⟩ := hF
  refine zq_callI (pc' := 172) C (c_X4_init e_268) (fun n hn => by cases hn; exact ⟨_, T, rfl, e_269⟩) (zq_goodC wd_166) rfl wd_180 wd_233 wd_234 rfl yi_X4_init dX5_init_169 rfl rfl ⟨Nat.le_of_ble_eq_true rfl, Nat.le_of_ble_eq_true rfl⟩ (Nat.le_of_ble_eq_true rfl) ⟨Nat.le_of_ble_eq_true rfl, Nat.le_of_ble_eq_true rfl⟩ ?_
  refine zq_widen 86 25741 (Nat.le_of_ble_eq_true rfl) (Nat.le_of_ble_eq_true rfl) ?_
  replace hF := zq_bd hF; obtain ⟨h_270, e_271, hF⟩ := hF
  refine zq_putR (j := 5) (pc' := 175) C zq_K5 zq_in5w (Or.inl wd_215) (by decide) rfl (Or.inl ⟨_, rfl⟩) dX5_init_172 rfl (Or.inr ⟨hn, rfl, rfl, wd_215⟩) e_271 ?_
  refine zq_aload_n (pc' := 176) C dX5_init_175 rfl rfl rfl ?_
  replace hF := zq_bd hF; obtain ⟨h_272, e_273, hF⟩ := hF
  refine zq_newo (n := t + 87) (pc' := 179) C zq_K2 zq_in2w wd_216 wd_217 wd_144 T rfl dX5_init_176 rfl e_273 ⟨Nat.le_of_ble_eq_true rfl, Nat.le_of_ble_eq_true rfl⟩ ?_
  refine zq_widen 87 25747 (Nat.le_of_ble_eq_true rfl) (Nat.le_of_ble_eq_true rfl) ?_
  refine zq_dup (pc' := 180) C dX5_init_179 rfl rfl ?_
  refine zq_aload_n (pc' := 181) C dX5_init_180 rfl rfl rfl ?_
  replace hF := zq_is_e hF; obtain ⟨e_275, hF⟩ := hF
  refine zq_getR (j := 0) (pc' := 184) C zq_K5 zq_in5w (Or.inl wd_203) (by decide) rfl dX5_init_181 rfl e_275 ?_
  refine zq_iconst (pc' := 185) C 0 dX5_init_184 rfl (by decide) ?_
  replace hF := zq_bd hF; obtain ⟨v_276, e_277, hF⟩ := hF
  refine zq_aaload (pc' := 186) C 12 (by decide) dX5_init_185 rfl e_277 ?_
  replace hF := zq_at_e hF; obtain ⟨e_280, hF⟩ := hF
  replace hF := zq_bd hF; obtain ⟨v_278, e_279, hF⟩ := hF
  refine zq_callI (pc' := 189) C (c_X2_init e_279) (fun n hn => by cases hn; exact ⟨_, T, rfl, e_280⟩) (zq_goodC wd_122) rfl wd_144 wd_235 wd_236 rfl yi_X2_init dX5_init_186 rfl rfl ⟨Nat.le_of_ble_eq_true rfl, Nat.le_of_ble_eq_true rfl⟩ (Nat.le_of_ble_eq_true rfl) ⟨Nat.le_of_ble_eq_true rfl, Nat.le_of_ble_eq_true rfl⟩ ?_
  refine zq_widen 90 27034 (Nat.le_of_ble_eq_true rfl) (Nat.le_of_ble_eq_true rfl) ?_
  replace hF := zq_bd hF; obtain ⟨h_281, e_282, hF⟩ := hF
  refine zq_putR (j := 6) (pc' := 192) C zq_K5 zq_in5w (Or.inl wd_218) (by decide) rfl (Or.inl ⟨_, rfl⟩) dX5_init_189 rfl (Or.inr ⟨hn, rfl, rfl, wd_218⟩) e_282 ?_
  refine zq_aload_n (pc' := 193) C dX5_init_192 rfl rfl rfl ?_
  replace hF := zq_bd hF; obtain ⟨h_283, e_284, hF⟩ := hF
  refine zq_newo (n := t + 91) (pc' := 196) C zq_K2 zq_in2w wd_216 wd_217 wd_144 T rfl dX5_init_193 rfl e_284 ⟨Nat.le_of_ble_eq_true rfl, Nat.le_of_ble_eq_true rfl⟩ ?_
  refine zq_widen 91 27040 (Nat.le_of_ble_eq_true rfl) (Nat.le_of_ble_eq_true rfl) ?_
  refine zq_dup (pc' := 197) C dX5_init_196 rfl rfl ?_
  refine zq_aload_n (pc' := 198) C dX5_init_197 rfl rfl rfl ?_
  replace hF := zq_is_e hF; obtain ⟨e_286, hF⟩ := hF
  refine zq_getR (j := 0) (pc' := 201) C zq_K5 zq_in5w (Or.inl wd_203) (by decide) rfl dX5_init_198 rfl e_286 ?_
  refine zq_iconst (pc' := 202) C 0 dX5_init_201 rfl (by decide) ?_
  replace hF := zq_bd hF; obtain ⟨v_287, e_288, hF⟩ := hF
  refine zq_aaload (pc' := 203) C 12 (by decide) dX5_init_202 rfl e_288 ?_
  replace hF := zq_at_e hF; obtain ⟨e_291, hF⟩ := hF
  replace hF := zq_bd hF; obtain ⟨v_289, e_290, hF⟩ := hF
  refine zq_callI (pc' := 206) C (c_X2_init e_290) (fun n hn => by cases hn; exact ⟨_, T, rfl, e_291⟩) (zq_goodC wd_122) rfl wd_144 wd_235 wd_236 rfl yi_X2_init dX5_init_203 rfl rfl ⟨Nat.le_of_ble_eq_true rfl, Nat.le_of_ble_eq_true rfl⟩ (Nat.le_of_ble_eq_true rfl) ⟨Nat.le_of_ble_eq_true rfl, Nat.le_of_ble_eq_true rfl⟩ ?_
  refine zq_widen 94 28327 (Nat.le_of_ble_eq_true rfl) (Nat.le_of_ble_eq_true rfl) ?_
  replace hF := zq_bd hF; obtain ⟨h_292, e_293, hF⟩ := hF
  refine zq_putR (j := 7) (pc' := 209) C zq_K5 zq_in5w (Or.inl wd_219) (by decide) rfl (Or.inl ⟨_, rfl⟩) dX5_init_206 rfl (Or.inr ⟨hn, rfl, rfl, wd_219⟩) e_293 ?_
  refine zq_aload_n (pc' := 210) C dX5_init_209 rfl rfl rfl ?_
  replace hF := zq_bd hF; obtain ⟨h_294, e_295, hF⟩ := hF
  refine zq_newo (n := t + 95) (pc' := 213) C zq_K2 zq_in2w wd_216 wd_217 wd_144 T rfl dX5_init_210 rfl e_295 ⟨Nat.le_of_ble_eq_true rfl, Nat.le_of_ble_eq_true rfl⟩ ?_
  refine zq_widen 95 28333 (Nat.le_of_ble_eq_true rfl) (Nat.le_of_ble_eq_true rfl) ?_
  refine zq_dup (pc' := 214) C dX5_init_213 rfl rfl ?_
  refine zq_aload_n (pc' := 215) C dX5_init_214 rfl rfl rfl ?_
  replace hF := zq_is_e hF; obtain ⟨e_297, hF⟩ := hF
  refine zq_getR (j := 0) (pc' := 218) C zq_K5 zq_in5w (Or.inl wd_203) (by decide) rfl dX5_init_215 rfl e_297 ?_
  refine zq_iconst (pc' := 219) C 0 dX5_init_218 rfl (by decide) ?_
  replace hF := zq_bd hF; obtain ⟨v_298, e_299, hF⟩ := hF
  refine zq_aaload (pc' := 220) C 12 (by decide) dX5_init_219 rfl e_299 ?_
  replace hF := zq_at_e hF; obtain ⟨e_302, hF⟩ := hF
  replace hF := zq_bd hF; obtain ⟨v_300, e_301, hF⟩ := hF
  refine zq_callI (pc' := 223) C (c_X2_init e_301) (fun n hn => by cases hn; exact ⟨_, T, rfl, e_302⟩) (zq_goodC wd_122) rfl wd_144 wd_235 wd_236 rfl yi_X2_init dX5_init_220 rfl rfl ⟨Nat.le_of_ble_eq_true rfl, Nat.le_of_ble_eq_true rfl⟩ (Nat.le_of_ble_eq_true rfl) ⟨Nat.le_of_ble_eq_true rfl, Nat.le_of_ble_eq_true rfl⟩ ?_
  refine zq_widen 98 29620 (Nat.le_of_ble_eq_true rfl) (Nat.le_of_ble_eq_true rfl) ?_
  replace hF := zq_bd hF; obtain ⟨h_303, e_304, hF⟩ := hF
  refine zq_putR (j := 8) (pc' := 226) C zq_K5 zq_in5w (Or.inl wd_220) (by decide) rfl (Or.inl ⟨_, rfl⟩) dX5_init_223 rfl (Or.inr ⟨hn, rfl, rfl, wd_220⟩) e_304 ?_
  refine zq_aload_n (pc' := 227) C dX5_init_226 rfl rfl rfl ?_
  replace hF := zq_bd hF; obtain ⟨h_305, e_306, hF⟩ := hF
  refine zq_newo (n := t + 99) (pc' := 230) C zq_K2 zq_in2w wd_216 wd_217 wd_144 T rfl dX5_init_227 rfl e_306 ⟨Nat.le_of_ble_eq_true rfl, Nat.le_of_ble_eq_true rfl⟩ ?_
  refine zq_widen 99 29626 (Nat.le_of_ble_eq_true rfl) (Nat.le_of_ble_eq_true rfl) ?_
  refine zq_dup (pc' := 231) C dX5_init_230 rfl rfl ?_
  refine zq_aload_n (pc' := 232) C dX5_init_231 rfl rfl rfl ?_
  replace hF := zq_is_e hF; obtain ⟨e_308, hF⟩ := hF
  refine zq_getR (j := 0) (pc' := 235) C zq_K5 zq_in5w (Or.inl wd_203) (by decide) rfl dX5_init_232 rfl e_308 ?_
  refine zq_iconst (pc' := 236) C 0 dX5_init_235 rfl (by decide) ?_
  replace hF := zq_bd hF; obtain ⟨v_309, e_310, hF⟩ := hF
  refine zq_aaload (pc' := 237) C 12 (by decide) dX5_init_236 rfl e_310 ?_
  replace hF := zq_at_e hF; obtain ⟨e_313, hF⟩ := hF
  replace hF := zq_bd hF; obtain ⟨v_311, e_312, hF⟩ := hF
  refine zq_callI (pc' := 240) C (c_X2_init e_312) (fun n hn => by cases hn; exact ⟨_, T, rfl, e_313⟩) (zq_goodC wd_122) rfl wd_144 wd_235 wd_236 rfl yi_X2_init dX5_init_237 rfl rfl ⟨Nat.le_of_ble_eq_true rfl, Nat.le_of_ble_eq_true rfl⟩ (Nat.le_of_ble_eq_true rfl) ⟨Nat.le_of_ble_eq_true rfl, Nat.le_of_ble_eq_true rfl⟩ ?_
  refine zq_widen 102 30913 (Nat.le_of_ble_eq_true rfl) (Nat.le_of_ble_eq_true rfl) ?_
  replace hF := zq_bd hF; obtain ⟨h_314, e_315, hF⟩ := hF
  refine zq_putR (j := 9) (pc' := 243) C zq_K5 zq_in5w (Or.inl wd_221) (by decide) rfl (Or.inl ⟨_, rfl⟩) dX5_init_240 rfl (Or.inr ⟨hn, rfl, rfl, wd_221⟩) e_315 ?_
  refine zq_aload_n (pc' := 244) C dX5_init_243 rfl rfl rfl ?_
  refine zq_bipush (pc' := 246) C 7 dX5_init_244 rfl (by decide) ?_
  replace hF := zq_bd hF; obtain ⟨h_316, e_317, hF⟩ := hF
  refine zq_newI (n := t + 103) (pc' := 248) C wd_10 T rfl dX5_init_246 rfl e_317 (by decide) ⟨Nat.le_of_ble_eq_true rfl, Nat.le_of_ble_eq_true rfl⟩ ?_
  refine zq_widen 103 30920 (Nat.le_of_ble_eq_true rfl) (Nat.le_of_ble_eq_true rfl) ?_
  replace hF := zq_bd hF; obtain ⟨h_318, e_319, hF⟩ := hF
  refine zq_putR (j := 10) (pc' := 251) C zq_K5 zq_in5w (Or.inl wd_222) (by decide) rfl (Or.inr ⟨_, rfl⟩) dX5_init_248 rfl (Or.inr ⟨hn, rfl, rfl, wd_222⟩) e_319 ?_
  have hF := Option.some.inj hF
  subst hF
  exact hE _ _ _ _ (Nat.le_of_ble_eq_true rfl) (Nat.le_of_ble_eq_true rfl) dX5_init_251
theorem c_X5_init {h : zq_H} {t : Nat} {out : zq_H} (hF : f_X5_init h t = some out) : zq_M (some (t + 1)) yX5_init (Cond.code yX5_init cX5_init 3 none :: zq_all) rm_X5_init [.ref t] h none out := zq_met2 (own := RX5) (by decide +kernel) rfl (Nat.le_of_ble_eq_true rfl) rfl rfl (fun X C T hn hE => v_X5_init C T hn hF hE)
theorem yi_X5_init : zq_Y yX5_init 0 := by decide +kernel
def f_X5_saveState (h : zq_H) (t : Nat) : Option zq_H := (Option.bind (zq_gi h t 5 3) fun v_1 => (Option.bind (zq_gr h t 5 2) fun v_3 => (Option.bind (zq_an h v_3) fun v_5 => (if v_1 < v_5 then (Option.bind (zq_gr h t 5 2) fun v_8 => (Option.bind (zq_gi h t 5 3) fun v_10 => (Option.bind (zq_aq h v_8 13 v_10) fun v_12 => (Option.bind (zq_gr h t 5 1) fun v_14 => (zq_ck h v_12 3 fun _ => (Option.bind (f_X3_copy h v_12 v_14) fun v_16 => (Option.bind (zq_gi v_16 t 5 3) fun v_19 => (Option.bind (zq_pi v_16 t 5 3 (v_19 + 1)) fun h_21 => some (h_21))))))))) else ((zq_lp (σ := Int32 × zq_H) (ρ := zq_H) (fun s_23 => (Option.bind (zq_gr s_23.2 t 5 2) fun v_31 => (Option.bind (zq_an s_23.2 v_31) fun v_33 => (if v_33 ≤ s_23.1 then some (.inr s_23.2) else (Option.bind (zq_gr s_23.2 t 5 2) fun v_36 => (Option.bind (zq_aq s_23.2 v_36 13 (s_23.1 - 1)) fun v_38 => (Option.bind (zq_gr s_23.2 t 5 2) fun v_40 => (Option.bind (zq_aq s_23.2 v_40 13 s_23.1) fun v_42 => (zq_ck s_23.2 v_38 3 fun _ => (Option.bind (f_X3_copy s_23.2 v_38 v_42) fun v_44 => (zq_let (s_23.1 + 1) fun v_47 => some (.inl (v_47, v_44))))))))))))) zq_N (1, h)).bind (fun y_26 : zq_H => (Option.bind (zq_gr y_26 t 5 2) fun v_49 => (Option.bind (zq_an y_26 v_49) fun v_51 => (Option.bind (zq_pi y_26 t 5 3 (v_51 - 1)) fun h_53 => (Option.bind (zq_gr h_53 t 5 2) fun v_55 => (Option.bind (zq_gi h_53 t 5 3) fun v_57 => (Option.bind (zq_aq h_53 v_55 13 v_57) fun v_59 => (Option.bind (zq_gr h_53 t 5 1) fun v_61 => (zq_ck h_53 v_59 3 fun _ => (Option.bind (f_X3_copy h_53 v_59 v_61) fun v_63 => (Option.bind (zq_gi v_63 t 5 3) fun v_66 => (Option.bind (zq_pi v_63 t 5 3 (v_66 + 1)) fun h_68 => some (h_68))))))))))))))))))
abbrev rm_X5_saveState : Room := { frames := 1, cells := 0, slots := 0, locals := 21 }
theorem dX5_saveState_0 : decode cX5_saveState 0 = .ok (.aload_n 0, 1) := by decide +kernel
theorem dX5_saveState_1 : decode cX5_saveState 1 = .ok (.getfield 224, 3) := by decide +kernel
theorem dX5_saveState_4 : decode cX5_saveState 4 = .ok (.aload_n 0, 1) := by decide +kernel
theorem dX5_saveState_5 : decode cX5_saveState 5 = .ok (.getfield 38, 3) := by decide +kernel
theorem dX5_saveState_8 : decode cX5_saveState 8 = .ok (.arraylength, 1) := by decide +kernel
theorem dX5_saveState_9 : decode cX5_saveState 9 = .ok (.if_icmp .lt 48, 3) := by decide +kernel
theorem dX5_saveState_12 : decode cX5_saveState 12 = .ok (.iconst 1, 1) := by decide +kernel
theorem dX5_saveState_13 : decode cX5_saveState 13 = .ok (.istore_n 1, 1) := by decide +kernel
theorem dX5_saveState_14 : decode cX5_saveState 14 = .ok (.iload_n 1, 1) := by decide +kernel
theorem dX5_saveState_15 : decode cX5_saveState 15 = .ok (.aload_n 0, 1) := by decide +kernel
theorem dX5_saveState_16 : decode cX5_saveState 16 = .ok (.getfield 38, 3) := by decide +kernel
theorem dX5_saveState_19 : decode cX5_saveState 19 = .ok (.arraylength, 1) := by decide +kernel
theorem dX5_saveState_20 : decode cX5_saveState 20 = .ok (.if_icmp .ge 26, 3) := by decide +kernel
theorem dX5_saveState_23 : decode cX5_saveState 23 = .ok (.aload_n 0, 1) := by decide +kernel
theorem dX5_saveState_24 : decode cX5_saveState 24 = .ok (.getfield 38, 3) := by decide +kernel
theorem dX5_saveState_27 : decode cX5_saveState 27 = .ok (.iload_n 1, 1) := by decide +kernel
theorem dX5_saveState_28 : decode cX5_saveState 28 = .ok (.iconst 1, 1) := by decide +kernel
theorem dX5_saveState_29 : decode cX5_saveState 29 = .ok (.isub, 1) := by decide +kernel
theorem dX5_saveState_30 : decode cX5_saveState 30 = .ok (.aaload, 1) := by decide +kernel
theorem dX5_saveState_31 : decode cX5_saveState 31 = .ok (.aload_n 0, 1) := by decide +kernel
theorem dX5_saveState_32 : decode cX5_saveState 32 = .ok (.getfield 38, 3) := by decide +kernel
theorem dX5_saveState_35 : decode cX5_saveState 35 = .ok (.iload_n 1, 1) := by decide +kernel
theorem dX5_saveState_36 : decode cX5_saveState 36 = .ok (.aaload, 1) := by decide +kernel
theorem dX5_saveState_37 : decode cX5_saveState 37 = .ok (.invokevirtual 215, 3) := by decide +kernel
theorem dX5_saveState_40 : decode cX5_saveState 40 = .ok (.iinc 1 1, 3) := by decide +kernel
theorem dX5_saveState_43 : decode cX5_saveState 43 = .ok (.goto (-29), 3) := by decide +kernel
theorem dX5_saveState_46 : decode cX5_saveState 46 = .ok (.aload_n 0, 1) := by decide +kernel
theorem dX5_saveState_47 : decode cX5_saveState 47 = .ok (.aload_n 0, 1) := by decide +kernel
theorem dX5_saveState_48 : decode cX5_saveState 48 = .ok (.getfield 38, 3) := by decide +kernel
theorem dX5_saveState_51 : decode cX5_saveState 51 = .ok (.arraylength, 1) := by decide +kernel
theorem dX5_saveState_52 : decode cX5_saveState 52 = .ok (.iconst 1, 1) := by decide +kernel
theorem dX5_saveState_53 : decode cX5_saveState 53 = .ok (.isub, 1) := by decide +kernel
theorem dX5_saveState_54 : decode cX5_saveState 54 = .ok (.putfield 224, 3) := by decide +kernel
theorem dX5_saveState_57 : decode cX5_saveState 57 = .ok (.aload_n 0, 1) := by decide +kernel
theorem dX5_saveState_58 : decode cX5_saveState 58 = .ok (.getfield 38, 3) := by decide +kernel
theorem dX5_saveState_61 : decode cX5_saveState 61 = .ok (.aload_n 0, 1) := by decide +kernel
theorem dX5_saveState_62 : decode cX5_saveState 62 = .ok (.getfield 224, 3) := by decide +kernel
theorem dX5_saveState_65 : decode cX5_saveState 65 = .ok (.aaload, 1) := by decide +kernel
theorem dX5_saveState_66 : decode cX5_saveState 66 = .ok (.aload_n 0, 1) := by decide +kernel
theorem dX5_saveState_67 : decode cX5_saveState 67 = .ok (.getfield 30, 3) := by decide +kernel
theorem dX5_saveState_70 : decode cX5_saveState 70 = .ok (.invokevirtual 215, 3) := by decide +kernel
theorem dX5_saveState_73 : decode cX5_saveState 73 = .ok (.aload_n 0, 1) := by decide +kernel
theorem dX5_saveState_74 : decode cX5_saveState 74 = .ok (.dup, 1) := by decide +kernel
theorem dX5_saveState_75 : decode cX5_saveState 75 = .ok (.getfield 224, 3) := by decide +kernel
theorem dX5_saveState_78 : decode cX5_saveState 78 = .ok (.iconst 1, 1) := by decide +kernel
theorem dX5_saveState_79 : decode cX5_saveState 79 = .ok (.iadd, 1) := by decide +kernel
theorem dX5_saveState_80 : decode cX5_saveState 80 = .ok (.putfield 224, 3) := by decide +kernel
theorem dX5_saveState_83 : decode cX5_saveState 83 = .ok (.return_, 1) := by decide +kernel
set_option maxRecDepth 100000 in
set_option maxHeartbeats 4000000 in
theorem v_X5_saveState {X : zq_X} (C : zq_C X RX5 cX5_saveState 2 zq_all rm_X5_saveState) {h : zq_H} {t : Nat} (T : zq_T X none) (hn : X.2.2.2.2.2.2.2.2.1.name = yX5_saveState.name) {out : zq_H} (hF : f_X5_saveState h t = some out) (hE : zq_End X cX5_saveState 0 0 none out) : zq_W X 0 0 h 0 [(0, .ref t)] [] := by
  unfold f_X5_saveState at hF
  refine zq_aload_n (pc' := 1) C dX5_saveState_0 rfl rfl rfl ?_
  replace hF := zq_bd hF; obtain ⟨v_1, e_2, hF⟩ := hF
  refine zq_getI (j := 3) (pc' := 4) C zq_K5 zq_in5w (Or.inl wd_239) (by decide) rfl dX5_saveState_1 rfl e_2 ?_
  refine zq_aload_n (pc' := 5) C dX5_saveState_4 rfl rfl rfl ?_
  replace hF := zq_bd hF; obtain ⟨v_3, e_4, hF⟩ := hF
  refine zq_getR (j := 2) (pc' := 8) C zq_K5 zq_in5w (Or.inl wd_211) (by decide) rfl dX5_saveState_5 rfl e_4 ?_
  replace hF := zq_bd hF; obtain ⟨v_5, e_6, hF⟩ := hF
  refine zq_alen (pc' := 9) C dX5_saveState_8 rfl e_6 ?_
  refine zq_icmp_lt (pc' := 12) C 57 dX5_saveState_9 (by decide) rfl (fun c_7 => ?_) (fun c_7 => ?_)
  · have hF := (zq_ifp hF c_7)
    skip
    refine zq_aload_n (pc' := 58) C dX5_saveState_57 rfl rfl rfl ?_
    replace hF := zq_bd hF; obtain ⟨v_8, e_9, hF⟩ := hF
    refine zq_getR (j := 2) (pc' := 61) C zq_K5 zq_in5w (Or.inl wd_211) (by decide) rfl dX5_saveState_58 rfl e_9 ?_
    refine zq_aload_n (pc' := 62) C dX5_saveState_61 rfl rfl rfl ?_
    replace hF := zq_bd hF; obtain ⟨v_10, e_11, hF⟩ := hF
    refine zq_getI (j := 3) (pc' := 65) C zq_K5 zq_in5w (Or.inl wd_239) (by decide) rfl dX5_saveState_62 rfl e_11 ?_
    replace hF := zq_bd hF; obtain ⟨v_12, e_13, hF⟩ := hF
    refine zq_aaload (pc' := 66) C 13 (by decide) dX5_saveState_65 rfl e_13 ?_
    refine zq_aload_n (pc' := 67) C dX5_saveState_66 rfl rfl rfl ?_
    replace hF := zq_bd hF; obtain ⟨v_14, e_15, hF⟩ := hF
    refine zq_getR (j := 1) (pc' := 70) C zq_K5 zq_in5w (Or.inl wd_210) (by decide) rfl dX5_saveState_67 rfl e_15 ?_
    replace hF := zq_ck_e hF; obtain ⟨e_18, hF⟩ := hF
    replace hF := zq_bd hF; obtain ⟨v_16, e_17, hF⟩ := hF
    refine zq_cV (pc' := 73) C (c_X3_copy e_17) yv_X3_copy wd_240 zq_K3 e_18 dX5_saveState_70 rfl rfl rfl ⟨Nat.le_of_ble_eq_true rfl, Nat.le_of_ble_eq_true rfl⟩ (Nat.le_of_ble_eq_true rfl) ⟨rfl, rfl⟩ ⟨Nat.le_of_ble_eq_true rfl, Nat.le_of_ble_eq_true rfl⟩ rfl ?_
    refine zq_aload_n (pc' := 74) C dX5_saveState_73 rfl rfl rfl ?_
    refine zq_dup (pc' := 75) C dX5_saveState_74 rfl rfl ?_
    replace hF := zq_bd hF; obtain ⟨v_19, e_20, hF⟩ := hF
    refine zq_getI (j := 3) (pc' := 78) C zq_K5 zq_in5w (Or.inl wd_239) (by decide) rfl dX5_saveState_75 rfl e_20 ?_
    refine zq_iconst (pc' := 79) C 1 dX5_saveState_78 rfl (by decide) ?_
    refine zq_iadd (pc' := 80) C dX5_saveState_79 rfl ?_
    replace hF := zq_bd hF; obtain ⟨h_21, e_22, hF⟩ := hF
    refine zq_putI (j := 3) (pc' := 83) C zq_K5 zq_in5w (Or.inl wd_239) (by decide) rfl rfl dX5_saveState_80 rfl (Or.inl rfl) e_22 ?_
    have hF := Option.some.inj hF
    subst hF
    exact hE _ _ _ _ (Nat.le_of_ble_eq_true rfl) (Nat.le_of_ble_eq_true rfl) dX5_saveState_83
  · have hF := (zq_ifn hF c_7)
    refine zq_iconst (pc' := 13) C 1 dX5_saveState_12 rfl (by decide) ?_
    refine zq_istore_n (lv' := [(1, .int 1), (0, .ref t)]) (pc' := 14) C dX5_saveState_13 rfl rfl (by decide) rfl rfl ?_
    refine zq_sub [1, 0] rfl ?_
    replace hF := zq_bd hF; obtain ⟨r_24, e_25, hF⟩ := hF
    refine zq_lpW (fun s_23 => zq_W X 0 0 s_23.2 14 [(0, .ref t), (1, .int s_23.1)] []) (fun y_26 => zq_W X 0 0 y_26 46 [(0, .ref t)] []) e_25 (fun s_23 q_30 hF hrec_28 hex_29 => ?_) ?_
    · skip
      refine zq_iload_n (pc' := 15) C dX5_saveState_14 rfl rfl rfl ?_
      refine zq_aload_n (pc' := 16) C dX5_saveState_15 rfl rfl rfl ?_
      replace hF := zq_bd hF; obtain ⟨v_31, e_32, hF⟩ := hF
      refine zq_getR (j := 2) (pc' := 19) C zq_K5 zq_in5w (Or.inl wd_211) (by decide) rfl dX5_saveState_16 rfl e_32 ?_
      replace hF := zq_bd hF; obtain ⟨v_33, e_34, hF⟩ := hF
      refine zq_alen (pc' := 20) C dX5_saveState_19 rfl e_34 ?_
      refine zq_icmp_ge (pc' := 23) C 46 dX5_saveState_20 (by decide) rfl (fun c_35 => ?_) (fun c_35 => ?_)
      · have hF := (zq_ifp hF c_35)
        skip
        cases hF
        exact zq_sub [0] rfl (hex_29 _ rfl)
      · have hF := (zq_ifn hF c_35)
        refine zq_aload_n (pc' := 24) C dX5_saveState_23 rfl rfl rfl ?_
        replace hF := zq_bd hF; obtain ⟨v_36, e_37, hF⟩ := hF
        refine zq_getR (j := 2) (pc' := 27) C zq_K5 zq_in5w (Or.inl wd_211) (by decide) rfl dX5_saveState_24 rfl e_37 ?_
        refine zq_iload_n (pc' := 28) C dX5_saveState_27 rfl rfl rfl ?_
        refine zq_iconst (pc' := 29) C 1 dX5_saveState_28 rfl (by decide) ?_
        refine zq_isub (pc' := 30) C dX5_saveState_29 rfl ?_
        replace hF := zq_bd hF; obtain ⟨v_38, e_39, hF⟩ := hF
        refine zq_aaload (pc' := 31) C 13 (by decide) dX5_saveState_30 rfl e_39 ?_
        refine zq_aload_n (pc' := 32) C dX5_saveState_31 rfl rfl rfl ?_
        replace hF := zq_bd hF; obtain ⟨v_40, e_41, hF⟩ := hF
        refine zq_getR (j := 2) (pc' := 35) C zq_K5 zq_in5w (Or.inl wd_211) (by decide) rfl dX5_saveState_32 rfl e_41 ?_
        refine zq_iload_n (pc' := 36) C dX5_saveState_35 rfl rfl rfl ?_
        replace hF := zq_bd hF; obtain ⟨v_42, e_43, hF⟩ := hF
        refine zq_aaload (pc' := 37) C 13 (by decide) dX5_saveState_36 rfl e_43 ?_
        replace hF := zq_ck_e hF; obtain ⟨e_46, hF⟩ := hF
        replace hF := zq_bd hF; obtain ⟨v_44, e_45, hF⟩ := hF
        refine zq_cV (pc' := 40) C (c_X3_copy e_45) yv_X3_copy wd_240 zq_K3 e_46 dX5_saveState_37 rfl rfl rfl ⟨Nat.le_of_ble_eq_true rfl, Nat.le_of_ble_eq_true rfl⟩ (Nat.le_of_ble_eq_true rfl) ⟨rfl, rfl⟩ ⟨Nat.le_of_ble_eq_true rfl, Nat.le_of_ble_eq_true rfl⟩ rfl ?_
        replace hF := zq_let_e hF; obtain ⟨v_47, e_48, hF⟩ := hF
        refine zq_iinc (lv' := [(1, .int v_47), (0, .ref t)]) (pc' := 43) C dX5_saveState_40 rfl (by decide) 1 rfl e_48 rfl ?_
        refine zq_goto C 14 dX5_saveState_43 (by decide) ?_
        cases hF
        exact zq_sub [1, 0] rfl (hrec_28 _ rfl)
    · skip
      obtain ⟨y_26, rfl⟩ : ∃ z9, z9 = r_24 := ⟨_, rfl⟩
      show zq_W X 0 0 y_26 46 [(0, .ref t)] []
      refine zq_aload_n (pc' := 47) C dX5_saveState_46 rfl rfl rfl ?_
      refine zq_aload_n (pc' := 48) C dX5_saveState_47 rfl rfl rfl ?_
      replace hF := zq_bd hF; obtain ⟨v_49, e_50, hF⟩ := hF
      refine zq_getR (j := 2) (pc' := 51) C zq_K5 zq_in5w (Or.inl wd_211) (by decide) rfl dX5_saveState_48 rfl e_50 ?_
      replace hF := zq_bd hF; obtain ⟨v_51, e_52, hF⟩ := hF
      refine zq_alen (pc' := 52) C dX5_saveState_51 rfl e_52 ?_
      refine zq_iconst (pc' := 53) C 1 dX5_saveState_52 rfl (by decide) ?_
      refine zq_isub (pc' := 54) C dX5_saveState_53 rfl ?_
      replace hF := zq_bd hF; obtain ⟨h_53, e_54, hF⟩ := hF
      refine zq_putI (j := 3) (pc' := 57) C zq_K5 zq_in5w (Or.inl wd_239) (by decide) rfl rfl dX5_saveState_54 rfl (Or.inl rfl) e_54 ?_
      refine zq_aload_n (pc' := 58) C dX5_saveState_57 rfl rfl rfl ?_
      replace hF := zq_bd hF; obtain ⟨v_55, e_56, hF⟩ := hF
      refine zq_getR (j := 2) (pc' := 61) C zq_K5 zq_in5w (Or.inl wd_211) (by decide) rfl dX5_saveState_58 rfl e_56 ?_
      refine zq_aload_n (pc' := 62) C dX5_saveState_61 rfl rfl rfl ?_
      replace hF := zq_bd hF; obtain ⟨v_57, e_58, hF⟩ := hF
      refine zq_getI (j := 3) (pc' := 65) C zq_K5 zq_in5w (Or.inl wd_239) (by decide) rfl dX5_saveState_62 rfl e_58 ?_
      replace hF := zq_bd hF; obtain ⟨v_59, e_60, hF⟩ := hF
      refine zq_aaload (pc' := 66) C 13 (by decide) dX5_saveState_65 rfl e_60 ?_
      refine zq_aload_n (pc' := 67) C dX5_saveState_66 rfl rfl rfl ?_
      replace hF := zq_bd hF; obtain ⟨v_61, e_62, hF⟩ := hF
      refine zq_getR (j := 1) (pc' := 70) C zq_K5 zq_in5w (Or.inl wd_210) (by decide) rfl dX5_saveState_67 rfl e_62 ?_
      replace hF := zq_ck_e hF; obtain ⟨e_65, hF⟩ := hF
      replace hF := zq_bd hF; obtain ⟨v_63, e_64, hF⟩ := hF
      refine zq_cV (pc' := 73) C (c_X3_copy e_64) yv_X3_copy wd_240 zq_K3 e_65 dX5_saveState_70 rfl rfl rfl ⟨Nat.le_of_ble_eq_true rfl, Nat.le_of_ble_eq_true rfl⟩ (Nat.le_of_ble_eq_true rfl) ⟨rfl, rfl⟩ ⟨Nat.le_of_ble_eq_true rfl, Nat.le_of_ble_eq_true rfl⟩ rfl ?_
      refine zq_aload_n (pc' := 74) C dX5_saveState_73 rfl rfl rfl ?_
      refine zq_dup (pc' := 75) C dX5_saveState_74 rfl rfl ?_
      replace hF := zq_bd hF; obtain ⟨v_66, e_67, hF⟩ := hF
      refine zq_getI (j := 3) (pc' := 78) C zq_K5 zq_in5w (Or.inl wd_239) (by decide) rfl dX5_saveState_75 rfl e_67 ?_
      refine zq_iconst (pc' := 79) C 1 dX5_saveState_78 rfl (by decide) ?_
      refine zq_iadd (pc' := 80) C dX5_saveState_79 rfl ?_
      replace hF := zq_bd hF; obtain ⟨h_68, e_69, hF⟩ := hF
      refine zq_putI (j := 3) (pc' := 83) C zq_K5 zq_in5w (Or.inl wd_239) (by decide) rfl rfl dX5_saveState_80 rfl (Or.inl rfl) e_69 ?_
      have hF := Option.some.inj hF
      subst hF
      exact hE _ _ _ _ (Nat.le_of_ble_eq_true rfl) (Nat.le_of_ble_eq_true rfl) dX5_saveState_83
theorem c_X5_saveState {h : zq_H} {t : Nat} {out : zq_H} (hF : f_X5_saveState h t = some out) : zq_M none yX5_saveState (Cond.code yX5_saveState cX5_saveState 2 none :: zq_all) rm_X5_saveState [.ref t] h none out := zq_met2 (own := RX5) (by decide +kernel) rfl (Nat.le_of_ble_eq_true rfl) rfl rfl (fun X C T hn hE => v_X5_saveState C T hn hF hE)
theorem yv_X5_saveState : zq_calV yX5_saveState RX5 cX5_saveState 2 none 0 := ⟨by decide +kernel, wd_238, wd_246, wd_247, wd_95⟩
def f_X5_isWhich (h : zq_H) (x0 : Int32) : Option Bool := (if x0 = 0 then some (true) else (if x0 = 1 then some (true) else some (false)))
abbrev rm_X5_isWhich : Room := { frames := 0, cells := 0, slots := 0, locals := 0 }
theorem dX5_isWhich_0 : decode cX5_isWhich 0 = .ok (.iload_n 0, 1) := by decide +kernel
theorem dX5_isWhich_1 : decode cX5_isWhich 1 = .ok (.ifCond .eq 8, 3) := by decide +kernel
theorem dX5_isWhich_4 : decode cX5_isWhich 4 = .ok (.iload_n 0, 1) := by decide +kernel
theorem dX5_isWhich_5 : decode cX5_isWhich 5 = .ok (.iconst 1, 1) := by decide +kernel
theorem dX5_isWhich_6 : decode cX5_isWhich 6 = .ok (.if_icmp .ne 7, 3) := by decide +kernel
theorem dX5_isWhich_9 : decode cX5_isWhich 9 = .ok (.iconst 1, 1) := by decide +kernel
theorem dX5_isWhich_10 : decode cX5_isWhich 10 = .ok (.goto 4, 3) := by decide +kernel
theorem dX5_isWhich_13 : decode cX5_isWhich 13 = .ok (.iconst 0, 1) := by decide +kernel
theorem dX5_isWhich_14 : decode cX5_isWhich 14 = .ok (.ireturn, 1) := by decide +kernel
set_option maxRecDepth 100000 in
set_option maxHeartbeats 4000000 in
theorem v_X5_isWhich {X : zq_X} (C : zq_C X RX5 cX5_isWhich 1 zq_all rm_X5_isWhich) {h : zq_H} {x0 : Int32} (T : zq_T X none) (hn : X.2.2.2.2.2.2.2.2.1.name = yX5_isWhich.name) {out : Bool} (hF : f_X5_isWhich h x0 = some out) (hE : zq_End X cX5_isWhich 0 0 (some (.int (zq_b out))) h) : zq_W X 0 0 h 0 [(0, .int x0)] [] := by
  unfold f_X5_isWhich at hF
  refine zq_iload_n (pc' := 1) C dX5_isWhich_0 rfl rfl rfl ?_
  refine zq_if_eq (pc' := 4) C 9 dX5_isWhich_1 (by decide) rfl (fun c_1 => ?_) (fun c_1 => ?_)
  · have hF := (zq_ifp hF c_1)
    skip
    refine zq_iconst (pc' := 10) C 1 dX5_isWhich_9 rfl (by decide) ?_
    refine zq_goto C 14 dX5_isWhich_10 (by decide) ?_
    have hF := Option.some.inj hF
    subst hF
    exact hE _ _ _ _ (Nat.le_of_ble_eq_true rfl) (Nat.le_of_ble_eq_true rfl) dX5_isWhich_14
  · have hF := (zq_ifn hF c_1)
    refine zq_iload_n (pc' := 5) C dX5_isWhich_4 rfl rfl rfl ?_
    refine zq_iconst (pc' := 6) C 1 dX5_isWhich_5 rfl (by decide) ?_
    refine zq_icmp_ne (pc' := 9) C 13 dX5_isWhich_6 (by decide) rfl (fun c_2 => ?_) (fun c_2 => ?_)
    · have hF := (zq_ifn hF c_2)
      skip
      refine zq_iconst (pc' := 14) C 0 dX5_isWhich_13 rfl (by decide) ?_
      have hF := Option.some.inj hF
      subst hF
      exact hE _ _ _ _ (Nat.le_of_ble_eq_true rfl) (Nat.le_of_ble_eq_true rfl) dX5_isWhich_14
    · have hF := (zq_ifp hF c_2)
      refine zq_iconst (pc' := 10) C 1 dX5_isWhich_9 rfl (by decide) ?_
      refine zq_goto C 14 dX5_isWhich_10 (by decide) ?_
      have hF := Option.some.inj hF
      subst hF
      exact hE _ _ _ _ (Nat.le_of_ble_eq_true rfl) (Nat.le_of_ble_eq_true rfl) dX5_isWhich_14
theorem c_X5_isWhich {h : zq_H} {x0 : Int32} {out : Bool} (hF : f_X5_isWhich h x0 = some out) : zq_M none yX5_isWhich (Cond.code yX5_isWhich cX5_isWhich 1 (some .boolean) :: zq_all) rm_X5_isWhich [.int x0] h (some (.int (zq_b out))) h := zq_met2 (own := RX5) (by decide +kernel) rfl (Nat.le_of_ble_eq_true rfl) rfl ⟨.boolean, rfl, by cases out <;> rfl⟩ (fun X C T hn hE => v_X5_isWhich C T hn hF hE)
theorem ys_X5_isWhich : zq_calS yX5_isWhich cX5_isWhich 1 (some .boolean) 1 := ⟨by decide +kernel, wd_249, wd_265, wd_95⟩
def f_X5_makeFlip (h : zq_H) (t : Nat) (x1 : Int32) (x2 : Int32) : Option (Int32 × zq_H) := (Option.bind (zq_gr h t 5 1) fun v_1 => (zq_ck h v_1 3 fun _ => (Option.bind (f_X3_mask h v_1 x1) fun v_3 => (Option.bind (zq_gr h t 5 1) fun v_6 => (Option.bind (zq_gr h v_6 3 0) fun v_8 => (Option.bind (zq_gr h v_8 0 0) fun v_10 => (zq_ck h v_10 1 fun _ => (Option.bind (f_X1_otherOf h v_10 v_3 x2) fun v_12 => (Option.bind (zq_gr h t 5 1) fun v_15 => (Option.bind (zq_gr h t 5 1) fun v_17 => (Option.bind (zq_gr h v_17 3 0) fun v_19 => (Option.bind (zq_gr h v_19 0 0) fun v_21 => (zq_ck h v_21 1 fun _ => (Option.bind (f_X1_flipped h v_21 v_3 x2) fun v_23 => (zq_ck h v_15 3 fun _ => (Option.bind (f_X3_put h v_15 x1 v_23) fun v_26 => (Option.bind (zq_gr v_26 t 5 1) fun v_29 => (Option.bind (zq_gi v_26 v_29 3 4) fun v_31 => (Option.bind (zq_pi v_26 v_29 3 4 (v_31 + 1)) fun h_33 => some ((v_12, h_33)))))))))))))))))))))
abbrev rm_X5_makeFlip : Room := { frames := 2, cells := 0, slots := 0, locals := 47 }
theorem dX5_makeFlip_0 : decode cX5_makeFlip 0 = .ok (.aload_n 0, 1) := by decide +kernel
theorem dX5_makeFlip_1 : decode cX5_makeFlip 1 = .ok (.getfield 30, 3) := by decide +kernel
theorem dX5_makeFlip_4 : decode cX5_makeFlip 4 = .ok (.iload_n 1, 1) := by decide +kernel
theorem dX5_makeFlip_5 : decode cX5_makeFlip 5 = .ok (.invokevirtual 108, 3) := by decide +kernel
theorem dX5_makeFlip_8 : decode cX5_makeFlip 8 = .ok (.istore_n 3, 1) := by decide +kernel
theorem dX5_makeFlip_9 : decode cX5_makeFlip 9 = .ok (.aload_n 0, 1) := by decide +kernel
theorem dX5_makeFlip_10 : decode cX5_makeFlip 10 = .ok (.getfield 30, 3) := by decide +kernel
theorem dX5_makeFlip_13 : decode cX5_makeFlip 13 = .ok (.getfield 83, 3) := by decide +kernel
theorem dX5_makeFlip_16 : decode cX5_makeFlip 16 = .ok (.getfield 87, 3) := by decide +kernel
theorem dX5_makeFlip_19 : decode cX5_makeFlip 19 = .ok (.iload_n 3, 1) := by decide +kernel
theorem dX5_makeFlip_20 : decode cX5_makeFlip 20 = .ok (.iload_n 2, 1) := by decide +kernel
theorem dX5_makeFlip_21 : decode cX5_makeFlip 21 = .ok (.invokevirtual 237, 3) := by decide +kernel
theorem dX5_makeFlip_24 : decode cX5_makeFlip 24 = .ok (.istore 4, 2) := by decide +kernel
theorem dX5_makeFlip_26 : decode cX5_makeFlip 26 = .ok (.aload_n 0, 1) := by decide +kernel
theorem dX5_makeFlip_27 : decode cX5_makeFlip 27 = .ok (.getfield 30, 3) := by decide +kernel
theorem dX5_makeFlip_30 : decode cX5_makeFlip 30 = .ok (.iload_n 1, 1) := by decide +kernel
theorem dX5_makeFlip_31 : decode cX5_makeFlip 31 = .ok (.aload_n 0, 1) := by decide +kernel
theorem dX5_makeFlip_32 : decode cX5_makeFlip 32 = .ok (.getfield 30, 3) := by decide +kernel
theorem dX5_makeFlip_35 : decode cX5_makeFlip 35 = .ok (.getfield 83, 3) := by decide +kernel
theorem dX5_makeFlip_38 : decode cX5_makeFlip 38 = .ok (.getfield 87, 3) := by decide +kernel
theorem dX5_makeFlip_41 : decode cX5_makeFlip 41 = .ok (.iload_n 3, 1) := by decide +kernel
theorem dX5_makeFlip_42 : decode cX5_makeFlip 42 = .ok (.iload_n 2, 1) := by decide +kernel
theorem dX5_makeFlip_43 : decode cX5_makeFlip 43 = .ok (.invokevirtual 278, 3) := by decide +kernel
theorem dX5_makeFlip_46 : decode cX5_makeFlip 46 = .ok (.invokevirtual 151, 3) := by decide +kernel
theorem dX5_makeFlip_49 : decode cX5_makeFlip 49 = .ok (.aload_n 0, 1) := by decide +kernel
theorem dX5_makeFlip_50 : decode cX5_makeFlip 50 = .ok (.getfield 30, 3) := by decide +kernel
theorem dX5_makeFlip_53 : decode cX5_makeFlip 53 = .ok (.dup, 1) := by decide +kernel
theorem dX5_makeFlip_54 : decode cX5_makeFlip 54 = .ok (.getfield 221, 3) := by decide +kernel
theorem dX5_makeFlip_57 : decode cX5_makeFlip 57 = .ok (.iconst 1, 1) := by decide +kernel
theorem dX5_makeFlip_58 : decode cX5_makeFlip 58 = .ok (.iadd, 1) := by decide +kernel
theorem dX5_makeFlip_59 : decode cX5_makeFlip 59 = .ok (.putfield 221, 3) := by decide +kernel
theorem dX5_makeFlip_62 : decode cX5_makeFlip 62 = .ok (.iload 4, 2) := by decide +kernel
theorem dX5_makeFlip_64 : decode cX5_makeFlip 64 = .ok (.ireturn, 1) := by decide +kernel
set_option maxRecDepth 100000 in
set_option maxHeartbeats 4000000 in
theorem v_X5_makeFlip {X : zq_X} (C : zq_C X RX5 cX5_makeFlip 5 zq_all rm_X5_makeFlip) {h : zq_H} {t : Nat} {x1 : Int32} {x2 : Int32} (T : zq_T X none) (hn : X.2.2.2.2.2.2.2.2.1.name = yX5_makeFlip.name) {out : (Int32 × zq_H)} (hF : f_X5_makeFlip h t x1 x2 = some out) (hE : zq_End X cX5_makeFlip 0 0 (some (.int out.1)) out.2) : zq_W X 0 0 h 0 [(0, .ref t), (1, .int x1), (2, .int x2)] [] := by
  unfold f_X5_makeFlip at hF
  refine zq_aload_n (pc' := 1) C dX5_makeFlip_0 rfl rfl rfl ?_
  replace hF := zq_bd hF; obtain ⟨v_1, e_2, hF⟩ := hF
  refine zq_getR (j := 1) (pc' := 4) C zq_K5 zq_in5w (Or.inl wd_210) (by decide) rfl dX5_makeFlip_1 rfl e_2 ?_
  refine zq_iload_n (pc' := 5) C dX5_makeFlip_4 rfl rfl rfl ?_
  replace hF := zq_ck_e hF; obtain ⟨e_5, hF⟩ := hF
  replace hF := zq_bd hF; obtain ⟨v_3, e_4, hF⟩ := hF
  refine zq_cV (pc' := 8) C (c_X3_mask e_4) yv_X3_mask wd_251 zq_K3 e_5 dX5_makeFlip_5 rfl rfl rfl ⟨Nat.le_of_ble_eq_true rfl, Nat.le_of_ble_eq_true rfl⟩ (Nat.le_of_ble_eq_true rfl) ⟨rfl, rfl⟩ ⟨Nat.le_of_ble_eq_true rfl, Nat.le_of_ble_eq_true rfl⟩ rfl ?_
  refine zq_istore_n (lv' := [(3, .int v_3), (0, .ref t), (1, .int x1), (2, .int x2)]) (pc' := 9) C dX5_makeFlip_8 rfl rfl (by decide) rfl rfl ?_
  refine zq_aload_n (pc' := 10) C dX5_makeFlip_9 rfl rfl rfl ?_
  replace hF := zq_bd hF; obtain ⟨v_6, e_7, hF⟩ := hF
  refine zq_getR (j := 1) (pc' := 13) C zq_K5 zq_in5w (Or.inl wd_210) (by decide) rfl dX5_makeFlip_10 rfl e_7 ?_
  replace hF := zq_bd hF; obtain ⟨v_8, e_9, hF⟩ := hF
  refine zq_getR (j := 0) (pc' := 16) C zq_K3 zq_in3w (Or.inr ⟨"FlipPolygons", by decide +kernel⟩) (by decide) rfl dX5_makeFlip_13 rfl e_9 ?_
  replace hF := zq_bd hF; obtain ⟨v_10, e_11, hF⟩ := hF
  refine zq_getR (j := 0) (pc' := 19) C zq_K0 zq_in0w (Or.inr ⟨"FlipPolygons", by decide +kernel⟩) (by decide) rfl dX5_makeFlip_16 rfl e_11 ?_
  refine zq_iload_n (pc' := 20) C dX5_makeFlip_19 rfl rfl rfl ?_
  refine zq_iload_n (pc' := 21) C dX5_makeFlip_20 rfl rfl rfl ?_
  replace hF := zq_ck_e hF; obtain ⟨e_14, hF⟩ := hF
  replace hF := zq_bd hF; obtain ⟨v_12, e_13, hF⟩ := hF
  refine zq_cV (pc' := 24) C (c_X1_otherOf e_13) yv_X1_otherOf wd_254 zq_K1 e_14 dX5_makeFlip_21 rfl rfl rfl ⟨Nat.le_of_ble_eq_true rfl, Nat.le_of_ble_eq_true rfl⟩ (Nat.le_of_ble_eq_true rfl) ⟨rfl, rfl⟩ ⟨Nat.le_of_ble_eq_true rfl, Nat.le_of_ble_eq_true rfl⟩ rfl ?_
  refine zq_istore (lv' := [(4, .int v_12), (3, .int v_3), (0, .ref t), (1, .int x1), (2, .int x2)]) (pc' := 26) C dX5_makeFlip_24 rfl (by decide) rfl rfl ?_
  refine zq_aload_n (pc' := 27) C dX5_makeFlip_26 rfl rfl rfl ?_
  replace hF := zq_bd hF; obtain ⟨v_15, e_16, hF⟩ := hF
  refine zq_getR (j := 1) (pc' := 30) C zq_K5 zq_in5w (Or.inl wd_210) (by decide) rfl dX5_makeFlip_27 rfl e_16 ?_
  refine zq_iload_n (pc' := 31) C dX5_makeFlip_30 rfl rfl rfl ?_
  refine zq_aload_n (pc' := 32) C dX5_makeFlip_31 rfl rfl rfl ?_
  replace hF := zq_bd hF; obtain ⟨v_17, e_18, hF⟩ := hF
  refine zq_getR (j := 1) (pc' := 35) C zq_K5 zq_in5w (Or.inl wd_210) (by decide) rfl dX5_makeFlip_32 rfl e_18 ?_
  replace hF := zq_bd hF; obtain ⟨v_19, e_20, hF⟩ := hF
  refine zq_getR (j := 0) (pc' := 38) C zq_K3 zq_in3w (Or.inr ⟨"FlipPolygons", by decide +kernel⟩) (by decide) rfl dX5_makeFlip_35 rfl e_20 ?_
  replace hF := zq_bd hF; obtain ⟨v_21, e_22, hF⟩ := hF
  refine zq_getR (j := 0) (pc' := 41) C zq_K0 zq_in0w (Or.inr ⟨"FlipPolygons", by decide +kernel⟩) (by decide) rfl dX5_makeFlip_38 rfl e_22 ?_
  refine zq_iload_n (pc' := 42) C dX5_makeFlip_41 rfl rfl rfl ?_
  refine zq_iload_n (pc' := 43) C dX5_makeFlip_42 rfl rfl rfl ?_
  replace hF := zq_ck_e hF; obtain ⟨e_25, hF⟩ := hF
  replace hF := zq_bd hF; obtain ⟨v_23, e_24, hF⟩ := hF
  refine zq_cV (pc' := 46) C (c_X1_flipped e_24) yv_X1_flipped wd_255 zq_K1 e_25 dX5_makeFlip_43 rfl rfl rfl ⟨Nat.le_of_ble_eq_true rfl, Nat.le_of_ble_eq_true rfl⟩ (Nat.le_of_ble_eq_true rfl) ⟨rfl, rfl⟩ ⟨Nat.le_of_ble_eq_true rfl, Nat.le_of_ble_eq_true rfl⟩ rfl ?_
  replace hF := zq_ck_e hF; obtain ⟨e_28, hF⟩ := hF
  replace hF := zq_bd hF; obtain ⟨v_26, e_27, hF⟩ := hF
  refine zq_cV (pc' := 49) C (c_X3_put e_27) yv_X3_put wd_256 zq_K3 e_28 dX5_makeFlip_46 rfl rfl rfl ⟨Nat.le_of_ble_eq_true rfl, Nat.le_of_ble_eq_true rfl⟩ (Nat.le_of_ble_eq_true rfl) ⟨rfl, rfl⟩ ⟨Nat.le_of_ble_eq_true rfl, Nat.le_of_ble_eq_true rfl⟩ rfl ?_
  refine zq_aload_n (pc' := 50) C dX5_makeFlip_49 rfl rfl rfl ?_
  replace hF := zq_bd hF; obtain ⟨v_29, e_30, hF⟩ := hF
  refine zq_getR (j := 1) (pc' := 53) C zq_K5 zq_in5w (Or.inl wd_210) (by decide) rfl dX5_makeFlip_50 rfl e_30 ?_
  refine zq_dup (pc' := 54) C dX5_makeFlip_53 rfl rfl ?_
  replace hF := zq_bd hF; obtain ⟨v_31, e_32, hF⟩ := hF
  refine zq_getI (j := 4) (pc' := 57) C zq_K3 zq_in3w (Or.inr ⟨"FlipPolygons", by decide +kernel⟩) (by decide) rfl dX5_makeFlip_54 rfl e_32 ?_
  refine zq_iconst (pc' := 58) C 1 dX5_makeFlip_57 rfl (by decide) ?_
  refine zq_iadd (pc' := 59) C dX5_makeFlip_58 rfl ?_
  replace hF := zq_bd hF; obtain ⟨h_33, e_34, hF⟩ := hF
  refine zq_putI (j := 4) (pc' := 62) C zq_K3 zq_in3w (Or.inr ⟨"FlipPolygons", by decide +kernel⟩) (by decide) rfl rfl dX5_makeFlip_59 rfl (Or.inl rfl) e_34 ?_
  refine zq_iload (pc' := 64) C dX5_makeFlip_62 rfl rfl ?_
  have hF := Option.some.inj hF
  subst hF
  exact hE _ _ _ _ (Nat.le_of_ble_eq_true rfl) (Nat.le_of_ble_eq_true rfl) dX5_makeFlip_64
theorem c_X5_makeFlip {h : zq_H} {t : Nat} {x1 : Int32} {x2 : Int32} {out : (Int32 × zq_H)} (hF : f_X5_makeFlip h t x1 x2 = some out) : zq_M none yX5_makeFlip (Cond.code yX5_makeFlip cX5_makeFlip 5 (some .int) :: zq_all) rm_X5_makeFlip [.ref t, .int x1, .int x2] h (some (.int out.1)) out.2 := zq_met2 (own := RX5) (by decide +kernel) rfl (Nat.le_of_ble_eq_true rfl) rfl ⟨.int, rfl, rfl⟩ (fun X C T hn hE => v_X5_makeFlip C T hn hF hE)
theorem yv_X5_makeFlip : zq_calV yX5_makeFlip RX5 cX5_makeFlip 5 (some .int) 2 := ⟨by decide +kernel, wd_250, wd_268, wd_269, wd_95⟩
def f_X5_putNew (h : zq_H) (t : Nat) (x1 : Int32) (x2 : Int32) : Option zq_H := (Option.bind (zq_gr h t 5 1) fun v_1 => (zq_ck h v_1 3 fun _ => (Option.bind (f_X3_put h v_1 x1 x2) fun v_3 => (if x1 = 0 then (Option.bind (zq_gr v_3 t 5 1) fun v_7 => (Option.bind (zq_pi v_3 v_7 3 3 0) fun h_9 => some (h_9))) else some (v_3)))))
abbrev rm_X5_putNew : Room := { frames := 1, cells := 0, slots := 0, locals := 22 }
theorem dX5_putNew_0 : decode cX5_putNew 0 = .ok (.aload_n 0, 1) := by decide +kernel
theorem dX5_putNew_1 : decode cX5_putNew 1 = .ok (.getfield 30, 3) := by decide +kernel
theorem dX5_putNew_4 : decode cX5_putNew 4 = .ok (.iload_n 1, 1) := by decide +kernel
theorem dX5_putNew_5 : decode cX5_putNew 5 = .ok (.iload_n 2, 1) := by decide +kernel
theorem dX5_putNew_6 : decode cX5_putNew 6 = .ok (.invokevirtual 151, 3) := by decide +kernel
theorem dX5_putNew_9 : decode cX5_putNew 9 = .ok (.iload_n 1, 1) := by decide +kernel
theorem dX5_putNew_10 : decode cX5_putNew 10 = .ok (.ifCond .ne 11, 3) := by decide +kernel
theorem dX5_putNew_13 : decode cX5_putNew 13 = .ok (.aload_n 0, 1) := by decide +kernel
theorem dX5_putNew_14 : decode cX5_putNew 14 = .ok (.getfield 30, 3) := by decide +kernel
theorem dX5_putNew_17 : decode cX5_putNew 17 = .ok (.iconst 0, 1) := by decide +kernel
theorem dX5_putNew_18 : decode cX5_putNew 18 = .ok (.putfield 116, 3) := by decide +kernel
theorem dX5_putNew_21 : decode cX5_putNew 21 = .ok (.return_, 1) := by decide +kernel
set_option maxRecDepth 100000 in
set_option maxHeartbeats 4000000 in
theorem v_X5_putNew {X : zq_X} (C : zq_C X RX5 cX5_putNew 3 zq_all rm_X5_putNew) {h : zq_H} {t : Nat} {x1 : Int32} {x2 : Int32} (T : zq_T X none) (hn : X.2.2.2.2.2.2.2.2.1.name = yX5_putNew.name) {out : zq_H} (hF : f_X5_putNew h t x1 x2 = some out) (hE : zq_End X cX5_putNew 0 0 none out) : zq_W X 0 0 h 0 [(0, .ref t), (1, .int x1), (2, .int x2)] [] := by
  unfold f_X5_putNew at hF
  refine zq_aload_n (pc' := 1) C dX5_putNew_0 rfl rfl rfl ?_
  replace hF := zq_bd hF; obtain ⟨v_1, e_2, hF⟩ := hF
  refine zq_getR (j := 1) (pc' := 4) C zq_K5 zq_in5w (Or.inl wd_210) (by decide) rfl dX5_putNew_1 rfl e_2 ?_
  refine zq_iload_n (pc' := 5) C dX5_putNew_4 rfl rfl rfl ?_
  refine zq_iload_n (pc' := 6) C dX5_putNew_5 rfl rfl rfl ?_
  replace hF := zq_ck_e hF; obtain ⟨e_5, hF⟩ := hF
  replace hF := zq_bd hF; obtain ⟨v_3, e_4, hF⟩ := hF
  refine zq_cV (pc' := 9) C (c_X3_put e_4) yv_X3_put wd_256 zq_K3 e_5 dX5_putNew_6 rfl rfl rfl ⟨Nat.le_of_ble_eq_true rfl, Nat.le_of_ble_eq_true rfl⟩ (Nat.le_of_ble_eq_true rfl) ⟨rfl, rfl⟩ ⟨Nat.le_of_ble_eq_true rfl, Nat.le_of_ble_eq_true rfl⟩ rfl ?_
  refine zq_iload_n (pc' := 10) C dX5_putNew_9 rfl rfl rfl ?_
  refine zq_if_ne (pc' := 13) C 21 dX5_putNew_10 (by decide) rfl (fun c_6 => ?_) (fun c_6 => ?_)
  · have hF := (zq_ifn hF c_6)
    skip
    have hF := Option.some.inj hF
    subst hF
    exact hE _ _ _ _ (Nat.le_of_ble_eq_true rfl) (Nat.le_of_ble_eq_true rfl) dX5_putNew_21
  · have hF := (zq_ifp hF c_6)
    refine zq_aload_n (pc' := 14) C dX5_putNew_13 rfl rfl rfl ?_
    replace hF := zq_bd hF; obtain ⟨v_7, e_8, hF⟩ := hF
    refine zq_getR (j := 1) (pc' := 17) C zq_K5 zq_in5w (Or.inl wd_210) (by decide) rfl dX5_putNew_14 rfl e_8 ?_
    refine zq_iconst (pc' := 18) C 0 dX5_putNew_17 rfl (by decide) ?_
    replace hF := zq_bd hF; obtain ⟨h_9, e_10, hF⟩ := hF
    refine zq_putI (j := 3) (pc' := 21) C zq_K3 zq_in3w (Or.inr ⟨"FlipPolygons", by decide +kernel⟩) (by decide) rfl rfl dX5_putNew_18 rfl (Or.inl rfl) e_10 ?_
    have hF := Option.some.inj hF
    subst hF
    exact hE _ _ _ _ (Nat.le_of_ble_eq_true rfl) (Nat.le_of_ble_eq_true rfl) dX5_putNew_21
theorem c_X5_putNew {h : zq_H} {t : Nat} {x1 : Int32} {x2 : Int32} {out : zq_H} (hF : f_X5_putNew h t x1 x2 = some out) : zq_M none yX5_putNew (Cond.code yX5_putNew cX5_putNew 3 none :: zq_all) rm_X5_putNew [.ref t, .int x1, .int x2] h none out := zq_met2 (own := RX5) (by decide +kernel) rfl (Nat.le_of_ble_eq_true rfl) rfl rfl (fun X C T hn hE => v_X5_putNew C T hn hF hE)
theorem yv_X5_putNew : zq_calV yX5_putNew RX5 cX5_putNew 3 none 2 := ⟨by decide +kernel, wd_271, wd_276, wd_277, wd_95⟩
def f_X5_exchange (h : zq_H) (t : Nat) : Option (Int32 × zq_H) := (zq_ck h t 5 fun _ => (Option.bind (f_X5_saveState h t) fun v_1 => (Option.bind (zq_gr v_1 t 5 1) fun v_4 => (Option.bind (zq_gi v_1 v_4 3 2) fun v_6 => (Option.bind (zq_gr v_1 t 5 1) fun v_8 => (Option.bind (zq_gr v_1 t 5 1) fun v_10 => (Option.bind (zq_gi v_1 v_10 3 1) fun v_12 => (Option.bind (zq_pi v_1 v_8 3 2 v_12) fun h_14 => (Option.bind (zq_gr h_14 t 5 1) fun v_16 => (Option.bind (zq_pi h_14 v_16 3 1 v_6) fun h_18 => (Option.bind (zq_gr h_18 t 5 1) fun v_20 => (Option.bind (zq_pi h_18 v_20 3 3 0) fun h_22 => (Option.bind (zq_gr h_22 t 5 1) fun v_24 => (Option.bind (zq_gi h_22 v_24 3 1) fun v_26 => some ((v_26, h_22))))))))))))))))
abbrev rm_X5_exchange : Room := { frames := 2, cells := 0, slots := 0, locals := 42 }
theorem dX5_exchange_0 : decode cX5_exchange 0 = .ok (.aload_n 0, 1) := by decide +kernel
theorem dX5_exchange_1 : decode cX5_exchange 1 = .ok (.invokevirtual 80, 3) := by decide +kernel
theorem dX5_exchange_4 : decode cX5_exchange 4 = .ok (.aload_n 0, 1) := by decide +kernel
theorem dX5_exchange_5 : decode cX5_exchange 5 = .ok (.getfield 30, 3) := by decide +kernel
theorem dX5_exchange_8 : decode cX5_exchange 8 = .ok (.getfield 157, 3) := by decide +kernel
theorem dX5_exchange_11 : decode cX5_exchange 11 = .ok (.istore_n 1, 1) := by decide +kernel
theorem dX5_exchange_12 : decode cX5_exchange 12 = .ok (.aload_n 0, 1) := by decide +kernel
theorem dX5_exchange_13 : decode cX5_exchange 13 = .ok (.getfield 30, 3) := by decide +kernel
theorem dX5_exchange_16 : decode cX5_exchange 16 = .ok (.aload_n 0, 1) := by decide +kernel
theorem dX5_exchange_17 : decode cX5_exchange 17 = .ok (.getfield 30, 3) := by decide +kernel
theorem dX5_exchange_20 : decode cX5_exchange 20 = .ok (.getfield 160, 3) := by decide +kernel
theorem dX5_exchange_23 : decode cX5_exchange 23 = .ok (.putfield 157, 3) := by decide +kernel
theorem dX5_exchange_26 : decode cX5_exchange 26 = .ok (.aload_n 0, 1) := by decide +kernel
theorem dX5_exchange_27 : decode cX5_exchange 27 = .ok (.getfield 30, 3) := by decide +kernel
theorem dX5_exchange_30 : decode cX5_exchange 30 = .ok (.iload_n 1, 1) := by decide +kernel
theorem dX5_exchange_31 : decode cX5_exchange 31 = .ok (.putfield 160, 3) := by decide +kernel
theorem dX5_exchange_34 : decode cX5_exchange 34 = .ok (.aload_n 0, 1) := by decide +kernel
theorem dX5_exchange_35 : decode cX5_exchange 35 = .ok (.getfield 30, 3) := by decide +kernel
theorem dX5_exchange_38 : decode cX5_exchange 38 = .ok (.iconst 0, 1) := by decide +kernel
theorem dX5_exchange_39 : decode cX5_exchange 39 = .ok (.putfield 116, 3) := by decide +kernel
theorem dX5_exchange_42 : decode cX5_exchange 42 = .ok (.aload_n 0, 1) := by decide +kernel
theorem dX5_exchange_43 : decode cX5_exchange 43 = .ok (.getfield 30, 3) := by decide +kernel
theorem dX5_exchange_46 : decode cX5_exchange 46 = .ok (.getfield 160, 3) := by decide +kernel
theorem dX5_exchange_49 : decode cX5_exchange 49 = .ok (.ireturn, 1) := by decide +kernel
set_option maxRecDepth 100000 in
set_option maxHeartbeats 4000000 in
theorem v_X5_exchange {X : zq_X} (C : zq_C X RX5 cX5_exchange 2 zq_all rm_X5_exchange) {h : zq_H} {t : Nat} (T : zq_T X none) (hn : X.2.2.2.2.2.2.2.2.1.name = yX5_exchange.name) {out : (Int32 × zq_H)} (hF : f_X5_exchange h t = some out) (hE : zq_End X cX5_exchange 0 0 (some (.int out.1)) out.2) : zq_W X 0 0 h 0 [(0, .ref t)] [] := by
  unfold f_X5_exchange at hF
  refine zq_aload_n (pc' := 1) C dX5_exchange_0 rfl rfl rfl ?_
  replace hF := zq_ck_e hF; obtain ⟨e_3, hF⟩ := hF
  replace hF := zq_bd hF; obtain ⟨v_1, e_2, hF⟩ := hF
  refine zq_cV (pc' := 4) C (c_X5_saveState e_2) yv_X5_saveState wd_245 zq_K5 e_3 dX5_exchange_1 rfl rfl rfl ⟨Nat.le_of_ble_eq_true rfl, Nat.le_of_ble_eq_true rfl⟩ (Nat.le_of_ble_eq_true rfl) ⟨rfl, rfl⟩ ⟨Nat.le_of_ble_eq_true rfl, Nat.le_of_ble_eq_true rfl⟩ rfl ?_
  refine zq_aload_n (pc' := 5) C dX5_exchange_4 rfl rfl rfl ?_
  replace hF := zq_bd hF; obtain ⟨v_4, e_5, hF⟩ := hF
  refine zq_getR (j := 1) (pc' := 8) C zq_K5 zq_in5w (Or.inl wd_210) (by decide) rfl dX5_exchange_5 rfl e_5 ?_
  replace hF := zq_bd hF; obtain ⟨v_6, e_7, hF⟩ := hF
  refine zq_getI (j := 2) (pc' := 11) C zq_K3 zq_in3w (Or.inr ⟨"FlipPolygons", by decide +kernel⟩) (by decide) rfl dX5_exchange_8 rfl e_7 ?_
  refine zq_istore_n (lv' := [(1, .int v_6), (0, .ref t)]) (pc' := 12) C dX5_exchange_11 rfl rfl (by decide) rfl rfl ?_
  refine zq_aload_n (pc' := 13) C dX5_exchange_12 rfl rfl rfl ?_
  replace hF := zq_bd hF; obtain ⟨v_8, e_9, hF⟩ := hF
  refine zq_getR (j := 1) (pc' := 16) C zq_K5 zq_in5w (Or.inl wd_210) (by decide) rfl dX5_exchange_13 rfl e_9 ?_
  refine zq_aload_n (pc' := 17) C dX5_exchange_16 rfl rfl rfl ?_
  replace hF := zq_bd hF; obtain ⟨v_10, e_11, hF⟩ := hF
  refine zq_getR (j := 1) (pc' := 20) C zq_K5 zq_in5w (Or.inl wd_210) (by decide) rfl dX5_exchange_17 rfl e_11 ?_
  replace hF := zq_bd hF; obtain ⟨v_12, e_13, hF⟩ := hF
  refine zq_getI (j := 1) (pc' := 23) C zq_K3 zq_in3w (Or.inr ⟨"FlipPolygons", by decide +kernel⟩) (by decide) rfl dX5_exchange_20 rfl e_13 ?_
  replace hF := zq_bd hF; obtain ⟨h_14, e_15, hF⟩ := hF
  refine zq_putI (j := 2) (pc' := 26) C zq_K3 zq_in3w (Or.inr ⟨"FlipPolygons", by decide +kernel⟩) (by decide) rfl rfl dX5_exchange_23 rfl (Or.inl rfl) e_15 ?_
  refine zq_aload_n (pc' := 27) C dX5_exchange_26 rfl rfl rfl ?_
  replace hF := zq_bd hF; obtain ⟨v_16, e_17, hF⟩ := hF
  refine zq_getR (j := 1) (pc' := 30) C zq_K5 zq_in5w (Or.inl wd_210) (by decide) rfl dX5_exchange_27 rfl e_17 ?_
  refine zq_iload_n (pc' := 31) C dX5_exchange_30 rfl rfl rfl ?_
  replace hF := zq_bd hF; obtain ⟨h_18, e_19, hF⟩ := hF
  refine zq_putI (j := 1) (pc' := 34) C zq_K3 zq_in3w (Or.inr ⟨"FlipPolygons", by decide +kernel⟩) (by decide) rfl rfl dX5_exchange_31 rfl (Or.inl rfl) e_19 ?_
  refine zq_aload_n (pc' := 35) C dX5_exchange_34 rfl rfl rfl ?_
  replace hF := zq_bd hF; obtain ⟨v_20, e_21, hF⟩ := hF
  refine zq_getR (j := 1) (pc' := 38) C zq_K5 zq_in5w (Or.inl wd_210) (by decide) rfl dX5_exchange_35 rfl e_21 ?_
  refine zq_iconst (pc' := 39) C 0 dX5_exchange_38 rfl (by decide) ?_
  replace hF := zq_bd hF; obtain ⟨h_22, e_23, hF⟩ := hF
  refine zq_putI (j := 3) (pc' := 42) C zq_K3 zq_in3w (Or.inr ⟨"FlipPolygons", by decide +kernel⟩) (by decide) rfl rfl dX5_exchange_39 rfl (Or.inl rfl) e_23 ?_
  refine zq_aload_n (pc' := 43) C dX5_exchange_42 rfl rfl rfl ?_
  replace hF := zq_bd hF; obtain ⟨v_24, e_25, hF⟩ := hF
  refine zq_getR (j := 1) (pc' := 46) C zq_K5 zq_in5w (Or.inl wd_210) (by decide) rfl dX5_exchange_43 rfl e_25 ?_
  replace hF := zq_bd hF; obtain ⟨v_26, e_27, hF⟩ := hF
  refine zq_getI (j := 1) (pc' := 49) C zq_K3 zq_in3w (Or.inr ⟨"FlipPolygons", by decide +kernel⟩) (by decide) rfl dX5_exchange_46 rfl e_27 ?_
  have hF := Option.some.inj hF
  subst hF
  exact hE _ _ _ _ (Nat.le_of_ble_eq_true rfl) (Nat.le_of_ble_eq_true rfl) dX5_exchange_49
theorem c_X5_exchange {h : zq_H} {t : Nat} {out : (Int32 × zq_H)} (hF : f_X5_exchange h t = some out) : zq_M none yX5_exchange (Cond.code yX5_exchange cX5_exchange 2 (some .int) :: zq_all) rm_X5_exchange [.ref t] h (some (.int out.1)) out.2 := zq_met2 (own := RX5) (by decide +kernel) rfl (Nat.le_of_ble_eq_true rfl) rfl ⟨.int, rfl, rfl⟩ (fun X C T hn hE => v_X5_exchange C T hn hF hE)
theorem yv_X5_exchange : zq_calV yX5_exchange RX5 cX5_exchange 2 (some .int) 0 := ⟨by decide +kernel, wd_285, wd_817, wd_818, wd_95⟩
def f_X5_hasDistance (h : zq_H) (t : Nat) : Option Bool := (Option.bind (zq_gr h t 5 1) fun v_1 => (Option.bind (zq_gi h v_1 3 3) fun v_3 => (Option.bind (zq_gr h t 5 1) fun v_5 => (Option.bind (zq_gi h v_5 3 2) fun v_7 => (if (v_3 &&& (v_7 ^^^ (-1))) = 0 then some (true) else some (false))))))
abbrev rm_X5_hasDistance : Room := { frames := 0, cells := 0, slots := 0, locals := 0 }
theorem dX5_hasDistance_0 : decode cX5_hasDistance 0 = .ok (.aload_n 0, 1) := by decide +kernel
theorem dX5_hasDistance_1 : decode cX5_hasDistance 1 = .ok (.getfield 30, 3) := by decide +kernel
theorem dX5_hasDistance_4 : decode cX5_hasDistance 4 = .ok (.getfield 116, 3) := by decide +kernel
theorem dX5_hasDistance_7 : decode cX5_hasDistance 7 = .ok (.aload_n 0, 1) := by decide +kernel
theorem dX5_hasDistance_8 : decode cX5_hasDistance 8 = .ok (.getfield 30, 3) := by decide +kernel
theorem dX5_hasDistance_11 : decode cX5_hasDistance 11 = .ok (.getfield 157, 3) := by decide +kernel
theorem dX5_hasDistance_14 : decode cX5_hasDistance 14 = .ok (.iconst (-1), 1) := by decide +kernel
theorem dX5_hasDistance_15 : decode cX5_hasDistance 15 = .ok (.ixor, 1) := by decide +kernel
theorem dX5_hasDistance_16 : decode cX5_hasDistance 16 = .ok (.iand, 1) := by decide +kernel
theorem dX5_hasDistance_17 : decode cX5_hasDistance 17 = .ok (.ifCond .ne 7, 3) := by decide +kernel
theorem dX5_hasDistance_20 : decode cX5_hasDistance 20 = .ok (.iconst 1, 1) := by decide +kernel
theorem dX5_hasDistance_21 : decode cX5_hasDistance 21 = .ok (.goto 4, 3) := by decide +kernel
theorem dX5_hasDistance_24 : decode cX5_hasDistance 24 = .ok (.iconst 0, 1) := by decide +kernel
theorem dX5_hasDistance_25 : decode cX5_hasDistance 25 = .ok (.ireturn, 1) := by decide +kernel
set_option maxRecDepth 100000 in
set_option maxHeartbeats 4000000 in
theorem v_X5_hasDistance {X : zq_X} (C : zq_C X RX5 cX5_hasDistance 1 zq_all rm_X5_hasDistance) {h : zq_H} {t : Nat} (T : zq_T X none) (hn : X.2.2.2.2.2.2.2.2.1.name = yX5_hasDistance.name) {out : Bool} (hF : f_X5_hasDistance h t = some out) (hE : zq_End X cX5_hasDistance 0 0 (some (.int (zq_b out))) h) : zq_W X 0 0 h 0 [(0, .ref t)] [] := by
  unfold f_X5_hasDistance at hF
  refine zq_aload_n (pc' := 1) C dX5_hasDistance_0 rfl rfl rfl ?_
  replace hF := zq_bd hF; obtain ⟨v_1, e_2, hF⟩ := hF
  refine zq_getR (j := 1) (pc' := 4) C zq_K5 zq_in5w (Or.inl wd_210) (by decide) rfl dX5_hasDistance_1 rfl e_2 ?_
  replace hF := zq_bd hF; obtain ⟨v_3, e_4, hF⟩ := hF
  refine zq_getI (j := 3) (pc' := 7) C zq_K3 zq_in3w (Or.inr ⟨"FlipPolygons", by decide +kernel⟩) (by decide) rfl dX5_hasDistance_4 rfl e_4 ?_
  refine zq_aload_n (pc' := 8) C dX5_hasDistance_7 rfl rfl rfl ?_
  replace hF := zq_bd hF; obtain ⟨v_5, e_6, hF⟩ := hF
  refine zq_getR (j := 1) (pc' := 11) C zq_K5 zq_in5w (Or.inl wd_210) (by decide) rfl dX5_hasDistance_8 rfl e_6 ?_
  replace hF := zq_bd hF; obtain ⟨v_7, e_8, hF⟩ := hF
  refine zq_getI (j := 2) (pc' := 14) C zq_K3 zq_in3w (Or.inr ⟨"FlipPolygons", by decide +kernel⟩) (by decide) rfl dX5_hasDistance_11 rfl e_8 ?_
  refine zq_iconst (pc' := 15) C (-1) dX5_hasDistance_14 rfl (by decide) ?_
  refine zq_ixor (pc' := 16) C dX5_hasDistance_15 rfl ?_
  refine zq_iand (pc' := 17) C dX5_hasDistance_16 rfl ?_
  refine zq_if_ne (pc' := 20) C 24 dX5_hasDistance_17 (by decide) rfl (fun c_9 => ?_) (fun c_9 => ?_)
  · have hF := (zq_ifn hF c_9)
    skip
    refine zq_iconst (pc' := 25) C 0 dX5_hasDistance_24 rfl (by decide) ?_
    have hF := Option.some.inj hF
    subst hF
    exact hE _ _ _ _ (Nat.le_of_ble_eq_true rfl) (Nat.le_of_ble_eq_true rfl) dX5_hasDistance_25
  · have hF := (zq_ifp hF c_9)
    refine zq_iconst (pc' := 21) C 1 dX5_hasDistance_20 rfl (by decide) ?_
    refine zq_goto C 25 dX5_hasDistance_21 (by decide) ?_
    have hF := Option.some.inj hF
    subst hF
    exact hE _ _ _ _ (Nat.le_of_ble_eq_true rfl) (Nat.le_of_ble_eq_true rfl) dX5_hasDistance_25
theorem c_X5_hasDistance {h : zq_H} {t : Nat} {out : Bool} (hF : f_X5_hasDistance h t = some out) : zq_M none yX5_hasDistance (Cond.code yX5_hasDistance cX5_hasDistance 1 (some .boolean) :: zq_all) rm_X5_hasDistance [.ref t] h (some (.int (zq_b out))) h := zq_met2 (own := RX5) (by decide +kernel) rfl (Nat.le_of_ble_eq_true rfl) rfl ⟨.boolean, rfl, by cases out <;> rfl⟩ (fun X C T hn hE => v_X5_hasDistance C T hn hF hE)
theorem yv_X5_hasDistance : zq_calV yX5_hasDistance RX5 cX5_hasDistance 1 (some .boolean) 0 := ⟨by decide +kernel, wd_287, wd_293, wd_294, wd_95⟩
def f_X5_reachWithLocks (h : zq_H) (t : Nat) : Option (Nat × zq_H) := (Option.bind (zq_gr h t 5 1) fun v_1 => (Option.bind (zq_gi h v_1 3 3) fun v_3 => (if v_3 = 0 then (Option.bind (zq_gr h t 5 7) fun v_23 => (Option.bind (zq_gr h t 5 1) fun v_25 => (Option.bind (zq_gr h v_25 3 0) fun v_27 => (Option.bind (zq_gr h t 5 1) fun v_29 => (Option.bind (zq_gi h v_29 3 2) fun v_31 => (Option.bind (zq_gr h t 5 1) fun v_33 => (Option.bind (zq_gi h v_33 3 3) fun v_35 => (zq_ck h v_23 2 fun _ => (Option.bind (f_X2_measure h v_23 v_27 v_31 v_35) fun v_37 => some ((v_23, v_37))))))))))) else (Option.bind (zq_gr h t 5 8) fun v_6 => (Option.bind (zq_gr h t 5 1) fun v_8 => (Option.bind (zq_gr h v_8 3 0) fun v_10 => (Option.bind (zq_gr h t 5 1) fun v_12 => (Option.bind (zq_gi h v_12 3 2) fun v_14 => (Option.bind (zq_gr h t 5 1) fun v_16 => (Option.bind (zq_gi h v_16 3 3) fun v_18 => (zq_ck h v_6 2 fun _ => (Option.bind (f_X2_measure h v_6 v_10 v_14 v_18) fun v_20 => some ((v_6, v_20))))))))))))))
abbrev rm_X5_reachWithLocks : Room := { frames := 3, cells := 0, slots := 0, locals := 76 }
theorem dX5_reachWithLocks_0 : decode cX5_reachWithLocks 0 = .ok (.aload_n 0, 1) := by decide +kernel
theorem dX5_reachWithLocks_1 : decode cX5_reachWithLocks 1 = .ok (.getfield 30, 3) := by decide +kernel
theorem dX5_reachWithLocks_4 : decode cX5_reachWithLocks 4 = .ok (.getfield 116, 3) := by decide +kernel
theorem dX5_reachWithLocks_7 : decode cX5_reachWithLocks 7 = .ok (.ifCond .ne 10, 3) := by decide +kernel
theorem dX5_reachWithLocks_10 : decode cX5_reachWithLocks 10 = .ok (.aload_n 0, 1) := by decide +kernel
theorem dX5_reachWithLocks_11 : decode cX5_reachWithLocks 11 = .ok (.getfield 60, 3) := by decide +kernel
theorem dX5_reachWithLocks_14 : decode cX5_reachWithLocks 14 = .ok (.goto 7, 3) := by decide +kernel
theorem dX5_reachWithLocks_17 : decode cX5_reachWithLocks 17 = .ok (.aload_n 0, 1) := by decide +kernel
theorem dX5_reachWithLocks_18 : decode cX5_reachWithLocks 18 = .ok (.getfield 63, 3) := by decide +kernel
theorem dX5_reachWithLocks_21 : decode cX5_reachWithLocks 21 = .ok (.astore_n 1, 1) := by decide +kernel
theorem dX5_reachWithLocks_22 : decode cX5_reachWithLocks 22 = .ok (.aload_n 1, 1) := by decide +kernel
theorem dX5_reachWithLocks_23 : decode cX5_reachWithLocks 23 = .ok (.aload_n 0, 1) := by decide +kernel
theorem dX5_reachWithLocks_24 : decode cX5_reachWithLocks 24 = .ok (.getfield 30, 3) := by decide +kernel
theorem dX5_reachWithLocks_27 : decode cX5_reachWithLocks 27 = .ok (.getfield 83, 3) := by decide +kernel
theorem dX5_reachWithLocks_30 : decode cX5_reachWithLocks 30 = .ok (.aload_n 0, 1) := by decide +kernel
theorem dX5_reachWithLocks_31 : decode cX5_reachWithLocks 31 = .ok (.getfield 30, 3) := by decide +kernel
theorem dX5_reachWithLocks_34 : decode cX5_reachWithLocks 34 = .ok (.getfield 157, 3) := by decide +kernel
theorem dX5_reachWithLocks_37 : decode cX5_reachWithLocks 37 = .ok (.aload_n 0, 1) := by decide +kernel
theorem dX5_reachWithLocks_38 : decode cX5_reachWithLocks 38 = .ok (.getfield 30, 3) := by decide +kernel
theorem dX5_reachWithLocks_41 : decode cX5_reachWithLocks 41 = .ok (.getfield 116, 3) := by decide +kernel
theorem dX5_reachWithLocks_44 : decode cX5_reachWithLocks 44 = .ok (.invokevirtual 303, 3) := by decide +kernel
theorem dX5_reachWithLocks_47 : decode cX5_reachWithLocks 47 = .ok (.aload_n 1, 1) := by decide +kernel
theorem dX5_reachWithLocks_48 : decode cX5_reachWithLocks 48 = .ok (.areturn, 1) := by decide +kernel
set_option maxRecDepth 100000 in
set_option maxHeartbeats 4000000 in
theorem v_X5_reachWithLocks {X : zq_X} (C : zq_C X RX5 cX5_reachWithLocks 2 zq_all rm_X5_reachWithLocks) {h : zq_H} {t : Nat} (T : zq_T X none) (hn : X.2.2.2.2.2.2.2.2.1.name = yX5_reachWithLocks.name) {out : (Nat × zq_H)} (hF : f_X5_reachWithLocks h t = some out) (hE : zq_End X cX5_reachWithLocks 0 0 (some (.ref out.1)) out.2) : zq_W X 0 0 h 0 [(0, .ref t)] [] := by
  unfold f_X5_reachWithLocks at hF
  refine zq_aload_n (pc' := 1) C dX5_reachWithLocks_0 rfl rfl rfl ?_
  replace hF := zq_bd hF; obtain ⟨v_1, e_2, hF⟩ := hF
  refine zq_getR (j := 1) (pc' := 4) C zq_K5 zq_in5w (Or.inl wd_210) (by decide) rfl dX5_reachWithLocks_1 rfl e_2 ?_
  replace hF := zq_bd hF; obtain ⟨v_3, e_4, hF⟩ := hF
  refine zq_getI (j := 3) (pc' := 7) C zq_K3 zq_in3w (Or.inr ⟨"FlipPolygons", by decide +kernel⟩) (by decide) rfl dX5_reachWithLocks_4 rfl e_4 ?_
  refine zq_if_ne (pc' := 10) C 17 dX5_reachWithLocks_7 (by decide) rfl (fun c_5 => ?_) (fun c_5 => ?_)
  · have hF := (zq_ifn hF c_5)
    skip
    refine zq_aload_n (pc' := 18) C dX5_reachWithLocks_17 rfl rfl rfl ?_
    replace hF := zq_bd hF; obtain ⟨v_6, e_7, hF⟩ := hF
    refine zq_getR (j := 8) (pc' := 21) C zq_K5 zq_in5w (Or.inl wd_220) (by decide) rfl dX5_reachWithLocks_18 rfl e_7 ?_
    refine zq_astore_n (lv' := [(1, .ref v_6), (0, .ref t)]) (pc' := 22) C dX5_reachWithLocks_21 rfl rfl (by decide) rfl rfl ?_
    refine zq_aload_n (pc' := 23) C dX5_reachWithLocks_22 rfl rfl rfl ?_
    refine zq_aload_n (pc' := 24) C dX5_reachWithLocks_23 rfl rfl rfl ?_
    replace hF := zq_bd hF; obtain ⟨v_8, e_9, hF⟩ := hF
    refine zq_getR (j := 1) (pc' := 27) C zq_K5 zq_in5w (Or.inl wd_210) (by decide) rfl dX5_reachWithLocks_24 rfl e_9 ?_
    replace hF := zq_bd hF; obtain ⟨v_10, e_11, hF⟩ := hF
    refine zq_getR (j := 0) (pc' := 30) C zq_K3 zq_in3w (Or.inr ⟨"FlipPolygons", by decide +kernel⟩) (by decide) rfl dX5_reachWithLocks_27 rfl e_11 ?_
    refine zq_aload_n (pc' := 31) C dX5_reachWithLocks_30 rfl rfl rfl ?_
    replace hF := zq_bd hF; obtain ⟨v_12, e_13, hF⟩ := hF
    refine zq_getR (j := 1) (pc' := 34) C zq_K5 zq_in5w (Or.inl wd_210) (by decide) rfl dX5_reachWithLocks_31 rfl e_13 ?_
    replace hF := zq_bd hF; obtain ⟨v_14, e_15, hF⟩ := hF
    refine zq_getI (j := 2) (pc' := 37) C zq_K3 zq_in3w (Or.inr ⟨"FlipPolygons", by decide +kernel⟩) (by decide) rfl dX5_reachWithLocks_34 rfl e_15 ?_
    refine zq_aload_n (pc' := 38) C dX5_reachWithLocks_37 rfl rfl rfl ?_
    replace hF := zq_bd hF; obtain ⟨v_16, e_17, hF⟩ := hF
    refine zq_getR (j := 1) (pc' := 41) C zq_K5 zq_in5w (Or.inl wd_210) (by decide) rfl dX5_reachWithLocks_38 rfl e_17 ?_
    replace hF := zq_bd hF; obtain ⟨v_18, e_19, hF⟩ := hF
    refine zq_getI (j := 3) (pc' := 44) C zq_K3 zq_in3w (Or.inr ⟨"FlipPolygons", by decide +kernel⟩) (by decide) rfl dX5_reachWithLocks_41 rfl e_19 ?_
    replace hF := zq_ck_e hF; obtain ⟨e_22, hF⟩ := hF
    replace hF := zq_bd hF; obtain ⟨v_20, e_21, hF⟩ := hF
    refine zq_cV (pc' := 47) C (c_X2_measure e_21) yv_X2_measure wd_288 zq_K2 e_22 dX5_reachWithLocks_44 rfl rfl rfl ⟨Nat.le_of_ble_eq_true rfl, Nat.le_of_ble_eq_true rfl⟩ (Nat.le_of_ble_eq_true rfl) ⟨rfl, rfl⟩ ⟨Nat.le_of_ble_eq_true rfl, Nat.le_of_ble_eq_true rfl⟩ rfl ?_
    refine zq_aload_n (pc' := 48) C dX5_reachWithLocks_47 rfl rfl rfl ?_
    have hF := Option.some.inj hF
    subst hF
    exact hE _ _ _ _ (Nat.le_of_ble_eq_true rfl) (Nat.le_of_ble_eq_true rfl) dX5_reachWithLocks_48
  · have hF := (zq_ifp hF c_5)
    refine zq_aload_n (pc' := 11) C dX5_reachWithLocks_10 rfl rfl rfl ?_
    replace hF := zq_bd hF; obtain ⟨v_23, e_24, hF⟩ := hF
    refine zq_getR (j := 7) (pc' := 14) C zq_K5 zq_in5w (Or.inl wd_219) (by decide) rfl dX5_reachWithLocks_11 rfl e_24 ?_
    refine zq_goto C 21 dX5_reachWithLocks_14 (by decide) ?_
    refine zq_astore_n (lv' := [(1, .ref v_23), (0, .ref t)]) (pc' := 22) C dX5_reachWithLocks_21 rfl rfl (by decide) rfl rfl ?_
    refine zq_aload_n (pc' := 23) C dX5_reachWithLocks_22 rfl rfl rfl ?_
    refine zq_aload_n (pc' := 24) C dX5_reachWithLocks_23 rfl rfl rfl ?_
    replace hF := zq_bd hF; obtain ⟨v_25, e_26, hF⟩ := hF
    refine zq_getR (j := 1) (pc' := 27) C zq_K5 zq_in5w (Or.inl wd_210) (by decide) rfl dX5_reachWithLocks_24 rfl e_26 ?_
    replace hF := zq_bd hF; obtain ⟨v_27, e_28, hF⟩ := hF
    refine zq_getR (j := 0) (pc' := 30) C zq_K3 zq_in3w (Or.inr ⟨"FlipPolygons", by decide +kernel⟩) (by decide) rfl dX5_reachWithLocks_27 rfl e_28 ?_
    refine zq_aload_n (pc' := 31) C dX5_reachWithLocks_30 rfl rfl rfl ?_
    replace hF := zq_bd hF; obtain ⟨v_29, e_30, hF⟩ := hF
    refine zq_getR (j := 1) (pc' := 34) C zq_K5 zq_in5w (Or.inl wd_210) (by decide) rfl dX5_reachWithLocks_31 rfl e_30 ?_
    replace hF := zq_bd hF; obtain ⟨v_31, e_32, hF⟩ := hF
    refine zq_getI (j := 2) (pc' := 37) C zq_K3 zq_in3w (Or.inr ⟨"FlipPolygons", by decide +kernel⟩) (by decide) rfl dX5_reachWithLocks_34 rfl e_32 ?_
    refine zq_aload_n (pc' := 38) C dX5_reachWithLocks_37 rfl rfl rfl ?_
    replace hF := zq_bd hF; obtain ⟨v_33, e_34, hF⟩ := hF
    refine zq_getR (j := 1) (pc' := 41) C zq_K5 zq_in5w (Or.inl wd_210) (by decide) rfl dX5_reachWithLocks_38 rfl e_34 ?_
    replace hF := zq_bd hF; obtain ⟨v_35, e_36, hF⟩ := hF
    refine zq_getI (j := 3) (pc' := 44) C zq_K3 zq_in3w (Or.inr ⟨"FlipPolygons", by decide +kernel⟩) (by decide) rfl dX5_reachWithLocks_41 rfl e_36 ?_
    replace hF := zq_ck_e hF; obtain ⟨e_39, hF⟩ := hF
    replace hF := zq_bd hF; obtain ⟨v_37, e_38, hF⟩ := hF
    refine zq_cV (pc' := 47) C (c_X2_measure e_38) yv_X2_measure wd_288 zq_K2 e_39 dX5_reachWithLocks_44 rfl rfl rfl ⟨Nat.le_of_ble_eq_true rfl, Nat.le_of_ble_eq_true rfl⟩ (Nat.le_of_ble_eq_true rfl) ⟨rfl, rfl⟩ ⟨Nat.le_of_ble_eq_true rfl, Nat.le_of_ble_eq_true rfl⟩ rfl ?_
    refine zq_aload_n (pc' := 48) C dX5_reachWithLocks_47 rfl rfl rfl ?_
    have hF := Option.some.inj hF
    subst hF
    exact hE _ _ _ _ (Nat.le_of_ble_eq_true rfl) (Nat.le_of_ble_eq_true rfl) dX5_reachWithLocks_48
theorem c_X5_reachWithLocks {h : zq_H} {t : Nat} {out : (Nat × zq_H)} (hF : f_X5_reachWithLocks h t = some out) : zq_M none yX5_reachWithLocks (Cond.code yX5_reachWithLocks cX5_reachWithLocks 2 (some (.object "FlipPolygons$Reach")) :: zq_all) rm_X5_reachWithLocks [.ref t] h (some (.ref out.1)) out.2 := zq_met2 (own := RX5) (by decide +kernel) rfl (Nat.le_of_ble_eq_true rfl) rfl ⟨_, rfl⟩ (fun X C T hn hE => v_X5_reachWithLocks C T hn hF hE)
theorem yv_X5_reachWithLocks : zq_calV yX5_reachWithLocks RX5 cX5_reachWithLocks 2 (some (.object "FlipPolygons$Reach")) 0 := ⟨by decide +kernel, wd_964, wd_296, wd_297, wd_95⟩
def f_X5_distanceWithLocks (h : zq_H) (t : Nat) : Option (Int32 × zq_H) := (zq_ck h t 5 fun _ => (Option.bind (f_X5_hasDistance h t) fun v_1 => (if v_1 = false then some (((-1), h)) else (zq_ck h t 5 fun _ => (Option.bind (f_X5_reachWithLocks h t) fun v_5 => (Option.bind (zq_gr v_5.2 t 5 1) fun v_8 => (Option.bind (zq_gi v_5.2 v_8 3 1) fun v_10 => (zq_ck v_5.2 v_5.1 2 fun _ => (Option.bind (f_X2_flipsTo v_5.2 v_5.1 v_10) fun v_12 => some ((v_12, v_5.2)))))))))))
abbrev rm_X5_distanceWithLocks : Room := { frames := 4, cells := 0, slots := 0, locals := 97 }
theorem dX5_distanceWithLocks_0 : decode cX5_distanceWithLocks 0 = .ok (.aload_n 0, 1) := by decide +kernel
theorem dX5_distanceWithLocks_1 : decode cX5_distanceWithLocks 1 = .ok (.invokevirtual 307, 3) := by decide +kernel
theorem dX5_distanceWithLocks_4 : decode cX5_distanceWithLocks 4 = .ok (.ifCond .eq 20, 3) := by decide +kernel
theorem dX5_distanceWithLocks_7 : decode cX5_distanceWithLocks 7 = .ok (.aload_n 0, 1) := by decide +kernel
theorem dX5_distanceWithLocks_8 : decode cX5_distanceWithLocks 8 = .ok (.invokevirtual 310, 3) := by decide +kernel
theorem dX5_distanceWithLocks_11 : decode cX5_distanceWithLocks 11 = .ok (.aload_n 0, 1) := by decide +kernel
theorem dX5_distanceWithLocks_12 : decode cX5_distanceWithLocks 12 = .ok (.getfield 30, 3) := by decide +kernel
theorem dX5_distanceWithLocks_15 : decode cX5_distanceWithLocks 15 = .ok (.getfield 160, 3) := by decide +kernel
theorem dX5_distanceWithLocks_18 : decode cX5_distanceWithLocks 18 = .ok (.invokevirtual 314, 3) := by decide +kernel
theorem dX5_distanceWithLocks_21 : decode cX5_distanceWithLocks 21 = .ok (.goto 4, 3) := by decide +kernel
theorem dX5_distanceWithLocks_24 : decode cX5_distanceWithLocks 24 = .ok (.iconst (-1), 1) := by decide +kernel
theorem dX5_distanceWithLocks_25 : decode cX5_distanceWithLocks 25 = .ok (.ireturn, 1) := by decide +kernel
set_option maxRecDepth 100000 in
set_option maxHeartbeats 4000000 in
theorem v_X5_distanceWithLocks {X : zq_X} (C : zq_C X RX5 cX5_distanceWithLocks 1 zq_all rm_X5_distanceWithLocks) {h : zq_H} {t : Nat} (T : zq_T X none) (hn : X.2.2.2.2.2.2.2.2.1.name = yX5_distanceWithLocks.name) {out : (Int32 × zq_H)} (hF : f_X5_distanceWithLocks h t = some out) (hE : zq_End X cX5_distanceWithLocks 0 0 (some (.int out.1)) out.2) : zq_W X 0 0 h 0 [(0, .ref t)] [] := by
  unfold f_X5_distanceWithLocks at hF
  refine zq_aload_n (pc' := 1) C dX5_distanceWithLocks_0 rfl rfl rfl ?_
  replace hF := zq_ck_e hF; obtain ⟨e_3, hF⟩ := hF
  replace hF := zq_bd hF; obtain ⟨v_1, e_2, hF⟩ := hF
  refine zq_cV (pc' := 4) C (c_X5_hasDistance e_2) yv_X5_hasDistance wd_292 zq_K5 e_3 dX5_distanceWithLocks_1 rfl rfl rfl ⟨Nat.le_of_ble_eq_true rfl, Nat.le_of_ble_eq_true rfl⟩ (Nat.le_of_ble_eq_true rfl) ⟨rfl, rfl⟩ ⟨Nat.le_of_ble_eq_true rfl, Nat.le_of_ble_eq_true rfl⟩ rfl ?_
  refine zq_if_eq (pc' := 7) C 24 dX5_distanceWithLocks_4 (by decide) rfl (fun c_4 => ?_) (fun c_4 => ?_)
  · have hF := (zq_ifp hF (zq_b0.mp c_4))
    skip
    refine zq_iconst (pc' := 25) C (-1) dX5_distanceWithLocks_24 rfl (by decide) ?_
    have hF := Option.some.inj hF
    subst hF
    exact hE _ _ _ _ (Nat.le_of_ble_eq_true rfl) (Nat.le_of_ble_eq_true rfl) dX5_distanceWithLocks_25
  · have hF := (zq_ifn hF (fun q => c_4 (zq_b0.mpr q)))
    refine zq_aload_n (pc' := 8) C dX5_distanceWithLocks_7 rfl rfl rfl ?_
    replace hF := zq_ck_e hF; obtain ⟨e_7, hF⟩ := hF
    replace hF := zq_bd hF; obtain ⟨v_5, e_6, hF⟩ := hF
    refine zq_cV (pc' := 11) C (c_X5_reachWithLocks e_6) yv_X5_reachWithLocks wd_295 zq_K5 e_7 dX5_distanceWithLocks_8 rfl rfl rfl ⟨Nat.le_of_ble_eq_true rfl, Nat.le_of_ble_eq_true rfl⟩ (Nat.le_of_ble_eq_true rfl) ⟨rfl, rfl⟩ ⟨Nat.le_of_ble_eq_true rfl, Nat.le_of_ble_eq_true rfl⟩ rfl ?_
    refine zq_aload_n (pc' := 12) C dX5_distanceWithLocks_11 rfl rfl rfl ?_
    replace hF := zq_bd hF; obtain ⟨v_8, e_9, hF⟩ := hF
    refine zq_getR (j := 1) (pc' := 15) C zq_K5 zq_in5w (Or.inl wd_210) (by decide) rfl dX5_distanceWithLocks_12 rfl e_9 ?_
    replace hF := zq_bd hF; obtain ⟨v_10, e_11, hF⟩ := hF
    refine zq_getI (j := 1) (pc' := 18) C zq_K3 zq_in3w (Or.inr ⟨"FlipPolygons", by decide +kernel⟩) (by decide) rfl dX5_distanceWithLocks_15 rfl e_11 ?_
    replace hF := zq_ck_e hF; obtain ⟨e_14, hF⟩ := hF
    replace hF := zq_bd hF; obtain ⟨v_12, e_13, hF⟩ := hF
    refine zq_cV (pc' := 21) C (c_X2_flipsTo e_13) yv_X2_flipsTo wd_298 zq_K2 e_14 dX5_distanceWithLocks_18 rfl rfl rfl ⟨Nat.le_of_ble_eq_true rfl, Nat.le_of_ble_eq_true rfl⟩ (Nat.le_of_ble_eq_true rfl) ⟨rfl, rfl⟩ ⟨Nat.le_of_ble_eq_true rfl, Nat.le_of_ble_eq_true rfl⟩ rfl ?_
    refine zq_goto C 25 dX5_distanceWithLocks_21 (by decide) ?_
    have hF := Option.some.inj hF
    subst hF
    exact hE _ _ _ _ (Nat.le_of_ble_eq_true rfl) (Nat.le_of_ble_eq_true rfl) dX5_distanceWithLocks_25
theorem c_X5_distanceWithLocks {h : zq_H} {t : Nat} {out : (Int32 × zq_H)} (hF : f_X5_distanceWithLocks h t = some out) : zq_M none yX5_distanceWithLocks (Cond.code yX5_distanceWithLocks cX5_distanceWithLocks 1 (some .int) :: zq_all) rm_X5_distanceWithLocks [.ref t] h (some (.int out.1)) out.2 := zq_met2 (own := RX5) (by decide +kernel) rfl (Nat.le_of_ble_eq_true rfl) rfl ⟨.int, rfl, rfl⟩ (fun X C T hn hE => v_X5_distanceWithLocks C T hn hF hE)
theorem yv_X5_distanceWithLocks : zq_calV yX5_distanceWithLocks RX5 cX5_distanceWithLocks 1 (some .int) 0 := ⟨by decide +kernel, wd_301, wd_304, wd_305, wd_95⟩
def f_X5_nextFlip (h : zq_H) (t : Nat) : Option (Int32 × zq_H) := (zq_ck h t 5 fun _ => (Option.bind (f_X5_hasDistance h t) fun v_1 => (if v_1 = false then some (((-1), h)) else (zq_ck h t 5 fun _ => (Option.bind (f_X5_reachWithLocks h t) fun v_5 => (Option.bind (zq_gr v_5.2 t 5 1) fun v_8 => (Option.bind (zq_gi v_5.2 v_8 3 1) fun v_10 => (zq_ck v_5.2 v_5.1 2 fun _ => (Option.bind (f_X2_flipsTo v_5.2 v_5.1 v_10) fun v_12 => (zq_let (v_12 - 1) fun v_15 => (if 0 ≤ v_15 then (Option.bind (zq_gr v_5.2 t 5 1) fun v_18 => (Option.bind (zq_gr v_5.2 v_18 3 0) fun v_20 => (Option.bind (zq_gr v_5.2 v_20 0 0) fun v_22 => (Option.bind (zq_gr v_5.2 t 5 1) fun v_24 => (Option.bind (zq_gi v_5.2 v_24 3 1) fun v_26 => (Option.bind (zq_gr v_5.2 t 5 1) fun v_28 => (Option.bind (zq_gi v_5.2 v_28 3 3) fun v_30 => (zq_let (v_26 &&& (v_30 ^^^ (-1))) fun v_32 => ((zq_lp (σ := Int32) (ρ := (Unit) ⊕ (Int32 × zq_H)) (fun s_34 => (Option.bind (zq_gi v_5.2 v_22 1 1) fun v_42 => (if v_42 ≤ s_34 then some (.inr (.inl ())) else (Option.bind (f_X5_isIn v_5.2 v_32 s_34) fun v_45 => (if v_45 = false then (zq_let (s_34 + 1) fun v_48 => some (.inl v_48)) else (Option.bind (zq_gr v_5.2 t 5 1) fun v_50 => (Option.bind (zq_gi v_5.2 v_50 3 1) fun v_52 => (zq_ck v_5.2 v_22 1 fun _ => (Option.bind (f_X1_flipped v_5.2 v_22 v_52 s_34) fun v_54 => (zq_ck v_5.2 v_5.1 2 fun _ => (Option.bind (f_X2_flipsTo v_5.2 v_5.1 v_54) fun v_57 => (if v_57 = v_15 then some (.inr (.inr ((s_34, v_5.2)))) else (zq_let (s_34 + 1) fun v_61 => some (.inl v_61)))))))))))))) zq_N 0).bind (Sum.elim (fun y_37 : Unit => some (((-1), v_5.2))) (fun z_38 => some z_38))))))))))) else some (((-1), v_5.2)))))))))))))
abbrev rm_X5_nextFlip : Room := { frames := 4, cells := 0, slots := 0, locals := 97 }
theorem dX5_nextFlip_0 : decode cX5_nextFlip 0 = .ok (.aload_n 0, 1) := by decide +kernel
theorem dX5_nextFlip_1 : decode cX5_nextFlip 1 = .ok (.invokevirtual 307, 3) := by decide +kernel
theorem dX5_nextFlip_4 : decode cX5_nextFlip 4 = .ok (.ifCond .ne 5, 3) := by decide +kernel
theorem dX5_nextFlip_7 : decode cX5_nextFlip 7 = .ok (.iconst (-1), 1) := by decide +kernel
theorem dX5_nextFlip_8 : decode cX5_nextFlip 8 = .ok (.ireturn, 1) := by decide +kernel
theorem dX5_nextFlip_9 : decode cX5_nextFlip 9 = .ok (.aload_n 0, 1) := by decide +kernel
theorem dX5_nextFlip_10 : decode cX5_nextFlip 10 = .ok (.invokevirtual 310, 3) := by decide +kernel
theorem dX5_nextFlip_13 : decode cX5_nextFlip 13 = .ok (.astore_n 1, 1) := by decide +kernel
theorem dX5_nextFlip_14 : decode cX5_nextFlip 14 = .ok (.aload_n 1, 1) := by decide +kernel
theorem dX5_nextFlip_15 : decode cX5_nextFlip 15 = .ok (.aload_n 0, 1) := by decide +kernel
theorem dX5_nextFlip_16 : decode cX5_nextFlip 16 = .ok (.getfield 30, 3) := by decide +kernel
theorem dX5_nextFlip_19 : decode cX5_nextFlip 19 = .ok (.getfield 160, 3) := by decide +kernel
theorem dX5_nextFlip_22 : decode cX5_nextFlip 22 = .ok (.invokevirtual 314, 3) := by decide +kernel
theorem dX5_nextFlip_25 : decode cX5_nextFlip 25 = .ok (.iconst 1, 1) := by decide +kernel
theorem dX5_nextFlip_26 : decode cX5_nextFlip 26 = .ok (.isub, 1) := by decide +kernel
theorem dX5_nextFlip_27 : decode cX5_nextFlip 27 = .ok (.istore_n 2, 1) := by decide +kernel
theorem dX5_nextFlip_28 : decode cX5_nextFlip 28 = .ok (.iload_n 2, 1) := by decide +kernel
theorem dX5_nextFlip_29 : decode cX5_nextFlip 29 = .ok (.ifCond .ge 5, 3) := by decide +kernel
theorem dX5_nextFlip_32 : decode cX5_nextFlip 32 = .ok (.iconst (-1), 1) := by decide +kernel
theorem dX5_nextFlip_33 : decode cX5_nextFlip 33 = .ok (.ireturn, 1) := by decide +kernel
theorem dX5_nextFlip_34 : decode cX5_nextFlip 34 = .ok (.aload_n 0, 1) := by decide +kernel
theorem dX5_nextFlip_35 : decode cX5_nextFlip 35 = .ok (.getfield 30, 3) := by decide +kernel
theorem dX5_nextFlip_38 : decode cX5_nextFlip 38 = .ok (.getfield 83, 3) := by decide +kernel
theorem dX5_nextFlip_41 : decode cX5_nextFlip 41 = .ok (.getfield 87, 3) := by decide +kernel
theorem dX5_nextFlip_44 : decode cX5_nextFlip 44 = .ok (.astore_n 3, 1) := by decide +kernel
theorem dX5_nextFlip_45 : decode cX5_nextFlip 45 = .ok (.aload_n 0, 1) := by decide +kernel
theorem dX5_nextFlip_46 : decode cX5_nextFlip 46 = .ok (.getfield 30, 3) := by decide +kernel
theorem dX5_nextFlip_49 : decode cX5_nextFlip 49 = .ok (.getfield 160, 3) := by decide +kernel
theorem dX5_nextFlip_52 : decode cX5_nextFlip 52 = .ok (.aload_n 0, 1) := by decide +kernel
theorem dX5_nextFlip_53 : decode cX5_nextFlip 53 = .ok (.getfield 30, 3) := by decide +kernel
theorem dX5_nextFlip_56 : decode cX5_nextFlip 56 = .ok (.getfield 116, 3) := by decide +kernel
theorem dX5_nextFlip_59 : decode cX5_nextFlip 59 = .ok (.iconst (-1), 1) := by decide +kernel
theorem dX5_nextFlip_60 : decode cX5_nextFlip 60 = .ok (.ixor, 1) := by decide +kernel
theorem dX5_nextFlip_61 : decode cX5_nextFlip 61 = .ok (.iand, 1) := by decide +kernel
theorem dX5_nextFlip_62 : decode cX5_nextFlip 62 = .ok (.istore 4, 2) := by decide +kernel
theorem dX5_nextFlip_64 : decode cX5_nextFlip 64 = .ok (.iconst 0, 1) := by decide +kernel
theorem dX5_nextFlip_65 : decode cX5_nextFlip 65 = .ok (.istore 5, 2) := by decide +kernel
theorem dX5_nextFlip_67 : decode cX5_nextFlip 67 = .ok (.iload 5, 2) := by decide +kernel
theorem dX5_nextFlip_69 : decode cX5_nextFlip 69 = .ok (.aload_n 3, 1) := by decide +kernel
theorem dX5_nextFlip_70 : decode cX5_nextFlip 70 = .ok (.getfield 320, 3) := by decide +kernel
theorem dX5_nextFlip_73 : decode cX5_nextFlip 73 = .ok (.if_icmp .ge 43, 3) := by decide +kernel
theorem dX5_nextFlip_76 : decode cX5_nextFlip 76 = .ok (.iload 4, 2) := by decide +kernel
theorem dX5_nextFlip_78 : decode cX5_nextFlip 78 = .ok (.iload 5, 2) := by decide +kernel
theorem dX5_nextFlip_80 : decode cX5_nextFlip 80 = .ok (.invokestatic 112, 3) := by decide +kernel
theorem dX5_nextFlip_83 : decode cX5_nextFlip 83 = .ok (.ifCond .eq 27, 3) := by decide +kernel
theorem dX5_nextFlip_86 : decode cX5_nextFlip 86 = .ok (.aload_n 1, 1) := by decide +kernel
theorem dX5_nextFlip_87 : decode cX5_nextFlip 87 = .ok (.aload_n 3, 1) := by decide +kernel
theorem dX5_nextFlip_88 : decode cX5_nextFlip 88 = .ok (.aload_n 0, 1) := by decide +kernel
theorem dX5_nextFlip_89 : decode cX5_nextFlip 89 = .ok (.getfield 30, 3) := by decide +kernel
theorem dX5_nextFlip_92 : decode cX5_nextFlip 92 = .ok (.getfield 160, 3) := by decide +kernel
theorem dX5_nextFlip_95 : decode cX5_nextFlip 95 = .ok (.iload 5, 2) := by decide +kernel
theorem dX5_nextFlip_97 : decode cX5_nextFlip 97 = .ok (.invokevirtual 278, 3) := by decide +kernel
theorem dX5_nextFlip_100 : decode cX5_nextFlip 100 = .ok (.invokevirtual 314, 3) := by decide +kernel
theorem dX5_nextFlip_103 : decode cX5_nextFlip 103 = .ok (.iload_n 2, 1) := by decide +kernel
theorem dX5_nextFlip_104 : decode cX5_nextFlip 104 = .ok (.if_icmp .ne 6, 3) := by decide +kernel
theorem dX5_nextFlip_107 : decode cX5_nextFlip 107 = .ok (.iload 5, 2) := by decide +kernel
theorem dX5_nextFlip_109 : decode cX5_nextFlip 109 = .ok (.ireturn, 1) := by decide +kernel
theorem dX5_nextFlip_110 : decode cX5_nextFlip 110 = .ok (.iinc 5 1, 3) := by decide +kernel
theorem dX5_nextFlip_113 : decode cX5_nextFlip 113 = .ok (.goto (-46), 3) := by decide +kernel
theorem dX5_nextFlip_116 : decode cX5_nextFlip 116 = .ok (.iconst (-1), 1) := by decide +kernel
theorem dX5_nextFlip_117 : decode cX5_nextFlip 117 = .ok (.ireturn, 1) := by decide +kernel
set_option maxRecDepth 100000 in
set_option maxHeartbeats 4000000 in
theorem v_X5_nextFlip {X : zq_X} (C : zq_C X RX5 cX5_nextFlip 6 zq_all rm_X5_nextFlip) {h : zq_H} {t : Nat} (T : zq_T X none) (hn : X.2.2.2.2.2.2.2.2.1.name = yX5_nextFlip.name) {out : (Int32 × zq_H)} (hF : f_X5_nextFlip h t = some out) (hE : zq_End X cX5_nextFlip 0 0 (some (.int out.1)) out.2) : zq_W X 0 0 h 0 [(0, .ref t)] [] := by
  unfold f_X5_nextFlip at hF
  refine zq_aload_n (pc' := 1) C dX5_nextFlip_0 rfl rfl rfl ?_
  replace hF := zq_ck_e hF; obtain ⟨e_3, hF⟩ := hF
  replace hF := zq_bd hF; obtain ⟨v_1, e_2, hF⟩ := hF
  refine zq_cV (pc' := 4) C (c_X5_hasDistance e_2) yv_X5_hasDistance wd_292 zq_K5 e_3 dX5_nextFlip_1 rfl rfl rfl ⟨Nat.le_of_ble_eq_true rfl, Nat.le_of_ble_eq_true rfl⟩ (Nat.le_of_ble_eq_true rfl) ⟨rfl, rfl⟩ ⟨Nat.le_of_ble_eq_true rfl, Nat.le_of_ble_eq_true rfl⟩ rfl ?_
  refine zq_if_ne (pc' := 7) C 9 dX5_nextFlip_4 (by decide) rfl (fun c_4 => ?_) (fun c_4 => ?_)
  · have hF := (zq_ifn hF (fun q => c_4 (zq_b0.mpr q)))
    skip
    refine zq_aload_n (pc' := 10) C dX5_nextFlip_9 rfl rfl rfl ?_
    replace hF := zq_ck_e hF; obtain ⟨e_7, hF⟩ := hF
    replace hF := zq_bd hF; obtain ⟨v_5, e_6, hF⟩ := hF
    refine zq_cV (pc' := 13) C (c_X5_reachWithLocks e_6) yv_X5_reachWithLocks wd_295 zq_K5 e_7 dX5_nextFlip_10 rfl rfl rfl ⟨Nat.le_of_ble_eq_true rfl, Nat.le_of_ble_eq_true rfl⟩ (Nat.le_of_ble_eq_true rfl) ⟨rfl, rfl⟩ ⟨Nat.le_of_ble_eq_true rfl, Nat.le_of_ble_eq_true rfl⟩ rfl ?_
    refine zq_astore_n (lv' := [(1, .ref v_5.1), (0, .ref t)]) (pc' := 14) C dX5_nextFlip_13 rfl rfl (by decide) rfl rfl ?_
    refine zq_aload_n (pc' := 15) C dX5_nextFlip_14 rfl rfl rfl ?_
    refine zq_aload_n (pc' := 16) C dX5_nextFlip_15 rfl rfl rfl ?_
    replace hF := zq_bd hF; obtain ⟨v_8, e_9, hF⟩ := hF
    refine zq_getR (j := 1) (pc' := 19) C zq_K5 zq_in5w (Or.inl wd_210) (by decide) rfl dX5_nextFlip_16 rfl e_9 ?_
    replace hF := zq_bd hF; obtain ⟨v_10, e_11, hF⟩ := hF
    refine zq_getI (j := 1) (pc' := 22) C zq_K3 zq_in3w (Or.inr ⟨"FlipPolygons", by decide +kernel⟩) (by decide) rfl dX5_nextFlip_19 rfl e_11 ?_
    replace hF := zq_ck_e hF; obtain ⟨e_14, hF⟩ := hF
    replace hF := zq_bd hF; obtain ⟨v_12, e_13, hF⟩ := hF
    refine zq_cV (pc' := 25) C (c_X2_flipsTo e_13) yv_X2_flipsTo wd_298 zq_K2 e_14 dX5_nextFlip_22 rfl rfl rfl ⟨Nat.le_of_ble_eq_true rfl, Nat.le_of_ble_eq_true rfl⟩ (Nat.le_of_ble_eq_true rfl) ⟨rfl, rfl⟩ ⟨Nat.le_of_ble_eq_true rfl, Nat.le_of_ble_eq_true rfl⟩ rfl ?_
    refine zq_iconst (pc' := 26) C 1 dX5_nextFlip_25 rfl (by decide) ?_
    refine zq_isub (pc' := 27) C dX5_nextFlip_26 rfl ?_
    replace hF := zq_let_e hF; obtain ⟨v_15, e_16, hF⟩ := hF
    refine zq_istore_n (lv' := [(2, .int v_15), (1, .ref v_5.1), (0, .ref t)]) (pc' := 28) C dX5_nextFlip_27 rfl rfl (by decide) e_16 rfl ?_
    refine zq_iload_n (pc' := 29) C dX5_nextFlip_28 rfl rfl rfl ?_
    refine zq_if_ge (pc' := 32) C 34 dX5_nextFlip_29 (by decide) rfl (fun c_17 => ?_) (fun c_17 => ?_)
    · have hF := (zq_ifp hF c_17)
      skip
      refine zq_aload_n (pc' := 35) C dX5_nextFlip_34 rfl rfl rfl ?_
      replace hF := zq_bd hF; obtain ⟨v_18, e_19, hF⟩ := hF
      refine zq_getR (j := 1) (pc' := 38) C zq_K5 zq_in5w (Or.inl wd_210) (by decide) rfl dX5_nextFlip_35 rfl e_19 ?_
      replace hF := zq_bd hF; obtain ⟨v_20, e_21, hF⟩ := hF
      refine zq_getR (j := 0) (pc' := 41) C zq_K3 zq_in3w (Or.inr ⟨"FlipPolygons", by decide +kernel⟩) (by decide) rfl dX5_nextFlip_38 rfl e_21 ?_
      replace hF := zq_bd hF; obtain ⟨v_22, e_23, hF⟩ := hF
      refine zq_getR (j := 0) (pc' := 44) C zq_K0 zq_in0w (Or.inr ⟨"FlipPolygons", by decide +kernel⟩) (by decide) rfl dX5_nextFlip_41 rfl e_23 ?_
      refine zq_astore_n (lv' := [(3, .ref v_22), (2, .int v_15), (1, .ref v_5.1), (0, .ref t)]) (pc' := 45) C dX5_nextFlip_44 rfl rfl (by decide) rfl rfl ?_
      refine zq_aload_n (pc' := 46) C dX5_nextFlip_45 rfl rfl rfl ?_
      replace hF := zq_bd hF; obtain ⟨v_24, e_25, hF⟩ := hF
      refine zq_getR (j := 1) (pc' := 49) C zq_K5 zq_in5w (Or.inl wd_210) (by decide) rfl dX5_nextFlip_46 rfl e_25 ?_
      replace hF := zq_bd hF; obtain ⟨v_26, e_27, hF⟩ := hF
      refine zq_getI (j := 1) (pc' := 52) C zq_K3 zq_in3w (Or.inr ⟨"FlipPolygons", by decide +kernel⟩) (by decide) rfl dX5_nextFlip_49 rfl e_27 ?_
      refine zq_aload_n (pc' := 53) C dX5_nextFlip_52 rfl rfl rfl ?_
      replace hF := zq_bd hF; obtain ⟨v_28, e_29, hF⟩ := hF
      refine zq_getR (j := 1) (pc' := 56) C zq_K5 zq_in5w (Or.inl wd_210) (by decide) rfl dX5_nextFlip_53 rfl e_29 ?_
      replace hF := zq_bd hF; obtain ⟨v_30, e_31, hF⟩ := hF
      refine zq_getI (j := 3) (pc' := 59) C zq_K3 zq_in3w (Or.inr ⟨"FlipPolygons", by decide +kernel⟩) (by decide) rfl dX5_nextFlip_56 rfl e_31 ?_
      refine zq_iconst (pc' := 60) C (-1) dX5_nextFlip_59 rfl (by decide) ?_
      refine zq_ixor (pc' := 61) C dX5_nextFlip_60 rfl ?_
      refine zq_iand (pc' := 62) C dX5_nextFlip_61 rfl ?_
      replace hF := zq_let_e hF; obtain ⟨v_32, e_33, hF⟩ := hF
      refine zq_istore (lv' := [(4, .int v_32), (3, .ref v_22), (2, .int v_15), (1, .ref v_5.1), (0, .ref t)]) (pc' := 64) C dX5_nextFlip_62 rfl (by decide) e_33 rfl ?_
      refine zq_iconst (pc' := 65) C 0 dX5_nextFlip_64 rfl (by decide) ?_
      refine zq_istore (lv' := [(5, .int 0), (4, .int v_32), (3, .ref v_22), (2, .int v_15), (1, .ref v_5.1), (0, .ref t)]) (pc' := 67) C dX5_nextFlip_65 rfl (by decide) rfl rfl ?_
      refine zq_sub [5, 4, 3, 2, 1, 0] rfl ?_
      replace hF := zq_bd hF; obtain ⟨r_35, e_36, hF⟩ := hF
      refine zq_lpW (fun s_34 => zq_W X 0 0 v_5.2 67 [(0, .ref t), (1, .ref v_5.1), (2, .int v_15), (3, .ref v_22), (4, .int v_32), (5, .int s_34)] []) (Sum.elim (fun y_37 => zq_W X 0 0 v_5.2 116 [] []) (fun z_38 => out = z_38)) e_36 (fun s_34 q_41 hF hrec_39 hex_40 => ?_) ?_
      · skip
        refine zq_iload (pc' := 69) C dX5_nextFlip_67 rfl rfl ?_
        refine zq_aload_n (pc' := 70) C dX5_nextFlip_69 rfl rfl rfl ?_
        replace hF := zq_bd hF; obtain ⟨v_42, e_43, hF⟩ := hF
        refine zq_getI (j := 1) (pc' := 73) C zq_K1 zq_in1w (Or.inr ⟨"FlipPolygons", by decide +kernel⟩) (by decide) rfl dX5_nextFlip_70 rfl e_43 ?_
        refine zq_icmp_ge (pc' := 76) C 116 dX5_nextFlip_73 (by decide) rfl (fun c_44 => ?_) (fun c_44 => ?_)
        · have hF := (zq_ifp hF c_44)
          skip
          cases hF
          exact zq_sub [] rfl (hex_40 _ rfl)
        · have hF := (zq_ifn hF c_44)
          refine zq_iload (pc' := 78) C dX5_nextFlip_76 rfl rfl ?_
          refine zq_iload (pc' := 80) C dX5_nextFlip_78 rfl rfl ?_
          replace hF := zq_bd hF; obtain ⟨v_45, e_46, hF⟩ := hF
          refine zq_cS (pc' := 83) C (c_X5_isIn e_46) ys_X5_isIn wd_266 dX5_nextFlip_80 rfl rfl rfl ⟨Nat.le_of_ble_eq_true rfl, Nat.le_of_ble_eq_true rfl⟩ (Nat.le_of_ble_eq_true rfl) ⟨rfl, rfl⟩ ⟨Nat.le_of_ble_eq_true rfl, Nat.le_of_ble_eq_true rfl⟩ rfl ?_
          refine zq_if_eq (pc' := 86) C 110 dX5_nextFlip_83 (by decide) rfl (fun c_47 => ?_) (fun c_47 => ?_)
          · have hF := (zq_ifp hF (zq_b0.mp c_47))
            skip
            replace hF := zq_let_e hF; obtain ⟨v_48, e_49, hF⟩ := hF
            refine zq_iinc (lv' := [(5, .int v_48), (0, .ref t), (1, .ref v_5.1), (2, .int v_15), (3, .ref v_22), (4, .int v_32)]) (pc' := 113) C dX5_nextFlip_110 rfl (by decide) 5 rfl e_49 rfl ?_
            refine zq_goto C 67 dX5_nextFlip_113 (by decide) ?_
            cases hF
            exact zq_sub [1, 2, 3, 4, 5, 0] rfl (hrec_39 _ rfl)
          · have hF := (zq_ifn hF (fun q => c_47 (zq_b0.mpr q)))
            refine zq_aload_n (pc' := 87) C dX5_nextFlip_86 rfl rfl rfl ?_
            refine zq_aload_n (pc' := 88) C dX5_nextFlip_87 rfl rfl rfl ?_
            refine zq_aload_n (pc' := 89) C dX5_nextFlip_88 rfl rfl rfl ?_
            replace hF := zq_bd hF; obtain ⟨v_50, e_51, hF⟩ := hF
            refine zq_getR (j := 1) (pc' := 92) C zq_K5 zq_in5w (Or.inl wd_210) (by decide) rfl dX5_nextFlip_89 rfl e_51 ?_
            replace hF := zq_bd hF; obtain ⟨v_52, e_53, hF⟩ := hF
            refine zq_getI (j := 1) (pc' := 95) C zq_K3 zq_in3w (Or.inr ⟨"FlipPolygons", by decide +kernel⟩) (by decide) rfl dX5_nextFlip_92 rfl e_53 ?_
            refine zq_iload (pc' := 97) C dX5_nextFlip_95 rfl rfl ?_
            replace hF := zq_ck_e hF; obtain ⟨e_56, hF⟩ := hF
            replace hF := zq_bd hF; obtain ⟨v_54, e_55, hF⟩ := hF
            refine zq_cV (pc' := 100) C (c_X1_flipped e_55) yv_X1_flipped wd_255 zq_K1 e_56 dX5_nextFlip_97 rfl rfl rfl ⟨Nat.le_of_ble_eq_true rfl, Nat.le_of_ble_eq_true rfl⟩ (Nat.le_of_ble_eq_true rfl) ⟨rfl, rfl⟩ ⟨Nat.le_of_ble_eq_true rfl, Nat.le_of_ble_eq_true rfl⟩ rfl ?_
            replace hF := zq_ck_e hF; obtain ⟨e_59, hF⟩ := hF
            replace hF := zq_bd hF; obtain ⟨v_57, e_58, hF⟩ := hF
            refine zq_cV (pc' := 103) C (c_X2_flipsTo e_58) yv_X2_flipsTo wd_298 zq_K2 e_59 dX5_nextFlip_100 rfl rfl rfl ⟨Nat.le_of_ble_eq_true rfl, Nat.le_of_ble_eq_true rfl⟩ (Nat.le_of_ble_eq_true rfl) ⟨rfl, rfl⟩ ⟨Nat.le_of_ble_eq_true rfl, Nat.le_of_ble_eq_true rfl⟩ rfl ?_
            refine zq_iload_n (pc' := 104) C dX5_nextFlip_103 rfl rfl rfl ?_
            refine zq_icmp_ne (pc' := 107) C 110 dX5_nextFlip_104 (by decide) rfl (fun c_60 => ?_) (fun c_60 => ?_)
            · have hF := (zq_ifn hF c_60)
              skip
              replace hF := zq_let_e hF; obtain ⟨v_61, e_62, hF⟩ := hF
              refine zq_iinc (lv' := [(5, .int v_61), (0, .ref t), (1, .ref v_5.1), (2, .int v_15), (3, .ref v_22), (4, .int v_32)]) (pc' := 113) C dX5_nextFlip_110 rfl (by decide) 5 rfl e_62 rfl ?_
              refine zq_goto C 67 dX5_nextFlip_113 (by decide) ?_
              cases hF
              exact zq_sub [1, 2, 3, 4, 5, 0] rfl (hrec_39 _ rfl)
            · have hF := (zq_ifp hF c_60)
              refine zq_iload (pc' := 109) C dX5_nextFlip_107 rfl rfl ?_
              cases hF
              have q9 : out = (s_34, v_5.2) := hex_40 _ rfl
              subst q9
              exact hE _ _ _ _ (Nat.le_of_ble_eq_true rfl) (Nat.le_of_ble_eq_true rfl) dX5_nextFlip_109
      · rcases r_35 with y_37 | z_38
        · dsimp only [Sum.elim_inl] at hF
          show zq_W X 0 0 v_5.2 116 [] []
          refine zq_iconst (pc' := 117) C (-1) dX5_nextFlip_116 rfl (by decide) ?_
          have hF := Option.some.inj hF
          subst hF
          exact hE _ _ _ _ (Nat.le_of_ble_eq_true rfl) (Nat.le_of_ble_eq_true rfl) dX5_nextFlip_117
        · cases hF; rfl
    · have hF := (zq_ifn hF c_17)
      refine zq_iconst (pc' := 33) C (-1) dX5_nextFlip_32 rfl (by decide) ?_
      have hF := Option.some.inj hF
      subst hF
      exact hE _ _ _ _ (Nat.le_of_ble_eq_true rfl) (Nat.le_of_ble_eq_true rfl) dX5_nextFlip_33
  · have hF := (zq_ifp hF (zq_b0.mp c_4))
    refine zq_iconst (pc' := 8) C (-1) dX5_nextFlip_7 rfl (by decide) ?_
    have hF := Option.some.inj hF
    subst hF
    exact hE _ _ _ _ (Nat.le_of_ble_eq_true rfl) (Nat.le_of_ble_eq_true rfl) dX5_nextFlip_8
theorem c_X5_nextFlip {h : zq_H} {t : Nat} {out : (Int32 × zq_H)} (hF : f_X5_nextFlip h t = some out) : zq_M none yX5_nextFlip (Cond.code yX5_nextFlip cX5_nextFlip 6 (some .int) :: zq_all) rm_X5_nextFlip [.ref t] h (some (.int out.1)) out.2 := zq_met2 (own := RX5) (by decide +kernel) rfl (Nat.le_of_ble_eq_true rfl) rfl ⟨.int, rfl, rfl⟩ (fun X C T hn hE => v_X5_nextFlip C T hn hF hE)
theorem yv_X5_nextFlip : zq_calV yX5_nextFlip RX5 cX5_nextFlip 6 (some .int) 0 := ⟨by decide +kernel, wd_302, wd_307, wd_308, wd_95⟩
def f_X5_clearBuffer (h : zq_H) (t : Nat) : Option (Int32 × zq_H) := (Option.bind (zq_gr h t 5 5) fun v_1 => (Option.bind (zq_gi h v_1 4 1) fun v_3 => (Option.bind (zq_gr h t 5 5) fun v_5 => (zq_ck h v_5 4 fun _ => (Option.bind (f_X4_clear h v_5) fun v_7 => some ((v_3, v_7)))))))
abbrev rm_X5_clearBuffer : Room := { frames := 1, cells := 0, slots := 0, locals := 20 }
theorem dX5_clearBuffer_0 : decode cX5_clearBuffer 0 = .ok (.aload_n 0, 1) := by decide +kernel
theorem dX5_clearBuffer_1 : decode cX5_clearBuffer 1 = .ok (.getfield 48, 3) := by decide +kernel
theorem dX5_clearBuffer_4 : decode cX5_clearBuffer 4 = .ok (.getfield 189, 3) := by decide +kernel
theorem dX5_clearBuffer_7 : decode cX5_clearBuffer 7 = .ok (.istore_n 1, 1) := by decide +kernel
theorem dX5_clearBuffer_8 : decode cX5_clearBuffer 8 = .ok (.aload_n 0, 1) := by decide +kernel
theorem dX5_clearBuffer_9 : decode cX5_clearBuffer 9 = .ok (.getfield 48, 3) := by decide +kernel
theorem dX5_clearBuffer_12 : decode cX5_clearBuffer 12 = .ok (.invokevirtual 192, 3) := by decide +kernel
theorem dX5_clearBuffer_15 : decode cX5_clearBuffer 15 = .ok (.iload_n 1, 1) := by decide +kernel
theorem dX5_clearBuffer_16 : decode cX5_clearBuffer 16 = .ok (.ireturn, 1) := by decide +kernel
set_option maxRecDepth 100000 in
set_option maxHeartbeats 4000000 in
theorem v_X5_clearBuffer {X : zq_X} (C : zq_C X RX5 cX5_clearBuffer 2 zq_all rm_X5_clearBuffer) {h : zq_H} {t : Nat} (T : zq_T X none) (hn : X.2.2.2.2.2.2.2.2.1.name = yX5_clearBuffer.name) {out : (Int32 × zq_H)} (hF : f_X5_clearBuffer h t = some out) (hE : zq_End X cX5_clearBuffer 0 0 (some (.int out.1)) out.2) : zq_W X 0 0 h 0 [(0, .ref t)] [] := by
  unfold f_X5_clearBuffer at hF
  refine zq_aload_n (pc' := 1) C dX5_clearBuffer_0 rfl rfl rfl ?_
  replace hF := zq_bd hF; obtain ⟨v_1, e_2, hF⟩ := hF
  refine zq_getR (j := 5) (pc' := 4) C zq_K5 zq_in5w (Or.inl wd_215) (by decide) rfl dX5_clearBuffer_1 rfl e_2 ?_
  replace hF := zq_bd hF; obtain ⟨v_3, e_4, hF⟩ := hF
  refine zq_getI (j := 1) (pc' := 7) C zq_K4 zq_in4w (Or.inr ⟨"FlipPolygons", by decide +kernel⟩) (by decide) rfl dX5_clearBuffer_4 rfl e_4 ?_
  refine zq_istore_n (lv' := [(1, .int v_3), (0, .ref t)]) (pc' := 8) C dX5_clearBuffer_7 rfl rfl (by decide) rfl rfl ?_
  refine zq_aload_n (pc' := 9) C dX5_clearBuffer_8 rfl rfl rfl ?_
  replace hF := zq_bd hF; obtain ⟨v_5, e_6, hF⟩ := hF
  refine zq_getR (j := 5) (pc' := 12) C zq_K5 zq_in5w (Or.inl wd_215) (by decide) rfl dX5_clearBuffer_9 rfl e_6 ?_
  replace hF := zq_ck_e hF; obtain ⟨e_9, hF⟩ := hF
  replace hF := zq_bd hF; obtain ⟨v_7, e_8, hF⟩ := hF
  refine zq_cV (pc' := 15) C (c_X4_clear e_8) yv_X4_clear wd_318 zq_K4 e_9 dX5_clearBuffer_12 rfl rfl rfl ⟨Nat.le_of_ble_eq_true rfl, Nat.le_of_ble_eq_true rfl⟩ (Nat.le_of_ble_eq_true rfl) ⟨rfl, rfl⟩ ⟨Nat.le_of_ble_eq_true rfl, Nat.le_of_ble_eq_true rfl⟩ rfl ?_
  refine zq_iload_n (pc' := 16) C dX5_clearBuffer_15 rfl rfl rfl ?_
  have hF := Option.some.inj hF
  subst hF
  exact hE _ _ _ _ (Nat.le_of_ble_eq_true rfl) (Nat.le_of_ble_eq_true rfl) dX5_clearBuffer_16
theorem c_X5_clearBuffer {h : zq_H} {t : Nat} {out : (Int32 × zq_H)} (hF : f_X5_clearBuffer h t = some out) : zq_M none yX5_clearBuffer (Cond.code yX5_clearBuffer cX5_clearBuffer 2 (some .int) :: zq_all) rm_X5_clearBuffer [.ref t] h (some (.int out.1)) out.2 := zq_met2 (own := RX5) (by decide +kernel) rfl (Nat.le_of_ble_eq_true rfl) rfl ⟨.int, rfl, rfl⟩ (fun X C T hn hE => v_X5_clearBuffer C T hn hF hE)
theorem yv_X5_clearBuffer : zq_calV yX5_clearBuffer RX5 cX5_clearBuffer 2 (some .int) 0 := ⟨by decide +kernel, wd_317, wd_838, wd_839, wd_95⟩
def f_X5_firstError (h : zq_H) (t : Nat) : Option Int32 := (Option.bind (zq_gr h t 5 5) fun v_1 => (Option.bind (zq_gr h t 5 1) fun v_3 => (Option.bind (zq_gr h v_3 3 0) fun v_5 => (Option.bind (zq_gr h v_5 0 0) fun v_7 => (zq_ck h v_1 4 fun _ => (Option.bind (f_X4_firstWrong h v_1 v_7) fun v_9 => some (v_9)))))))
abbrev rm_X5_firstError : Room := { frames := 4, cells := 0, slots := 0, locals := 88 }
theorem dX5_firstError_0 : decode cX5_firstError 0 = .ok (.aload_n 0, 1) := by decide +kernel
theorem dX5_firstError_1 : decode cX5_firstError 1 = .ok (.getfield 48, 3) := by decide +kernel
theorem dX5_firstError_4 : decode cX5_firstError 4 = .ok (.aload_n 0, 1) := by decide +kernel
theorem dX5_firstError_5 : decode cX5_firstError 5 = .ok (.getfield 30, 3) := by decide +kernel
theorem dX5_firstError_8 : decode cX5_firstError 8 = .ok (.getfield 83, 3) := by decide +kernel
theorem dX5_firstError_11 : decode cX5_firstError 11 = .ok (.getfield 87, 3) := by decide +kernel
theorem dX5_firstError_14 : decode cX5_firstError 14 = .ok (.invokevirtual 195, 3) := by decide +kernel
theorem dX5_firstError_17 : decode cX5_firstError 17 = .ok (.ireturn, 1) := by decide +kernel
set_option maxRecDepth 100000 in
set_option maxHeartbeats 4000000 in
theorem v_X5_firstError {X : zq_X} (C : zq_C X RX5 cX5_firstError 1 zq_all rm_X5_firstError) {h : zq_H} {t : Nat} (T : zq_T X none) (hn : X.2.2.2.2.2.2.2.2.1.name = yX5_firstError.name) {out : Int32} (hF : f_X5_firstError h t = some out) (hE : zq_End X cX5_firstError 0 0 (some (.int out)) h) : zq_W X 0 0 h 0 [(0, .ref t)] [] := by
  unfold f_X5_firstError at hF
  refine zq_aload_n (pc' := 1) C dX5_firstError_0 rfl rfl rfl ?_
  replace hF := zq_bd hF; obtain ⟨v_1, e_2, hF⟩ := hF
  refine zq_getR (j := 5) (pc' := 4) C zq_K5 zq_in5w (Or.inl wd_215) (by decide) rfl dX5_firstError_1 rfl e_2 ?_
  refine zq_aload_n (pc' := 5) C dX5_firstError_4 rfl rfl rfl ?_
  replace hF := zq_bd hF; obtain ⟨v_3, e_4, hF⟩ := hF
  refine zq_getR (j := 1) (pc' := 8) C zq_K5 zq_in5w (Or.inl wd_210) (by decide) rfl dX5_firstError_5 rfl e_4 ?_
  replace hF := zq_bd hF; obtain ⟨v_5, e_6, hF⟩ := hF
  refine zq_getR (j := 0) (pc' := 11) C zq_K3 zq_in3w (Or.inr ⟨"FlipPolygons", by decide +kernel⟩) (by decide) rfl dX5_firstError_8 rfl e_6 ?_
  replace hF := zq_bd hF; obtain ⟨v_7, e_8, hF⟩ := hF
  refine zq_getR (j := 0) (pc' := 14) C zq_K0 zq_in0w (Or.inr ⟨"FlipPolygons", by decide +kernel⟩) (by decide) rfl dX5_firstError_11 rfl e_8 ?_
  replace hF := zq_ck_e hF; obtain ⟨e_11, hF⟩ := hF
  replace hF := zq_bd hF; obtain ⟨v_9, e_10, hF⟩ := hF
  refine zq_cV (pc' := 17) C (c_X4_firstWrong e_10) yv_X4_firstWrong wd_321 zq_K4 e_11 dX5_firstError_14 rfl rfl rfl ⟨Nat.le_of_ble_eq_true rfl, Nat.le_of_ble_eq_true rfl⟩ (Nat.le_of_ble_eq_true rfl) ⟨rfl, rfl⟩ ⟨Nat.le_of_ble_eq_true rfl, Nat.le_of_ble_eq_true rfl⟩ rfl ?_
  have hF := Option.some.inj hF
  subst hF
  exact hE _ _ _ _ (Nat.le_of_ble_eq_true rfl) (Nat.le_of_ble_eq_true rfl) dX5_firstError_17
theorem c_X5_firstError {h : zq_H} {t : Nat} {out : Int32} (hF : f_X5_firstError h t = some out) : zq_M none yX5_firstError (Cond.code yX5_firstError cX5_firstError 1 (some .int) :: zq_all) rm_X5_firstError [.ref t] h (some (.int out)) h := zq_met2 (own := RX5) (by decide +kernel) rfl (Nat.le_of_ble_eq_true rfl) rfl ⟨.int, rfl, rfl⟩ (fun X C T hn hE => v_X5_firstError C T hn hF hE)
theorem yv_X5_firstError : zq_calV yX5_firstError RX5 cX5_firstError 1 (some .int) 0 := ⟨by decide +kernel, wd_322, wd_844, wd_845, wd_95⟩
def f_X5_isSnapshot (h : zq_H) (t : Nat) (x1 : Int32) : Option Bool := (if x1 < 0 then some (false) else (Option.bind (zq_gr h t 5 4) fun v_2 => (Option.bind (zq_an h v_2) fun v_4 => (if v_4 ≤ x1 then some (false) else some (true)))))
abbrev rm_X5_isSnapshot : Room := { frames := 0, cells := 0, slots := 0, locals := 0 }
theorem dX5_isSnapshot_0 : decode cX5_isSnapshot 0 = .ok (.iload_n 1, 1) := by decide +kernel
theorem dX5_isSnapshot_1 : decode cX5_isSnapshot 1 = .ok (.ifCond .lt 16, 3) := by decide +kernel
theorem dX5_isSnapshot_4 : decode cX5_isSnapshot 4 = .ok (.iload_n 1, 1) := by decide +kernel
theorem dX5_isSnapshot_5 : decode cX5_isSnapshot 5 = .ok (.aload_n 0, 1) := by decide +kernel
theorem dX5_isSnapshot_6 : decode cX5_isSnapshot 6 = .ok (.getfield 42, 3) := by decide +kernel
theorem dX5_isSnapshot_9 : decode cX5_isSnapshot 9 = .ok (.arraylength, 1) := by decide +kernel
theorem dX5_isSnapshot_10 : decode cX5_isSnapshot 10 = .ok (.if_icmp .ge 7, 3) := by decide +kernel
theorem dX5_isSnapshot_13 : decode cX5_isSnapshot 13 = .ok (.iconst 1, 1) := by decide +kernel
theorem dX5_isSnapshot_14 : decode cX5_isSnapshot 14 = .ok (.goto 4, 3) := by decide +kernel
theorem dX5_isSnapshot_17 : decode cX5_isSnapshot 17 = .ok (.iconst 0, 1) := by decide +kernel
theorem dX5_isSnapshot_18 : decode cX5_isSnapshot 18 = .ok (.ireturn, 1) := by decide +kernel
set_option maxRecDepth 100000 in
set_option maxHeartbeats 4000000 in
theorem v_X5_isSnapshot {X : zq_X} (C : zq_C X RX5 cX5_isSnapshot 2 zq_all rm_X5_isSnapshot) {h : zq_H} {t : Nat} {x1 : Int32} (T : zq_T X none) (hn : X.2.2.2.2.2.2.2.2.1.name = yX5_isSnapshot.name) {out : Bool} (hF : f_X5_isSnapshot h t x1 = some out) (hE : zq_End X cX5_isSnapshot 0 0 (some (.int (zq_b out))) h) : zq_W X 0 0 h 0 [(0, .ref t), (1, .int x1)] [] := by
  unfold f_X5_isSnapshot at hF
  refine zq_iload_n (pc' := 1) C dX5_isSnapshot_0 rfl rfl rfl ?_
  refine zq_if_lt (pc' := 4) C 17 dX5_isSnapshot_1 (by decide) rfl (fun c_1 => ?_) (fun c_1 => ?_)
  · have hF := (zq_ifp hF c_1)
    skip
    refine zq_iconst (pc' := 18) C 0 dX5_isSnapshot_17 rfl (by decide) ?_
    have hF := Option.some.inj hF
    subst hF
    exact hE _ _ _ _ (Nat.le_of_ble_eq_true rfl) (Nat.le_of_ble_eq_true rfl) dX5_isSnapshot_18
  · have hF := (zq_ifn hF c_1)
    refine zq_iload_n (pc' := 5) C dX5_isSnapshot_4 rfl rfl rfl ?_
    refine zq_aload_n (pc' := 6) C dX5_isSnapshot_5 rfl rfl rfl ?_
    replace hF := zq_bd hF; obtain ⟨v_2, e_3, hF⟩ := hF
    refine zq_getR (j := 4) (pc' := 9) C zq_K5 zq_in5w (Or.inl wd_212) (by decide) rfl dX5_isSnapshot_6 rfl e_3 ?_
    replace hF := zq_bd hF; obtain ⟨v_4, e_5, hF⟩ := hF
    refine zq_alen (pc' := 10) C dX5_isSnapshot_9 rfl e_5 ?_
    refine zq_icmp_ge (pc' := 13) C 17 dX5_isSnapshot_10 (by decide) rfl (fun c_6 => ?_) (fun c_6 => ?_)
    · have hF := (zq_ifp hF c_6)
      skip
      refine zq_iconst (pc' := 18) C 0 dX5_isSnapshot_17 rfl (by decide) ?_
      have hF := Option.some.inj hF
      subst hF
      exact hE _ _ _ _ (Nat.le_of_ble_eq_true rfl) (Nat.le_of_ble_eq_true rfl) dX5_isSnapshot_18
    · have hF := (zq_ifn hF c_6)
      refine zq_iconst (pc' := 14) C 1 dX5_isSnapshot_13 rfl (by decide) ?_
      refine zq_goto C 18 dX5_isSnapshot_14 (by decide) ?_
      have hF := Option.some.inj hF
      subst hF
      exact hE _ _ _ _ (Nat.le_of_ble_eq_true rfl) (Nat.le_of_ble_eq_true rfl) dX5_isSnapshot_18
theorem c_X5_isSnapshot {h : zq_H} {t : Nat} {x1 : Int32} {out : Bool} (hF : f_X5_isSnapshot h t x1 = some out) : zq_M none yX5_isSnapshot (Cond.code yX5_isSnapshot cX5_isSnapshot 2 (some .boolean) :: zq_all) rm_X5_isSnapshot [.ref t, .int x1] h (some (.int (zq_b out))) h := zq_met2 (own := RX5) (by decide +kernel) rfl (Nat.le_of_ble_eq_true rfl) rfl ⟨.boolean, rfl, by cases out <;> rfl⟩ (fun X C T hn hE => v_X5_isSnapshot C T hn hF hE)
theorem yv_X5_isSnapshot : zq_calV yX5_isSnapshot RX5 cX5_isSnapshot 2 (some .boolean) 1 := ⟨by decide +kernel, wd_330, wd_333, wd_334, wd_95⟩
def f_X5_reachFrom (h : zq_H) (t : Nat) (x1 : Int32) : Option (Nat × zq_H) := (if x1 = 0 then (Option.bind (zq_gr h t 5 6) fun v_16 => (Option.bind (zq_gr h t 5 1) fun v_18 => (Option.bind (zq_gr h v_18 3 0) fun v_20 => (Option.bind (zq_gr h t 5 1) fun v_22 => (zq_ck h v_22 3 fun _ => (Option.bind (f_X3_mask h v_22 x1) fun v_24 => (zq_ck h v_16 2 fun _ => (Option.bind (f_X2_measure h v_16 v_20 v_24 0) fun v_27 => some ((v_16, v_27)))))))))) else (Option.bind (zq_gr h t 5 7) fun v_2 => (Option.bind (zq_gr h t 5 1) fun v_4 => (Option.bind (zq_gr h v_4 3 0) fun v_6 => (Option.bind (zq_gr h t 5 1) fun v_8 => (zq_ck h v_8 3 fun _ => (Option.bind (f_X3_mask h v_8 x1) fun v_10 => (zq_ck h v_2 2 fun _ => (Option.bind (f_X2_measure h v_2 v_6 v_10 0) fun v_13 => some ((v_2, v_13)))))))))))
abbrev rm_X5_reachFrom : Room := { frames := 3, cells := 0, slots := 0, locals := 76 }
theorem dX5_reachFrom_0 : decode cX5_reachFrom 0 = .ok (.iload_n 1, 1) := by decide +kernel
theorem dX5_reachFrom_1 : decode cX5_reachFrom 1 = .ok (.ifCond .ne 10, 3) := by decide +kernel
theorem dX5_reachFrom_4 : decode cX5_reachFrom 4 = .ok (.aload_n 0, 1) := by decide +kernel
theorem dX5_reachFrom_5 : decode cX5_reachFrom 5 = .ok (.getfield 56, 3) := by decide +kernel
theorem dX5_reachFrom_8 : decode cX5_reachFrom 8 = .ok (.goto 7, 3) := by decide +kernel
theorem dX5_reachFrom_11 : decode cX5_reachFrom 11 = .ok (.aload_n 0, 1) := by decide +kernel
theorem dX5_reachFrom_12 : decode cX5_reachFrom 12 = .ok (.getfield 60, 3) := by decide +kernel
theorem dX5_reachFrom_15 : decode cX5_reachFrom 15 = .ok (.astore_n 2, 1) := by decide +kernel
theorem dX5_reachFrom_16 : decode cX5_reachFrom 16 = .ok (.aload_n 2, 1) := by decide +kernel
theorem dX5_reachFrom_17 : decode cX5_reachFrom 17 = .ok (.aload_n 0, 1) := by decide +kernel
theorem dX5_reachFrom_18 : decode cX5_reachFrom 18 = .ok (.getfield 30, 3) := by decide +kernel
theorem dX5_reachFrom_21 : decode cX5_reachFrom 21 = .ok (.getfield 83, 3) := by decide +kernel
theorem dX5_reachFrom_24 : decode cX5_reachFrom 24 = .ok (.aload_n 0, 1) := by decide +kernel
theorem dX5_reachFrom_25 : decode cX5_reachFrom 25 = .ok (.getfield 30, 3) := by decide +kernel
theorem dX5_reachFrom_28 : decode cX5_reachFrom 28 = .ok (.iload_n 1, 1) := by decide +kernel
theorem dX5_reachFrom_29 : decode cX5_reachFrom 29 = .ok (.invokevirtual 108, 3) := by decide +kernel
theorem dX5_reachFrom_32 : decode cX5_reachFrom 32 = .ok (.iconst 0, 1) := by decide +kernel
theorem dX5_reachFrom_33 : decode cX5_reachFrom 33 = .ok (.invokevirtual 303, 3) := by decide +kernel
theorem dX5_reachFrom_36 : decode cX5_reachFrom 36 = .ok (.aload_n 2, 1) := by decide +kernel
theorem dX5_reachFrom_37 : decode cX5_reachFrom 37 = .ok (.areturn, 1) := by decide +kernel
set_option maxRecDepth 100000 in
set_option maxHeartbeats 4000000 in
theorem v_X5_reachFrom {X : zq_X} (C : zq_C X RX5 cX5_reachFrom 3 zq_all rm_X5_reachFrom) {h : zq_H} {t : Nat} {x1 : Int32} (T : zq_T X none) (hn : X.2.2.2.2.2.2.2.2.1.name = yX5_reachFrom.name) {out : (Nat × zq_H)} (hF : f_X5_reachFrom h t x1 = some out) (hE : zq_End X cX5_reachFrom 0 0 (some (.ref out.1)) out.2) : zq_W X 0 0 h 0 [(0, .ref t), (1, .int x1)] [] := by
  unfold f_X5_reachFrom at hF
  refine zq_iload_n (pc' := 1) C dX5_reachFrom_0 rfl rfl rfl ?_
  refine zq_if_ne (pc' := 4) C 11 dX5_reachFrom_1 (by decide) rfl (fun c_1 => ?_) (fun c_1 => ?_)
  · have hF := (zq_ifn hF c_1)
    skip
    refine zq_aload_n (pc' := 12) C dX5_reachFrom_11 rfl rfl rfl ?_
    replace hF := zq_bd hF; obtain ⟨v_2, e_3, hF⟩ := hF
    refine zq_getR (j := 7) (pc' := 15) C zq_K5 zq_in5w (Or.inl wd_219) (by decide) rfl dX5_reachFrom_12 rfl e_3 ?_
    refine zq_astore_n (lv' := [(2, .ref v_2), (0, .ref t), (1, .int x1)]) (pc' := 16) C dX5_reachFrom_15 rfl rfl (by decide) rfl rfl ?_
    refine zq_aload_n (pc' := 17) C dX5_reachFrom_16 rfl rfl rfl ?_
    refine zq_aload_n (pc' := 18) C dX5_reachFrom_17 rfl rfl rfl ?_
    replace hF := zq_bd hF; obtain ⟨v_4, e_5, hF⟩ := hF
    refine zq_getR (j := 1) (pc' := 21) C zq_K5 zq_in5w (Or.inl wd_210) (by decide) rfl dX5_reachFrom_18 rfl e_5 ?_
    replace hF := zq_bd hF; obtain ⟨v_6, e_7, hF⟩ := hF
    refine zq_getR (j := 0) (pc' := 24) C zq_K3 zq_in3w (Or.inr ⟨"FlipPolygons", by decide +kernel⟩) (by decide) rfl dX5_reachFrom_21 rfl e_7 ?_
    refine zq_aload_n (pc' := 25) C dX5_reachFrom_24 rfl rfl rfl ?_
    replace hF := zq_bd hF; obtain ⟨v_8, e_9, hF⟩ := hF
    refine zq_getR (j := 1) (pc' := 28) C zq_K5 zq_in5w (Or.inl wd_210) (by decide) rfl dX5_reachFrom_25 rfl e_9 ?_
    refine zq_iload_n (pc' := 29) C dX5_reachFrom_28 rfl rfl rfl ?_
    replace hF := zq_ck_e hF; obtain ⟨e_12, hF⟩ := hF
    replace hF := zq_bd hF; obtain ⟨v_10, e_11, hF⟩ := hF
    refine zq_cV (pc' := 32) C (c_X3_mask e_11) yv_X3_mask wd_251 zq_K3 e_12 dX5_reachFrom_29 rfl rfl rfl ⟨Nat.le_of_ble_eq_true rfl, Nat.le_of_ble_eq_true rfl⟩ (Nat.le_of_ble_eq_true rfl) ⟨rfl, rfl⟩ ⟨Nat.le_of_ble_eq_true rfl, Nat.le_of_ble_eq_true rfl⟩ rfl ?_
    refine zq_iconst (pc' := 33) C 0 dX5_reachFrom_32 rfl (by decide) ?_
    replace hF := zq_ck_e hF; obtain ⟨e_15, hF⟩ := hF
    replace hF := zq_bd hF; obtain ⟨v_13, e_14, hF⟩ := hF
    refine zq_cV (pc' := 36) C (c_X2_measure e_14) yv_X2_measure wd_288 zq_K2 e_15 dX5_reachFrom_33 rfl rfl rfl ⟨Nat.le_of_ble_eq_true rfl, Nat.le_of_ble_eq_true rfl⟩ (Nat.le_of_ble_eq_true rfl) ⟨rfl, rfl⟩ ⟨Nat.le_of_ble_eq_true rfl, Nat.le_of_ble_eq_true rfl⟩ rfl ?_
    refine zq_aload_n (pc' := 37) C dX5_reachFrom_36 rfl rfl rfl ?_
    have hF := Option.some.inj hF
    subst hF
    exact hE _ _ _ _ (Nat.le_of_ble_eq_true rfl) (Nat.le_of_ble_eq_true rfl) dX5_reachFrom_37
  · have hF := (zq_ifp hF c_1)
    refine zq_aload_n (pc' := 5) C dX5_reachFrom_4 rfl rfl rfl ?_
    replace hF := zq_bd hF; obtain ⟨v_16, e_17, hF⟩ := hF
    refine zq_getR (j := 6) (pc' := 8) C zq_K5 zq_in5w (Or.inl wd_218) (by decide) rfl dX5_reachFrom_5 rfl e_17 ?_
    refine zq_goto C 15 dX5_reachFrom_8 (by decide) ?_
    refine zq_astore_n (lv' := [(2, .ref v_16), (0, .ref t), (1, .int x1)]) (pc' := 16) C dX5_reachFrom_15 rfl rfl (by decide) rfl rfl ?_
    refine zq_aload_n (pc' := 17) C dX5_reachFrom_16 rfl rfl rfl ?_
    refine zq_aload_n (pc' := 18) C dX5_reachFrom_17 rfl rfl rfl ?_
    replace hF := zq_bd hF; obtain ⟨v_18, e_19, hF⟩ := hF
    refine zq_getR (j := 1) (pc' := 21) C zq_K5 zq_in5w (Or.inl wd_210) (by decide) rfl dX5_reachFrom_18 rfl e_19 ?_
    replace hF := zq_bd hF; obtain ⟨v_20, e_21, hF⟩ := hF
    refine zq_getR (j := 0) (pc' := 24) C zq_K3 zq_in3w (Or.inr ⟨"FlipPolygons", by decide +kernel⟩) (by decide) rfl dX5_reachFrom_21 rfl e_21 ?_
    refine zq_aload_n (pc' := 25) C dX5_reachFrom_24 rfl rfl rfl ?_
    replace hF := zq_bd hF; obtain ⟨v_22, e_23, hF⟩ := hF
    refine zq_getR (j := 1) (pc' := 28) C zq_K5 zq_in5w (Or.inl wd_210) (by decide) rfl dX5_reachFrom_25 rfl e_23 ?_
    refine zq_iload_n (pc' := 29) C dX5_reachFrom_28 rfl rfl rfl ?_
    replace hF := zq_ck_e hF; obtain ⟨e_26, hF⟩ := hF
    replace hF := zq_bd hF; obtain ⟨v_24, e_25, hF⟩ := hF
    refine zq_cV (pc' := 32) C (c_X3_mask e_25) yv_X3_mask wd_251 zq_K3 e_26 dX5_reachFrom_29 rfl rfl rfl ⟨Nat.le_of_ble_eq_true rfl, Nat.le_of_ble_eq_true rfl⟩ (Nat.le_of_ble_eq_true rfl) ⟨rfl, rfl⟩ ⟨Nat.le_of_ble_eq_true rfl, Nat.le_of_ble_eq_true rfl⟩ rfl ?_
    refine zq_iconst (pc' := 33) C 0 dX5_reachFrom_32 rfl (by decide) ?_
    replace hF := zq_ck_e hF; obtain ⟨e_29, hF⟩ := hF
    replace hF := zq_bd hF; obtain ⟨v_27, e_28, hF⟩ := hF
    refine zq_cV (pc' := 36) C (c_X2_measure e_28) yv_X2_measure wd_288 zq_K2 e_29 dX5_reachFrom_33 rfl rfl rfl ⟨Nat.le_of_ble_eq_true rfl, Nat.le_of_ble_eq_true rfl⟩ (Nat.le_of_ble_eq_true rfl) ⟨rfl, rfl⟩ ⟨Nat.le_of_ble_eq_true rfl, Nat.le_of_ble_eq_true rfl⟩ rfl ?_
    refine zq_aload_n (pc' := 37) C dX5_reachFrom_36 rfl rfl rfl ?_
    have hF := Option.some.inj hF
    subst hF
    exact hE _ _ _ _ (Nat.le_of_ble_eq_true rfl) (Nat.le_of_ble_eq_true rfl) dX5_reachFrom_37
theorem c_X5_reachFrom {h : zq_H} {t : Nat} {x1 : Int32} {out : (Nat × zq_H)} (hF : f_X5_reachFrom h t x1 = some out) : zq_M none yX5_reachFrom (Cond.code yX5_reachFrom cX5_reachFrom 3 (some (.object "FlipPolygons$Reach")) :: zq_all) rm_X5_reachFrom [.ref t, .int x1] h (some (.ref out.1)) out.2 := zq_met2 (own := RX5) (by decide +kernel) rfl (Nat.le_of_ble_eq_true rfl) rfl ⟨_, rfl⟩ (fun X C T hn hE => v_X5_reachFrom C T hn hF hE)
theorem yv_X5_reachFrom : zq_calV yX5_reachFrom RX5 cX5_reachFrom 3 (some (.object "FlipPolygons$Reach")) 1 := ⟨by decide +kernel, wd_963, wd_352, wd_353, wd_95⟩
def f_X5_numberOfTriangulation (h : zq_H) (t : Nat) (x1 : Int32) (x2 : Int32) : Option (Int32 × zq_H) := (Option.bind (zq_gr h t 5 1) fun v_1 => (Option.bind (zq_gr h v_1 3 0) fun v_3 => (Option.bind (zq_gr h v_3 0 0) fun v_5 => (Option.bind (zq_gr h t 5 1) fun v_7 => (zq_ck h v_7 3 fun _ => (Option.bind (f_X3_mask h v_7 x1) fun v_9 => (if x2 = 0 then some ((v_9, h)) else (if x2 = 1 then (zq_ck h v_5 1 fun _ => (Option.bind (f_X1_leastImage h v_5 v_9) fun v_14 => some ((v_14, h)))) else (if x2 = 2 then (zq_ck h v_5 1 fun _ => (Option.bind (f_X1_symmetries h v_5 v_9) fun v_18 => some ((v_18, h)))) else (if x2 = 3 then (zq_ck h v_5 1 fun _ => (Option.bind (f_X1_ears h v_5 v_9) fun v_22 => some ((v_22, h)))) else (if x2 = 4 then (zq_ck h v_5 1 fun _ => (Option.bind (f_X1_greatestDegree h v_5 v_9) fun v_26 => some ((v_26, h)))) else (if x2 = 5 then (zq_ck h t 5 fun _ => (Option.bind (f_X5_reachFrom h t x1) fun v_30 => (zq_ck v_30.2 v_30.1 2 fun _ => (Option.bind (f_X2_farthest v_30.2 v_30.1) fun v_33 => some ((v_33, v_30.2)))))) else (zq_ck h t 5 fun _ => (Option.bind (f_X5_reachFrom h t x1) fun v_36 => (zq_ck v_36.2 v_36.1 2 fun _ => (Option.bind (f_X2_leastFarthest v_36.2 v_36.1) fun v_39 => some ((v_39, v_36.2))))))))))))))))))
abbrev rm_X5_numberOfTriangulation : Room := { frames := 5, cells := 0, slots := 0, locals := 111 }
theorem dX5_numberOfTriangulation_0 : decode cX5_numberOfTriangulation 0 = .ok (.aload_n 0, 1) := by decide +kernel
theorem dX5_numberOfTriangulation_1 : decode cX5_numberOfTriangulation 1 = .ok (.getfield 30, 3) := by decide +kernel
theorem dX5_numberOfTriangulation_4 : decode cX5_numberOfTriangulation 4 = .ok (.getfield 83, 3) := by decide +kernel
theorem dX5_numberOfTriangulation_7 : decode cX5_numberOfTriangulation 7 = .ok (.getfield 87, 3) := by decide +kernel
theorem dX5_numberOfTriangulation_10 : decode cX5_numberOfTriangulation 10 = .ok (.astore_n 3, 1) := by decide +kernel
theorem dX5_numberOfTriangulation_11 : decode cX5_numberOfTriangulation 11 = .ok (.aload_n 0, 1) := by decide +kernel
theorem dX5_numberOfTriangulation_12 : decode cX5_numberOfTriangulation 12 = .ok (.getfield 30, 3) := by decide +kernel
theorem dX5_numberOfTriangulation_15 : decode cX5_numberOfTriangulation 15 = .ok (.iload_n 1, 1) := by decide +kernel
theorem dX5_numberOfTriangulation_16 : decode cX5_numberOfTriangulation 16 = .ok (.invokevirtual 108, 3) := by decide +kernel
theorem dX5_numberOfTriangulation_19 : decode cX5_numberOfTriangulation 19 = .ok (.istore 4, 2) := by decide +kernel
theorem dX5_numberOfTriangulation_21 : decode cX5_numberOfTriangulation 21 = .ok (.iload_n 2, 1) := by decide +kernel
theorem dX5_numberOfTriangulation_22 : decode cX5_numberOfTriangulation 22 = .ok (.tableswitch 78 0 5 #[38, 41, 48, 55, 62, 69], 38) := by decide +kernel
theorem dX5_numberOfTriangulation_60 : decode cX5_numberOfTriangulation 60 = .ok (.iload 4, 2) := by decide +kernel
theorem dX5_numberOfTriangulation_62 : decode cX5_numberOfTriangulation 62 = .ok (.ireturn, 1) := by decide +kernel
theorem dX5_numberOfTriangulation_63 : decode cX5_numberOfTriangulation 63 = .ok (.aload_n 3, 1) := by decide +kernel
theorem dX5_numberOfTriangulation_64 : decode cX5_numberOfTriangulation 64 = .ok (.iload 4, 2) := by decide +kernel
theorem dX5_numberOfTriangulation_66 : decode cX5_numberOfTriangulation 66 = .ok (.invokevirtual 281, 3) := by decide +kernel
theorem dX5_numberOfTriangulation_69 : decode cX5_numberOfTriangulation 69 = .ok (.ireturn, 1) := by decide +kernel
theorem dX5_numberOfTriangulation_70 : decode cX5_numberOfTriangulation 70 = .ok (.aload_n 3, 1) := by decide +kernel
theorem dX5_numberOfTriangulation_71 : decode cX5_numberOfTriangulation 71 = .ok (.iload 4, 2) := by decide +kernel
theorem dX5_numberOfTriangulation_73 : decode cX5_numberOfTriangulation 73 = .ok (.invokevirtual 284, 3) := by decide +kernel
theorem dX5_numberOfTriangulation_76 : decode cX5_numberOfTriangulation 76 = .ok (.ireturn, 1) := by decide +kernel
theorem dX5_numberOfTriangulation_77 : decode cX5_numberOfTriangulation 77 = .ok (.aload_n 3, 1) := by decide +kernel
theorem dX5_numberOfTriangulation_78 : decode cX5_numberOfTriangulation 78 = .ok (.iload 4, 2) := by decide +kernel
theorem dX5_numberOfTriangulation_80 : decode cX5_numberOfTriangulation 80 = .ok (.invokevirtual 287, 3) := by decide +kernel
theorem dX5_numberOfTriangulation_83 : decode cX5_numberOfTriangulation 83 = .ok (.ireturn, 1) := by decide +kernel
theorem dX5_numberOfTriangulation_84 : decode cX5_numberOfTriangulation 84 = .ok (.aload_n 3, 1) := by decide +kernel
theorem dX5_numberOfTriangulation_85 : decode cX5_numberOfTriangulation 85 = .ok (.iload 4, 2) := by decide +kernel
theorem dX5_numberOfTriangulation_87 : decode cX5_numberOfTriangulation 87 = .ok (.invokevirtual 290, 3) := by decide +kernel
theorem dX5_numberOfTriangulation_90 : decode cX5_numberOfTriangulation 90 = .ok (.ireturn, 1) := by decide +kernel
theorem dX5_numberOfTriangulation_91 : decode cX5_numberOfTriangulation 91 = .ok (.aload_n 0, 1) := by decide +kernel
theorem dX5_numberOfTriangulation_92 : decode cX5_numberOfTriangulation 92 = .ok (.iload_n 1, 1) := by decide +kernel
theorem dX5_numberOfTriangulation_93 : decode cX5_numberOfTriangulation 93 = .ok (.invokevirtual 293, 3) := by decide +kernel
theorem dX5_numberOfTriangulation_96 : decode cX5_numberOfTriangulation 96 = .ok (.invokevirtual 297, 3) := by decide +kernel
theorem dX5_numberOfTriangulation_99 : decode cX5_numberOfTriangulation 99 = .ok (.ireturn, 1) := by decide +kernel
theorem dX5_numberOfTriangulation_100 : decode cX5_numberOfTriangulation 100 = .ok (.aload_n 0, 1) := by decide +kernel
theorem dX5_numberOfTriangulation_101 : decode cX5_numberOfTriangulation 101 = .ok (.iload_n 1, 1) := by decide +kernel
theorem dX5_numberOfTriangulation_102 : decode cX5_numberOfTriangulation 102 = .ok (.invokevirtual 293, 3) := by decide +kernel
theorem dX5_numberOfTriangulation_105 : decode cX5_numberOfTriangulation 105 = .ok (.invokevirtual 300, 3) := by decide +kernel
theorem dX5_numberOfTriangulation_108 : decode cX5_numberOfTriangulation 108 = .ok (.ireturn, 1) := by decide +kernel
set_option maxRecDepth 100000 in
set_option maxHeartbeats 4000000 in
theorem v_X5_numberOfTriangulation {X : zq_X} (C : zq_C X RX5 cX5_numberOfTriangulation 5 zq_all rm_X5_numberOfTriangulation) {h : zq_H} {t : Nat} {x1 : Int32} {x2 : Int32} (T : zq_T X none) (hn : X.2.2.2.2.2.2.2.2.1.name = yX5_numberOfTriangulation.name) {out : (Int32 × zq_H)} (hF : f_X5_numberOfTriangulation h t x1 x2 = some out) (hE : zq_End X cX5_numberOfTriangulation 0 0 (some (.int out.1)) out.2) : zq_W X 0 0 h 0 [(0, .ref t), (1, .int x1), (2, .int x2)] [] := by
  unfold f_X5_numberOfTriangulation at hF
  refine zq_aload_n (pc' := 1) C dX5_numberOfTriangulation_0 rfl rfl rfl ?_
  replace hF := zq_bd hF; obtain ⟨v_1, e_2, hF⟩ := hF
  refine zq_getR (j := 1) (pc' := 4) C zq_K5 zq_in5w (Or.inl wd_210) (by decide) rfl dX5_numberOfTriangulation_1 rfl e_2 ?_
  replace hF := zq_bd hF; obtain ⟨v_3, e_4, hF⟩ := hF
  refine zq_getR (j := 0) (pc' := 7) C zq_K3 zq_in3w (Or.inr ⟨"FlipPolygons", by decide +kernel⟩) (by decide) rfl dX5_numberOfTriangulation_4 rfl e_4 ?_
  replace hF := zq_bd hF; obtain ⟨v_5, e_6, hF⟩ := hF
  refine zq_getR (j := 0) (pc' := 10) C zq_K0 zq_in0w (Or.inr ⟨"FlipPolygons", by decide +kernel⟩) (by decide) rfl dX5_numberOfTriangulation_7 rfl e_6 ?_
  refine zq_astore_n (lv' := [(3, .ref v_5), (0, .ref t), (1, .int x1), (2, .int x2)]) (pc' := 11) C dX5_numberOfTriangulation_10 rfl rfl (by decide) rfl rfl ?_
  refine zq_aload_n (pc' := 12) C dX5_numberOfTriangulation_11 rfl rfl rfl ?_
  replace hF := zq_bd hF; obtain ⟨v_7, e_8, hF⟩ := hF
  refine zq_getR (j := 1) (pc' := 15) C zq_K5 zq_in5w (Or.inl wd_210) (by decide) rfl dX5_numberOfTriangulation_12 rfl e_8 ?_
  refine zq_iload_n (pc' := 16) C dX5_numberOfTriangulation_15 rfl rfl rfl ?_
  replace hF := zq_ck_e hF; obtain ⟨e_11, hF⟩ := hF
  replace hF := zq_bd hF; obtain ⟨v_9, e_10, hF⟩ := hF
  refine zq_cV (pc' := 19) C (c_X3_mask e_10) yv_X3_mask wd_251 zq_K3 e_11 dX5_numberOfTriangulation_16 rfl rfl rfl ⟨Nat.le_of_ble_eq_true rfl, Nat.le_of_ble_eq_true rfl⟩ (Nat.le_of_ble_eq_true rfl) ⟨rfl, rfl⟩ ⟨Nat.le_of_ble_eq_true rfl, Nat.le_of_ble_eq_true rfl⟩ rfl ?_
  refine zq_istore (lv' := [(4, .int v_9), (3, .ref v_5), (0, .ref t), (1, .int x1), (2, .int x2)]) (pc' := 21) C dX5_numberOfTriangulation_19 rfl (by decide) rfl rfl ?_
  refine zq_iload_n (pc' := 22) C dX5_numberOfTriangulation_21 rfl rfl rfl ?_
  by_cases c_12 : x2 = 0
  · have hF := zq_ifp hF c_12
    refine zq_tsIn C 60 dX5_numberOfTriangulation_22 (by rw [c_12]; decide) (by rw [c_12]; decide) (by rw [c_12]; rfl) (by decide) ?_
    refine zq_iload (pc' := 62) C dX5_numberOfTriangulation_60 rfl rfl ?_
    have hF := Option.some.inj hF
    subst hF
    exact hE _ _ _ _ (Nat.le_of_ble_eq_true rfl) (Nat.le_of_ble_eq_true rfl) dX5_numberOfTriangulation_62
  have hF := zq_ifn hF c_12
  by_cases c_13 : x2 = 1
  · have hF := zq_ifp hF c_13
    refine zq_tsIn C 63 dX5_numberOfTriangulation_22 (by rw [c_13]; decide) (by rw [c_13]; decide) (by rw [c_13]; rfl) (by decide) ?_
    refine zq_aload_n (pc' := 64) C dX5_numberOfTriangulation_63 rfl rfl rfl ?_
    refine zq_iload (pc' := 66) C dX5_numberOfTriangulation_64 rfl rfl ?_
    replace hF := zq_ck_e hF; obtain ⟨e_16, hF⟩ := hF
    replace hF := zq_bd hF; obtain ⟨v_14, e_15, hF⟩ := hF
    refine zq_cV (pc' := 69) C (c_X1_leastImage e_15) yv_X1_leastImage wd_339 zq_K1 e_16 dX5_numberOfTriangulation_66 rfl rfl rfl ⟨Nat.le_of_ble_eq_true rfl, Nat.le_of_ble_eq_true rfl⟩ (Nat.le_of_ble_eq_true rfl) ⟨rfl, rfl⟩ ⟨Nat.le_of_ble_eq_true rfl, Nat.le_of_ble_eq_true rfl⟩ rfl ?_
    have hF := Option.some.inj hF
    subst hF
    exact hE _ _ _ _ (Nat.le_of_ble_eq_true rfl) (Nat.le_of_ble_eq_true rfl) dX5_numberOfTriangulation_69
  have hF := zq_ifn hF c_13
  by_cases c_17 : x2 = 2
  · have hF := zq_ifp hF c_17
    refine zq_tsIn C 70 dX5_numberOfTriangulation_22 (by rw [c_17]; decide) (by rw [c_17]; decide) (by rw [c_17]; rfl) (by decide) ?_
    refine zq_aload_n (pc' := 71) C dX5_numberOfTriangulation_70 rfl rfl rfl ?_
    refine zq_iload (pc' := 73) C dX5_numberOfTriangulation_71 rfl rfl ?_
    replace hF := zq_ck_e hF; obtain ⟨e_20, hF⟩ := hF
    replace hF := zq_bd hF; obtain ⟨v_18, e_19, hF⟩ := hF
    refine zq_cV (pc' := 76) C (c_X1_symmetries e_19) yv_X1_symmetries wd_342 zq_K1 e_20 dX5_numberOfTriangulation_73 rfl rfl rfl ⟨Nat.le_of_ble_eq_true rfl, Nat.le_of_ble_eq_true rfl⟩ (Nat.le_of_ble_eq_true rfl) ⟨rfl, rfl⟩ ⟨Nat.le_of_ble_eq_true rfl, Nat.le_of_ble_eq_true rfl⟩ rfl ?_
    have hF := Option.some.inj hF
    subst hF
    exact hE _ _ _ _ (Nat.le_of_ble_eq_true rfl) (Nat.le_of_ble_eq_true rfl) dX5_numberOfTriangulation_76
  have hF := zq_ifn hF c_17
  by_cases c_21 : x2 = 3
  · have hF := zq_ifp hF c_21
    refine zq_tsIn C 77 dX5_numberOfTriangulation_22 (by rw [c_21]; decide) (by rw [c_21]; decide) (by rw [c_21]; rfl) (by decide) ?_
    refine zq_aload_n (pc' := 78) C dX5_numberOfTriangulation_77 rfl rfl rfl ?_
    refine zq_iload (pc' := 80) C dX5_numberOfTriangulation_78 rfl rfl ?_
    replace hF := zq_ck_e hF; obtain ⟨e_24, hF⟩ := hF
    replace hF := zq_bd hF; obtain ⟨v_22, e_23, hF⟩ := hF
    refine zq_cV (pc' := 83) C (c_X1_ears e_23) yv_X1_ears wd_345 zq_K1 e_24 dX5_numberOfTriangulation_80 rfl rfl rfl ⟨Nat.le_of_ble_eq_true rfl, Nat.le_of_ble_eq_true rfl⟩ (Nat.le_of_ble_eq_true rfl) ⟨rfl, rfl⟩ ⟨Nat.le_of_ble_eq_true rfl, Nat.le_of_ble_eq_true rfl⟩ rfl ?_
    have hF := Option.some.inj hF
    subst hF
    exact hE _ _ _ _ (Nat.le_of_ble_eq_true rfl) (Nat.le_of_ble_eq_true rfl) dX5_numberOfTriangulation_83
  have hF := zq_ifn hF c_21
  by_cases c_25 : x2 = 4
  · have hF := zq_ifp hF c_25
    refine zq_tsIn C 84 dX5_numberOfTriangulation_22 (by rw [c_25]; decide) (by rw [c_25]; decide) (by rw [c_25]; rfl) (by decide) ?_
    refine zq_aload_n (pc' := 85) C dX5_numberOfTriangulation_84 rfl rfl rfl ?_
    refine zq_iload (pc' := 87) C dX5_numberOfTriangulation_85 rfl rfl ?_
    replace hF := zq_ck_e hF; obtain ⟨e_28, hF⟩ := hF
    replace hF := zq_bd hF; obtain ⟨v_26, e_27, hF⟩ := hF
    refine zq_cV (pc' := 90) C (c_X1_greatestDegree e_27) yv_X1_greatestDegree wd_348 zq_K1 e_28 dX5_numberOfTriangulation_87 rfl rfl rfl ⟨Nat.le_of_ble_eq_true rfl, Nat.le_of_ble_eq_true rfl⟩ (Nat.le_of_ble_eq_true rfl) ⟨rfl, rfl⟩ ⟨Nat.le_of_ble_eq_true rfl, Nat.le_of_ble_eq_true rfl⟩ rfl ?_
    have hF := Option.some.inj hF
    subst hF
    exact hE _ _ _ _ (Nat.le_of_ble_eq_true rfl) (Nat.le_of_ble_eq_true rfl) dX5_numberOfTriangulation_90
  have hF := zq_ifn hF c_25
  by_cases c_29 : x2 = 5
  · have hF := zq_ifp hF c_29
    refine zq_tsIn C 91 dX5_numberOfTriangulation_22 (by rw [c_29]; decide) (by rw [c_29]; decide) (by rw [c_29]; rfl) (by decide) ?_
    refine zq_aload_n (pc' := 92) C dX5_numberOfTriangulation_91 rfl rfl rfl ?_
    refine zq_iload_n (pc' := 93) C dX5_numberOfTriangulation_92 rfl rfl rfl ?_
    replace hF := zq_ck_e hF; obtain ⟨e_32, hF⟩ := hF
    replace hF := zq_bd hF; obtain ⟨v_30, e_31, hF⟩ := hF
    refine zq_cV (pc' := 96) C (c_X5_reachFrom e_31) yv_X5_reachFrom wd_351 zq_K5 e_32 dX5_numberOfTriangulation_93 rfl rfl rfl ⟨Nat.le_of_ble_eq_true rfl, Nat.le_of_ble_eq_true rfl⟩ (Nat.le_of_ble_eq_true rfl) ⟨rfl, rfl⟩ ⟨Nat.le_of_ble_eq_true rfl, Nat.le_of_ble_eq_true rfl⟩ rfl ?_
    replace hF := zq_ck_e hF; obtain ⟨e_35, hF⟩ := hF
    replace hF := zq_bd hF; obtain ⟨v_33, e_34, hF⟩ := hF
    refine zq_cV (pc' := 99) C (c_X2_farthest e_34) yv_X2_farthest wd_354 zq_K2 e_35 dX5_numberOfTriangulation_96 rfl rfl rfl ⟨Nat.le_of_ble_eq_true rfl, Nat.le_of_ble_eq_true rfl⟩ (Nat.le_of_ble_eq_true rfl) ⟨rfl, rfl⟩ ⟨Nat.le_of_ble_eq_true rfl, Nat.le_of_ble_eq_true rfl⟩ rfl ?_
    have hF := Option.some.inj hF
    subst hF
    exact hE _ _ _ _ (Nat.le_of_ble_eq_true rfl) (Nat.le_of_ble_eq_true rfl) dX5_numberOfTriangulation_99
  have hF := zq_ifn hF c_29
  refine zq_tsOut C 100 dX5_numberOfTriangulation_22 (zq_out (n := 6) rfl rfl (by decide) (fun k hk => match k, hk with | 0, _ => c_12 | 1, _ => c_13 | 2, _ => c_17 | 3, _ => c_21 | 4, _ => c_25 | 5, _ => c_29 | k + 6, hk => absurd hk (by omega))) (by decide) ?_
  refine zq_aload_n (pc' := 101) C dX5_numberOfTriangulation_100 rfl rfl rfl ?_
  refine zq_iload_n (pc' := 102) C dX5_numberOfTriangulation_101 rfl rfl rfl ?_
  replace hF := zq_ck_e hF; obtain ⟨e_38, hF⟩ := hF
  replace hF := zq_bd hF; obtain ⟨v_36, e_37, hF⟩ := hF
  refine zq_cV (pc' := 105) C (c_X5_reachFrom e_37) yv_X5_reachFrom wd_351 zq_K5 e_38 dX5_numberOfTriangulation_102 rfl rfl rfl ⟨Nat.le_of_ble_eq_true rfl, Nat.le_of_ble_eq_true rfl⟩ (Nat.le_of_ble_eq_true rfl) ⟨rfl, rfl⟩ ⟨Nat.le_of_ble_eq_true rfl, Nat.le_of_ble_eq_true rfl⟩ rfl ?_
  replace hF := zq_ck_e hF; obtain ⟨e_41, hF⟩ := hF
  replace hF := zq_bd hF; obtain ⟨v_39, e_40, hF⟩ := hF
  refine zq_cV (pc' := 108) C (c_X2_leastFarthest e_40) yv_X2_leastFarthest wd_355 zq_K2 e_41 dX5_numberOfTriangulation_105 rfl rfl rfl ⟨Nat.le_of_ble_eq_true rfl, Nat.le_of_ble_eq_true rfl⟩ (Nat.le_of_ble_eq_true rfl) ⟨rfl, rfl⟩ ⟨Nat.le_of_ble_eq_true rfl, Nat.le_of_ble_eq_true rfl⟩ rfl ?_
  have hF := Option.some.inj hF
  subst hF
  exact hE _ _ _ _ (Nat.le_of_ble_eq_true rfl) (Nat.le_of_ble_eq_true rfl) dX5_numberOfTriangulation_108
theorem c_X5_numberOfTriangulation {h : zq_H} {t : Nat} {x1 : Int32} {x2 : Int32} {out : (Int32 × zq_H)} (hF : f_X5_numberOfTriangulation h t x1 x2 = some out) : zq_M none yX5_numberOfTriangulation (Cond.code yX5_numberOfTriangulation cX5_numberOfTriangulation 5 (some .int) :: zq_all) rm_X5_numberOfTriangulation [.ref t, .int x1, .int x2] h (some (.int out.1)) out.2 := zq_met2 (own := RX5) (by decide +kernel) rfl (Nat.le_of_ble_eq_true rfl) rfl ⟨.int, rfl, rfl⟩ (fun X C T hn hE => v_X5_numberOfTriangulation C T hn hF hE)
theorem yv_X5_numberOfTriangulation : zq_calV yX5_numberOfTriangulation RX5 cX5_numberOfTriangulation 5 (some .int) 2 := ⟨by decide +kernel, wd_358, wd_360, wd_361, wd_95⟩
def f_X5_hindrance (h : zq_H) (t : Nat) (x1 : Int32) : Option Int32 := (Option.bind (zq_gr h t 5 1) fun v_1 => (Option.bind (zq_gi h v_1 3 1) fun v_3 => (Option.bind (f_X5_isIn h v_3 x1) fun v_5 => (if v_5 = false then some (1) else (Option.bind (zq_gr h t 5 1) fun v_8 => (Option.bind (zq_gi h v_8 3 3) fun v_10 => (Option.bind (f_X5_isIn h v_10 x1) fun v_12 => (if v_12 = false then some (0) else some (2)))))))))
abbrev rm_X5_hindrance : Room := { frames := 1, cells := 0, slots := 0, locals := 21 }
theorem dX5_hindrance_0 : decode cX5_hindrance 0 = .ok (.aload_n 0, 1) := by decide +kernel
theorem dX5_hindrance_1 : decode cX5_hindrance 1 = .ok (.getfield 30, 3) := by decide +kernel
theorem dX5_hindrance_4 : decode cX5_hindrance 4 = .ok (.getfield 160, 3) := by decide +kernel
theorem dX5_hindrance_7 : decode cX5_hindrance 7 = .ok (.iload_n 1, 1) := by decide +kernel
theorem dX5_hindrance_8 : decode cX5_hindrance 8 = .ok (.invokestatic 112, 3) := by decide +kernel
theorem dX5_hindrance_11 : decode cX5_hindrance 11 = .ok (.ifCond .ne 5, 3) := by decide +kernel
theorem dX5_hindrance_14 : decode cX5_hindrance 14 = .ok (.iconst 1, 1) := by decide +kernel
theorem dX5_hindrance_15 : decode cX5_hindrance 15 = .ok (.ireturn, 1) := by decide +kernel
theorem dX5_hindrance_16 : decode cX5_hindrance 16 = .ok (.aload_n 0, 1) := by decide +kernel
theorem dX5_hindrance_17 : decode cX5_hindrance 17 = .ok (.getfield 30, 3) := by decide +kernel
theorem dX5_hindrance_20 : decode cX5_hindrance 20 = .ok (.getfield 116, 3) := by decide +kernel
theorem dX5_hindrance_23 : decode cX5_hindrance 23 = .ok (.iload_n 1, 1) := by decide +kernel
theorem dX5_hindrance_24 : decode cX5_hindrance 24 = .ok (.invokestatic 112, 3) := by decide +kernel
theorem dX5_hindrance_27 : decode cX5_hindrance 27 = .ok (.ifCond .eq 7, 3) := by decide +kernel
theorem dX5_hindrance_30 : decode cX5_hindrance 30 = .ok (.iconst 2, 1) := by decide +kernel
theorem dX5_hindrance_31 : decode cX5_hindrance 31 = .ok (.goto 4, 3) := by decide +kernel
theorem dX5_hindrance_34 : decode cX5_hindrance 34 = .ok (.iconst 0, 1) := by decide +kernel
theorem dX5_hindrance_35 : decode cX5_hindrance 35 = .ok (.ireturn, 1) := by decide +kernel
set_option maxRecDepth 100000 in
set_option maxHeartbeats 4000000 in
theorem v_X5_hindrance {X : zq_X} (C : zq_C X RX5 cX5_hindrance 2 zq_all rm_X5_hindrance) {h : zq_H} {t : Nat} {x1 : Int32} (T : zq_T X none) (hn : X.2.2.2.2.2.2.2.2.1.name = yX5_hindrance.name) {out : Int32} (hF : f_X5_hindrance h t x1 = some out) (hE : zq_End X cX5_hindrance 0 0 (some (.int out)) h) : zq_W X 0 0 h 0 [(0, .ref t), (1, .int x1)] [] := by
  unfold f_X5_hindrance at hF
  refine zq_aload_n (pc' := 1) C dX5_hindrance_0 rfl rfl rfl ?_
  replace hF := zq_bd hF; obtain ⟨v_1, e_2, hF⟩ := hF
  refine zq_getR (j := 1) (pc' := 4) C zq_K5 zq_in5w (Or.inl wd_210) (by decide) rfl dX5_hindrance_1 rfl e_2 ?_
  replace hF := zq_bd hF; obtain ⟨v_3, e_4, hF⟩ := hF
  refine zq_getI (j := 1) (pc' := 7) C zq_K3 zq_in3w (Or.inr ⟨"FlipPolygons", by decide +kernel⟩) (by decide) rfl dX5_hindrance_4 rfl e_4 ?_
  refine zq_iload_n (pc' := 8) C dX5_hindrance_7 rfl rfl rfl ?_
  replace hF := zq_bd hF; obtain ⟨v_5, e_6, hF⟩ := hF
  refine zq_cS (pc' := 11) C (c_X5_isIn e_6) ys_X5_isIn wd_266 dX5_hindrance_8 rfl rfl rfl ⟨Nat.le_of_ble_eq_true rfl, Nat.le_of_ble_eq_true rfl⟩ (Nat.le_of_ble_eq_true rfl) ⟨rfl, rfl⟩ ⟨Nat.le_of_ble_eq_true rfl, Nat.le_of_ble_eq_true rfl⟩ rfl ?_
  refine zq_if_ne (pc' := 14) C 16 dX5_hindrance_11 (by decide) rfl (fun c_7 => ?_) (fun c_7 => ?_)
  · have hF := (zq_ifn hF (fun q => c_7 (zq_b0.mpr q)))
    skip
    refine zq_aload_n (pc' := 17) C dX5_hindrance_16 rfl rfl rfl ?_
    replace hF := zq_bd hF; obtain ⟨v_8, e_9, hF⟩ := hF
    refine zq_getR (j := 1) (pc' := 20) C zq_K5 zq_in5w (Or.inl wd_210) (by decide) rfl dX5_hindrance_17 rfl e_9 ?_
    replace hF := zq_bd hF; obtain ⟨v_10, e_11, hF⟩ := hF
    refine zq_getI (j := 3) (pc' := 23) C zq_K3 zq_in3w (Or.inr ⟨"FlipPolygons", by decide +kernel⟩) (by decide) rfl dX5_hindrance_20 rfl e_11 ?_
    refine zq_iload_n (pc' := 24) C dX5_hindrance_23 rfl rfl rfl ?_
    replace hF := zq_bd hF; obtain ⟨v_12, e_13, hF⟩ := hF
    refine zq_cS (pc' := 27) C (c_X5_isIn e_13) ys_X5_isIn wd_266 dX5_hindrance_24 rfl rfl rfl ⟨Nat.le_of_ble_eq_true rfl, Nat.le_of_ble_eq_true rfl⟩ (Nat.le_of_ble_eq_true rfl) ⟨rfl, rfl⟩ ⟨Nat.le_of_ble_eq_true rfl, Nat.le_of_ble_eq_true rfl⟩ rfl ?_
    refine zq_if_eq (pc' := 30) C 34 dX5_hindrance_27 (by decide) rfl (fun c_14 => ?_) (fun c_14 => ?_)
    · have hF := (zq_ifp hF (zq_b0.mp c_14))
      skip
      refine zq_iconst (pc' := 35) C 0 dX5_hindrance_34 rfl (by decide) ?_
      have hF := Option.some.inj hF
      subst hF
      exact hE _ _ _ _ (Nat.le_of_ble_eq_true rfl) (Nat.le_of_ble_eq_true rfl) dX5_hindrance_35
    · have hF := (zq_ifn hF (fun q => c_14 (zq_b0.mpr q)))
      refine zq_iconst (pc' := 31) C 2 dX5_hindrance_30 rfl (by decide) ?_
      refine zq_goto C 35 dX5_hindrance_31 (by decide) ?_
      have hF := Option.some.inj hF
      subst hF
      exact hE _ _ _ _ (Nat.le_of_ble_eq_true rfl) (Nat.le_of_ble_eq_true rfl) dX5_hindrance_35
  · have hF := (zq_ifp hF (zq_b0.mp c_7))
    refine zq_iconst (pc' := 15) C 1 dX5_hindrance_14 rfl (by decide) ?_
    have hF := Option.some.inj hF
    subst hF
    exact hE _ _ _ _ (Nat.le_of_ble_eq_true rfl) (Nat.le_of_ble_eq_true rfl) dX5_hindrance_15
theorem c_X5_hindrance {h : zq_H} {t : Nat} {x1 : Int32} {out : Int32} (hF : f_X5_hindrance h t x1 = some out) : zq_M none yX5_hindrance (Cond.code yX5_hindrance cX5_hindrance 2 (some .int) :: zq_all) rm_X5_hindrance [.ref t, .int x1] h (some (.int out)) h := zq_met2 (own := RX5) (by decide +kernel) rfl (Nat.le_of_ble_eq_true rfl) rfl ⟨.int, rfl, rfl⟩ (fun X C T hn hE => v_X5_hindrance C T hn hF hE)
theorem yv_X5_hindrance : zq_calV yX5_hindrance RX5 cX5_hindrance 2 (some .int) 1 := ⟨by decide +kernel, wd_366, wd_369, wd_370, wd_95⟩
def f_X5_freeDistance (h : zq_H) (t : Nat) : Option (Int32 × zq_H) := (zq_ck h t 5 fun _ => (Option.bind (f_X5_reachFrom h t 1) fun v_1 => (Option.bind (zq_gr v_1.2 t 5 1) fun v_4 => (Option.bind (zq_gi v_1.2 v_4 3 1) fun v_6 => (zq_ck v_1.2 v_1.1 2 fun _ => (Option.bind (f_X2_flipsTo v_1.2 v_1.1 v_6) fun v_8 => some ((v_8, v_1.2))))))))
abbrev rm_X5_freeDistance : Room := { frames := 4, cells := 0, slots := 0, locals := 98 }
theorem dX5_freeDistance_0 : decode cX5_freeDistance 0 = .ok (.aload_n 0, 1) := by decide +kernel
theorem dX5_freeDistance_1 : decode cX5_freeDistance 1 = .ok (.iconst 1, 1) := by decide +kernel
theorem dX5_freeDistance_2 : decode cX5_freeDistance 2 = .ok (.invokevirtual 293, 3) := by decide +kernel
theorem dX5_freeDistance_5 : decode cX5_freeDistance 5 = .ok (.aload_n 0, 1) := by decide +kernel
theorem dX5_freeDistance_6 : decode cX5_freeDistance 6 = .ok (.getfield 30, 3) := by decide +kernel
theorem dX5_freeDistance_9 : decode cX5_freeDistance 9 = .ok (.getfield 160, 3) := by decide +kernel
theorem dX5_freeDistance_12 : decode cX5_freeDistance 12 = .ok (.invokevirtual 314, 3) := by decide +kernel
theorem dX5_freeDistance_15 : decode cX5_freeDistance 15 = .ok (.ireturn, 1) := by decide +kernel
set_option maxRecDepth 100000 in
set_option maxHeartbeats 4000000 in
theorem v_X5_freeDistance {X : zq_X} (C : zq_C X RX5 cX5_freeDistance 1 zq_all rm_X5_freeDistance) {h : zq_H} {t : Nat} (T : zq_T X none) (hn : X.2.2.2.2.2.2.2.2.1.name = yX5_freeDistance.name) {out : (Int32 × zq_H)} (hF : f_X5_freeDistance h t = some out) (hE : zq_End X cX5_freeDistance 0 0 (some (.int out.1)) out.2) : zq_W X 0 0 h 0 [(0, .ref t)] [] := by
  unfold f_X5_freeDistance at hF
  refine zq_aload_n (pc' := 1) C dX5_freeDistance_0 rfl rfl rfl ?_
  refine zq_iconst (pc' := 2) C 1 dX5_freeDistance_1 rfl (by decide) ?_
  replace hF := zq_ck_e hF; obtain ⟨e_3, hF⟩ := hF
  replace hF := zq_bd hF; obtain ⟨v_1, e_2, hF⟩ := hF
  refine zq_cV (pc' := 5) C (c_X5_reachFrom e_2) yv_X5_reachFrom wd_351 zq_K5 e_3 dX5_freeDistance_2 rfl rfl rfl ⟨Nat.le_of_ble_eq_true rfl, Nat.le_of_ble_eq_true rfl⟩ (Nat.le_of_ble_eq_true rfl) ⟨rfl, rfl⟩ ⟨Nat.le_of_ble_eq_true rfl, Nat.le_of_ble_eq_true rfl⟩ rfl ?_
  refine zq_aload_n (pc' := 6) C dX5_freeDistance_5 rfl rfl rfl ?_
  replace hF := zq_bd hF; obtain ⟨v_4, e_5, hF⟩ := hF
  refine zq_getR (j := 1) (pc' := 9) C zq_K5 zq_in5w (Or.inl wd_210) (by decide) rfl dX5_freeDistance_6 rfl e_5 ?_
  replace hF := zq_bd hF; obtain ⟨v_6, e_7, hF⟩ := hF
  refine zq_getI (j := 1) (pc' := 12) C zq_K3 zq_in3w (Or.inr ⟨"FlipPolygons", by decide +kernel⟩) (by decide) rfl dX5_freeDistance_9 rfl e_7 ?_
  replace hF := zq_ck_e hF; obtain ⟨e_10, hF⟩ := hF
  replace hF := zq_bd hF; obtain ⟨v_8, e_9, hF⟩ := hF
  refine zq_cV (pc' := 15) C (c_X2_flipsTo e_9) yv_X2_flipsTo wd_298 zq_K2 e_10 dX5_freeDistance_12 rfl rfl rfl ⟨Nat.le_of_ble_eq_true rfl, Nat.le_of_ble_eq_true rfl⟩ (Nat.le_of_ble_eq_true rfl) ⟨rfl, rfl⟩ ⟨Nat.le_of_ble_eq_true rfl, Nat.le_of_ble_eq_true rfl⟩ rfl ?_
  have hF := Option.some.inj hF
  subst hF
  exact hE _ _ _ _ (Nat.le_of_ble_eq_true rfl) (Nat.le_of_ble_eq_true rfl) dX5_freeDistance_15
theorem c_X5_freeDistance {h : zq_H} {t : Nat} {out : (Int32 × zq_H)} (hF : f_X5_freeDistance h t = some out) : zq_M none yX5_freeDistance (Cond.code yX5_freeDistance cX5_freeDistance 1 (some .int) :: zq_all) rm_X5_freeDistance [.ref t] h (some (.int out.1)) out.2 := zq_met2 (own := RX5) (by decide +kernel) rfl (Nat.le_of_ble_eq_true rfl) rfl ⟨.int, rfl, rfl⟩ (fun X C T hn hE => v_X5_freeDistance C T hn hF hE)
theorem yv_X5_freeDistance : zq_calV yX5_freeDistance RX5 cX5_freeDistance 1 (some .int) 0 := ⟨by decide +kernel, wd_371, wd_393, wd_394, wd_95⟩
def f_X5_cutOnePart (h : zq_H) (t : Nat) (x1 : Int32) (x2 : Int32) (x3 : Int32) : Option zq_H := (zq_let (((1 : Int32) <<< (x2 &&& 31)) ||| ((1 : Int32) <<< (x3 &&& 31))) fun v_1 => (zq_let (((1 : Int32) <<< ((x3 + 1) &&& 31)) - ((1 : Int32) <<< (x2 &&& 31))) fun v_3 => ((zq_lp (σ := Int32 × zq_H) (ρ := (zq_H) ⊕ zq_H) (fun s_5 => (if x1 ≤ s_5.1 then some (.inr (.inl s_5.2)) else (Option.bind (zq_gr s_5.2 t 5 10) fun v_14 => (Option.bind (zq_ai s_5.2 v_14 s_5.1) fun v_16 => (if (v_16 &&& v_1) = v_1 then (Option.bind (zq_gr s_5.2 t 5 10) fun v_21 => (Option.bind (zq_gr s_5.2 t 5 10) fun v_23 => (Option.bind (zq_ai s_5.2 v_23 s_5.1) fun v_25 => (Option.bind (zq_si s_5.2 v_21 x1 (v_25 &&& v_3)) fun h_27 => (Option.bind (zq_gr h_27 t 5 10) fun v_29 => (Option.bind (zq_gr h_27 t 5 10) fun v_31 => (Option.bind (zq_ai h_27 v_31 s_5.1) fun v_33 => (Option.bind (zq_si h_27 v_29 s_5.1 (v_33 &&& ((v_3 ^^^ (-1)) ||| v_1))) fun h_35 => some (.inr (.inr (h_35))))))))))) else (zq_let (s_5.1 + 1) fun v_19 => some (.inl (v_19, s_5.2)))))))) zq_N (0, h)).bind (Sum.elim (fun y_8 : zq_H => some (y_8)) (fun z_9 => some z_9)))))
abbrev rm_X5_cutOnePart : Room := { frames := 0, cells := 0, slots := 0, locals := 0 }
theorem dX5_cutOnePart_0 : decode cX5_cutOnePart 0 = .ok (.iconst 1, 1) := by decide +kernel
theorem dX5_cutOnePart_1 : decode cX5_cutOnePart 1 = .ok (.iload_n 2, 1) := by decide +kernel
theorem dX5_cutOnePart_2 : decode cX5_cutOnePart 2 = .ok (.ishl, 1) := by decide +kernel
theorem dX5_cutOnePart_3 : decode cX5_cutOnePart 3 = .ok (.iconst 1, 1) := by decide +kernel
theorem dX5_cutOnePart_4 : decode cX5_cutOnePart 4 = .ok (.iload_n 3, 1) := by decide +kernel
theorem dX5_cutOnePart_5 : decode cX5_cutOnePart 5 = .ok (.ishl, 1) := by decide +kernel
theorem dX5_cutOnePart_6 : decode cX5_cutOnePart 6 = .ok (.ior, 1) := by decide +kernel
theorem dX5_cutOnePart_7 : decode cX5_cutOnePart 7 = .ok (.istore 4, 2) := by decide +kernel
theorem dX5_cutOnePart_9 : decode cX5_cutOnePart 9 = .ok (.iconst 1, 1) := by decide +kernel
theorem dX5_cutOnePart_10 : decode cX5_cutOnePart 10 = .ok (.iload_n 3, 1) := by decide +kernel
theorem dX5_cutOnePart_11 : decode cX5_cutOnePart 11 = .ok (.iconst 1, 1) := by decide +kernel
theorem dX5_cutOnePart_12 : decode cX5_cutOnePart 12 = .ok (.iadd, 1) := by decide +kernel
theorem dX5_cutOnePart_13 : decode cX5_cutOnePart 13 = .ok (.ishl, 1) := by decide +kernel
theorem dX5_cutOnePart_14 : decode cX5_cutOnePart 14 = .ok (.iconst 1, 1) := by decide +kernel
theorem dX5_cutOnePart_15 : decode cX5_cutOnePart 15 = .ok (.iload_n 2, 1) := by decide +kernel
theorem dX5_cutOnePart_16 : decode cX5_cutOnePart 16 = .ok (.ishl, 1) := by decide +kernel
theorem dX5_cutOnePart_17 : decode cX5_cutOnePart 17 = .ok (.isub, 1) := by decide +kernel
theorem dX5_cutOnePart_18 : decode cX5_cutOnePart 18 = .ok (.istore 5, 2) := by decide +kernel
theorem dX5_cutOnePart_20 : decode cX5_cutOnePart 20 = .ok (.iconst 0, 1) := by decide +kernel
theorem dX5_cutOnePart_21 : decode cX5_cutOnePart 21 = .ok (.istore 6, 2) := by decide +kernel
theorem dX5_cutOnePart_23 : decode cX5_cutOnePart 23 = .ok (.iload 6, 2) := by decide +kernel
theorem dX5_cutOnePart_25 : decode cX5_cutOnePart 25 = .ok (.iload_n 1, 1) := by decide +kernel
theorem dX5_cutOnePart_26 : decode cX5_cutOnePart 26 = .ok (.if_icmp .ge 63, 3) := by decide +kernel
theorem dX5_cutOnePart_29 : decode cX5_cutOnePart 29 = .ok (.aload_n 0, 1) := by decide +kernel
theorem dX5_cutOnePart_30 : decode cX5_cutOnePart 30 = .ok (.getfield 69, 3) := by decide +kernel
theorem dX5_cutOnePart_33 : decode cX5_cutOnePart 33 = .ok (.iload 6, 2) := by decide +kernel
theorem dX5_cutOnePart_35 : decode cX5_cutOnePart 35 = .ok (.iaload, 1) := by decide +kernel
theorem dX5_cutOnePart_36 : decode cX5_cutOnePart 36 = .ok (.iload 4, 2) := by decide +kernel
theorem dX5_cutOnePart_38 : decode cX5_cutOnePart 38 = .ok (.iand, 1) := by decide +kernel
theorem dX5_cutOnePart_39 : decode cX5_cutOnePart 39 = .ok (.iload 4, 2) := by decide +kernel
theorem dX5_cutOnePart_41 : decode cX5_cutOnePart 41 = .ok (.if_icmp .ne 42, 3) := by decide +kernel
theorem dX5_cutOnePart_44 : decode cX5_cutOnePart 44 = .ok (.aload_n 0, 1) := by decide +kernel
theorem dX5_cutOnePart_45 : decode cX5_cutOnePart 45 = .ok (.getfield 69, 3) := by decide +kernel
theorem dX5_cutOnePart_48 : decode cX5_cutOnePart 48 = .ok (.iload_n 1, 1) := by decide +kernel
theorem dX5_cutOnePart_49 : decode cX5_cutOnePart 49 = .ok (.aload_n 0, 1) := by decide +kernel
theorem dX5_cutOnePart_50 : decode cX5_cutOnePart 50 = .ok (.getfield 69, 3) := by decide +kernel
theorem dX5_cutOnePart_53 : decode cX5_cutOnePart 53 = .ok (.iload 6, 2) := by decide +kernel
theorem dX5_cutOnePart_55 : decode cX5_cutOnePart 55 = .ok (.iaload, 1) := by decide +kernel
theorem dX5_cutOnePart_56 : decode cX5_cutOnePart 56 = .ok (.iload 5, 2) := by decide +kernel
theorem dX5_cutOnePart_58 : decode cX5_cutOnePart 58 = .ok (.iand, 1) := by decide +kernel
theorem dX5_cutOnePart_59 : decode cX5_cutOnePart 59 = .ok (.iastore, 1) := by decide +kernel
theorem dX5_cutOnePart_60 : decode cX5_cutOnePart 60 = .ok (.aload_n 0, 1) := by decide +kernel
theorem dX5_cutOnePart_61 : decode cX5_cutOnePart 61 = .ok (.getfield 69, 3) := by decide +kernel
theorem dX5_cutOnePart_64 : decode cX5_cutOnePart 64 = .ok (.iload 6, 2) := by decide +kernel
theorem dX5_cutOnePart_66 : decode cX5_cutOnePart 66 = .ok (.aload_n 0, 1) := by decide +kernel
theorem dX5_cutOnePart_67 : decode cX5_cutOnePart 67 = .ok (.getfield 69, 3) := by decide +kernel
theorem dX5_cutOnePart_70 : decode cX5_cutOnePart 70 = .ok (.iload 6, 2) := by decide +kernel
theorem dX5_cutOnePart_72 : decode cX5_cutOnePart 72 = .ok (.iaload, 1) := by decide +kernel
theorem dX5_cutOnePart_73 : decode cX5_cutOnePart 73 = .ok (.iload 5, 2) := by decide +kernel
theorem dX5_cutOnePart_75 : decode cX5_cutOnePart 75 = .ok (.iconst (-1), 1) := by decide +kernel
theorem dX5_cutOnePart_76 : decode cX5_cutOnePart 76 = .ok (.ixor, 1) := by decide +kernel
theorem dX5_cutOnePart_77 : decode cX5_cutOnePart 77 = .ok (.iload 4, 2) := by decide +kernel
theorem dX5_cutOnePart_79 : decode cX5_cutOnePart 79 = .ok (.ior, 1) := by decide +kernel
theorem dX5_cutOnePart_80 : decode cX5_cutOnePart 80 = .ok (.iand, 1) := by decide +kernel
theorem dX5_cutOnePart_81 : decode cX5_cutOnePart 81 = .ok (.iastore, 1) := by decide +kernel
theorem dX5_cutOnePart_82 : decode cX5_cutOnePart 82 = .ok (.return_, 1) := by decide +kernel
theorem dX5_cutOnePart_83 : decode cX5_cutOnePart 83 = .ok (.iinc 6 1, 3) := by decide +kernel
theorem dX5_cutOnePart_86 : decode cX5_cutOnePart 86 = .ok (.goto (-63), 3) := by decide +kernel
theorem dX5_cutOnePart_89 : decode cX5_cutOnePart 89 = .ok (.return_, 1) := by decide +kernel
set_option maxRecDepth 100000 in
set_option maxHeartbeats 4000000 in
theorem v_X5_cutOnePart {X : zq_X} (C : zq_C X RX5 cX5_cutOnePart 7 zq_all rm_X5_cutOnePart) {h : zq_H} {t : Nat} {x1 : Int32} {x2 : Int32} {x3 : Int32} (T : zq_T X none) (hn : X.2.2.2.2.2.2.2.2.1.name = yX5_cutOnePart.name) {out : zq_H} (hF : f_X5_cutOnePart h t x1 x2 x3 = some out) (hE : zq_End X cX5_cutOnePart 0 0 none out) : zq_W X 0 0 h 0 [(0, .ref t), (1, .int x1), (2, .int x2), (3, .int x3)] [] := by
  unfold f_X5_cutOnePart at hF
  refine zq_iconst (pc' := 1) C 1 dX5_cutOnePart_0 rfl (by decide) ?_
  refine zq_iload_n (pc' := 2) C dX5_cutOnePart_1 rfl rfl rfl ?_
  refine zq_ishl (pc' := 3) C dX5_cutOnePart_2 rfl ?_
  refine zq_iconst (pc' := 4) C 1 dX5_cutOnePart_3 rfl (by decide) ?_
  refine zq_iload_n (pc' := 5) C dX5_cutOnePart_4 rfl rfl rfl ?_
  refine zq_ishl (pc' := 6) C dX5_cutOnePart_5 rfl ?_
  refine zq_ior (pc' := 7) C dX5_cutOnePart_6 rfl ?_
  replace hF := zq_let_e hF; obtain ⟨v_1, e_2, hF⟩ := hF
  refine zq_istore (lv' := [(4, .int v_1), (0, .ref t), (1, .int x1), (2, .int x2), (3, .int x3)]) (pc' := 9) C dX5_cutOnePart_7 rfl (by decide) e_2 rfl ?_
  refine zq_iconst (pc' := 10) C 1 dX5_cutOnePart_9 rfl (by decide) ?_
  refine zq_iload_n (pc' := 11) C dX5_cutOnePart_10 rfl rfl rfl ?_
  refine zq_iconst (pc' := 12) C 1 dX5_cutOnePart_11 rfl (by decide) ?_
  refine zq_iadd (pc' := 13) C dX5_cutOnePart_12 rfl ?_
  refine zq_ishl (pc' := 14) C dX5_cutOnePart_13 rfl ?_
  refine zq_iconst (pc' := 15) C 1 dX5_cutOnePart_14 rfl (by decide) ?_
  refine zq_iload_n (pc' := 16) C dX5_cutOnePart_15 rfl rfl rfl ?_
  refine zq_ishl (pc' := 17) C dX5_cutOnePart_16 rfl ?_
  refine zq_isub (pc' := 18) C dX5_cutOnePart_17 rfl ?_
  replace hF := zq_let_e hF; obtain ⟨v_3, e_4, hF⟩ := hF
  refine zq_istore (lv' := [(5, .int v_3), (4, .int v_1), (0, .ref t), (1, .int x1), (2, .int x2), (3, .int x3)]) (pc' := 20) C dX5_cutOnePart_18 rfl (by decide) e_4 rfl ?_
  refine zq_iconst (pc' := 21) C 0 dX5_cutOnePart_20 rfl (by decide) ?_
  refine zq_istore (lv' := [(6, .int 0), (5, .int v_3), (4, .int v_1), (0, .ref t), (1, .int x1), (2, .int x2), (3, .int x3)]) (pc' := 23) C dX5_cutOnePart_21 rfl (by decide) rfl rfl ?_
  refine zq_sub [3, 4, 2, 1, 0] rfl ?_
  replace hF := zq_bd hF; obtain ⟨r_6, e_7, hF⟩ := hF
  refine zq_lpW (fun s_5 => zq_W X 0 0 s_5.2 23 [(0, .ref t), (1, .int x1), (4, .int v_1), (5, .int v_3), (6, .int s_5.1)] []) (Sum.elim (fun y_8 => zq_W X 0 0 y_8 89 [] []) (fun z_9 => out = z_9)) e_7 (fun s_5 q_12 hF hrec_10 hex_11 => ?_) ?_
  · skip
    refine zq_iload (pc' := 25) C dX5_cutOnePart_23 rfl rfl ?_
    refine zq_iload_n (pc' := 26) C dX5_cutOnePart_25 rfl rfl rfl ?_
    refine zq_icmp_ge (pc' := 29) C 89 dX5_cutOnePart_26 (by decide) rfl (fun c_13 => ?_) (fun c_13 => ?_)
    · have hF := (zq_ifp hF c_13)
      skip
      cases hF
      exact zq_sub [] rfl (hex_11 _ rfl)
    · have hF := (zq_ifn hF c_13)
      refine zq_aload_n (pc' := 30) C dX5_cutOnePart_29 rfl rfl rfl ?_
      replace hF := zq_bd hF; obtain ⟨v_14, e_15, hF⟩ := hF
      refine zq_getR (j := 10) (pc' := 33) C zq_K5 zq_in5w (Or.inl wd_222) (by decide) rfl dX5_cutOnePart_30 rfl e_15 ?_
      refine zq_iload (pc' := 35) C dX5_cutOnePart_33 rfl rfl ?_
      replace hF := zq_bd hF; obtain ⟨v_16, e_17, hF⟩ := hF
      refine zq_iaload (pc' := 36) C dX5_cutOnePart_35 rfl e_17 ?_
      refine zq_iload (pc' := 38) C dX5_cutOnePart_36 rfl rfl ?_
      refine zq_iand (pc' := 39) C dX5_cutOnePart_38 rfl ?_
      refine zq_iload (pc' := 41) C dX5_cutOnePart_39 rfl rfl ?_
      refine zq_icmp_ne (pc' := 44) C 83 dX5_cutOnePart_41 (by decide) rfl (fun c_18 => ?_) (fun c_18 => ?_)
      · have hF := (zq_ifn hF c_18)
        skip
        replace hF := zq_let_e hF; obtain ⟨v_19, e_20, hF⟩ := hF
        refine zq_iinc (lv' := [(6, .int v_19), (0, .ref t), (1, .int x1), (4, .int v_1), (5, .int v_3)]) (pc' := 86) C dX5_cutOnePart_83 rfl (by decide) 4 rfl e_20 rfl ?_
        refine zq_goto C 23 dX5_cutOnePart_86 (by decide) ?_
        cases hF
        exact zq_sub [1, 2, 3, 4, 0] rfl (hrec_10 _ rfl)
      · have hF := (zq_ifp hF c_18)
        refine zq_aload_n (pc' := 45) C dX5_cutOnePart_44 rfl rfl rfl ?_
        replace hF := zq_bd hF; obtain ⟨v_21, e_22, hF⟩ := hF
        refine zq_getR (j := 10) (pc' := 48) C zq_K5 zq_in5w (Or.inl wd_222) (by decide) rfl dX5_cutOnePart_45 rfl e_22 ?_
        refine zq_iload_n (pc' := 49) C dX5_cutOnePart_48 rfl rfl rfl ?_
        refine zq_aload_n (pc' := 50) C dX5_cutOnePart_49 rfl rfl rfl ?_
        replace hF := zq_bd hF; obtain ⟨v_23, e_24, hF⟩ := hF
        refine zq_getR (j := 10) (pc' := 53) C zq_K5 zq_in5w (Or.inl wd_222) (by decide) rfl dX5_cutOnePart_50 rfl e_24 ?_
        refine zq_iload (pc' := 55) C dX5_cutOnePart_53 rfl rfl ?_
        replace hF := zq_bd hF; obtain ⟨v_25, e_26, hF⟩ := hF
        refine zq_iaload (pc' := 56) C dX5_cutOnePart_55 rfl e_26 ?_
        refine zq_iload (pc' := 58) C dX5_cutOnePart_56 rfl rfl ?_
        refine zq_iand (pc' := 59) C dX5_cutOnePart_58 rfl ?_
        replace hF := zq_bd hF; obtain ⟨h_27, e_28, hF⟩ := hF
        refine zq_iastore (pc' := 60) C dX5_cutOnePart_59 rfl e_28 ?_
        refine zq_aload_n (pc' := 61) C dX5_cutOnePart_60 rfl rfl rfl ?_
        replace hF := zq_bd hF; obtain ⟨v_29, e_30, hF⟩ := hF
        refine zq_getR (j := 10) (pc' := 64) C zq_K5 zq_in5w (Or.inl wd_222) (by decide) rfl dX5_cutOnePart_61 rfl e_30 ?_
        refine zq_iload (pc' := 66) C dX5_cutOnePart_64 rfl rfl ?_
        refine zq_aload_n (pc' := 67) C dX5_cutOnePart_66 rfl rfl rfl ?_
        replace hF := zq_bd hF; obtain ⟨v_31, e_32, hF⟩ := hF
        refine zq_getR (j := 10) (pc' := 70) C zq_K5 zq_in5w (Or.inl wd_222) (by decide) rfl dX5_cutOnePart_67 rfl e_32 ?_
        refine zq_iload (pc' := 72) C dX5_cutOnePart_70 rfl rfl ?_
        replace hF := zq_bd hF; obtain ⟨v_33, e_34, hF⟩ := hF
        refine zq_iaload (pc' := 73) C dX5_cutOnePart_72 rfl e_34 ?_
        refine zq_iload (pc' := 75) C dX5_cutOnePart_73 rfl rfl ?_
        refine zq_iconst (pc' := 76) C (-1) dX5_cutOnePart_75 rfl (by decide) ?_
        refine zq_ixor (pc' := 77) C dX5_cutOnePart_76 rfl ?_
        refine zq_iload (pc' := 79) C dX5_cutOnePart_77 rfl rfl ?_
        refine zq_ior (pc' := 80) C dX5_cutOnePart_79 rfl ?_
        refine zq_iand (pc' := 81) C dX5_cutOnePart_80 rfl ?_
        replace hF := zq_bd hF; obtain ⟨h_35, e_36, hF⟩ := hF
        refine zq_iastore (pc' := 82) C dX5_cutOnePart_81 rfl e_36 ?_
        cases hF
        have q9 : out = h_35 := hex_11 _ rfl
        subst q9
        exact hE _ _ _ _ (Nat.le_of_ble_eq_true rfl) (Nat.le_of_ble_eq_true rfl) dX5_cutOnePart_82
  · rcases r_6 with y_8 | z_9
    · dsimp only [Sum.elim_inl] at hF
      show zq_W X 0 0 y_8 89 [] []
      have hF := Option.some.inj hF
      subst hF
      exact hE _ _ _ _ (Nat.le_of_ble_eq_true rfl) (Nat.le_of_ble_eq_true rfl) dX5_cutOnePart_89
    · cases hF; rfl
theorem c_X5_cutOnePart {h : zq_H} {t : Nat} {x1 : Int32} {x2 : Int32} {x3 : Int32} {out : zq_H} (hF : f_X5_cutOnePart h t x1 x2 x3 = some out) : zq_M none yX5_cutOnePart (Cond.code yX5_cutOnePart cX5_cutOnePart 7 none :: zq_all) rm_X5_cutOnePart [.ref t, .int x1, .int x2, .int x3] h none out := zq_met2 (own := RX5) (by decide +kernel) rfl (Nat.le_of_ble_eq_true rfl) rfl rfl (fun X C T hn hE => v_X5_cutOnePart C T hn hF hE)
theorem yv_X5_cutOnePart : zq_calV yX5_cutOnePart RX5 cX5_cutOnePart 7 none 3 := ⟨by decide +kernel, wd_372, wd_375, wd_376, wd_95⟩
def f_X5_cutIntoParts (h : zq_H) (t : Nat) (x1 : Int32) : Option (Int32 × zq_H) := (Option.bind (zq_gr h t 5 1) fun v_1 => (Option.bind (zq_gr h v_1 3 0) fun v_3 => (Option.bind (zq_gr h v_3 0 0) fun v_5 => (Option.bind (zq_gr h t 5 10) fun v_7 => (Option.bind (zq_gi h v_5 1 0) fun v_9 => (Option.bind (zq_si h v_7 0 (((1 : Int32) <<< (v_9 &&& 31)) - 1)) fun h_11 => ((zq_lp (σ := Int32 × Int32 × zq_H) (ρ := Int32 × zq_H) (fun s_13 => (Option.bind (zq_gi s_13.2.2 v_5 1 1) fun v_21 => (if v_21 ≤ s_13.2.1 then some (.inr (s_13.1, s_13.2.2)) else (Option.bind (f_X5_isIn s_13.2.2 x1 s_13.2.1) fun v_24 => (if v_24 = false then (zq_let (s_13.2.1 + 1) fun v_27 => some (.inl (s_13.1, v_27, s_13.2.2))) else (Option.bind (zq_gr s_13.2.2 t 5 10) fun v_29 => (Option.bind (zq_an s_13.2.2 v_29) fun v_31 => (if v_31 ≤ s_13.1 then (zq_let (s_13.2.1 + 1) fun v_34 => some (.inl (s_13.1, v_34, s_13.2.2))) else (Option.bind (zq_gr s_13.2.2 v_5 1 2) fun v_36 => (Option.bind (zq_ai s_13.2.2 v_36 s_13.2.1) fun v_38 => (Option.bind (zq_gr s_13.2.2 v_5 1 3) fun v_40 => (Option.bind (zq_ai s_13.2.2 v_40 s_13.2.1) fun v_42 => (zq_ck s_13.2.2 t 5 fun _ => (Option.bind (f_X5_cutOnePart s_13.2.2 t s_13.1 v_38 v_42) fun v_44 => (zq_let (s_13.1 + 1) fun v_47 => (zq_let (s_13.2.1 + 1) fun v_49 => some (.inl (v_47, v_49, v_44)))))))))))))))))) zq_N (1, 0, h_11)).bind (fun y_16 : Int32 × zq_H => some ((y_16.1, y_16.2))))))))))
abbrev rm_X5_cutIntoParts : Room := { frames := 1, cells := 0, slots := 0, locals := 26 }
theorem dX5_cutIntoParts_0 : decode cX5_cutIntoParts 0 = .ok (.aload_n 0, 1) := by decide +kernel
theorem dX5_cutIntoParts_1 : decode cX5_cutIntoParts 1 = .ok (.getfield 30, 3) := by decide +kernel
theorem dX5_cutIntoParts_4 : decode cX5_cutIntoParts 4 = .ok (.getfield 83, 3) := by decide +kernel
theorem dX5_cutIntoParts_7 : decode cX5_cutIntoParts 7 = .ok (.getfield 87, 3) := by decide +kernel
theorem dX5_cutIntoParts_10 : decode cX5_cutIntoParts 10 = .ok (.astore_n 2, 1) := by decide +kernel
theorem dX5_cutIntoParts_11 : decode cX5_cutIntoParts 11 = .ok (.aload_n 0, 1) := by decide +kernel
theorem dX5_cutIntoParts_12 : decode cX5_cutIntoParts 12 = .ok (.getfield 69, 3) := by decide +kernel
theorem dX5_cutIntoParts_15 : decode cX5_cutIntoParts 15 = .ok (.iconst 0, 1) := by decide +kernel
theorem dX5_cutIntoParts_16 : decode cX5_cutIntoParts 16 = .ok (.iconst 1, 1) := by decide +kernel
theorem dX5_cutIntoParts_17 : decode cX5_cutIntoParts 17 = .ok (.aload_n 2, 1) := by decide +kernel
theorem dX5_cutIntoParts_18 : decode cX5_cutIntoParts 18 = .ok (.getfield 91, 3) := by decide +kernel
theorem dX5_cutIntoParts_21 : decode cX5_cutIntoParts 21 = .ok (.ishl, 1) := by decide +kernel
theorem dX5_cutIntoParts_22 : decode cX5_cutIntoParts 22 = .ok (.iconst 1, 1) := by decide +kernel
theorem dX5_cutIntoParts_23 : decode cX5_cutIntoParts 23 = .ok (.isub, 1) := by decide +kernel
theorem dX5_cutIntoParts_24 : decode cX5_cutIntoParts 24 = .ok (.iastore, 1) := by decide +kernel
theorem dX5_cutIntoParts_25 : decode cX5_cutIntoParts 25 = .ok (.iconst 1, 1) := by decide +kernel
theorem dX5_cutIntoParts_26 : decode cX5_cutIntoParts 26 = .ok (.istore_n 3, 1) := by decide +kernel
theorem dX5_cutIntoParts_27 : decode cX5_cutIntoParts 27 = .ok (.iconst 0, 1) := by decide +kernel
theorem dX5_cutIntoParts_28 : decode cX5_cutIntoParts 28 = .ok (.istore 4, 2) := by decide +kernel
theorem dX5_cutIntoParts_30 : decode cX5_cutIntoParts 30 = .ok (.iload 4, 2) := by decide +kernel
theorem dX5_cutIntoParts_32 : decode cX5_cutIntoParts 32 = .ok (.aload_n 2, 1) := by decide +kernel
theorem dX5_cutIntoParts_33 : decode cX5_cutIntoParts 33 = .ok (.getfield 320, 3) := by decide +kernel
theorem dX5_cutIntoParts_36 : decode cX5_cutIntoParts 36 = .ok (.if_icmp .ge 49, 3) := by decide +kernel
theorem dX5_cutIntoParts_39 : decode cX5_cutIntoParts 39 = .ok (.iload_n 1, 1) := by decide +kernel
theorem dX5_cutIntoParts_40 : decode cX5_cutIntoParts 40 = .ok (.iload 4, 2) := by decide +kernel
theorem dX5_cutIntoParts_42 : decode cX5_cutIntoParts 42 = .ok (.invokestatic 112, 3) := by decide +kernel
theorem dX5_cutIntoParts_45 : decode cX5_cutIntoParts 45 = .ok (.ifCond .eq 34, 3) := by decide +kernel
theorem dX5_cutIntoParts_48 : decode cX5_cutIntoParts 48 = .ok (.iload_n 3, 1) := by decide +kernel
theorem dX5_cutIntoParts_49 : decode cX5_cutIntoParts 49 = .ok (.aload_n 0, 1) := by decide +kernel
theorem dX5_cutIntoParts_50 : decode cX5_cutIntoParts 50 = .ok (.getfield 69, 3) := by decide +kernel
theorem dX5_cutIntoParts_53 : decode cX5_cutIntoParts 53 = .ok (.arraylength, 1) := by decide +kernel
theorem dX5_cutIntoParts_54 : decode cX5_cutIntoParts 54 = .ok (.if_icmp .ge 25, 3) := by decide +kernel
theorem dX5_cutIntoParts_57 : decode cX5_cutIntoParts 57 = .ok (.aload_n 0, 1) := by decide +kernel
theorem dX5_cutIntoParts_58 : decode cX5_cutIntoParts 58 = .ok (.iload_n 3, 1) := by decide +kernel
theorem dX5_cutIntoParts_59 : decode cX5_cutIntoParts 59 = .ok (.aload_n 2, 1) := by decide +kernel
theorem dX5_cutIntoParts_60 : decode cX5_cutIntoParts 60 = .ok (.getfield 350, 3) := by decide +kernel
theorem dX5_cutIntoParts_63 : decode cX5_cutIntoParts 63 = .ok (.iload 4, 2) := by decide +kernel
theorem dX5_cutIntoParts_65 : decode cX5_cutIntoParts 65 = .ok (.iaload, 1) := by decide +kernel
theorem dX5_cutIntoParts_66 : decode cX5_cutIntoParts 66 = .ok (.aload_n 2, 1) := by decide +kernel
theorem dX5_cutIntoParts_67 : decode cX5_cutIntoParts 67 = .ok (.getfield 353, 3) := by decide +kernel
theorem dX5_cutIntoParts_70 : decode cX5_cutIntoParts 70 = .ok (.iload 4, 2) := by decide +kernel
theorem dX5_cutIntoParts_72 : decode cX5_cutIntoParts 72 = .ok (.iaload, 1) := by decide +kernel
theorem dX5_cutIntoParts_73 : decode cX5_cutIntoParts 73 = .ok (.invokevirtual 356, 3) := by decide +kernel
theorem dX5_cutIntoParts_76 : decode cX5_cutIntoParts 76 = .ok (.iinc 3 1, 3) := by decide +kernel
theorem dX5_cutIntoParts_79 : decode cX5_cutIntoParts 79 = .ok (.iinc 4 1, 3) := by decide +kernel
theorem dX5_cutIntoParts_82 : decode cX5_cutIntoParts 82 = .ok (.goto (-52), 3) := by decide +kernel
theorem dX5_cutIntoParts_85 : decode cX5_cutIntoParts 85 = .ok (.iload_n 3, 1) := by decide +kernel
theorem dX5_cutIntoParts_86 : decode cX5_cutIntoParts 86 = .ok (.ireturn, 1) := by decide +kernel
set_option maxRecDepth 100000 in
set_option maxHeartbeats 4000000 in
theorem v_X5_cutIntoParts {X : zq_X} (C : zq_C X RX5 cX5_cutIntoParts 5 zq_all rm_X5_cutIntoParts) {h : zq_H} {t : Nat} {x1 : Int32} (T : zq_T X none) (hn : X.2.2.2.2.2.2.2.2.1.name = yX5_cutIntoParts.name) {out : (Int32 × zq_H)} (hF : f_X5_cutIntoParts h t x1 = some out) (hE : zq_End X cX5_cutIntoParts 0 0 (some (.int out.1)) out.2) : zq_W X 0 0 h 0 [(0, .ref t), (1, .int x1)] [] := by
  unfold f_X5_cutIntoParts at hF
  refine zq_aload_n (pc' := 1) C dX5_cutIntoParts_0 rfl rfl rfl ?_
  replace hF := zq_bd hF; obtain ⟨v_1, e_2, hF⟩ := hF
  refine zq_getR (j := 1) (pc' := 4) C zq_K5 zq_in5w (Or.inl wd_210) (by decide) rfl dX5_cutIntoParts_1 rfl e_2 ?_
  replace hF := zq_bd hF; obtain ⟨v_3, e_4, hF⟩ := hF
  refine zq_getR (j := 0) (pc' := 7) C zq_K3 zq_in3w (Or.inr ⟨"FlipPolygons", by decide +kernel⟩) (by decide) rfl dX5_cutIntoParts_4 rfl e_4 ?_
  replace hF := zq_bd hF; obtain ⟨v_5, e_6, hF⟩ := hF
  refine zq_getR (j := 0) (pc' := 10) C zq_K0 zq_in0w (Or.inr ⟨"FlipPolygons", by decide +kernel⟩) (by decide) rfl dX5_cutIntoParts_7 rfl e_6 ?_
  refine zq_astore_n (lv' := [(2, .ref v_5), (0, .ref t), (1, .int x1)]) (pc' := 11) C dX5_cutIntoParts_10 rfl rfl (by decide) rfl rfl ?_
  refine zq_aload_n (pc' := 12) C dX5_cutIntoParts_11 rfl rfl rfl ?_
  replace hF := zq_bd hF; obtain ⟨v_7, e_8, hF⟩ := hF
  refine zq_getR (j := 10) (pc' := 15) C zq_K5 zq_in5w (Or.inl wd_222) (by decide) rfl dX5_cutIntoParts_12 rfl e_8 ?_
  refine zq_iconst (pc' := 16) C 0 dX5_cutIntoParts_15 rfl (by decide) ?_
  refine zq_iconst (pc' := 17) C 1 dX5_cutIntoParts_16 rfl (by decide) ?_
  refine zq_aload_n (pc' := 18) C dX5_cutIntoParts_17 rfl rfl rfl ?_
  replace hF := zq_bd hF; obtain ⟨v_9, e_10, hF⟩ := hF
  refine zq_getI (j := 0) (pc' := 21) C zq_K1 zq_in1w (Or.inr ⟨"FlipPolygons", by decide +kernel⟩) (by decide) rfl dX5_cutIntoParts_18 rfl e_10 ?_
  refine zq_ishl (pc' := 22) C dX5_cutIntoParts_21 rfl ?_
  refine zq_iconst (pc' := 23) C 1 dX5_cutIntoParts_22 rfl (by decide) ?_
  refine zq_isub (pc' := 24) C dX5_cutIntoParts_23 rfl ?_
  replace hF := zq_bd hF; obtain ⟨h_11, e_12, hF⟩ := hF
  refine zq_iastore (pc' := 25) C dX5_cutIntoParts_24 rfl e_12 ?_
  refine zq_iconst (pc' := 26) C 1 dX5_cutIntoParts_25 rfl (by decide) ?_
  refine zq_istore_n (lv' := [(3, .int 1), (2, .ref v_5), (0, .ref t), (1, .int x1)]) (pc' := 27) C dX5_cutIntoParts_26 rfl rfl (by decide) rfl rfl ?_
  refine zq_iconst (pc' := 28) C 0 dX5_cutIntoParts_27 rfl (by decide) ?_
  refine zq_istore (lv' := [(4, .int 0), (3, .int 1), (2, .ref v_5), (0, .ref t), (1, .int x1)]) (pc' := 30) C dX5_cutIntoParts_28 rfl (by decide) rfl rfl ?_
  refine zq_sub [3, 4, 2, 1, 0] rfl ?_
  replace hF := zq_bd hF; obtain ⟨r_14, e_15, hF⟩ := hF
  refine zq_lpW (fun s_13 => zq_W X 0 0 s_13.2.2 30 [(0, .ref t), (1, .int x1), (2, .ref v_5), (3, .int s_13.1), (4, .int s_13.2.1)] []) (fun y_16 => zq_W X 0 0 y_16.2 85 [(3, .int y_16.1)] []) e_15 (fun s_13 q_20 hF hrec_18 hex_19 => ?_) ?_
  · skip
    refine zq_iload (pc' := 32) C dX5_cutIntoParts_30 rfl rfl ?_
    refine zq_aload_n (pc' := 33) C dX5_cutIntoParts_32 rfl rfl rfl ?_
    replace hF := zq_bd hF; obtain ⟨v_21, e_22, hF⟩ := hF
    refine zq_getI (j := 1) (pc' := 36) C zq_K1 zq_in1w (Or.inr ⟨"FlipPolygons", by decide +kernel⟩) (by decide) rfl dX5_cutIntoParts_33 rfl e_22 ?_
    refine zq_icmp_ge (pc' := 39) C 85 dX5_cutIntoParts_36 (by decide) rfl (fun c_23 => ?_) (fun c_23 => ?_)
    · have hF := (zq_ifp hF c_23)
      skip
      cases hF
      exact zq_sub [3] rfl (hex_19 _ rfl)
    · have hF := (zq_ifn hF c_23)
      refine zq_iload_n (pc' := 40) C dX5_cutIntoParts_39 rfl rfl rfl ?_
      refine zq_iload (pc' := 42) C dX5_cutIntoParts_40 rfl rfl ?_
      replace hF := zq_bd hF; obtain ⟨v_24, e_25, hF⟩ := hF
      refine zq_cS (pc' := 45) C (c_X5_isIn e_25) ys_X5_isIn wd_266 dX5_cutIntoParts_42 rfl rfl rfl ⟨Nat.le_of_ble_eq_true rfl, Nat.le_of_ble_eq_true rfl⟩ (Nat.le_of_ble_eq_true rfl) ⟨rfl, rfl⟩ ⟨Nat.le_of_ble_eq_true rfl, Nat.le_of_ble_eq_true rfl⟩ rfl ?_
      refine zq_if_eq (pc' := 48) C 79 dX5_cutIntoParts_45 (by decide) rfl (fun c_26 => ?_) (fun c_26 => ?_)
      · have hF := (zq_ifp hF (zq_b0.mp c_26))
        skip
        replace hF := zq_let_e hF; obtain ⟨v_27, e_28, hF⟩ := hF
        refine zq_iinc (lv' := [(4, .int v_27), (0, .ref t), (1, .int x1), (2, .ref v_5), (3, .int s_13.1)]) (pc' := 82) C dX5_cutIntoParts_79 rfl (by decide) 4 rfl e_28 rfl ?_
        refine zq_goto C 30 dX5_cutIntoParts_82 (by decide) ?_
        cases hF
        exact zq_sub [1, 2, 3, 4, 0] rfl (hrec_18 _ rfl)
      · have hF := (zq_ifn hF (fun q => c_26 (zq_b0.mpr q)))
        refine zq_iload_n (pc' := 49) C dX5_cutIntoParts_48 rfl rfl rfl ?_
        refine zq_aload_n (pc' := 50) C dX5_cutIntoParts_49 rfl rfl rfl ?_
        replace hF := zq_bd hF; obtain ⟨v_29, e_30, hF⟩ := hF
        refine zq_getR (j := 10) (pc' := 53) C zq_K5 zq_in5w (Or.inl wd_222) (by decide) rfl dX5_cutIntoParts_50 rfl e_30 ?_
        replace hF := zq_bd hF; obtain ⟨v_31, e_32, hF⟩ := hF
        refine zq_alen (pc' := 54) C dX5_cutIntoParts_53 rfl e_32 ?_
        refine zq_icmp_ge (pc' := 57) C 79 dX5_cutIntoParts_54 (by decide) rfl (fun c_33 => ?_) (fun c_33 => ?_)
        · have hF := (zq_ifp hF c_33)
          skip
          replace hF := zq_let_e hF; obtain ⟨v_34, e_35, hF⟩ := hF
          refine zq_iinc (lv' := [(4, .int v_34), (0, .ref t), (1, .int x1), (2, .ref v_5), (3, .int s_13.1)]) (pc' := 82) C dX5_cutIntoParts_79 rfl (by decide) 4 rfl e_35 rfl ?_
          refine zq_goto C 30 dX5_cutIntoParts_82 (by decide) ?_
          cases hF
          exact zq_sub [1, 2, 3, 4, 0] rfl (hrec_18 _ rfl)
        · have hF := (zq_ifn hF c_33)
          refine zq_aload_n (pc' := 58) C dX5_cutIntoParts_57 rfl rfl rfl ?_
          refine zq_iload_n (pc' := 59) C dX5_cutIntoParts_58 rfl rfl rfl ?_
          refine zq_aload_n (pc' := 60) C dX5_cutIntoParts_59 rfl rfl rfl ?_
          replace hF := zq_bd hF; obtain ⟨v_36, e_37, hF⟩ := hF
          refine zq_getR (j := 2) (pc' := 63) C zq_K1 zq_in1w (Or.inr ⟨"FlipPolygons", by decide +kernel⟩) (by decide) rfl dX5_cutIntoParts_60 rfl e_37 ?_
          refine zq_iload (pc' := 65) C dX5_cutIntoParts_63 rfl rfl ?_
          replace hF := zq_bd hF; obtain ⟨v_38, e_39, hF⟩ := hF
          refine zq_iaload (pc' := 66) C dX5_cutIntoParts_65 rfl e_39 ?_
          refine zq_aload_n (pc' := 67) C dX5_cutIntoParts_66 rfl rfl rfl ?_
          replace hF := zq_bd hF; obtain ⟨v_40, e_41, hF⟩ := hF
          refine zq_getR (j := 3) (pc' := 70) C zq_K1 zq_in1w (Or.inr ⟨"FlipPolygons", by decide +kernel⟩) (by decide) rfl dX5_cutIntoParts_67 rfl e_41 ?_
          refine zq_iload (pc' := 72) C dX5_cutIntoParts_70 rfl rfl ?_
          replace hF := zq_bd hF; obtain ⟨v_42, e_43, hF⟩ := hF
          refine zq_iaload (pc' := 73) C dX5_cutIntoParts_72 rfl e_43 ?_
          replace hF := zq_ck_e hF; obtain ⟨e_46, hF⟩ := hF
          replace hF := zq_bd hF; obtain ⟨v_44, e_45, hF⟩ := hF
          refine zq_cV (pc' := 76) C (c_X5_cutOnePart e_45) yv_X5_cutOnePart wd_374 zq_K5 e_46 dX5_cutIntoParts_73 rfl rfl rfl ⟨Nat.le_of_ble_eq_true rfl, Nat.le_of_ble_eq_true rfl⟩ (Nat.le_of_ble_eq_true rfl) ⟨rfl, rfl⟩ ⟨Nat.le_of_ble_eq_true rfl, Nat.le_of_ble_eq_true rfl⟩ rfl ?_
          replace hF := zq_let_e hF; obtain ⟨v_47, e_48, hF⟩ := hF
          refine zq_iinc (lv' := [(3, .int v_47), (0, .ref t), (1, .int x1), (2, .ref v_5), (4, .int s_13.2.1)]) (pc' := 79) C dX5_cutIntoParts_76 rfl (by decide) 3 rfl e_48 rfl ?_
          replace hF := zq_let_e hF; obtain ⟨v_49, e_50, hF⟩ := hF
          refine zq_iinc (lv' := [(4, .int v_49), (3, .int v_47), (0, .ref t), (1, .int x1), (2, .ref v_5)]) (pc' := 82) C dX5_cutIntoParts_79 rfl (by decide) 4 rfl e_50 rfl ?_
          refine zq_goto C 30 dX5_cutIntoParts_82 (by decide) ?_
          cases hF
          exact zq_sub [2, 3, 4, 1, 0] rfl (hrec_18 _ rfl)
  · skip
    obtain ⟨y_16, rfl⟩ : ∃ z9, z9 = r_14 := ⟨_, rfl⟩
    show zq_W X 0 0 y_16.2 85 [(3, .int y_16.1)] []
    refine zq_iload_n (pc' := 86) C dX5_cutIntoParts_85 rfl rfl rfl ?_
    have hF := Option.some.inj hF
    subst hF
    exact hE _ _ _ _ (Nat.le_of_ble_eq_true rfl) (Nat.le_of_ble_eq_true rfl) dX5_cutIntoParts_86
theorem c_X5_cutIntoParts {h : zq_H} {t : Nat} {x1 : Int32} {out : (Int32 × zq_H)} (hF : f_X5_cutIntoParts h t x1 = some out) : zq_M none yX5_cutIntoParts (Cond.code yX5_cutIntoParts cX5_cutIntoParts 5 (some .int) :: zq_all) rm_X5_cutIntoParts [.ref t, .int x1] h (some (.int out.1)) out.2 := zq_met2 (own := RX5) (by decide +kernel) rfl (Nat.le_of_ble_eq_true rfl) rfl ⟨.int, rfl, rfl⟩ (fun X C T hn hE => v_X5_cutIntoParts C T hn hF hE)
theorem yv_X5_cutIntoParts : zq_calV yX5_cutIntoParts RX5 cX5_cutIntoParts 5 (some .int) 1 := ⟨by decide +kernel, wd_373, wd_382, wd_383, wd_95⟩
