def f_J6_bitCount_0f7a4 (h : zq_H) (x0 : Int32) : Option Int32 := (zq_let (x0 - ((x0.toUInt32 >>> ((1 : Int32).toUInt32 &&& Int32.toUInt32 31)).toInt32 &&& 1431655765)) fun v_1 => (zq_let ((v_1 &&& 858993459) + ((v_1.toUInt32 >>> ((2 : Int32).toUInt32 &&& Int32.toUInt32 31)).toInt32 &&& 858993459)) fun v_3 => (zq_let ((v_3 + (v_3.toUInt32 >>> ((4 : Int32).toUInt32 &&& Int32.toUInt32 31)).toInt32) &&& 252645135) fun v_5 => (zq_let (v_5 + (v_5.toUInt32 >>> ((8 : Int32).toUInt32 &&& Int32.toUInt32 31)).toInt32) fun v_7 => (zq_let (v_7 + (v_7.toUInt32 >>> ((16 : Int32).toUInt32 &&& Int32.toUInt32 31)).toInt32) fun v_9 => some (v_9 &&& 63))))))
abbrev rm_J6_bitCount_0f7a4 : Room := { frames := 0, cells := 0, slots := 0, locals := 0 }
theorem dJ6_bitCount_0f7a4_0 : decode cJ6_bitCount_0f7a4 0 = .ok (.iload_n 0, 1) := by decide +kernel
theorem dJ6_bitCount_0f7a4_1 : decode cJ6_bitCount_0f7a4 1 = .ok (.iload_n 0, 1) := by decide +kernel
theorem dJ6_bitCount_0f7a4_2 : decode cJ6_bitCount_0f7a4 2 = .ok (.iconst 1, 1) := by decide +kernel
theorem dJ6_bitCount_0f7a4_3 : decode cJ6_bitCount_0f7a4 3 = .ok (.iushr, 1) := by decide +kernel
theorem dJ6_bitCount_0f7a4_4 : decode cJ6_bitCount_0f7a4 4 = .ok (.ldc_w 265, 3) := by decide +kernel
theorem dJ6_bitCount_0f7a4_7 : decode cJ6_bitCount_0f7a4 7 = .ok (.iand, 1) := by decide +kernel
theorem dJ6_bitCount_0f7a4_8 : decode cJ6_bitCount_0f7a4 8 = .ok (.isub, 1) := by decide +kernel
theorem dJ6_bitCount_0f7a4_9 : decode cJ6_bitCount_0f7a4 9 = .ok (.istore_n 0, 1) := by decide +kernel
theorem dJ6_bitCount_0f7a4_10 : decode cJ6_bitCount_0f7a4 10 = .ok (.iload_n 0, 1) := by decide +kernel
theorem dJ6_bitCount_0f7a4_11 : decode cJ6_bitCount_0f7a4 11 = .ok (.ldc_w 266, 3) := by decide +kernel
theorem dJ6_bitCount_0f7a4_14 : decode cJ6_bitCount_0f7a4 14 = .ok (.iand, 1) := by decide +kernel
theorem dJ6_bitCount_0f7a4_15 : decode cJ6_bitCount_0f7a4 15 = .ok (.iload_n 0, 1) := by decide +kernel
theorem dJ6_bitCount_0f7a4_16 : decode cJ6_bitCount_0f7a4 16 = .ok (.iconst 2, 1) := by decide +kernel
theorem dJ6_bitCount_0f7a4_17 : decode cJ6_bitCount_0f7a4 17 = .ok (.iushr, 1) := by decide +kernel
theorem dJ6_bitCount_0f7a4_18 : decode cJ6_bitCount_0f7a4 18 = .ok (.ldc_w 266, 3) := by decide +kernel
theorem dJ6_bitCount_0f7a4_21 : decode cJ6_bitCount_0f7a4 21 = .ok (.iand, 1) := by decide +kernel
theorem dJ6_bitCount_0f7a4_22 : decode cJ6_bitCount_0f7a4 22 = .ok (.iadd, 1) := by decide +kernel
theorem dJ6_bitCount_0f7a4_23 : decode cJ6_bitCount_0f7a4 23 = .ok (.istore_n 0, 1) := by decide +kernel
theorem dJ6_bitCount_0f7a4_24 : decode cJ6_bitCount_0f7a4 24 = .ok (.iload_n 0, 1) := by decide +kernel
theorem dJ6_bitCount_0f7a4_25 : decode cJ6_bitCount_0f7a4 25 = .ok (.iload_n 0, 1) := by decide +kernel
theorem dJ6_bitCount_0f7a4_26 : decode cJ6_bitCount_0f7a4 26 = .ok (.iconst 4, 1) := by decide +kernel
theorem dJ6_bitCount_0f7a4_27 : decode cJ6_bitCount_0f7a4 27 = .ok (.iushr, 1) := by decide +kernel
theorem dJ6_bitCount_0f7a4_28 : decode cJ6_bitCount_0f7a4 28 = .ok (.iadd, 1) := by decide +kernel
theorem dJ6_bitCount_0f7a4_29 : decode cJ6_bitCount_0f7a4 29 = .ok (.ldc_w 267, 3) := by decide +kernel
theorem dJ6_bitCount_0f7a4_32 : decode cJ6_bitCount_0f7a4 32 = .ok (.iand, 1) := by decide +kernel
theorem dJ6_bitCount_0f7a4_33 : decode cJ6_bitCount_0f7a4 33 = .ok (.istore_n 0, 1) := by decide +kernel
theorem dJ6_bitCount_0f7a4_34 : decode cJ6_bitCount_0f7a4 34 = .ok (.iload_n 0, 1) := by decide +kernel
theorem dJ6_bitCount_0f7a4_35 : decode cJ6_bitCount_0f7a4 35 = .ok (.iload_n 0, 1) := by decide +kernel
theorem dJ6_bitCount_0f7a4_36 : decode cJ6_bitCount_0f7a4 36 = .ok (.bipush 8, 2) := by decide +kernel
theorem dJ6_bitCount_0f7a4_38 : decode cJ6_bitCount_0f7a4 38 = .ok (.iushr, 1) := by decide +kernel
theorem dJ6_bitCount_0f7a4_39 : decode cJ6_bitCount_0f7a4 39 = .ok (.iadd, 1) := by decide +kernel
theorem dJ6_bitCount_0f7a4_40 : decode cJ6_bitCount_0f7a4 40 = .ok (.istore_n 0, 1) := by decide +kernel
theorem dJ6_bitCount_0f7a4_41 : decode cJ6_bitCount_0f7a4 41 = .ok (.iload_n 0, 1) := by decide +kernel
theorem dJ6_bitCount_0f7a4_42 : decode cJ6_bitCount_0f7a4 42 = .ok (.iload_n 0, 1) := by decide +kernel
theorem dJ6_bitCount_0f7a4_43 : decode cJ6_bitCount_0f7a4 43 = .ok (.bipush 16, 2) := by decide +kernel
theorem dJ6_bitCount_0f7a4_45 : decode cJ6_bitCount_0f7a4 45 = .ok (.iushr, 1) := by decide +kernel
theorem dJ6_bitCount_0f7a4_46 : decode cJ6_bitCount_0f7a4 46 = .ok (.iadd, 1) := by decide +kernel
theorem dJ6_bitCount_0f7a4_47 : decode cJ6_bitCount_0f7a4 47 = .ok (.istore_n 0, 1) := by decide +kernel
theorem dJ6_bitCount_0f7a4_48 : decode cJ6_bitCount_0f7a4 48 = .ok (.iload_n 0, 1) := by decide +kernel
theorem dJ6_bitCount_0f7a4_49 : decode cJ6_bitCount_0f7a4 49 = .ok (.bipush 63, 2) := by decide +kernel
theorem dJ6_bitCount_0f7a4_51 : decode cJ6_bitCount_0f7a4 51 = .ok (.iand, 1) := by decide +kernel
theorem dJ6_bitCount_0f7a4_52 : decode cJ6_bitCount_0f7a4 52 = .ok (.ireturn, 1) := by decide +kernel
set_option maxRecDepth 100000 in
set_option maxHeartbeats 4000000 in
theorem v_J6_bitCount_0f7a4 {X : zq_X} (C : zq_C X RJ6 cJ6_bitCount_0f7a4 1 zq_all rm_J6_bitCount_0f7a4) {h : zq_H} {x0 : Int32} (T : zq_T X none) (hn : X.2.2.2.2.2.2.2.2.1.name = yJ6_bitCount_0f7a4.name) {out : Int32} (hF : f_J6_bitCount_0f7a4 h x0 = some out) (hE : zq_End X cJ6_bitCount_0f7a4 0 0 (some (.int out)) h) : zq_W X 0 0 h 0 [(0, .int x0)] [] := by
  unfold f_J6_bitCount_0f7a4 at hF
  refine zq_iload_n (pc' := 1) C dJ6_bitCount_0f7a4_0 rfl rfl rfl ?_
  refine zq_iload_n (pc' := 2) C dJ6_bitCount_0f7a4_1 rfl rfl rfl ?_
  refine zq_iconst (pc' := 3) C 1 dJ6_bitCount_0f7a4_2 rfl (by decide) ?_
  refine zq_iushr (pc' := 4) C dJ6_bitCount_0f7a4_3 rfl ?_
  refine zq_ldcw (pc' := 7) C 1431655765 dJ6_bitCount_0f7a4_4 rfl wd_36 ?_
  refine zq_iand (pc' := 8) C dJ6_bitCount_0f7a4_7 rfl ?_
  refine zq_isub (pc' := 9) C dJ6_bitCount_0f7a4_8 rfl ?_
  replace hF := zq_let_e hF; obtain ⟨v_1, e_2, hF⟩ := hF
  refine zq_istore_n (lv' := [(0, .int v_1)]) (pc' := 10) C dJ6_bitCount_0f7a4_9 rfl rfl (by decide) e_2 rfl ?_
  refine zq_iload_n (pc' := 11) C dJ6_bitCount_0f7a4_10 rfl rfl rfl ?_
  refine zq_ldcw (pc' := 14) C 858993459 dJ6_bitCount_0f7a4_11 rfl wd_37 ?_
  refine zq_iand (pc' := 15) C dJ6_bitCount_0f7a4_14 rfl ?_
  refine zq_iload_n (pc' := 16) C dJ6_bitCount_0f7a4_15 rfl rfl rfl ?_
  refine zq_iconst (pc' := 17) C 2 dJ6_bitCount_0f7a4_16 rfl (by decide) ?_
  refine zq_iushr (pc' := 18) C dJ6_bitCount_0f7a4_17 rfl ?_
  refine zq_ldcw (pc' := 21) C 858993459 dJ6_bitCount_0f7a4_18 rfl wd_37 ?_
  refine zq_iand (pc' := 22) C dJ6_bitCount_0f7a4_21 rfl ?_
  refine zq_iadd (pc' := 23) C dJ6_bitCount_0f7a4_22 rfl ?_
  replace hF := zq_let_e hF; obtain ⟨v_3, e_4, hF⟩ := hF
  refine zq_istore_n (lv' := [(0, .int v_3)]) (pc' := 24) C dJ6_bitCount_0f7a4_23 rfl rfl (by decide) e_4 rfl ?_
  refine zq_iload_n (pc' := 25) C dJ6_bitCount_0f7a4_24 rfl rfl rfl ?_
  refine zq_iload_n (pc' := 26) C dJ6_bitCount_0f7a4_25 rfl rfl rfl ?_
  refine zq_iconst (pc' := 27) C 4 dJ6_bitCount_0f7a4_26 rfl (by decide) ?_
  refine zq_iushr (pc' := 28) C dJ6_bitCount_0f7a4_27 rfl ?_
  refine zq_iadd (pc' := 29) C dJ6_bitCount_0f7a4_28 rfl ?_
  refine zq_ldcw (pc' := 32) C 252645135 dJ6_bitCount_0f7a4_29 rfl wd_38 ?_
  refine zq_iand (pc' := 33) C dJ6_bitCount_0f7a4_32 rfl ?_
  replace hF := zq_let_e hF; obtain ⟨v_5, e_6, hF⟩ := hF
  refine zq_istore_n (lv' := [(0, .int v_5)]) (pc' := 34) C dJ6_bitCount_0f7a4_33 rfl rfl (by decide) e_6 rfl ?_
  refine zq_iload_n (pc' := 35) C dJ6_bitCount_0f7a4_34 rfl rfl rfl ?_
  refine zq_iload_n (pc' := 36) C dJ6_bitCount_0f7a4_35 rfl rfl rfl ?_
  refine zq_bipush (pc' := 38) C 8 dJ6_bitCount_0f7a4_36 rfl (by decide) ?_
  refine zq_iushr (pc' := 39) C dJ6_bitCount_0f7a4_38 rfl ?_
  refine zq_iadd (pc' := 40) C dJ6_bitCount_0f7a4_39 rfl ?_
  replace hF := zq_let_e hF; obtain ⟨v_7, e_8, hF⟩ := hF
  refine zq_istore_n (lv' := [(0, .int v_7)]) (pc' := 41) C dJ6_bitCount_0f7a4_40 rfl rfl (by decide) e_8 rfl ?_
  refine zq_iload_n (pc' := 42) C dJ6_bitCount_0f7a4_41 rfl rfl rfl ?_
  refine zq_iload_n (pc' := 43) C dJ6_bitCount_0f7a4_42 rfl rfl rfl ?_
  refine zq_bipush (pc' := 45) C 16 dJ6_bitCount_0f7a4_43 rfl (by decide) ?_
  refine zq_iushr (pc' := 46) C dJ6_bitCount_0f7a4_45 rfl ?_
  refine zq_iadd (pc' := 47) C dJ6_bitCount_0f7a4_46 rfl ?_
  replace hF := zq_let_e hF; obtain ⟨v_9, e_10, hF⟩ := hF
  refine zq_istore_n (lv' := [(0, .int v_9)]) (pc' := 48) C dJ6_bitCount_0f7a4_47 rfl rfl (by decide) e_10 rfl ?_
  refine zq_iload_n (pc' := 49) C dJ6_bitCount_0f7a4_48 rfl rfl rfl ?_
  refine zq_bipush (pc' := 51) C 63 dJ6_bitCount_0f7a4_49 rfl (by decide) ?_
  refine zq_iand (pc' := 52) C dJ6_bitCount_0f7a4_51 rfl ?_
  have hF := Option.some.inj hF
  subst hF
  exact hE _ _ _ _ (Nat.le_of_ble_eq_true rfl) (Nat.le_of_ble_eq_true rfl) dJ6_bitCount_0f7a4_52
theorem c_J6_bitCount_0f7a4 {h : zq_H} {x0 : Int32} {out : Int32} (hF : f_J6_bitCount_0f7a4 h x0 = some out) : zq_M none yJ6_bitCount_0f7a4 (Cond.code yJ6_bitCount_0f7a4 cJ6_bitCount_0f7a4 1 (some .int) :: zq_all) rm_J6_bitCount_0f7a4 [.int x0] h (some (.int out)) h := zq_met2 (own := RJ6) (by decide +kernel) rfl (Nat.le_of_ble_eq_true rfl) rfl ⟨.int, rfl, rfl⟩ (fun X C T hn hE => v_J6_bitCount_0f7a4 C T hn hF hE)
theorem ys_J6_bitCount_0f7a4 : zq_calS yJ6_bitCount_0f7a4 cJ6_bitCount_0f7a4 1 (some .int) 1 := ⟨by decide +kernel, wd_35, wd_53, wd_54⟩
def f_J7_fill_53178 (h : zq_H) (r0 : Nat) (x1 : Int32) : Option zq_H := (Option.bind (zq_an h r0) fun v_1 => ((zq_lp (σ := Int32 × zq_H) (ρ := zq_H) (fun s_3 => (if v_1 ≤ s_3.1 then some (.inr s_3.2) else (Option.bind (zq_si s_3.2 r0 s_3.1 x1) fun h_12 => (zq_let (s_3.1 + 1) fun v_14 => some (.inl (v_14, h_12)))))) zq_N (0, h)).bind (fun y_6 : zq_H => some (y_6))))
abbrev rm_J7_fill_53178 : Room := { frames := 0, cells := 0, slots := 0, locals := 0 }
theorem dJ7_fill_53178_0 : decode cJ7_fill_53178 0 = .ok (.iconst 0, 1) := by decide +kernel
theorem dJ7_fill_53178_1 : decode cJ7_fill_53178 1 = .ok (.istore_n 2, 1) := by decide +kernel
theorem dJ7_fill_53178_2 : decode cJ7_fill_53178 2 = .ok (.aload_n 0, 1) := by decide +kernel
theorem dJ7_fill_53178_3 : decode cJ7_fill_53178 3 = .ok (.arraylength, 1) := by decide +kernel
theorem dJ7_fill_53178_4 : decode cJ7_fill_53178 4 = .ok (.istore_n 3, 1) := by decide +kernel
theorem dJ7_fill_53178_5 : decode cJ7_fill_53178 5 = .ok (.iload_n 2, 1) := by decide +kernel
theorem dJ7_fill_53178_6 : decode cJ7_fill_53178 6 = .ok (.iload_n 3, 1) := by decide +kernel
theorem dJ7_fill_53178_7 : decode cJ7_fill_53178 7 = .ok (.if_icmp .ge 13, 3) := by decide +kernel
theorem dJ7_fill_53178_10 : decode cJ7_fill_53178 10 = .ok (.aload_n 0, 1) := by decide +kernel
theorem dJ7_fill_53178_11 : decode cJ7_fill_53178 11 = .ok (.iload_n 2, 1) := by decide +kernel
theorem dJ7_fill_53178_12 : decode cJ7_fill_53178 12 = .ok (.iload_n 1, 1) := by decide +kernel
theorem dJ7_fill_53178_13 : decode cJ7_fill_53178 13 = .ok (.iastore, 1) := by decide +kernel
theorem dJ7_fill_53178_14 : decode cJ7_fill_53178 14 = .ok (.iinc 2 1, 3) := by decide +kernel
theorem dJ7_fill_53178_17 : decode cJ7_fill_53178 17 = .ok (.goto (-12), 3) := by decide +kernel
theorem dJ7_fill_53178_20 : decode cJ7_fill_53178 20 = .ok (.return_, 1) := by decide +kernel
set_option maxRecDepth 100000 in
set_option maxHeartbeats 4000000 in
theorem v_J7_fill_53178 {X : zq_X} (C : zq_C X RJ7 cJ7_fill_53178 4 zq_all rm_J7_fill_53178) {h : zq_H} {r0 : Nat} {x1 : Int32} (T : zq_T X none) (hn : X.2.2.2.2.2.2.2.2.1.name = yJ7_fill_53178.name) {out : zq_H} (hF : f_J7_fill_53178 h r0 x1 = some out) (hE : zq_End X cJ7_fill_53178 0 0 none out) : zq_W X 0 0 h 0 [(0, .ref r0), (1, .int x1)] [] := by
  unfold f_J7_fill_53178 at hF
  refine zq_iconst (pc' := 1) C 0 dJ7_fill_53178_0 rfl (by decide) ?_
  refine zq_istore_n (lv' := [(2, .int 0), (0, .ref r0), (1, .int x1)]) (pc' := 2) C dJ7_fill_53178_1 rfl rfl (by decide) rfl rfl ?_
  refine zq_aload_n (pc' := 3) C dJ7_fill_53178_2 rfl rfl rfl ?_
  replace hF := zq_bd hF; obtain ⟨v_1, e_2, hF⟩ := hF
  refine zq_alen (pc' := 4) C dJ7_fill_53178_3 rfl e_2 ?_
  refine zq_istore_n (lv' := [(3, .int v_1), (2, .int 0), (0, .ref r0), (1, .int x1)]) (pc' := 5) C dJ7_fill_53178_4 rfl rfl (by decide) rfl rfl ?_
  refine zq_sub [2, 3, 1, 0] rfl ?_
  replace hF := zq_bd hF; obtain ⟨r_4, e_5, hF⟩ := hF
  refine zq_lpW (fun s_3 => zq_W X 0 0 s_3.2 5 [(0, .ref r0), (1, .int x1), (2, .int s_3.1), (3, .int v_1)] []) (fun y_6 => zq_W X 0 0 y_6 20 [] []) e_5 (fun s_3 q_10 hF hrec_8 hex_9 => ?_) ?_
  · skip
    refine zq_iload_n (pc' := 6) C dJ7_fill_53178_5 rfl rfl rfl ?_
    refine zq_iload_n (pc' := 7) C dJ7_fill_53178_6 rfl rfl rfl ?_
    refine zq_icmp_ge (pc' := 10) C 20 dJ7_fill_53178_7 (by decide) rfl (fun c_11 => ?_) (fun c_11 => ?_)
    · have hF := (zq_ifp hF c_11)
      skip
      cases hF
      exact zq_sub [] rfl (hex_9 _ rfl)
    · have hF := (zq_ifn hF c_11)
      refine zq_aload_n (pc' := 11) C dJ7_fill_53178_10 rfl rfl rfl ?_
      refine zq_iload_n (pc' := 12) C dJ7_fill_53178_11 rfl rfl rfl ?_
      refine zq_iload_n (pc' := 13) C dJ7_fill_53178_12 rfl rfl rfl ?_
      replace hF := zq_bd hF; obtain ⟨h_12, e_13, hF⟩ := hF
      refine zq_iastore (pc' := 14) C dJ7_fill_53178_13 rfl e_13 ?_
      replace hF := zq_let_e hF; obtain ⟨v_14, e_15, hF⟩ := hF
      refine zq_iinc (lv' := [(2, .int v_14), (0, .ref r0), (1, .int x1), (3, .int v_1)]) (pc' := 17) C dJ7_fill_53178_14 rfl (by decide) 2 rfl e_15 rfl ?_
      refine zq_goto C 5 dJ7_fill_53178_17 (by decide) ?_
      cases hF
      exact zq_sub [1, 2, 0, 3] rfl (hrec_8 _ rfl)
  · skip
    obtain ⟨y_6, rfl⟩ : ∃ z9, z9 = r_4 := ⟨_, rfl⟩
    show zq_W X 0 0 y_6 20 [] []
    have hF := Option.some.inj hF
    subst hF
    exact hE _ _ _ _ (Nat.le_of_ble_eq_true rfl) (Nat.le_of_ble_eq_true rfl) dJ7_fill_53178_20
theorem c_J7_fill_53178 {h : zq_H} {r0 : Nat} {x1 : Int32} {out : zq_H} (hF : f_J7_fill_53178 h r0 x1 = some out) : zq_M none yJ7_fill_53178 (Cond.code yJ7_fill_53178 cJ7_fill_53178 4 none :: zq_all) rm_J7_fill_53178 [.ref r0, .int x1] h none out := zq_met2 (own := RJ7) (by decide +kernel) rfl (Nat.le_of_ble_eq_true rfl) rfl rfl (fun X C T hn hE => v_J7_fill_53178 C T hn hF hE)
theorem ys_J7_fill_53178 : zq_calS yJ7_fill_53178 cJ7_fill_53178 4 none 2 := ⟨by decide +kernel, wd_62, wd_68, wd_69⟩
def f_X5_isIn (h : zq_H) (x0 : Int32) (x1 : Int32) : Option Bool := (if ((x0 >>> (x1 &&& 31)) &&& 1) = 1 then some (true) else some (false))
abbrev rm_X5_isIn : Room := { frames := 0, cells := 0, slots := 0, locals := 0 }
theorem dX5_isIn_0 : decode cX5_isIn 0 = .ok (.iload_n 0, 1) := by decide +kernel
theorem dX5_isIn_1 : decode cX5_isIn 1 = .ok (.iload_n 1, 1) := by decide +kernel
theorem dX5_isIn_2 : decode cX5_isIn 2 = .ok (.ishr, 1) := by decide +kernel
theorem dX5_isIn_3 : decode cX5_isIn 3 = .ok (.iconst 1, 1) := by decide +kernel
theorem dX5_isIn_4 : decode cX5_isIn 4 = .ok (.iand, 1) := by decide +kernel
theorem dX5_isIn_5 : decode cX5_isIn 5 = .ok (.iconst 1, 1) := by decide +kernel
theorem dX5_isIn_6 : decode cX5_isIn 6 = .ok (.if_icmp .ne 7, 3) := by decide +kernel
theorem dX5_isIn_9 : decode cX5_isIn 9 = .ok (.iconst 1, 1) := by decide +kernel
theorem dX5_isIn_10 : decode cX5_isIn 10 = .ok (.goto 4, 3) := by decide +kernel
theorem dX5_isIn_13 : decode cX5_isIn 13 = .ok (.iconst 0, 1) := by decide +kernel
theorem dX5_isIn_14 : decode cX5_isIn 14 = .ok (.ireturn, 1) := by decide +kernel
set_option maxRecDepth 100000 in
set_option maxHeartbeats 4000000 in
theorem v_X5_isIn {X : zq_X} (C : zq_C X RX5 cX5_isIn 2 zq_all rm_X5_isIn) {h : zq_H} {x0 : Int32} {x1 : Int32} (T : zq_T X none) (hn : X.2.2.2.2.2.2.2.2.1.name = yX5_isIn.name) {out : Bool} (hF : f_X5_isIn h x0 x1 = some out) (hE : zq_End X cX5_isIn 0 0 (some (.int (zq_b out))) h) : zq_W X 0 0 h 0 [(0, .int x0), (1, .int x1)] [] := by
  unfold f_X5_isIn at hF
  refine zq_iload_n (pc' := 1) C dX5_isIn_0 rfl rfl rfl ?_
  refine zq_iload_n (pc' := 2) C dX5_isIn_1 rfl rfl rfl ?_
  refine zq_ishr (pc' := 3) C dX5_isIn_2 rfl ?_
  refine zq_iconst (pc' := 4) C 1 dX5_isIn_3 rfl (by decide) ?_
  refine zq_iand (pc' := 5) C dX5_isIn_4 rfl ?_
  refine zq_iconst (pc' := 6) C 1 dX5_isIn_5 rfl (by decide) ?_
  refine zq_icmp_ne (pc' := 9) C 13 dX5_isIn_6 (by decide) rfl (fun c_1 => ?_) (fun c_1 => ?_)
  · have hF := (zq_ifn hF c_1)
    skip
    refine zq_iconst (pc' := 14) C 0 dX5_isIn_13 rfl (by decide) ?_
    have hF := Option.some.inj hF
    subst hF
    exact hE _ _ _ _ (Nat.le_of_ble_eq_true rfl) (Nat.le_of_ble_eq_true rfl) dX5_isIn_14
  · have hF := (zq_ifp hF c_1)
    refine zq_iconst (pc' := 10) C 1 dX5_isIn_9 rfl (by decide) ?_
    refine zq_goto C 14 dX5_isIn_10 (by decide) ?_
    have hF := Option.some.inj hF
    subst hF
    exact hE _ _ _ _ (Nat.le_of_ble_eq_true rfl) (Nat.le_of_ble_eq_true rfl) dX5_isIn_14
theorem c_X5_isIn {h : zq_H} {x0 : Int32} {x1 : Int32} {out : Bool} (hF : f_X5_isIn h x0 x1 = some out) : zq_M none yX5_isIn (Cond.code yX5_isIn cX5_isIn 2 (some .boolean) :: zq_all) rm_X5_isIn [.int x0, .int x1] h (some (.int (zq_b out))) h := zq_met2 (own := RX5) (by decide +kernel) rfl (Nat.le_of_ble_eq_true rfl) rfl ⟨.boolean, rfl, by cases out <;> rfl⟩ (fun X C T hn hE => v_X5_isIn C T hn hF hE)
theorem ys_X5_isIn : zq_calS yX5_isIn cX5_isIn 2 (some .boolean) 2 := ⟨by decide +kernel, wd_92, wd_94, wd_95⟩
def f_Jxe99ae_isNaN_b9ae7 (h : zq_H) (x0 : UInt64) : Option Bool := (if (Op.cmpValue (FP.dcmp x0 x0) .l) = 0 then some (false) else some (true))
abbrev rm_Jxe99ae_isNaN_b9ae7 : Room := { frames := 0, cells := 0, slots := 0, locals := 0 }
theorem dJxe99ae_isNaN_b9ae7_0 : decode cJxe99ae_isNaN_b9ae7 0 = .ok (.dload_n 0, 1) := by decide +kernel
theorem dJxe99ae_isNaN_b9ae7_1 : decode cJxe99ae_isNaN_b9ae7 1 = .ok (.dload_n 0, 1) := by decide +kernel
theorem dJxe99ae_isNaN_b9ae7_2 : decode cJxe99ae_isNaN_b9ae7 2 = .ok (.dcmp .l, 1) := by decide +kernel
theorem dJxe99ae_isNaN_b9ae7_3 : decode cJxe99ae_isNaN_b9ae7 3 = .ok (.ifCond .eq 7, 3) := by decide +kernel
theorem dJxe99ae_isNaN_b9ae7_6 : decode cJxe99ae_isNaN_b9ae7 6 = .ok (.iconst 1, 1) := by decide +kernel
theorem dJxe99ae_isNaN_b9ae7_7 : decode cJxe99ae_isNaN_b9ae7 7 = .ok (.goto 4, 3) := by decide +kernel
theorem dJxe99ae_isNaN_b9ae7_10 : decode cJxe99ae_isNaN_b9ae7 10 = .ok (.iconst 0, 1) := by decide +kernel
theorem dJxe99ae_isNaN_b9ae7_11 : decode cJxe99ae_isNaN_b9ae7 11 = .ok (.ireturn, 1) := by decide +kernel
set_option maxRecDepth 100000 in
set_option maxHeartbeats 4000000 in
theorem v_Jxe99ae_isNaN_b9ae7 {X : zq_X} (C : zq_C X RJxe99ae cJxe99ae_isNaN_b9ae7 2 zq_all rm_Jxe99ae_isNaN_b9ae7) {h : zq_H} {x0 : UInt64} (T : zq_T X none) (hn : X.2.2.2.2.2.2.2.2.1.name = yJxe99ae_isNaN_b9ae7.name) {out : Bool} (hF : f_Jxe99ae_isNaN_b9ae7 h x0 = some out) (hE : zq_End X cJxe99ae_isNaN_b9ae7 0 0 (some (.int (zq_b out))) h) : zq_W X 0 0 h 0 [(0, .double x0)] [] := by
  unfold f_Jxe99ae_isNaN_b9ae7 at hF
  refine zq_dload_n (pc' := 1) C dJxe99ae_isNaN_b9ae7_0 rfl rfl rfl ?_
  refine zq_dload_n (pc' := 2) C dJxe99ae_isNaN_b9ae7_1 rfl rfl rfl ?_
  refine zq_dcmp (pc' := 3) C dJxe99ae_isNaN_b9ae7_2 rfl ?_
  refine zq_if_eq (pc' := 6) C 10 dJxe99ae_isNaN_b9ae7_3 (by decide) rfl (fun c_1 => ?_) (fun c_1 => ?_)
  · have hF := (zq_ifp hF c_1)
    skip
    refine zq_iconst (pc' := 11) C 0 dJxe99ae_isNaN_b9ae7_10 rfl (by decide) ?_
    have hF := Option.some.inj hF
    subst hF
    exact hE _ _ _ _ (Nat.le_of_ble_eq_true rfl) (Nat.le_of_ble_eq_true rfl) dJxe99ae_isNaN_b9ae7_11
  · have hF := (zq_ifn hF c_1)
    refine zq_iconst (pc' := 7) C 1 dJxe99ae_isNaN_b9ae7_6 rfl (by decide) ?_
    refine zq_goto C 11 dJxe99ae_isNaN_b9ae7_7 (by decide) ?_
    have hF := Option.some.inj hF
    subst hF
    exact hE _ _ _ _ (Nat.le_of_ble_eq_true rfl) (Nat.le_of_ble_eq_true rfl) dJxe99ae_isNaN_b9ae7_11
theorem c_Jxe99ae_isNaN_b9ae7 {h : zq_H} {x0 : UInt64} {out : Bool} (hF : f_Jxe99ae_isNaN_b9ae7 h x0 = some out) : zq_M none yJxe99ae_isNaN_b9ae7 (Cond.code yJxe99ae_isNaN_b9ae7 cJxe99ae_isNaN_b9ae7 2 (some .boolean) :: zq_all) rm_Jxe99ae_isNaN_b9ae7 [.double x0] h (some (.int (zq_b out))) h := zq_met2 (own := RJxe99ae) (by decide +kernel) rfl (Nat.le_of_ble_eq_true rfl) rfl ⟨.boolean, rfl, by cases out <;> rfl⟩ (fun X C T hn hE => v_Jxe99ae_isNaN_b9ae7 C T hn hF hE)
theorem ys_Jxe99ae_isNaN_b9ae7 : zq_calS yJxe99ae_isNaN_b9ae7 cJxe99ae_isNaN_b9ae7 2 (some .boolean) 1 := ⟨by decide +kernel, wd_680, wd_685, wd_682⟩
def f_Jxe99ae_doubleToLongBits_ccdee (h : zq_H) (x0 : UInt64) : Option Int64 := (Option.bind (f_Jxe99ae_isNaN_b9ae7 h x0) fun v_1 => (if v_1 = false then some (UInt64.toInt64 x0) else some (9221120237041090560)))
abbrev rm_Jxe99ae_doubleToLongBits_ccdee : Room := { frames := 1, cells := 0, slots := 0, locals := 24 }
theorem dJxe99ae_doubleToLongBits_ccdee_0 : decode cJxe99ae_doubleToLongBits_ccdee 0 = .ok (.dload_n 0, 1) := by decide +kernel
theorem dJxe99ae_doubleToLongBits_ccdee_1 : decode cJxe99ae_doubleToLongBits_ccdee 1 = .ok (.invokestatic 122, 3) := by decide +kernel
theorem dJxe99ae_doubleToLongBits_ccdee_4 : decode cJxe99ae_doubleToLongBits_ccdee 4 = .ok (.ifCond .ne 8, 3) := by decide +kernel
theorem dJxe99ae_doubleToLongBits_ccdee_7 : decode cJxe99ae_doubleToLongBits_ccdee 7 = .ok (.dload_n 0, 1) := by decide +kernel
theorem dJxe99ae_doubleToLongBits_ccdee_8 : decode cJxe99ae_doubleToLongBits_ccdee 8 = .ok (.invokestatic 134, 3) := by decide +kernel
theorem dJxe99ae_doubleToLongBits_ccdee_11 : decode cJxe99ae_doubleToLongBits_ccdee 11 = .ok (.lreturn, 1) := by decide +kernel
theorem dJxe99ae_doubleToLongBits_ccdee_12 : decode cJxe99ae_doubleToLongBits_ccdee 12 = .ok (.ldc2_w 137, 3) := by decide +kernel
theorem dJxe99ae_doubleToLongBits_ccdee_15 : decode cJxe99ae_doubleToLongBits_ccdee 15 = .ok (.lreturn, 1) := by decide +kernel
set_option maxRecDepth 100000 in
set_option maxHeartbeats 4000000 in
theorem v_Jxe99ae_doubleToLongBits_ccdee {X : zq_X} (C : zq_C X RJxe99ae cJxe99ae_doubleToLongBits_ccdee 2 zq_all rm_Jxe99ae_doubleToLongBits_ccdee) {h : zq_H} {x0 : UInt64} (T : zq_T X none) (hn : X.2.2.2.2.2.2.2.2.1.name = yJxe99ae_doubleToLongBits_ccdee.name) {out : Int64} (hF : f_Jxe99ae_doubleToLongBits_ccdee h x0 = some out) (hE : zq_End X cJxe99ae_doubleToLongBits_ccdee 0 0 (some (.long out)) h) : zq_W X 0 0 h 0 [(0, .double x0)] [] := by
  unfold f_Jxe99ae_doubleToLongBits_ccdee at hF
  refine zq_dload_n (pc' := 1) C dJxe99ae_doubleToLongBits_ccdee_0 rfl rfl rfl ?_
  replace hF := zq_bd hF; obtain ⟨v_1, e_2, hF⟩ := hF
  refine zq_cS (pc' := 4) C (c_Jxe99ae_isNaN_b9ae7 e_2) ys_Jxe99ae_isNaN_b9ae7 wd_684 dJxe99ae_doubleToLongBits_ccdee_1 rfl rfl rfl ⟨Nat.le_of_ble_eq_true rfl, Nat.le_of_ble_eq_true rfl⟩ (Nat.le_of_ble_eq_true rfl) ⟨rfl, rfl⟩ ⟨Nat.le_of_ble_eq_true rfl, Nat.le_of_ble_eq_true rfl⟩ rfl ?_
  refine zq_if_ne (pc' := 7) C 12 dJxe99ae_doubleToLongBits_ccdee_4 (by decide) rfl (fun c_3 => ?_) (fun c_3 => ?_)
  · have hF := (zq_ifn hF (fun q => c_3 (zq_b0.mpr q)))
    skip
    refine zq_ldc2l (pc' := 15) C 9221120237041090560 dJxe99ae_doubleToLongBits_ccdee_12 rfl wd_683 ?_
    have hF := Option.some.inj hF
    subst hF
    exact hE _ _ _ _ (Nat.le_of_ble_eq_true rfl) (Nat.le_of_ble_eq_true rfl) dJxe99ae_doubleToLongBits_ccdee_15
  · have hF := (zq_ifp hF (zq_b0.mp c_3))
    refine zq_dload_n (pc' := 8) C dJxe99ae_doubleToLongBits_ccdee_7 rfl rfl rfl ?_
    refine zq_d2bits (pc' := 11) C wd_992 wd_994 wd_993 wd_682 dJxe99ae_doubleToLongBits_ccdee_8 rfl (by decide) (Nat.le_of_ble_eq_true rfl) ?_
    have hF := Option.some.inj hF
    subst hF
    exact hE _ _ _ _ (Nat.le_of_ble_eq_true rfl) (Nat.le_of_ble_eq_true rfl) dJxe99ae_doubleToLongBits_ccdee_11
theorem c_Jxe99ae_doubleToLongBits_ccdee {h : zq_H} {x0 : UInt64} {out : Int64} (hF : f_Jxe99ae_doubleToLongBits_ccdee h x0 = some out) : zq_M none yJxe99ae_doubleToLongBits_ccdee (Cond.code yJxe99ae_doubleToLongBits_ccdee cJxe99ae_doubleToLongBits_ccdee 2 (some .long) :: zq_all) rm_Jxe99ae_doubleToLongBits_ccdee [.double x0] h (some (.long out)) h := zq_met2 (own := RJxe99ae) (by decide +kernel) rfl (Nat.le_of_ble_eq_true rfl) rfl rfl (fun X C T hn hE => v_Jxe99ae_doubleToLongBits_ccdee C T hn hF hE)
theorem ys_Jxe99ae_doubleToLongBits_ccdee : zq_calS yJxe99ae_doubleToLongBits_ccdee cJxe99ae_doubleToLongBits_ccdee 2 (some .long) 1 := ⟨by decide +kernel, wd_681, wd_691, wd_682⟩
