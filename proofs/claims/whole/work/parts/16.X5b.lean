def f_X5_freeDistanceInPart (h : zq_H) (t : Nat) (x1 : Int32) : Option (Int32 × zq_H) := (Option.bind (f_J6_bitCount_0f7a4 h x1) fun v_1 => (zq_let (v_1 - 4) fun v_3 => (if v_3 < 0 then some ((0, h)) else (Option.bind (zq_gr h t 5 0) fun v_6 => (Option.bind (zq_an h v_6) fun v_8 => (if v_3 < v_8 then (Option.bind (zq_gr h t 5 1) fun v_11 => (Option.bind (zq_gr h v_11 3 0) fun v_13 => (Option.bind (zq_gr h v_13 0 0) fun v_15 => (Option.bind (zq_gr h t 5 0) fun v_17 => (Option.bind (zq_aq h v_17 12 v_3) fun v_19 => (Option.bind (zq_gr h v_19 0 0) fun v_21 => (Option.bind (zq_gr h t 5 9) fun v_23 => (Option.bind (zq_gr h t 5 0) fun v_25 => (Option.bind (zq_aq h v_25 12 v_3) fun v_27 => (Option.bind (zq_gr h t 5 1) fun v_29 => (Option.bind (zq_gi h v_29 3 2) fun v_31 => (zq_ck h v_15 1 fun _ => (Option.bind (f_X1_maskInPart h v_15 v_31 x1 v_21) fun v_33 => (zq_ck h v_23 2 fun _ => (Option.bind (f_X2_measure h v_23 v_27 v_33 0) fun v_36 => (Option.bind (zq_gr v_36 t 5 9) fun v_39 => (Option.bind (zq_gr v_36 t 5 1) fun v_41 => (Option.bind (zq_gi v_36 v_41 3 1) fun v_43 => (zq_ck v_36 v_15 1 fun _ => (Option.bind (f_X1_maskInPart v_36 v_15 v_43 x1 v_21) fun v_45 => (zq_ck v_36 v_39 2 fun _ => (Option.bind (f_X2_flipsTo v_36 v_39 v_45) fun v_48 => some ((v_48, v_36)))))))))))))))))))))))) else some ((0, h))))))))
abbrev rm_X5_freeDistanceInPart : Room := { frames := 3, cells := 0, slots := 0, locals := 76 }
theorem dX5_freeDistanceInPart_0 : decode cX5_freeDistanceInPart 0 = .ok (.iload_n 1, 1) := by decide +kernel
theorem dX5_freeDistanceInPart_1 : decode cX5_freeDistanceInPart 1 = .ok (.invokestatic 135, 3) := by decide +kernel
theorem dX5_freeDistanceInPart_4 : decode cX5_freeDistanceInPart 4 = .ok (.iconst 4, 1) := by decide +kernel
theorem dX5_freeDistanceInPart_5 : decode cX5_freeDistanceInPart 5 = .ok (.isub, 1) := by decide +kernel
theorem dX5_freeDistanceInPart_6 : decode cX5_freeDistanceInPart 6 = .ok (.istore_n 2, 1) := by decide +kernel
theorem dX5_freeDistanceInPart_7 : decode cX5_freeDistanceInPart 7 = .ok (.iload_n 2, 1) := by decide +kernel
theorem dX5_freeDistanceInPart_8 : decode cX5_freeDistanceInPart 8 = .ok (.ifCond .lt 12, 3) := by decide +kernel
theorem dX5_freeDistanceInPart_11 : decode cX5_freeDistanceInPart 11 = .ok (.iload_n 2, 1) := by decide +kernel
theorem dX5_freeDistanceInPart_12 : decode cX5_freeDistanceInPart 12 = .ok (.aload_n 0, 1) := by decide +kernel
theorem dX5_freeDistanceInPart_13 : decode cX5_freeDistanceInPart 13 = .ok (.getfield 11, 3) := by decide +kernel
theorem dX5_freeDistanceInPart_16 : decode cX5_freeDistanceInPart 16 = .ok (.arraylength, 1) := by decide +kernel
theorem dX5_freeDistanceInPart_17 : decode cX5_freeDistanceInPart 17 = .ok (.if_icmp .lt 5, 3) := by decide +kernel
theorem dX5_freeDistanceInPart_20 : decode cX5_freeDistanceInPart 20 = .ok (.iconst 0, 1) := by decide +kernel
theorem dX5_freeDistanceInPart_21 : decode cX5_freeDistanceInPart 21 = .ok (.ireturn, 1) := by decide +kernel
theorem dX5_freeDistanceInPart_22 : decode cX5_freeDistanceInPart 22 = .ok (.aload_n 0, 1) := by decide +kernel
theorem dX5_freeDistanceInPart_23 : decode cX5_freeDistanceInPart 23 = .ok (.getfield 30, 3) := by decide +kernel
theorem dX5_freeDistanceInPart_26 : decode cX5_freeDistanceInPart 26 = .ok (.getfield 83, 3) := by decide +kernel
theorem dX5_freeDistanceInPart_29 : decode cX5_freeDistanceInPart 29 = .ok (.getfield 87, 3) := by decide +kernel
theorem dX5_freeDistanceInPart_32 : decode cX5_freeDistanceInPart 32 = .ok (.astore_n 3, 1) := by decide +kernel
theorem dX5_freeDistanceInPart_33 : decode cX5_freeDistanceInPart 33 = .ok (.aload_n 0, 1) := by decide +kernel
theorem dX5_freeDistanceInPart_34 : decode cX5_freeDistanceInPart 34 = .ok (.getfield 11, 3) := by decide +kernel
theorem dX5_freeDistanceInPart_37 : decode cX5_freeDistanceInPart 37 = .ok (.iload_n 2, 1) := by decide +kernel
theorem dX5_freeDistanceInPart_38 : decode cX5_freeDistanceInPart 38 = .ok (.aaload, 1) := by decide +kernel
theorem dX5_freeDistanceInPart_39 : decode cX5_freeDistanceInPart 39 = .ok (.getfield 87, 3) := by decide +kernel
theorem dX5_freeDistanceInPart_42 : decode cX5_freeDistanceInPart 42 = .ok (.astore 4, 2) := by decide +kernel
theorem dX5_freeDistanceInPart_44 : decode cX5_freeDistanceInPart 44 = .ok (.aload_n 0, 1) := by decide +kernel
theorem dX5_freeDistanceInPart_45 : decode cX5_freeDistanceInPart 45 = .ok (.getfield 66, 3) := by decide +kernel
theorem dX5_freeDistanceInPart_48 : decode cX5_freeDistanceInPart 48 = .ok (.aload_n 0, 1) := by decide +kernel
theorem dX5_freeDistanceInPart_49 : decode cX5_freeDistanceInPart 49 = .ok (.getfield 11, 3) := by decide +kernel
theorem dX5_freeDistanceInPart_52 : decode cX5_freeDistanceInPart 52 = .ok (.iload_n 2, 1) := by decide +kernel
theorem dX5_freeDistanceInPart_53 : decode cX5_freeDistanceInPart 53 = .ok (.aaload, 1) := by decide +kernel
theorem dX5_freeDistanceInPart_54 : decode cX5_freeDistanceInPart 54 = .ok (.aload_n 3, 1) := by decide +kernel
theorem dX5_freeDistanceInPart_55 : decode cX5_freeDistanceInPart 55 = .ok (.aload_n 0, 1) := by decide +kernel
theorem dX5_freeDistanceInPart_56 : decode cX5_freeDistanceInPart 56 = .ok (.getfield 30, 3) := by decide +kernel
theorem dX5_freeDistanceInPart_59 : decode cX5_freeDistanceInPart 59 = .ok (.getfield 157, 3) := by decide +kernel
theorem dX5_freeDistanceInPart_62 : decode cX5_freeDistanceInPart 62 = .ok (.iload_n 1, 1) := by decide +kernel
theorem dX5_freeDistanceInPart_63 : decode cX5_freeDistanceInPart 63 = .ok (.aload 4, 2) := by decide +kernel
theorem dX5_freeDistanceInPart_65 : decode cX5_freeDistanceInPart 65 = .ok (.invokevirtual 360, 3) := by decide +kernel
theorem dX5_freeDistanceInPart_68 : decode cX5_freeDistanceInPart 68 = .ok (.iconst 0, 1) := by decide +kernel
theorem dX5_freeDistanceInPart_69 : decode cX5_freeDistanceInPart 69 = .ok (.invokevirtual 303, 3) := by decide +kernel
theorem dX5_freeDistanceInPart_72 : decode cX5_freeDistanceInPart 72 = .ok (.aload_n 0, 1) := by decide +kernel
theorem dX5_freeDistanceInPart_73 : decode cX5_freeDistanceInPart 73 = .ok (.getfield 66, 3) := by decide +kernel
theorem dX5_freeDistanceInPart_76 : decode cX5_freeDistanceInPart 76 = .ok (.aload_n 3, 1) := by decide +kernel
theorem dX5_freeDistanceInPart_77 : decode cX5_freeDistanceInPart 77 = .ok (.aload_n 0, 1) := by decide +kernel
theorem dX5_freeDistanceInPart_78 : decode cX5_freeDistanceInPart 78 = .ok (.getfield 30, 3) := by decide +kernel
theorem dX5_freeDistanceInPart_81 : decode cX5_freeDistanceInPart 81 = .ok (.getfield 160, 3) := by decide +kernel
theorem dX5_freeDistanceInPart_84 : decode cX5_freeDistanceInPart 84 = .ok (.iload_n 1, 1) := by decide +kernel
theorem dX5_freeDistanceInPart_85 : decode cX5_freeDistanceInPart 85 = .ok (.aload 4, 2) := by decide +kernel
theorem dX5_freeDistanceInPart_87 : decode cX5_freeDistanceInPart 87 = .ok (.invokevirtual 360, 3) := by decide +kernel
theorem dX5_freeDistanceInPart_90 : decode cX5_freeDistanceInPart 90 = .ok (.invokevirtual 314, 3) := by decide +kernel
theorem dX5_freeDistanceInPart_93 : decode cX5_freeDistanceInPart 93 = .ok (.ireturn, 1) := by decide +kernel
set_option maxRecDepth 100000 in
set_option maxHeartbeats 4000000 in
theorem v_X5_freeDistanceInPart {X : zq_X} (C : zq_C X RX5 cX5_freeDistanceInPart 5 zq_all rm_X5_freeDistanceInPart) {h : zq_H} {t : Nat} {x1 : Int32} (T : zq_T X none) (hn : X.2.2.2.2.2.2.2.2.1.name = yX5_freeDistanceInPart.name) {out : (Int32 × zq_H)} (hF : f_X5_freeDistanceInPart h t x1 = some out) (hE : zq_End X cX5_freeDistanceInPart 0 0 (some (.int out.1)) out.2) : zq_W X 0 0 h 0 [(0, .ref t), (1, .int x1)] [] := by
  unfold f_X5_freeDistanceInPart at hF
  refine zq_iload_n (pc' := 1) C dX5_freeDistanceInPart_0 rfl rfl rfl ?_
  replace hF := zq_bd hF; obtain ⟨v_1, e_2, hF⟩ := hF
  refine zq_cS (pc' := 4) C (c_J6_bitCount_0f7a4 e_2) ys_J6_bitCount_0f7a4 wd_274 dX5_freeDistanceInPart_1 rfl rfl rfl ⟨Nat.le_of_ble_eq_true rfl, Nat.le_of_ble_eq_true rfl⟩ (Nat.le_of_ble_eq_true rfl) ⟨rfl, rfl⟩ ⟨Nat.le_of_ble_eq_true rfl, Nat.le_of_ble_eq_true rfl⟩ rfl ?_
  refine zq_iconst (pc' := 5) C 4 dX5_freeDistanceInPart_4 rfl (by decide) ?_
  refine zq_isub (pc' := 6) C dX5_freeDistanceInPart_5 rfl ?_
  replace hF := zq_let_e hF; obtain ⟨v_3, e_4, hF⟩ := hF
  refine zq_istore_n (lv' := [(2, .int v_3), (0, .ref t), (1, .int x1)]) (pc' := 7) C dX5_freeDistanceInPart_6 rfl rfl (by decide) e_4 rfl ?_
  refine zq_iload_n (pc' := 8) C dX5_freeDistanceInPart_7 rfl rfl rfl ?_
  refine zq_if_lt (pc' := 11) C 20 dX5_freeDistanceInPart_8 (by decide) rfl (fun c_5 => ?_) (fun c_5 => ?_)
  · have hF := (zq_ifp hF c_5)
    skip
    refine zq_iconst (pc' := 21) C 0 dX5_freeDistanceInPart_20 rfl (by decide) ?_
    have hF := Option.some.inj hF
    subst hF
    exact hE _ _ _ _ (Nat.le_of_ble_eq_true rfl) (Nat.le_of_ble_eq_true rfl) dX5_freeDistanceInPart_21
  · have hF := (zq_ifn hF c_5)
    refine zq_iload_n (pc' := 12) C dX5_freeDistanceInPart_11 rfl rfl rfl ?_
    refine zq_aload_n (pc' := 13) C dX5_freeDistanceInPart_12 rfl rfl rfl ?_
    replace hF := zq_bd hF; obtain ⟨v_6, e_7, hF⟩ := hF
    refine zq_getR (j := 0) (pc' := 16) C zq_K5 zq_in5w (Or.inl wd_203) (by decide) rfl dX5_freeDistanceInPart_13 rfl e_7 ?_
    replace hF := zq_bd hF; obtain ⟨v_8, e_9, hF⟩ := hF
    refine zq_alen (pc' := 17) C dX5_freeDistanceInPart_16 rfl e_9 ?_
    refine zq_icmp_lt (pc' := 20) C 22 dX5_freeDistanceInPart_17 (by decide) rfl (fun c_10 => ?_) (fun c_10 => ?_)
    · have hF := (zq_ifp hF c_10)
      skip
      refine zq_aload_n (pc' := 23) C dX5_freeDistanceInPart_22 rfl rfl rfl ?_
      replace hF := zq_bd hF; obtain ⟨v_11, e_12, hF⟩ := hF
      refine zq_getR (j := 1) (pc' := 26) C zq_K5 zq_in5w (Or.inl wd_210) (by decide) rfl dX5_freeDistanceInPart_23 rfl e_12 ?_
      replace hF := zq_bd hF; obtain ⟨v_13, e_14, hF⟩ := hF
      refine zq_getR (j := 0) (pc' := 29) C zq_K3 zq_in3w (Or.inr ⟨"FlipPolygons", by decide +kernel⟩) (by decide) rfl dX5_freeDistanceInPart_26 rfl e_14 ?_
      replace hF := zq_bd hF; obtain ⟨v_15, e_16, hF⟩ := hF
      refine zq_getR (j := 0) (pc' := 32) C zq_K0 zq_in0w (Or.inr ⟨"FlipPolygons", by decide +kernel⟩) (by decide) rfl dX5_freeDistanceInPart_29 rfl e_16 ?_
      refine zq_astore_n (lv' := [(3, .ref v_15), (2, .int v_3), (0, .ref t), (1, .int x1)]) (pc' := 33) C dX5_freeDistanceInPart_32 rfl rfl (by decide) rfl rfl ?_
      refine zq_aload_n (pc' := 34) C dX5_freeDistanceInPart_33 rfl rfl rfl ?_
      replace hF := zq_bd hF; obtain ⟨v_17, e_18, hF⟩ := hF
      refine zq_getR (j := 0) (pc' := 37) C zq_K5 zq_in5w (Or.inl wd_203) (by decide) rfl dX5_freeDistanceInPart_34 rfl e_18 ?_
      refine zq_iload_n (pc' := 38) C dX5_freeDistanceInPart_37 rfl rfl rfl ?_
      replace hF := zq_bd hF; obtain ⟨v_19, e_20, hF⟩ := hF
      refine zq_aaload (pc' := 39) C 12 (by decide) dX5_freeDistanceInPart_38 rfl e_20 ?_
      replace hF := zq_bd hF; obtain ⟨v_21, e_22, hF⟩ := hF
      refine zq_getR (j := 0) (pc' := 42) C zq_K0 zq_in0w (Or.inr ⟨"FlipPolygons", by decide +kernel⟩) (by decide) rfl dX5_freeDistanceInPart_39 rfl e_22 ?_
      refine zq_astore (lv' := [(4, .ref v_21), (3, .ref v_15), (2, .int v_3), (0, .ref t), (1, .int x1)]) (pc' := 44) C dX5_freeDistanceInPart_42 rfl (by decide) rfl rfl ?_
      refine zq_aload_n (pc' := 45) C dX5_freeDistanceInPart_44 rfl rfl rfl ?_
      replace hF := zq_bd hF; obtain ⟨v_23, e_24, hF⟩ := hF
      refine zq_getR (j := 9) (pc' := 48) C zq_K5 zq_in5w (Or.inl wd_221) (by decide) rfl dX5_freeDistanceInPart_45 rfl e_24 ?_
      refine zq_aload_n (pc' := 49) C dX5_freeDistanceInPart_48 rfl rfl rfl ?_
      replace hF := zq_bd hF; obtain ⟨v_25, e_26, hF⟩ := hF
      refine zq_getR (j := 0) (pc' := 52) C zq_K5 zq_in5w (Or.inl wd_203) (by decide) rfl dX5_freeDistanceInPart_49 rfl e_26 ?_
      refine zq_iload_n (pc' := 53) C dX5_freeDistanceInPart_52 rfl rfl rfl ?_
      replace hF := zq_bd hF; obtain ⟨v_27, e_28, hF⟩ := hF
      refine zq_aaload (pc' := 54) C 12 (by decide) dX5_freeDistanceInPart_53 rfl e_28 ?_
      refine zq_aload_n (pc' := 55) C dX5_freeDistanceInPart_54 rfl rfl rfl ?_
      refine zq_aload_n (pc' := 56) C dX5_freeDistanceInPart_55 rfl rfl rfl ?_
      replace hF := zq_bd hF; obtain ⟨v_29, e_30, hF⟩ := hF
      refine zq_getR (j := 1) (pc' := 59) C zq_K5 zq_in5w (Or.inl wd_210) (by decide) rfl dX5_freeDistanceInPart_56 rfl e_30 ?_
      replace hF := zq_bd hF; obtain ⟨v_31, e_32, hF⟩ := hF
      refine zq_getI (j := 2) (pc' := 62) C zq_K3 zq_in3w (Or.inr ⟨"FlipPolygons", by decide +kernel⟩) (by decide) rfl dX5_freeDistanceInPart_59 rfl e_32 ?_
      refine zq_iload_n (pc' := 63) C dX5_freeDistanceInPart_62 rfl rfl rfl ?_
      refine zq_aload (pc' := 65) C dX5_freeDistanceInPart_63 rfl rfl ?_
      replace hF := zq_ck_e hF; obtain ⟨e_35, hF⟩ := hF
      replace hF := zq_bd hF; obtain ⟨v_33, e_34, hF⟩ := hF
      refine zq_cV (pc' := 68) C (c_X1_maskInPart e_34) yv_X1_maskInPart wd_377 zq_K1 e_35 dX5_freeDistanceInPart_65 rfl rfl rfl ⟨Nat.le_of_ble_eq_true rfl, Nat.le_of_ble_eq_true rfl⟩ (Nat.le_of_ble_eq_true rfl) ⟨rfl, rfl⟩ ⟨Nat.le_of_ble_eq_true rfl, Nat.le_of_ble_eq_true rfl⟩ rfl ?_
      refine zq_iconst (pc' := 69) C 0 dX5_freeDistanceInPart_68 rfl (by decide) ?_
      replace hF := zq_ck_e hF; obtain ⟨e_38, hF⟩ := hF
      replace hF := zq_bd hF; obtain ⟨v_36, e_37, hF⟩ := hF
      refine zq_cV (pc' := 72) C (c_X2_measure e_37) yv_X2_measure wd_288 zq_K2 e_38 dX5_freeDistanceInPart_69 rfl rfl rfl ⟨Nat.le_of_ble_eq_true rfl, Nat.le_of_ble_eq_true rfl⟩ (Nat.le_of_ble_eq_true rfl) ⟨rfl, rfl⟩ ⟨Nat.le_of_ble_eq_true rfl, Nat.le_of_ble_eq_true rfl⟩ rfl ?_
      refine zq_aload_n (pc' := 73) C dX5_freeDistanceInPart_72 rfl rfl rfl ?_
      replace hF := zq_bd hF; obtain ⟨v_39, e_40, hF⟩ := hF
      refine zq_getR (j := 9) (pc' := 76) C zq_K5 zq_in5w (Or.inl wd_221) (by decide) rfl dX5_freeDistanceInPart_73 rfl e_40 ?_
      refine zq_aload_n (pc' := 77) C dX5_freeDistanceInPart_76 rfl rfl rfl ?_
      refine zq_aload_n (pc' := 78) C dX5_freeDistanceInPart_77 rfl rfl rfl ?_
      replace hF := zq_bd hF; obtain ⟨v_41, e_42, hF⟩ := hF
      refine zq_getR (j := 1) (pc' := 81) C zq_K5 zq_in5w (Or.inl wd_210) (by decide) rfl dX5_freeDistanceInPart_78 rfl e_42 ?_
      replace hF := zq_bd hF; obtain ⟨v_43, e_44, hF⟩ := hF
      refine zq_getI (j := 1) (pc' := 84) C zq_K3 zq_in3w (Or.inr ⟨"FlipPolygons", by decide +kernel⟩) (by decide) rfl dX5_freeDistanceInPart_81 rfl e_44 ?_
      refine zq_iload_n (pc' := 85) C dX5_freeDistanceInPart_84 rfl rfl rfl ?_
      refine zq_aload (pc' := 87) C dX5_freeDistanceInPart_85 rfl rfl ?_
      replace hF := zq_ck_e hF; obtain ⟨e_47, hF⟩ := hF
      replace hF := zq_bd hF; obtain ⟨v_45, e_46, hF⟩ := hF
      refine zq_cV (pc' := 90) C (c_X1_maskInPart e_46) yv_X1_maskInPart wd_377 zq_K1 e_47 dX5_freeDistanceInPart_87 rfl rfl rfl ⟨Nat.le_of_ble_eq_true rfl, Nat.le_of_ble_eq_true rfl⟩ (Nat.le_of_ble_eq_true rfl) ⟨rfl, rfl⟩ ⟨Nat.le_of_ble_eq_true rfl, Nat.le_of_ble_eq_true rfl⟩ rfl ?_
      replace hF := zq_ck_e hF; obtain ⟨e_50, hF⟩ := hF
      replace hF := zq_bd hF; obtain ⟨v_48, e_49, hF⟩ := hF
      refine zq_cV (pc' := 93) C (c_X2_flipsTo e_49) yv_X2_flipsTo wd_298 zq_K2 e_50 dX5_freeDistanceInPart_90 rfl rfl rfl ⟨Nat.le_of_ble_eq_true rfl, Nat.le_of_ble_eq_true rfl⟩ (Nat.le_of_ble_eq_true rfl) ⟨rfl, rfl⟩ ⟨Nat.le_of_ble_eq_true rfl, Nat.le_of_ble_eq_true rfl⟩ rfl ?_
      have hF := Option.some.inj hF
      subst hF
      exact hE _ _ _ _ (Nat.le_of_ble_eq_true rfl) (Nat.le_of_ble_eq_true rfl) dX5_freeDistanceInPart_93
    · have hF := (zq_ifn hF c_10)
      refine zq_iconst (pc' := 21) C 0 dX5_freeDistanceInPart_20 rfl (by decide) ?_
      have hF := Option.some.inj hF
      subst hF
      exact hE _ _ _ _ (Nat.le_of_ble_eq_true rfl) (Nat.le_of_ble_eq_true rfl) dX5_freeDistanceInPart_21
theorem c_X5_freeDistanceInPart {h : zq_H} {t : Nat} {x1 : Int32} {out : (Int32 × zq_H)} (hF : f_X5_freeDistanceInPart h t x1 = some out) : zq_M none yX5_freeDistanceInPart (Cond.code yX5_freeDistanceInPart cX5_freeDistanceInPart 5 (some .int) :: zq_all) rm_X5_freeDistanceInPart [.ref t, .int x1] h (some (.int out.1)) out.2 := zq_met2 (own := RX5) (by decide +kernel) rfl (Nat.le_of_ble_eq_true rfl) rfl ⟨.int, rfl, rfl⟩ (fun X C T hn hE => v_X5_freeDistanceInPart C T hn hF hE)
theorem yv_X5_freeDistanceInPart : zq_calV yX5_freeDistanceInPart RX5 cX5_freeDistanceInPart 5 (some .int) 1 := ⟨by decide +kernel, wd_380, wd_385, wd_386, wd_95⟩
def f_X5_freeDistanceByParts (h : zq_H) (t : Nat) : Option (Int32 × zq_H) := (Option.bind (zq_gr h t 5 1) fun v_1 => (Option.bind (zq_gi h v_1 3 1) fun v_3 => (Option.bind (zq_gr h t 5 1) fun v_5 => (Option.bind (zq_gi h v_5 3 2) fun v_7 => (zq_ck h t 5 fun _ => (Option.bind (f_X5_cutIntoParts h t (v_3 &&& v_7)) fun v_9 => ((zq_lp (σ := Int32 × Int32 × zq_H) (ρ := Int32 × zq_H) (fun s_12 => (if v_9.1 ≤ s_12.2.1 then some (.inr (s_12.1, s_12.2.2)) else (Option.bind (zq_gr s_12.2.2 t 5 10) fun v_21 => (Option.bind (zq_ai s_12.2.2 v_21 s_12.2.1) fun v_23 => (zq_ck s_12.2.2 t 5 fun _ => (Option.bind (f_X5_freeDistanceInPart s_12.2.2 t v_23) fun v_25 => (zq_let (s_12.1 + v_25.1) fun v_28 => (zq_let (s_12.2.1 + 1) fun v_30 => some (.inl (v_28, v_30, v_25.2)))))))))) zq_N (0, 0, v_9.2)).bind (fun y_15 : Int32 × zq_H => some ((y_15.1, y_15.2))))))))))
abbrev rm_X5_freeDistanceByParts : Room := { frames := 4, cells := 0, slots := 0, locals := 100 }
theorem dX5_freeDistanceByParts_0 : decode cX5_freeDistanceByParts 0 = .ok (.aload_n 0, 1) := by decide +kernel
theorem dX5_freeDistanceByParts_1 : decode cX5_freeDistanceByParts 1 = .ok (.aload_n 0, 1) := by decide +kernel
theorem dX5_freeDistanceByParts_2 : decode cX5_freeDistanceByParts 2 = .ok (.getfield 30, 3) := by decide +kernel
theorem dX5_freeDistanceByParts_5 : decode cX5_freeDistanceByParts 5 = .ok (.getfield 160, 3) := by decide +kernel
theorem dX5_freeDistanceByParts_8 : decode cX5_freeDistanceByParts 8 = .ok (.aload_n 0, 1) := by decide +kernel
theorem dX5_freeDistanceByParts_9 : decode cX5_freeDistanceByParts 9 = .ok (.getfield 30, 3) := by decide +kernel
theorem dX5_freeDistanceByParts_12 : decode cX5_freeDistanceByParts 12 = .ok (.getfield 157, 3) := by decide +kernel
theorem dX5_freeDistanceByParts_15 : decode cX5_freeDistanceByParts 15 = .ok (.iand, 1) := by decide +kernel
theorem dX5_freeDistanceByParts_16 : decode cX5_freeDistanceByParts 16 = .ok (.invokevirtual 344, 3) := by decide +kernel
theorem dX5_freeDistanceByParts_19 : decode cX5_freeDistanceByParts 19 = .ok (.istore_n 1, 1) := by decide +kernel
theorem dX5_freeDistanceByParts_20 : decode cX5_freeDistanceByParts 20 = .ok (.iconst 0, 1) := by decide +kernel
theorem dX5_freeDistanceByParts_21 : decode cX5_freeDistanceByParts 21 = .ok (.istore_n 2, 1) := by decide +kernel
theorem dX5_freeDistanceByParts_22 : decode cX5_freeDistanceByParts 22 = .ok (.iconst 0, 1) := by decide +kernel
theorem dX5_freeDistanceByParts_23 : decode cX5_freeDistanceByParts 23 = .ok (.istore_n 3, 1) := by decide +kernel
theorem dX5_freeDistanceByParts_24 : decode cX5_freeDistanceByParts 24 = .ok (.iload_n 3, 1) := by decide +kernel
theorem dX5_freeDistanceByParts_25 : decode cX5_freeDistanceByParts 25 = .ok (.iload_n 1, 1) := by decide +kernel
theorem dX5_freeDistanceByParts_26 : decode cX5_freeDistanceByParts 26 = .ok (.if_icmp .ge 22, 3) := by decide +kernel
theorem dX5_freeDistanceByParts_29 : decode cX5_freeDistanceByParts 29 = .ok (.iload_n 2, 1) := by decide +kernel
theorem dX5_freeDistanceByParts_30 : decode cX5_freeDistanceByParts 30 = .ok (.aload_n 0, 1) := by decide +kernel
theorem dX5_freeDistanceByParts_31 : decode cX5_freeDistanceByParts 31 = .ok (.aload_n 0, 1) := by decide +kernel
theorem dX5_freeDistanceByParts_32 : decode cX5_freeDistanceByParts 32 = .ok (.getfield 69, 3) := by decide +kernel
theorem dX5_freeDistanceByParts_35 : decode cX5_freeDistanceByParts 35 = .ok (.iload_n 3, 1) := by decide +kernel
theorem dX5_freeDistanceByParts_36 : decode cX5_freeDistanceByParts 36 = .ok (.iaload, 1) := by decide +kernel
theorem dX5_freeDistanceByParts_37 : decode cX5_freeDistanceByParts 37 = .ok (.invokevirtual 347, 3) := by decide +kernel
theorem dX5_freeDistanceByParts_40 : decode cX5_freeDistanceByParts 40 = .ok (.iadd, 1) := by decide +kernel
theorem dX5_freeDistanceByParts_41 : decode cX5_freeDistanceByParts 41 = .ok (.istore_n 2, 1) := by decide +kernel
theorem dX5_freeDistanceByParts_42 : decode cX5_freeDistanceByParts 42 = .ok (.iinc 3 1, 3) := by decide +kernel
theorem dX5_freeDistanceByParts_45 : decode cX5_freeDistanceByParts 45 = .ok (.goto (-21), 3) := by decide +kernel
theorem dX5_freeDistanceByParts_48 : decode cX5_freeDistanceByParts 48 = .ok (.iload_n 2, 1) := by decide +kernel
theorem dX5_freeDistanceByParts_49 : decode cX5_freeDistanceByParts 49 = .ok (.ireturn, 1) := by decide +kernel
set_option maxRecDepth 100000 in
set_option maxHeartbeats 4000000 in
theorem v_X5_freeDistanceByParts {X : zq_X} (C : zq_C X RX5 cX5_freeDistanceByParts 4 zq_all rm_X5_freeDistanceByParts) {h : zq_H} {t : Nat} (T : zq_T X none) (hn : X.2.2.2.2.2.2.2.2.1.name = yX5_freeDistanceByParts.name) {out : (Int32 × zq_H)} (hF : f_X5_freeDistanceByParts h t = some out) (hE : zq_End X cX5_freeDistanceByParts 0 0 (some (.int out.1)) out.2) : zq_W X 0 0 h 0 [(0, .ref t)] [] := by
  unfold f_X5_freeDistanceByParts at hF
  refine zq_aload_n (pc' := 1) C dX5_freeDistanceByParts_0 rfl rfl rfl ?_
  refine zq_aload_n (pc' := 2) C dX5_freeDistanceByParts_1 rfl rfl rfl ?_
  replace hF := zq_bd hF; obtain ⟨v_1, e_2, hF⟩ := hF
  refine zq_getR (j := 1) (pc' := 5) C zq_K5 zq_in5w (Or.inl wd_210) (by decide) rfl dX5_freeDistanceByParts_2 rfl e_2 ?_
  replace hF := zq_bd hF; obtain ⟨v_3, e_4, hF⟩ := hF
  refine zq_getI (j := 1) (pc' := 8) C zq_K3 zq_in3w (Or.inr ⟨"FlipPolygons", by decide +kernel⟩) (by decide) rfl dX5_freeDistanceByParts_5 rfl e_4 ?_
  refine zq_aload_n (pc' := 9) C dX5_freeDistanceByParts_8 rfl rfl rfl ?_
  replace hF := zq_bd hF; obtain ⟨v_5, e_6, hF⟩ := hF
  refine zq_getR (j := 1) (pc' := 12) C zq_K5 zq_in5w (Or.inl wd_210) (by decide) rfl dX5_freeDistanceByParts_9 rfl e_6 ?_
  replace hF := zq_bd hF; obtain ⟨v_7, e_8, hF⟩ := hF
  refine zq_getI (j := 2) (pc' := 15) C zq_K3 zq_in3w (Or.inr ⟨"FlipPolygons", by decide +kernel⟩) (by decide) rfl dX5_freeDistanceByParts_12 rfl e_8 ?_
  refine zq_iand (pc' := 16) C dX5_freeDistanceByParts_15 rfl ?_
  replace hF := zq_ck_e hF; obtain ⟨e_11, hF⟩ := hF
  replace hF := zq_bd hF; obtain ⟨v_9, e_10, hF⟩ := hF
  refine zq_cV (pc' := 19) C (c_X5_cutIntoParts e_10) yv_X5_cutIntoParts wd_381 zq_K5 e_11 dX5_freeDistanceByParts_16 rfl rfl rfl ⟨Nat.le_of_ble_eq_true rfl, Nat.le_of_ble_eq_true rfl⟩ (Nat.le_of_ble_eq_true rfl) ⟨rfl, rfl⟩ ⟨Nat.le_of_ble_eq_true rfl, Nat.le_of_ble_eq_true rfl⟩ rfl ?_
  refine zq_istore_n (lv' := [(1, .int v_9.1), (0, .ref t)]) (pc' := 20) C dX5_freeDistanceByParts_19 rfl rfl (by decide) rfl rfl ?_
  refine zq_iconst (pc' := 21) C 0 dX5_freeDistanceByParts_20 rfl (by decide) ?_
  refine zq_istore_n (lv' := [(2, .int 0), (1, .int v_9.1), (0, .ref t)]) (pc' := 22) C dX5_freeDistanceByParts_21 rfl rfl (by decide) rfl rfl ?_
  refine zq_iconst (pc' := 23) C 0 dX5_freeDistanceByParts_22 rfl (by decide) ?_
  refine zq_istore_n (lv' := [(3, .int 0), (2, .int 0), (1, .int v_9.1), (0, .ref t)]) (pc' := 24) C dX5_freeDistanceByParts_23 rfl rfl (by decide) rfl rfl ?_
  refine zq_sub [3, 2, 1, 0] rfl ?_
  replace hF := zq_bd hF; obtain ⟨r_13, e_14, hF⟩ := hF
  refine zq_lpW (fun s_12 => zq_W X 0 0 s_12.2.2 24 [(0, .ref t), (1, .int v_9.1), (2, .int s_12.1), (3, .int s_12.2.1)] []) (fun y_15 => zq_W X 0 0 y_15.2 48 [(2, .int y_15.1)] []) e_14 (fun s_12 q_19 hF hrec_17 hex_18 => ?_) ?_
  · skip
    refine zq_iload_n (pc' := 25) C dX5_freeDistanceByParts_24 rfl rfl rfl ?_
    refine zq_iload_n (pc' := 26) C dX5_freeDistanceByParts_25 rfl rfl rfl ?_
    refine zq_icmp_ge (pc' := 29) C 48 dX5_freeDistanceByParts_26 (by decide) rfl (fun c_20 => ?_) (fun c_20 => ?_)
    · have hF := (zq_ifp hF c_20)
      skip
      cases hF
      exact zq_sub [2] rfl (hex_18 _ rfl)
    · have hF := (zq_ifn hF c_20)
      refine zq_iload_n (pc' := 30) C dX5_freeDistanceByParts_29 rfl rfl rfl ?_
      refine zq_aload_n (pc' := 31) C dX5_freeDistanceByParts_30 rfl rfl rfl ?_
      refine zq_aload_n (pc' := 32) C dX5_freeDistanceByParts_31 rfl rfl rfl ?_
      replace hF := zq_bd hF; obtain ⟨v_21, e_22, hF⟩ := hF
      refine zq_getR (j := 10) (pc' := 35) C zq_K5 zq_in5w (Or.inl wd_222) (by decide) rfl dX5_freeDistanceByParts_32 rfl e_22 ?_
      refine zq_iload_n (pc' := 36) C dX5_freeDistanceByParts_35 rfl rfl rfl ?_
      replace hF := zq_bd hF; obtain ⟨v_23, e_24, hF⟩ := hF
      refine zq_iaload (pc' := 37) C dX5_freeDistanceByParts_36 rfl e_24 ?_
      replace hF := zq_ck_e hF; obtain ⟨e_27, hF⟩ := hF
      replace hF := zq_bd hF; obtain ⟨v_25, e_26, hF⟩ := hF
      refine zq_cV (pc' := 40) C (c_X5_freeDistanceInPart e_26) yv_X5_freeDistanceInPart wd_384 zq_K5 e_27 dX5_freeDistanceByParts_37 rfl rfl rfl ⟨Nat.le_of_ble_eq_true rfl, Nat.le_of_ble_eq_true rfl⟩ (Nat.le_of_ble_eq_true rfl) ⟨rfl, rfl⟩ ⟨Nat.le_of_ble_eq_true rfl, Nat.le_of_ble_eq_true rfl⟩ rfl ?_
      refine zq_iadd (pc' := 41) C dX5_freeDistanceByParts_40 rfl ?_
      replace hF := zq_let_e hF; obtain ⟨v_28, e_29, hF⟩ := hF
      refine zq_istore_n (lv' := [(2, .int v_28), (0, .ref t), (1, .int v_9.1), (3, .int s_12.2.1)]) (pc' := 42) C dX5_freeDistanceByParts_41 rfl rfl (by decide) e_29 rfl ?_
      replace hF := zq_let_e hF; obtain ⟨v_30, e_31, hF⟩ := hF
      refine zq_iinc (lv' := [(3, .int v_30), (2, .int v_28), (0, .ref t), (1, .int v_9.1)]) (pc' := 45) C dX5_freeDistanceByParts_42 rfl (by decide) 3 rfl e_31 rfl ?_
      refine zq_goto C 24 dX5_freeDistanceByParts_45 (by decide) ?_
      cases hF
      exact zq_sub [2, 3, 1, 0] rfl (hrec_17 _ rfl)
  · skip
    obtain ⟨y_15, rfl⟩ : ∃ z9, z9 = r_13 := ⟨_, rfl⟩
    show zq_W X 0 0 y_15.2 48 [(2, .int y_15.1)] []
    refine zq_iload_n (pc' := 49) C dX5_freeDistanceByParts_48 rfl rfl rfl ?_
    have hF := Option.some.inj hF
    subst hF
    exact hE _ _ _ _ (Nat.le_of_ble_eq_true rfl) (Nat.le_of_ble_eq_true rfl) dX5_freeDistanceByParts_49
theorem c_X5_freeDistanceByParts {h : zq_H} {t : Nat} {out : (Int32 × zq_H)} (hF : f_X5_freeDistanceByParts h t = some out) : zq_M none yX5_freeDistanceByParts (Cond.code yX5_freeDistanceByParts cX5_freeDistanceByParts 4 (some .int) :: zq_all) rm_X5_freeDistanceByParts [.ref t] h (some (.int out.1)) out.2 := zq_met2 (own := RX5) (by decide +kernel) rfl (Nat.le_of_ble_eq_true rfl) rfl ⟨.int, rfl, rfl⟩ (fun X C T hn hE => v_X5_freeDistanceByParts C T hn hF hE)
theorem yv_X5_freeDistanceByParts : zq_calV yX5_freeDistanceByParts RX5 cX5_freeDistanceByParts 4 (some .int) 0 := ⟨by decide +kernel, wd_387, wd_396, wd_397, wd_95⟩
def f_X5_shortestWays (h : zq_H) (t : Nat) : Option (Int32 × zq_H) := (zq_ck h t 5 fun _ => (Option.bind (f_X5_hasDistance h t) fun v_1 => (if v_1 = false then some ((0, h)) else (zq_ck h t 5 fun _ => (Option.bind (f_X5_reachWithLocks h t) fun v_5 => (Option.bind (zq_gr v_5.2 t 5 1) fun v_8 => (Option.bind (zq_gi v_5.2 v_8 3 1) fun v_10 => (zq_ck v_5.2 v_5.1 2 fun _ => (Option.bind (f_X2_waysTo v_5.2 v_5.1 v_10) fun v_12 => some ((v_12, v_5.2)))))))))))
abbrev rm_X5_shortestWays : Room := { frames := 4, cells := 0, slots := 0, locals := 97 }
theorem dX5_shortestWays_0 : decode cX5_shortestWays 0 = .ok (.aload_n 0, 1) := by decide +kernel
theorem dX5_shortestWays_1 : decode cX5_shortestWays 1 = .ok (.invokevirtual 307, 3) := by decide +kernel
theorem dX5_shortestWays_4 : decode cX5_shortestWays 4 = .ok (.ifCond .eq 20, 3) := by decide +kernel
theorem dX5_shortestWays_7 : decode cX5_shortestWays 7 = .ok (.aload_n 0, 1) := by decide +kernel
theorem dX5_shortestWays_8 : decode cX5_shortestWays 8 = .ok (.invokevirtual 310, 3) := by decide +kernel
theorem dX5_shortestWays_11 : decode cX5_shortestWays 11 = .ok (.aload_n 0, 1) := by decide +kernel
theorem dX5_shortestWays_12 : decode cX5_shortestWays 12 = .ok (.getfield 30, 3) := by decide +kernel
theorem dX5_shortestWays_15 : decode cX5_shortestWays 15 = .ok (.getfield 160, 3) := by decide +kernel
theorem dX5_shortestWays_18 : decode cX5_shortestWays 18 = .ok (.invokevirtual 317, 3) := by decide +kernel
theorem dX5_shortestWays_21 : decode cX5_shortestWays 21 = .ok (.goto 4, 3) := by decide +kernel
theorem dX5_shortestWays_24 : decode cX5_shortestWays 24 = .ok (.iconst 0, 1) := by decide +kernel
theorem dX5_shortestWays_25 : decode cX5_shortestWays 25 = .ok (.ireturn, 1) := by decide +kernel
set_option maxRecDepth 100000 in
set_option maxHeartbeats 4000000 in
theorem v_X5_shortestWays {X : zq_X} (C : zq_C X RX5 cX5_shortestWays 1 zq_all rm_X5_shortestWays) {h : zq_H} {t : Nat} (T : zq_T X none) (hn : X.2.2.2.2.2.2.2.2.1.name = yX5_shortestWays.name) {out : (Int32 × zq_H)} (hF : f_X5_shortestWays h t = some out) (hE : zq_End X cX5_shortestWays 0 0 (some (.int out.1)) out.2) : zq_W X 0 0 h 0 [(0, .ref t)] [] := by
  unfold f_X5_shortestWays at hF
  refine zq_aload_n (pc' := 1) C dX5_shortestWays_0 rfl rfl rfl ?_
  replace hF := zq_ck_e hF; obtain ⟨e_3, hF⟩ := hF
  replace hF := zq_bd hF; obtain ⟨v_1, e_2, hF⟩ := hF
  refine zq_cV (pc' := 4) C (c_X5_hasDistance e_2) yv_X5_hasDistance wd_292 zq_K5 e_3 dX5_shortestWays_1 rfl rfl rfl ⟨Nat.le_of_ble_eq_true rfl, Nat.le_of_ble_eq_true rfl⟩ (Nat.le_of_ble_eq_true rfl) ⟨rfl, rfl⟩ ⟨Nat.le_of_ble_eq_true rfl, Nat.le_of_ble_eq_true rfl⟩ rfl ?_
  refine zq_if_eq (pc' := 7) C 24 dX5_shortestWays_4 (by decide) rfl (fun c_4 => ?_) (fun c_4 => ?_)
  · have hF := (zq_ifp hF (zq_b0.mp c_4))
    skip
    refine zq_iconst (pc' := 25) C 0 dX5_shortestWays_24 rfl (by decide) ?_
    have hF := Option.some.inj hF
    subst hF
    exact hE _ _ _ _ (Nat.le_of_ble_eq_true rfl) (Nat.le_of_ble_eq_true rfl) dX5_shortestWays_25
  · have hF := (zq_ifn hF (fun q => c_4 (zq_b0.mpr q)))
    refine zq_aload_n (pc' := 8) C dX5_shortestWays_7 rfl rfl rfl ?_
    replace hF := zq_ck_e hF; obtain ⟨e_7, hF⟩ := hF
    replace hF := zq_bd hF; obtain ⟨v_5, e_6, hF⟩ := hF
    refine zq_cV (pc' := 11) C (c_X5_reachWithLocks e_6) yv_X5_reachWithLocks wd_295 zq_K5 e_7 dX5_shortestWays_8 rfl rfl rfl ⟨Nat.le_of_ble_eq_true rfl, Nat.le_of_ble_eq_true rfl⟩ (Nat.le_of_ble_eq_true rfl) ⟨rfl, rfl⟩ ⟨Nat.le_of_ble_eq_true rfl, Nat.le_of_ble_eq_true rfl⟩ rfl ?_
    refine zq_aload_n (pc' := 12) C dX5_shortestWays_11 rfl rfl rfl ?_
    replace hF := zq_bd hF; obtain ⟨v_8, e_9, hF⟩ := hF
    refine zq_getR (j := 1) (pc' := 15) C zq_K5 zq_in5w (Or.inl wd_210) (by decide) rfl dX5_shortestWays_12 rfl e_9 ?_
    replace hF := zq_bd hF; obtain ⟨v_10, e_11, hF⟩ := hF
    refine zq_getI (j := 1) (pc' := 18) C zq_K3 zq_in3w (Or.inr ⟨"FlipPolygons", by decide +kernel⟩) (by decide) rfl dX5_shortestWays_15 rfl e_11 ?_
    replace hF := zq_ck_e hF; obtain ⟨e_14, hF⟩ := hF
    replace hF := zq_bd hF; obtain ⟨v_12, e_13, hF⟩ := hF
    refine zq_cV (pc' := 21) C (c_X2_waysTo e_13) yv_X2_waysTo wd_388 zq_K2 e_14 dX5_shortestWays_18 rfl rfl rfl ⟨Nat.le_of_ble_eq_true rfl, Nat.le_of_ble_eq_true rfl⟩ (Nat.le_of_ble_eq_true rfl) ⟨rfl, rfl⟩ ⟨Nat.le_of_ble_eq_true rfl, Nat.le_of_ble_eq_true rfl⟩ rfl ?_
    refine zq_goto C 25 dX5_shortestWays_21 (by decide) ?_
    have hF := Option.some.inj hF
    subst hF
    exact hE _ _ _ _ (Nat.le_of_ble_eq_true rfl) (Nat.le_of_ble_eq_true rfl) dX5_shortestWays_25
theorem c_X5_shortestWays {h : zq_H} {t : Nat} {out : (Int32 × zq_H)} (hF : f_X5_shortestWays h t = some out) : zq_M none yX5_shortestWays (Cond.code yX5_shortestWays cX5_shortestWays 1 (some .int) :: zq_all) rm_X5_shortestWays [.ref t] h (some (.int out.1)) out.2 := zq_met2 (own := RX5) (by decide +kernel) rfl (Nat.le_of_ble_eq_true rfl) rfl ⟨.int, rfl, rfl⟩ (fun X C T hn hE => v_X5_shortestWays C T hn hF hE)
theorem yv_X5_shortestWays : zq_calV yX5_shortestWays RX5 cX5_shortestWays 1 (some .int) 0 := ⟨by decide +kernel, wd_391, wd_399, wd_400, wd_95⟩
def f_X5_distanceNumber (h : zq_H) (t : Nat) (x1 : Int32) : Option (Int32 × zq_H) := (if x1 = 0 then (zq_ck h t 5 fun _ => (Option.bind (f_X5_distanceWithLocks h t) fun v_2 => some ((v_2.1, v_2.2)))) else (if x1 = 1 then (zq_ck h t 5 fun _ => (Option.bind (f_X5_freeDistance h t) fun v_6 => some ((v_6.1, v_6.2)))) else (if x1 = 2 then (zq_ck h t 5 fun _ => (Option.bind (f_X5_freeDistanceByParts h t) fun v_10 => some ((v_10.1, v_10.2)))) else (if x1 = 3 then (zq_ck h t 5 fun _ => (Option.bind (f_X5_shortestWays h t) fun v_14 => some ((v_14.1, v_14.2)))) else (if x1 = 4 then (zq_ck h t 5 fun _ => (Option.bind (f_X5_nextFlip h t) fun v_18 => some ((v_18.1, v_18.2)))) else (Option.bind (zq_gr h t 5 1) fun v_21 => (Option.bind (zq_gi h v_21 3 1) fun v_23 => (Option.bind (zq_gr h t 5 1) fun v_25 => (Option.bind (zq_gi h v_25 3 2) fun v_27 => (Option.bind (f_J6_bitCount_0f7a4 h (v_23 &&& v_27)) fun v_29 => some ((v_29, h))))))))))))
abbrev rm_X5_distanceNumber : Room := { frames := 5, cells := 0, slots := 0, locals := 123 }
theorem dX5_distanceNumber_0 : decode cX5_distanceNumber 0 = .ok (.iload_n 1, 1) := by decide +kernel
theorem dX5_distanceNumber_1 : decode cX5_distanceNumber 1 = .ok (.tableswitch 60 0 4 #[35, 40, 45, 50, 55], 35) := by decide +kernel
theorem dX5_distanceNumber_36 : decode cX5_distanceNumber 36 = .ok (.aload_n 0, 1) := by decide +kernel
theorem dX5_distanceNumber_37 : decode cX5_distanceNumber 37 = .ok (.invokevirtual 169, 3) := by decide +kernel
theorem dX5_distanceNumber_40 : decode cX5_distanceNumber 40 = .ok (.ireturn, 1) := by decide +kernel
theorem dX5_distanceNumber_41 : decode cX5_distanceNumber 41 = .ok (.aload_n 0, 1) := by decide +kernel
theorem dX5_distanceNumber_42 : decode cX5_distanceNumber 42 = .ok (.invokevirtual 323, 3) := by decide +kernel
theorem dX5_distanceNumber_45 : decode cX5_distanceNumber 45 = .ok (.ireturn, 1) := by decide +kernel
theorem dX5_distanceNumber_46 : decode cX5_distanceNumber 46 = .ok (.aload_n 0, 1) := by decide +kernel
theorem dX5_distanceNumber_47 : decode cX5_distanceNumber 47 = .ok (.invokevirtual 326, 3) := by decide +kernel
theorem dX5_distanceNumber_50 : decode cX5_distanceNumber 50 = .ok (.ireturn, 1) := by decide +kernel
theorem dX5_distanceNumber_51 : decode cX5_distanceNumber 51 = .ok (.aload_n 0, 1) := by decide +kernel
theorem dX5_distanceNumber_52 : decode cX5_distanceNumber 52 = .ok (.invokevirtual 329, 3) := by decide +kernel
theorem dX5_distanceNumber_55 : decode cX5_distanceNumber 55 = .ok (.ireturn, 1) := by decide +kernel
theorem dX5_distanceNumber_56 : decode cX5_distanceNumber 56 = .ok (.aload_n 0, 1) := by decide +kernel
theorem dX5_distanceNumber_57 : decode cX5_distanceNumber 57 = .ok (.invokevirtual 175, 3) := by decide +kernel
theorem dX5_distanceNumber_60 : decode cX5_distanceNumber 60 = .ok (.ireturn, 1) := by decide +kernel
theorem dX5_distanceNumber_61 : decode cX5_distanceNumber 61 = .ok (.aload_n 0, 1) := by decide +kernel
theorem dX5_distanceNumber_62 : decode cX5_distanceNumber 62 = .ok (.getfield 30, 3) := by decide +kernel
theorem dX5_distanceNumber_65 : decode cX5_distanceNumber 65 = .ok (.getfield 160, 3) := by decide +kernel
theorem dX5_distanceNumber_68 : decode cX5_distanceNumber 68 = .ok (.aload_n 0, 1) := by decide +kernel
theorem dX5_distanceNumber_69 : decode cX5_distanceNumber 69 = .ok (.getfield 30, 3) := by decide +kernel
theorem dX5_distanceNumber_72 : decode cX5_distanceNumber 72 = .ok (.getfield 157, 3) := by decide +kernel
theorem dX5_distanceNumber_75 : decode cX5_distanceNumber 75 = .ok (.iand, 1) := by decide +kernel
theorem dX5_distanceNumber_76 : decode cX5_distanceNumber 76 = .ok (.invokestatic 135, 3) := by decide +kernel
theorem dX5_distanceNumber_79 : decode cX5_distanceNumber 79 = .ok (.ireturn, 1) := by decide +kernel
set_option maxRecDepth 100000 in
set_option maxHeartbeats 4000000 in
theorem v_X5_distanceNumber {X : zq_X} (C : zq_C X RX5 cX5_distanceNumber 2 zq_all rm_X5_distanceNumber) {h : zq_H} {t : Nat} {x1 : Int32} (T : zq_T X none) (hn : X.2.2.2.2.2.2.2.2.1.name = yX5_distanceNumber.name) {out : (Int32 × zq_H)} (hF : f_X5_distanceNumber h t x1 = some out) (hE : zq_End X cX5_distanceNumber 0 0 (some (.int out.1)) out.2) : zq_W X 0 0 h 0 [(0, .ref t), (1, .int x1)] [] := by
  unfold f_X5_distanceNumber at hF
  refine zq_iload_n (pc' := 1) C dX5_distanceNumber_0 rfl rfl rfl ?_
  by_cases c_1 : x1 = 0
  · have hF := zq_ifp hF c_1
    refine zq_tsIn C 36 dX5_distanceNumber_1 (by rw [c_1]; decide) (by rw [c_1]; decide) (by rw [c_1]; rfl) (by decide) ?_
    refine zq_aload_n (pc' := 37) C dX5_distanceNumber_36 rfl rfl rfl ?_
    replace hF := zq_ck_e hF; obtain ⟨e_4, hF⟩ := hF
    replace hF := zq_bd hF; obtain ⟨v_2, e_3, hF⟩ := hF
    refine zq_cV (pc' := 40) C (c_X5_distanceWithLocks e_3) yv_X5_distanceWithLocks wd_303 zq_K5 e_4 dX5_distanceNumber_37 rfl rfl rfl ⟨Nat.le_of_ble_eq_true rfl, Nat.le_of_ble_eq_true rfl⟩ (Nat.le_of_ble_eq_true rfl) ⟨rfl, rfl⟩ ⟨Nat.le_of_ble_eq_true rfl, Nat.le_of_ble_eq_true rfl⟩ rfl ?_
    have hF := Option.some.inj hF
    subst hF
    exact hE _ _ _ _ (Nat.le_of_ble_eq_true rfl) (Nat.le_of_ble_eq_true rfl) dX5_distanceNumber_40
  have hF := zq_ifn hF c_1
  by_cases c_5 : x1 = 1
  · have hF := zq_ifp hF c_5
    refine zq_tsIn C 41 dX5_distanceNumber_1 (by rw [c_5]; decide) (by rw [c_5]; decide) (by rw [c_5]; rfl) (by decide) ?_
    refine zq_aload_n (pc' := 42) C dX5_distanceNumber_41 rfl rfl rfl ?_
    replace hF := zq_ck_e hF; obtain ⟨e_8, hF⟩ := hF
    replace hF := zq_bd hF; obtain ⟨v_6, e_7, hF⟩ := hF
    refine zq_cV (pc' := 45) C (c_X5_freeDistance e_7) yv_X5_freeDistance wd_392 zq_K5 e_8 dX5_distanceNumber_42 rfl rfl rfl ⟨Nat.le_of_ble_eq_true rfl, Nat.le_of_ble_eq_true rfl⟩ (Nat.le_of_ble_eq_true rfl) ⟨rfl, rfl⟩ ⟨Nat.le_of_ble_eq_true rfl, Nat.le_of_ble_eq_true rfl⟩ rfl ?_
    have hF := Option.some.inj hF
    subst hF
    exact hE _ _ _ _ (Nat.le_of_ble_eq_true rfl) (Nat.le_of_ble_eq_true rfl) dX5_distanceNumber_45
  have hF := zq_ifn hF c_5
  by_cases c_9 : x1 = 2
  · have hF := zq_ifp hF c_9
    refine zq_tsIn C 46 dX5_distanceNumber_1 (by rw [c_9]; decide) (by rw [c_9]; decide) (by rw [c_9]; rfl) (by decide) ?_
    refine zq_aload_n (pc' := 47) C dX5_distanceNumber_46 rfl rfl rfl ?_
    replace hF := zq_ck_e hF; obtain ⟨e_12, hF⟩ := hF
    replace hF := zq_bd hF; obtain ⟨v_10, e_11, hF⟩ := hF
    refine zq_cV (pc' := 50) C (c_X5_freeDistanceByParts e_11) yv_X5_freeDistanceByParts wd_395 zq_K5 e_12 dX5_distanceNumber_47 rfl rfl rfl ⟨Nat.le_of_ble_eq_true rfl, Nat.le_of_ble_eq_true rfl⟩ (Nat.le_of_ble_eq_true rfl) ⟨rfl, rfl⟩ ⟨Nat.le_of_ble_eq_true rfl, Nat.le_of_ble_eq_true rfl⟩ rfl ?_
    have hF := Option.some.inj hF
    subst hF
    exact hE _ _ _ _ (Nat.le_of_ble_eq_true rfl) (Nat.le_of_ble_eq_true rfl) dX5_distanceNumber_50
  have hF := zq_ifn hF c_9
  by_cases c_13 : x1 = 3
  · have hF := zq_ifp hF c_13
    refine zq_tsIn C 51 dX5_distanceNumber_1 (by rw [c_13]; decide) (by rw [c_13]; decide) (by rw [c_13]; rfl) (by decide) ?_
    refine zq_aload_n (pc' := 52) C dX5_distanceNumber_51 rfl rfl rfl ?_
    replace hF := zq_ck_e hF; obtain ⟨e_16, hF⟩ := hF
    replace hF := zq_bd hF; obtain ⟨v_14, e_15, hF⟩ := hF
    refine zq_cV (pc' := 55) C (c_X5_shortestWays e_15) yv_X5_shortestWays wd_398 zq_K5 e_16 dX5_distanceNumber_52 rfl rfl rfl ⟨Nat.le_of_ble_eq_true rfl, Nat.le_of_ble_eq_true rfl⟩ (Nat.le_of_ble_eq_true rfl) ⟨rfl, rfl⟩ ⟨Nat.le_of_ble_eq_true rfl, Nat.le_of_ble_eq_true rfl⟩ rfl ?_
    have hF := Option.some.inj hF
    subst hF
    exact hE _ _ _ _ (Nat.le_of_ble_eq_true rfl) (Nat.le_of_ble_eq_true rfl) dX5_distanceNumber_55
  have hF := zq_ifn hF c_13
  by_cases c_17 : x1 = 4
  · have hF := zq_ifp hF c_17
    refine zq_tsIn C 56 dX5_distanceNumber_1 (by rw [c_17]; decide) (by rw [c_17]; decide) (by rw [c_17]; rfl) (by decide) ?_
    refine zq_aload_n (pc' := 57) C dX5_distanceNumber_56 rfl rfl rfl ?_
    replace hF := zq_ck_e hF; obtain ⟨e_20, hF⟩ := hF
    replace hF := zq_bd hF; obtain ⟨v_18, e_19, hF⟩ := hF
    refine zq_cV (pc' := 60) C (c_X5_nextFlip e_19) yv_X5_nextFlip wd_306 zq_K5 e_20 dX5_distanceNumber_57 rfl rfl rfl ⟨Nat.le_of_ble_eq_true rfl, Nat.le_of_ble_eq_true rfl⟩ (Nat.le_of_ble_eq_true rfl) ⟨rfl, rfl⟩ ⟨Nat.le_of_ble_eq_true rfl, Nat.le_of_ble_eq_true rfl⟩ rfl ?_
    have hF := Option.some.inj hF
    subst hF
    exact hE _ _ _ _ (Nat.le_of_ble_eq_true rfl) (Nat.le_of_ble_eq_true rfl) dX5_distanceNumber_60
  have hF := zq_ifn hF c_17
  refine zq_tsOut C 61 dX5_distanceNumber_1 (zq_out (n := 5) rfl rfl (by decide) (fun k hk => match k, hk with | 0, _ => c_1 | 1, _ => c_5 | 2, _ => c_9 | 3, _ => c_13 | 4, _ => c_17 | k + 5, hk => absurd hk (by omega))) (by decide) ?_
  refine zq_aload_n (pc' := 62) C dX5_distanceNumber_61 rfl rfl rfl ?_
  replace hF := zq_bd hF; obtain ⟨v_21, e_22, hF⟩ := hF
  refine zq_getR (j := 1) (pc' := 65) C zq_K5 zq_in5w (Or.inl wd_210) (by decide) rfl dX5_distanceNumber_62 rfl e_22 ?_
  replace hF := zq_bd hF; obtain ⟨v_23, e_24, hF⟩ := hF
  refine zq_getI (j := 1) (pc' := 68) C zq_K3 zq_in3w (Or.inr ⟨"FlipPolygons", by decide +kernel⟩) (by decide) rfl dX5_distanceNumber_65 rfl e_24 ?_
  refine zq_aload_n (pc' := 69) C dX5_distanceNumber_68 rfl rfl rfl ?_
  replace hF := zq_bd hF; obtain ⟨v_25, e_26, hF⟩ := hF
  refine zq_getR (j := 1) (pc' := 72) C zq_K5 zq_in5w (Or.inl wd_210) (by decide) rfl dX5_distanceNumber_69 rfl e_26 ?_
  replace hF := zq_bd hF; obtain ⟨v_27, e_28, hF⟩ := hF
  refine zq_getI (j := 2) (pc' := 75) C zq_K3 zq_in3w (Or.inr ⟨"FlipPolygons", by decide +kernel⟩) (by decide) rfl dX5_distanceNumber_72 rfl e_28 ?_
  refine zq_iand (pc' := 76) C dX5_distanceNumber_75 rfl ?_
  replace hF := zq_bd hF; obtain ⟨v_29, e_30, hF⟩ := hF
  refine zq_cS (pc' := 79) C (c_J6_bitCount_0f7a4 e_30) ys_J6_bitCount_0f7a4 wd_274 dX5_distanceNumber_76 rfl rfl rfl ⟨Nat.le_of_ble_eq_true rfl, Nat.le_of_ble_eq_true rfl⟩ (Nat.le_of_ble_eq_true rfl) ⟨rfl, rfl⟩ ⟨Nat.le_of_ble_eq_true rfl, Nat.le_of_ble_eq_true rfl⟩ rfl ?_
  have hF := Option.some.inj hF
  subst hF
  exact hE _ _ _ _ (Nat.le_of_ble_eq_true rfl) (Nat.le_of_ble_eq_true rfl) dX5_distanceNumber_79
theorem c_X5_distanceNumber {h : zq_H} {t : Nat} {x1 : Int32} {out : (Int32 × zq_H)} (hF : f_X5_distanceNumber h t x1 = some out) : zq_M none yX5_distanceNumber (Cond.code yX5_distanceNumber cX5_distanceNumber 2 (some .int) :: zq_all) rm_X5_distanceNumber [.ref t, .int x1] h (some (.int out.1)) out.2 := zq_met2 (own := RX5) (by decide +kernel) rfl (Nat.le_of_ble_eq_true rfl) rfl ⟨.int, rfl, rfl⟩ (fun X C T hn hE => v_X5_distanceNumber C T hn hF hE)
theorem yv_X5_distanceNumber : zq_calV yX5_distanceNumber RX5 cX5_distanceNumber 2 (some .int) 1 := ⟨by decide +kernel, wd_401, wd_403, wd_404, wd_95⟩
def f_X5_freeDistanceBehind (h : zq_H) (t : Nat) (x1 : Int32) : Option (Int32 × zq_H) := (Option.bind (zq_gr h t 5 1) fun v_1 => (Option.bind (zq_gi h v_1 3 1) fun v_3 => (Option.bind (f_X5_isIn h v_3 x1) fun v_5 => (if v_5 = false then some (((-1), h)) else (zq_ck h t 5 fun _ => (Option.bind (f_X5_reachFrom h t 1) fun v_8 => (Option.bind (zq_gr v_8.2 t 5 1) fun v_11 => (Option.bind (zq_gr v_8.2 v_11 3 0) fun v_13 => (Option.bind (zq_gr v_8.2 v_13 0 0) fun v_15 => (Option.bind (zq_gr v_8.2 t 5 1) fun v_17 => (Option.bind (zq_gi v_8.2 v_17 3 1) fun v_19 => (zq_ck v_8.2 v_15 1 fun _ => (Option.bind (f_X1_flipped v_8.2 v_15 v_19 x1) fun v_21 => (zq_ck v_8.2 v_8.1 2 fun _ => (Option.bind (f_X2_flipsTo v_8.2 v_8.1 v_21) fun v_24 => some ((v_24, v_8.2)))))))))))))))))
abbrev rm_X5_freeDistanceBehind : Room := { frames := 4, cells := 0, slots := 0, locals := 98 }
theorem dX5_freeDistanceBehind_0 : decode cX5_freeDistanceBehind 0 = .ok (.aload_n 0, 1) := by decide +kernel
theorem dX5_freeDistanceBehind_1 : decode cX5_freeDistanceBehind 1 = .ok (.getfield 30, 3) := by decide +kernel
theorem dX5_freeDistanceBehind_4 : decode cX5_freeDistanceBehind 4 = .ok (.getfield 160, 3) := by decide +kernel
theorem dX5_freeDistanceBehind_7 : decode cX5_freeDistanceBehind 7 = .ok (.iload_n 1, 1) := by decide +kernel
theorem dX5_freeDistanceBehind_8 : decode cX5_freeDistanceBehind 8 = .ok (.invokestatic 112, 3) := by decide +kernel
theorem dX5_freeDistanceBehind_11 : decode cX5_freeDistanceBehind 11 = .ok (.ifCond .ne 5, 3) := by decide +kernel
theorem dX5_freeDistanceBehind_14 : decode cX5_freeDistanceBehind 14 = .ok (.iconst (-1), 1) := by decide +kernel
theorem dX5_freeDistanceBehind_15 : decode cX5_freeDistanceBehind 15 = .ok (.ireturn, 1) := by decide +kernel
theorem dX5_freeDistanceBehind_16 : decode cX5_freeDistanceBehind 16 = .ok (.aload_n 0, 1) := by decide +kernel
theorem dX5_freeDistanceBehind_17 : decode cX5_freeDistanceBehind 17 = .ok (.iconst 1, 1) := by decide +kernel
theorem dX5_freeDistanceBehind_18 : decode cX5_freeDistanceBehind 18 = .ok (.invokevirtual 293, 3) := by decide +kernel
theorem dX5_freeDistanceBehind_21 : decode cX5_freeDistanceBehind 21 = .ok (.aload_n 0, 1) := by decide +kernel
theorem dX5_freeDistanceBehind_22 : decode cX5_freeDistanceBehind 22 = .ok (.getfield 30, 3) := by decide +kernel
theorem dX5_freeDistanceBehind_25 : decode cX5_freeDistanceBehind 25 = .ok (.getfield 83, 3) := by decide +kernel
theorem dX5_freeDistanceBehind_28 : decode cX5_freeDistanceBehind 28 = .ok (.getfield 87, 3) := by decide +kernel
theorem dX5_freeDistanceBehind_31 : decode cX5_freeDistanceBehind 31 = .ok (.aload_n 0, 1) := by decide +kernel
theorem dX5_freeDistanceBehind_32 : decode cX5_freeDistanceBehind 32 = .ok (.getfield 30, 3) := by decide +kernel
theorem dX5_freeDistanceBehind_35 : decode cX5_freeDistanceBehind 35 = .ok (.getfield 160, 3) := by decide +kernel
theorem dX5_freeDistanceBehind_38 : decode cX5_freeDistanceBehind 38 = .ok (.iload_n 1, 1) := by decide +kernel
theorem dX5_freeDistanceBehind_39 : decode cX5_freeDistanceBehind 39 = .ok (.invokevirtual 278, 3) := by decide +kernel
theorem dX5_freeDistanceBehind_42 : decode cX5_freeDistanceBehind 42 = .ok (.invokevirtual 314, 3) := by decide +kernel
theorem dX5_freeDistanceBehind_45 : decode cX5_freeDistanceBehind 45 = .ok (.ireturn, 1) := by decide +kernel
set_option maxRecDepth 100000 in
set_option maxHeartbeats 4000000 in
theorem v_X5_freeDistanceBehind {X : zq_X} (C : zq_C X RX5 cX5_freeDistanceBehind 2 zq_all rm_X5_freeDistanceBehind) {h : zq_H} {t : Nat} {x1 : Int32} (T : zq_T X none) (hn : X.2.2.2.2.2.2.2.2.1.name = yX5_freeDistanceBehind.name) {out : (Int32 × zq_H)} (hF : f_X5_freeDistanceBehind h t x1 = some out) (hE : zq_End X cX5_freeDistanceBehind 0 0 (some (.int out.1)) out.2) : zq_W X 0 0 h 0 [(0, .ref t), (1, .int x1)] [] := by
  unfold f_X5_freeDistanceBehind at hF
  refine zq_aload_n (pc' := 1) C dX5_freeDistanceBehind_0 rfl rfl rfl ?_
  replace hF := zq_bd hF; obtain ⟨v_1, e_2, hF⟩ := hF
  refine zq_getR (j := 1) (pc' := 4) C zq_K5 zq_in5w (Or.inl wd_210) (by decide) rfl dX5_freeDistanceBehind_1 rfl e_2 ?_
  replace hF := zq_bd hF; obtain ⟨v_3, e_4, hF⟩ := hF
  refine zq_getI (j := 1) (pc' := 7) C zq_K3 zq_in3w (Or.inr ⟨"FlipPolygons", by decide +kernel⟩) (by decide) rfl dX5_freeDistanceBehind_4 rfl e_4 ?_
  refine zq_iload_n (pc' := 8) C dX5_freeDistanceBehind_7 rfl rfl rfl ?_
  replace hF := zq_bd hF; obtain ⟨v_5, e_6, hF⟩ := hF
  refine zq_cS (pc' := 11) C (c_X5_isIn e_6) ys_X5_isIn wd_266 dX5_freeDistanceBehind_8 rfl rfl rfl ⟨Nat.le_of_ble_eq_true rfl, Nat.le_of_ble_eq_true rfl⟩ (Nat.le_of_ble_eq_true rfl) ⟨rfl, rfl⟩ ⟨Nat.le_of_ble_eq_true rfl, Nat.le_of_ble_eq_true rfl⟩ rfl ?_
  refine zq_if_ne (pc' := 14) C 16 dX5_freeDistanceBehind_11 (by decide) rfl (fun c_7 => ?_) (fun c_7 => ?_)
  · have hF := (zq_ifn hF (fun q => c_7 (zq_b0.mpr q)))
    skip
    refine zq_aload_n (pc' := 17) C dX5_freeDistanceBehind_16 rfl rfl rfl ?_
    refine zq_iconst (pc' := 18) C 1 dX5_freeDistanceBehind_17 rfl (by decide) ?_
    replace hF := zq_ck_e hF; obtain ⟨e_10, hF⟩ := hF
    replace hF := zq_bd hF; obtain ⟨v_8, e_9, hF⟩ := hF
    refine zq_cV (pc' := 21) C (c_X5_reachFrom e_9) yv_X5_reachFrom wd_351 zq_K5 e_10 dX5_freeDistanceBehind_18 rfl rfl rfl ⟨Nat.le_of_ble_eq_true rfl, Nat.le_of_ble_eq_true rfl⟩ (Nat.le_of_ble_eq_true rfl) ⟨rfl, rfl⟩ ⟨Nat.le_of_ble_eq_true rfl, Nat.le_of_ble_eq_true rfl⟩ rfl ?_
    refine zq_aload_n (pc' := 22) C dX5_freeDistanceBehind_21 rfl rfl rfl ?_
    replace hF := zq_bd hF; obtain ⟨v_11, e_12, hF⟩ := hF
    refine zq_getR (j := 1) (pc' := 25) C zq_K5 zq_in5w (Or.inl wd_210) (by decide) rfl dX5_freeDistanceBehind_22 rfl e_12 ?_
    replace hF := zq_bd hF; obtain ⟨v_13, e_14, hF⟩ := hF
    refine zq_getR (j := 0) (pc' := 28) C zq_K3 zq_in3w (Or.inr ⟨"FlipPolygons", by decide +kernel⟩) (by decide) rfl dX5_freeDistanceBehind_25 rfl e_14 ?_
    replace hF := zq_bd hF; obtain ⟨v_15, e_16, hF⟩ := hF
    refine zq_getR (j := 0) (pc' := 31) C zq_K0 zq_in0w (Or.inr ⟨"FlipPolygons", by decide +kernel⟩) (by decide) rfl dX5_freeDistanceBehind_28 rfl e_16 ?_
    refine zq_aload_n (pc' := 32) C dX5_freeDistanceBehind_31 rfl rfl rfl ?_
    replace hF := zq_bd hF; obtain ⟨v_17, e_18, hF⟩ := hF
    refine zq_getR (j := 1) (pc' := 35) C zq_K5 zq_in5w (Or.inl wd_210) (by decide) rfl dX5_freeDistanceBehind_32 rfl e_18 ?_
    replace hF := zq_bd hF; obtain ⟨v_19, e_20, hF⟩ := hF
    refine zq_getI (j := 1) (pc' := 38) C zq_K3 zq_in3w (Or.inr ⟨"FlipPolygons", by decide +kernel⟩) (by decide) rfl dX5_freeDistanceBehind_35 rfl e_20 ?_
    refine zq_iload_n (pc' := 39) C dX5_freeDistanceBehind_38 rfl rfl rfl ?_
    replace hF := zq_ck_e hF; obtain ⟨e_23, hF⟩ := hF
    replace hF := zq_bd hF; obtain ⟨v_21, e_22, hF⟩ := hF
    refine zq_cV (pc' := 42) C (c_X1_flipped e_22) yv_X1_flipped wd_255 zq_K1 e_23 dX5_freeDistanceBehind_39 rfl rfl rfl ⟨Nat.le_of_ble_eq_true rfl, Nat.le_of_ble_eq_true rfl⟩ (Nat.le_of_ble_eq_true rfl) ⟨rfl, rfl⟩ ⟨Nat.le_of_ble_eq_true rfl, Nat.le_of_ble_eq_true rfl⟩ rfl ?_
    replace hF := zq_ck_e hF; obtain ⟨e_26, hF⟩ := hF
    replace hF := zq_bd hF; obtain ⟨v_24, e_25, hF⟩ := hF
    refine zq_cV (pc' := 45) C (c_X2_flipsTo e_25) yv_X2_flipsTo wd_298 zq_K2 e_26 dX5_freeDistanceBehind_42 rfl rfl rfl ⟨Nat.le_of_ble_eq_true rfl, Nat.le_of_ble_eq_true rfl⟩ (Nat.le_of_ble_eq_true rfl) ⟨rfl, rfl⟩ ⟨Nat.le_of_ble_eq_true rfl, Nat.le_of_ble_eq_true rfl⟩ rfl ?_
    have hF := Option.some.inj hF
    subst hF
    exact hE _ _ _ _ (Nat.le_of_ble_eq_true rfl) (Nat.le_of_ble_eq_true rfl) dX5_freeDistanceBehind_45
  · have hF := (zq_ifp hF (zq_b0.mp c_7))
    refine zq_iconst (pc' := 15) C (-1) dX5_freeDistanceBehind_14 rfl (by decide) ?_
    have hF := Option.some.inj hF
    subst hF
    exact hE _ _ _ _ (Nat.le_of_ble_eq_true rfl) (Nat.le_of_ble_eq_true rfl) dX5_freeDistanceBehind_15
theorem c_X5_freeDistanceBehind {h : zq_H} {t : Nat} {x1 : Int32} {out : (Int32 × zq_H)} (hF : f_X5_freeDistanceBehind h t x1 = some out) : zq_M none yX5_freeDistanceBehind (Cond.code yX5_freeDistanceBehind cX5_freeDistanceBehind 2 (some .int) :: zq_all) rm_X5_freeDistanceBehind [.ref t, .int x1] h (some (.int out.1)) out.2 := zq_met2 (own := RX5) (by decide +kernel) rfl (Nat.le_of_ble_eq_true rfl) rfl ⟨.int, rfl, rfl⟩ (fun X C T hn hE => v_X5_freeDistanceBehind C T hn hF hE)
theorem yv_X5_freeDistanceBehind : zq_calV yX5_freeDistanceBehind RX5 cX5_freeDistanceBehind 2 (some .int) 1 := ⟨by decide +kernel, wd_406, wd_408, wd_409, wd_95⟩
def f_X5_takenSnapshots (h : zq_H) (t : Nat) : Option Int32 := ((zq_lp (σ := Int32 × Int32) (ρ := Int32) (fun s_1 => (Option.bind (zq_gr h t 5 4) fun v_9 => (Option.bind (zq_an h v_9) fun v_11 => (if v_11 ≤ s_1.2 then some (.inr s_1.1) else (Option.bind (zq_gr h t 5 4) fun v_14 => (Option.bind (zq_aq h v_14 13 s_1.2) fun v_16 => (Option.bind (zq_gq h v_16 3 0) fun v_18 => (if v_18 = none then (zq_let (s_1.2 + 1) fun v_21 => some (.inl (s_1.1, v_21))) else (zq_let (s_1.1 + 1) fun v_23 => (zq_let (s_1.2 + 1) fun v_25 => some (.inl (v_23, v_25)))))))))))) zq_N (0, 0)).bind (fun y_4 : Int32 => some (y_4)))
abbrev rm_X5_takenSnapshots : Room := { frames := 0, cells := 0, slots := 0, locals := 0 }
theorem dX5_takenSnapshots_0 : decode cX5_takenSnapshots 0 = .ok (.iconst 0, 1) := by decide +kernel
theorem dX5_takenSnapshots_1 : decode cX5_takenSnapshots 1 = .ok (.istore_n 1, 1) := by decide +kernel
theorem dX5_takenSnapshots_2 : decode cX5_takenSnapshots 2 = .ok (.iconst 0, 1) := by decide +kernel
theorem dX5_takenSnapshots_3 : decode cX5_takenSnapshots 3 = .ok (.istore_n 2, 1) := by decide +kernel
theorem dX5_takenSnapshots_4 : decode cX5_takenSnapshots 4 = .ok (.iload_n 2, 1) := by decide +kernel
theorem dX5_takenSnapshots_5 : decode cX5_takenSnapshots 5 = .ok (.aload_n 0, 1) := by decide +kernel
theorem dX5_takenSnapshots_6 : decode cX5_takenSnapshots 6 = .ok (.getfield 42, 3) := by decide +kernel
theorem dX5_takenSnapshots_9 : decode cX5_takenSnapshots 9 = .ok (.arraylength, 1) := by decide +kernel
theorem dX5_takenSnapshots_10 : decode cX5_takenSnapshots 10 = .ok (.if_icmp .ge 24, 3) := by decide +kernel
theorem dX5_takenSnapshots_13 : decode cX5_takenSnapshots 13 = .ok (.aload_n 0, 1) := by decide +kernel
theorem dX5_takenSnapshots_14 : decode cX5_takenSnapshots 14 = .ok (.getfield 42, 3) := by decide +kernel
theorem dX5_takenSnapshots_17 : decode cX5_takenSnapshots 17 = .ok (.iload_n 2, 1) := by decide +kernel
theorem dX5_takenSnapshots_18 : decode cX5_takenSnapshots 18 = .ok (.aaload, 1) := by decide +kernel
theorem dX5_takenSnapshots_19 : decode cX5_takenSnapshots 19 = .ok (.getfield 83, 3) := by decide +kernel
theorem dX5_takenSnapshots_22 : decode cX5_takenSnapshots 22 = .ok (.ifnull 6, 3) := by decide +kernel
theorem dX5_takenSnapshots_25 : decode cX5_takenSnapshots 25 = .ok (.iinc 1 1, 3) := by decide +kernel
theorem dX5_takenSnapshots_28 : decode cX5_takenSnapshots 28 = .ok (.iinc 2 1, 3) := by decide +kernel
theorem dX5_takenSnapshots_31 : decode cX5_takenSnapshots 31 = .ok (.goto (-27), 3) := by decide +kernel
theorem dX5_takenSnapshots_34 : decode cX5_takenSnapshots 34 = .ok (.iload_n 1, 1) := by decide +kernel
theorem dX5_takenSnapshots_35 : decode cX5_takenSnapshots 35 = .ok (.ireturn, 1) := by decide +kernel
set_option maxRecDepth 100000 in
set_option maxHeartbeats 4000000 in
theorem v_X5_takenSnapshots {X : zq_X} (C : zq_C X RX5 cX5_takenSnapshots 3 zq_all rm_X5_takenSnapshots) {h : zq_H} {t : Nat} (T : zq_T X none) (hn : X.2.2.2.2.2.2.2.2.1.name = yX5_takenSnapshots.name) {out : Int32} (hF : f_X5_takenSnapshots h t = some out) (hE : zq_End X cX5_takenSnapshots 0 0 (some (.int out)) h) : zq_W X 0 0 h 0 [(0, .ref t)] [] := by
  unfold f_X5_takenSnapshots at hF
  refine zq_iconst (pc' := 1) C 0 dX5_takenSnapshots_0 rfl (by decide) ?_
  refine zq_istore_n (lv' := [(1, .int 0), (0, .ref t)]) (pc' := 2) C dX5_takenSnapshots_1 rfl rfl (by decide) rfl rfl ?_
  refine zq_iconst (pc' := 3) C 0 dX5_takenSnapshots_2 rfl (by decide) ?_
  refine zq_istore_n (lv' := [(2, .int 0), (1, .int 0), (0, .ref t)]) (pc' := 4) C dX5_takenSnapshots_3 rfl rfl (by decide) rfl rfl ?_
  refine zq_sub [2, 1, 0] rfl ?_
  replace hF := zq_bd hF; obtain ⟨r_2, e_3, hF⟩ := hF
  refine zq_lpW (fun s_1 => zq_W X 0 0 h 4 [(0, .ref t), (1, .int s_1.1), (2, .int s_1.2)] []) (fun y_4 => zq_W X 0 0 h 34 [(1, .int y_4)] []) e_3 (fun s_1 q_8 hF hrec_6 hex_7 => ?_) ?_
  · skip
    refine zq_iload_n (pc' := 5) C dX5_takenSnapshots_4 rfl rfl rfl ?_
    refine zq_aload_n (pc' := 6) C dX5_takenSnapshots_5 rfl rfl rfl ?_
    replace hF := zq_bd hF; obtain ⟨v_9, e_10, hF⟩ := hF
    refine zq_getR (j := 4) (pc' := 9) C zq_K5 zq_in5w (Or.inl wd_212) (by decide) rfl dX5_takenSnapshots_6 rfl e_10 ?_
    replace hF := zq_bd hF; obtain ⟨v_11, e_12, hF⟩ := hF
    refine zq_alen (pc' := 10) C dX5_takenSnapshots_9 rfl e_12 ?_
    refine zq_icmp_ge (pc' := 13) C 34 dX5_takenSnapshots_10 (by decide) rfl (fun c_13 => ?_) (fun c_13 => ?_)
    · have hF := (zq_ifp hF c_13)
      skip
      cases hF
      exact zq_sub [1] rfl (hex_7 _ rfl)
    · have hF := (zq_ifn hF c_13)
      refine zq_aload_n (pc' := 14) C dX5_takenSnapshots_13 rfl rfl rfl ?_
      replace hF := zq_bd hF; obtain ⟨v_14, e_15, hF⟩ := hF
      refine zq_getR (j := 4) (pc' := 17) C zq_K5 zq_in5w (Or.inl wd_212) (by decide) rfl dX5_takenSnapshots_14 rfl e_15 ?_
      refine zq_iload_n (pc' := 18) C dX5_takenSnapshots_17 rfl rfl rfl ?_
      replace hF := zq_bd hF; obtain ⟨v_16, e_17, hF⟩ := hF
      refine zq_aaload (pc' := 19) C 13 (by decide) dX5_takenSnapshots_18 rfl e_17 ?_
      replace hF := zq_bd hF; obtain ⟨v_18, e_19, hF⟩ := hF
      refine zq_getQ (j := 0) (pc' := 22) C zq_K3 zq_in3w (Or.inr ⟨"FlipPolygons", by decide +kernel⟩) (by decide) rfl dX5_takenSnapshots_19 rfl e_19 ?_
      refine zq_ifnull (pc' := 25) C 28 dX5_takenSnapshots_22 (by decide) rfl (fun c_20 => ?_) (fun c_20 => ?_)
      · have hF := (zq_ifp hF c_20)
        skip
        replace hF := zq_let_e hF; obtain ⟨v_21, e_22, hF⟩ := hF
        refine zq_iinc (lv' := [(2, .int v_21), (0, .ref t), (1, .int s_1.1)]) (pc' := 31) C dX5_takenSnapshots_28 rfl (by decide) 2 rfl e_22 rfl ?_
        refine zq_goto C 4 dX5_takenSnapshots_31 (by decide) ?_
        cases hF
        exact zq_sub [1, 2, 0] rfl (hrec_6 _ rfl)
      · have hF := (zq_ifn hF c_20)
        replace hF := zq_let_e hF; obtain ⟨v_23, e_24, hF⟩ := hF
        refine zq_iinc (lv' := [(1, .int v_23), (0, .ref t), (2, .int s_1.2)]) (pc' := 28) C dX5_takenSnapshots_25 rfl (by decide) 1 rfl e_24 rfl ?_
        replace hF := zq_let_e hF; obtain ⟨v_25, e_26, hF⟩ := hF
        refine zq_iinc (lv' := [(2, .int v_25), (1, .int v_23), (0, .ref t)]) (pc' := 31) C dX5_takenSnapshots_28 rfl (by decide) 2 rfl e_26 rfl ?_
        refine zq_goto C 4 dX5_takenSnapshots_31 (by decide) ?_
        cases hF
        exact zq_sub [2, 1, 0] rfl (hrec_6 _ rfl)
  · skip
    obtain ⟨y_4, rfl⟩ : ∃ z9, z9 = r_2 := ⟨_, rfl⟩
    show zq_W X 0 0 h 34 [(1, .int y_4)] []
    refine zq_iload_n (pc' := 35) C dX5_takenSnapshots_34 rfl rfl rfl ?_
    have hF := Option.some.inj hF
    subst hF
    exact hE _ _ _ _ (Nat.le_of_ble_eq_true rfl) (Nat.le_of_ble_eq_true rfl) dX5_takenSnapshots_35
theorem c_X5_takenSnapshots {h : zq_H} {t : Nat} {out : Int32} (hF : f_X5_takenSnapshots h t = some out) : zq_M none yX5_takenSnapshots (Cond.code yX5_takenSnapshots cX5_takenSnapshots 3 (some .int) :: zq_all) rm_X5_takenSnapshots [.ref t] h (some (.int out)) h := zq_met2 (own := RX5) (by decide +kernel) rfl (Nat.le_of_ble_eq_true rfl) rfl ⟨.int, rfl, rfl⟩ (fun X C T hn hE => v_X5_takenSnapshots C T hn hF hE)
theorem yv_X5_takenSnapshots : zq_calV yX5_takenSnapshots RX5 cX5_takenSnapshots 3 (some .int) 0 := ⟨by decide +kernel, wd_411, wd_414, wd_415, wd_95⟩
def f_X5_countNumber (h : zq_H) (t : Nat) (x1 : Int32) : Option Int32 := (if x1 = 0 then (Option.bind (zq_gr h t 5 1) fun v_2 => (Option.bind (zq_gr h v_2 3 0) fun v_4 => (Option.bind (zq_gr h v_4 0 0) fun v_6 => (Option.bind (zq_gi h v_6 1 0) fun v_8 => some (v_8))))) else (if x1 = 1 then (Option.bind (zq_gr h t 5 1) fun v_11 => (Option.bind (zq_gr h v_11 3 0) fun v_13 => (Option.bind (zq_gr h v_13 0 0) fun v_15 => (Option.bind (zq_gi h v_15 1 1) fun v_17 => some (v_17))))) else (if x1 = 2 then (Option.bind (zq_gr h t 5 1) fun v_20 => (Option.bind (zq_gr h v_20 3 0) fun v_22 => (Option.bind (zq_gi h v_22 0 1) fun v_24 => some (v_24)))) else (if x1 = 3 then (Option.bind (zq_gr h t 5 1) fun v_27 => (Option.bind (zq_gr h v_27 3 0) fun v_29 => (Option.bind (zq_gi h v_29 0 2) fun v_31 => some (v_31)))) else (if x1 = 4 then (Option.bind (zq_gr h t 5 1) fun v_34 => (Option.bind (zq_gr h v_34 3 0) fun v_36 => (Option.bind (zq_gi h v_36 0 3) fun v_38 => some (v_38)))) else (if x1 = 5 then (Option.bind (zq_gr h t 5 1) fun v_41 => (Option.bind (zq_gi h v_41 3 4) fun v_43 => some (v_43))) else (if x1 = 6 then (Option.bind (zq_gr h t 5 1) fun v_46 => (Option.bind (zq_gi h v_46 3 3) fun v_48 => (Option.bind (f_J6_bitCount_0f7a4 h v_48) fun v_50 => some (v_50)))) else (if x1 = 7 then (Option.bind (zq_gr h t 5 1) fun v_53 => (Option.bind (zq_gi h v_53 3 3) fun v_55 => some (v_55))) else (if x1 = 8 then (zq_ck h t 5 fun _ => (Option.bind (f_X5_takenSnapshots h t) fun v_58 => some (v_58))) else (Option.bind (zq_gi h t 5 3) fun v_61 => some (v_61)))))))))))
abbrev rm_X5_countNumber : Room := { frames := 1, cells := 0, slots := 0, locals := 22 }
theorem dX5_countNumber_0 : decode cX5_countNumber 0 = .ok (.iload_n 1, 1) := by decide +kernel
theorem dX5_countNumber_1 : decode cX5_countNumber 1 = .ok (.tableswitch 144 0 8 #[51, 65, 79, 90, 101, 112, 120, 131, 139], 51) := by decide +kernel
theorem dX5_countNumber_52 : decode cX5_countNumber 52 = .ok (.aload_n 0, 1) := by decide +kernel
theorem dX5_countNumber_53 : decode cX5_countNumber 53 = .ok (.getfield 30, 3) := by decide +kernel
theorem dX5_countNumber_56 : decode cX5_countNumber 56 = .ok (.getfield 83, 3) := by decide +kernel
theorem dX5_countNumber_59 : decode cX5_countNumber 59 = .ok (.getfield 87, 3) := by decide +kernel
theorem dX5_countNumber_62 : decode cX5_countNumber 62 = .ok (.getfield 91, 3) := by decide +kernel
theorem dX5_countNumber_65 : decode cX5_countNumber 65 = .ok (.ireturn, 1) := by decide +kernel
theorem dX5_countNumber_66 : decode cX5_countNumber 66 = .ok (.aload_n 0, 1) := by decide +kernel
theorem dX5_countNumber_67 : decode cX5_countNumber 67 = .ok (.getfield 30, 3) := by decide +kernel
theorem dX5_countNumber_70 : decode cX5_countNumber 70 = .ok (.getfield 83, 3) := by decide +kernel
theorem dX5_countNumber_73 : decode cX5_countNumber 73 = .ok (.getfield 87, 3) := by decide +kernel
theorem dX5_countNumber_76 : decode cX5_countNumber 76 = .ok (.getfield 320, 3) := by decide +kernel
theorem dX5_countNumber_79 : decode cX5_countNumber 79 = .ok (.ireturn, 1) := by decide +kernel
theorem dX5_countNumber_80 : decode cX5_countNumber 80 = .ok (.aload_n 0, 1) := by decide +kernel
theorem dX5_countNumber_81 : decode cX5_countNumber 81 = .ok (.getfield 30, 3) := by decide +kernel
theorem dX5_countNumber_84 : decode cX5_countNumber 84 = .ok (.getfield 83, 3) := by decide +kernel
theorem dX5_countNumber_87 : decode cX5_countNumber 87 = .ok (.getfield 332, 3) := by decide +kernel
theorem dX5_countNumber_90 : decode cX5_countNumber 90 = .ok (.ireturn, 1) := by decide +kernel
theorem dX5_countNumber_91 : decode cX5_countNumber 91 = .ok (.aload_n 0, 1) := by decide +kernel
theorem dX5_countNumber_92 : decode cX5_countNumber 92 = .ok (.getfield 30, 3) := by decide +kernel
theorem dX5_countNumber_95 : decode cX5_countNumber 95 = .ok (.getfield 83, 3) := by decide +kernel
theorem dX5_countNumber_98 : decode cX5_countNumber 98 = .ok (.getfield 335, 3) := by decide +kernel
theorem dX5_countNumber_101 : decode cX5_countNumber 101 = .ok (.ireturn, 1) := by decide +kernel
theorem dX5_countNumber_102 : decode cX5_countNumber 102 = .ok (.aload_n 0, 1) := by decide +kernel
theorem dX5_countNumber_103 : decode cX5_countNumber 103 = .ok (.getfield 30, 3) := by decide +kernel
theorem dX5_countNumber_106 : decode cX5_countNumber 106 = .ok (.getfield 83, 3) := by decide +kernel
theorem dX5_countNumber_109 : decode cX5_countNumber 109 = .ok (.getfield 338, 3) := by decide +kernel
theorem dX5_countNumber_112 : decode cX5_countNumber 112 = .ok (.ireturn, 1) := by decide +kernel
theorem dX5_countNumber_113 : decode cX5_countNumber 113 = .ok (.aload_n 0, 1) := by decide +kernel
theorem dX5_countNumber_114 : decode cX5_countNumber 114 = .ok (.getfield 30, 3) := by decide +kernel
theorem dX5_countNumber_117 : decode cX5_countNumber 117 = .ok (.getfield 221, 3) := by decide +kernel
theorem dX5_countNumber_120 : decode cX5_countNumber 120 = .ok (.ireturn, 1) := by decide +kernel
theorem dX5_countNumber_121 : decode cX5_countNumber 121 = .ok (.aload_n 0, 1) := by decide +kernel
theorem dX5_countNumber_122 : decode cX5_countNumber 122 = .ok (.getfield 30, 3) := by decide +kernel
theorem dX5_countNumber_125 : decode cX5_countNumber 125 = .ok (.getfield 116, 3) := by decide +kernel
theorem dX5_countNumber_128 : decode cX5_countNumber 128 = .ok (.invokestatic 135, 3) := by decide +kernel
theorem dX5_countNumber_131 : decode cX5_countNumber 131 = .ok (.ireturn, 1) := by decide +kernel
theorem dX5_countNumber_132 : decode cX5_countNumber 132 = .ok (.aload_n 0, 1) := by decide +kernel
theorem dX5_countNumber_133 : decode cX5_countNumber 133 = .ok (.getfield 30, 3) := by decide +kernel
theorem dX5_countNumber_136 : decode cX5_countNumber 136 = .ok (.getfield 116, 3) := by decide +kernel
theorem dX5_countNumber_139 : decode cX5_countNumber 139 = .ok (.ireturn, 1) := by decide +kernel
theorem dX5_countNumber_140 : decode cX5_countNumber 140 = .ok (.aload_n 0, 1) := by decide +kernel
theorem dX5_countNumber_141 : decode cX5_countNumber 141 = .ok (.invokevirtual 341, 3) := by decide +kernel
theorem dX5_countNumber_144 : decode cX5_countNumber 144 = .ok (.ireturn, 1) := by decide +kernel
theorem dX5_countNumber_145 : decode cX5_countNumber 145 = .ok (.aload_n 0, 1) := by decide +kernel
theorem dX5_countNumber_146 : decode cX5_countNumber 146 = .ok (.getfield 224, 3) := by decide +kernel
theorem dX5_countNumber_149 : decode cX5_countNumber 149 = .ok (.ireturn, 1) := by decide +kernel
set_option maxRecDepth 100000 in
set_option maxHeartbeats 4000000 in
theorem v_X5_countNumber {X : zq_X} (C : zq_C X RX5 cX5_countNumber 2 zq_all rm_X5_countNumber) {h : zq_H} {t : Nat} {x1 : Int32} (T : zq_T X none) (hn : X.2.2.2.2.2.2.2.2.1.name = yX5_countNumber.name) {out : Int32} (hF : f_X5_countNumber h t x1 = some out) (hE : zq_End X cX5_countNumber 0 0 (some (.int out)) h) : zq_W X 0 0 h 0 [(0, .ref t), (1, .int x1)] [] := by
  unfold f_X5_countNumber at hF
  refine zq_iload_n (pc' := 1) C dX5_countNumber_0 rfl rfl rfl ?_
  by_cases c_1 : x1 = 0
  · have hF := zq_ifp hF c_1
    refine zq_tsIn C 52 dX5_countNumber_1 (by rw [c_1]; decide) (by rw [c_1]; decide) (by rw [c_1]; rfl) (by decide) ?_
    refine zq_aload_n (pc' := 53) C dX5_countNumber_52 rfl rfl rfl ?_
    replace hF := zq_bd hF; obtain ⟨v_2, e_3, hF⟩ := hF
    refine zq_getR (j := 1) (pc' := 56) C zq_K5 zq_in5w (Or.inl wd_210) (by decide) rfl dX5_countNumber_53 rfl e_3 ?_
    replace hF := zq_bd hF; obtain ⟨v_4, e_5, hF⟩ := hF
    refine zq_getR (j := 0) (pc' := 59) C zq_K3 zq_in3w (Or.inr ⟨"FlipPolygons", by decide +kernel⟩) (by decide) rfl dX5_countNumber_56 rfl e_5 ?_
    replace hF := zq_bd hF; obtain ⟨v_6, e_7, hF⟩ := hF
    refine zq_getR (j := 0) (pc' := 62) C zq_K0 zq_in0w (Or.inr ⟨"FlipPolygons", by decide +kernel⟩) (by decide) rfl dX5_countNumber_59 rfl e_7 ?_
    replace hF := zq_bd hF; obtain ⟨v_8, e_9, hF⟩ := hF
    refine zq_getI (j := 0) (pc' := 65) C zq_K1 zq_in1w (Or.inr ⟨"FlipPolygons", by decide +kernel⟩) (by decide) rfl dX5_countNumber_62 rfl e_9 ?_
    have hF := Option.some.inj hF
    subst hF
    exact hE _ _ _ _ (Nat.le_of_ble_eq_true rfl) (Nat.le_of_ble_eq_true rfl) dX5_countNumber_65
  have hF := zq_ifn hF c_1
  by_cases c_10 : x1 = 1
  · have hF := zq_ifp hF c_10
    refine zq_tsIn C 66 dX5_countNumber_1 (by rw [c_10]; decide) (by rw [c_10]; decide) (by rw [c_10]; rfl) (by decide) ?_
    refine zq_aload_n (pc' := 67) C dX5_countNumber_66 rfl rfl rfl ?_
    replace hF := zq_bd hF; obtain ⟨v_11, e_12, hF⟩ := hF
    refine zq_getR (j := 1) (pc' := 70) C zq_K5 zq_in5w (Or.inl wd_210) (by decide) rfl dX5_countNumber_67 rfl e_12 ?_
    replace hF := zq_bd hF; obtain ⟨v_13, e_14, hF⟩ := hF
    refine zq_getR (j := 0) (pc' := 73) C zq_K3 zq_in3w (Or.inr ⟨"FlipPolygons", by decide +kernel⟩) (by decide) rfl dX5_countNumber_70 rfl e_14 ?_
    replace hF := zq_bd hF; obtain ⟨v_15, e_16, hF⟩ := hF
    refine zq_getR (j := 0) (pc' := 76) C zq_K0 zq_in0w (Or.inr ⟨"FlipPolygons", by decide +kernel⟩) (by decide) rfl dX5_countNumber_73 rfl e_16 ?_
    replace hF := zq_bd hF; obtain ⟨v_17, e_18, hF⟩ := hF
    refine zq_getI (j := 1) (pc' := 79) C zq_K1 zq_in1w (Or.inr ⟨"FlipPolygons", by decide +kernel⟩) (by decide) rfl dX5_countNumber_76 rfl e_18 ?_
    have hF := Option.some.inj hF
    subst hF
    exact hE _ _ _ _ (Nat.le_of_ble_eq_true rfl) (Nat.le_of_ble_eq_true rfl) dX5_countNumber_79
  have hF := zq_ifn hF c_10
  by_cases c_19 : x1 = 2
  · have hF := zq_ifp hF c_19
    refine zq_tsIn C 80 dX5_countNumber_1 (by rw [c_19]; decide) (by rw [c_19]; decide) (by rw [c_19]; rfl) (by decide) ?_
    refine zq_aload_n (pc' := 81) C dX5_countNumber_80 rfl rfl rfl ?_
    replace hF := zq_bd hF; obtain ⟨v_20, e_21, hF⟩ := hF
    refine zq_getR (j := 1) (pc' := 84) C zq_K5 zq_in5w (Or.inl wd_210) (by decide) rfl dX5_countNumber_81 rfl e_21 ?_
    replace hF := zq_bd hF; obtain ⟨v_22, e_23, hF⟩ := hF
    refine zq_getR (j := 0) (pc' := 87) C zq_K3 zq_in3w (Or.inr ⟨"FlipPolygons", by decide +kernel⟩) (by decide) rfl dX5_countNumber_84 rfl e_23 ?_
    replace hF := zq_bd hF; obtain ⟨v_24, e_25, hF⟩ := hF
    refine zq_getI (j := 1) (pc' := 90) C zq_K0 zq_in0w (Or.inr ⟨"FlipPolygons", by decide +kernel⟩) (by decide) rfl dX5_countNumber_87 rfl e_25 ?_
    have hF := Option.some.inj hF
    subst hF
    exact hE _ _ _ _ (Nat.le_of_ble_eq_true rfl) (Nat.le_of_ble_eq_true rfl) dX5_countNumber_90
  have hF := zq_ifn hF c_19
  by_cases c_26 : x1 = 3
  · have hF := zq_ifp hF c_26
    refine zq_tsIn C 91 dX5_countNumber_1 (by rw [c_26]; decide) (by rw [c_26]; decide) (by rw [c_26]; rfl) (by decide) ?_
    refine zq_aload_n (pc' := 92) C dX5_countNumber_91 rfl rfl rfl ?_
    replace hF := zq_bd hF; obtain ⟨v_27, e_28, hF⟩ := hF
    refine zq_getR (j := 1) (pc' := 95) C zq_K5 zq_in5w (Or.inl wd_210) (by decide) rfl dX5_countNumber_92 rfl e_28 ?_
    replace hF := zq_bd hF; obtain ⟨v_29, e_30, hF⟩ := hF
    refine zq_getR (j := 0) (pc' := 98) C zq_K3 zq_in3w (Or.inr ⟨"FlipPolygons", by decide +kernel⟩) (by decide) rfl dX5_countNumber_95 rfl e_30 ?_
    replace hF := zq_bd hF; obtain ⟨v_31, e_32, hF⟩ := hF
    refine zq_getI (j := 2) (pc' := 101) C zq_K0 zq_in0w (Or.inr ⟨"FlipPolygons", by decide +kernel⟩) (by decide) rfl dX5_countNumber_98 rfl e_32 ?_
    have hF := Option.some.inj hF
    subst hF
    exact hE _ _ _ _ (Nat.le_of_ble_eq_true rfl) (Nat.le_of_ble_eq_true rfl) dX5_countNumber_101
  have hF := zq_ifn hF c_26
  by_cases c_33 : x1 = 4
  · have hF := zq_ifp hF c_33
    refine zq_tsIn C 102 dX5_countNumber_1 (by rw [c_33]; decide) (by rw [c_33]; decide) (by rw [c_33]; rfl) (by decide) ?_
    refine zq_aload_n (pc' := 103) C dX5_countNumber_102 rfl rfl rfl ?_
    replace hF := zq_bd hF; obtain ⟨v_34, e_35, hF⟩ := hF
    refine zq_getR (j := 1) (pc' := 106) C zq_K5 zq_in5w (Or.inl wd_210) (by decide) rfl dX5_countNumber_103 rfl e_35 ?_
    replace hF := zq_bd hF; obtain ⟨v_36, e_37, hF⟩ := hF
    refine zq_getR (j := 0) (pc' := 109) C zq_K3 zq_in3w (Or.inr ⟨"FlipPolygons", by decide +kernel⟩) (by decide) rfl dX5_countNumber_106 rfl e_37 ?_
    replace hF := zq_bd hF; obtain ⟨v_38, e_39, hF⟩ := hF
    refine zq_getI (j := 3) (pc' := 112) C zq_K0 zq_in0w (Or.inr ⟨"FlipPolygons", by decide +kernel⟩) (by decide) rfl dX5_countNumber_109 rfl e_39 ?_
    have hF := Option.some.inj hF
    subst hF
    exact hE _ _ _ _ (Nat.le_of_ble_eq_true rfl) (Nat.le_of_ble_eq_true rfl) dX5_countNumber_112
  have hF := zq_ifn hF c_33
  by_cases c_40 : x1 = 5
  · have hF := zq_ifp hF c_40
    refine zq_tsIn C 113 dX5_countNumber_1 (by rw [c_40]; decide) (by rw [c_40]; decide) (by rw [c_40]; rfl) (by decide) ?_
    refine zq_aload_n (pc' := 114) C dX5_countNumber_113 rfl rfl rfl ?_
    replace hF := zq_bd hF; obtain ⟨v_41, e_42, hF⟩ := hF
    refine zq_getR (j := 1) (pc' := 117) C zq_K5 zq_in5w (Or.inl wd_210) (by decide) rfl dX5_countNumber_114 rfl e_42 ?_
    replace hF := zq_bd hF; obtain ⟨v_43, e_44, hF⟩ := hF
    refine zq_getI (j := 4) (pc' := 120) C zq_K3 zq_in3w (Or.inr ⟨"FlipPolygons", by decide +kernel⟩) (by decide) rfl dX5_countNumber_117 rfl e_44 ?_
    have hF := Option.some.inj hF
    subst hF
    exact hE _ _ _ _ (Nat.le_of_ble_eq_true rfl) (Nat.le_of_ble_eq_true rfl) dX5_countNumber_120
  have hF := zq_ifn hF c_40
  by_cases c_45 : x1 = 6
  · have hF := zq_ifp hF c_45
    refine zq_tsIn C 121 dX5_countNumber_1 (by rw [c_45]; decide) (by rw [c_45]; decide) (by rw [c_45]; rfl) (by decide) ?_
    refine zq_aload_n (pc' := 122) C dX5_countNumber_121 rfl rfl rfl ?_
    replace hF := zq_bd hF; obtain ⟨v_46, e_47, hF⟩ := hF
    refine zq_getR (j := 1) (pc' := 125) C zq_K5 zq_in5w (Or.inl wd_210) (by decide) rfl dX5_countNumber_122 rfl e_47 ?_
    replace hF := zq_bd hF; obtain ⟨v_48, e_49, hF⟩ := hF
    refine zq_getI (j := 3) (pc' := 128) C zq_K3 zq_in3w (Or.inr ⟨"FlipPolygons", by decide +kernel⟩) (by decide) rfl dX5_countNumber_125 rfl e_49 ?_
    replace hF := zq_bd hF; obtain ⟨v_50, e_51, hF⟩ := hF
    refine zq_cS (pc' := 131) C (c_J6_bitCount_0f7a4 e_51) ys_J6_bitCount_0f7a4 wd_274 dX5_countNumber_128 rfl rfl rfl ⟨Nat.le_of_ble_eq_true rfl, Nat.le_of_ble_eq_true rfl⟩ (Nat.le_of_ble_eq_true rfl) ⟨rfl, rfl⟩ ⟨Nat.le_of_ble_eq_true rfl, Nat.le_of_ble_eq_true rfl⟩ rfl ?_
    have hF := Option.some.inj hF
    subst hF
    exact hE _ _ _ _ (Nat.le_of_ble_eq_true rfl) (Nat.le_of_ble_eq_true rfl) dX5_countNumber_131
  have hF := zq_ifn hF c_45
  by_cases c_52 : x1 = 7
  · have hF := zq_ifp hF c_52
    refine zq_tsIn C 132 dX5_countNumber_1 (by rw [c_52]; decide) (by rw [c_52]; decide) (by rw [c_52]; rfl) (by decide) ?_
    refine zq_aload_n (pc' := 133) C dX5_countNumber_132 rfl rfl rfl ?_
    replace hF := zq_bd hF; obtain ⟨v_53, e_54, hF⟩ := hF
    refine zq_getR (j := 1) (pc' := 136) C zq_K5 zq_in5w (Or.inl wd_210) (by decide) rfl dX5_countNumber_133 rfl e_54 ?_
    replace hF := zq_bd hF; obtain ⟨v_55, e_56, hF⟩ := hF
    refine zq_getI (j := 3) (pc' := 139) C zq_K3 zq_in3w (Or.inr ⟨"FlipPolygons", by decide +kernel⟩) (by decide) rfl dX5_countNumber_136 rfl e_56 ?_
    have hF := Option.some.inj hF
    subst hF
    exact hE _ _ _ _ (Nat.le_of_ble_eq_true rfl) (Nat.le_of_ble_eq_true rfl) dX5_countNumber_139
  have hF := zq_ifn hF c_52
  by_cases c_57 : x1 = 8
  · have hF := zq_ifp hF c_57
    refine zq_tsIn C 140 dX5_countNumber_1 (by rw [c_57]; decide) (by rw [c_57]; decide) (by rw [c_57]; rfl) (by decide) ?_
    refine zq_aload_n (pc' := 141) C dX5_countNumber_140 rfl rfl rfl ?_
    replace hF := zq_ck_e hF; obtain ⟨e_60, hF⟩ := hF
    replace hF := zq_bd hF; obtain ⟨v_58, e_59, hF⟩ := hF
    refine zq_cV (pc' := 144) C (c_X5_takenSnapshots e_59) yv_X5_takenSnapshots wd_413 zq_K5 e_60 dX5_countNumber_141 rfl rfl rfl ⟨Nat.le_of_ble_eq_true rfl, Nat.le_of_ble_eq_true rfl⟩ (Nat.le_of_ble_eq_true rfl) ⟨rfl, rfl⟩ ⟨Nat.le_of_ble_eq_true rfl, Nat.le_of_ble_eq_true rfl⟩ rfl ?_
    have hF := Option.some.inj hF
    subst hF
    exact hE _ _ _ _ (Nat.le_of_ble_eq_true rfl) (Nat.le_of_ble_eq_true rfl) dX5_countNumber_144
  have hF := zq_ifn hF c_57
  refine zq_tsOut C 145 dX5_countNumber_1 (zq_out (n := 9) rfl rfl (by decide) (fun k hk => match k, hk with | 0, _ => c_1 | 1, _ => c_10 | 2, _ => c_19 | 3, _ => c_26 | 4, _ => c_33 | 5, _ => c_40 | 6, _ => c_45 | 7, _ => c_52 | 8, _ => c_57 | k + 9, hk => absurd hk (by omega))) (by decide) ?_
  refine zq_aload_n (pc' := 146) C dX5_countNumber_145 rfl rfl rfl ?_
  replace hF := zq_bd hF; obtain ⟨v_61, e_62, hF⟩ := hF
  refine zq_getI (j := 3) (pc' := 149) C zq_K5 zq_in5w (Or.inl wd_239) (by decide) rfl dX5_countNumber_146 rfl e_62 ?_
  have hF := Option.some.inj hF
  subst hF
  exact hE _ _ _ _ (Nat.le_of_ble_eq_true rfl) (Nat.le_of_ble_eq_true rfl) dX5_countNumber_149
theorem c_X5_countNumber {h : zq_H} {t : Nat} {x1 : Int32} {out : Int32} (hF : f_X5_countNumber h t x1 = some out) : zq_M none yX5_countNumber (Cond.code yX5_countNumber cX5_countNumber 2 (some .int) :: zq_all) rm_X5_countNumber [.ref t, .int x1] h (some (.int out)) h := zq_met2 (own := RX5) (by decide +kernel) rfl (Nat.le_of_ble_eq_true rfl) rfl ⟨.int, rfl, rfl⟩ (fun X C T hn hE => v_X5_countNumber C T hn hF hE)
theorem yv_X5_countNumber : zq_calV yX5_countNumber RX5 cX5_countNumber 2 (some .int) 1 := ⟨by decide +kernel, wd_412, wd_418, wd_419, wd_95⟩
def f_X5_shareOfWay (h : zq_H) (t : Nat) : Option (UInt64 × zq_H) := (Option.bind (zq_gr h t 5 1) fun v_1 => (Option.bind (zq_gr h v_1 3 0) fun v_3 => (Option.bind (zq_gi h v_3 0 3) fun v_5 => (if v_5 ≤ 0 then some ((FP.dconst0, h)) else (zq_ck h t 5 fun _ => (Option.bind (f_X5_freeDistance h t) fun v_8 => (zq_nn (FP.ddiv (FP.i2d v_8.1) (FP.i2d v_5)) fun _ => some ((FP.ddiv (FP.i2d v_8.1) (FP.i2d v_5), v_8.2)))))))))
abbrev rm_X5_shareOfWay : Room := { frames := 5, cells := 0, slots := 0, locals := 118 }
theorem dX5_shareOfWay_0 : decode cX5_shareOfWay 0 = .ok (.aload_n 0, 1) := by decide +kernel
theorem dX5_shareOfWay_1 : decode cX5_shareOfWay 1 = .ok (.getfield 30, 3) := by decide +kernel
theorem dX5_shareOfWay_4 : decode cX5_shareOfWay 4 = .ok (.getfield 83, 3) := by decide +kernel
theorem dX5_shareOfWay_7 : decode cX5_shareOfWay 7 = .ok (.getfield 338, 3) := by decide +kernel
theorem dX5_shareOfWay_10 : decode cX5_shareOfWay 10 = .ok (.istore_n 1, 1) := by decide +kernel
theorem dX5_shareOfWay_11 : decode cX5_shareOfWay 11 = .ok (.iload_n 1, 1) := by decide +kernel
theorem dX5_shareOfWay_12 : decode cX5_shareOfWay 12 = .ok (.ifCond .le 14, 3) := by decide +kernel
theorem dX5_shareOfWay_15 : decode cX5_shareOfWay 15 = .ok (.aload_n 0, 1) := by decide +kernel
theorem dX5_shareOfWay_16 : decode cX5_shareOfWay 16 = .ok (.invokevirtual 323, 3) := by decide +kernel
theorem dX5_shareOfWay_19 : decode cX5_shareOfWay 19 = .ok (.i2d, 1) := by decide +kernel
theorem dX5_shareOfWay_20 : decode cX5_shareOfWay 20 = .ok (.iload_n 1, 1) := by decide +kernel
theorem dX5_shareOfWay_21 : decode cX5_shareOfWay 21 = .ok (.i2d, 1) := by decide +kernel
theorem dX5_shareOfWay_22 : decode cX5_shareOfWay 22 = .ok (.ddiv, 1) := by decide +kernel
theorem dX5_shareOfWay_23 : decode cX5_shareOfWay 23 = .ok (.goto 4, 3) := by decide +kernel
theorem dX5_shareOfWay_26 : decode cX5_shareOfWay 26 = .ok (.dconst 0, 1) := by decide +kernel
theorem dX5_shareOfWay_27 : decode cX5_shareOfWay 27 = .ok (.dreturn, 1) := by decide +kernel
set_option maxRecDepth 100000 in
set_option maxHeartbeats 4000000 in
theorem v_X5_shareOfWay {X : zq_X} (C : zq_C X RX5 cX5_shareOfWay 2 zq_all rm_X5_shareOfWay) {h : zq_H} {t : Nat} (T : zq_T X none) (hn : X.2.2.2.2.2.2.2.2.1.name = yX5_shareOfWay.name) {out : (UInt64 × zq_H)} (hF : f_X5_shareOfWay h t = some out) (hE : zq_End X cX5_shareOfWay 0 0 (some (.double out.1)) out.2) : zq_W X 0 0 h 0 [(0, .ref t)] [] := by
  unfold f_X5_shareOfWay at hF
  refine zq_aload_n (pc' := 1) C dX5_shareOfWay_0 rfl rfl rfl ?_
  replace hF := zq_bd hF; obtain ⟨v_1, e_2, hF⟩ := hF
  refine zq_getR (j := 1) (pc' := 4) C zq_K5 zq_in5w (Or.inl wd_210) (by decide) rfl dX5_shareOfWay_1 rfl e_2 ?_
  replace hF := zq_bd hF; obtain ⟨v_3, e_4, hF⟩ := hF
  refine zq_getR (j := 0) (pc' := 7) C zq_K3 zq_in3w (Or.inr ⟨"FlipPolygons", by decide +kernel⟩) (by decide) rfl dX5_shareOfWay_4 rfl e_4 ?_
  replace hF := zq_bd hF; obtain ⟨v_5, e_6, hF⟩ := hF
  refine zq_getI (j := 3) (pc' := 10) C zq_K0 zq_in0w (Or.inr ⟨"FlipPolygons", by decide +kernel⟩) (by decide) rfl dX5_shareOfWay_7 rfl e_6 ?_
  refine zq_istore_n (lv' := [(1, .int v_5), (0, .ref t)]) (pc' := 11) C dX5_shareOfWay_10 rfl rfl (by decide) rfl rfl ?_
  refine zq_iload_n (pc' := 12) C dX5_shareOfWay_11 rfl rfl rfl ?_
  refine zq_if_le (pc' := 15) C 26 dX5_shareOfWay_12 (by decide) rfl (fun c_7 => ?_) (fun c_7 => ?_)
  · have hF := (zq_ifp hF c_7)
    skip
    refine zq_dconst0 (pc' := 27) C dX5_shareOfWay_26 rfl ?_
    have hF := Option.some.inj hF
    subst hF
    exact hE _ _ _ _ (Nat.le_of_ble_eq_true rfl) (Nat.le_of_ble_eq_true rfl) dX5_shareOfWay_27
  · have hF := (zq_ifn hF c_7)
    refine zq_aload_n (pc' := 16) C dX5_shareOfWay_15 rfl rfl rfl ?_
    replace hF := zq_ck_e hF; obtain ⟨e_10, hF⟩ := hF
    replace hF := zq_bd hF; obtain ⟨v_8, e_9, hF⟩ := hF
    refine zq_cV (pc' := 19) C (c_X5_freeDistance e_9) yv_X5_freeDistance wd_392 zq_K5 e_10 dX5_shareOfWay_16 rfl rfl rfl ⟨Nat.le_of_ble_eq_true rfl, Nat.le_of_ble_eq_true rfl⟩ (Nat.le_of_ble_eq_true rfl) ⟨rfl, rfl⟩ ⟨Nat.le_of_ble_eq_true rfl, Nat.le_of_ble_eq_true rfl⟩ rfl ?_
    refine zq_i2d (pc' := 20) C dX5_shareOfWay_19 rfl ?_
    refine zq_iload_n (pc' := 21) C dX5_shareOfWay_20 rfl rfl rfl ?_
    refine zq_i2d (pc' := 22) C dX5_shareOfWay_21 rfl ?_
    replace hF := zq_nn_e hF; obtain ⟨e_11, hF⟩ := hF
    refine zq_ddiv (pc' := 23) C dX5_shareOfWay_22 rfl e_11 ?_
    refine zq_goto C 27 dX5_shareOfWay_23 (by decide) ?_
    have hF := Option.some.inj hF
    subst hF
    exact hE _ _ _ _ (Nat.le_of_ble_eq_true rfl) (Nat.le_of_ble_eq_true rfl) dX5_shareOfWay_27
theorem c_X5_shareOfWay {h : zq_H} {t : Nat} {out : (UInt64 × zq_H)} (hF : f_X5_shareOfWay h t = some out) : zq_M none yX5_shareOfWay (Cond.code yX5_shareOfWay cX5_shareOfWay 2 (some .double) :: zq_all) rm_X5_shareOfWay [.ref t] h (some (.double out.1)) out.2 := zq_met2 (own := RX5) (by decide +kernel) rfl (Nat.le_of_ble_eq_true rfl) rfl rfl (fun X C T hn hE => v_X5_shareOfWay C T hn hF hE)
theorem yv_X5_shareOfWay : zq_calV yX5_shareOfWay RX5 cX5_shareOfWay 2 (some .double) 0 := ⟨by decide +kernel, wd_420, wd_422, wd_423, wd_95⟩
def f_X5_farShare (h : zq_H) (t : Nat) : Option (UInt64 × zq_H) := (zq_ck h t 5 fun _ => (Option.bind (f_X5_shareOfWay h t) fun v_1 => some ((v_1.1, v_1.2))))
abbrev rm_X5_farShare : Room := { frames := 6, cells := 0, slots := 0, locals := 139 }
theorem dX5_farShare_0 : decode cX5_farShare 0 = .ok (.aload_n 0, 1) := by decide +kernel
theorem dX5_farShare_1 : decode cX5_farShare 1 = .ok (.invokevirtual 252, 3) := by decide +kernel
theorem dX5_farShare_4 : decode cX5_farShare 4 = .ok (.dreturn, 1) := by decide +kernel
set_option maxRecDepth 100000 in
set_option maxHeartbeats 4000000 in
theorem v_X5_farShare {X : zq_X} (C : zq_C X RX5 cX5_farShare 1 zq_all rm_X5_farShare) {h : zq_H} {t : Nat} (T : zq_T X none) (hn : X.2.2.2.2.2.2.2.2.1.name = yX5_farShare.name) {out : (UInt64 × zq_H)} (hF : f_X5_farShare h t = some out) (hE : zq_End X cX5_farShare 0 0 (some (.double out.1)) out.2) : zq_W X 0 0 h 0 [(0, .ref t)] [] := by
  unfold f_X5_farShare at hF
  refine zq_aload_n (pc' := 1) C dX5_farShare_0 rfl rfl rfl ?_
  replace hF := zq_ck_e hF; obtain ⟨e_3, hF⟩ := hF
  replace hF := zq_bd hF; obtain ⟨v_1, e_2, hF⟩ := hF
  refine zq_cV (pc' := 4) C (c_X5_shareOfWay e_2) yv_X5_shareOfWay wd_421 zq_K5 e_3 dX5_farShare_1 rfl rfl rfl ⟨Nat.le_of_ble_eq_true rfl, Nat.le_of_ble_eq_true rfl⟩ (Nat.le_of_ble_eq_true rfl) ⟨rfl, rfl⟩ ⟨Nat.le_of_ble_eq_true rfl, Nat.le_of_ble_eq_true rfl⟩ rfl ?_
  have hF := Option.some.inj hF
  subst hF
  exact hE _ _ _ _ (Nat.le_of_ble_eq_true rfl) (Nat.le_of_ble_eq_true rfl) dX5_farShare_4
theorem c_X5_farShare {h : zq_H} {t : Nat} {out : (UInt64 × zq_H)} (hF : f_X5_farShare h t = some out) : zq_M none yX5_farShare (Cond.code yX5_farShare cX5_farShare 1 (some .double) :: zq_all) rm_X5_farShare [.ref t] h (some (.double out.1)) out.2 := zq_met2 (own := RX5) (by decide +kernel) rfl (Nat.le_of_ble_eq_true rfl) rfl rfl (fun X C T hn hE => v_X5_farShare C T hn hF hE)
theorem yv_X5_farShare : zq_calV yX5_farShare RX5 cX5_farShare 1 (some .double) 0 := ⟨by decide +kernel, wd_424, wd_910, wd_911, wd_95⟩
def f_X5_mixTriangulation (h : zq_H) (t : Nat) (x1 : Int64) (x3 : Int32) : Option (Int64 × zq_H) := ((zq_lp (σ := Int64 × Int32 × zq_H) (ρ := Int64 × zq_H) (fun s_1 => (if 7 ≤ s_1.2.1 then some (.inr (s_1.1, s_1.2.2)) else (zq_ck s_1.2.2 t 5 fun _ => (Option.bind (f_X5_numberOfTriangulation s_1.2.2 t x3 s_1.2.1) fun v_10 => (zq_let ((31 * s_1.1) + (v_10.1 : Int32).toInt64) fun v_13 => (zq_let (s_1.2.1 + 1) fun v_15 => some (.inl (v_13, v_15, v_10.2)))))))) zq_N (x1, 0, h)).bind (fun y_4 : Int64 × zq_H => (Option.bind (zq_gr y_4.2 t 5 1) fun v_17 => (Option.bind (zq_gr y_4.2 v_17 3 0) fun v_19 => (Option.bind (zq_gr y_4.2 v_19 0 0) fun v_21 => ((zq_lp (σ := Int64 × Int32) (ρ := Int64) (fun s_23 => (Option.bind (zq_gi y_4.2 v_21 1 0) fun v_31 => (if v_31 ≤ s_23.2 then some (.inr s_23.1) else (Option.bind (zq_gr y_4.2 t 5 1) fun v_34 => (zq_ck y_4.2 v_34 3 fun _ => (Option.bind (f_X3_mask y_4.2 v_34 x3) fun v_36 => (zq_ck y_4.2 v_21 1 fun _ => (Option.bind (f_X1_degreeIn y_4.2 v_21 v_36 s_23.2) fun v_39 => (zq_let ((31 * s_23.1) + (v_39 : Int32).toInt64) fun v_42 => (zq_let (s_23.2 + 1) fun v_44 => some (.inl (v_42, v_44)))))))))))) zq_N (y_4.1, 0)).bind (fun y_26 : Int64 => some ((y_26, y_4.2)))))))))
abbrev rm_X5_mixTriangulation : Room := { frames := 6, cells := 0, slots := 0, locals := 135 }
theorem dX5_mixTriangulation_0 : decode cX5_mixTriangulation 0 = .ok (.lload_n 1, 1) := by decide +kernel
theorem dX5_mixTriangulation_1 : decode cX5_mixTriangulation 1 = .ok (.lstore 4, 2) := by decide +kernel
theorem dX5_mixTriangulation_3 : decode cX5_mixTriangulation 3 = .ok (.iconst 0, 1) := by decide +kernel
theorem dX5_mixTriangulation_4 : decode cX5_mixTriangulation 4 = .ok (.istore 6, 2) := by decide +kernel
theorem dX5_mixTriangulation_6 : decode cX5_mixTriangulation 6 = .ok (.iload 6, 2) := by decide +kernel
theorem dX5_mixTriangulation_8 : decode cX5_mixTriangulation 8 = .ok (.bipush 7, 2) := by decide +kernel
theorem dX5_mixTriangulation_10 : decode cX5_mixTriangulation 10 = .ok (.if_icmp .ge 26, 3) := by decide +kernel
theorem dX5_mixTriangulation_13 : decode cX5_mixTriangulation 13 = .ok (.ldc2_w 258, 3) := by decide +kernel
theorem dX5_mixTriangulation_16 : decode cX5_mixTriangulation 16 = .ok (.lload 4, 2) := by decide +kernel
theorem dX5_mixTriangulation_18 : decode cX5_mixTriangulation 18 = .ok (.lmul, 1) := by decide +kernel
theorem dX5_mixTriangulation_19 : decode cX5_mixTriangulation 19 = .ok (.aload_n 0, 1) := by decide +kernel
theorem dX5_mixTriangulation_20 : decode cX5_mixTriangulation 20 = .ok (.iload_n 3, 1) := by decide +kernel
theorem dX5_mixTriangulation_21 : decode cX5_mixTriangulation 21 = .ok (.iload 6, 2) := by decide +kernel
theorem dX5_mixTriangulation_23 : decode cX5_mixTriangulation 23 = .ok (.invokevirtual 231, 3) := by decide +kernel
theorem dX5_mixTriangulation_26 : decode cX5_mixTriangulation 26 = .ok (.i2l, 1) := by decide +kernel
theorem dX5_mixTriangulation_27 : decode cX5_mixTriangulation 27 = .ok (.ladd, 1) := by decide +kernel
theorem dX5_mixTriangulation_28 : decode cX5_mixTriangulation 28 = .ok (.lstore 4, 2) := by decide +kernel
theorem dX5_mixTriangulation_30 : decode cX5_mixTriangulation 30 = .ok (.iinc 6 1, 3) := by decide +kernel
theorem dX5_mixTriangulation_33 : decode cX5_mixTriangulation 33 = .ok (.goto (-27), 3) := by decide +kernel
theorem dX5_mixTriangulation_36 : decode cX5_mixTriangulation 36 = .ok (.aload_n 0, 1) := by decide +kernel
theorem dX5_mixTriangulation_37 : decode cX5_mixTriangulation 37 = .ok (.getfield 30, 3) := by decide +kernel
theorem dX5_mixTriangulation_40 : decode cX5_mixTriangulation 40 = .ok (.getfield 83, 3) := by decide +kernel
theorem dX5_mixTriangulation_43 : decode cX5_mixTriangulation 43 = .ok (.getfield 87, 3) := by decide +kernel
theorem dX5_mixTriangulation_46 : decode cX5_mixTriangulation 46 = .ok (.astore 6, 2) := by decide +kernel
theorem dX5_mixTriangulation_48 : decode cX5_mixTriangulation 48 = .ok (.iconst 0, 1) := by decide +kernel
theorem dX5_mixTriangulation_49 : decode cX5_mixTriangulation 49 = .ok (.istore 7, 2) := by decide +kernel
theorem dX5_mixTriangulation_51 : decode cX5_mixTriangulation 51 = .ok (.iload 7, 2) := by decide +kernel
theorem dX5_mixTriangulation_53 : decode cX5_mixTriangulation 53 = .ok (.aload 6, 2) := by decide +kernel
theorem dX5_mixTriangulation_55 : decode cX5_mixTriangulation 55 = .ok (.getfield 91, 3) := by decide +kernel
theorem dX5_mixTriangulation_58 : decode cX5_mixTriangulation 58 = .ok (.if_icmp .ge 34, 3) := by decide +kernel
theorem dX5_mixTriangulation_61 : decode cX5_mixTriangulation 61 = .ok (.ldc2_w 258, 3) := by decide +kernel
theorem dX5_mixTriangulation_64 : decode cX5_mixTriangulation 64 = .ok (.lload 4, 2) := by decide +kernel
theorem dX5_mixTriangulation_66 : decode cX5_mixTriangulation 66 = .ok (.lmul, 1) := by decide +kernel
theorem dX5_mixTriangulation_67 : decode cX5_mixTriangulation 67 = .ok (.aload 6, 2) := by decide +kernel
theorem dX5_mixTriangulation_69 : decode cX5_mixTriangulation 69 = .ok (.aload_n 0, 1) := by decide +kernel
theorem dX5_mixTriangulation_70 : decode cX5_mixTriangulation 70 = .ok (.getfield 30, 3) := by decide +kernel
theorem dX5_mixTriangulation_73 : decode cX5_mixTriangulation 73 = .ok (.iload_n 3, 1) := by decide +kernel
theorem dX5_mixTriangulation_74 : decode cX5_mixTriangulation 74 = .ok (.invokevirtual 108, 3) := by decide +kernel
theorem dX5_mixTriangulation_77 : decode cX5_mixTriangulation 77 = .ok (.iload 7, 2) := by decide +kernel
theorem dX5_mixTriangulation_79 : decode cX5_mixTriangulation 79 = .ok (.invokevirtual 234, 3) := by decide +kernel
theorem dX5_mixTriangulation_82 : decode cX5_mixTriangulation 82 = .ok (.i2l, 1) := by decide +kernel
theorem dX5_mixTriangulation_83 : decode cX5_mixTriangulation 83 = .ok (.ladd, 1) := by decide +kernel
theorem dX5_mixTriangulation_84 : decode cX5_mixTriangulation 84 = .ok (.lstore 4, 2) := by decide +kernel
theorem dX5_mixTriangulation_86 : decode cX5_mixTriangulation 86 = .ok (.iinc 7 1, 3) := by decide +kernel
theorem dX5_mixTriangulation_89 : decode cX5_mixTriangulation 89 = .ok (.goto (-38), 3) := by decide +kernel
theorem dX5_mixTriangulation_92 : decode cX5_mixTriangulation 92 = .ok (.lload 4, 2) := by decide +kernel
theorem dX5_mixTriangulation_94 : decode cX5_mixTriangulation 94 = .ok (.lreturn, 1) := by decide +kernel
set_option maxRecDepth 100000 in
set_option maxHeartbeats 4000000 in
theorem v_X5_mixTriangulation {X : zq_X} (C : zq_C X RX5 cX5_mixTriangulation 8 zq_all rm_X5_mixTriangulation) {h : zq_H} {t : Nat} {x1 : Int64} {x3 : Int32} (T : zq_T X none) (hn : X.2.2.2.2.2.2.2.2.1.name = yX5_mixTriangulation.name) {out : (Int64 × zq_H)} (hF : f_X5_mixTriangulation h t x1 x3 = some out) (hE : zq_End X cX5_mixTriangulation 0 0 (some (.long out.1)) out.2) : zq_W X 0 0 h 0 [(0, .ref t), (1, .long x1), (3, .int x3)] [] := by
  unfold f_X5_mixTriangulation at hF
  refine zq_lload_n (pc' := 1) C dX5_mixTriangulation_0 rfl rfl rfl ?_
  refine zq_lstore (lv' := [(4, .long x1), (0, .ref t), (1, .long x1), (3, .int x3)]) (pc' := 3) C dX5_mixTriangulation_1 rfl (by decide) rfl rfl ?_
  refine zq_iconst (pc' := 4) C 0 dX5_mixTriangulation_3 rfl (by decide) ?_
  refine zq_istore (lv' := [(6, .int 0), (4, .long x1), (0, .ref t), (1, .long x1), (3, .int x3)]) (pc' := 6) C dX5_mixTriangulation_4 rfl (by decide) rfl rfl ?_
  refine zq_sub [2, 4, 1, 0] rfl ?_
  replace hF := zq_bd hF; obtain ⟨r_2, e_3, hF⟩ := hF
  refine zq_lpW (fun s_1 => zq_W X 0 0 s_1.2.2 6 [(0, .ref t), (3, .int x3), (4, .long s_1.1), (6, .int s_1.2.1)] []) (fun y_4 => zq_W X 0 0 y_4.2 36 [(0, .ref t), (3, .int x3), (4, .long y_4.1)] []) e_3 (fun s_1 q_8 hF hrec_6 hex_7 => ?_) ?_
  · skip
    refine zq_iload (pc' := 8) C dX5_mixTriangulation_6 rfl rfl ?_
    refine zq_bipush (pc' := 10) C 7 dX5_mixTriangulation_8 rfl (by decide) ?_
    refine zq_icmp_ge (pc' := 13) C 36 dX5_mixTriangulation_10 (by decide) rfl (fun c_9 => ?_) (fun c_9 => ?_)
    · have hF := (zq_ifp hF c_9)
      skip
      cases hF
      exact zq_sub [0, 1, 2] rfl (hex_7 _ rfl)
    · have hF := (zq_ifn hF c_9)
      refine zq_ldc2l (pc' := 16) C 31 dX5_mixTriangulation_13 rfl wd_425 ?_
      refine zq_lload (pc' := 18) C dX5_mixTriangulation_16 rfl rfl ?_
      refine zq_lmul (pc' := 19) C dX5_mixTriangulation_18 rfl ?_
      refine zq_aload_n (pc' := 20) C dX5_mixTriangulation_19 rfl rfl rfl ?_
      refine zq_iload_n (pc' := 21) C dX5_mixTriangulation_20 rfl rfl rfl ?_
      refine zq_iload (pc' := 23) C dX5_mixTriangulation_21 rfl rfl ?_
      replace hF := zq_ck_e hF; obtain ⟨e_12, hF⟩ := hF
      replace hF := zq_bd hF; obtain ⟨v_10, e_11, hF⟩ := hF
      refine zq_cV (pc' := 26) C (c_X5_numberOfTriangulation e_11) yv_X5_numberOfTriangulation wd_359 zq_K5 e_12 dX5_mixTriangulation_23 rfl rfl rfl ⟨Nat.le_of_ble_eq_true rfl, Nat.le_of_ble_eq_true rfl⟩ (Nat.le_of_ble_eq_true rfl) ⟨rfl, rfl⟩ ⟨Nat.le_of_ble_eq_true rfl, Nat.le_of_ble_eq_true rfl⟩ rfl ?_
      refine zq_i2l (pc' := 27) C dX5_mixTriangulation_26 rfl ?_
      refine zq_ladd (pc' := 28) C dX5_mixTriangulation_27 rfl ?_
      replace hF := zq_let_e hF; obtain ⟨v_13, e_14, hF⟩ := hF
      refine zq_lstore (lv' := [(4, .long v_13), (0, .ref t), (3, .int x3), (6, .int s_1.2.1)]) (pc' := 30) C dX5_mixTriangulation_28 rfl (by decide) e_14 rfl ?_
      replace hF := zq_let_e hF; obtain ⟨v_15, e_16, hF⟩ := hF
      refine zq_iinc (lv' := [(6, .int v_15), (4, .long v_13), (0, .ref t), (3, .int x3)]) (pc' := 33) C dX5_mixTriangulation_30 rfl (by decide) 3 rfl e_16 rfl ?_
      refine zq_goto C 6 dX5_mixTriangulation_33 (by decide) ?_
      cases hF
      exact zq_sub [2, 3, 1, 0] rfl (hrec_6 _ rfl)
  · skip
    obtain ⟨y_4, rfl⟩ : ∃ z9, z9 = r_2 := ⟨_, rfl⟩
    show zq_W X 0 0 y_4.2 36 [(0, .ref t), (3, .int x3), (4, .long y_4.1)] []
    refine zq_aload_n (pc' := 37) C dX5_mixTriangulation_36 rfl rfl rfl ?_
    replace hF := zq_bd hF; obtain ⟨v_17, e_18, hF⟩ := hF
    refine zq_getR (j := 1) (pc' := 40) C zq_K5 zq_in5w (Or.inl wd_210) (by decide) rfl dX5_mixTriangulation_37 rfl e_18 ?_
    replace hF := zq_bd hF; obtain ⟨v_19, e_20, hF⟩ := hF
    refine zq_getR (j := 0) (pc' := 43) C zq_K3 zq_in3w (Or.inr ⟨"FlipPolygons", by decide +kernel⟩) (by decide) rfl dX5_mixTriangulation_40 rfl e_20 ?_
    replace hF := zq_bd hF; obtain ⟨v_21, e_22, hF⟩ := hF
    refine zq_getR (j := 0) (pc' := 46) C zq_K0 zq_in0w (Or.inr ⟨"FlipPolygons", by decide +kernel⟩) (by decide) rfl dX5_mixTriangulation_43 rfl e_22 ?_
    refine zq_astore (lv' := [(6, .ref v_21), (0, .ref t), (3, .int x3), (4, .long y_4.1)]) (pc' := 48) C dX5_mixTriangulation_46 rfl (by decide) rfl rfl ?_
    refine zq_iconst (pc' := 49) C 0 dX5_mixTriangulation_48 rfl (by decide) ?_
    refine zq_istore (lv' := [(7, .int 0), (6, .ref v_21), (0, .ref t), (3, .int x3), (4, .long y_4.1)]) (pc' := 51) C dX5_mixTriangulation_49 rfl (by decide) rfl rfl ?_
    refine zq_sub [2, 3, 4, 1, 0] rfl ?_
    replace hF := zq_bd hF; obtain ⟨r_24, e_25, hF⟩ := hF
    refine zq_lpW (fun s_23 => zq_W X 0 0 y_4.2 51 [(0, .ref t), (3, .int x3), (4, .long s_23.1), (6, .ref v_21), (7, .int s_23.2)] []) (fun y_26 => zq_W X 0 0 y_4.2 92 [(4, .long y_26)] []) e_25 (fun s_23 q_30 hF hrec_28 hex_29 => ?_) ?_
    · skip
      refine zq_iload (pc' := 53) C dX5_mixTriangulation_51 rfl rfl ?_
      refine zq_aload (pc' := 55) C dX5_mixTriangulation_53 rfl rfl ?_
      replace hF := zq_bd hF; obtain ⟨v_31, e_32, hF⟩ := hF
      refine zq_getI (j := 0) (pc' := 58) C zq_K1 zq_in1w (Or.inr ⟨"FlipPolygons", by decide +kernel⟩) (by decide) rfl dX5_mixTriangulation_55 rfl e_32 ?_
      refine zq_icmp_ge (pc' := 61) C 92 dX5_mixTriangulation_58 (by decide) rfl (fun c_33 => ?_) (fun c_33 => ?_)
      · have hF := (zq_ifp hF c_33)
        skip
        cases hF
        exact zq_sub [2] rfl (hex_29 _ rfl)
      · have hF := (zq_ifn hF c_33)
        refine zq_ldc2l (pc' := 64) C 31 dX5_mixTriangulation_61 rfl wd_425 ?_
        refine zq_lload (pc' := 66) C dX5_mixTriangulation_64 rfl rfl ?_
        refine zq_lmul (pc' := 67) C dX5_mixTriangulation_66 rfl ?_
        refine zq_aload (pc' := 69) C dX5_mixTriangulation_67 rfl rfl ?_
        refine zq_aload_n (pc' := 70) C dX5_mixTriangulation_69 rfl rfl rfl ?_
        replace hF := zq_bd hF; obtain ⟨v_34, e_35, hF⟩ := hF
        refine zq_getR (j := 1) (pc' := 73) C zq_K5 zq_in5w (Or.inl wd_210) (by decide) rfl dX5_mixTriangulation_70 rfl e_35 ?_
        refine zq_iload_n (pc' := 74) C dX5_mixTriangulation_73 rfl rfl rfl ?_
        replace hF := zq_ck_e hF; obtain ⟨e_38, hF⟩ := hF
        replace hF := zq_bd hF; obtain ⟨v_36, e_37, hF⟩ := hF
        refine zq_cV (pc' := 77) C (c_X3_mask e_37) yv_X3_mask wd_251 zq_K3 e_38 dX5_mixTriangulation_74 rfl rfl rfl ⟨Nat.le_of_ble_eq_true rfl, Nat.le_of_ble_eq_true rfl⟩ (Nat.le_of_ble_eq_true rfl) ⟨rfl, rfl⟩ ⟨Nat.le_of_ble_eq_true rfl, Nat.le_of_ble_eq_true rfl⟩ rfl ?_
        refine zq_iload (pc' := 79) C dX5_mixTriangulation_77 rfl rfl ?_
        replace hF := zq_ck_e hF; obtain ⟨e_41, hF⟩ := hF
        replace hF := zq_bd hF; obtain ⟨v_39, e_40, hF⟩ := hF
        refine zq_cV (pc' := 82) C (c_X1_degreeIn e_40) yv_X1_degreeIn wd_363 zq_K1 e_41 dX5_mixTriangulation_79 rfl rfl rfl ⟨Nat.le_of_ble_eq_true rfl, Nat.le_of_ble_eq_true rfl⟩ (Nat.le_of_ble_eq_true rfl) ⟨rfl, rfl⟩ ⟨Nat.le_of_ble_eq_true rfl, Nat.le_of_ble_eq_true rfl⟩ rfl ?_
        refine zq_i2l (pc' := 83) C dX5_mixTriangulation_82 rfl ?_
        refine zq_ladd (pc' := 84) C dX5_mixTriangulation_83 rfl ?_
        replace hF := zq_let_e hF; obtain ⟨v_42, e_43, hF⟩ := hF
        refine zq_lstore (lv' := [(4, .long v_42), (0, .ref t), (3, .int x3), (6, .ref v_21), (7, .int s_23.2)]) (pc' := 86) C dX5_mixTriangulation_84 rfl (by decide) e_43 rfl ?_
        replace hF := zq_let_e hF; obtain ⟨v_44, e_45, hF⟩ := hF
        refine zq_iinc (lv' := [(7, .int v_44), (4, .long v_42), (0, .ref t), (3, .int x3), (6, .ref v_21)]) (pc' := 89) C dX5_mixTriangulation_86 rfl (by decide) 4 rfl e_45 rfl ?_
        refine zq_goto C 51 dX5_mixTriangulation_89 (by decide) ?_
        cases hF
        exact zq_sub [2, 3, 1, 4, 0] rfl (hrec_28 _ rfl)
    · skip
      obtain ⟨y_26, rfl⟩ : ∃ z9, z9 = r_24 := ⟨_, rfl⟩
      show zq_W X 0 0 y_4.2 92 [(4, .long y_26)] []
      refine zq_lload (pc' := 94) C dX5_mixTriangulation_92 rfl rfl ?_
      have hF := Option.some.inj hF
      subst hF
      exact hE _ _ _ _ (Nat.le_of_ble_eq_true rfl) (Nat.le_of_ble_eq_true rfl) dX5_mixTriangulation_94
theorem c_X5_mixTriangulation {h : zq_H} {t : Nat} {x1 : Int64} {x3 : Int32} {out : (Int64 × zq_H)} (hF : f_X5_mixTriangulation h t x1 x3 = some out) : zq_M none yX5_mixTriangulation (Cond.code yX5_mixTriangulation cX5_mixTriangulation 8 (some .long) :: zq_all) rm_X5_mixTriangulation [.ref t, .long x1, .int x3] h (some (.long out.1)) out.2 := zq_met2 (own := RX5) (by decide +kernel) rfl (Nat.le_of_ble_eq_true rfl) rfl rfl (fun X C T hn hE => v_X5_mixTriangulation C T hn hF hE)
theorem yv_X5_mixTriangulation : zq_calV yX5_mixTriangulation RX5 cX5_mixTriangulation 8 (some .long) 2 := ⟨by decide +kernel, wd_426, wd_434, wd_435, wd_95⟩
def f_X5_mixDiagonals (h : zq_H) (t : Nat) (x1 : Int64) : Option (Int64 × zq_H) := (Option.bind (zq_gr h t 5 1) fun v_1 => (Option.bind (zq_gr h v_1 3 0) fun v_3 => (Option.bind (zq_gr h v_3 0 0) fun v_5 => ((zq_lp (σ := Int64 × Int32 × zq_H) (ρ := Int64 × zq_H) (fun s_7 => (Option.bind (zq_gi s_7.2.2 v_5 1 1) fun v_15 => (if v_15 ≤ s_7.2.1 then some (.inr (s_7.1, s_7.2.2)) else (Option.bind (zq_gr s_7.2.2 t 5 1) fun v_18 => (Option.bind (zq_gi s_7.2.2 v_18 3 1) fun v_20 => (zq_ck s_7.2.2 v_5 1 fun _ => (Option.bind (f_X1_otherOf s_7.2.2 v_5 v_20 s_7.2.1) fun v_22 => (zq_let ((31 * s_7.1) + (v_22 : Int32).toInt64) fun v_25 => (Option.bind (zq_gr s_7.2.2 t 5 1) fun v_27 => (Option.bind (zq_gi s_7.2.2 v_27 3 2) fun v_29 => (zq_ck s_7.2.2 v_5 1 fun _ => (Option.bind (f_X1_otherOf s_7.2.2 v_5 v_29 s_7.2.1) fun v_31 => (zq_let ((31 * v_25) + (v_31 : Int32).toInt64) fun v_34 => (zq_ck s_7.2.2 t 5 fun _ => (Option.bind (f_X5_hindrance s_7.2.2 t s_7.2.1) fun v_36 => (zq_let ((31 * v_34) + (v_36 : Int32).toInt64) fun v_39 => (zq_ck s_7.2.2 t 5 fun _ => (Option.bind (f_X5_freeDistanceBehind s_7.2.2 t s_7.2.1) fun v_41 => (zq_let ((31 * v_39) + (v_41.1 : Int32).toInt64) fun v_44 => (zq_let (s_7.2.1 + 1) fun v_46 => some (.inl (v_44, v_46, v_41.2)))))))))))))))))))))) zq_N (x1, 0, h)).bind (fun y_10 : Int64 × zq_H => some ((y_10.1, y_10.2)))))))
abbrev rm_X5_mixDiagonals : Room := { frames := 5, cells := 0, slots := 0, locals := 119 }
theorem dX5_mixDiagonals_0 : decode cX5_mixDiagonals 0 = .ok (.lload_n 1, 1) := by decide +kernel
theorem dX5_mixDiagonals_1 : decode cX5_mixDiagonals 1 = .ok (.lstore_n 3, 1) := by decide +kernel
theorem dX5_mixDiagonals_2 : decode cX5_mixDiagonals 2 = .ok (.aload_n 0, 1) := by decide +kernel
theorem dX5_mixDiagonals_3 : decode cX5_mixDiagonals 3 = .ok (.getfield 30, 3) := by decide +kernel
theorem dX5_mixDiagonals_6 : decode cX5_mixDiagonals 6 = .ok (.getfield 83, 3) := by decide +kernel
theorem dX5_mixDiagonals_9 : decode cX5_mixDiagonals 9 = .ok (.getfield 87, 3) := by decide +kernel
theorem dX5_mixDiagonals_12 : decode cX5_mixDiagonals 12 = .ok (.astore 5, 2) := by decide +kernel
theorem dX5_mixDiagonals_14 : decode cX5_mixDiagonals 14 = .ok (.iconst 0, 1) := by decide +kernel
theorem dX5_mixDiagonals_15 : decode cX5_mixDiagonals 15 = .ok (.istore 6, 2) := by decide +kernel
theorem dX5_mixDiagonals_17 : decode cX5_mixDiagonals 17 = .ok (.iload 6, 2) := by decide +kernel
theorem dX5_mixDiagonals_19 : decode cX5_mixDiagonals 19 = .ok (.aload 5, 2) := by decide +kernel
theorem dX5_mixDiagonals_21 : decode cX5_mixDiagonals 21 = .ok (.getfield 320, 3) := by decide +kernel
theorem dX5_mixDiagonals_24 : decode cX5_mixDiagonals 24 = .ok (.if_icmp .ge 81, 3) := by decide +kernel
theorem dX5_mixDiagonals_27 : decode cX5_mixDiagonals 27 = .ok (.ldc2_w 258, 3) := by decide +kernel
theorem dX5_mixDiagonals_30 : decode cX5_mixDiagonals 30 = .ok (.lload_n 3, 1) := by decide +kernel
theorem dX5_mixDiagonals_31 : decode cX5_mixDiagonals 31 = .ok (.lmul, 1) := by decide +kernel
theorem dX5_mixDiagonals_32 : decode cX5_mixDiagonals 32 = .ok (.aload 5, 2) := by decide +kernel
theorem dX5_mixDiagonals_34 : decode cX5_mixDiagonals 34 = .ok (.aload_n 0, 1) := by decide +kernel
theorem dX5_mixDiagonals_35 : decode cX5_mixDiagonals 35 = .ok (.getfield 30, 3) := by decide +kernel
theorem dX5_mixDiagonals_38 : decode cX5_mixDiagonals 38 = .ok (.getfield 160, 3) := by decide +kernel
theorem dX5_mixDiagonals_41 : decode cX5_mixDiagonals 41 = .ok (.iload 6, 2) := by decide +kernel
theorem dX5_mixDiagonals_43 : decode cX5_mixDiagonals 43 = .ok (.invokevirtual 237, 3) := by decide +kernel
theorem dX5_mixDiagonals_46 : decode cX5_mixDiagonals 46 = .ok (.i2l, 1) := by decide +kernel
theorem dX5_mixDiagonals_47 : decode cX5_mixDiagonals 47 = .ok (.ladd, 1) := by decide +kernel
theorem dX5_mixDiagonals_48 : decode cX5_mixDiagonals 48 = .ok (.lstore_n 3, 1) := by decide +kernel
theorem dX5_mixDiagonals_49 : decode cX5_mixDiagonals 49 = .ok (.ldc2_w 258, 3) := by decide +kernel
theorem dX5_mixDiagonals_52 : decode cX5_mixDiagonals 52 = .ok (.lload_n 3, 1) := by decide +kernel
theorem dX5_mixDiagonals_53 : decode cX5_mixDiagonals 53 = .ok (.lmul, 1) := by decide +kernel
theorem dX5_mixDiagonals_54 : decode cX5_mixDiagonals 54 = .ok (.aload 5, 2) := by decide +kernel
theorem dX5_mixDiagonals_56 : decode cX5_mixDiagonals 56 = .ok (.aload_n 0, 1) := by decide +kernel
theorem dX5_mixDiagonals_57 : decode cX5_mixDiagonals 57 = .ok (.getfield 30, 3) := by decide +kernel
theorem dX5_mixDiagonals_60 : decode cX5_mixDiagonals 60 = .ok (.getfield 157, 3) := by decide +kernel
theorem dX5_mixDiagonals_63 : decode cX5_mixDiagonals 63 = .ok (.iload 6, 2) := by decide +kernel
theorem dX5_mixDiagonals_65 : decode cX5_mixDiagonals 65 = .ok (.invokevirtual 237, 3) := by decide +kernel
theorem dX5_mixDiagonals_68 : decode cX5_mixDiagonals 68 = .ok (.i2l, 1) := by decide +kernel
theorem dX5_mixDiagonals_69 : decode cX5_mixDiagonals 69 = .ok (.ladd, 1) := by decide +kernel
theorem dX5_mixDiagonals_70 : decode cX5_mixDiagonals 70 = .ok (.lstore_n 3, 1) := by decide +kernel
theorem dX5_mixDiagonals_71 : decode cX5_mixDiagonals 71 = .ok (.ldc2_w 258, 3) := by decide +kernel
theorem dX5_mixDiagonals_74 : decode cX5_mixDiagonals 74 = .ok (.lload_n 3, 1) := by decide +kernel
theorem dX5_mixDiagonals_75 : decode cX5_mixDiagonals 75 = .ok (.lmul, 1) := by decide +kernel
theorem dX5_mixDiagonals_76 : decode cX5_mixDiagonals 76 = .ok (.aload_n 0, 1) := by decide +kernel
theorem dX5_mixDiagonals_77 : decode cX5_mixDiagonals 77 = .ok (.iload 6, 2) := by decide +kernel
theorem dX5_mixDiagonals_79 : decode cX5_mixDiagonals 79 = .ok (.invokevirtual 240, 3) := by decide +kernel
theorem dX5_mixDiagonals_82 : decode cX5_mixDiagonals 82 = .ok (.i2l, 1) := by decide +kernel
theorem dX5_mixDiagonals_83 : decode cX5_mixDiagonals 83 = .ok (.ladd, 1) := by decide +kernel
theorem dX5_mixDiagonals_84 : decode cX5_mixDiagonals 84 = .ok (.lstore_n 3, 1) := by decide +kernel
theorem dX5_mixDiagonals_85 : decode cX5_mixDiagonals 85 = .ok (.ldc2_w 258, 3) := by decide +kernel
theorem dX5_mixDiagonals_88 : decode cX5_mixDiagonals 88 = .ok (.lload_n 3, 1) := by decide +kernel
theorem dX5_mixDiagonals_89 : decode cX5_mixDiagonals 89 = .ok (.lmul, 1) := by decide +kernel
theorem dX5_mixDiagonals_90 : decode cX5_mixDiagonals 90 = .ok (.aload_n 0, 1) := by decide +kernel
theorem dX5_mixDiagonals_91 : decode cX5_mixDiagonals 91 = .ok (.iload 6, 2) := by decide +kernel
theorem dX5_mixDiagonals_93 : decode cX5_mixDiagonals 93 = .ok (.invokevirtual 246, 3) := by decide +kernel
theorem dX5_mixDiagonals_96 : decode cX5_mixDiagonals 96 = .ok (.i2l, 1) := by decide +kernel
theorem dX5_mixDiagonals_97 : decode cX5_mixDiagonals 97 = .ok (.ladd, 1) := by decide +kernel
theorem dX5_mixDiagonals_98 : decode cX5_mixDiagonals 98 = .ok (.lstore_n 3, 1) := by decide +kernel
theorem dX5_mixDiagonals_99 : decode cX5_mixDiagonals 99 = .ok (.iinc 6 1, 3) := by decide +kernel
theorem dX5_mixDiagonals_102 : decode cX5_mixDiagonals 102 = .ok (.goto (-85), 3) := by decide +kernel
theorem dX5_mixDiagonals_105 : decode cX5_mixDiagonals 105 = .ok (.lload_n 3, 1) := by decide +kernel
theorem dX5_mixDiagonals_106 : decode cX5_mixDiagonals 106 = .ok (.lreturn, 1) := by decide +kernel
set_option maxRecDepth 100000 in
set_option maxHeartbeats 4000000 in
theorem v_X5_mixDiagonals {X : zq_X} (C : zq_C X RX5 cX5_mixDiagonals 7 zq_all rm_X5_mixDiagonals) {h : zq_H} {t : Nat} {x1 : Int64} (T : zq_T X none) (hn : X.2.2.2.2.2.2.2.2.1.name = yX5_mixDiagonals.name) {out : (Int64 × zq_H)} (hF : f_X5_mixDiagonals h t x1 = some out) (hE : zq_End X cX5_mixDiagonals 0 0 (some (.long out.1)) out.2) : zq_W X 0 0 h 0 [(0, .ref t), (1, .long x1)] [] := by
  unfold f_X5_mixDiagonals at hF
  refine zq_lload_n (pc' := 1) C dX5_mixDiagonals_0 rfl rfl rfl ?_
  refine zq_lstore_n (lv' := [(3, .long x1), (0, .ref t), (1, .long x1)]) (pc' := 2) C dX5_mixDiagonals_1 rfl rfl (by decide) rfl rfl ?_
  refine zq_aload_n (pc' := 3) C dX5_mixDiagonals_2 rfl rfl rfl ?_
  replace hF := zq_bd hF; obtain ⟨v_1, e_2, hF⟩ := hF
  refine zq_getR (j := 1) (pc' := 6) C zq_K5 zq_in5w (Or.inl wd_210) (by decide) rfl dX5_mixDiagonals_3 rfl e_2 ?_
  replace hF := zq_bd hF; obtain ⟨v_3, e_4, hF⟩ := hF
  refine zq_getR (j := 0) (pc' := 9) C zq_K3 zq_in3w (Or.inr ⟨"FlipPolygons", by decide +kernel⟩) (by decide) rfl dX5_mixDiagonals_6 rfl e_4 ?_
  replace hF := zq_bd hF; obtain ⟨v_5, e_6, hF⟩ := hF
  refine zq_getR (j := 0) (pc' := 12) C zq_K0 zq_in0w (Or.inr ⟨"FlipPolygons", by decide +kernel⟩) (by decide) rfl dX5_mixDiagonals_9 rfl e_6 ?_
  refine zq_astore (lv' := [(5, .ref v_5), (3, .long x1), (0, .ref t), (1, .long x1)]) (pc' := 14) C dX5_mixDiagonals_12 rfl (by decide) rfl rfl ?_
  refine zq_iconst (pc' := 15) C 0 dX5_mixDiagonals_14 rfl (by decide) ?_
  refine zq_istore (lv' := [(6, .int 0), (5, .ref v_5), (3, .long x1), (0, .ref t), (1, .long x1)]) (pc' := 17) C dX5_mixDiagonals_15 rfl (by decide) rfl rfl ?_
  refine zq_sub [3, 2, 1, 0] rfl ?_
  replace hF := zq_bd hF; obtain ⟨r_8, e_9, hF⟩ := hF
  refine zq_lpW (fun s_7 => zq_W X 0 0 s_7.2.2 17 [(0, .ref t), (3, .long s_7.1), (5, .ref v_5), (6, .int s_7.2.1)] []) (fun y_10 => zq_W X 0 0 y_10.2 105 [(3, .long y_10.1)] []) e_9 (fun s_7 q_14 hF hrec_12 hex_13 => ?_) ?_
  · skip
    refine zq_iload (pc' := 19) C dX5_mixDiagonals_17 rfl rfl ?_
    refine zq_aload (pc' := 21) C dX5_mixDiagonals_19 rfl rfl ?_
    replace hF := zq_bd hF; obtain ⟨v_15, e_16, hF⟩ := hF
    refine zq_getI (j := 1) (pc' := 24) C zq_K1 zq_in1w (Or.inr ⟨"FlipPolygons", by decide +kernel⟩) (by decide) rfl dX5_mixDiagonals_21 rfl e_16 ?_
    refine zq_icmp_ge (pc' := 27) C 105 dX5_mixDiagonals_24 (by decide) rfl (fun c_17 => ?_) (fun c_17 => ?_)
    · have hF := (zq_ifp hF c_17)
      skip
      cases hF
      exact zq_sub [1] rfl (hex_13 _ rfl)
    · have hF := (zq_ifn hF c_17)
      refine zq_ldc2l (pc' := 30) C 31 dX5_mixDiagonals_27 rfl wd_425 ?_
      refine zq_lload_n (pc' := 31) C dX5_mixDiagonals_30 rfl rfl rfl ?_
      refine zq_lmul (pc' := 32) C dX5_mixDiagonals_31 rfl ?_
      refine zq_aload (pc' := 34) C dX5_mixDiagonals_32 rfl rfl ?_
      refine zq_aload_n (pc' := 35) C dX5_mixDiagonals_34 rfl rfl rfl ?_
      replace hF := zq_bd hF; obtain ⟨v_18, e_19, hF⟩ := hF
      refine zq_getR (j := 1) (pc' := 38) C zq_K5 zq_in5w (Or.inl wd_210) (by decide) rfl dX5_mixDiagonals_35 rfl e_19 ?_
      replace hF := zq_bd hF; obtain ⟨v_20, e_21, hF⟩ := hF
      refine zq_getI (j := 1) (pc' := 41) C zq_K3 zq_in3w (Or.inr ⟨"FlipPolygons", by decide +kernel⟩) (by decide) rfl dX5_mixDiagonals_38 rfl e_21 ?_
      refine zq_iload (pc' := 43) C dX5_mixDiagonals_41 rfl rfl ?_
      replace hF := zq_ck_e hF; obtain ⟨e_24, hF⟩ := hF
      replace hF := zq_bd hF; obtain ⟨v_22, e_23, hF⟩ := hF
      refine zq_cV (pc' := 46) C (c_X1_otherOf e_23) yv_X1_otherOf wd_254 zq_K1 e_24 dX5_mixDiagonals_43 rfl rfl rfl ⟨Nat.le_of_ble_eq_true rfl, Nat.le_of_ble_eq_true rfl⟩ (Nat.le_of_ble_eq_true rfl) ⟨rfl, rfl⟩ ⟨Nat.le_of_ble_eq_true rfl, Nat.le_of_ble_eq_true rfl⟩ rfl ?_
      refine zq_i2l (pc' := 47) C dX5_mixDiagonals_46 rfl ?_
      refine zq_ladd (pc' := 48) C dX5_mixDiagonals_47 rfl ?_
      replace hF := zq_let_e hF; obtain ⟨v_25, e_26, hF⟩ := hF
      refine zq_lstore_n (lv' := [(3, .long v_25), (0, .ref t), (5, .ref v_5), (6, .int s_7.2.1)]) (pc' := 49) C dX5_mixDiagonals_48 rfl rfl (by decide) e_26 rfl ?_
      refine zq_ldc2l (pc' := 52) C 31 dX5_mixDiagonals_49 rfl wd_425 ?_
      refine zq_lload_n (pc' := 53) C dX5_mixDiagonals_52 rfl rfl rfl ?_
      refine zq_lmul (pc' := 54) C dX5_mixDiagonals_53 rfl ?_
      refine zq_aload (pc' := 56) C dX5_mixDiagonals_54 rfl rfl ?_
      refine zq_aload_n (pc' := 57) C dX5_mixDiagonals_56 rfl rfl rfl ?_
      replace hF := zq_bd hF; obtain ⟨v_27, e_28, hF⟩ := hF
      refine zq_getR (j := 1) (pc' := 60) C zq_K5 zq_in5w (Or.inl wd_210) (by decide) rfl dX5_mixDiagonals_57 rfl e_28 ?_
      replace hF := zq_bd hF; obtain ⟨v_29, e_30, hF⟩ := hF
      refine zq_getI (j := 2) (pc' := 63) C zq_K3 zq_in3w (Or.inr ⟨"FlipPolygons", by decide +kernel⟩) (by decide) rfl dX5_mixDiagonals_60 rfl e_30 ?_
      refine zq_iload (pc' := 65) C dX5_mixDiagonals_63 rfl rfl ?_
      replace hF := zq_ck_e hF; obtain ⟨e_33, hF⟩ := hF
      replace hF := zq_bd hF; obtain ⟨v_31, e_32, hF⟩ := hF
      refine zq_cV (pc' := 68) C (c_X1_otherOf e_32) yv_X1_otherOf wd_254 zq_K1 e_33 dX5_mixDiagonals_65 rfl rfl rfl ⟨Nat.le_of_ble_eq_true rfl, Nat.le_of_ble_eq_true rfl⟩ (Nat.le_of_ble_eq_true rfl) ⟨rfl, rfl⟩ ⟨Nat.le_of_ble_eq_true rfl, Nat.le_of_ble_eq_true rfl⟩ rfl ?_
      refine zq_i2l (pc' := 69) C dX5_mixDiagonals_68 rfl ?_
      refine zq_ladd (pc' := 70) C dX5_mixDiagonals_69 rfl ?_
      replace hF := zq_let_e hF; obtain ⟨v_34, e_35, hF⟩ := hF
      refine zq_lstore_n (lv' := [(3, .long v_34), (0, .ref t), (5, .ref v_5), (6, .int s_7.2.1)]) (pc' := 71) C dX5_mixDiagonals_70 rfl rfl (by decide) e_35 rfl ?_
      refine zq_ldc2l (pc' := 74) C 31 dX5_mixDiagonals_71 rfl wd_425 ?_
      refine zq_lload_n (pc' := 75) C dX5_mixDiagonals_74 rfl rfl rfl ?_
      refine zq_lmul (pc' := 76) C dX5_mixDiagonals_75 rfl ?_
      refine zq_aload_n (pc' := 77) C dX5_mixDiagonals_76 rfl rfl rfl ?_
      refine zq_iload (pc' := 79) C dX5_mixDiagonals_77 rfl rfl ?_
      replace hF := zq_ck_e hF; obtain ⟨e_38, hF⟩ := hF
      replace hF := zq_bd hF; obtain ⟨v_36, e_37, hF⟩ := hF
      refine zq_cV (pc' := 82) C (c_X5_hindrance e_37) yv_X5_hindrance wd_368 zq_K5 e_38 dX5_mixDiagonals_79 rfl rfl rfl ⟨Nat.le_of_ble_eq_true rfl, Nat.le_of_ble_eq_true rfl⟩ (Nat.le_of_ble_eq_true rfl) ⟨rfl, rfl⟩ ⟨Nat.le_of_ble_eq_true rfl, Nat.le_of_ble_eq_true rfl⟩ rfl ?_
      refine zq_i2l (pc' := 83) C dX5_mixDiagonals_82 rfl ?_
      refine zq_ladd (pc' := 84) C dX5_mixDiagonals_83 rfl ?_
      replace hF := zq_let_e hF; obtain ⟨v_39, e_40, hF⟩ := hF
      refine zq_lstore_n (lv' := [(3, .long v_39), (0, .ref t), (5, .ref v_5), (6, .int s_7.2.1)]) (pc' := 85) C dX5_mixDiagonals_84 rfl rfl (by decide) e_40 rfl ?_
      refine zq_ldc2l (pc' := 88) C 31 dX5_mixDiagonals_85 rfl wd_425 ?_
      refine zq_lload_n (pc' := 89) C dX5_mixDiagonals_88 rfl rfl rfl ?_
      refine zq_lmul (pc' := 90) C dX5_mixDiagonals_89 rfl ?_
      refine zq_aload_n (pc' := 91) C dX5_mixDiagonals_90 rfl rfl rfl ?_
      refine zq_iload (pc' := 93) C dX5_mixDiagonals_91 rfl rfl ?_
      replace hF := zq_ck_e hF; obtain ⟨e_43, hF⟩ := hF
      replace hF := zq_bd hF; obtain ⟨v_41, e_42, hF⟩ := hF
      refine zq_cV (pc' := 96) C (c_X5_freeDistanceBehind e_42) yv_X5_freeDistanceBehind wd_407 zq_K5 e_43 dX5_mixDiagonals_93 rfl rfl rfl ⟨Nat.le_of_ble_eq_true rfl, Nat.le_of_ble_eq_true rfl⟩ (Nat.le_of_ble_eq_true rfl) ⟨rfl, rfl⟩ ⟨Nat.le_of_ble_eq_true rfl, Nat.le_of_ble_eq_true rfl⟩ rfl ?_
      refine zq_i2l (pc' := 97) C dX5_mixDiagonals_96 rfl ?_
      refine zq_ladd (pc' := 98) C dX5_mixDiagonals_97 rfl ?_
      replace hF := zq_let_e hF; obtain ⟨v_44, e_45, hF⟩ := hF
      refine zq_lstore_n (lv' := [(3, .long v_44), (0, .ref t), (5, .ref v_5), (6, .int s_7.2.1)]) (pc' := 99) C dX5_mixDiagonals_98 rfl rfl (by decide) e_45 rfl ?_
      replace hF := zq_let_e hF; obtain ⟨v_46, e_47, hF⟩ := hF
      refine zq_iinc (lv' := [(6, .int v_46), (3, .long v_44), (0, .ref t), (5, .ref v_5)]) (pc' := 102) C dX5_mixDiagonals_99 rfl (by decide) 3 rfl e_47 rfl ?_
      refine zq_goto C 17 dX5_mixDiagonals_102 (by decide) ?_
      cases hF
      exact zq_sub [2, 1, 3, 0] rfl (hrec_12 _ rfl)
  · skip
    obtain ⟨y_10, rfl⟩ : ∃ z9, z9 = r_8 := ⟨_, rfl⟩
    show zq_W X 0 0 y_10.2 105 [(3, .long y_10.1)] []
    refine zq_lload_n (pc' := 106) C dX5_mixDiagonals_105 rfl rfl rfl ?_
    have hF := Option.some.inj hF
    subst hF
    exact hE _ _ _ _ (Nat.le_of_ble_eq_true rfl) (Nat.le_of_ble_eq_true rfl) dX5_mixDiagonals_106
theorem c_X5_mixDiagonals {h : zq_H} {t : Nat} {x1 : Int64} {out : (Int64 × zq_H)} (hF : f_X5_mixDiagonals h t x1 = some out) : zq_M none yX5_mixDiagonals (Cond.code yX5_mixDiagonals cX5_mixDiagonals 7 (some .long) :: zq_all) rm_X5_mixDiagonals [.ref t, .long x1] h (some (.long out.1)) out.2 := zq_met2 (own := RX5) (by decide +kernel) rfl (Nat.le_of_ble_eq_true rfl) rfl rfl (fun X C T hn hE => v_X5_mixDiagonals C T hn hF hE)
theorem yv_X5_mixDiagonals : zq_calV yX5_mixDiagonals RX5 cX5_mixDiagonals 7 (some .long) 1 := ⟨by decide +kernel, wd_427, wd_437, wd_438, wd_95⟩
def f_X5_bitsOf (h : zq_H) (x0 : UInt64) : Option Int64 := (if 0 < (Op.cmpValue (FP.dcmp x0 FP.dconst0) .l) then ((zq_lp (σ := UInt64 × Int64 × Int32) (ρ := UInt64 × Int64) (fun s_2 => (if 1022 ≤ s_2.2.2 then some (.inr (s_2.1, s_2.2.1)) else (if 0 ≤ (Op.cmpValue (FP.dcmp s_2.1 FP.dconst1) .g) then some (.inr (s_2.1, s_2.2.1)) else (zq_nn (FP.dmul s_2.1 4611686018427387904) fun _ => (zq_let (FP.dmul s_2.1 4611686018427387904) fun v_13 => (zq_let (s_2.2.1 - 1) fun v_15 => (zq_let (s_2.2.2 + 1) fun v_17 => some (.inl (v_13, v_15, v_17))))))))) zq_N (x0, 1023, 0)).bind (fun y_5 : UInt64 × Int64 => (zq_nn (FP.dsub y_5.1 FP.dconst1) fun _ => (zq_nn (FP.dmul (FP.dsub y_5.1 FP.dconst1) 4841369599423283200) fun _ => some ((y_5.2 <<< ((52 : Int32).toInt64 &&& 63)) + (FP.d2l (FP.dmul (FP.dsub y_5.1 FP.dconst1) 4841369599423283200))))))) else some (0))
abbrev rm_X5_bitsOf : Room := { frames := 0, cells := 0, slots := 0, locals := 0 }
theorem dX5_bitsOf_0 : decode cX5_bitsOf 0 = .ok (.dload_n 0, 1) := by decide +kernel
theorem dX5_bitsOf_1 : decode cX5_bitsOf 1 = .ok (.dconst 0, 1) := by decide +kernel
theorem dX5_bitsOf_2 : decode cX5_bitsOf 2 = .ok (.dcmp .l, 1) := by decide +kernel
theorem dX5_bitsOf_3 : decode cX5_bitsOf 3 = .ok (.ifCond .gt 5, 3) := by decide +kernel
theorem dX5_bitsOf_6 : decode cX5_bitsOf 6 = .ok (.lconst 0, 1) := by decide +kernel
theorem dX5_bitsOf_7 : decode cX5_bitsOf 7 = .ok (.lreturn, 1) := by decide +kernel
theorem dX5_bitsOf_8 : decode cX5_bitsOf 8 = .ok (.dload_n 0, 1) := by decide +kernel
theorem dX5_bitsOf_9 : decode cX5_bitsOf 9 = .ok (.dstore_n 2, 1) := by decide +kernel
theorem dX5_bitsOf_10 : decode cX5_bitsOf 10 = .ok (.ldc2_w 364, 3) := by decide +kernel
theorem dX5_bitsOf_13 : decode cX5_bitsOf 13 = .ok (.lstore 4, 2) := by decide +kernel
theorem dX5_bitsOf_15 : decode cX5_bitsOf 15 = .ok (.iconst 0, 1) := by decide +kernel
theorem dX5_bitsOf_16 : decode cX5_bitsOf 16 = .ok (.istore 6, 2) := by decide +kernel
theorem dX5_bitsOf_18 : decode cX5_bitsOf 18 = .ok (.iload 6, 2) := by decide +kernel
theorem dX5_bitsOf_20 : decode cX5_bitsOf 20 = .ok (.sipush 1022, 3) := by decide +kernel
theorem dX5_bitsOf_23 : decode cX5_bitsOf 23 = .ok (.if_icmp .ge 27, 3) := by decide +kernel
theorem dX5_bitsOf_26 : decode cX5_bitsOf 26 = .ok (.dload_n 2, 1) := by decide +kernel
theorem dX5_bitsOf_27 : decode cX5_bitsOf 27 = .ok (.dconst 1, 1) := by decide +kernel
theorem dX5_bitsOf_28 : decode cX5_bitsOf 28 = .ok (.dcmp .g, 1) := by decide +kernel
theorem dX5_bitsOf_29 : decode cX5_bitsOf 29 = .ok (.ifCond .ge 21, 3) := by decide +kernel
theorem dX5_bitsOf_32 : decode cX5_bitsOf 32 = .ok (.dload_n 2, 1) := by decide +kernel
theorem dX5_bitsOf_33 : decode cX5_bitsOf 33 = .ok (.ldc2_w 366, 3) := by decide +kernel
theorem dX5_bitsOf_36 : decode cX5_bitsOf 36 = .ok (.dmul, 1) := by decide +kernel
theorem dX5_bitsOf_37 : decode cX5_bitsOf 37 = .ok (.dstore_n 2, 1) := by decide +kernel
theorem dX5_bitsOf_38 : decode cX5_bitsOf 38 = .ok (.lload 4, 2) := by decide +kernel
theorem dX5_bitsOf_40 : decode cX5_bitsOf 40 = .ok (.lconst 1, 1) := by decide +kernel
theorem dX5_bitsOf_41 : decode cX5_bitsOf 41 = .ok (.lsub, 1) := by decide +kernel
theorem dX5_bitsOf_42 : decode cX5_bitsOf 42 = .ok (.lstore 4, 2) := by decide +kernel
theorem dX5_bitsOf_44 : decode cX5_bitsOf 44 = .ok (.iinc 6 1, 3) := by decide +kernel
theorem dX5_bitsOf_47 : decode cX5_bitsOf 47 = .ok (.goto (-29), 3) := by decide +kernel
theorem dX5_bitsOf_50 : decode cX5_bitsOf 50 = .ok (.lload 4, 2) := by decide +kernel
theorem dX5_bitsOf_52 : decode cX5_bitsOf 52 = .ok (.bipush 52, 2) := by decide +kernel
theorem dX5_bitsOf_54 : decode cX5_bitsOf 54 = .ok (.lshl, 1) := by decide +kernel
theorem dX5_bitsOf_55 : decode cX5_bitsOf 55 = .ok (.dload_n 2, 1) := by decide +kernel
theorem dX5_bitsOf_56 : decode cX5_bitsOf 56 = .ok (.dconst 1, 1) := by decide +kernel
theorem dX5_bitsOf_57 : decode cX5_bitsOf 57 = .ok (.dsub, 1) := by decide +kernel
theorem dX5_bitsOf_58 : decode cX5_bitsOf 58 = .ok (.ldc2_w 368, 3) := by decide +kernel
theorem dX5_bitsOf_61 : decode cX5_bitsOf 61 = .ok (.dmul, 1) := by decide +kernel
theorem dX5_bitsOf_62 : decode cX5_bitsOf 62 = .ok (.d2l, 1) := by decide +kernel
theorem dX5_bitsOf_63 : decode cX5_bitsOf 63 = .ok (.ladd, 1) := by decide +kernel
theorem dX5_bitsOf_64 : decode cX5_bitsOf 64 = .ok (.lreturn, 1) := by decide +kernel
set_option maxRecDepth 100000 in
set_option maxHeartbeats 4000000 in
theorem v_X5_bitsOf {X : zq_X} (C : zq_C X RX5 cX5_bitsOf 7 zq_all rm_X5_bitsOf) {h : zq_H} {x0 : UInt64} (T : zq_T X none) (hn : X.2.2.2.2.2.2.2.2.1.name = yX5_bitsOf.name) {out : Int64} (hF : f_X5_bitsOf h x0 = some out) (hE : zq_End X cX5_bitsOf 0 0 (some (.long out)) h) : zq_W X 0 0 h 0 [(0, .double x0)] [] := by
  unfold f_X5_bitsOf at hF
  refine zq_dload_n (pc' := 1) C dX5_bitsOf_0 rfl rfl rfl ?_
  refine zq_dconst0 (pc' := 2) C dX5_bitsOf_1 rfl ?_
  refine zq_dcmp (pc' := 3) C dX5_bitsOf_2 rfl ?_
  refine zq_if_gt (pc' := 6) C 8 dX5_bitsOf_3 (by decide) rfl (fun c_1 => ?_) (fun c_1 => ?_)
  · have hF := (zq_ifp hF c_1)
    skip
    refine zq_dload_n (pc' := 9) C dX5_bitsOf_8 rfl rfl rfl ?_
    refine zq_dstore_n (lv' := [(2, .double x0), (0, .double x0)]) (pc' := 10) C dX5_bitsOf_9 rfl rfl (by decide) rfl rfl ?_
    refine zq_ldc2l (pc' := 13) C 1023 dX5_bitsOf_10 rfl wd_429 ?_
    refine zq_lstore (lv' := [(4, .long 1023), (2, .double x0), (0, .double x0)]) (pc' := 15) C dX5_bitsOf_13 rfl (by decide) rfl rfl ?_
    refine zq_iconst (pc' := 16) C 0 dX5_bitsOf_15 rfl (by decide) ?_
    refine zq_istore (lv' := [(6, .int 0), (4, .long 1023), (2, .double x0), (0, .double x0)]) (pc' := 18) C dX5_bitsOf_16 rfl (by decide) rfl rfl ?_
    refine zq_sub [2, 1, 0] rfl ?_
    replace hF := zq_bd hF; obtain ⟨r_3, e_4, hF⟩ := hF
    refine zq_lpW (fun s_2 => zq_W X 0 0 h 18 [(2, .double s_2.1), (4, .long s_2.2.1), (6, .int s_2.2.2)] []) (fun y_5 => zq_W X 0 0 h 50 [(2, .double y_5.1), (4, .long y_5.2)] []) e_4 (fun s_2 q_9 hF hrec_7 hex_8 => ?_) ?_
    · skip
      refine zq_iload (pc' := 20) C dX5_bitsOf_18 rfl rfl ?_
      refine zq_sipush (pc' := 23) C 1022 dX5_bitsOf_20 rfl (by decide) ?_
      refine zq_icmp_ge (pc' := 26) C 50 dX5_bitsOf_23 (by decide) rfl (fun c_10 => ?_) (fun c_10 => ?_)
      · have hF := (zq_ifp hF c_10)
        skip
        cases hF
        exact zq_sub [0, 1] rfl (hex_8 _ rfl)
      · have hF := (zq_ifn hF c_10)
        refine zq_dload_n (pc' := 27) C dX5_bitsOf_26 rfl rfl rfl ?_
        refine zq_dconst1 (pc' := 28) C dX5_bitsOf_27 rfl ?_
        refine zq_dcmp (pc' := 29) C dX5_bitsOf_28 rfl ?_
        refine zq_if_ge (pc' := 32) C 50 dX5_bitsOf_29 (by decide) rfl (fun c_11 => ?_) (fun c_11 => ?_)
        · have hF := (zq_ifp hF c_11)
          skip
          cases hF
          exact zq_sub [0, 1] rfl (hex_8 _ rfl)
        · have hF := (zq_ifn hF c_11)
          refine zq_dload_n (pc' := 33) C dX5_bitsOf_32 rfl rfl rfl ?_
          refine zq_ldc2d (pc' := 36) C 4611686018427387904 dX5_bitsOf_33 rfl wd_430 ?_
          replace hF := zq_nn_e hF; obtain ⟨e_12, hF⟩ := hF
          refine zq_dmul (pc' := 37) C dX5_bitsOf_36 rfl e_12 ?_
          replace hF := zq_let_e hF; obtain ⟨v_13, e_14, hF⟩ := hF
          refine zq_dstore_n (lv' := [(2, .double v_13), (4, .long s_2.2.1), (6, .int s_2.2.2)]) (pc' := 38) C dX5_bitsOf_37 rfl rfl (by decide) e_14 rfl ?_
          refine zq_lload (pc' := 40) C dX5_bitsOf_38 rfl rfl ?_
          refine zq_lconst (pc' := 41) C 1 dX5_bitsOf_40 rfl (by decide) ?_
          refine zq_lsub (pc' := 42) C dX5_bitsOf_41 rfl ?_
          replace hF := zq_let_e hF; obtain ⟨v_15, e_16, hF⟩ := hF
          refine zq_lstore (lv' := [(4, .long v_15), (2, .double v_13), (6, .int s_2.2.2)]) (pc' := 44) C dX5_bitsOf_42 rfl (by decide) e_16 rfl ?_
          replace hF := zq_let_e hF; obtain ⟨v_17, e_18, hF⟩ := hF
          refine zq_iinc (lv' := [(6, .int v_17), (4, .long v_15), (2, .double v_13)]) (pc' := 47) C dX5_bitsOf_44 rfl (by decide) 2 rfl e_18 rfl ?_
          refine zq_goto C 18 dX5_bitsOf_47 (by decide) ?_
          cases hF
          exact zq_sub [2, 1, 0] rfl (hrec_7 _ rfl)
    · skip
      obtain ⟨y_5, rfl⟩ : ∃ z9, z9 = r_3 := ⟨_, rfl⟩
      show zq_W X 0 0 h 50 [(2, .double y_5.1), (4, .long y_5.2)] []
      refine zq_lload (pc' := 52) C dX5_bitsOf_50 rfl rfl ?_
      refine zq_bipush (pc' := 54) C 52 dX5_bitsOf_52 rfl (by decide) ?_
      refine zq_lshl (pc' := 55) C dX5_bitsOf_54 rfl ?_
      refine zq_dload_n (pc' := 56) C dX5_bitsOf_55 rfl rfl rfl ?_
      refine zq_dconst1 (pc' := 57) C dX5_bitsOf_56 rfl ?_
      replace hF := zq_nn_e hF; obtain ⟨e_19, hF⟩ := hF
      refine zq_dsub (pc' := 58) C dX5_bitsOf_57 rfl e_19 ?_
      refine zq_ldc2d (pc' := 61) C 4841369599423283200 dX5_bitsOf_58 rfl wd_431 ?_
      replace hF := zq_nn_e hF; obtain ⟨e_20, hF⟩ := hF
      refine zq_dmul (pc' := 62) C dX5_bitsOf_61 rfl e_20 ?_
      refine zq_d2l (pc' := 63) C dX5_bitsOf_62 rfl ?_
      refine zq_ladd (pc' := 64) C dX5_bitsOf_63 rfl ?_
      have hF := Option.some.inj hF
      subst hF
      exact hE _ _ _ _ (Nat.le_of_ble_eq_true rfl) (Nat.le_of_ble_eq_true rfl) dX5_bitsOf_64
  · have hF := (zq_ifn hF c_1)
    refine zq_lconst (pc' := 7) C 0 dX5_bitsOf_6 rfl (by decide) ?_
    have hF := Option.some.inj hF
    subst hF
    exact hE _ _ _ _ (Nat.le_of_ble_eq_true rfl) (Nat.le_of_ble_eq_true rfl) dX5_bitsOf_7
theorem c_X5_bitsOf {h : zq_H} {x0 : UInt64} {out : Int64} (hF : f_X5_bitsOf h x0 = some out) : zq_M none yX5_bitsOf (Cond.code yX5_bitsOf cX5_bitsOf 7 (some .long) :: zq_all) rm_X5_bitsOf [.double x0] h (some (.long out)) h := zq_met2 (own := RX5) (by decide +kernel) rfl (Nat.le_of_ble_eq_true rfl) rfl rfl (fun X C T hn hE => v_X5_bitsOf C T hn hF hE)
theorem ys_X5_bitsOf : zq_calS yX5_bitsOf cX5_bitsOf 7 (some .long) 1 := ⟨by decide +kernel, wd_428, wd_440, wd_95⟩
def f_X5_digest (h : zq_H) (t : Nat) : Option (Int64 × zq_H) := ((zq_lp (σ := Int64 × Int32) (ρ := Int64) (fun s_1 => (if 10 ≤ s_1.2 then some (.inr s_1.1) else (zq_ck h t 5 fun _ => (Option.bind (f_X5_countNumber h t s_1.2) fun v_10 => (zq_let ((31 * s_1.1) + (v_10 : Int32).toInt64) fun v_13 => (zq_let (s_1.2 + 1) fun v_15 => some (.inl (v_13, v_15)))))))) zq_N (2477, 0)).bind (fun y_4 : Int64 => (zq_ck h t 5 fun _ => (Option.bind (f_X5_mixTriangulation h t y_4 0) fun v_17 => (zq_ck v_17.2 t 5 fun _ => (Option.bind (f_X5_mixTriangulation v_17.2 t v_17.1 1) fun v_20 => ((zq_lp (σ := Int64 × Int32 × zq_H) (ρ := Int64 × zq_H) (fun s_23 => (if 6 ≤ s_23.2.1 then some (.inr (s_23.1, s_23.2.2)) else (zq_ck s_23.2.2 t 5 fun _ => (Option.bind (f_X5_distanceNumber s_23.2.2 t s_23.2.1) fun v_32 => (zq_let ((31 * s_23.1) + (v_32.1 : Int32).toInt64) fun v_35 => (zq_let (s_23.2.1 + 1) fun v_37 => some (.inl (v_35, v_37, v_32.2)))))))) zq_N (v_20.1, 0, v_20.2)).bind (fun y_26 : Int64 × zq_H => (zq_ck y_26.2 t 5 fun _ => (Option.bind (f_X5_mixDiagonals y_26.2 t y_26.1) fun v_39 => (zq_ck v_39.2 t 5 fun _ => (Option.bind (f_X5_shareOfWay v_39.2 t) fun v_42 => (Option.bind (f_X5_bitsOf v_42.2 v_42.1) fun v_45 => (zq_let ((31 * v_39.1) + v_45) fun v_47 => (Option.bind (zq_gr v_42.2 t 5 5) fun v_49 => (zq_ck v_42.2 v_49 4 fun _ => (Option.bind (f_X4_mixInto v_42.2 v_49 v_47) fun v_51 => some ((v_51, v_42.2)))))))))))))))))))
abbrev rm_X5_digest : Room := { frames := 7, cells := 0, slots := 0, locals := 162 }
theorem dX5_digest_0 : decode cX5_digest 0 = .ok (.ldc2_w 256, 3) := by decide +kernel
theorem dX5_digest_3 : decode cX5_digest 3 = .ok (.lstore_n 1, 1) := by decide +kernel
theorem dX5_digest_4 : decode cX5_digest 4 = .ok (.iconst 0, 1) := by decide +kernel
theorem dX5_digest_5 : decode cX5_digest 5 = .ok (.istore_n 3, 1) := by decide +kernel
theorem dX5_digest_6 : decode cX5_digest 6 = .ok (.iload_n 3, 1) := by decide +kernel
theorem dX5_digest_7 : decode cX5_digest 7 = .ok (.bipush 10, 2) := by decide +kernel
theorem dX5_digest_9 : decode cX5_digest 9 = .ok (.if_icmp .ge 22, 3) := by decide +kernel
theorem dX5_digest_12 : decode cX5_digest 12 = .ok (.ldc2_w 258, 3) := by decide +kernel
theorem dX5_digest_15 : decode cX5_digest 15 = .ok (.lload_n 1, 1) := by decide +kernel
theorem dX5_digest_16 : decode cX5_digest 16 = .ok (.lmul, 1) := by decide +kernel
theorem dX5_digest_17 : decode cX5_digest 17 = .ok (.aload_n 0, 1) := by decide +kernel
theorem dX5_digest_18 : decode cX5_digest 18 = .ok (.iload_n 3, 1) := by decide +kernel
theorem dX5_digest_19 : decode cX5_digest 19 = .ok (.invokevirtual 249, 3) := by decide +kernel
theorem dX5_digest_22 : decode cX5_digest 22 = .ok (.i2l, 1) := by decide +kernel
theorem dX5_digest_23 : decode cX5_digest 23 = .ok (.ladd, 1) := by decide +kernel
theorem dX5_digest_24 : decode cX5_digest 24 = .ok (.lstore_n 1, 1) := by decide +kernel
theorem dX5_digest_25 : decode cX5_digest 25 = .ok (.iinc 3 1, 3) := by decide +kernel
theorem dX5_digest_28 : decode cX5_digest 28 = .ok (.goto (-22), 3) := by decide +kernel
theorem dX5_digest_31 : decode cX5_digest 31 = .ok (.aload_n 0, 1) := by decide +kernel
theorem dX5_digest_32 : decode cX5_digest 32 = .ok (.lload_n 1, 1) := by decide +kernel
theorem dX5_digest_33 : decode cX5_digest 33 = .ok (.iconst 0, 1) := by decide +kernel
theorem dX5_digest_34 : decode cX5_digest 34 = .ok (.invokevirtual 260, 3) := by decide +kernel
theorem dX5_digest_37 : decode cX5_digest 37 = .ok (.lstore_n 1, 1) := by decide +kernel
theorem dX5_digest_38 : decode cX5_digest 38 = .ok (.aload_n 0, 1) := by decide +kernel
theorem dX5_digest_39 : decode cX5_digest 39 = .ok (.lload_n 1, 1) := by decide +kernel
theorem dX5_digest_40 : decode cX5_digest 40 = .ok (.iconst 1, 1) := by decide +kernel
theorem dX5_digest_41 : decode cX5_digest 41 = .ok (.invokevirtual 260, 3) := by decide +kernel
theorem dX5_digest_44 : decode cX5_digest 44 = .ok (.lstore_n 1, 1) := by decide +kernel
theorem dX5_digest_45 : decode cX5_digest 45 = .ok (.iconst 0, 1) := by decide +kernel
theorem dX5_digest_46 : decode cX5_digest 46 = .ok (.istore_n 3, 1) := by decide +kernel
theorem dX5_digest_47 : decode cX5_digest 47 = .ok (.iload_n 3, 1) := by decide +kernel
theorem dX5_digest_48 : decode cX5_digest 48 = .ok (.bipush 6, 2) := by decide +kernel
theorem dX5_digest_50 : decode cX5_digest 50 = .ok (.if_icmp .ge 22, 3) := by decide +kernel
theorem dX5_digest_53 : decode cX5_digest 53 = .ok (.ldc2_w 258, 3) := by decide +kernel
theorem dX5_digest_56 : decode cX5_digest 56 = .ok (.lload_n 1, 1) := by decide +kernel
theorem dX5_digest_57 : decode cX5_digest 57 = .ok (.lmul, 1) := by decide +kernel
theorem dX5_digest_58 : decode cX5_digest 58 = .ok (.aload_n 0, 1) := by decide +kernel
theorem dX5_digest_59 : decode cX5_digest 59 = .ok (.iload_n 3, 1) := by decide +kernel
theorem dX5_digest_60 : decode cX5_digest 60 = .ok (.invokevirtual 243, 3) := by decide +kernel
theorem dX5_digest_63 : decode cX5_digest 63 = .ok (.i2l, 1) := by decide +kernel
theorem dX5_digest_64 : decode cX5_digest 64 = .ok (.ladd, 1) := by decide +kernel
theorem dX5_digest_65 : decode cX5_digest 65 = .ok (.lstore_n 1, 1) := by decide +kernel
theorem dX5_digest_66 : decode cX5_digest 66 = .ok (.iinc 3 1, 3) := by decide +kernel
theorem dX5_digest_69 : decode cX5_digest 69 = .ok (.goto (-22), 3) := by decide +kernel
theorem dX5_digest_72 : decode cX5_digest 72 = .ok (.aload_n 0, 1) := by decide +kernel
theorem dX5_digest_73 : decode cX5_digest 73 = .ok (.lload_n 1, 1) := by decide +kernel
theorem dX5_digest_74 : decode cX5_digest 74 = .ok (.invokevirtual 264, 3) := by decide +kernel
theorem dX5_digest_77 : decode cX5_digest 77 = .ok (.lstore_n 1, 1) := by decide +kernel
theorem dX5_digest_78 : decode cX5_digest 78 = .ok (.ldc2_w 258, 3) := by decide +kernel
theorem dX5_digest_81 : decode cX5_digest 81 = .ok (.lload_n 1, 1) := by decide +kernel
theorem dX5_digest_82 : decode cX5_digest 82 = .ok (.lmul, 1) := by decide +kernel
theorem dX5_digest_83 : decode cX5_digest 83 = .ok (.aload_n 0, 1) := by decide +kernel
theorem dX5_digest_84 : decode cX5_digest 84 = .ok (.invokevirtual 252, 3) := by decide +kernel
theorem dX5_digest_87 : decode cX5_digest 87 = .ok (.invokestatic 268, 3) := by decide +kernel
theorem dX5_digest_90 : decode cX5_digest 90 = .ok (.ladd, 1) := by decide +kernel
theorem dX5_digest_91 : decode cX5_digest 91 = .ok (.lstore_n 1, 1) := by decide +kernel
theorem dX5_digest_92 : decode cX5_digest 92 = .ok (.aload_n 0, 1) := by decide +kernel
theorem dX5_digest_93 : decode cX5_digest 93 = .ok (.getfield 48, 3) := by decide +kernel
theorem dX5_digest_96 : decode cX5_digest 96 = .ok (.lload_n 1, 1) := by decide +kernel
theorem dX5_digest_97 : decode cX5_digest 97 = .ok (.invokevirtual 272, 3) := by decide +kernel
theorem dX5_digest_100 : decode cX5_digest 100 = .ok (.lreturn, 1) := by decide +kernel
set_option maxRecDepth 100000 in
set_option maxHeartbeats 4000000 in
theorem v_X5_digest {X : zq_X} (C : zq_C X RX5 cX5_digest 4 zq_all rm_X5_digest) {h : zq_H} {t : Nat} (T : zq_T X none) (hn : X.2.2.2.2.2.2.2.2.1.name = yX5_digest.name) {out : (Int64 × zq_H)} (hF : f_X5_digest h t = some out) (hE : zq_End X cX5_digest 0 0 (some (.long out.1)) out.2) : zq_W X 0 0 h 0 [(0, .ref t)] [] := by
  unfold f_X5_digest at hF
  refine zq_ldc2l (pc' := 3) C 2477 dX5_digest_0 rfl wd_432 ?_
  refine zq_lstore_n (lv' := [(1, .long 2477), (0, .ref t)]) (pc' := 4) C dX5_digest_3 rfl rfl (by decide) rfl rfl ?_
  refine zq_iconst (pc' := 5) C 0 dX5_digest_4 rfl (by decide) ?_
  refine zq_istore_n (lv' := [(3, .int 0), (1, .long 2477), (0, .ref t)]) (pc' := 6) C dX5_digest_5 rfl rfl (by decide) rfl rfl ?_
  refine zq_sub [2, 1, 0] rfl ?_
  replace hF := zq_bd hF; obtain ⟨r_2, e_3, hF⟩ := hF
  refine zq_lpW (fun s_1 => zq_W X 0 0 h 6 [(0, .ref t), (1, .long s_1.1), (3, .int s_1.2)] []) (fun y_4 => zq_W X 0 0 h 31 [(0, .ref t), (1, .long y_4)] []) e_3 (fun s_1 q_8 hF hrec_6 hex_7 => ?_) ?_
  · skip
    refine zq_iload_n (pc' := 7) C dX5_digest_6 rfl rfl rfl ?_
    refine zq_bipush (pc' := 9) C 10 dX5_digest_7 rfl (by decide) ?_
    refine zq_icmp_ge (pc' := 12) C 31 dX5_digest_9 (by decide) rfl (fun c_9 => ?_) (fun c_9 => ?_)
    · have hF := (zq_ifp hF c_9)
      skip
      cases hF
      exact zq_sub [0, 1] rfl (hex_7 _ rfl)
    · have hF := (zq_ifn hF c_9)
      refine zq_ldc2l (pc' := 15) C 31 dX5_digest_12 rfl wd_425 ?_
      refine zq_lload_n (pc' := 16) C dX5_digest_15 rfl rfl rfl ?_
      refine zq_lmul (pc' := 17) C dX5_digest_16 rfl ?_
      refine zq_aload_n (pc' := 18) C dX5_digest_17 rfl rfl rfl ?_
      refine zq_iload_n (pc' := 19) C dX5_digest_18 rfl rfl rfl ?_
      replace hF := zq_ck_e hF; obtain ⟨e_12, hF⟩ := hF
      replace hF := zq_bd hF; obtain ⟨v_10, e_11, hF⟩ := hF
      refine zq_cV (pc' := 22) C (c_X5_countNumber e_11) yv_X5_countNumber wd_417 zq_K5 e_12 dX5_digest_19 rfl rfl rfl ⟨Nat.le_of_ble_eq_true rfl, Nat.le_of_ble_eq_true rfl⟩ (Nat.le_of_ble_eq_true rfl) ⟨rfl, rfl⟩ ⟨Nat.le_of_ble_eq_true rfl, Nat.le_of_ble_eq_true rfl⟩ rfl ?_
      refine zq_i2l (pc' := 23) C dX5_digest_22 rfl ?_
      refine zq_ladd (pc' := 24) C dX5_digest_23 rfl ?_
      replace hF := zq_let_e hF; obtain ⟨v_13, e_14, hF⟩ := hF
      refine zq_lstore_n (lv' := [(1, .long v_13), (0, .ref t), (3, .int s_1.2)]) (pc' := 25) C dX5_digest_24 rfl rfl (by decide) e_14 rfl ?_
      replace hF := zq_let_e hF; obtain ⟨v_15, e_16, hF⟩ := hF
      refine zq_iinc (lv' := [(3, .int v_15), (1, .long v_13), (0, .ref t)]) (pc' := 28) C dX5_digest_25 rfl (by decide) 2 rfl e_16 rfl ?_
      refine zq_goto C 6 dX5_digest_28 (by decide) ?_
      cases hF
      exact zq_sub [2, 1, 0] rfl (hrec_6 _ rfl)
  · skip
    obtain ⟨y_4, rfl⟩ : ∃ z9, z9 = r_2 := ⟨_, rfl⟩
    show zq_W X 0 0 h 31 [(0, .ref t), (1, .long y_4)] []
    refine zq_aload_n (pc' := 32) C dX5_digest_31 rfl rfl rfl ?_
    refine zq_lload_n (pc' := 33) C dX5_digest_32 rfl rfl rfl ?_
    refine zq_iconst (pc' := 34) C 0 dX5_digest_33 rfl (by decide) ?_
    replace hF := zq_ck_e hF; obtain ⟨e_19, hF⟩ := hF
    replace hF := zq_bd hF; obtain ⟨v_17, e_18, hF⟩ := hF
    refine zq_cV (pc' := 37) C (c_X5_mixTriangulation e_18) yv_X5_mixTriangulation wd_433 zq_K5 e_19 dX5_digest_34 rfl rfl rfl ⟨Nat.le_of_ble_eq_true rfl, Nat.le_of_ble_eq_true rfl⟩ (Nat.le_of_ble_eq_true rfl) ⟨rfl, rfl⟩ ⟨Nat.le_of_ble_eq_true rfl, Nat.le_of_ble_eq_true rfl⟩ rfl ?_
    refine zq_lstore_n (lv' := [(1, .long v_17.1), (0, .ref t)]) (pc' := 38) C dX5_digest_37 rfl rfl (by decide) rfl rfl ?_
    refine zq_aload_n (pc' := 39) C dX5_digest_38 rfl rfl rfl ?_
    refine zq_lload_n (pc' := 40) C dX5_digest_39 rfl rfl rfl ?_
    refine zq_iconst (pc' := 41) C 1 dX5_digest_40 rfl (by decide) ?_
    replace hF := zq_ck_e hF; obtain ⟨e_22, hF⟩ := hF
    replace hF := zq_bd hF; obtain ⟨v_20, e_21, hF⟩ := hF
    refine zq_cV (pc' := 44) C (c_X5_mixTriangulation e_21) yv_X5_mixTriangulation wd_433 zq_K5 e_22 dX5_digest_41 rfl rfl rfl ⟨Nat.le_of_ble_eq_true rfl, Nat.le_of_ble_eq_true rfl⟩ (Nat.le_of_ble_eq_true rfl) ⟨rfl, rfl⟩ ⟨Nat.le_of_ble_eq_true rfl, Nat.le_of_ble_eq_true rfl⟩ rfl ?_
    refine zq_lstore_n (lv' := [(1, .long v_20.1), (0, .ref t)]) (pc' := 45) C dX5_digest_44 rfl rfl (by decide) rfl rfl ?_
    refine zq_iconst (pc' := 46) C 0 dX5_digest_45 rfl (by decide) ?_
    refine zq_istore_n (lv' := [(3, .int 0), (1, .long v_20.1), (0, .ref t)]) (pc' := 47) C dX5_digest_46 rfl rfl (by decide) rfl rfl ?_
    refine zq_sub [2, 1, 0] rfl ?_
    replace hF := zq_bd hF; obtain ⟨r_24, e_25, hF⟩ := hF
    refine zq_lpW (fun s_23 => zq_W X 0 0 s_23.2.2 47 [(0, .ref t), (1, .long s_23.1), (3, .int s_23.2.1)] []) (fun y_26 => zq_W X 0 0 y_26.2 72 [(0, .ref t), (1, .long y_26.1)] []) e_25 (fun s_23 q_30 hF hrec_28 hex_29 => ?_) ?_
    · skip
      refine zq_iload_n (pc' := 48) C dX5_digest_47 rfl rfl rfl ?_
      refine zq_bipush (pc' := 50) C 6 dX5_digest_48 rfl (by decide) ?_
      refine zq_icmp_ge (pc' := 53) C 72 dX5_digest_50 (by decide) rfl (fun c_31 => ?_) (fun c_31 => ?_)
      · have hF := (zq_ifp hF c_31)
        skip
        cases hF
        exact zq_sub [0, 1] rfl (hex_29 _ rfl)
      · have hF := (zq_ifn hF c_31)
        refine zq_ldc2l (pc' := 56) C 31 dX5_digest_53 rfl wd_425 ?_
        refine zq_lload_n (pc' := 57) C dX5_digest_56 rfl rfl rfl ?_
        refine zq_lmul (pc' := 58) C dX5_digest_57 rfl ?_
        refine zq_aload_n (pc' := 59) C dX5_digest_58 rfl rfl rfl ?_
        refine zq_iload_n (pc' := 60) C dX5_digest_59 rfl rfl rfl ?_
        replace hF := zq_ck_e hF; obtain ⟨e_34, hF⟩ := hF
        replace hF := zq_bd hF; obtain ⟨v_32, e_33, hF⟩ := hF
        refine zq_cV (pc' := 63) C (c_X5_distanceNumber e_33) yv_X5_distanceNumber wd_402 zq_K5 e_34 dX5_digest_60 rfl rfl rfl ⟨Nat.le_of_ble_eq_true rfl, Nat.le_of_ble_eq_true rfl⟩ (Nat.le_of_ble_eq_true rfl) ⟨rfl, rfl⟩ ⟨Nat.le_of_ble_eq_true rfl, Nat.le_of_ble_eq_true rfl⟩ rfl ?_
        refine zq_i2l (pc' := 64) C dX5_digest_63 rfl ?_
        refine zq_ladd (pc' := 65) C dX5_digest_64 rfl ?_
        replace hF := zq_let_e hF; obtain ⟨v_35, e_36, hF⟩ := hF
        refine zq_lstore_n (lv' := [(1, .long v_35), (0, .ref t), (3, .int s_23.2.1)]) (pc' := 66) C dX5_digest_65 rfl rfl (by decide) e_36 rfl ?_
        replace hF := zq_let_e hF; obtain ⟨v_37, e_38, hF⟩ := hF
        refine zq_iinc (lv' := [(3, .int v_37), (1, .long v_35), (0, .ref t)]) (pc' := 69) C dX5_digest_66 rfl (by decide) 2 rfl e_38 rfl ?_
        refine zq_goto C 47 dX5_digest_69 (by decide) ?_
        cases hF
        exact zq_sub [2, 1, 0] rfl (hrec_28 _ rfl)
    · skip
      obtain ⟨y_26, rfl⟩ : ∃ z9, z9 = r_24 := ⟨_, rfl⟩
      show zq_W X 0 0 y_26.2 72 [(0, .ref t), (1, .long y_26.1)] []
      refine zq_aload_n (pc' := 73) C dX5_digest_72 rfl rfl rfl ?_
      refine zq_lload_n (pc' := 74) C dX5_digest_73 rfl rfl rfl ?_
      replace hF := zq_ck_e hF; obtain ⟨e_41, hF⟩ := hF
      replace hF := zq_bd hF; obtain ⟨v_39, e_40, hF⟩ := hF
      refine zq_cV (pc' := 77) C (c_X5_mixDiagonals e_40) yv_X5_mixDiagonals wd_436 zq_K5 e_41 dX5_digest_74 rfl rfl rfl ⟨Nat.le_of_ble_eq_true rfl, Nat.le_of_ble_eq_true rfl⟩ (Nat.le_of_ble_eq_true rfl) ⟨rfl, rfl⟩ ⟨Nat.le_of_ble_eq_true rfl, Nat.le_of_ble_eq_true rfl⟩ rfl ?_
      refine zq_lstore_n (lv' := [(1, .long v_39.1), (0, .ref t)]) (pc' := 78) C dX5_digest_77 rfl rfl (by decide) rfl rfl ?_
      refine zq_ldc2l (pc' := 81) C 31 dX5_digest_78 rfl wd_425 ?_
      refine zq_lload_n (pc' := 82) C dX5_digest_81 rfl rfl rfl ?_
      refine zq_lmul (pc' := 83) C dX5_digest_82 rfl ?_
      refine zq_aload_n (pc' := 84) C dX5_digest_83 rfl rfl rfl ?_
      replace hF := zq_ck_e hF; obtain ⟨e_44, hF⟩ := hF
      replace hF := zq_bd hF; obtain ⟨v_42, e_43, hF⟩ := hF
      refine zq_cV (pc' := 87) C (c_X5_shareOfWay e_43) yv_X5_shareOfWay wd_421 zq_K5 e_44 dX5_digest_84 rfl rfl rfl ⟨Nat.le_of_ble_eq_true rfl, Nat.le_of_ble_eq_true rfl⟩ (Nat.le_of_ble_eq_true rfl) ⟨rfl, rfl⟩ ⟨Nat.le_of_ble_eq_true rfl, Nat.le_of_ble_eq_true rfl⟩ rfl ?_
      replace hF := zq_bd hF; obtain ⟨v_45, e_46, hF⟩ := hF
      refine zq_cS (pc' := 90) C (c_X5_bitsOf e_46) ys_X5_bitsOf wd_439 dX5_digest_87 rfl rfl rfl ⟨Nat.le_of_ble_eq_true rfl, Nat.le_of_ble_eq_true rfl⟩ (Nat.le_of_ble_eq_true rfl) ⟨rfl, rfl⟩ ⟨Nat.le_of_ble_eq_true rfl, Nat.le_of_ble_eq_true rfl⟩ rfl ?_
      refine zq_ladd (pc' := 91) C dX5_digest_90 rfl ?_
      replace hF := zq_let_e hF; obtain ⟨v_47, e_48, hF⟩ := hF
      refine zq_lstore_n (lv' := [(1, .long v_47), (0, .ref t)]) (pc' := 92) C dX5_digest_91 rfl rfl (by decide) e_48 rfl ?_
      refine zq_aload_n (pc' := 93) C dX5_digest_92 rfl rfl rfl ?_
      replace hF := zq_bd hF; obtain ⟨v_49, e_50, hF⟩ := hF
      refine zq_getR (j := 5) (pc' := 96) C zq_K5 zq_in5w (Or.inl wd_215) (by decide) rfl dX5_digest_93 rfl e_50 ?_
      refine zq_lload_n (pc' := 97) C dX5_digest_96 rfl rfl rfl ?_
      replace hF := zq_ck_e hF; obtain ⟨e_53, hF⟩ := hF
      replace hF := zq_bd hF; obtain ⟨v_51, e_52, hF⟩ := hF
      refine zq_cV (pc' := 100) C (c_X4_mixInto e_52) yv_X4_mixInto wd_441 zq_K4 e_53 dX5_digest_97 rfl rfl rfl ⟨Nat.le_of_ble_eq_true rfl, Nat.le_of_ble_eq_true rfl⟩ (Nat.le_of_ble_eq_true rfl) ⟨rfl, rfl⟩ ⟨Nat.le_of_ble_eq_true rfl, Nat.le_of_ble_eq_true rfl⟩ rfl ?_
      have hF := Option.some.inj hF
      subst hF
      exact hE _ _ _ _ (Nat.le_of_ble_eq_true rfl) (Nat.le_of_ble_eq_true rfl) dX5_digest_100
theorem c_X5_digest {h : zq_H} {t : Nat} {out : (Int64 × zq_H)} (hF : f_X5_digest h t = some out) : zq_M none yX5_digest (Cond.code yX5_digest cX5_digest 4 (some .long) :: zq_all) rm_X5_digest [.ref t] h (some (.long out.1)) out.2 := zq_met2 (own := RX5) (by decide +kernel) rfl (Nat.le_of_ble_eq_true rfl) rfl rfl (fun X C T hn hE => v_X5_digest C T hn hF hE)
theorem yv_X5_digest : zq_calV yX5_digest RX5 cX5_digest 4 (some .long) 0 := ⟨by decide +kernel, wd_444, wd_916, wd_917, wd_95⟩
