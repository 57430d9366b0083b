def f_X6_triangulation (h : zq_H) (t : Nat) (x1 : Int32) (x2 : Int32) : Option (Int32 × zq_H) := (Option.bind (f_X6_isWhich h x1) fun v_1 => (if v_1 = false then (Option.bind (zq_pi h t 6 7 1) fun h_20 => some ((0, h_20))) else (Option.bind (f_X6_within h x2 0 6) fun v_4 => (if v_4 = false then (Option.bind (zq_pi h t 6 7 2) fun h_7 => some ((0, h_7))) else (Option.bind (zq_pi h t 6 7 0) fun h_12 => (zq_ck h_12 t 6 fun _ => (Option.bind (f_X6_triangulationNow h_12 t x1 x2) fun v_17 => some ((v_17.1, v_17.2)))))))))
abbrev rm_X6_triangulation : Room := { frames := 5, cells := 0, slots := 0, locals := 123 }
theorem dX6_triangulation_0 : decode cX6_triangulation 0 = .ok (.aload_n 0, 1) := by decide +kernel
theorem dX6_triangulation_1 : decode cX6_triangulation 1 = .ok (.iload_n 1, 1) := by decide +kernel
theorem dX6_triangulation_2 : decode cX6_triangulation 2 = .ok (.invokestatic 144, 3) := by decide +kernel
theorem dX6_triangulation_5 : decode cX6_triangulation 5 = .ok (.ifCond .ne 7, 3) := by decide +kernel
theorem dX6_triangulation_8 : decode cX6_triangulation 8 = .ok (.iconst 1, 1) := by decide +kernel
theorem dX6_triangulation_9 : decode cX6_triangulation 9 = .ok (.goto 18, 3) := by decide +kernel
theorem dX6_triangulation_12 : decode cX6_triangulation 12 = .ok (.iload_n 2, 1) := by decide +kernel
theorem dX6_triangulation_13 : decode cX6_triangulation 13 = .ok (.iconst 0, 1) := by decide +kernel
theorem dX6_triangulation_14 : decode cX6_triangulation 14 = .ok (.bipush 6, 2) := by decide +kernel
theorem dX6_triangulation_16 : decode cX6_triangulation 16 = .ok (.invokestatic 66, 3) := by decide +kernel
theorem dX6_triangulation_19 : decode cX6_triangulation 19 = .ok (.ifCond .eq 7, 3) := by decide +kernel
theorem dX6_triangulation_22 : decode cX6_triangulation 22 = .ok (.iconst 0, 1) := by decide +kernel
theorem dX6_triangulation_23 : decode cX6_triangulation 23 = .ok (.goto 4, 3) := by decide +kernel
theorem dX6_triangulation_26 : decode cX6_triangulation 26 = .ok (.iconst 2, 1) := by decide +kernel
theorem dX6_triangulation_27 : decode cX6_triangulation 27 = .ok (.putfield 56, 3) := by decide +kernel
theorem dX6_triangulation_30 : decode cX6_triangulation 30 = .ok (.aload_n 0, 1) := by decide +kernel
theorem dX6_triangulation_31 : decode cX6_triangulation 31 = .ok (.getfield 56, 3) := by decide +kernel
theorem dX6_triangulation_34 : decode cX6_triangulation 34 = .ok (.ifCond .le 7, 3) := by decide +kernel
theorem dX6_triangulation_37 : decode cX6_triangulation 37 = .ok (.iconst 0, 1) := by decide +kernel
theorem dX6_triangulation_38 : decode cX6_triangulation 38 = .ok (.goto 9, 3) := by decide +kernel
theorem dX6_triangulation_41 : decode cX6_triangulation 41 = .ok (.aload_n 0, 1) := by decide +kernel
theorem dX6_triangulation_42 : decode cX6_triangulation 42 = .ok (.iload_n 1, 1) := by decide +kernel
theorem dX6_triangulation_43 : decode cX6_triangulation 43 = .ok (.iload_n 2, 1) := by decide +kernel
theorem dX6_triangulation_44 : decode cX6_triangulation 44 = .ok (.invokevirtual 201, 3) := by decide +kernel
theorem dX6_triangulation_47 : decode cX6_triangulation 47 = .ok (.ireturn, 1) := by decide +kernel
set_option maxRecDepth 100000 in
set_option maxHeartbeats 4000000 in
theorem v_X6_triangulation {X : zq_X} (C : zq_C X RX6 cX6_triangulation 3 zq_all rm_X6_triangulation) {h : zq_H} {t : Nat} {x1 : Int32} {x2 : Int32} (T : zq_T X none) (hn : X.2.2.2.2.2.2.2.2.1.name = yX6_triangulation.name) {out : (Int32 × zq_H)} (hF : f_X6_triangulation h t x1 x2 = some out) (hE : zq_End X cX6_triangulation 0 0 (some (.int out.1)) out.2) : zq_W X 0 0 h 0 [(0, .ref t), (1, .int x1), (2, .int x2)] [] := by
  unfold f_X6_triangulation at hF
  refine zq_aload_n (pc' := 1) C dX6_triangulation_0 rfl rfl rfl ?_
  refine zq_iload_n (pc' := 2) C dX6_triangulation_1 rfl rfl rfl ?_
  replace hF := zq_bd hF; obtain ⟨v_1, e_2, hF⟩ := hF
  refine zq_cS (pc' := 5) C (c_X6_isWhich e_2) ys_X6_isWhich wd_565 dX6_triangulation_2 rfl rfl rfl ⟨Nat.le_of_ble_eq_true rfl, Nat.le_of_ble_eq_true rfl⟩ (Nat.le_of_ble_eq_true rfl) ⟨rfl, rfl⟩ ⟨Nat.le_of_ble_eq_true rfl, Nat.le_of_ble_eq_true rfl⟩ rfl ?_
  refine zq_if_ne (pc' := 8) C 12 dX6_triangulation_5 (by decide) rfl (fun c_3 => ?_) (fun c_3 => ?_)
  · have hF := (zq_ifn hF (fun q => c_3 (zq_b0.mpr q)))
    skip
    refine zq_iload_n (pc' := 13) C dX6_triangulation_12 rfl rfl rfl ?_
    refine zq_iconst (pc' := 14) C 0 dX6_triangulation_13 rfl (by decide) ?_
    refine zq_bipush (pc' := 16) C 6 dX6_triangulation_14 rfl (by decide) ?_
    replace hF := zq_bd hF; obtain ⟨v_4, e_5, hF⟩ := hF
    refine zq_cS (pc' := 19) C (c_X6_within e_5) ys_X6_within wd_548 dX6_triangulation_16 rfl rfl rfl ⟨Nat.le_of_ble_eq_true rfl, Nat.le_of_ble_eq_true rfl⟩ (Nat.le_of_ble_eq_true rfl) ⟨rfl, rfl⟩ ⟨Nat.le_of_ble_eq_true rfl, Nat.le_of_ble_eq_true rfl⟩ rfl ?_
    refine zq_if_eq (pc' := 22) C 26 dX6_triangulation_19 (by decide) rfl (fun c_6 => ?_) (fun c_6 => ?_)
    · have hF := (zq_ifp hF (zq_b0.mp c_6))
      skip
      refine zq_iconst (pc' := 27) C 2 dX6_triangulation_26 rfl (by decide) ?_
      replace hF := zq_bd hF; obtain ⟨h_7, e_8, hF⟩ := hF
      refine zq_putI (j := 7) (pc' := 30) C zq_K6 zq_in6w (Or.inl wd_542) (by decide) rfl rfl dX6_triangulation_27 rfl (Or.inl rfl) e_8 ?_
      refine zq_aload_n (pc' := 31) C dX6_triangulation_30 rfl rfl rfl ?_
      have e_10 : zq_gi h_7 t 6 7 = some 2 := zq_gi_pi e_8
      refine zq_getI (j := 7) (pc' := 34) C zq_K6 zq_in6w (Or.inl wd_542) (by decide) rfl dX6_triangulation_31 rfl e_10 ?_
      refine zq_if_le (pc' := 37) C 41 dX6_triangulation_34 (by decide) rfl (fun c_11 => absurd c_11 (by decide)) (fun _ => ?_)
      refine zq_iconst (pc' := 38) C 0 dX6_triangulation_37 rfl (by decide) ?_
      refine zq_goto C 47 dX6_triangulation_38 (by decide) ?_
      have hF := Option.some.inj hF
      subst hF
      exact hE _ _ _ _ (Nat.le_of_ble_eq_true rfl) (Nat.le_of_ble_eq_true rfl) dX6_triangulation_47
    · have hF := (zq_ifn hF (fun q => c_6 (zq_b0.mpr q)))
      refine zq_iconst (pc' := 23) C 0 dX6_triangulation_22 rfl (by decide) ?_
      refine zq_goto C 27 dX6_triangulation_23 (by decide) ?_
      replace hF := zq_bd hF; obtain ⟨h_12, e_13, hF⟩ := hF
      refine zq_putI (j := 7) (pc' := 30) C zq_K6 zq_in6w (Or.inl wd_542) (by decide) rfl rfl dX6_triangulation_27 rfl (Or.inl rfl) e_13 ?_
      refine zq_aload_n (pc' := 31) C dX6_triangulation_30 rfl rfl rfl ?_
      have e_15 : zq_gi h_12 t 6 7 = some 0 := zq_gi_pi e_13
      refine zq_getI (j := 7) (pc' := 34) C zq_K6 zq_in6w (Or.inl wd_542) (by decide) rfl dX6_triangulation_31 rfl e_15 ?_
      refine zq_if_le (pc' := 37) C 41 dX6_triangulation_34 (by decide) rfl (fun _ => ?_) (fun c_16 => absurd c_16 (by decide))
      refine zq_aload_n (pc' := 42) C dX6_triangulation_41 rfl rfl rfl ?_
      refine zq_iload_n (pc' := 43) C dX6_triangulation_42 rfl rfl rfl ?_
      refine zq_iload_n (pc' := 44) C dX6_triangulation_43 rfl rfl rfl ?_
      replace hF := zq_ck_e hF; obtain ⟨e_19, hF⟩ := hF
      replace hF := zq_bd hF; obtain ⟨v_17, e_18, hF⟩ := hF
      refine zq_cV (pc' := 47) C (c_X6_triangulationNow e_18) yv_X6_triangulationNow wd_639 zq_K6 e_19 dX6_triangulation_44 rfl rfl rfl ⟨Nat.le_of_ble_eq_true rfl, Nat.le_of_ble_eq_true rfl⟩ (Nat.le_of_ble_eq_true rfl) ⟨rfl, rfl⟩ ⟨Nat.le_of_ble_eq_true rfl, Nat.le_of_ble_eq_true rfl⟩ rfl ?_
      have hF := Option.some.inj hF
      subst hF
      exact hE _ _ _ _ (Nat.le_of_ble_eq_true rfl) (Nat.le_of_ble_eq_true rfl) dX6_triangulation_47
  · have hF := (zq_ifp hF (zq_b0.mp c_3))
    refine zq_iconst (pc' := 9) C 1 dX6_triangulation_8 rfl (by decide) ?_
    refine zq_goto C 27 dX6_triangulation_9 (by decide) ?_
    replace hF := zq_bd hF; obtain ⟨h_20, e_21, hF⟩ := hF
    refine zq_putI (j := 7) (pc' := 30) C zq_K6 zq_in6w (Or.inl wd_542) (by decide) rfl rfl dX6_triangulation_27 rfl (Or.inl rfl) e_21 ?_
    refine zq_aload_n (pc' := 31) C dX6_triangulation_30 rfl rfl rfl ?_
    have e_23 : zq_gi h_20 t 6 7 = some 1 := zq_gi_pi e_21
    refine zq_getI (j := 7) (pc' := 34) C zq_K6 zq_in6w (Or.inl wd_542) (by decide) rfl dX6_triangulation_31 rfl e_23 ?_
    refine zq_if_le (pc' := 37) C 41 dX6_triangulation_34 (by decide) rfl (fun c_24 => absurd c_24 (by decide)) (fun _ => ?_)
    refine zq_iconst (pc' := 38) C 0 dX6_triangulation_37 rfl (by decide) ?_
    refine zq_goto C 47 dX6_triangulation_38 (by decide) ?_
    have hF := Option.some.inj hF
    subst hF
    exact hE _ _ _ _ (Nat.le_of_ble_eq_true rfl) (Nat.le_of_ble_eq_true rfl) dX6_triangulation_47
theorem c_X6_triangulation {h : zq_H} {t : Nat} {x1 : Int32} {x2 : Int32} {out : (Int32 × zq_H)} (hF : f_X6_triangulation h t x1 x2 = some out) : zq_M none yX6_triangulation (Cond.code yX6_triangulation cX6_triangulation 3 (some .int) :: zq_all) rm_X6_triangulation [.ref t, .int x1, .int x2] h (some (.int out.1)) out.2 := zq_met2 (own := RX6) (by decide +kernel) rfl (Nat.le_of_ble_eq_true rfl) rfl ⟨.int, rfl, rfl⟩ (fun X C T hn hE => v_X6_triangulation C T hn hF hE)
theorem yv_X6_triangulation : zq_calV yX6_triangulation RX6 cX6_triangulation 3 (some .int) 2 := ⟨by decide +kernel, wd_642, wd_877, wd_878, wd_458⟩
def f_X6_degree (h : zq_H) (t : Nat) (x1 : Int32) (x2 : Int32) : Option (Int32 × zq_H) := (Option.bind (f_X6_isWhich h x1) fun v_1 => (if v_1 = false then (Option.bind (zq_pi h t 6 7 1) fun h_4 => some ((0, h_4))) else (zq_ck h t 6 fun _ => (Option.bind (f_X6_isCorner h t x2) fun v_9 => (if v_9 = false then (Option.bind (zq_pi h t 6 7 1) fun h_13 => some ((0, h_13))) else (Option.bind (zq_pi h t 6 7 0) fun h_18 => (Option.bind (zq_gr h_18 t 6 0) fun v_23 => (Option.bind (zq_ai h_18 v_23 (1 + x1)) fun v_25 => (zq_ck h_18 t 6 fun _ => (Option.bind (f_X6_degreeOf h_18 t v_25 x2) fun v_27 => some ((v_27, h_18))))))))))))
abbrev rm_X6_degree : Room := { frames := 2, cells := 0, slots := 0, locals := 45 }
theorem dX6_degree_0 : decode cX6_degree 0 = .ok (.aload_n 0, 1) := by decide +kernel
theorem dX6_degree_1 : decode cX6_degree 1 = .ok (.iload_n 1, 1) := by decide +kernel
theorem dX6_degree_2 : decode cX6_degree 2 = .ok (.invokestatic 144, 3) := by decide +kernel
theorem dX6_degree_5 : decode cX6_degree 5 = .ok (.ifCond .eq 15, 3) := by decide +kernel
theorem dX6_degree_8 : decode cX6_degree 8 = .ok (.aload_n 0, 1) := by decide +kernel
theorem dX6_degree_9 : decode cX6_degree 9 = .ok (.iload_n 2, 1) := by decide +kernel
theorem dX6_degree_10 : decode cX6_degree 10 = .ok (.invokevirtual 153, 3) := by decide +kernel
theorem dX6_degree_13 : decode cX6_degree 13 = .ok (.ifCond .eq 7, 3) := by decide +kernel
theorem dX6_degree_16 : decode cX6_degree 16 = .ok (.iconst 0, 1) := by decide +kernel
theorem dX6_degree_17 : decode cX6_degree 17 = .ok (.goto 4, 3) := by decide +kernel
theorem dX6_degree_20 : decode cX6_degree 20 = .ok (.iconst 1, 1) := by decide +kernel
theorem dX6_degree_21 : decode cX6_degree 21 = .ok (.putfield 56, 3) := by decide +kernel
theorem dX6_degree_24 : decode cX6_degree 24 = .ok (.aload_n 0, 1) := by decide +kernel
theorem dX6_degree_25 : decode cX6_degree 25 = .ok (.getfield 56, 3) := by decide +kernel
theorem dX6_degree_28 : decode cX6_degree 28 = .ok (.ifCond .le 7, 3) := by decide +kernel
theorem dX6_degree_31 : decode cX6_degree 31 = .ok (.iconst 0, 1) := by decide +kernel
theorem dX6_degree_32 : decode cX6_degree 32 = .ok (.goto 16, 3) := by decide +kernel
theorem dX6_degree_35 : decode cX6_degree 35 = .ok (.aload_n 0, 1) := by decide +kernel
theorem dX6_degree_36 : decode cX6_degree 36 = .ok (.aload_n 0, 1) := by decide +kernel
theorem dX6_degree_37 : decode cX6_degree 37 = .ok (.getfield 7, 3) := by decide +kernel
theorem dX6_degree_40 : decode cX6_degree 40 = .ok (.iconst 1, 1) := by decide +kernel
theorem dX6_degree_41 : decode cX6_degree 41 = .ok (.iload_n 1, 1) := by decide +kernel
theorem dX6_degree_42 : decode cX6_degree 42 = .ok (.iadd, 1) := by decide +kernel
theorem dX6_degree_43 : decode cX6_degree 43 = .ok (.iaload, 1) := by decide +kernel
theorem dX6_degree_44 : decode cX6_degree 44 = .ok (.iload_n 2, 1) := by decide +kernel
theorem dX6_degree_45 : decode cX6_degree 45 = .ok (.invokevirtual 188, 3) := by decide +kernel
theorem dX6_degree_48 : decode cX6_degree 48 = .ok (.ireturn, 1) := by decide +kernel
set_option maxRecDepth 100000 in
set_option maxHeartbeats 4000000 in
theorem v_X6_degree {X : zq_X} (C : zq_C X RX6 cX6_degree 3 zq_all rm_X6_degree) {h : zq_H} {t : Nat} {x1 : Int32} {x2 : Int32} (T : zq_T X none) (hn : X.2.2.2.2.2.2.2.2.1.name = yX6_degree.name) {out : (Int32 × zq_H)} (hF : f_X6_degree h t x1 x2 = some out) (hE : zq_End X cX6_degree 0 0 (some (.int out.1)) out.2) : zq_W X 0 0 h 0 [(0, .ref t), (1, .int x1), (2, .int x2)] [] := by
  unfold f_X6_degree at hF
  refine zq_aload_n (pc' := 1) C dX6_degree_0 rfl rfl rfl ?_
  refine zq_iload_n (pc' := 2) C dX6_degree_1 rfl rfl rfl ?_
  replace hF := zq_bd hF; obtain ⟨v_1, e_2, hF⟩ := hF
  refine zq_cS (pc' := 5) C (c_X6_isWhich e_2) ys_X6_isWhich wd_565 dX6_degree_2 rfl rfl rfl ⟨Nat.le_of_ble_eq_true rfl, Nat.le_of_ble_eq_true rfl⟩ (Nat.le_of_ble_eq_true rfl) ⟨rfl, rfl⟩ ⟨Nat.le_of_ble_eq_true rfl, Nat.le_of_ble_eq_true rfl⟩ rfl ?_
  refine zq_if_eq (pc' := 8) C 20 dX6_degree_5 (by decide) rfl (fun c_3 => ?_) (fun c_3 => ?_)
  · have hF := (zq_ifp hF (zq_b0.mp c_3))
    skip
    refine zq_iconst (pc' := 21) C 1 dX6_degree_20 rfl (by decide) ?_
    replace hF := zq_bd hF; obtain ⟨h_4, e_5, hF⟩ := hF
    refine zq_putI (j := 7) (pc' := 24) C zq_K6 zq_in6w (Or.inl wd_542) (by decide) rfl rfl dX6_degree_21 rfl (Or.inl rfl) e_5 ?_
    refine zq_aload_n (pc' := 25) C dX6_degree_24 rfl rfl rfl ?_
    have e_7 : zq_gi h_4 t 6 7 = some 1 := zq_gi_pi e_5
    refine zq_getI (j := 7) (pc' := 28) C zq_K6 zq_in6w (Or.inl wd_542) (by decide) rfl dX6_degree_25 rfl e_7 ?_
    refine zq_if_le (pc' := 31) C 35 dX6_degree_28 (by decide) rfl (fun c_8 => absurd c_8 (by decide)) (fun _ => ?_)
    refine zq_iconst (pc' := 32) C 0 dX6_degree_31 rfl (by decide) ?_
    refine zq_goto C 48 dX6_degree_32 (by decide) ?_
    have hF := Option.some.inj hF
    subst hF
    exact hE _ _ _ _ (Nat.le_of_ble_eq_true rfl) (Nat.le_of_ble_eq_true rfl) dX6_degree_48
  · have hF := (zq_ifn hF (fun q => c_3 (zq_b0.mpr q)))
    refine zq_aload_n (pc' := 9) C dX6_degree_8 rfl rfl rfl ?_
    refine zq_iload_n (pc' := 10) C dX6_degree_9 rfl rfl rfl ?_
    replace hF := zq_ck_e hF; obtain ⟨e_11, hF⟩ := hF
    replace hF := zq_bd hF; obtain ⟨v_9, e_10, hF⟩ := hF
    refine zq_cV (pc' := 13) C (c_X6_isCorner e_10) yv_X6_isCorner wd_576 zq_K6 e_11 dX6_degree_10 rfl rfl rfl ⟨Nat.le_of_ble_eq_true rfl, Nat.le_of_ble_eq_true rfl⟩ (Nat.le_of_ble_eq_true rfl) ⟨rfl, rfl⟩ ⟨Nat.le_of_ble_eq_true rfl, Nat.le_of_ble_eq_true rfl⟩ rfl ?_
    refine zq_if_eq (pc' := 16) C 20 dX6_degree_13 (by decide) rfl (fun c_12 => ?_) (fun c_12 => ?_)
    · have hF := (zq_ifp hF (zq_b0.mp c_12))
      skip
      refine zq_iconst (pc' := 21) C 1 dX6_degree_20 rfl (by decide) ?_
      replace hF := zq_bd hF; obtain ⟨h_13, e_14, hF⟩ := hF
      refine zq_putI (j := 7) (pc' := 24) C zq_K6 zq_in6w (Or.inl wd_542) (by decide) rfl rfl dX6_degree_21 rfl (Or.inl rfl) e_14 ?_
      refine zq_aload_n (pc' := 25) C dX6_degree_24 rfl rfl rfl ?_
      have e_16 : zq_gi h_13 t 6 7 = some 1 := zq_gi_pi e_14
      refine zq_getI (j := 7) (pc' := 28) C zq_K6 zq_in6w (Or.inl wd_542) (by decide) rfl dX6_degree_25 rfl e_16 ?_
      refine zq_if_le (pc' := 31) C 35 dX6_degree_28 (by decide) rfl (fun c_17 => absurd c_17 (by decide)) (fun _ => ?_)
      refine zq_iconst (pc' := 32) C 0 dX6_degree_31 rfl (by decide) ?_
      refine zq_goto C 48 dX6_degree_32 (by decide) ?_
      have hF := Option.some.inj hF
      subst hF
      exact hE _ _ _ _ (Nat.le_of_ble_eq_true rfl) (Nat.le_of_ble_eq_true rfl) dX6_degree_48
    · have hF := (zq_ifn hF (fun q => c_12 (zq_b0.mpr q)))
      refine zq_iconst (pc' := 17) C 0 dX6_degree_16 rfl (by decide) ?_
      refine zq_goto C 21 dX6_degree_17 (by decide) ?_
      replace hF := zq_bd hF; obtain ⟨h_18, e_19, hF⟩ := hF
      refine zq_putI (j := 7) (pc' := 24) C zq_K6 zq_in6w (Or.inl wd_542) (by decide) rfl rfl dX6_degree_21 rfl (Or.inl rfl) e_19 ?_
      refine zq_aload_n (pc' := 25) C dX6_degree_24 rfl rfl rfl ?_
      have e_21 : zq_gi h_18 t 6 7 = some 0 := zq_gi_pi e_19
      refine zq_getI (j := 7) (pc' := 28) C zq_K6 zq_in6w (Or.inl wd_542) (by decide) rfl dX6_degree_25 rfl e_21 ?_
      refine zq_if_le (pc' := 31) C 35 dX6_degree_28 (by decide) rfl (fun _ => ?_) (fun c_22 => absurd c_22 (by decide))
      refine zq_aload_n (pc' := 36) C dX6_degree_35 rfl rfl rfl ?_
      refine zq_aload_n (pc' := 37) C dX6_degree_36 rfl rfl rfl ?_
      replace hF := zq_bd hF; obtain ⟨v_23, e_24, hF⟩ := hF
      refine zq_getR (j := 0) (pc' := 40) C zq_K6 zq_in6w (Or.inl wd_448) (by decide) rfl dX6_degree_37 rfl e_24 ?_
      refine zq_iconst (pc' := 41) C 1 dX6_degree_40 rfl (by decide) ?_
      refine zq_iload_n (pc' := 42) C dX6_degree_41 rfl rfl rfl ?_
      refine zq_iadd (pc' := 43) C dX6_degree_42 rfl ?_
      replace hF := zq_bd hF; obtain ⟨v_25, e_26, hF⟩ := hF
      refine zq_iaload (pc' := 44) C dX6_degree_43 rfl e_26 ?_
      refine zq_iload_n (pc' := 45) C dX6_degree_44 rfl rfl rfl ?_
      replace hF := zq_ck_e hF; obtain ⟨e_29, hF⟩ := hF
      replace hF := zq_bd hF; obtain ⟨v_27, e_28, hF⟩ := hF
      refine zq_cV (pc' := 48) C (c_X6_degreeOf e_28) yv_X6_degreeOf wd_626 zq_K6 e_29 dX6_degree_45 rfl rfl rfl ⟨Nat.le_of_ble_eq_true rfl, Nat.le_of_ble_eq_true rfl⟩ (Nat.le_of_ble_eq_true rfl) ⟨rfl, rfl⟩ ⟨Nat.le_of_ble_eq_true rfl, Nat.le_of_ble_eq_true rfl⟩ rfl ?_
      have hF := Option.some.inj hF
      subst hF
      exact hE _ _ _ _ (Nat.le_of_ble_eq_true rfl) (Nat.le_of_ble_eq_true rfl) dX6_degree_48
theorem c_X6_degree {h : zq_H} {t : Nat} {x1 : Int32} {x2 : Int32} {out : (Int32 × zq_H)} (hF : f_X6_degree h t x1 x2 = some out) : zq_M none yX6_degree (Cond.code yX6_degree cX6_degree 3 (some .int) :: zq_all) rm_X6_degree [.ref t, .int x1, .int x2] h (some (.int out.1)) out.2 := zq_met2 (own := RX6) (by decide +kernel) rfl (Nat.le_of_ble_eq_true rfl) rfl ⟨.int, rfl, rfl⟩ (fun X C T hn hE => v_X6_degree C T hn hF hE)
theorem yv_X6_degree : zq_calV yX6_degree RX6 cX6_degree 3 (some .int) 2 := ⟨by decide +kernel, wd_643, wd_882, wd_883, wd_458⟩
def f_X6_otherNow (h : zq_H) (t : Nat) (x1 : Int32) (x2 : Int32) : Option Int32 := (Option.bind (zq_gr h t 6 0) fun v_1 => (Option.bind (zq_ai h v_1 (1 + x1)) fun v_3 => (Option.bind (f_X6_has h v_3 x2) fun v_5 => (if v_5 = false then some ((-1)) else (zq_ck h t 6 fun _ => (Option.bind (f_X6_flipped h t v_3 x2) fun v_8 => some (v_8)))))))
abbrev rm_X6_otherNow : Room := { frames := 4, cells := 0, slots := 0, locals := 94 }
theorem dX6_otherNow_0 : decode cX6_otherNow 0 = .ok (.aload_n 0, 1) := by decide +kernel
theorem dX6_otherNow_1 : decode cX6_otherNow 1 = .ok (.getfield 7, 3) := by decide +kernel
theorem dX6_otherNow_4 : decode cX6_otherNow 4 = .ok (.iconst 1, 1) := by decide +kernel
theorem dX6_otherNow_5 : decode cX6_otherNow 5 = .ok (.iload_n 1, 1) := by decide +kernel
theorem dX6_otherNow_6 : decode cX6_otherNow 6 = .ok (.iadd, 1) := by decide +kernel
theorem dX6_otherNow_7 : decode cX6_otherNow 7 = .ok (.iaload, 1) := by decide +kernel
theorem dX6_otherNow_8 : decode cX6_otherNow 8 = .ok (.istore_n 3, 1) := by decide +kernel
theorem dX6_otherNow_9 : decode cX6_otherNow 9 = .ok (.iload_n 3, 1) := by decide +kernel
theorem dX6_otherNow_10 : decode cX6_otherNow 10 = .ok (.iload_n 2, 1) := by decide +kernel
theorem dX6_otherNow_11 : decode cX6_otherNow 11 = .ok (.invokestatic 74, 3) := by decide +kernel
theorem dX6_otherNow_14 : decode cX6_otherNow 14 = .ok (.ifCond .eq 12, 3) := by decide +kernel
theorem dX6_otherNow_17 : decode cX6_otherNow 17 = .ok (.aload_n 0, 1) := by decide +kernel
theorem dX6_otherNow_18 : decode cX6_otherNow 18 = .ok (.iload_n 3, 1) := by decide +kernel
theorem dX6_otherNow_19 : decode cX6_otherNow 19 = .ok (.iload_n 2, 1) := by decide +kernel
theorem dX6_otherNow_20 : decode cX6_otherNow 20 = .ok (.invokevirtual 85, 3) := by decide +kernel
theorem dX6_otherNow_23 : decode cX6_otherNow 23 = .ok (.goto 4, 3) := by decide +kernel
theorem dX6_otherNow_26 : decode cX6_otherNow 26 = .ok (.iconst (-1), 1) := by decide +kernel
theorem dX6_otherNow_27 : decode cX6_otherNow 27 = .ok (.ireturn, 1) := by decide +kernel
set_option maxRecDepth 100000 in
set_option maxHeartbeats 4000000 in
theorem v_X6_otherNow {X : zq_X} (C : zq_C X RX6 cX6_otherNow 4 zq_all rm_X6_otherNow) {h : zq_H} {t : Nat} {x1 : Int32} {x2 : Int32} (T : zq_T X none) (hn : X.2.2.2.2.2.2.2.2.1.name = yX6_otherNow.name) {out : Int32} (hF : f_X6_otherNow h t x1 x2 = some out) (hE : zq_End X cX6_otherNow 0 0 (some (.int out)) h) : zq_W X 0 0 h 0 [(0, .ref t), (1, .int x1), (2, .int x2)] [] := by
  unfold f_X6_otherNow at hF
  refine zq_aload_n (pc' := 1) C dX6_otherNow_0 rfl rfl rfl ?_
  replace hF := zq_bd hF; obtain ⟨v_1, e_2, hF⟩ := hF
  refine zq_getR (j := 0) (pc' := 4) C zq_K6 zq_in6w (Or.inl wd_448) (by decide) rfl dX6_otherNow_1 rfl e_2 ?_
  refine zq_iconst (pc' := 5) C 1 dX6_otherNow_4 rfl (by decide) ?_
  refine zq_iload_n (pc' := 6) C dX6_otherNow_5 rfl rfl rfl ?_
  refine zq_iadd (pc' := 7) C dX6_otherNow_6 rfl ?_
  replace hF := zq_bd hF; obtain ⟨v_3, e_4, hF⟩ := hF
  refine zq_iaload (pc' := 8) C dX6_otherNow_7 rfl e_4 ?_
  refine zq_istore_n (lv' := [(3, .int v_3), (0, .ref t), (1, .int x1), (2, .int x2)]) (pc' := 9) C dX6_otherNow_8 rfl rfl (by decide) rfl rfl ?_
  refine zq_iload_n (pc' := 10) C dX6_otherNow_9 rfl rfl rfl ?_
  refine zq_iload_n (pc' := 11) C dX6_otherNow_10 rfl rfl rfl ?_
  replace hF := zq_bd hF; obtain ⟨v_5, e_6, hF⟩ := hF
  refine zq_cS (pc' := 14) C (c_X6_has e_6) ys_X6_has wd_459 dX6_otherNow_11 rfl rfl rfl ⟨Nat.le_of_ble_eq_true rfl, Nat.le_of_ble_eq_true rfl⟩ (Nat.le_of_ble_eq_true rfl) ⟨rfl, rfl⟩ ⟨Nat.le_of_ble_eq_true rfl, Nat.le_of_ble_eq_true rfl⟩ rfl ?_
  refine zq_if_eq (pc' := 17) C 26 dX6_otherNow_14 (by decide) rfl (fun c_7 => ?_) (fun c_7 => ?_)
  · have hF := (zq_ifp hF (zq_b0.mp c_7))
    skip
    refine zq_iconst (pc' := 27) C (-1) dX6_otherNow_26 rfl (by decide) ?_
    have hF := Option.some.inj hF
    subst hF
    exact hE _ _ _ _ (Nat.le_of_ble_eq_true rfl) (Nat.le_of_ble_eq_true rfl) dX6_otherNow_27
  · have hF := (zq_ifn hF (fun q => c_7 (zq_b0.mpr q)))
    refine zq_aload_n (pc' := 18) C dX6_otherNow_17 rfl rfl rfl ?_
    refine zq_iload_n (pc' := 19) C dX6_otherNow_18 rfl rfl rfl ?_
    refine zq_iload_n (pc' := 20) C dX6_otherNow_19 rfl rfl rfl ?_
    replace hF := zq_ck_e hF; obtain ⟨e_10, hF⟩ := hF
    replace hF := zq_bd hF; obtain ⟨v_8, e_9, hF⟩ := hF
    refine zq_cV (pc' := 23) C (c_X6_flipped e_9) yv_X6_flipped wd_470 zq_K6 e_10 dX6_otherNow_20 rfl rfl rfl ⟨Nat.le_of_ble_eq_true rfl, Nat.le_of_ble_eq_true rfl⟩ (Nat.le_of_ble_eq_true rfl) ⟨rfl, rfl⟩ ⟨Nat.le_of_ble_eq_true rfl, Nat.le_of_ble_eq_true rfl⟩ rfl ?_
    refine zq_goto C 27 dX6_otherNow_23 (by decide) ?_
    have hF := Option.some.inj hF
    subst hF
    exact hE _ _ _ _ (Nat.le_of_ble_eq_true rfl) (Nat.le_of_ble_eq_true rfl) dX6_otherNow_27
theorem c_X6_otherNow {h : zq_H} {t : Nat} {x1 : Int32} {x2 : Int32} {out : Int32} (hF : f_X6_otherNow h t x1 x2 = some out) : zq_M none yX6_otherNow (Cond.code yX6_otherNow cX6_otherNow 4 (some .int) :: zq_all) rm_X6_otherNow [.ref t, .int x1, .int x2] h (some (.int out)) h := zq_met2 (own := RX6) (by decide +kernel) rfl (Nat.le_of_ble_eq_true rfl) rfl ⟨.int, rfl, rfl⟩ (fun X C T hn hE => v_X6_otherNow C T hn hF hE)
theorem yv_X6_otherNow : zq_calV yX6_otherNow RX6 cX6_otherNow 4 (some .int) 2 := ⟨by decide +kernel, wd_644, wd_646, wd_647, wd_458⟩
def f_X6_other (h : zq_H) (t : Nat) (x1 : Int32) (x2 : Int32) (x3 : Int32) : Option (Int32 × zq_H) := (Option.bind (f_X6_isWhich h x1) fun v_1 => (if v_1 = false then (Option.bind (zq_pi h t 6 7 1) fun h_4 => some ((0, h_4))) else (zq_ck h t 6 fun _ => (Option.bind (f_X6_isDiagonal h t x2 x3) fun v_9 => (if v_9 = false then (Option.bind (zq_pi h t 6 7 1) fun h_13 => some ((0, h_13))) else (Option.bind (zq_pi h t 6 7 0) fun h_18 => (zq_ck h_18 t 6 fun _ => (Option.bind (f_X6_numberOf h_18 t x2 x3) fun v_23 => (zq_ck h_18 t 6 fun _ => (Option.bind (f_X6_otherNow h_18 t x1 v_23) fun v_26 => some ((v_26, h_18))))))))))))
abbrev rm_X6_other : Room := { frames := 5, cells := 0, slots := 0, locals := 117 }
theorem dX6_other_0 : decode cX6_other 0 = .ok (.aload_n 0, 1) := by decide +kernel
theorem dX6_other_1 : decode cX6_other 1 = .ok (.iload_n 1, 1) := by decide +kernel
theorem dX6_other_2 : decode cX6_other 2 = .ok (.invokestatic 144, 3) := by decide +kernel
theorem dX6_other_5 : decode cX6_other 5 = .ok (.ifCond .eq 16, 3) := by decide +kernel
theorem dX6_other_8 : decode cX6_other 8 = .ok (.aload_n 0, 1) := by decide +kernel
theorem dX6_other_9 : decode cX6_other 9 = .ok (.iload_n 2, 1) := by decide +kernel
theorem dX6_other_10 : decode cX6_other 10 = .ok (.iload_n 3, 1) := by decide +kernel
theorem dX6_other_11 : decode cX6_other 11 = .ok (.invokevirtual 147, 3) := by decide +kernel
theorem dX6_other_14 : decode cX6_other 14 = .ok (.ifCond .eq 7, 3) := by decide +kernel
theorem dX6_other_17 : decode cX6_other 17 = .ok (.iconst 0, 1) := by decide +kernel
theorem dX6_other_18 : decode cX6_other 18 = .ok (.goto 4, 3) := by decide +kernel
theorem dX6_other_21 : decode cX6_other 21 = .ok (.iconst 1, 1) := by decide +kernel
theorem dX6_other_22 : decode cX6_other 22 = .ok (.putfield 56, 3) := by decide +kernel
theorem dX6_other_25 : decode cX6_other 25 = .ok (.aload_n 0, 1) := by decide +kernel
theorem dX6_other_26 : decode cX6_other 26 = .ok (.getfield 56, 3) := by decide +kernel
theorem dX6_other_29 : decode cX6_other 29 = .ok (.ifCond .le 7, 3) := by decide +kernel
theorem dX6_other_32 : decode cX6_other 32 = .ok (.iconst 0, 1) := by decide +kernel
theorem dX6_other_33 : decode cX6_other 33 = .ok (.goto 14, 3) := by decide +kernel
theorem dX6_other_36 : decode cX6_other 36 = .ok (.aload_n 0, 1) := by decide +kernel
theorem dX6_other_37 : decode cX6_other 37 = .ok (.iload_n 1, 1) := by decide +kernel
theorem dX6_other_38 : decode cX6_other 38 = .ok (.aload_n 0, 1) := by decide +kernel
theorem dX6_other_39 : decode cX6_other 39 = .ok (.iload_n 2, 1) := by decide +kernel
theorem dX6_other_40 : decode cX6_other 40 = .ok (.iload_n 3, 1) := by decide +kernel
theorem dX6_other_41 : decode cX6_other 41 = .ok (.invokevirtual 70, 3) := by decide +kernel
theorem dX6_other_44 : decode cX6_other 44 = .ok (.invokevirtual 204, 3) := by decide +kernel
theorem dX6_other_47 : decode cX6_other 47 = .ok (.ireturn, 1) := by decide +kernel
set_option maxRecDepth 100000 in
set_option maxHeartbeats 4000000 in
theorem v_X6_other {X : zq_X} (C : zq_C X RX6 cX6_other 4 zq_all rm_X6_other) {h : zq_H} {t : Nat} {x1 : Int32} {x2 : Int32} {x3 : Int32} (T : zq_T X none) (hn : X.2.2.2.2.2.2.2.2.1.name = yX6_other.name) {out : (Int32 × zq_H)} (hF : f_X6_other h t x1 x2 x3 = some out) (hE : zq_End X cX6_other 0 0 (some (.int out.1)) out.2) : zq_W X 0 0 h 0 [(0, .ref t), (1, .int x1), (2, .int x2), (3, .int x3)] [] := by
  unfold f_X6_other at hF
  refine zq_aload_n (pc' := 1) C dX6_other_0 rfl rfl rfl ?_
  refine zq_iload_n (pc' := 2) C dX6_other_1 rfl rfl rfl ?_
  replace hF := zq_bd hF; obtain ⟨v_1, e_2, hF⟩ := hF
  refine zq_cS (pc' := 5) C (c_X6_isWhich e_2) ys_X6_isWhich wd_565 dX6_other_2 rfl rfl rfl ⟨Nat.le_of_ble_eq_true rfl, Nat.le_of_ble_eq_true rfl⟩ (Nat.le_of_ble_eq_true rfl) ⟨rfl, rfl⟩ ⟨Nat.le_of_ble_eq_true rfl, Nat.le_of_ble_eq_true rfl⟩ rfl ?_
  refine zq_if_eq (pc' := 8) C 21 dX6_other_5 (by decide) rfl (fun c_3 => ?_) (fun c_3 => ?_)
  · have hF := (zq_ifp hF (zq_b0.mp c_3))
    skip
    refine zq_iconst (pc' := 22) C 1 dX6_other_21 rfl (by decide) ?_
    replace hF := zq_bd hF; obtain ⟨h_4, e_5, hF⟩ := hF
    refine zq_putI (j := 7) (pc' := 25) C zq_K6 zq_in6w (Or.inl wd_542) (by decide) rfl rfl dX6_other_22 rfl (Or.inl rfl) e_5 ?_
    refine zq_aload_n (pc' := 26) C dX6_other_25 rfl rfl rfl ?_
    have e_7 : zq_gi h_4 t 6 7 = some 1 := zq_gi_pi e_5
    refine zq_getI (j := 7) (pc' := 29) C zq_K6 zq_in6w (Or.inl wd_542) (by decide) rfl dX6_other_26 rfl e_7 ?_
    refine zq_if_le (pc' := 32) C 36 dX6_other_29 (by decide) rfl (fun c_8 => absurd c_8 (by decide)) (fun _ => ?_)
    refine zq_iconst (pc' := 33) C 0 dX6_other_32 rfl (by decide) ?_
    refine zq_goto C 47 dX6_other_33 (by decide) ?_
    have hF := Option.some.inj hF
    subst hF
    exact hE _ _ _ _ (Nat.le_of_ble_eq_true rfl) (Nat.le_of_ble_eq_true rfl) dX6_other_47
  · have hF := (zq_ifn hF (fun q => c_3 (zq_b0.mpr q)))
    refine zq_aload_n (pc' := 9) C dX6_other_8 rfl rfl rfl ?_
    refine zq_iload_n (pc' := 10) C dX6_other_9 rfl rfl rfl ?_
    refine zq_iload_n (pc' := 11) C dX6_other_10 rfl rfl rfl ?_
    replace hF := zq_ck_e hF; obtain ⟨e_11, hF⟩ := hF
    replace hF := zq_bd hF; obtain ⟨v_9, e_10, hF⟩ := hF
    refine zq_cV (pc' := 14) C (c_X6_isDiagonal e_10) yv_X6_isDiagonal wd_567 zq_K6 e_11 dX6_other_11 rfl rfl rfl ⟨Nat.le_of_ble_eq_true rfl, Nat.le_of_ble_eq_true rfl⟩ (Nat.le_of_ble_eq_true rfl) ⟨rfl, rfl⟩ ⟨Nat.le_of_ble_eq_true rfl, Nat.le_of_ble_eq_true rfl⟩ rfl ?_
    refine zq_if_eq (pc' := 17) C 21 dX6_other_14 (by decide) rfl (fun c_12 => ?_) (fun c_12 => ?_)
    · have hF := (zq_ifp hF (zq_b0.mp c_12))
      skip
      refine zq_iconst (pc' := 22) C 1 dX6_other_21 rfl (by decide) ?_
      replace hF := zq_bd hF; obtain ⟨h_13, e_14, hF⟩ := hF
      refine zq_putI (j := 7) (pc' := 25) C zq_K6 zq_in6w (Or.inl wd_542) (by decide) rfl rfl dX6_other_22 rfl (Or.inl rfl) e_14 ?_
      refine zq_aload_n (pc' := 26) C dX6_other_25 rfl rfl rfl ?_
      have e_16 : zq_gi h_13 t 6 7 = some 1 := zq_gi_pi e_14
      refine zq_getI (j := 7) (pc' := 29) C zq_K6 zq_in6w (Or.inl wd_542) (by decide) rfl dX6_other_26 rfl e_16 ?_
      refine zq_if_le (pc' := 32) C 36 dX6_other_29 (by decide) rfl (fun c_17 => absurd c_17 (by decide)) (fun _ => ?_)
      refine zq_iconst (pc' := 33) C 0 dX6_other_32 rfl (by decide) ?_
      refine zq_goto C 47 dX6_other_33 (by decide) ?_
      have hF := Option.some.inj hF
      subst hF
      exact hE _ _ _ _ (Nat.le_of_ble_eq_true rfl) (Nat.le_of_ble_eq_true rfl) dX6_other_47
    · have hF := (zq_ifn hF (fun q => c_12 (zq_b0.mpr q)))
      refine zq_iconst (pc' := 18) C 0 dX6_other_17 rfl (by decide) ?_
      refine zq_goto C 22 dX6_other_18 (by decide) ?_
      replace hF := zq_bd hF; obtain ⟨h_18, e_19, hF⟩ := hF
      refine zq_putI (j := 7) (pc' := 25) C zq_K6 zq_in6w (Or.inl wd_542) (by decide) rfl rfl dX6_other_22 rfl (Or.inl rfl) e_19 ?_
      refine zq_aload_n (pc' := 26) C dX6_other_25 rfl rfl rfl ?_
      have e_21 : zq_gi h_18 t 6 7 = some 0 := zq_gi_pi e_19
      refine zq_getI (j := 7) (pc' := 29) C zq_K6 zq_in6w (Or.inl wd_542) (by decide) rfl dX6_other_26 rfl e_21 ?_
      refine zq_if_le (pc' := 32) C 36 dX6_other_29 (by decide) rfl (fun _ => ?_) (fun c_22 => absurd c_22 (by decide))
      refine zq_aload_n (pc' := 37) C dX6_other_36 rfl rfl rfl ?_
      refine zq_iload_n (pc' := 38) C dX6_other_37 rfl rfl rfl ?_
      refine zq_aload_n (pc' := 39) C dX6_other_38 rfl rfl rfl ?_
      refine zq_iload_n (pc' := 40) C dX6_other_39 rfl rfl rfl ?_
      refine zq_iload_n (pc' := 41) C dX6_other_40 rfl rfl rfl ?_
      replace hF := zq_ck_e hF; obtain ⟨e_25, hF⟩ := hF
      replace hF := zq_bd hF; obtain ⟨v_23, e_24, hF⟩ := hF
      refine zq_cV (pc' := 44) C (c_X6_numberOf e_24) yv_X6_numberOf wd_455 zq_K6 e_25 dX6_other_41 rfl rfl rfl ⟨Nat.le_of_ble_eq_true rfl, Nat.le_of_ble_eq_true rfl⟩ (Nat.le_of_ble_eq_true rfl) ⟨rfl, rfl⟩ ⟨Nat.le_of_ble_eq_true rfl, Nat.le_of_ble_eq_true rfl⟩ rfl ?_
      replace hF := zq_ck_e hF; obtain ⟨e_28, hF⟩ := hF
      replace hF := zq_bd hF; obtain ⟨v_26, e_27, hF⟩ := hF
      refine zq_cV (pc' := 47) C (c_X6_otherNow e_27) yv_X6_otherNow wd_645 zq_K6 e_28 dX6_other_44 rfl rfl rfl ⟨Nat.le_of_ble_eq_true rfl, Nat.le_of_ble_eq_true rfl⟩ (Nat.le_of_ble_eq_true rfl) ⟨rfl, rfl⟩ ⟨Nat.le_of_ble_eq_true rfl, Nat.le_of_ble_eq_true rfl⟩ rfl ?_
      have hF := Option.some.inj hF
      subst hF
      exact hE _ _ _ _ (Nat.le_of_ble_eq_true rfl) (Nat.le_of_ble_eq_true rfl) dX6_other_47
theorem c_X6_other {h : zq_H} {t : Nat} {x1 : Int32} {x2 : Int32} {x3 : Int32} {out : (Int32 × zq_H)} (hF : f_X6_other h t x1 x2 x3 = some out) : zq_M none yX6_other (Cond.code yX6_other cX6_other 4 (some .int) :: zq_all) rm_X6_other [.ref t, .int x1, .int x2, .int x3] h (some (.int out.1)) out.2 := zq_met2 (own := RX6) (by decide +kernel) rfl (Nat.le_of_ble_eq_true rfl) rfl ⟨.int, rfl, rfl⟩ (fun X C T hn hE => v_X6_other C T hn hF hE)
theorem yv_X6_other : zq_calV yX6_other RX6 cX6_other 4 (some .int) 3 := ⟨by decide +kernel, wd_648, wd_887, wd_888, wd_458⟩
def f_X6_reason (h : zq_H) (t : Nat) (x1 : Int32) : Option Int32 := (Option.bind (zq_gr h t 6 0) fun v_1 => (Option.bind (zq_ai h v_1 1) fun v_3 => (Option.bind (f_X6_has h v_3 x1) fun v_5 => (if v_5 = false then some (1) else (Option.bind (zq_gr h t 6 0) fun v_8 => (Option.bind (zq_ai h v_8 3) fun v_10 => (Option.bind (f_X6_has h v_10 x1) fun v_12 => (if v_12 = false then some (0) else some (2)))))))))
abbrev rm_X6_reason : Room := { frames := 1, cells := 0, slots := 0, locals := 21 }
theorem dX6_reason_0 : decode cX6_reason 0 = .ok (.aload_n 0, 1) := by decide +kernel
theorem dX6_reason_1 : decode cX6_reason 1 = .ok (.getfield 7, 3) := by decide +kernel
theorem dX6_reason_4 : decode cX6_reason 4 = .ok (.iconst 1, 1) := by decide +kernel
theorem dX6_reason_5 : decode cX6_reason 5 = .ok (.iaload, 1) := by decide +kernel
theorem dX6_reason_6 : decode cX6_reason 6 = .ok (.iload_n 1, 1) := by decide +kernel
theorem dX6_reason_7 : decode cX6_reason 7 = .ok (.invokestatic 74, 3) := by decide +kernel
theorem dX6_reason_10 : decode cX6_reason 10 = .ok (.ifCond .ne 7, 3) := by decide +kernel
theorem dX6_reason_13 : decode cX6_reason 13 = .ok (.iconst 1, 1) := by decide +kernel
theorem dX6_reason_14 : decode cX6_reason 14 = .ok (.goto 21, 3) := by decide +kernel
theorem dX6_reason_17 : decode cX6_reason 17 = .ok (.aload_n 0, 1) := by decide +kernel
theorem dX6_reason_18 : decode cX6_reason 18 = .ok (.getfield 7, 3) := by decide +kernel
theorem dX6_reason_21 : decode cX6_reason 21 = .ok (.iconst 3, 1) := by decide +kernel
theorem dX6_reason_22 : decode cX6_reason 22 = .ok (.iaload, 1) := by decide +kernel
theorem dX6_reason_23 : decode cX6_reason 23 = .ok (.iload_n 1, 1) := by decide +kernel
theorem dX6_reason_24 : decode cX6_reason 24 = .ok (.invokestatic 74, 3) := by decide +kernel
theorem dX6_reason_27 : decode cX6_reason 27 = .ok (.ifCond .eq 7, 3) := by decide +kernel
theorem dX6_reason_30 : decode cX6_reason 30 = .ok (.iconst 2, 1) := by decide +kernel
theorem dX6_reason_31 : decode cX6_reason 31 = .ok (.goto 4, 3) := by decide +kernel
theorem dX6_reason_34 : decode cX6_reason 34 = .ok (.iconst 0, 1) := by decide +kernel
theorem dX6_reason_35 : decode cX6_reason 35 = .ok (.ireturn, 1) := by decide +kernel
set_option maxRecDepth 100000 in
set_option maxHeartbeats 4000000 in
theorem v_X6_reason {X : zq_X} (C : zq_C X RX6 cX6_reason 2 zq_all rm_X6_reason) {h : zq_H} {t : Nat} {x1 : Int32} (T : zq_T X none) (hn : X.2.2.2.2.2.2.2.2.1.name = yX6_reason.name) {out : Int32} (hF : f_X6_reason h t x1 = some out) (hE : zq_End X cX6_reason 0 0 (some (.int out)) h) : zq_W X 0 0 h 0 [(0, .ref t), (1, .int x1)] [] := by
  unfold f_X6_reason at hF
  refine zq_aload_n (pc' := 1) C dX6_reason_0 rfl rfl rfl ?_
  replace hF := zq_bd hF; obtain ⟨v_1, e_2, hF⟩ := hF
  refine zq_getR (j := 0) (pc' := 4) C zq_K6 zq_in6w (Or.inl wd_448) (by decide) rfl dX6_reason_1 rfl e_2 ?_
  refine zq_iconst (pc' := 5) C 1 dX6_reason_4 rfl (by decide) ?_
  replace hF := zq_bd hF; obtain ⟨v_3, e_4, hF⟩ := hF
  refine zq_iaload (pc' := 6) C dX6_reason_5 rfl e_4 ?_
  refine zq_iload_n (pc' := 7) C dX6_reason_6 rfl rfl rfl ?_
  replace hF := zq_bd hF; obtain ⟨v_5, e_6, hF⟩ := hF
  refine zq_cS (pc' := 10) C (c_X6_has e_6) ys_X6_has wd_459 dX6_reason_7 rfl rfl rfl ⟨Nat.le_of_ble_eq_true rfl, Nat.le_of_ble_eq_true rfl⟩ (Nat.le_of_ble_eq_true rfl) ⟨rfl, rfl⟩ ⟨Nat.le_of_ble_eq_true rfl, Nat.le_of_ble_eq_true rfl⟩ rfl ?_
  refine zq_if_ne (pc' := 13) C 17 dX6_reason_10 (by decide) rfl (fun c_7 => ?_) (fun c_7 => ?_)
  · have hF := (zq_ifn hF (fun q => c_7 (zq_b0.mpr q)))
    skip
    refine zq_aload_n (pc' := 18) C dX6_reason_17 rfl rfl rfl ?_
    replace hF := zq_bd hF; obtain ⟨v_8, e_9, hF⟩ := hF
    refine zq_getR (j := 0) (pc' := 21) C zq_K6 zq_in6w (Or.inl wd_448) (by decide) rfl dX6_reason_18 rfl e_9 ?_
    refine zq_iconst (pc' := 22) C 3 dX6_reason_21 rfl (by decide) ?_
    replace hF := zq_bd hF; obtain ⟨v_10, e_11, hF⟩ := hF
    refine zq_iaload (pc' := 23) C dX6_reason_22 rfl e_11 ?_
    refine zq_iload_n (pc' := 24) C dX6_reason_23 rfl rfl rfl ?_
    replace hF := zq_bd hF; obtain ⟨v_12, e_13, hF⟩ := hF
    refine zq_cS (pc' := 27) C (c_X6_has e_13) ys_X6_has wd_459 dX6_reason_24 rfl rfl rfl ⟨Nat.le_of_ble_eq_true rfl, Nat.le_of_ble_eq_true rfl⟩ (Nat.le_of_ble_eq_true rfl) ⟨rfl, rfl⟩ ⟨Nat.le_of_ble_eq_true rfl, Nat.le_of_ble_eq_true rfl⟩ rfl ?_
    refine zq_if_eq (pc' := 30) C 34 dX6_reason_27 (by decide) rfl (fun c_14 => ?_) (fun c_14 => ?_)
    · have hF := (zq_ifp hF (zq_b0.mp c_14))
      skip
      refine zq_iconst (pc' := 35) C 0 dX6_reason_34 rfl (by decide) ?_
      have hF := Option.some.inj hF
      subst hF
      exact hE _ _ _ _ (Nat.le_of_ble_eq_true rfl) (Nat.le_of_ble_eq_true rfl) dX6_reason_35
    · have hF := (zq_ifn hF (fun q => c_14 (zq_b0.mpr q)))
      refine zq_iconst (pc' := 31) C 2 dX6_reason_30 rfl (by decide) ?_
      refine zq_goto C 35 dX6_reason_31 (by decide) ?_
      have hF := Option.some.inj hF
      subst hF
      exact hE _ _ _ _ (Nat.le_of_ble_eq_true rfl) (Nat.le_of_ble_eq_true rfl) dX6_reason_35
  · have hF := (zq_ifp hF (zq_b0.mp c_7))
    refine zq_iconst (pc' := 14) C 1 dX6_reason_13 rfl (by decide) ?_
    refine zq_goto C 35 dX6_reason_14 (by decide) ?_
    have hF := Option.some.inj hF
    subst hF
    exact hE _ _ _ _ (Nat.le_of_ble_eq_true rfl) (Nat.le_of_ble_eq_true rfl) dX6_reason_35
theorem c_X6_reason {h : zq_H} {t : Nat} {x1 : Int32} {out : Int32} (hF : f_X6_reason h t x1 = some out) : zq_M none yX6_reason (Cond.code yX6_reason cX6_reason 2 (some .int) :: zq_all) rm_X6_reason [.ref t, .int x1] h (some (.int out)) h := zq_met2 (own := RX6) (by decide +kernel) rfl (Nat.le_of_ble_eq_true rfl) rfl ⟨.int, rfl, rfl⟩ (fun X C T hn hE => v_X6_reason C T hn hF hE)
theorem yv_X6_reason : zq_calV yX6_reason RX6 cX6_reason 2 (some .int) 1 := ⟨by decide +kernel, wd_649, wd_652, wd_653, wd_458⟩
def f_X6_whyNot (h : zq_H) (t : Nat) (x1 : Int32) (x2 : Int32) : Option (Int32 × zq_H) := (zq_ck h t 6 fun _ => (Option.bind (f_X6_isDiagonal h t x1 x2) fun v_1 => (if v_1 = false then (Option.bind (zq_pi h t 6 7 1) fun h_5 => some ((0, h_5))) else (Option.bind (zq_pi h t 6 7 0) fun h_10 => (zq_ck h_10 t 6 fun _ => (Option.bind (f_X6_numberOf h_10 t x1 x2) fun v_15 => (zq_ck h_10 t 6 fun _ => (Option.bind (f_X6_reason h_10 t v_15) fun v_18 => some ((v_18, h_10))))))))))
abbrev rm_X6_whyNot : Room := { frames := 2, cells := 0, slots := 0, locals := 44 }
theorem dX6_whyNot_0 : decode cX6_whyNot 0 = .ok (.aload_n 0, 1) := by decide +kernel
theorem dX6_whyNot_1 : decode cX6_whyNot 1 = .ok (.aload_n 0, 1) := by decide +kernel
theorem dX6_whyNot_2 : decode cX6_whyNot 2 = .ok (.iload_n 1, 1) := by decide +kernel
theorem dX6_whyNot_3 : decode cX6_whyNot 3 = .ok (.iload_n 2, 1) := by decide +kernel
theorem dX6_whyNot_4 : decode cX6_whyNot 4 = .ok (.invokevirtual 147, 3) := by decide +kernel
theorem dX6_whyNot_7 : decode cX6_whyNot 7 = .ok (.ifCond .eq 7, 3) := by decide +kernel
theorem dX6_whyNot_10 : decode cX6_whyNot 10 = .ok (.iconst 0, 1) := by decide +kernel
theorem dX6_whyNot_11 : decode cX6_whyNot 11 = .ok (.goto 4, 3) := by decide +kernel
theorem dX6_whyNot_14 : decode cX6_whyNot 14 = .ok (.iconst 1, 1) := by decide +kernel
theorem dX6_whyNot_15 : decode cX6_whyNot 15 = .ok (.putfield 56, 3) := by decide +kernel
theorem dX6_whyNot_18 : decode cX6_whyNot 18 = .ok (.aload_n 0, 1) := by decide +kernel
theorem dX6_whyNot_19 : decode cX6_whyNot 19 = .ok (.getfield 56, 3) := by decide +kernel
theorem dX6_whyNot_22 : decode cX6_whyNot 22 = .ok (.ifCond .le 7, 3) := by decide +kernel
theorem dX6_whyNot_25 : decode cX6_whyNot 25 = .ok (.iconst 0, 1) := by decide +kernel
theorem dX6_whyNot_26 : decode cX6_whyNot 26 = .ok (.goto 13, 3) := by decide +kernel
theorem dX6_whyNot_29 : decode cX6_whyNot 29 = .ok (.aload_n 0, 1) := by decide +kernel
theorem dX6_whyNot_30 : decode cX6_whyNot 30 = .ok (.aload_n 0, 1) := by decide +kernel
theorem dX6_whyNot_31 : decode cX6_whyNot 31 = .ok (.iload_n 1, 1) := by decide +kernel
theorem dX6_whyNot_32 : decode cX6_whyNot 32 = .ok (.iload_n 2, 1) := by decide +kernel
theorem dX6_whyNot_33 : decode cX6_whyNot 33 = .ok (.invokevirtual 70, 3) := by decide +kernel
theorem dX6_whyNot_36 : decode cX6_whyNot 36 = .ok (.invokevirtual 207, 3) := by decide +kernel
theorem dX6_whyNot_39 : decode cX6_whyNot 39 = .ok (.ireturn, 1) := by decide +kernel
set_option maxRecDepth 100000 in
set_option maxHeartbeats 4000000 in
theorem v_X6_whyNot {X : zq_X} (C : zq_C X RX6 cX6_whyNot 3 zq_all rm_X6_whyNot) {h : zq_H} {t : Nat} {x1 : Int32} {x2 : Int32} (T : zq_T X none) (hn : X.2.2.2.2.2.2.2.2.1.name = yX6_whyNot.name) {out : (Int32 × zq_H)} (hF : f_X6_whyNot h t x1 x2 = some out) (hE : zq_End X cX6_whyNot 0 0 (some (.int out.1)) out.2) : zq_W X 0 0 h 0 [(0, .ref t), (1, .int x1), (2, .int x2)] [] := by
  unfold f_X6_whyNot at hF
  refine zq_aload_n (pc' := 1) C dX6_whyNot_0 rfl rfl rfl ?_
  refine zq_aload_n (pc' := 2) C dX6_whyNot_1 rfl rfl rfl ?_
  refine zq_iload_n (pc' := 3) C dX6_whyNot_2 rfl rfl rfl ?_
  refine zq_iload_n (pc' := 4) C dX6_whyNot_3 rfl rfl rfl ?_
  replace hF := zq_ck_e hF; obtain ⟨e_3, hF⟩ := hF
  replace hF := zq_bd hF; obtain ⟨v_1, e_2, hF⟩ := hF
  refine zq_cV (pc' := 7) C (c_X6_isDiagonal e_2) yv_X6_isDiagonal wd_567 zq_K6 e_3 dX6_whyNot_4 rfl rfl rfl ⟨Nat.le_of_ble_eq_true rfl, Nat.le_of_ble_eq_true rfl⟩ (Nat.le_of_ble_eq_true rfl) ⟨rfl, rfl⟩ ⟨Nat.le_of_ble_eq_true rfl, Nat.le_of_ble_eq_true rfl⟩ rfl ?_
  refine zq_if_eq (pc' := 10) C 14 dX6_whyNot_7 (by decide) rfl (fun c_4 => ?_) (fun c_4 => ?_)
  · have hF := (zq_ifp hF (zq_b0.mp c_4))
    skip
    refine zq_iconst (pc' := 15) C 1 dX6_whyNot_14 rfl (by decide) ?_
    replace hF := zq_bd hF; obtain ⟨h_5, e_6, hF⟩ := hF
    refine zq_putI (j := 7) (pc' := 18) C zq_K6 zq_in6w (Or.inl wd_542) (by decide) rfl rfl dX6_whyNot_15 rfl (Or.inl rfl) e_6 ?_
    refine zq_aload_n (pc' := 19) C dX6_whyNot_18 rfl rfl rfl ?_
    have e_8 : zq_gi h_5 t 6 7 = some 1 := zq_gi_pi e_6
    refine zq_getI (j := 7) (pc' := 22) C zq_K6 zq_in6w (Or.inl wd_542) (by decide) rfl dX6_whyNot_19 rfl e_8 ?_
    refine zq_if_le (pc' := 25) C 29 dX6_whyNot_22 (by decide) rfl (fun c_9 => absurd c_9 (by decide)) (fun _ => ?_)
    refine zq_iconst (pc' := 26) C 0 dX6_whyNot_25 rfl (by decide) ?_
    refine zq_goto C 39 dX6_whyNot_26 (by decide) ?_
    have hF := Option.some.inj hF
    subst hF
    exact hE _ _ _ _ (Nat.le_of_ble_eq_true rfl) (Nat.le_of_ble_eq_true rfl) dX6_whyNot_39
  · have hF := (zq_ifn hF (fun q => c_4 (zq_b0.mpr q)))
    refine zq_iconst (pc' := 11) C 0 dX6_whyNot_10 rfl (by decide) ?_
    refine zq_goto C 15 dX6_whyNot_11 (by decide) ?_
    replace hF := zq_bd hF; obtain ⟨h_10, e_11, hF⟩ := hF
    refine zq_putI (j := 7) (pc' := 18) C zq_K6 zq_in6w (Or.inl wd_542) (by decide) rfl rfl dX6_whyNot_15 rfl (Or.inl rfl) e_11 ?_
    refine zq_aload_n (pc' := 19) C dX6_whyNot_18 rfl rfl rfl ?_
    have e_13 : zq_gi h_10 t 6 7 = some 0 := zq_gi_pi e_11
    refine zq_getI (j := 7) (pc' := 22) C zq_K6 zq_in6w (Or.inl wd_542) (by decide) rfl dX6_whyNot_19 rfl e_13 ?_
    refine zq_if_le (pc' := 25) C 29 dX6_whyNot_22 (by decide) rfl (fun _ => ?_) (fun c_14 => absurd c_14 (by decide))
    refine zq_aload_n (pc' := 30) C dX6_whyNot_29 rfl rfl rfl ?_
    refine zq_aload_n (pc' := 31) C dX6_whyNot_30 rfl rfl rfl ?_
    refine zq_iload_n (pc' := 32) C dX6_whyNot_31 rfl rfl rfl ?_
    refine zq_iload_n (pc' := 33) C dX6_whyNot_32 rfl rfl rfl ?_
    replace hF := zq_ck_e hF; obtain ⟨e_17, hF⟩ := hF
    replace hF := zq_bd hF; obtain ⟨v_15, e_16, hF⟩ := hF
    refine zq_cV (pc' := 36) C (c_X6_numberOf e_16) yv_X6_numberOf wd_455 zq_K6 e_17 dX6_whyNot_33 rfl rfl rfl ⟨Nat.le_of_ble_eq_true rfl, Nat.le_of_ble_eq_true rfl⟩ (Nat.le_of_ble_eq_true rfl) ⟨rfl, rfl⟩ ⟨Nat.le_of_ble_eq_true rfl, Nat.le_of_ble_eq_true rfl⟩ rfl ?_
    replace hF := zq_ck_e hF; obtain ⟨e_20, hF⟩ := hF
    replace hF := zq_bd hF; obtain ⟨v_18, e_19, hF⟩ := hF
    refine zq_cV (pc' := 39) C (c_X6_reason e_19) yv_X6_reason wd_651 zq_K6 e_20 dX6_whyNot_36 rfl rfl rfl ⟨Nat.le_of_ble_eq_true rfl, Nat.le_of_ble_eq_true rfl⟩ (Nat.le_of_ble_eq_true rfl) ⟨rfl, rfl⟩ ⟨Nat.le_of_ble_eq_true rfl, Nat.le_of_ble_eq_true rfl⟩ rfl ?_
    have hF := Option.some.inj hF
    subst hF
    exact hE _ _ _ _ (Nat.le_of_ble_eq_true rfl) (Nat.le_of_ble_eq_true rfl) dX6_whyNot_39
theorem c_X6_whyNot {h : zq_H} {t : Nat} {x1 : Int32} {x2 : Int32} {out : (Int32 × zq_H)} (hF : f_X6_whyNot h t x1 x2 = some out) : zq_M none yX6_whyNot (Cond.code yX6_whyNot cX6_whyNot 3 (some .int) :: zq_all) rm_X6_whyNot [.ref t, .int x1, .int x2] h (some (.int out.1)) out.2 := zq_met2 (own := RX6) (by decide +kernel) rfl (Nat.le_of_ble_eq_true rfl) rfl ⟨.int, rfl, rfl⟩ (fun X C T hn hE => v_X6_whyNot C T hn hF hE)
theorem yv_X6_whyNot : zq_calV yX6_whyNot RX6 cX6_whyNot 3 (some .int) 2 := ⟨by decide +kernel, wd_650, wd_892, wd_893, wd_458⟩
def f_X6_distanceNow (h : zq_H) (t : Nat) (x1 : Int32) : Option (Int32 × zq_H) := (Option.bind (zq_gr h t 6 0) fun v_1 => (Option.bind (zq_ai h v_1 2) fun v_3 => (zq_ck h t 6 fun _ => (Option.bind (f_X6_indexOf h t v_3) fun v_5 => (if x1 = 0 then (Option.bind (zq_gr h t 6 0) fun v_9 => (Option.bind (zq_ai h v_9 1) fun v_11 => (zq_ck h t 6 fun _ => (Option.bind (f_X6_lockedFrom h t v_11) fun v_13 => some ((v_13.1, v_13.2)))))) else (if x1 = 1 then (Option.bind (zq_gr h t 6 0) fun v_17 => (Option.bind (zq_ai h v_17 1) fun v_19 => (zq_ck h t 6 fun _ => (Option.bind (f_X6_freeFrom h t v_19) fun v_21 => some ((v_21.1, v_21.2)))))) else (if x1 = 2 then (Option.bind (zq_gr h t 6 0) fun v_25 => (Option.bind (zq_ai h v_25 1) fun v_27 => (Option.bind (zq_gr h t 6 0) fun v_29 => (Option.bind (zq_ai h v_29 1) fun v_31 => (Option.bind (zq_gr h t 6 0) fun v_33 => (Option.bind (zq_ai h v_33 2) fun v_35 => (zq_ck h t 6 fun _ => (Option.bind (f_X6_goFrom h t v_27 (v_31 &&& v_35)) fun v_37 => (Option.bind (zq_gr v_37 t 6 18) fun v_40 => (Option.bind (zq_ai v_37 v_40 v_5) fun v_42 => some ((v_42, v_37)))))))))))) else (if x1 = 3 then (Option.bind (zq_gr h t 6 0) fun v_45 => (Option.bind (zq_ai h v_45 1) fun v_47 => (Option.bind (zq_gr h t 6 0) fun v_49 => (Option.bind (zq_ai h v_49 3) fun v_51 => (zq_ck h t 6 fun _ => (Option.bind (f_X6_goFrom h t v_47 v_51) fun v_53 => (Option.bind (zq_gr v_53 t 6 19) fun v_56 => (Option.bind (zq_ai v_53 v_56 v_5) fun v_58 => some ((v_58, v_53)))))))))) else (if x1 = 4 then (zq_ck h t 6 fun _ => (Option.bind (f_X6_nextFlip h t) fun v_61 => some ((v_61.1, v_61.2)))) else (Option.bind (zq_gr h t 6 0) fun v_64 => (Option.bind (zq_ai h v_64 1) fun v_66 => (Option.bind (zq_gr h t 6 0) fun v_68 => (Option.bind (zq_ai h v_68 2) fun v_70 => (Option.bind (f_X6_ones h (v_66 &&& v_70)) fun v_72 => some ((v_72, h))))))))))))))))
abbrev rm_X6_distanceNow : Room := { frames := 6, cells := 0, slots := 0, locals := 138 }
theorem dX6_distanceNow_0 : decode cX6_distanceNow 0 = .ok (.aload_n 0, 1) := by decide +kernel
theorem dX6_distanceNow_1 : decode cX6_distanceNow 1 = .ok (.aload_n 0, 1) := by decide +kernel
theorem dX6_distanceNow_2 : decode cX6_distanceNow 2 = .ok (.getfield 7, 3) := by decide +kernel
theorem dX6_distanceNow_5 : decode cX6_distanceNow 5 = .ok (.iconst 2, 1) := by decide +kernel
theorem dX6_distanceNow_6 : decode cX6_distanceNow 6 = .ok (.iaload, 1) := by decide +kernel
theorem dX6_distanceNow_7 : decode cX6_distanceNow 7 = .ok (.invokevirtual 98, 3) := by decide +kernel
theorem dX6_distanceNow_10 : decode cX6_distanceNow 10 = .ok (.istore_n 2, 1) := by decide +kernel
theorem dX6_distanceNow_11 : decode cX6_distanceNow 11 = .ok (.iload_n 1, 1) := by decide +kernel
theorem dX6_distanceNow_12 : decode cX6_distanceNow 12 = .ok (.tableswitch 116 0 4 #[36, 47, 58, 88, 111], 36) := by decide +kernel
theorem dX6_distanceNow_48 : decode cX6_distanceNow 48 = .ok (.aload_n 0, 1) := by decide +kernel
theorem dX6_distanceNow_49 : decode cX6_distanceNow 49 = .ok (.aload_n 0, 1) := by decide +kernel
theorem dX6_distanceNow_50 : decode cX6_distanceNow 50 = .ok (.getfield 7, 3) := by decide +kernel
theorem dX6_distanceNow_53 : decode cX6_distanceNow 53 = .ok (.iconst 1, 1) := by decide +kernel
theorem dX6_distanceNow_54 : decode cX6_distanceNow 54 = .ok (.iaload, 1) := by decide +kernel
theorem dX6_distanceNow_55 : decode cX6_distanceNow 55 = .ok (.invokevirtual 132, 3) := by decide +kernel
theorem dX6_distanceNow_58 : decode cX6_distanceNow 58 = .ok (.ireturn, 1) := by decide +kernel
theorem dX6_distanceNow_59 : decode cX6_distanceNow 59 = .ok (.aload_n 0, 1) := by decide +kernel
theorem dX6_distanceNow_60 : decode cX6_distanceNow 60 = .ok (.aload_n 0, 1) := by decide +kernel
theorem dX6_distanceNow_61 : decode cX6_distanceNow 61 = .ok (.getfield 7, 3) := by decide +kernel
theorem dX6_distanceNow_64 : decode cX6_distanceNow 64 = .ok (.iconst 1, 1) := by decide +kernel
theorem dX6_distanceNow_65 : decode cX6_distanceNow 65 = .ok (.iaload, 1) := by decide +kernel
theorem dX6_distanceNow_66 : decode cX6_distanceNow 66 = .ok (.invokevirtual 210, 3) := by decide +kernel
theorem dX6_distanceNow_69 : decode cX6_distanceNow 69 = .ok (.ireturn, 1) := by decide +kernel
theorem dX6_distanceNow_70 : decode cX6_distanceNow 70 = .ok (.aload_n 0, 1) := by decide +kernel
theorem dX6_distanceNow_71 : decode cX6_distanceNow 71 = .ok (.aload_n 0, 1) := by decide +kernel
theorem dX6_distanceNow_72 : decode cX6_distanceNow 72 = .ok (.getfield 7, 3) := by decide +kernel
theorem dX6_distanceNow_75 : decode cX6_distanceNow 75 = .ok (.iconst 1, 1) := by decide +kernel
theorem dX6_distanceNow_76 : decode cX6_distanceNow 76 = .ok (.iaload, 1) := by decide +kernel
theorem dX6_distanceNow_77 : decode cX6_distanceNow 77 = .ok (.aload_n 0, 1) := by decide +kernel
theorem dX6_distanceNow_78 : decode cX6_distanceNow 78 = .ok (.getfield 7, 3) := by decide +kernel
theorem dX6_distanceNow_81 : decode cX6_distanceNow 81 = .ok (.iconst 1, 1) := by decide +kernel
theorem dX6_distanceNow_82 : decode cX6_distanceNow 82 = .ok (.iaload, 1) := by decide +kernel
theorem dX6_distanceNow_83 : decode cX6_distanceNow 83 = .ok (.aload_n 0, 1) := by decide +kernel
theorem dX6_distanceNow_84 : decode cX6_distanceNow 84 = .ok (.getfield 7, 3) := by decide +kernel
theorem dX6_distanceNow_87 : decode cX6_distanceNow 87 = .ok (.iconst 2, 1) := by decide +kernel
theorem dX6_distanceNow_88 : decode cX6_distanceNow 88 = .ok (.iaload, 1) := by decide +kernel
theorem dX6_distanceNow_89 : decode cX6_distanceNow 89 = .ok (.iand, 1) := by decide +kernel
theorem dX6_distanceNow_90 : decode cX6_distanceNow 90 = .ok (.invokevirtual 128, 3) := by decide +kernel
theorem dX6_distanceNow_93 : decode cX6_distanceNow 93 = .ok (.aload_n 0, 1) := by decide +kernel
theorem dX6_distanceNow_94 : decode cX6_distanceNow 94 = .ok (.getfield 40, 3) := by decide +kernel
theorem dX6_distanceNow_97 : decode cX6_distanceNow 97 = .ok (.iload_n 2, 1) := by decide +kernel
theorem dX6_distanceNow_98 : decode cX6_distanceNow 98 = .ok (.iaload, 1) := by decide +kernel
theorem dX6_distanceNow_99 : decode cX6_distanceNow 99 = .ok (.ireturn, 1) := by decide +kernel
theorem dX6_distanceNow_100 : decode cX6_distanceNow 100 = .ok (.aload_n 0, 1) := by decide +kernel
theorem dX6_distanceNow_101 : decode cX6_distanceNow 101 = .ok (.aload_n 0, 1) := by decide +kernel
theorem dX6_distanceNow_102 : decode cX6_distanceNow 102 = .ok (.getfield 7, 3) := by decide +kernel
theorem dX6_distanceNow_105 : decode cX6_distanceNow 105 = .ok (.iconst 1, 1) := by decide +kernel
theorem dX6_distanceNow_106 : decode cX6_distanceNow 106 = .ok (.iaload, 1) := by decide +kernel
theorem dX6_distanceNow_107 : decode cX6_distanceNow 107 = .ok (.aload_n 0, 1) := by decide +kernel
theorem dX6_distanceNow_108 : decode cX6_distanceNow 108 = .ok (.getfield 7, 3) := by decide +kernel
theorem dX6_distanceNow_111 : decode cX6_distanceNow 111 = .ok (.iconst 3, 1) := by decide +kernel
theorem dX6_distanceNow_112 : decode cX6_distanceNow 112 = .ok (.iaload, 1) := by decide +kernel
theorem dX6_distanceNow_113 : decode cX6_distanceNow 113 = .ok (.invokevirtual 128, 3) := by decide +kernel
theorem dX6_distanceNow_116 : decode cX6_distanceNow 116 = .ok (.aload_n 0, 1) := by decide +kernel
theorem dX6_distanceNow_117 : decode cX6_distanceNow 117 = .ok (.getfield 43, 3) := by decide +kernel
theorem dX6_distanceNow_120 : decode cX6_distanceNow 120 = .ok (.iload_n 2, 1) := by decide +kernel
theorem dX6_distanceNow_121 : decode cX6_distanceNow 121 = .ok (.iaload, 1) := by decide +kernel
theorem dX6_distanceNow_122 : decode cX6_distanceNow 122 = .ok (.ireturn, 1) := by decide +kernel
theorem dX6_distanceNow_123 : decode cX6_distanceNow 123 = .ok (.aload_n 0, 1) := by decide +kernel
theorem dX6_distanceNow_124 : decode cX6_distanceNow 124 = .ok (.invokevirtual 162, 3) := by decide +kernel
theorem dX6_distanceNow_127 : decode cX6_distanceNow 127 = .ok (.ireturn, 1) := by decide +kernel
theorem dX6_distanceNow_128 : decode cX6_distanceNow 128 = .ok (.aload_n 0, 1) := by decide +kernel
theorem dX6_distanceNow_129 : decode cX6_distanceNow 129 = .ok (.getfield 7, 3) := by decide +kernel
theorem dX6_distanceNow_132 : decode cX6_distanceNow 132 = .ok (.iconst 1, 1) := by decide +kernel
theorem dX6_distanceNow_133 : decode cX6_distanceNow 133 = .ok (.iaload, 1) := by decide +kernel
theorem dX6_distanceNow_134 : decode cX6_distanceNow 134 = .ok (.aload_n 0, 1) := by decide +kernel
theorem dX6_distanceNow_135 : decode cX6_distanceNow 135 = .ok (.getfield 7, 3) := by decide +kernel
theorem dX6_distanceNow_138 : decode cX6_distanceNow 138 = .ok (.iconst 2, 1) := by decide +kernel
theorem dX6_distanceNow_139 : decode cX6_distanceNow 139 = .ok (.iaload, 1) := by decide +kernel
theorem dX6_distanceNow_140 : decode cX6_distanceNow 140 = .ok (.iand, 1) := by decide +kernel
theorem dX6_distanceNow_141 : decode cX6_distanceNow 141 = .ok (.invokestatic 156, 3) := by decide +kernel
theorem dX6_distanceNow_144 : decode cX6_distanceNow 144 = .ok (.ireturn, 1) := by decide +kernel
set_option maxRecDepth 100000 in
set_option maxHeartbeats 4000000 in
theorem v_X6_distanceNow {X : zq_X} (C : zq_C X RX6 cX6_distanceNow 3 zq_all rm_X6_distanceNow) {h : zq_H} {t : Nat} {x1 : Int32} (T : zq_T X none) (hn : X.2.2.2.2.2.2.2.2.1.name = yX6_distanceNow.name) {out : (Int32 × zq_H)} (hF : f_X6_distanceNow h t x1 = some out) (hE : zq_End X cX6_distanceNow 0 0 (some (.int out.1)) out.2) : zq_W X 0 0 h 0 [(0, .ref t), (1, .int x1)] [] := by
  unfold f_X6_distanceNow at hF
  refine zq_aload_n (pc' := 1) C dX6_distanceNow_0 rfl rfl rfl ?_
  refine zq_aload_n (pc' := 2) C dX6_distanceNow_1 rfl rfl rfl ?_
  replace hF := zq_bd hF; obtain ⟨v_1, e_2, hF⟩ := hF
  refine zq_getR (j := 0) (pc' := 5) C zq_K6 zq_in6w (Or.inl wd_448) (by decide) rfl dX6_distanceNow_2 rfl e_2 ?_
  refine zq_iconst (pc' := 6) C 2 dX6_distanceNow_5 rfl (by decide) ?_
  replace hF := zq_bd hF; obtain ⟨v_3, e_4, hF⟩ := hF
  refine zq_iaload (pc' := 7) C dX6_distanceNow_6 rfl e_4 ?_
  replace hF := zq_ck_e hF; obtain ⟨e_7, hF⟩ := hF
  replace hF := zq_bd hF; obtain ⟨v_5, e_6, hF⟩ := hF
  refine zq_cV (pc' := 10) C (c_X6_indexOf e_6) yv_X6_indexOf wd_489 zq_K6 e_7 dX6_distanceNow_7 rfl rfl rfl ⟨Nat.le_of_ble_eq_true rfl, Nat.le_of_ble_eq_true rfl⟩ (Nat.le_of_ble_eq_true rfl) ⟨rfl, rfl⟩ ⟨Nat.le_of_ble_eq_true rfl, Nat.le_of_ble_eq_true rfl⟩ rfl ?_
  refine zq_istore_n (lv' := [(2, .int v_5), (0, .ref t), (1, .int x1)]) (pc' := 11) C dX6_distanceNow_10 rfl rfl (by decide) rfl rfl ?_
  refine zq_iload_n (pc' := 12) C dX6_distanceNow_11 rfl rfl rfl ?_
  by_cases c_8 : x1 = 0
  · have hF := zq_ifp hF c_8
    refine zq_tsIn C 48 dX6_distanceNow_12 (by rw [c_8]; decide) (by rw [c_8]; decide) (by rw [c_8]; rfl) (by decide) ?_
    refine zq_aload_n (pc' := 49) C dX6_distanceNow_48 rfl rfl rfl ?_
    refine zq_aload_n (pc' := 50) C dX6_distanceNow_49 rfl rfl rfl ?_
    replace hF := zq_bd hF; obtain ⟨v_9, e_10, hF⟩ := hF
    refine zq_getR (j := 0) (pc' := 53) C zq_K6 zq_in6w (Or.inl wd_448) (by decide) rfl dX6_distanceNow_50 rfl e_10 ?_
    refine zq_iconst (pc' := 54) C 1 dX6_distanceNow_53 rfl (by decide) ?_
    replace hF := zq_bd hF; obtain ⟨v_11, e_12, hF⟩ := hF
    refine zq_iaload (pc' := 55) C dX6_distanceNow_54 rfl e_12 ?_
    replace hF := zq_ck_e hF; obtain ⟨e_15, hF⟩ := hF
    replace hF := zq_bd hF; obtain ⟨v_13, e_14, hF⟩ := hF
    refine zq_cV (pc' := 58) C (c_X6_lockedFrom e_14) yv_X6_lockedFrom wd_554 zq_K6 e_15 dX6_distanceNow_55 rfl rfl rfl ⟨Nat.le_of_ble_eq_true rfl, Nat.le_of_ble_eq_true rfl⟩ (Nat.le_of_ble_eq_true rfl) ⟨rfl, rfl⟩ ⟨Nat.le_of_ble_eq_true rfl, Nat.le_of_ble_eq_true rfl⟩ rfl ?_
    have hF := Option.some.inj hF
    subst hF
    exact hE _ _ _ _ (Nat.le_of_ble_eq_true rfl) (Nat.le_of_ble_eq_true rfl) dX6_distanceNow_58
  have hF := zq_ifn hF c_8
  by_cases c_16 : x1 = 1
  · have hF := zq_ifp hF c_16
    refine zq_tsIn C 59 dX6_distanceNow_12 (by rw [c_16]; decide) (by rw [c_16]; decide) (by rw [c_16]; rfl) (by decide) ?_
    refine zq_aload_n (pc' := 60) C dX6_distanceNow_59 rfl rfl rfl ?_
    refine zq_aload_n (pc' := 61) C dX6_distanceNow_60 rfl rfl rfl ?_
    replace hF := zq_bd hF; obtain ⟨v_17, e_18, hF⟩ := hF
    refine zq_getR (j := 0) (pc' := 64) C zq_K6 zq_in6w (Or.inl wd_448) (by decide) rfl dX6_distanceNow_61 rfl e_18 ?_
    refine zq_iconst (pc' := 65) C 1 dX6_distanceNow_64 rfl (by decide) ?_
    replace hF := zq_bd hF; obtain ⟨v_19, e_20, hF⟩ := hF
    refine zq_iaload (pc' := 66) C dX6_distanceNow_65 rfl e_20 ?_
    replace hF := zq_ck_e hF; obtain ⟨e_23, hF⟩ := hF
    replace hF := zq_bd hF; obtain ⟨v_21, e_22, hF⟩ := hF
    refine zq_cV (pc' := 69) C (c_X6_freeFrom e_22) yv_X6_freeFrom wd_654 zq_K6 e_23 dX6_distanceNow_66 rfl rfl rfl ⟨Nat.le_of_ble_eq_true rfl, Nat.le_of_ble_eq_true rfl⟩ (Nat.le_of_ble_eq_true rfl) ⟨rfl, rfl⟩ ⟨Nat.le_of_ble_eq_true rfl, Nat.le_of_ble_eq_true rfl⟩ rfl ?_
    have hF := Option.some.inj hF
    subst hF
    exact hE _ _ _ _ (Nat.le_of_ble_eq_true rfl) (Nat.le_of_ble_eq_true rfl) dX6_distanceNow_69
  have hF := zq_ifn hF c_16
  by_cases c_24 : x1 = 2
  · have hF := zq_ifp hF c_24
    refine zq_tsIn C 70 dX6_distanceNow_12 (by rw [c_24]; decide) (by rw [c_24]; decide) (by rw [c_24]; rfl) (by decide) ?_
    refine zq_aload_n (pc' := 71) C dX6_distanceNow_70 rfl rfl rfl ?_
    refine zq_aload_n (pc' := 72) C dX6_distanceNow_71 rfl rfl rfl ?_
    replace hF := zq_bd hF; obtain ⟨v_25, e_26, hF⟩ := hF
    refine zq_getR (j := 0) (pc' := 75) C zq_K6 zq_in6w (Or.inl wd_448) (by decide) rfl dX6_distanceNow_72 rfl e_26 ?_
    refine zq_iconst (pc' := 76) C 1 dX6_distanceNow_75 rfl (by decide) ?_
    replace hF := zq_bd hF; obtain ⟨v_27, e_28, hF⟩ := hF
    refine zq_iaload (pc' := 77) C dX6_distanceNow_76 rfl e_28 ?_
    refine zq_aload_n (pc' := 78) C dX6_distanceNow_77 rfl rfl rfl ?_
    replace hF := zq_bd hF; obtain ⟨v_29, e_30, hF⟩ := hF
    refine zq_getR (j := 0) (pc' := 81) C zq_K6 zq_in6w (Or.inl wd_448) (by decide) rfl dX6_distanceNow_78 rfl e_30 ?_
    refine zq_iconst (pc' := 82) C 1 dX6_distanceNow_81 rfl (by decide) ?_
    replace hF := zq_bd hF; obtain ⟨v_31, e_32, hF⟩ := hF
    refine zq_iaload (pc' := 83) C dX6_distanceNow_82 rfl e_32 ?_
    refine zq_aload_n (pc' := 84) C dX6_distanceNow_83 rfl rfl rfl ?_
    replace hF := zq_bd hF; obtain ⟨v_33, e_34, hF⟩ := hF
    refine zq_getR (j := 0) (pc' := 87) C zq_K6 zq_in6w (Or.inl wd_448) (by decide) rfl dX6_distanceNow_84 rfl e_34 ?_
    refine zq_iconst (pc' := 88) C 2 dX6_distanceNow_87 rfl (by decide) ?_
    replace hF := zq_bd hF; obtain ⟨v_35, e_36, hF⟩ := hF
    refine zq_iaload (pc' := 89) C dX6_distanceNow_88 rfl e_36 ?_
    refine zq_iand (pc' := 90) C dX6_distanceNow_89 rfl ?_
    replace hF := zq_ck_e hF; obtain ⟨e_39, hF⟩ := hF
    replace hF := zq_bd hF; obtain ⟨v_37, e_38, hF⟩ := hF
    refine zq_cV (pc' := 93) C (c_X6_goFrom e_38) yv_X6_goFrom wd_507 zq_K6 e_39 dX6_distanceNow_90 rfl rfl rfl ⟨Nat.le_of_ble_eq_true rfl, Nat.le_of_ble_eq_true rfl⟩ (Nat.le_of_ble_eq_true rfl) ⟨rfl, rfl⟩ ⟨Nat.le_of_ble_eq_true rfl, Nat.le_of_ble_eq_true rfl⟩ rfl ?_
    refine zq_aload_n (pc' := 94) C dX6_distanceNow_93 rfl rfl rfl ?_
    replace hF := zq_bd hF; obtain ⟨v_40, e_41, hF⟩ := hF
    refine zq_getR (j := 18) (pc' := 97) C zq_K6 zq_in6w (Or.inl wd_503) (by decide) rfl dX6_distanceNow_94 rfl e_41 ?_
    refine zq_iload_n (pc' := 98) C dX6_distanceNow_97 rfl rfl rfl ?_
    replace hF := zq_bd hF; obtain ⟨v_42, e_43, hF⟩ := hF
    refine zq_iaload (pc' := 99) C dX6_distanceNow_98 rfl e_43 ?_
    have hF := Option.some.inj hF
    subst hF
    exact hE _ _ _ _ (Nat.le_of_ble_eq_true rfl) (Nat.le_of_ble_eq_true rfl) dX6_distanceNow_99
  have hF := zq_ifn hF c_24
  by_cases c_44 : x1 = 3
  · have hF := zq_ifp hF c_44
    refine zq_tsIn C 100 dX6_distanceNow_12 (by rw [c_44]; decide) (by rw [c_44]; decide) (by rw [c_44]; rfl) (by decide) ?_
    refine zq_aload_n (pc' := 101) C dX6_distanceNow_100 rfl rfl rfl ?_
    refine zq_aload_n (pc' := 102) C dX6_distanceNow_101 rfl rfl rfl ?_
    replace hF := zq_bd hF; obtain ⟨v_45, e_46, hF⟩ := hF
    refine zq_getR (j := 0) (pc' := 105) C zq_K6 zq_in6w (Or.inl wd_448) (by decide) rfl dX6_distanceNow_102 rfl e_46 ?_
    refine zq_iconst (pc' := 106) C 1 dX6_distanceNow_105 rfl (by decide) ?_
    replace hF := zq_bd hF; obtain ⟨v_47, e_48, hF⟩ := hF
    refine zq_iaload (pc' := 107) C dX6_distanceNow_106 rfl e_48 ?_
    refine zq_aload_n (pc' := 108) C dX6_distanceNow_107 rfl rfl rfl ?_
    replace hF := zq_bd hF; obtain ⟨v_49, e_50, hF⟩ := hF
    refine zq_getR (j := 0) (pc' := 111) C zq_K6 zq_in6w (Or.inl wd_448) (by decide) rfl dX6_distanceNow_108 rfl e_50 ?_
    refine zq_iconst (pc' := 112) C 3 dX6_distanceNow_111 rfl (by decide) ?_
    replace hF := zq_bd hF; obtain ⟨v_51, e_52, hF⟩ := hF
    refine zq_iaload (pc' := 113) C dX6_distanceNow_112 rfl e_52 ?_
    replace hF := zq_ck_e hF; obtain ⟨e_55, hF⟩ := hF
    replace hF := zq_bd hF; obtain ⟨v_53, e_54, hF⟩ := hF
    refine zq_cV (pc' := 116) C (c_X6_goFrom e_54) yv_X6_goFrom wd_507 zq_K6 e_55 dX6_distanceNow_113 rfl rfl rfl ⟨Nat.le_of_ble_eq_true rfl, Nat.le_of_ble_eq_true rfl⟩ (Nat.le_of_ble_eq_true rfl) ⟨rfl, rfl⟩ ⟨Nat.le_of_ble_eq_true rfl, Nat.le_of_ble_eq_true rfl⟩ rfl ?_
    refine zq_aload_n (pc' := 117) C dX6_distanceNow_116 rfl rfl rfl ?_
    replace hF := zq_bd hF; obtain ⟨v_56, e_57, hF⟩ := hF
    refine zq_getR (j := 19) (pc' := 120) C zq_K6 zq_in6w (Or.inl wd_504) (by decide) rfl dX6_distanceNow_117 rfl e_57 ?_
    refine zq_iload_n (pc' := 121) C dX6_distanceNow_120 rfl rfl rfl ?_
    replace hF := zq_bd hF; obtain ⟨v_58, e_59, hF⟩ := hF
    refine zq_iaload (pc' := 122) C dX6_distanceNow_121 rfl e_59 ?_
    have hF := Option.some.inj hF
    subst hF
    exact hE _ _ _ _ (Nat.le_of_ble_eq_true rfl) (Nat.le_of_ble_eq_true rfl) dX6_distanceNow_122
  have hF := zq_ifn hF c_44
  by_cases c_60 : x1 = 4
  · have hF := zq_ifp hF c_60
    refine zq_tsIn C 123 dX6_distanceNow_12 (by rw [c_60]; decide) (by rw [c_60]; decide) (by rw [c_60]; rfl) (by decide) ?_
    refine zq_aload_n (pc' := 124) C dX6_distanceNow_123 rfl rfl rfl ?_
    replace hF := zq_ck_e hF; obtain ⟨e_63, hF⟩ := hF
    replace hF := zq_bd hF; obtain ⟨v_61, e_62, hF⟩ := hF
    refine zq_cV (pc' := 127) C (c_X6_nextFlip e_62) yv_X6_nextFlip wd_589 zq_K6 e_63 dX6_distanceNow_124 rfl rfl rfl ⟨Nat.le_of_ble_eq_true rfl, Nat.le_of_ble_eq_true rfl⟩ (Nat.le_of_ble_eq_true rfl) ⟨rfl, rfl⟩ ⟨Nat.le_of_ble_eq_true rfl, Nat.le_of_ble_eq_true rfl⟩ rfl ?_
    have hF := Option.some.inj hF
    subst hF
    exact hE _ _ _ _ (Nat.le_of_ble_eq_true rfl) (Nat.le_of_ble_eq_true rfl) dX6_distanceNow_127
  have hF := zq_ifn hF c_60
  refine zq_tsOut C 128 dX6_distanceNow_12 (zq_out (n := 5) rfl rfl (by decide) (fun k hk => match k, hk with | 0, _ => c_8 | 1, _ => c_16 | 2, _ => c_24 | 3, _ => c_44 | 4, _ => c_60 | k + 5, hk => absurd hk (by omega))) (by decide) ?_
  refine zq_aload_n (pc' := 129) C dX6_distanceNow_128 rfl rfl rfl ?_
  replace hF := zq_bd hF; obtain ⟨v_64, e_65, hF⟩ := hF
  refine zq_getR (j := 0) (pc' := 132) C zq_K6 zq_in6w (Or.inl wd_448) (by decide) rfl dX6_distanceNow_129 rfl e_65 ?_
  refine zq_iconst (pc' := 133) C 1 dX6_distanceNow_132 rfl (by decide) ?_
  replace hF := zq_bd hF; obtain ⟨v_66, e_67, hF⟩ := hF
  refine zq_iaload (pc' := 134) C dX6_distanceNow_133 rfl e_67 ?_
  refine zq_aload_n (pc' := 135) C dX6_distanceNow_134 rfl rfl rfl ?_
  replace hF := zq_bd hF; obtain ⟨v_68, e_69, hF⟩ := hF
  refine zq_getR (j := 0) (pc' := 138) C zq_K6 zq_in6w (Or.inl wd_448) (by decide) rfl dX6_distanceNow_135 rfl e_69 ?_
  refine zq_iconst (pc' := 139) C 2 dX6_distanceNow_138 rfl (by decide) ?_
  replace hF := zq_bd hF; obtain ⟨v_70, e_71, hF⟩ := hF
  refine zq_iaload (pc' := 140) C dX6_distanceNow_139 rfl e_71 ?_
  refine zq_iand (pc' := 141) C dX6_distanceNow_140 rfl ?_
  replace hF := zq_bd hF; obtain ⟨v_72, e_73, hF⟩ := hF
  refine zq_cS (pc' := 144) C (c_X6_ones e_73) ys_X6_ones wd_579 dX6_distanceNow_141 rfl rfl rfl ⟨Nat.le_of_ble_eq_true rfl, Nat.le_of_ble_eq_true rfl⟩ (Nat.le_of_ble_eq_true rfl) ⟨rfl, rfl⟩ ⟨Nat.le_of_ble_eq_true rfl, Nat.le_of_ble_eq_true rfl⟩ rfl ?_
  have hF := Option.some.inj hF
  subst hF
  exact hE _ _ _ _ (Nat.le_of_ble_eq_true rfl) (Nat.le_of_ble_eq_true rfl) dX6_distanceNow_144
theorem c_X6_distanceNow {h : zq_H} {t : Nat} {x1 : Int32} {out : (Int32 × zq_H)} (hF : f_X6_distanceNow h t x1 = some out) : zq_M none yX6_distanceNow (Cond.code yX6_distanceNow cX6_distanceNow 3 (some .int) :: zq_all) rm_X6_distanceNow [.ref t, .int x1] h (some (.int out.1)) out.2 := zq_met2 (own := RX6) (by decide +kernel) rfl (Nat.le_of_ble_eq_true rfl) rfl ⟨.int, rfl, rfl⟩ (fun X C T hn hE => v_X6_distanceNow C T hn hF hE)
theorem yv_X6_distanceNow : zq_calV yX6_distanceNow RX6 cX6_distanceNow 3 (some .int) 1 := ⟨by decide +kernel, wd_657, wd_659, wd_660, wd_458⟩
def f_X6_distance (h : zq_H) (t : Nat) (x1 : Int32) : Option (Int32 × zq_H) := (Option.bind (f_X6_within h x1 0 5) fun v_1 => (if v_1 = false then (Option.bind (zq_pi h t 6 7 1) fun h_4 => some ((0, h_4))) else (Option.bind (zq_pi h t 6 7 0) fun h_9 => (zq_ck h_9 t 6 fun _ => (Option.bind (f_X6_distanceNow h_9 t x1) fun v_14 => some ((v_14.1, v_14.2)))))))
abbrev rm_X6_distance : Room := { frames := 7, cells := 0, slots := 0, locals := 160 }
theorem dX6_distance_0 : decode cX6_distance 0 = .ok (.aload_n 0, 1) := by decide +kernel
theorem dX6_distance_1 : decode cX6_distance 1 = .ok (.iload_n 1, 1) := by decide +kernel
theorem dX6_distance_2 : decode cX6_distance 2 = .ok (.iconst 0, 1) := by decide +kernel
theorem dX6_distance_3 : decode cX6_distance 3 = .ok (.iconst 5, 1) := by decide +kernel
theorem dX6_distance_4 : decode cX6_distance 4 = .ok (.invokestatic 66, 3) := by decide +kernel
theorem dX6_distance_7 : decode cX6_distance 7 = .ok (.ifCond .eq 7, 3) := by decide +kernel
theorem dX6_distance_10 : decode cX6_distance 10 = .ok (.iconst 0, 1) := by decide +kernel
theorem dX6_distance_11 : decode cX6_distance 11 = .ok (.goto 4, 3) := by decide +kernel
theorem dX6_distance_14 : decode cX6_distance 14 = .ok (.iconst 1, 1) := by decide +kernel
theorem dX6_distance_15 : decode cX6_distance 15 = .ok (.putfield 56, 3) := by decide +kernel
theorem dX6_distance_18 : decode cX6_distance 18 = .ok (.aload_n 0, 1) := by decide +kernel
theorem dX6_distance_19 : decode cX6_distance 19 = .ok (.getfield 56, 3) := by decide +kernel
theorem dX6_distance_22 : decode cX6_distance 22 = .ok (.ifCond .le 7, 3) := by decide +kernel
theorem dX6_distance_25 : decode cX6_distance 25 = .ok (.iconst 0, 1) := by decide +kernel
theorem dX6_distance_26 : decode cX6_distance 26 = .ok (.goto 8, 3) := by decide +kernel
theorem dX6_distance_29 : decode cX6_distance 29 = .ok (.aload_n 0, 1) := by decide +kernel
theorem dX6_distance_30 : decode cX6_distance 30 = .ok (.iload_n 1, 1) := by decide +kernel
theorem dX6_distance_31 : decode cX6_distance 31 = .ok (.invokevirtual 213, 3) := by decide +kernel
theorem dX6_distance_34 : decode cX6_distance 34 = .ok (.ireturn, 1) := by decide +kernel
set_option maxRecDepth 100000 in
set_option maxHeartbeats 4000000 in
theorem v_X6_distance {X : zq_X} (C : zq_C X RX6 cX6_distance 2 zq_all rm_X6_distance) {h : zq_H} {t : Nat} {x1 : Int32} (T : zq_T X none) (hn : X.2.2.2.2.2.2.2.2.1.name = yX6_distance.name) {out : (Int32 × zq_H)} (hF : f_X6_distance h t x1 = some out) (hE : zq_End X cX6_distance 0 0 (some (.int out.1)) out.2) : zq_W X 0 0 h 0 [(0, .ref t), (1, .int x1)] [] := by
  unfold f_X6_distance at hF
  refine zq_aload_n (pc' := 1) C dX6_distance_0 rfl rfl rfl ?_
  refine zq_iload_n (pc' := 2) C dX6_distance_1 rfl rfl rfl ?_
  refine zq_iconst (pc' := 3) C 0 dX6_distance_2 rfl (by decide) ?_
  refine zq_iconst (pc' := 4) C 5 dX6_distance_3 rfl (by decide) ?_
  replace hF := zq_bd hF; obtain ⟨v_1, e_2, hF⟩ := hF
  refine zq_cS (pc' := 7) C (c_X6_within e_2) ys_X6_within wd_548 dX6_distance_4 rfl rfl rfl ⟨Nat.le_of_ble_eq_true rfl, Nat.le_of_ble_eq_true rfl⟩ (Nat.le_of_ble_eq_true rfl) ⟨rfl, rfl⟩ ⟨Nat.le_of_ble_eq_true rfl, Nat.le_of_ble_eq_true rfl⟩ rfl ?_
  refine zq_if_eq (pc' := 10) C 14 dX6_distance_7 (by decide) rfl (fun c_3 => ?_) (fun c_3 => ?_)
  · have hF := (zq_ifp hF (zq_b0.mp c_3))
    skip
    refine zq_iconst (pc' := 15) C 1 dX6_distance_14 rfl (by decide) ?_
    replace hF := zq_bd hF; obtain ⟨h_4, e_5, hF⟩ := hF
    refine zq_putI (j := 7) (pc' := 18) C zq_K6 zq_in6w (Or.inl wd_542) (by decide) rfl rfl dX6_distance_15 rfl (Or.inl rfl) e_5 ?_
    refine zq_aload_n (pc' := 19) C dX6_distance_18 rfl rfl rfl ?_
    have e_7 : zq_gi h_4 t 6 7 = some 1 := zq_gi_pi e_5
    refine zq_getI (j := 7) (pc' := 22) C zq_K6 zq_in6w (Or.inl wd_542) (by decide) rfl dX6_distance_19 rfl e_7 ?_
    refine zq_if_le (pc' := 25) C 29 dX6_distance_22 (by decide) rfl (fun c_8 => absurd c_8 (by decide)) (fun _ => ?_)
    refine zq_iconst (pc' := 26) C 0 dX6_distance_25 rfl (by decide) ?_
    refine zq_goto C 34 dX6_distance_26 (by decide) ?_
    have hF := Option.some.inj hF
    subst hF
    exact hE _ _ _ _ (Nat.le_of_ble_eq_true rfl) (Nat.le_of_ble_eq_true rfl) dX6_distance_34
  · have hF := (zq_ifn hF (fun q => c_3 (zq_b0.mpr q)))
    refine zq_iconst (pc' := 11) C 0 dX6_distance_10 rfl (by decide) ?_
    refine zq_goto C 15 dX6_distance_11 (by decide) ?_
    replace hF := zq_bd hF; obtain ⟨h_9, e_10, hF⟩ := hF
    refine zq_putI (j := 7) (pc' := 18) C zq_K6 zq_in6w (Or.inl wd_542) (by decide) rfl rfl dX6_distance_15 rfl (Or.inl rfl) e_10 ?_
    refine zq_aload_n (pc' := 19) C dX6_distance_18 rfl rfl rfl ?_
    have e_12 : zq_gi h_9 t 6 7 = some 0 := zq_gi_pi e_10
    refine zq_getI (j := 7) (pc' := 22) C zq_K6 zq_in6w (Or.inl wd_542) (by decide) rfl dX6_distance_19 rfl e_12 ?_
    refine zq_if_le (pc' := 25) C 29 dX6_distance_22 (by decide) rfl (fun _ => ?_) (fun c_13 => absurd c_13 (by decide))
    refine zq_aload_n (pc' := 30) C dX6_distance_29 rfl rfl rfl ?_
    refine zq_iload_n (pc' := 31) C dX6_distance_30 rfl rfl rfl ?_
    replace hF := zq_ck_e hF; obtain ⟨e_16, hF⟩ := hF
    replace hF := zq_bd hF; obtain ⟨v_14, e_15, hF⟩ := hF
    refine zq_cV (pc' := 34) C (c_X6_distanceNow e_15) yv_X6_distanceNow wd_658 zq_K6 e_16 dX6_distance_31 rfl rfl rfl ⟨Nat.le_of_ble_eq_true rfl, Nat.le_of_ble_eq_true rfl⟩ (Nat.le_of_ble_eq_true rfl) ⟨rfl, rfl⟩ ⟨Nat.le_of_ble_eq_true rfl, Nat.le_of_ble_eq_true rfl⟩ rfl ?_
    have hF := Option.some.inj hF
    subst hF
    exact hE _ _ _ _ (Nat.le_of_ble_eq_true rfl) (Nat.le_of_ble_eq_true rfl) dX6_distance_34
theorem c_X6_distance {h : zq_H} {t : Nat} {x1 : Int32} {out : (Int32 × zq_H)} (hF : f_X6_distance h t x1 = some out) : zq_M none yX6_distance (Cond.code yX6_distance cX6_distance 2 (some .int) :: zq_all) rm_X6_distance [.ref t, .int x1] h (some (.int out.1)) out.2 := zq_met2 (own := RX6) (by decide +kernel) rfl (Nat.le_of_ble_eq_true rfl) rfl ⟨.int, rfl, rfl⟩ (fun X C T hn hE => v_X6_distance C T hn hF hE)
theorem yv_X6_distance : zq_calV yX6_distance RX6 cX6_distance 2 (some .int) 1 := ⟨by decide +kernel, wd_661, wd_897, wd_898, wd_458⟩
def f_X6_flippedThen (h : zq_H) (t : Nat) (x1 : Int32) : Option (Int32 × zq_H) := (Option.bind (zq_gr h t 6 0) fun v_1 => (Option.bind (zq_ai h v_1 1) fun v_3 => (Option.bind (f_X6_has h v_3 x1) fun v_5 => (if v_5 = false then some (((-1), h)) else (Option.bind (zq_gr h t 6 0) fun v_8 => (Option.bind (zq_ai h v_8 1) fun v_10 => (zq_ck h t 6 fun _ => (Option.bind (f_X6_behindFlip h t v_10 x1) fun v_12 => (zq_ck h t 6 fun _ => (Option.bind (f_X6_freeFrom h t v_12) fun v_15 => some ((v_15.1, v_15.2))))))))))))
abbrev rm_X6_flippedThen : Room := { frames := 5, cells := 0, slots := 0, locals := 116 }
theorem dX6_flippedThen_0 : decode cX6_flippedThen 0 = .ok (.aload_n 0, 1) := by decide +kernel
theorem dX6_flippedThen_1 : decode cX6_flippedThen 1 = .ok (.getfield 7, 3) := by decide +kernel
theorem dX6_flippedThen_4 : decode cX6_flippedThen 4 = .ok (.iconst 1, 1) := by decide +kernel
theorem dX6_flippedThen_5 : decode cX6_flippedThen 5 = .ok (.iaload, 1) := by decide +kernel
theorem dX6_flippedThen_6 : decode cX6_flippedThen 6 = .ok (.iload_n 1, 1) := by decide +kernel
theorem dX6_flippedThen_7 : decode cX6_flippedThen 7 = .ok (.invokestatic 74, 3) := by decide +kernel
theorem dX6_flippedThen_10 : decode cX6_flippedThen 10 = .ok (.ifCond .eq 21, 3) := by decide +kernel
theorem dX6_flippedThen_13 : decode cX6_flippedThen 13 = .ok (.aload_n 0, 1) := by decide +kernel
theorem dX6_flippedThen_14 : decode cX6_flippedThen 14 = .ok (.aload_n 0, 1) := by decide +kernel
theorem dX6_flippedThen_15 : decode cX6_flippedThen 15 = .ok (.aload_n 0, 1) := by decide +kernel
theorem dX6_flippedThen_16 : decode cX6_flippedThen 16 = .ok (.getfield 7, 3) := by decide +kernel
theorem dX6_flippedThen_19 : decode cX6_flippedThen 19 = .ok (.iconst 1, 1) := by decide +kernel
theorem dX6_flippedThen_20 : decode cX6_flippedThen 20 = .ok (.iaload, 1) := by decide +kernel
theorem dX6_flippedThen_21 : decode cX6_flippedThen 21 = .ok (.iload_n 1, 1) := by decide +kernel
theorem dX6_flippedThen_22 : decode cX6_flippedThen 22 = .ok (.invokevirtual 91, 3) := by decide +kernel
theorem dX6_flippedThen_25 : decode cX6_flippedThen 25 = .ok (.invokevirtual 210, 3) := by decide +kernel
theorem dX6_flippedThen_28 : decode cX6_flippedThen 28 = .ok (.goto 4, 3) := by decide +kernel
theorem dX6_flippedThen_31 : decode cX6_flippedThen 31 = .ok (.iconst (-1), 1) := by decide +kernel
theorem dX6_flippedThen_32 : decode cX6_flippedThen 32 = .ok (.ireturn, 1) := by decide +kernel
set_option maxRecDepth 100000 in
set_option maxHeartbeats 4000000 in
theorem v_X6_flippedThen {X : zq_X} (C : zq_C X RX6 cX6_flippedThen 2 zq_all rm_X6_flippedThen) {h : zq_H} {t : Nat} {x1 : Int32} (T : zq_T X none) (hn : X.2.2.2.2.2.2.2.2.1.name = yX6_flippedThen.name) {out : (Int32 × zq_H)} (hF : f_X6_flippedThen h t x1 = some out) (hE : zq_End X cX6_flippedThen 0 0 (some (.int out.1)) out.2) : zq_W X 0 0 h 0 [(0, .ref t), (1, .int x1)] [] := by
  unfold f_X6_flippedThen at hF
  refine zq_aload_n (pc' := 1) C dX6_flippedThen_0 rfl rfl rfl ?_
  replace hF := zq_bd hF; obtain ⟨v_1, e_2, hF⟩ := hF
  refine zq_getR (j := 0) (pc' := 4) C zq_K6 zq_in6w (Or.inl wd_448) (by decide) rfl dX6_flippedThen_1 rfl e_2 ?_
  refine zq_iconst (pc' := 5) C 1 dX6_flippedThen_4 rfl (by decide) ?_
  replace hF := zq_bd hF; obtain ⟨v_3, e_4, hF⟩ := hF
  refine zq_iaload (pc' := 6) C dX6_flippedThen_5 rfl e_4 ?_
  refine zq_iload_n (pc' := 7) C dX6_flippedThen_6 rfl rfl rfl ?_
  replace hF := zq_bd hF; obtain ⟨v_5, e_6, hF⟩ := hF
  refine zq_cS (pc' := 10) C (c_X6_has e_6) ys_X6_has wd_459 dX6_flippedThen_7 rfl rfl rfl ⟨Nat.le_of_ble_eq_true rfl, Nat.le_of_ble_eq_true rfl⟩ (Nat.le_of_ble_eq_true rfl) ⟨rfl, rfl⟩ ⟨Nat.le_of_ble_eq_true rfl, Nat.le_of_ble_eq_true rfl⟩ rfl ?_
  refine zq_if_eq (pc' := 13) C 31 dX6_flippedThen_10 (by decide) rfl (fun c_7 => ?_) (fun c_7 => ?_)
  · have hF := (zq_ifp hF (zq_b0.mp c_7))
    skip
    refine zq_iconst (pc' := 32) C (-1) dX6_flippedThen_31 rfl (by decide) ?_
    have hF := Option.some.inj hF
    subst hF
    exact hE _ _ _ _ (Nat.le_of_ble_eq_true rfl) (Nat.le_of_ble_eq_true rfl) dX6_flippedThen_32
  · have hF := (zq_ifn hF (fun q => c_7 (zq_b0.mpr q)))
    refine zq_aload_n (pc' := 14) C dX6_flippedThen_13 rfl rfl rfl ?_
    refine zq_aload_n (pc' := 15) C dX6_flippedThen_14 rfl rfl rfl ?_
    refine zq_aload_n (pc' := 16) C dX6_flippedThen_15 rfl rfl rfl ?_
    replace hF := zq_bd hF; obtain ⟨v_8, e_9, hF⟩ := hF
    refine zq_getR (j := 0) (pc' := 19) C zq_K6 zq_in6w (Or.inl wd_448) (by decide) rfl dX6_flippedThen_16 rfl e_9 ?_
    refine zq_iconst (pc' := 20) C 1 dX6_flippedThen_19 rfl (by decide) ?_
    replace hF := zq_bd hF; obtain ⟨v_10, e_11, hF⟩ := hF
    refine zq_iaload (pc' := 21) C dX6_flippedThen_20 rfl e_11 ?_
    refine zq_iload_n (pc' := 22) C dX6_flippedThen_21 rfl rfl rfl ?_
    replace hF := zq_ck_e hF; obtain ⟨e_14, hF⟩ := hF
    replace hF := zq_bd hF; obtain ⟨v_12, e_13, hF⟩ := hF
    refine zq_cV (pc' := 25) C (c_X6_behindFlip e_13) yv_X6_behindFlip wd_479 zq_K6 e_14 dX6_flippedThen_22 rfl rfl rfl ⟨Nat.le_of_ble_eq_true rfl, Nat.le_of_ble_eq_true rfl⟩ (Nat.le_of_ble_eq_true rfl) ⟨rfl, rfl⟩ ⟨Nat.le_of_ble_eq_true rfl, Nat.le_of_ble_eq_true rfl⟩ rfl ?_
    replace hF := zq_ck_e hF; obtain ⟨e_17, hF⟩ := hF
    replace hF := zq_bd hF; obtain ⟨v_15, e_16, hF⟩ := hF
    refine zq_cV (pc' := 28) C (c_X6_freeFrom e_16) yv_X6_freeFrom wd_654 zq_K6 e_17 dX6_flippedThen_25 rfl rfl rfl ⟨Nat.le_of_ble_eq_true rfl, Nat.le_of_ble_eq_true rfl⟩ (Nat.le_of_ble_eq_true rfl) ⟨rfl, rfl⟩ ⟨Nat.le_of_ble_eq_true rfl, Nat.le_of_ble_eq_true rfl⟩ rfl ?_
    refine zq_goto C 32 dX6_flippedThen_28 (by decide) ?_
    have hF := Option.some.inj hF
    subst hF
    exact hE _ _ _ _ (Nat.le_of_ble_eq_true rfl) (Nat.le_of_ble_eq_true rfl) dX6_flippedThen_32
theorem c_X6_flippedThen {h : zq_H} {t : Nat} {x1 : Int32} {out : (Int32 × zq_H)} (hF : f_X6_flippedThen h t x1 = some out) : zq_M none yX6_flippedThen (Cond.code yX6_flippedThen cX6_flippedThen 2 (some .int) :: zq_all) rm_X6_flippedThen [.ref t, .int x1] h (some (.int out.1)) out.2 := zq_met2 (own := RX6) (by decide +kernel) rfl (Nat.le_of_ble_eq_true rfl) rfl ⟨.int, rfl, rfl⟩ (fun X C T hn hE => v_X6_flippedThen C T hn hF hE)
theorem yv_X6_flippedThen : zq_calV yX6_flippedThen RX6 cX6_flippedThen 2 (some .int) 1 := ⟨by decide +kernel, wd_662, wd_664, wd_665, wd_458⟩
def f_X6_ifFlipped (h : zq_H) (t : Nat) (x1 : Int32) (x2 : Int32) : Option (Int32 × zq_H) := (zq_ck h t 6 fun _ => (Option.bind (f_X6_isDiagonal h t x1 x2) fun v_1 => (if v_1 = false then (Option.bind (zq_pi h t 6 7 1) fun h_5 => some ((0, h_5))) else (Option.bind (zq_pi h t 6 7 0) fun h_10 => (zq_ck h_10 t 6 fun _ => (Option.bind (f_X6_numberOf h_10 t x1 x2) fun v_15 => (zq_ck h_10 t 6 fun _ => (Option.bind (f_X6_flippedThen h_10 t v_15) fun v_18 => some ((v_18.1, v_18.2))))))))))
abbrev rm_X6_ifFlipped : Room := { frames := 6, cells := 0, slots := 0, locals := 137 }
theorem dX6_ifFlipped_0 : decode cX6_ifFlipped 0 = .ok (.aload_n 0, 1) := by decide +kernel
theorem dX6_ifFlipped_1 : decode cX6_ifFlipped 1 = .ok (.aload_n 0, 1) := by decide +kernel
theorem dX6_ifFlipped_2 : decode cX6_ifFlipped 2 = .ok (.iload_n 1, 1) := by decide +kernel
theorem dX6_ifFlipped_3 : decode cX6_ifFlipped 3 = .ok (.iload_n 2, 1) := by decide +kernel
theorem dX6_ifFlipped_4 : decode cX6_ifFlipped 4 = .ok (.invokevirtual 147, 3) := by decide +kernel
theorem dX6_ifFlipped_7 : decode cX6_ifFlipped 7 = .ok (.ifCond .eq 7, 3) := by decide +kernel
theorem dX6_ifFlipped_10 : decode cX6_ifFlipped 10 = .ok (.iconst 0, 1) := by decide +kernel
theorem dX6_ifFlipped_11 : decode cX6_ifFlipped 11 = .ok (.goto 4, 3) := by decide +kernel
theorem dX6_ifFlipped_14 : decode cX6_ifFlipped 14 = .ok (.iconst 1, 1) := by decide +kernel
theorem dX6_ifFlipped_15 : decode cX6_ifFlipped 15 = .ok (.putfield 56, 3) := by decide +kernel
theorem dX6_ifFlipped_18 : decode cX6_ifFlipped 18 = .ok (.aload_n 0, 1) := by decide +kernel
theorem dX6_ifFlipped_19 : decode cX6_ifFlipped 19 = .ok (.getfield 56, 3) := by decide +kernel
theorem dX6_ifFlipped_22 : decode cX6_ifFlipped 22 = .ok (.ifCond .le 7, 3) := by decide +kernel
theorem dX6_ifFlipped_25 : decode cX6_ifFlipped 25 = .ok (.iconst 0, 1) := by decide +kernel
theorem dX6_ifFlipped_26 : decode cX6_ifFlipped 26 = .ok (.goto 13, 3) := by decide +kernel
theorem dX6_ifFlipped_29 : decode cX6_ifFlipped 29 = .ok (.aload_n 0, 1) := by decide +kernel
theorem dX6_ifFlipped_30 : decode cX6_ifFlipped 30 = .ok (.aload_n 0, 1) := by decide +kernel
theorem dX6_ifFlipped_31 : decode cX6_ifFlipped 31 = .ok (.iload_n 1, 1) := by decide +kernel
theorem dX6_ifFlipped_32 : decode cX6_ifFlipped 32 = .ok (.iload_n 2, 1) := by decide +kernel
theorem dX6_ifFlipped_33 : decode cX6_ifFlipped 33 = .ok (.invokevirtual 70, 3) := by decide +kernel
theorem dX6_ifFlipped_36 : decode cX6_ifFlipped 36 = .ok (.invokevirtual 216, 3) := by decide +kernel
theorem dX6_ifFlipped_39 : decode cX6_ifFlipped 39 = .ok (.ireturn, 1) := by decide +kernel
set_option maxRecDepth 100000 in
set_option maxHeartbeats 4000000 in
theorem v_X6_ifFlipped {X : zq_X} (C : zq_C X RX6 cX6_ifFlipped 3 zq_all rm_X6_ifFlipped) {h : zq_H} {t : Nat} {x1 : Int32} {x2 : Int32} (T : zq_T X none) (hn : X.2.2.2.2.2.2.2.2.1.name = yX6_ifFlipped.name) {out : (Int32 × zq_H)} (hF : f_X6_ifFlipped h t x1 x2 = some out) (hE : zq_End X cX6_ifFlipped 0 0 (some (.int out.1)) out.2) : zq_W X 0 0 h 0 [(0, .ref t), (1, .int x1), (2, .int x2)] [] := by
  unfold f_X6_ifFlipped at hF
  refine zq_aload_n (pc' := 1) C dX6_ifFlipped_0 rfl rfl rfl ?_
  refine zq_aload_n (pc' := 2) C dX6_ifFlipped_1 rfl rfl rfl ?_
  refine zq_iload_n (pc' := 3) C dX6_ifFlipped_2 rfl rfl rfl ?_
  refine zq_iload_n (pc' := 4) C dX6_ifFlipped_3 rfl rfl rfl ?_
  replace hF := zq_ck_e hF; obtain ⟨e_3, hF⟩ := hF
  replace hF := zq_bd hF; obtain ⟨v_1, e_2, hF⟩ := hF
  refine zq_cV (pc' := 7) C (c_X6_isDiagonal e_2) yv_X6_isDiagonal wd_567 zq_K6 e_3 dX6_ifFlipped_4 rfl rfl rfl ⟨Nat.le_of_ble_eq_true rfl, Nat.le_of_ble_eq_true rfl⟩ (Nat.le_of_ble_eq_true rfl) ⟨rfl, rfl⟩ ⟨Nat.le_of_ble_eq_true rfl, Nat.le_of_ble_eq_true rfl⟩ rfl ?_
  refine zq_if_eq (pc' := 10) C 14 dX6_ifFlipped_7 (by decide) rfl (fun c_4 => ?_) (fun c_4 => ?_)
  · have hF := (zq_ifp hF (zq_b0.mp c_4))
    skip
    refine zq_iconst (pc' := 15) C 1 dX6_ifFlipped_14 rfl (by decide) ?_
    replace hF := zq_bd hF; obtain ⟨h_5, e_6, hF⟩ := hF
    refine zq_putI (j := 7) (pc' := 18) C zq_K6 zq_in6w (Or.inl wd_542) (by decide) rfl rfl dX6_ifFlipped_15 rfl (Or.inl rfl) e_6 ?_
    refine zq_aload_n (pc' := 19) C dX6_ifFlipped_18 rfl rfl rfl ?_
    have e_8 : zq_gi h_5 t 6 7 = some 1 := zq_gi_pi e_6
    refine zq_getI (j := 7) (pc' := 22) C zq_K6 zq_in6w (Or.inl wd_542) (by decide) rfl dX6_ifFlipped_19 rfl e_8 ?_
    refine zq_if_le (pc' := 25) C 29 dX6_ifFlipped_22 (by decide) rfl (fun c_9 => absurd c_9 (by decide)) (fun _ => ?_)
    refine zq_iconst (pc' := 26) C 0 dX6_ifFlipped_25 rfl (by decide) ?_
    refine zq_goto C 39 dX6_ifFlipped_26 (by decide) ?_
    have hF := Option.some.inj hF
    subst hF
    exact hE _ _ _ _ (Nat.le_of_ble_eq_true rfl) (Nat.le_of_ble_eq_true rfl) dX6_ifFlipped_39
  · have hF := (zq_ifn hF (fun q => c_4 (zq_b0.mpr q)))
    refine zq_iconst (pc' := 11) C 0 dX6_ifFlipped_10 rfl (by decide) ?_
    refine zq_goto C 15 dX6_ifFlipped_11 (by decide) ?_
    replace hF := zq_bd hF; obtain ⟨h_10, e_11, hF⟩ := hF
    refine zq_putI (j := 7) (pc' := 18) C zq_K6 zq_in6w (Or.inl wd_542) (by decide) rfl rfl dX6_ifFlipped_15 rfl (Or.inl rfl) e_11 ?_
    refine zq_aload_n (pc' := 19) C dX6_ifFlipped_18 rfl rfl rfl ?_
    have e_13 : zq_gi h_10 t 6 7 = some 0 := zq_gi_pi e_11
    refine zq_getI (j := 7) (pc' := 22) C zq_K6 zq_in6w (Or.inl wd_542) (by decide) rfl dX6_ifFlipped_19 rfl e_13 ?_
    refine zq_if_le (pc' := 25) C 29 dX6_ifFlipped_22 (by decide) rfl (fun _ => ?_) (fun c_14 => absurd c_14 (by decide))
    refine zq_aload_n (pc' := 30) C dX6_ifFlipped_29 rfl rfl rfl ?_
    refine zq_aload_n (pc' := 31) C dX6_ifFlipped_30 rfl rfl rfl ?_
    refine zq_iload_n (pc' := 32) C dX6_ifFlipped_31 rfl rfl rfl ?_
    refine zq_iload_n (pc' := 33) C dX6_ifFlipped_32 rfl rfl rfl ?_
    replace hF := zq_ck_e hF; obtain ⟨e_17, hF⟩ := hF
    replace hF := zq_bd hF; obtain ⟨v_15, e_16, hF⟩ := hF
    refine zq_cV (pc' := 36) C (c_X6_numberOf e_16) yv_X6_numberOf wd_455 zq_K6 e_17 dX6_ifFlipped_33 rfl rfl rfl ⟨Nat.le_of_ble_eq_true rfl, Nat.le_of_ble_eq_true rfl⟩ (Nat.le_of_ble_eq_true rfl) ⟨rfl, rfl⟩ ⟨Nat.le_of_ble_eq_true rfl, Nat.le_of_ble_eq_true rfl⟩ rfl ?_
    replace hF := zq_ck_e hF; obtain ⟨e_20, hF⟩ := hF
    replace hF := zq_bd hF; obtain ⟨v_18, e_19, hF⟩ := hF
    refine zq_cV (pc' := 39) C (c_X6_flippedThen e_19) yv_X6_flippedThen wd_663 zq_K6 e_20 dX6_ifFlipped_36 rfl rfl rfl ⟨Nat.le_of_ble_eq_true rfl, Nat.le_of_ble_eq_true rfl⟩ (Nat.le_of_ble_eq_true rfl) ⟨rfl, rfl⟩ ⟨Nat.le_of_ble_eq_true rfl, Nat.le_of_ble_eq_true rfl⟩ rfl ?_
    have hF := Option.some.inj hF
    subst hF
    exact hE _ _ _ _ (Nat.le_of_ble_eq_true rfl) (Nat.le_of_ble_eq_true rfl) dX6_ifFlipped_39
theorem c_X6_ifFlipped {h : zq_H} {t : Nat} {x1 : Int32} {x2 : Int32} {out : (Int32 × zq_H)} (hF : f_X6_ifFlipped h t x1 x2 = some out) : zq_M none yX6_ifFlipped (Cond.code yX6_ifFlipped cX6_ifFlipped 3 (some .int) :: zq_all) rm_X6_ifFlipped [.ref t, .int x1, .int x2] h (some (.int out.1)) out.2 := zq_met2 (own := RX6) (by decide +kernel) rfl (Nat.le_of_ble_eq_true rfl) rfl ⟨.int, rfl, rfl⟩ (fun X C T hn hE => v_X6_ifFlipped C T hn hF hE)
theorem yv_X6_ifFlipped : zq_calV yX6_ifFlipped RX6 cX6_ifFlipped 3 (some .int) 2 := ⟨by decide +kernel, wd_666, wd_902, wd_903, wd_458⟩
def f_X6_counted (h : zq_H) (t : Nat) (x1 : Int32) : Option Int32 := (if x1 = 0 then (Option.bind (zq_gr h t 6 0) fun v_2 => (Option.bind (zq_ai h v_2 0) fun v_4 => some (v_4))) else (if x1 = 1 then (Option.bind (zq_gi h t 6 9) fun v_7 => some (v_7)) else (if x1 = 2 then (Option.bind (zq_gi h t 6 13) fun v_10 => some (v_10)) else (if x1 = 3 then (Option.bind (zq_gi h t 6 16) fun v_13 => some (v_13)) else (if x1 = 4 then (Option.bind (zq_gi h t 6 17) fun v_16 => some (v_16)) else (if x1 = 5 then (Option.bind (zq_gr h t 6 0) fun v_19 => (Option.bind (zq_ai h v_19 4) fun v_21 => some (v_21))) else (if x1 = 6 then (Option.bind (zq_gr h t 6 0) fun v_24 => (Option.bind (zq_ai h v_24 3) fun v_26 => (Option.bind (f_X6_ones h v_26) fun v_28 => some (v_28)))) else (if x1 = 7 then (Option.bind (zq_gr h t 6 0) fun v_31 => (Option.bind (zq_ai h v_31 3) fun v_33 => some (v_33))) else (if x1 = 8 then (Option.bind (zq_gr h t 6 4) fun v_36 => (Option.bind (zq_ai h v_36 0) fun v_38 => (Option.bind (zq_gr h t 6 4) fun v_40 => (Option.bind (zq_ai h v_40 1) fun v_42 => some (v_38 + v_42))))) else (Option.bind (zq_gi h t 6 1) fun v_44 => some (v_44)))))))))))
abbrev rm_X6_counted : Room := { frames := 1, cells := 0, slots := 0, locals := 22 }
theorem dX6_counted_0 : decode cX6_counted 0 = .ok (.iload_n 1, 1) := by decide +kernel
theorem dX6_counted_1 : decode cX6_counted 1 = .ok (.tableswitch 116 0 8 #[51, 58, 63, 68, 73, 78, 85, 95, 102], 51) := by decide +kernel
theorem dX6_counted_52 : decode cX6_counted 52 = .ok (.aload_n 0, 1) := by decide +kernel
theorem dX6_counted_53 : decode cX6_counted 53 = .ok (.getfield 7, 3) := by decide +kernel
theorem dX6_counted_56 : decode cX6_counted 56 = .ok (.iconst 0, 1) := by decide +kernel
theorem dX6_counted_57 : decode cX6_counted 57 = .ok (.iaload, 1) := by decide +kernel
theorem dX6_counted_58 : decode cX6_counted 58 = .ok (.ireturn, 1) := by decide +kernel
theorem dX6_counted_59 : decode cX6_counted 59 = .ok (.aload_n 0, 1) := by decide +kernel
theorem dX6_counted_60 : decode cX6_counted 60 = .ok (.getfield 63, 3) := by decide +kernel
theorem dX6_counted_63 : decode cX6_counted 63 = .ok (.ireturn, 1) := by decide +kernel
theorem dX6_counted_64 : decode cX6_counted 64 = .ok (.aload_n 0, 1) := by decide +kernel
theorem dX6_counted_65 : decode cX6_counted 65 = .ok (.getfield 88, 3) := by decide +kernel
theorem dX6_counted_68 : decode cX6_counted 68 = .ok (.ireturn, 1) := by decide +kernel
theorem dX6_counted_69 : decode cX6_counted 69 = .ok (.aload_n 0, 1) := by decide +kernel
theorem dX6_counted_70 : decode cX6_counted 70 = .ok (.getfield 116, 3) := by decide +kernel
theorem dX6_counted_73 : decode cX6_counted 73 = .ok (.ireturn, 1) := by decide +kernel
theorem dX6_counted_74 : decode cX6_counted 74 = .ok (.aload_n 0, 1) := by decide +kernel
theorem dX6_counted_75 : decode cX6_counted 75 = .ok (.getfield 119, 3) := by decide +kernel
theorem dX6_counted_78 : decode cX6_counted 78 = .ok (.ireturn, 1) := by decide +kernel
theorem dX6_counted_79 : decode cX6_counted 79 = .ok (.aload_n 0, 1) := by decide +kernel
theorem dX6_counted_80 : decode cX6_counted 80 = .ok (.getfield 7, 3) := by decide +kernel
theorem dX6_counted_83 : decode cX6_counted 83 = .ok (.iconst 4, 1) := by decide +kernel
theorem dX6_counted_84 : decode cX6_counted 84 = .ok (.iaload, 1) := by decide +kernel
theorem dX6_counted_85 : decode cX6_counted 85 = .ok (.ireturn, 1) := by decide +kernel
theorem dX6_counted_86 : decode cX6_counted 86 = .ok (.aload_n 0, 1) := by decide +kernel
theorem dX6_counted_87 : decode cX6_counted 87 = .ok (.getfield 7, 3) := by decide +kernel
theorem dX6_counted_90 : decode cX6_counted 90 = .ok (.iconst 3, 1) := by decide +kernel
theorem dX6_counted_91 : decode cX6_counted 91 = .ok (.iaload, 1) := by decide +kernel
theorem dX6_counted_92 : decode cX6_counted 92 = .ok (.invokestatic 156, 3) := by decide +kernel
theorem dX6_counted_95 : decode cX6_counted 95 = .ok (.ireturn, 1) := by decide +kernel
theorem dX6_counted_96 : decode cX6_counted 96 = .ok (.aload_n 0, 1) := by decide +kernel
theorem dX6_counted_97 : decode cX6_counted 97 = .ok (.getfield 7, 3) := by decide +kernel
theorem dX6_counted_100 : decode cX6_counted 100 = .ok (.iconst 3, 1) := by decide +kernel
theorem dX6_counted_101 : decode cX6_counted 101 = .ok (.iaload, 1) := by decide +kernel
theorem dX6_counted_102 : decode cX6_counted 102 = .ok (.ireturn, 1) := by decide +kernel
theorem dX6_counted_103 : decode cX6_counted 103 = .ok (.aload_n 0, 1) := by decide +kernel
theorem dX6_counted_104 : decode cX6_counted 104 = .ok (.getfield 19, 3) := by decide +kernel
theorem dX6_counted_107 : decode cX6_counted 107 = .ok (.iconst 0, 1) := by decide +kernel
theorem dX6_counted_108 : decode cX6_counted 108 = .ok (.iaload, 1) := by decide +kernel
theorem dX6_counted_109 : decode cX6_counted 109 = .ok (.aload_n 0, 1) := by decide +kernel
theorem dX6_counted_110 : decode cX6_counted 110 = .ok (.getfield 19, 3) := by decide +kernel
theorem dX6_counted_113 : decode cX6_counted 113 = .ok (.iconst 1, 1) := by decide +kernel
theorem dX6_counted_114 : decode cX6_counted 114 = .ok (.iaload, 1) := by decide +kernel
theorem dX6_counted_115 : decode cX6_counted 115 = .ok (.iadd, 1) := by decide +kernel
theorem dX6_counted_116 : decode cX6_counted 116 = .ok (.ireturn, 1) := by decide +kernel
theorem dX6_counted_117 : decode cX6_counted 117 = .ok (.aload_n 0, 1) := by decide +kernel
theorem dX6_counted_118 : decode cX6_counted 118 = .ok (.getfield 60, 3) := by decide +kernel
theorem dX6_counted_121 : decode cX6_counted 121 = .ok (.ireturn, 1) := by decide +kernel
set_option maxRecDepth 100000 in
set_option maxHeartbeats 4000000 in
theorem v_X6_counted {X : zq_X} (C : zq_C X RX6 cX6_counted 2 zq_all rm_X6_counted) {h : zq_H} {t : Nat} {x1 : Int32} (T : zq_T X none) (hn : X.2.2.2.2.2.2.2.2.1.name = yX6_counted.name) {out : Int32} (hF : f_X6_counted h t x1 = some out) (hE : zq_End X cX6_counted 0 0 (some (.int out)) h) : zq_W X 0 0 h 0 [(0, .ref t), (1, .int x1)] [] := by
  unfold f_X6_counted at hF
  refine zq_iload_n (pc' := 1) C dX6_counted_0 rfl rfl rfl ?_
  by_cases c_1 : x1 = 0
  · have hF := zq_ifp hF c_1
    refine zq_tsIn C 52 dX6_counted_1 (by rw [c_1]; decide) (by rw [c_1]; decide) (by rw [c_1]; rfl) (by decide) ?_
    refine zq_aload_n (pc' := 53) C dX6_counted_52 rfl rfl rfl ?_
    replace hF := zq_bd hF; obtain ⟨v_2, e_3, hF⟩ := hF
    refine zq_getR (j := 0) (pc' := 56) C zq_K6 zq_in6w (Or.inl wd_448) (by decide) rfl dX6_counted_53 rfl e_3 ?_
    refine zq_iconst (pc' := 57) C 0 dX6_counted_56 rfl (by decide) ?_
    replace hF := zq_bd hF; obtain ⟨v_4, e_5, hF⟩ := hF
    refine zq_iaload (pc' := 58) C dX6_counted_57 rfl e_5 ?_
    have hF := Option.some.inj hF
    subst hF
    exact hE _ _ _ _ (Nat.le_of_ble_eq_true rfl) (Nat.le_of_ble_eq_true rfl) dX6_counted_58
  have hF := zq_ifn hF c_1
  by_cases c_6 : x1 = 1
  · have hF := zq_ifp hF c_6
    refine zq_tsIn C 59 dX6_counted_1 (by rw [c_6]; decide) (by rw [c_6]; decide) (by rw [c_6]; rfl) (by decide) ?_
    refine zq_aload_n (pc' := 60) C dX6_counted_59 rfl rfl rfl ?_
    replace hF := zq_bd hF; obtain ⟨v_7, e_8, hF⟩ := hF
    refine zq_getI (j := 9) (pc' := 63) C zq_K6 zq_in6w (Or.inl wd_446) (by decide) rfl dX6_counted_60 rfl e_8 ?_
    have hF := Option.some.inj hF
    subst hF
    exact hE _ _ _ _ (Nat.le_of_ble_eq_true rfl) (Nat.le_of_ble_eq_true rfl) dX6_counted_63
  have hF := zq_ifn hF c_6
  by_cases c_9 : x1 = 2
  · have hF := zq_ifp hF c_9
    refine zq_tsIn C 64 dX6_counted_1 (by rw [c_9]; decide) (by rw [c_9]; decide) (by rw [c_9]; rfl) (by decide) ?_
    refine zq_aload_n (pc' := 65) C dX6_counted_64 rfl rfl rfl ?_
    replace hF := zq_bd hF; obtain ⟨v_10, e_11, hF⟩ := hF
    refine zq_getI (j := 13) (pc' := 68) C zq_K6 zq_in6w (Or.inl wd_474) (by decide) rfl dX6_counted_65 rfl e_11 ?_
    have hF := Option.some.inj hF
    subst hF
    exact hE _ _ _ _ (Nat.le_of_ble_eq_true rfl) (Nat.le_of_ble_eq_true rfl) dX6_counted_68
  have hF := zq_ifn hF c_9
  by_cases c_12 : x1 = 3
  · have hF := zq_ifp hF c_12
    refine zq_tsIn C 69 dX6_counted_1 (by rw [c_12]; decide) (by rw [c_12]; decide) (by rw [c_12]; rfl) (by decide) ?_
    refine zq_aload_n (pc' := 70) C dX6_counted_69 rfl rfl rfl ?_
    replace hF := zq_bd hF; obtain ⟨v_13, e_14, hF⟩ := hF
    refine zq_getI (j := 16) (pc' := 73) C zq_K6 zq_in6w (Or.inl wd_511) (by decide) rfl dX6_counted_70 rfl e_14 ?_
    have hF := Option.some.inj hF
    subst hF
    exact hE _ _ _ _ (Nat.le_of_ble_eq_true rfl) (Nat.le_of_ble_eq_true rfl) dX6_counted_73
  have hF := zq_ifn hF c_12
  by_cases c_15 : x1 = 4
  · have hF := zq_ifp hF c_15
    refine zq_tsIn C 74 dX6_counted_1 (by rw [c_15]; decide) (by rw [c_15]; decide) (by rw [c_15]; rfl) (by decide) ?_
    refine zq_aload_n (pc' := 75) C dX6_counted_74 rfl rfl rfl ?_
    replace hF := zq_bd hF; obtain ⟨v_16, e_17, hF⟩ := hF
    refine zq_getI (j := 17) (pc' := 78) C zq_K6 zq_in6w (Or.inl wd_512) (by decide) rfl dX6_counted_75 rfl e_17 ?_
    have hF := Option.some.inj hF
    subst hF
    exact hE _ _ _ _ (Nat.le_of_ble_eq_true rfl) (Nat.le_of_ble_eq_true rfl) dX6_counted_78
  have hF := zq_ifn hF c_15
  by_cases c_18 : x1 = 5
  · have hF := zq_ifp hF c_18
    refine zq_tsIn C 79 dX6_counted_1 (by rw [c_18]; decide) (by rw [c_18]; decide) (by rw [c_18]; rfl) (by decide) ?_
    refine zq_aload_n (pc' := 80) C dX6_counted_79 rfl rfl rfl ?_
    replace hF := zq_bd hF; obtain ⟨v_19, e_20, hF⟩ := hF
    refine zq_getR (j := 0) (pc' := 83) C zq_K6 zq_in6w (Or.inl wd_448) (by decide) rfl dX6_counted_80 rfl e_20 ?_
    refine zq_iconst (pc' := 84) C 4 dX6_counted_83 rfl (by decide) ?_
    replace hF := zq_bd hF; obtain ⟨v_21, e_22, hF⟩ := hF
    refine zq_iaload (pc' := 85) C dX6_counted_84 rfl e_22 ?_
    have hF := Option.some.inj hF
    subst hF
    exact hE _ _ _ _ (Nat.le_of_ble_eq_true rfl) (Nat.le_of_ble_eq_true rfl) dX6_counted_85
  have hF := zq_ifn hF c_18
  by_cases c_23 : x1 = 6
  · have hF := zq_ifp hF c_23
    refine zq_tsIn C 86 dX6_counted_1 (by rw [c_23]; decide) (by rw [c_23]; decide) (by rw [c_23]; rfl) (by decide) ?_
    refine zq_aload_n (pc' := 87) C dX6_counted_86 rfl rfl rfl ?_
    replace hF := zq_bd hF; obtain ⟨v_24, e_25, hF⟩ := hF
    refine zq_getR (j := 0) (pc' := 90) C zq_K6 zq_in6w (Or.inl wd_448) (by decide) rfl dX6_counted_87 rfl e_25 ?_
    refine zq_iconst (pc' := 91) C 3 dX6_counted_90 rfl (by decide) ?_
    replace hF := zq_bd hF; obtain ⟨v_26, e_27, hF⟩ := hF
    refine zq_iaload (pc' := 92) C dX6_counted_91 rfl e_27 ?_
    replace hF := zq_bd hF; obtain ⟨v_28, e_29, hF⟩ := hF
    refine zq_cS (pc' := 95) C (c_X6_ones e_29) ys_X6_ones wd_579 dX6_counted_92 rfl rfl rfl ⟨Nat.le_of_ble_eq_true rfl, Nat.le_of_ble_eq_true rfl⟩ (Nat.le_of_ble_eq_true rfl) ⟨rfl, rfl⟩ ⟨Nat.le_of_ble_eq_true rfl, Nat.le_of_ble_eq_true rfl⟩ rfl ?_
    have hF := Option.some.inj hF
    subst hF
    exact hE _ _ _ _ (Nat.le_of_ble_eq_true rfl) (Nat.le_of_ble_eq_true rfl) dX6_counted_95
  have hF := zq_ifn hF c_23
  by_cases c_30 : x1 = 7
  · have hF := zq_ifp hF c_30
    refine zq_tsIn C 96 dX6_counted_1 (by rw [c_30]; decide) (by rw [c_30]; decide) (by rw [c_30]; rfl) (by decide) ?_
    refine zq_aload_n (pc' := 97) C dX6_counted_96 rfl rfl rfl ?_
    replace hF := zq_bd hF; obtain ⟨v_31, e_32, hF⟩ := hF
    refine zq_getR (j := 0) (pc' := 100) C zq_K6 zq_in6w (Or.inl wd_448) (by decide) rfl dX6_counted_97 rfl e_32 ?_
    refine zq_iconst (pc' := 101) C 3 dX6_counted_100 rfl (by decide) ?_
    replace hF := zq_bd hF; obtain ⟨v_33, e_34, hF⟩ := hF
    refine zq_iaload (pc' := 102) C dX6_counted_101 rfl e_34 ?_
    have hF := Option.some.inj hF
    subst hF
    exact hE _ _ _ _ (Nat.le_of_ble_eq_true rfl) (Nat.le_of_ble_eq_true rfl) dX6_counted_102
  have hF := zq_ifn hF c_30
  by_cases c_35 : x1 = 8
  · have hF := zq_ifp hF c_35
    refine zq_tsIn C 103 dX6_counted_1 (by rw [c_35]; decide) (by rw [c_35]; decide) (by rw [c_35]; rfl) (by decide) ?_
    refine zq_aload_n (pc' := 104) C dX6_counted_103 rfl rfl rfl ?_
    replace hF := zq_bd hF; obtain ⟨v_36, e_37, hF⟩ := hF
    refine zq_getR (j := 4) (pc' := 107) C zq_K6 zq_in6w (Or.inl wd_535) (by decide) rfl dX6_counted_104 rfl e_37 ?_
    refine zq_iconst (pc' := 108) C 0 dX6_counted_107 rfl (by decide) ?_
    replace hF := zq_bd hF; obtain ⟨v_38, e_39, hF⟩ := hF
    refine zq_iaload (pc' := 109) C dX6_counted_108 rfl e_39 ?_
    refine zq_aload_n (pc' := 110) C dX6_counted_109 rfl rfl rfl ?_
    replace hF := zq_bd hF; obtain ⟨v_40, e_41, hF⟩ := hF
    refine zq_getR (j := 4) (pc' := 113) C zq_K6 zq_in6w (Or.inl wd_535) (by decide) rfl dX6_counted_110 rfl e_41 ?_
    refine zq_iconst (pc' := 114) C 1 dX6_counted_113 rfl (by decide) ?_
    replace hF := zq_bd hF; obtain ⟨v_42, e_43, hF⟩ := hF
    refine zq_iaload (pc' := 115) C dX6_counted_114 rfl e_43 ?_
    refine zq_iadd (pc' := 116) C dX6_counted_115 rfl ?_
    have hF := Option.some.inj hF
    subst hF
    exact hE _ _ _ _ (Nat.le_of_ble_eq_true rfl) (Nat.le_of_ble_eq_true rfl) dX6_counted_116
  have hF := zq_ifn hF c_35
  refine zq_tsOut C 117 dX6_counted_1 (zq_out (n := 9) rfl rfl (by decide) (fun k hk => match k, hk with | 0, _ => c_1 | 1, _ => c_6 | 2, _ => c_9 | 3, _ => c_12 | 4, _ => c_15 | 5, _ => c_18 | 6, _ => c_23 | 7, _ => c_30 | 8, _ => c_35 | k + 9, hk => absurd hk (by omega))) (by decide) ?_
  refine zq_aload_n (pc' := 118) C dX6_counted_117 rfl rfl rfl ?_
  replace hF := zq_bd hF; obtain ⟨v_44, e_45, hF⟩ := hF
  refine zq_getI (j := 1) (pc' := 121) C zq_K6 zq_in6w (Or.inl wd_545) (by decide) rfl dX6_counted_118 rfl e_45 ?_
  have hF := Option.some.inj hF
  subst hF
  exact hE _ _ _ _ (Nat.le_of_ble_eq_true rfl) (Nat.le_of_ble_eq_true rfl) dX6_counted_121
theorem c_X6_counted {h : zq_H} {t : Nat} {x1 : Int32} {out : Int32} (hF : f_X6_counted h t x1 = some out) : zq_M none yX6_counted (Cond.code yX6_counted cX6_counted 2 (some .int) :: zq_all) rm_X6_counted [.ref t, .int x1] h (some (.int out)) h := zq_met2 (own := RX6) (by decide +kernel) rfl (Nat.le_of_ble_eq_true rfl) rfl ⟨.int, rfl, rfl⟩ (fun X C T hn hE => v_X6_counted C T hn hF hE)
theorem yv_X6_counted : zq_calV yX6_counted RX6 cX6_counted 2 (some .int) 1 := ⟨by decide +kernel, wd_667, wd_670, wd_671, wd_458⟩
def f_X6_count (h : zq_H) (t : Nat) (x1 : Int32) : Option (Int32 × zq_H) := (Option.bind (f_X6_within h x1 0 9) fun v_1 => (if v_1 = false then (Option.bind (zq_pi h t 6 7 1) fun h_4 => some ((0, h_4))) else (Option.bind (zq_pi h t 6 7 0) fun h_9 => (zq_ck h_9 t 6 fun _ => (Option.bind (f_X6_counted h_9 t x1) fun v_14 => some ((v_14, h_9)))))))
abbrev rm_X6_count : Room := { frames := 2, cells := 0, slots := 0, locals := 43 }
theorem dX6_count_0 : decode cX6_count 0 = .ok (.aload_n 0, 1) := by decide +kernel
theorem dX6_count_1 : decode cX6_count 1 = .ok (.iload_n 1, 1) := by decide +kernel
theorem dX6_count_2 : decode cX6_count 2 = .ok (.iconst 0, 1) := by decide +kernel
theorem dX6_count_3 : decode cX6_count 3 = .ok (.bipush 9, 2) := by decide +kernel
theorem dX6_count_5 : decode cX6_count 5 = .ok (.invokestatic 66, 3) := by decide +kernel
theorem dX6_count_8 : decode cX6_count 8 = .ok (.ifCond .eq 7, 3) := by decide +kernel
theorem dX6_count_11 : decode cX6_count 11 = .ok (.iconst 0, 1) := by decide +kernel
theorem dX6_count_12 : decode cX6_count 12 = .ok (.goto 4, 3) := by decide +kernel
theorem dX6_count_15 : decode cX6_count 15 = .ok (.iconst 1, 1) := by decide +kernel
theorem dX6_count_16 : decode cX6_count 16 = .ok (.putfield 56, 3) := by decide +kernel
theorem dX6_count_19 : decode cX6_count 19 = .ok (.aload_n 0, 1) := by decide +kernel
theorem dX6_count_20 : decode cX6_count 20 = .ok (.getfield 56, 3) := by decide +kernel
theorem dX6_count_23 : decode cX6_count 23 = .ok (.ifCond .le 7, 3) := by decide +kernel
theorem dX6_count_26 : decode cX6_count 26 = .ok (.iconst 0, 1) := by decide +kernel
theorem dX6_count_27 : decode cX6_count 27 = .ok (.goto 8, 3) := by decide +kernel
theorem dX6_count_30 : decode cX6_count 30 = .ok (.aload_n 0, 1) := by decide +kernel
theorem dX6_count_31 : decode cX6_count 31 = .ok (.iload_n 1, 1) := by decide +kernel
theorem dX6_count_32 : decode cX6_count 32 = .ok (.invokevirtual 219, 3) := by decide +kernel
theorem dX6_count_35 : decode cX6_count 35 = .ok (.ireturn, 1) := by decide +kernel
set_option maxRecDepth 100000 in
set_option maxHeartbeats 4000000 in
theorem v_X6_count {X : zq_X} (C : zq_C X RX6 cX6_count 2 zq_all rm_X6_count) {h : zq_H} {t : Nat} {x1 : Int32} (T : zq_T X none) (hn : X.2.2.2.2.2.2.2.2.1.name = yX6_count.name) {out : (Int32 × zq_H)} (hF : f_X6_count h t x1 = some out) (hE : zq_End X cX6_count 0 0 (some (.int out.1)) out.2) : zq_W X 0 0 h 0 [(0, .ref t), (1, .int x1)] [] := by
  unfold f_X6_count at hF
  refine zq_aload_n (pc' := 1) C dX6_count_0 rfl rfl rfl ?_
  refine zq_iload_n (pc' := 2) C dX6_count_1 rfl rfl rfl ?_
  refine zq_iconst (pc' := 3) C 0 dX6_count_2 rfl (by decide) ?_
  refine zq_bipush (pc' := 5) C 9 dX6_count_3 rfl (by decide) ?_
  replace hF := zq_bd hF; obtain ⟨v_1, e_2, hF⟩ := hF
  refine zq_cS (pc' := 8) C (c_X6_within e_2) ys_X6_within wd_548 dX6_count_5 rfl rfl rfl ⟨Nat.le_of_ble_eq_true rfl, Nat.le_of_ble_eq_true rfl⟩ (Nat.le_of_ble_eq_true rfl) ⟨rfl, rfl⟩ ⟨Nat.le_of_ble_eq_true rfl, Nat.le_of_ble_eq_true rfl⟩ rfl ?_
  refine zq_if_eq (pc' := 11) C 15 dX6_count_8 (by decide) rfl (fun c_3 => ?_) (fun c_3 => ?_)
  · have hF := (zq_ifp hF (zq_b0.mp c_3))
    skip
    refine zq_iconst (pc' := 16) C 1 dX6_count_15 rfl (by decide) ?_
    replace hF := zq_bd hF; obtain ⟨h_4, e_5, hF⟩ := hF
    refine zq_putI (j := 7) (pc' := 19) C zq_K6 zq_in6w (Or.inl wd_542) (by decide) rfl rfl dX6_count_16 rfl (Or.inl rfl) e_5 ?_
    refine zq_aload_n (pc' := 20) C dX6_count_19 rfl rfl rfl ?_
    have e_7 : zq_gi h_4 t 6 7 = some 1 := zq_gi_pi e_5
    refine zq_getI (j := 7) (pc' := 23) C zq_K6 zq_in6w (Or.inl wd_542) (by decide) rfl dX6_count_20 rfl e_7 ?_
    refine zq_if_le (pc' := 26) C 30 dX6_count_23 (by decide) rfl (fun c_8 => absurd c_8 (by decide)) (fun _ => ?_)
    refine zq_iconst (pc' := 27) C 0 dX6_count_26 rfl (by decide) ?_
    refine zq_goto C 35 dX6_count_27 (by decide) ?_
    have hF := Option.some.inj hF
    subst hF
    exact hE _ _ _ _ (Nat.le_of_ble_eq_true rfl) (Nat.le_of_ble_eq_true rfl) dX6_count_35
  · have hF := (zq_ifn hF (fun q => c_3 (zq_b0.mpr q)))
    refine zq_iconst (pc' := 12) C 0 dX6_count_11 rfl (by decide) ?_
    refine zq_goto C 16 dX6_count_12 (by decide) ?_
    replace hF := zq_bd hF; obtain ⟨h_9, e_10, hF⟩ := hF
    refine zq_putI (j := 7) (pc' := 19) C zq_K6 zq_in6w (Or.inl wd_542) (by decide) rfl rfl dX6_count_16 rfl (Or.inl rfl) e_10 ?_
    refine zq_aload_n (pc' := 20) C dX6_count_19 rfl rfl rfl ?_
    have e_12 : zq_gi h_9 t 6 7 = some 0 := zq_gi_pi e_10
    refine zq_getI (j := 7) (pc' := 23) C zq_K6 zq_in6w (Or.inl wd_542) (by decide) rfl dX6_count_20 rfl e_12 ?_
    refine zq_if_le (pc' := 26) C 30 dX6_count_23 (by decide) rfl (fun _ => ?_) (fun c_13 => absurd c_13 (by decide))
    refine zq_aload_n (pc' := 31) C dX6_count_30 rfl rfl rfl ?_
    refine zq_iload_n (pc' := 32) C dX6_count_31 rfl rfl rfl ?_
    replace hF := zq_ck_e hF; obtain ⟨e_16, hF⟩ := hF
    replace hF := zq_bd hF; obtain ⟨v_14, e_15, hF⟩ := hF
    refine zq_cV (pc' := 35) C (c_X6_counted e_15) yv_X6_counted wd_669 zq_K6 e_16 dX6_count_32 rfl rfl rfl ⟨Nat.le_of_ble_eq_true rfl, Nat.le_of_ble_eq_true rfl⟩ (Nat.le_of_ble_eq_true rfl) ⟨rfl, rfl⟩ ⟨Nat.le_of_ble_eq_true rfl, Nat.le_of_ble_eq_true rfl⟩ rfl ?_
    have hF := Option.some.inj hF
    subst hF
    exact hE _ _ _ _ (Nat.le_of_ble_eq_true rfl) (Nat.le_of_ble_eq_true rfl) dX6_count_35
theorem c_X6_count {h : zq_H} {t : Nat} {x1 : Int32} {out : (Int32 × zq_H)} (hF : f_X6_count h t x1 = some out) : zq_M none yX6_count (Cond.code yX6_count cX6_count 2 (some .int) :: zq_all) rm_X6_count [.ref t, .int x1] h (some (.int out.1)) out.2 := zq_met2 (own := RX6) (by decide +kernel) rfl (Nat.le_of_ble_eq_true rfl) rfl ⟨.int, rfl, rfl⟩ (fun X C T hn hE => v_X6_count C T hn hF hE)
theorem yv_X6_count : zq_calV yX6_count RX6 cX6_count 2 (some .int) 1 := ⟨by decide +kernel, wd_668, wd_907, wd_908, wd_458⟩
def f_X6_share (h : zq_H) (t : Nat) : Option (UInt64 × zq_H) := (Option.bind (zq_gr h t 6 0) fun v_1 => (Option.bind (zq_ai h v_1 1) fun v_3 => (zq_ck h t 6 fun _ => (Option.bind (f_X6_freeFrom h t v_3) fun v_5 => (Option.bind (zq_gi v_5.2 t 6 17) fun v_8 => (zq_nn (FP.ddiv (FP.i2d v_5.1) (FP.i2d v_8)) fun _ => some ((FP.ddiv (FP.i2d v_5.1) (FP.i2d v_8), v_5.2))))))))
abbrev rm_X6_share : Room := { frames := 3, cells := 0, slots := 0, locals := 75 }
theorem dX6_share_0 : decode cX6_share 0 = .ok (.aload_n 0, 1) := by decide +kernel
theorem dX6_share_1 : decode cX6_share 1 = .ok (.aload_n 0, 1) := by decide +kernel
theorem dX6_share_2 : decode cX6_share 2 = .ok (.getfield 7, 3) := by decide +kernel
theorem dX6_share_5 : decode cX6_share 5 = .ok (.iconst 1, 1) := by decide +kernel
theorem dX6_share_6 : decode cX6_share 6 = .ok (.iaload, 1) := by decide +kernel
theorem dX6_share_7 : decode cX6_share 7 = .ok (.invokevirtual 210, 3) := by decide +kernel
theorem dX6_share_10 : decode cX6_share 10 = .ok (.i2d, 1) := by decide +kernel
theorem dX6_share_11 : decode cX6_share 11 = .ok (.aload_n 0, 1) := by decide +kernel
theorem dX6_share_12 : decode cX6_share 12 = .ok (.getfield 119, 3) := by decide +kernel
theorem dX6_share_15 : decode cX6_share 15 = .ok (.i2d, 1) := by decide +kernel
theorem dX6_share_16 : decode cX6_share 16 = .ok (.ddiv, 1) := by decide +kernel
theorem dX6_share_17 : decode cX6_share 17 = .ok (.dreturn, 1) := by decide +kernel
set_option maxRecDepth 100000 in
set_option maxHeartbeats 4000000 in
theorem v_X6_share {X : zq_X} (C : zq_C X RX6 cX6_share 1 zq_all rm_X6_share) {h : zq_H} {t : Nat} (T : zq_T X none) (hn : X.2.2.2.2.2.2.2.2.1.name = yX6_share.name) {out : (UInt64 × zq_H)} (hF : f_X6_share h t = some out) (hE : zq_End X cX6_share 0 0 (some (.double out.1)) out.2) : zq_W X 0 0 h 0 [(0, .ref t)] [] := by
  unfold f_X6_share at hF
  refine zq_aload_n (pc' := 1) C dX6_share_0 rfl rfl rfl ?_
  refine zq_aload_n (pc' := 2) C dX6_share_1 rfl rfl rfl ?_
  replace hF := zq_bd hF; obtain ⟨v_1, e_2, hF⟩ := hF
  refine zq_getR (j := 0) (pc' := 5) C zq_K6 zq_in6w (Or.inl wd_448) (by decide) rfl dX6_share_2 rfl e_2 ?_
  refine zq_iconst (pc' := 6) C 1 dX6_share_5 rfl (by decide) ?_
  replace hF := zq_bd hF; obtain ⟨v_3, e_4, hF⟩ := hF
  refine zq_iaload (pc' := 7) C dX6_share_6 rfl e_4 ?_
  replace hF := zq_ck_e hF; obtain ⟨e_7, hF⟩ := hF
  replace hF := zq_bd hF; obtain ⟨v_5, e_6, hF⟩ := hF
  refine zq_cV (pc' := 10) C (c_X6_freeFrom e_6) yv_X6_freeFrom wd_654 zq_K6 e_7 dX6_share_7 rfl rfl rfl ⟨Nat.le_of_ble_eq_true rfl, Nat.le_of_ble_eq_true rfl⟩ (Nat.le_of_ble_eq_true rfl) ⟨rfl, rfl⟩ ⟨Nat.le_of_ble_eq_true rfl, Nat.le_of_ble_eq_true rfl⟩ rfl ?_
  refine zq_i2d (pc' := 11) C dX6_share_10 rfl ?_
  refine zq_aload_n (pc' := 12) C dX6_share_11 rfl rfl rfl ?_
  replace hF := zq_bd hF; obtain ⟨v_8, e_9, hF⟩ := hF
  refine zq_getI (j := 17) (pc' := 15) C zq_K6 zq_in6w (Or.inl wd_512) (by decide) rfl dX6_share_12 rfl e_9 ?_
  refine zq_i2d (pc' := 16) C dX6_share_15 rfl ?_
  replace hF := zq_nn_e hF; obtain ⟨e_10, hF⟩ := hF
  refine zq_ddiv (pc' := 17) C dX6_share_16 rfl e_10 ?_
  have hF := Option.some.inj hF
  subst hF
  exact hE _ _ _ _ (Nat.le_of_ble_eq_true rfl) (Nat.le_of_ble_eq_true rfl) dX6_share_17
theorem c_X6_share {h : zq_H} {t : Nat} {out : (UInt64 × zq_H)} (hF : f_X6_share h t = some out) : zq_M none yX6_share (Cond.code yX6_share cX6_share 1 (some .double) :: zq_all) rm_X6_share [.ref t] h (some (.double out.1)) out.2 := zq_met2 (own := RX6) (by decide +kernel) rfl (Nat.le_of_ble_eq_true rfl) rfl rfl (fun X C T hn hE => v_X6_share C T hn hF hE)
theorem yv_X6_share : zq_calV yX6_share RX6 cX6_share 1 (some .double) 0 := ⟨by decide +kernel, wd_672, wd_674, wd_675, wd_458⟩
def f_X6_farShare (h : zq_H) (t : Nat) : Option (UInt64 × zq_H) := (Option.bind (zq_pi h t 6 7 0) fun h_1 => (zq_ck h_1 t 6 fun _ => (Option.bind (f_X6_share h_1 t) fun v_3 => some ((v_3.1, v_3.2)))))
abbrev rm_X6_farShare : Room := { frames := 4, cells := 0, slots := 0, locals := 95 }
theorem dX6_farShare_0 : decode cX6_farShare 0 = .ok (.aload_n 0, 1) := by decide +kernel
theorem dX6_farShare_1 : decode cX6_farShare 1 = .ok (.iconst 0, 1) := by decide +kernel
theorem dX6_farShare_2 : decode cX6_farShare 2 = .ok (.putfield 56, 3) := by decide +kernel
theorem dX6_farShare_5 : decode cX6_farShare 5 = .ok (.aload_n 0, 1) := by decide +kernel
theorem dX6_farShare_6 : decode cX6_farShare 6 = .ok (.invokevirtual 222, 3) := by decide +kernel
theorem dX6_farShare_9 : decode cX6_farShare 9 = .ok (.dreturn, 1) := by decide +kernel
set_option maxRecDepth 100000 in
set_option maxHeartbeats 4000000 in
theorem v_X6_farShare {X : zq_X} (C : zq_C X RX6 cX6_farShare 1 zq_all rm_X6_farShare) {h : zq_H} {t : Nat} (T : zq_T X none) (hn : X.2.2.2.2.2.2.2.2.1.name = yX6_farShare.name) {out : (UInt64 × zq_H)} (hF : f_X6_farShare h t = some out) (hE : zq_End X cX6_farShare 0 0 (some (.double out.1)) out.2) : zq_W X 0 0 h 0 [(0, .ref t)] [] := by
  unfold f_X6_farShare at hF
  refine zq_aload_n (pc' := 1) C dX6_farShare_0 rfl rfl rfl ?_
  refine zq_iconst (pc' := 2) C 0 dX6_farShare_1 rfl (by decide) ?_
  replace hF := zq_bd hF; obtain ⟨h_1, e_2, hF⟩ := hF
  refine zq_putI (j := 7) (pc' := 5) C zq_K6 zq_in6w (Or.inl wd_542) (by decide) rfl rfl dX6_farShare_2 rfl (Or.inl rfl) e_2 ?_
  refine zq_aload_n (pc' := 6) C dX6_farShare_5 rfl rfl rfl ?_
  replace hF := zq_ck_e hF; obtain ⟨e_5, hF⟩ := hF
  replace hF := zq_bd hF; obtain ⟨v_3, e_4, hF⟩ := hF
  refine zq_cV (pc' := 9) C (c_X6_share e_4) yv_X6_share wd_673 zq_K6 e_5 dX6_farShare_6 rfl rfl rfl ⟨Nat.le_of_ble_eq_true rfl, Nat.le_of_ble_eq_true rfl⟩ (Nat.le_of_ble_eq_true rfl) ⟨rfl, rfl⟩ ⟨Nat.le_of_ble_eq_true rfl, Nat.le_of_ble_eq_true rfl⟩ rfl ?_
  have hF := Option.some.inj hF
  subst hF
  exact hE _ _ _ _ (Nat.le_of_ble_eq_true rfl) (Nat.le_of_ble_eq_true rfl) dX6_farShare_9
theorem c_X6_farShare {h : zq_H} {t : Nat} {out : (UInt64 × zq_H)} (hF : f_X6_farShare h t = some out) : zq_M none yX6_farShare (Cond.code yX6_farShare cX6_farShare 1 (some .double) :: zq_all) rm_X6_farShare [.ref t] h (some (.double out.1)) out.2 := zq_met2 (own := RX6) (by decide +kernel) rfl (Nat.le_of_ble_eq_true rfl) rfl rfl (fun X C T hn hE => v_X6_farShare C T hn hF hE)
theorem yv_X6_farShare : zq_calV yX6_farShare RX6 cX6_farShare 1 (some .double) 0 := ⟨by decide +kernel, wd_676, wd_913, wd_914, wd_458⟩
def f_X6_mix (h : zq_H) (t : Nat) (x1 : Int64) : Option zq_H := (Option.bind (zq_gl h t 6 21) fun v_1 => (Option.bind (zq_pl h t 6 21 ((31 * v_1) + x1)) fun h_3 => some (h_3)))
abbrev rm_X6_mix : Room := { frames := 0, cells := 0, slots := 0, locals := 0 }
theorem dX6_mix_0 : decode cX6_mix 0 = .ok (.aload_n 0, 1) := by decide +kernel
theorem dX6_mix_1 : decode cX6_mix 1 = .ok (.ldc2_w 226, 3) := by decide +kernel
theorem dX6_mix_4 : decode cX6_mix 4 = .ok (.aload_n 0, 1) := by decide +kernel
theorem dX6_mix_5 : decode cX6_mix 5 = .ok (.getfield 228, 3) := by decide +kernel
theorem dX6_mix_8 : decode cX6_mix 8 = .ok (.lmul, 1) := by decide +kernel
theorem dX6_mix_9 : decode cX6_mix 9 = .ok (.lload_n 1, 1) := by decide +kernel
theorem dX6_mix_10 : decode cX6_mix 10 = .ok (.ladd, 1) := by decide +kernel
theorem dX6_mix_11 : decode cX6_mix 11 = .ok (.putfield 228, 3) := by decide +kernel
theorem dX6_mix_14 : decode cX6_mix 14 = .ok (.return_, 1) := by decide +kernel
set_option maxRecDepth 100000 in
set_option maxHeartbeats 4000000 in
theorem v_X6_mix {X : zq_X} (C : zq_C X RX6 cX6_mix 3 zq_all rm_X6_mix) {h : zq_H} {t : Nat} {x1 : Int64} (T : zq_T X none) (hn : X.2.2.2.2.2.2.2.2.1.name = yX6_mix.name) {out : zq_H} (hF : f_X6_mix h t x1 = some out) (hE : zq_End X cX6_mix 0 0 none out) : zq_W X 0 0 h 0 [(0, .ref t), (1, .long x1)] [] := by
  unfold f_X6_mix at hF
  refine zq_aload_n (pc' := 1) C dX6_mix_0 rfl rfl rfl ?_
  refine zq_ldc2l (pc' := 4) C 31 dX6_mix_1 rfl wd_678 ?_
  refine zq_aload_n (pc' := 5) C dX6_mix_4 rfl rfl rfl ?_
  replace hF := zq_bd hF; obtain ⟨v_1, e_2, hF⟩ := hF
  refine zq_getL (j := 21) (pc' := 8) C zq_K6 zq_in6w (Or.inl wd_679) (by decide) rfl dX6_mix_5 rfl e_2 ?_
  refine zq_lmul (pc' := 9) C dX6_mix_8 rfl ?_
  refine zq_lload_n (pc' := 10) C dX6_mix_9 rfl rfl rfl ?_
  refine zq_ladd (pc' := 11) C dX6_mix_10 rfl ?_
  replace hF := zq_bd hF; obtain ⟨h_3, e_4, hF⟩ := hF
  refine zq_putL (j := 21) (pc' := 14) C zq_K6 zq_in6w (Or.inl wd_679) (by decide) rfl rfl dX6_mix_11 rfl (Or.inl rfl) e_4 ?_
  have hF := Option.some.inj hF
  subst hF
  exact hE _ _ _ _ (Nat.le_of_ble_eq_true rfl) (Nat.le_of_ble_eq_true rfl) dX6_mix_14
theorem c_X6_mix {h : zq_H} {t : Nat} {x1 : Int64} {out : zq_H} (hF : f_X6_mix h t x1 = some out) : zq_M none yX6_mix (Cond.code yX6_mix cX6_mix 3 none :: zq_all) rm_X6_mix [.ref t, .long x1] h none out := zq_met2 (own := RX6) (by decide +kernel) rfl (Nat.le_of_ble_eq_true rfl) rfl rfl (fun X C T hn hE => v_X6_mix C T hn hF hE)
theorem yv_X6_mix : zq_calV yX6_mix RX6 cX6_mix 3 none 1 := ⟨by decide +kernel, wd_677, wd_688, wd_689, wd_458⟩
def f_X6_digest (h : zq_H) (t : Nat) : Option (Int64 × zq_H) := (Option.bind (zq_pi h t 6 7 0) fun h_1 => (Option.bind (zq_pl h_1 t 6 21 2477) fun h_3 => ((zq_lp (σ := Int32 × zq_H) (ρ := zq_H) (fun s_5 => (if 10 ≤ s_5.1 then some (.inr s_5.2) else (zq_ck s_5.2 t 6 fun _ => (Option.bind (f_X6_counted s_5.2 t s_5.1) fun v_14 => (zq_ck s_5.2 t 6 fun _ => (Option.bind (f_X6_mix s_5.2 t (v_14 : Int32).toInt64) fun v_17 => (zq_let (s_5.1 + 1) fun v_20 => some (.inl (v_20, v_17))))))))) zq_N (0, h_3)).bind (fun y_8 : zq_H => ((zq_lp (σ := Int32 × zq_H) (ρ := zq_H) (fun s_22 => (if 2 ≤ s_22.1 then some (.inr s_22.2) else ((zq_lp (σ := Int32 × zq_H) (ρ := zq_H) (fun s_31 => (if 7 ≤ s_31.1 then some (.inr s_31.2) else (zq_ck s_31.2 t 6 fun _ => (Option.bind (f_X6_triangulationNow s_31.2 t s_22.1 s_31.1) fun v_40 => (zq_ck v_40.2 t 6 fun _ => (Option.bind (f_X6_mix v_40.2 t (v_40.1 : Int32).toInt64) fun v_43 => (zq_let (s_31.1 + 1) fun v_46 => some (.inl (v_46, v_43))))))))) zq_N (0, s_22.2)).bind (fun y_34 : zq_H => ((zq_lp (σ := Int32 × zq_H) (ρ := zq_H) (fun s_48 => (Option.bind (zq_gr s_48.2 t 6 0) fun v_56 => (Option.bind (zq_ai s_48.2 v_56 0) fun v_58 => (if v_58 ≤ s_48.1 then some (.inr s_48.2) else (Option.bind (zq_gr s_48.2 t 6 0) fun v_61 => (Option.bind (zq_ai s_48.2 v_61 (1 + s_22.1)) fun v_63 => (zq_ck s_48.2 t 6 fun _ => (Option.bind (f_X6_degreeOf s_48.2 t v_63 s_48.1) fun v_65 => (zq_ck s_48.2 t 6 fun _ => (Option.bind (f_X6_mix s_48.2 t (v_65 : Int32).toInt64) fun v_68 => (zq_let (s_48.1 + 1) fun v_71 => some (.inl (v_71, v_68))))))))))))) zq_N (0, y_34)).bind (fun y_51 : zq_H => (zq_let (s_22.1 + 1) fun v_73 => some (.inl (v_73, y_51))))))))) zq_N (0, y_8)).bind (fun y_25 : zq_H => ((zq_lp (σ := Int32 × zq_H) (ρ := zq_H) (fun s_75 => (if 6 ≤ s_75.1 then some (.inr s_75.2) else (zq_ck s_75.2 t 6 fun _ => (Option.bind (f_X6_distanceNow s_75.2 t s_75.1) fun v_84 => (zq_ck v_84.2 t 6 fun _ => (Option.bind (f_X6_mix v_84.2 t (v_84.1 : Int32).toInt64) fun v_87 => (zq_let (s_75.1 + 1) fun v_90 => some (.inl (v_90, v_87))))))))) zq_N (0, y_25)).bind (fun y_78 : zq_H => ((zq_lp (σ := Int32 × zq_H) (ρ := zq_H) (fun s_92 => (Option.bind (zq_gi s_92.2 t 6 9) fun v_100 => (if v_100 ≤ s_92.1 then some (.inr s_92.2) else (zq_ck s_92.2 t 6 fun _ => (Option.bind (f_X6_otherNow s_92.2 t 0 s_92.1) fun v_103 => (zq_ck s_92.2 t 6 fun _ => (Option.bind (f_X6_mix s_92.2 t (v_103 : Int32).toInt64) fun v_106 => (zq_ck v_106 t 6 fun _ => (Option.bind (f_X6_otherNow v_106 t 1 s_92.1) fun v_109 => (zq_ck v_106 t 6 fun _ => (Option.bind (f_X6_mix v_106 t (v_109 : Int32).toInt64) fun v_112 => (zq_ck v_112 t 6 fun _ => (Option.bind (f_X6_reason v_112 t s_92.1) fun v_115 => (zq_ck v_112 t 6 fun _ => (Option.bind (f_X6_mix v_112 t (v_115 : Int32).toInt64) fun v_118 => (zq_ck v_118 t 6 fun _ => (Option.bind (f_X6_flippedThen v_118 t s_92.1) fun v_121 => (zq_ck v_121.2 t 6 fun _ => (Option.bind (f_X6_mix v_121.2 t (v_121.1 : Int32).toInt64) fun v_124 => (zq_let (s_92.1 + 1) fun v_127 => some (.inl (v_127, v_124)))))))))))))))))))))) zq_N (0, y_78)).bind (fun y_95 : zq_H => (zq_ck y_95 t 6 fun _ => (Option.bind (f_X6_share y_95 t) fun v_129 => (Option.bind (f_Jxe99ae_doubleToLongBits_ccdee v_129.2 v_129.1) fun v_132 => (zq_ck v_129.2 t 6 fun _ => (Option.bind (f_X6_mix v_129.2 t v_132) fun v_134 => (Option.bind (zq_gi v_134 t 6 5) fun v_137 => (zq_ck v_134 t 6 fun _ => (Option.bind (f_X6_mix v_134 t (v_137 : Int32).toInt64) fun v_139 => ((zq_lp (σ := Int32 × zq_H) (ρ := zq_H) (fun s_142 => (Option.bind (zq_gi s_142.2 t 6 5) fun v_150 => (if v_150 ≤ s_142.1 then some (.inr s_142.2) else (Option.bind (zq_gr s_142.2 t 6 6) fun v_153 => (Option.bind (zq_ai s_142.2 v_153 s_142.1) fun v_155 => (zq_ck s_142.2 t 6 fun _ => (Option.bind (f_X6_mix s_142.2 t (v_155 : Int32).toInt64) fun v_157 => (zq_let (s_142.1 + 1) fun v_160 => some (.inl (v_160, v_157)))))))))) zq_N (0, v_139)).bind (fun y_145 : zq_H => (Option.bind (zq_gl y_145 t 6 21) fun v_162 => some ((v_162, y_145)))))))))))))))))))))))
abbrev rm_X6_digest : Room := { frames := 7, cells := 0, slots := 0, locals := 160 }
theorem dX6_digest_0 : decode cX6_digest 0 = .ok (.aload_n 0, 1) := by decide +kernel
theorem dX6_digest_1 : decode cX6_digest 1 = .ok (.iconst 0, 1) := by decide +kernel
theorem dX6_digest_2 : decode cX6_digest 2 = .ok (.putfield 56, 3) := by decide +kernel
theorem dX6_digest_5 : decode cX6_digest 5 = .ok (.aload_n 0, 1) := by decide +kernel
theorem dX6_digest_6 : decode cX6_digest 6 = .ok (.ldc2_w 232, 3) := by decide +kernel
theorem dX6_digest_9 : decode cX6_digest 9 = .ok (.putfield 228, 3) := by decide +kernel
theorem dX6_digest_12 : decode cX6_digest 12 = .ok (.iconst 0, 1) := by decide +kernel
theorem dX6_digest_13 : decode cX6_digest 13 = .ok (.istore_n 1, 1) := by decide +kernel
theorem dX6_digest_14 : decode cX6_digest 14 = .ok (.iload_n 1, 1) := by decide +kernel
theorem dX6_digest_15 : decode cX6_digest 15 = .ok (.bipush 10, 2) := by decide +kernel
theorem dX6_digest_17 : decode cX6_digest 17 = .ok (.if_icmp .ge 19, 3) := by decide +kernel
theorem dX6_digest_20 : decode cX6_digest 20 = .ok (.aload_n 0, 1) := by decide +kernel
theorem dX6_digest_21 : decode cX6_digest 21 = .ok (.aload_n 0, 1) := by decide +kernel
theorem dX6_digest_22 : decode cX6_digest 22 = .ok (.iload_n 1, 1) := by decide +kernel
theorem dX6_digest_23 : decode cX6_digest 23 = .ok (.invokevirtual 219, 3) := by decide +kernel
theorem dX6_digest_26 : decode cX6_digest 26 = .ok (.i2l, 1) := by decide +kernel
theorem dX6_digest_27 : decode cX6_digest 27 = .ok (.invokevirtual 234, 3) := by decide +kernel
theorem dX6_digest_30 : decode cX6_digest 30 = .ok (.iinc 1 1, 3) := by decide +kernel
theorem dX6_digest_33 : decode cX6_digest 33 = .ok (.goto (-19), 3) := by decide +kernel
theorem dX6_digest_36 : decode cX6_digest 36 = .ok (.iconst 0, 1) := by decide +kernel
theorem dX6_digest_37 : decode cX6_digest 37 = .ok (.istore_n 1, 1) := by decide +kernel
theorem dX6_digest_38 : decode cX6_digest 38 = .ok (.iload_n 1, 1) := by decide +kernel
theorem dX6_digest_39 : decode cX6_digest 39 = .ok (.iconst 2, 1) := by decide +kernel
theorem dX6_digest_40 : decode cX6_digest 40 = .ok (.if_icmp .ge 70, 3) := by decide +kernel
theorem dX6_digest_43 : decode cX6_digest 43 = .ok (.iconst 0, 1) := by decide +kernel
theorem dX6_digest_44 : decode cX6_digest 44 = .ok (.istore_n 2, 1) := by decide +kernel
theorem dX6_digest_45 : decode cX6_digest 45 = .ok (.iload_n 2, 1) := by decide +kernel
theorem dX6_digest_46 : decode cX6_digest 46 = .ok (.bipush 7, 2) := by decide +kernel
theorem dX6_digest_48 : decode cX6_digest 48 = .ok (.if_icmp .ge 20, 3) := by decide +kernel
theorem dX6_digest_51 : decode cX6_digest 51 = .ok (.aload_n 0, 1) := by decide +kernel
theorem dX6_digest_52 : decode cX6_digest 52 = .ok (.aload_n 0, 1) := by decide +kernel
theorem dX6_digest_53 : decode cX6_digest 53 = .ok (.iload_n 1, 1) := by decide +kernel
theorem dX6_digest_54 : decode cX6_digest 54 = .ok (.iload_n 2, 1) := by decide +kernel
theorem dX6_digest_55 : decode cX6_digest 55 = .ok (.invokevirtual 201, 3) := by decide +kernel
theorem dX6_digest_58 : decode cX6_digest 58 = .ok (.i2l, 1) := by decide +kernel
theorem dX6_digest_59 : decode cX6_digest 59 = .ok (.invokevirtual 234, 3) := by decide +kernel
theorem dX6_digest_62 : decode cX6_digest 62 = .ok (.iinc 2 1, 3) := by decide +kernel
theorem dX6_digest_65 : decode cX6_digest 65 = .ok (.goto (-20), 3) := by decide +kernel
theorem dX6_digest_68 : decode cX6_digest 68 = .ok (.iconst 0, 1) := by decide +kernel
theorem dX6_digest_69 : decode cX6_digest 69 = .ok (.istore_n 2, 1) := by decide +kernel
theorem dX6_digest_70 : decode cX6_digest 70 = .ok (.iload_n 2, 1) := by decide +kernel
theorem dX6_digest_71 : decode cX6_digest 71 = .ok (.aload_n 0, 1) := by decide +kernel
theorem dX6_digest_72 : decode cX6_digest 72 = .ok (.getfield 7, 3) := by decide +kernel
theorem dX6_digest_75 : decode cX6_digest 75 = .ok (.iconst 0, 1) := by decide +kernel
theorem dX6_digest_76 : decode cX6_digest 76 = .ok (.iaload, 1) := by decide +kernel
theorem dX6_digest_77 : decode cX6_digest 77 = .ok (.if_icmp .ge 27, 3) := by decide +kernel
theorem dX6_digest_80 : decode cX6_digest 80 = .ok (.aload_n 0, 1) := by decide +kernel
theorem dX6_digest_81 : decode cX6_digest 81 = .ok (.aload_n 0, 1) := by decide +kernel
theorem dX6_digest_82 : decode cX6_digest 82 = .ok (.aload_n 0, 1) := by decide +kernel
theorem dX6_digest_83 : decode cX6_digest 83 = .ok (.getfield 7, 3) := by decide +kernel
theorem dX6_digest_86 : decode cX6_digest 86 = .ok (.iconst 1, 1) := by decide +kernel
theorem dX6_digest_87 : decode cX6_digest 87 = .ok (.iload_n 1, 1) := by decide +kernel
theorem dX6_digest_88 : decode cX6_digest 88 = .ok (.iadd, 1) := by decide +kernel
theorem dX6_digest_89 : decode cX6_digest 89 = .ok (.iaload, 1) := by decide +kernel
theorem dX6_digest_90 : decode cX6_digest 90 = .ok (.iload_n 2, 1) := by decide +kernel
theorem dX6_digest_91 : decode cX6_digest 91 = .ok (.invokevirtual 188, 3) := by decide +kernel
theorem dX6_digest_94 : decode cX6_digest 94 = .ok (.i2l, 1) := by decide +kernel
theorem dX6_digest_95 : decode cX6_digest 95 = .ok (.invokevirtual 234, 3) := by decide +kernel
theorem dX6_digest_98 : decode cX6_digest 98 = .ok (.iinc 2 1, 3) := by decide +kernel
theorem dX6_digest_101 : decode cX6_digest 101 = .ok (.goto (-31), 3) := by decide +kernel
theorem dX6_digest_104 : decode cX6_digest 104 = .ok (.iinc 1 1, 3) := by decide +kernel
theorem dX6_digest_107 : decode cX6_digest 107 = .ok (.goto (-69), 3) := by decide +kernel
theorem dX6_digest_110 : decode cX6_digest 110 = .ok (.iconst 0, 1) := by decide +kernel
theorem dX6_digest_111 : decode cX6_digest 111 = .ok (.istore_n 1, 1) := by decide +kernel
theorem dX6_digest_112 : decode cX6_digest 112 = .ok (.iload_n 1, 1) := by decide +kernel
theorem dX6_digest_113 : decode cX6_digest 113 = .ok (.bipush 6, 2) := by decide +kernel
theorem dX6_digest_115 : decode cX6_digest 115 = .ok (.if_icmp .ge 19, 3) := by decide +kernel
theorem dX6_digest_118 : decode cX6_digest 118 = .ok (.aload_n 0, 1) := by decide +kernel
theorem dX6_digest_119 : decode cX6_digest 119 = .ok (.aload_n 0, 1) := by decide +kernel
theorem dX6_digest_120 : decode cX6_digest 120 = .ok (.iload_n 1, 1) := by decide +kernel
theorem dX6_digest_121 : decode cX6_digest 121 = .ok (.invokevirtual 213, 3) := by decide +kernel
theorem dX6_digest_124 : decode cX6_digest 124 = .ok (.i2l, 1) := by decide +kernel
theorem dX6_digest_125 : decode cX6_digest 125 = .ok (.invokevirtual 234, 3) := by decide +kernel
theorem dX6_digest_128 : decode cX6_digest 128 = .ok (.iinc 1 1, 3) := by decide +kernel
theorem dX6_digest_131 : decode cX6_digest 131 = .ok (.goto (-19), 3) := by decide +kernel
theorem dX6_digest_134 : decode cX6_digest 134 = .ok (.iconst 0, 1) := by decide +kernel
theorem dX6_digest_135 : decode cX6_digest 135 = .ok (.istore_n 1, 1) := by decide +kernel
theorem dX6_digest_136 : decode cX6_digest 136 = .ok (.iload_n 1, 1) := by decide +kernel
theorem dX6_digest_137 : decode cX6_digest 137 = .ok (.aload_n 0, 1) := by decide +kernel
theorem dX6_digest_138 : decode cX6_digest 138 = .ok (.getfield 63, 3) := by decide +kernel
theorem dX6_digest_141 : decode cX6_digest 141 = .ok (.if_icmp .ge 51, 3) := by decide +kernel
theorem dX6_digest_144 : decode cX6_digest 144 = .ok (.aload_n 0, 1) := by decide +kernel
theorem dX6_digest_145 : decode cX6_digest 145 = .ok (.aload_n 0, 1) := by decide +kernel
theorem dX6_digest_146 : decode cX6_digest 146 = .ok (.iconst 0, 1) := by decide +kernel
theorem dX6_digest_147 : decode cX6_digest 147 = .ok (.iload_n 1, 1) := by decide +kernel
theorem dX6_digest_148 : decode cX6_digest 148 = .ok (.invokevirtual 204, 3) := by decide +kernel
theorem dX6_digest_151 : decode cX6_digest 151 = .ok (.i2l, 1) := by decide +kernel
theorem dX6_digest_152 : decode cX6_digest 152 = .ok (.invokevirtual 234, 3) := by decide +kernel
theorem dX6_digest_155 : decode cX6_digest 155 = .ok (.aload_n 0, 1) := by decide +kernel
theorem dX6_digest_156 : decode cX6_digest 156 = .ok (.aload_n 0, 1) := by decide +kernel
theorem dX6_digest_157 : decode cX6_digest 157 = .ok (.iconst 1, 1) := by decide +kernel
theorem dX6_digest_158 : decode cX6_digest 158 = .ok (.iload_n 1, 1) := by decide +kernel
theorem dX6_digest_159 : decode cX6_digest 159 = .ok (.invokevirtual 204, 3) := by decide +kernel
theorem dX6_digest_162 : decode cX6_digest 162 = .ok (.i2l, 1) := by decide +kernel
theorem dX6_digest_163 : decode cX6_digest 163 = .ok (.invokevirtual 234, 3) := by decide +kernel
theorem dX6_digest_166 : decode cX6_digest 166 = .ok (.aload_n 0, 1) := by decide +kernel
theorem dX6_digest_167 : decode cX6_digest 167 = .ok (.aload_n 0, 1) := by decide +kernel
theorem dX6_digest_168 : decode cX6_digest 168 = .ok (.iload_n 1, 1) := by decide +kernel
theorem dX6_digest_169 : decode cX6_digest 169 = .ok (.invokevirtual 207, 3) := by decide +kernel
theorem dX6_digest_172 : decode cX6_digest 172 = .ok (.i2l, 1) := by decide +kernel
theorem dX6_digest_173 : decode cX6_digest 173 = .ok (.invokevirtual 234, 3) := by decide +kernel
theorem dX6_digest_176 : decode cX6_digest 176 = .ok (.aload_n 0, 1) := by decide +kernel
theorem dX6_digest_177 : decode cX6_digest 177 = .ok (.aload_n 0, 1) := by decide +kernel
theorem dX6_digest_178 : decode cX6_digest 178 = .ok (.iload_n 1, 1) := by decide +kernel
theorem dX6_digest_179 : decode cX6_digest 179 = .ok (.invokevirtual 216, 3) := by decide +kernel
theorem dX6_digest_182 : decode cX6_digest 182 = .ok (.i2l, 1) := by decide +kernel
theorem dX6_digest_183 : decode cX6_digest 183 = .ok (.invokevirtual 234, 3) := by decide +kernel
theorem dX6_digest_186 : decode cX6_digest 186 = .ok (.iinc 1 1, 3) := by decide +kernel
theorem dX6_digest_189 : decode cX6_digest 189 = .ok (.goto (-53), 3) := by decide +kernel
theorem dX6_digest_192 : decode cX6_digest 192 = .ok (.aload_n 0, 1) := by decide +kernel
theorem dX6_digest_193 : decode cX6_digest 193 = .ok (.aload_n 0, 1) := by decide +kernel
theorem dX6_digest_194 : decode cX6_digest 194 = .ok (.invokevirtual 222, 3) := by decide +kernel
theorem dX6_digest_197 : decode cX6_digest 197 = .ok (.invokestatic 238, 3) := by decide +kernel
theorem dX6_digest_200 : decode cX6_digest 200 = .ok (.invokevirtual 234, 3) := by decide +kernel
theorem dX6_digest_203 : decode cX6_digest 203 = .ok (.aload_n 0, 1) := by decide +kernel
theorem dX6_digest_204 : decode cX6_digest 204 = .ok (.aload_n 0, 1) := by decide +kernel
theorem dX6_digest_205 : decode cX6_digest 205 = .ok (.getfield 166, 3) := by decide +kernel
theorem dX6_digest_208 : decode cX6_digest 208 = .ok (.i2l, 1) := by decide +kernel
theorem dX6_digest_209 : decode cX6_digest 209 = .ok (.invokevirtual 234, 3) := by decide +kernel
theorem dX6_digest_212 : decode cX6_digest 212 = .ok (.iconst 0, 1) := by decide +kernel
theorem dX6_digest_213 : decode cX6_digest 213 = .ok (.istore_n 1, 1) := by decide +kernel
theorem dX6_digest_214 : decode cX6_digest 214 = .ok (.iload_n 1, 1) := by decide +kernel
theorem dX6_digest_215 : decode cX6_digest 215 = .ok (.aload_n 0, 1) := by decide +kernel
theorem dX6_digest_216 : decode cX6_digest 216 = .ok (.getfield 166, 3) := by decide +kernel
theorem dX6_digest_219 : decode cX6_digest 219 = .ok (.if_icmp .ge 20, 3) := by decide +kernel
theorem dX6_digest_222 : decode cX6_digest 222 = .ok (.aload_n 0, 1) := by decide +kernel
theorem dX6_digest_223 : decode cX6_digest 223 = .ok (.aload_n 0, 1) := by decide +kernel
theorem dX6_digest_224 : decode cX6_digest 224 = .ok (.getfield 22, 3) := by decide +kernel
theorem dX6_digest_227 : decode cX6_digest 227 = .ok (.iload_n 1, 1) := by decide +kernel
theorem dX6_digest_228 : decode cX6_digest 228 = .ok (.iaload, 1) := by decide +kernel
theorem dX6_digest_229 : decode cX6_digest 229 = .ok (.i2l, 1) := by decide +kernel
theorem dX6_digest_230 : decode cX6_digest 230 = .ok (.invokevirtual 234, 3) := by decide +kernel
theorem dX6_digest_233 : decode cX6_digest 233 = .ok (.iinc 1 1, 3) := by decide +kernel
theorem dX6_digest_236 : decode cX6_digest 236 = .ok (.goto (-22), 3) := by decide +kernel
theorem dX6_digest_239 : decode cX6_digest 239 = .ok (.aload_n 0, 1) := by decide +kernel
theorem dX6_digest_240 : decode cX6_digest 240 = .ok (.getfield 228, 3) := by decide +kernel
theorem dX6_digest_243 : decode cX6_digest 243 = .ok (.lreturn, 1) := by decide +kernel
set_option maxRecDepth 100000 in
set_option maxHeartbeats 4000000 in
theorem v_X6_digest {X : zq_X} (C : zq_C X RX6 cX6_digest 3 zq_all rm_X6_digest) {h : zq_H} {t : Nat} (T : zq_T X none) (hn : X.2.2.2.2.2.2.2.2.1.name = yX6_digest.name) {out : (Int64 × zq_H)} (hF : f_X6_digest h t = some out) (hE : zq_End X cX6_digest 0 0 (some (.long out.1)) out.2) : zq_W X 0 0 h 0 [(0, .ref t)] [] := by
  unfold f_X6_digest at hF
  refine zq_aload_n (pc' := 1) C dX6_digest_0 rfl rfl rfl ?_
  refine zq_iconst (pc' := 2) C 0 dX6_digest_1 rfl (by decide) ?_
  replace hF := zq_bd hF; obtain ⟨h_1, e_2, hF⟩ := hF
  refine zq_putI (j := 7) (pc' := 5) C zq_K6 zq_in6w (Or.inl wd_542) (by decide) rfl rfl dX6_digest_2 rfl (Or.inl rfl) e_2 ?_
  refine zq_aload_n (pc' := 6) C dX6_digest_5 rfl rfl rfl ?_
  refine zq_ldc2l (pc' := 9) C 2477 dX6_digest_6 rfl wd_686 ?_
  replace hF := zq_bd hF; obtain ⟨h_3, e_4, hF⟩ := hF
  refine zq_putL (j := 21) (pc' := 12) C zq_K6 zq_in6w (Or.inl wd_679) (by decide) rfl rfl dX6_digest_9 rfl (Or.inl rfl) e_4 ?_
  refine zq_iconst (pc' := 13) C 0 dX6_digest_12 rfl (by decide) ?_
  refine zq_istore_n (lv' := [(1, .int 0), (0, .ref t)]) (pc' := 14) C dX6_digest_13 rfl rfl (by decide) rfl rfl ?_
  refine zq_sub [1, 0] rfl ?_
  replace hF := zq_bd hF; obtain ⟨r_6, e_7, hF⟩ := hF
  refine zq_lpW (fun s_5 => zq_W X 0 0 s_5.2 14 [(0, .ref t), (1, .int s_5.1)] []) (fun y_8 => zq_W X 0 0 y_8 36 [(0, .ref t)] []) e_7 (fun s_5 q_12 hF hrec_10 hex_11 => ?_) ?_
  · skip
    refine zq_iload_n (pc' := 15) C dX6_digest_14 rfl rfl rfl ?_
    refine zq_bipush (pc' := 17) C 10 dX6_digest_15 rfl (by decide) ?_
    refine zq_icmp_ge (pc' := 20) C 36 dX6_digest_17 (by decide) rfl (fun c_13 => ?_) (fun c_13 => ?_)
    · have hF := (zq_ifp hF c_13)
      skip
      cases hF
      exact zq_sub [0] rfl (hex_11 _ rfl)
    · have hF := (zq_ifn hF c_13)
      refine zq_aload_n (pc' := 21) C dX6_digest_20 rfl rfl rfl ?_
      refine zq_aload_n (pc' := 22) C dX6_digest_21 rfl rfl rfl ?_
      refine zq_iload_n (pc' := 23) C dX6_digest_22 rfl rfl rfl ?_
      replace hF := zq_ck_e hF; obtain ⟨e_16, hF⟩ := hF
      replace hF := zq_bd hF; obtain ⟨v_14, e_15, hF⟩ := hF
      refine zq_cV (pc' := 26) C (c_X6_counted e_15) yv_X6_counted wd_669 zq_K6 e_16 dX6_digest_23 rfl rfl rfl ⟨Nat.le_of_ble_eq_true rfl, Nat.le_of_ble_eq_true rfl⟩ (Nat.le_of_ble_eq_true rfl) ⟨rfl, rfl⟩ ⟨Nat.le_of_ble_eq_true rfl, Nat.le_of_ble_eq_true rfl⟩ rfl ?_
      refine zq_i2l (pc' := 27) C dX6_digest_26 rfl ?_
      replace hF := zq_ck_e hF; obtain ⟨e_19, hF⟩ := hF
      replace hF := zq_bd hF; obtain ⟨v_17, e_18, hF⟩ := hF
      refine zq_cV (pc' := 30) C (c_X6_mix e_18) yv_X6_mix wd_687 zq_K6 e_19 dX6_digest_27 rfl rfl rfl ⟨Nat.le_of_ble_eq_true rfl, Nat.le_of_ble_eq_true rfl⟩ (Nat.le_of_ble_eq_true rfl) ⟨rfl, rfl⟩ ⟨Nat.le_of_ble_eq_true rfl, Nat.le_of_ble_eq_true rfl⟩ rfl ?_
      replace hF := zq_let_e hF; obtain ⟨v_20, e_21, hF⟩ := hF
      refine zq_iinc (lv' := [(1, .int v_20), (0, .ref t)]) (pc' := 33) C dX6_digest_30 rfl (by decide) 1 rfl e_21 rfl ?_
      refine zq_goto C 14 dX6_digest_33 (by decide) ?_
      cases hF
      exact zq_sub [1, 0] rfl (hrec_10 _ rfl)
  · skip
    obtain ⟨y_8, rfl⟩ : ∃ z9, z9 = r_6 := ⟨_, rfl⟩
    show zq_W X 0 0 y_8 36 [(0, .ref t)] []
    refine zq_iconst (pc' := 37) C 0 dX6_digest_36 rfl (by decide) ?_
    refine zq_istore_n (lv' := [(1, .int 0), (0, .ref t)]) (pc' := 38) C dX6_digest_37 rfl rfl (by decide) rfl rfl ?_
    refine zq_sub [1, 0] rfl ?_
    replace hF := zq_bd hF; obtain ⟨r_23, e_24, hF⟩ := hF
    refine zq_lpW (fun s_22 => zq_W X 0 0 s_22.2 38 [(0, .ref t), (1, .int s_22.1)] []) (fun y_25 => zq_W X 0 0 y_25 110 [(0, .ref t)] []) e_24 (fun s_22 q_29 hF hrec_27 hex_28 => ?_) ?_
    · skip
      refine zq_iload_n (pc' := 39) C dX6_digest_38 rfl rfl rfl ?_
      refine zq_iconst (pc' := 40) C 2 dX6_digest_39 rfl (by decide) ?_
      refine zq_icmp_ge (pc' := 43) C 110 dX6_digest_40 (by decide) rfl (fun c_30 => ?_) (fun c_30 => ?_)
      · have hF := (zq_ifp hF c_30)
        skip
        cases hF
        exact zq_sub [0] rfl (hex_28 _ rfl)
      · have hF := (zq_ifn hF c_30)
        refine zq_iconst (pc' := 44) C 0 dX6_digest_43 rfl (by decide) ?_
        refine zq_istore_n (lv' := [(2, .int 0), (0, .ref t), (1, .int s_22.1)]) (pc' := 45) C dX6_digest_44 rfl rfl (by decide) rfl rfl ?_
        refine zq_sub [1, 2, 0] rfl ?_
        replace hF := zq_bd hF; obtain ⟨r_32, e_33, hF⟩ := hF
        refine zq_lpW (fun s_31 => zq_W X 0 0 s_31.2 45 [(0, .ref t), (1, .int s_22.1), (2, .int s_31.1)] []) (fun y_34 => zq_W X 0 0 y_34 68 [(0, .ref t), (1, .int s_22.1)] []) e_33 (fun s_31 q_38 hF hrec_36 hex_37 => ?_) ?_
        · skip
          refine zq_iload_n (pc' := 46) C dX6_digest_45 rfl rfl rfl ?_
          refine zq_bipush (pc' := 48) C 7 dX6_digest_46 rfl (by decide) ?_
          refine zq_icmp_ge (pc' := 51) C 68 dX6_digest_48 (by decide) rfl (fun c_39 => ?_) (fun c_39 => ?_)
          · have hF := (zq_ifp hF c_39)
            skip
            cases hF
            exact zq_sub [0, 1] rfl (hex_37 _ rfl)
          · have hF := (zq_ifn hF c_39)
            refine zq_aload_n (pc' := 52) C dX6_digest_51 rfl rfl rfl ?_
            refine zq_aload_n (pc' := 53) C dX6_digest_52 rfl rfl rfl ?_
            refine zq_iload_n (pc' := 54) C dX6_digest_53 rfl rfl rfl ?_
            refine zq_iload_n (pc' := 55) C dX6_digest_54 rfl rfl rfl ?_
            replace hF := zq_ck_e hF; obtain ⟨e_42, hF⟩ := hF
            replace hF := zq_bd hF; obtain ⟨v_40, e_41, hF⟩ := hF
            refine zq_cV (pc' := 58) C (c_X6_triangulationNow e_41) yv_X6_triangulationNow wd_639 zq_K6 e_42 dX6_digest_55 rfl rfl rfl ⟨Nat.le_of_ble_eq_true rfl, Nat.le_of_ble_eq_true rfl⟩ (Nat.le_of_ble_eq_true rfl) ⟨rfl, rfl⟩ ⟨Nat.le_of_ble_eq_true rfl, Nat.le_of_ble_eq_true rfl⟩ rfl ?_
            refine zq_i2l (pc' := 59) C dX6_digest_58 rfl ?_
            replace hF := zq_ck_e hF; obtain ⟨e_45, hF⟩ := hF
            replace hF := zq_bd hF; obtain ⟨v_43, e_44, hF⟩ := hF
            refine zq_cV (pc' := 62) C (c_X6_mix e_44) yv_X6_mix wd_687 zq_K6 e_45 dX6_digest_59 rfl rfl rfl ⟨Nat.le_of_ble_eq_true rfl, Nat.le_of_ble_eq_true rfl⟩ (Nat.le_of_ble_eq_true rfl) ⟨rfl, rfl⟩ ⟨Nat.le_of_ble_eq_true rfl, Nat.le_of_ble_eq_true rfl⟩ rfl ?_
            replace hF := zq_let_e hF; obtain ⟨v_46, e_47, hF⟩ := hF
            refine zq_iinc (lv' := [(2, .int v_46), (0, .ref t), (1, .int s_22.1)]) (pc' := 65) C dX6_digest_62 rfl (by decide) 2 rfl e_47 rfl ?_
            refine zq_goto C 45 dX6_digest_65 (by decide) ?_
            cases hF
            exact zq_sub [1, 2, 0] rfl (hrec_36 _ rfl)
        · skip
          obtain ⟨y_34, rfl⟩ : ∃ z9, z9 = r_32 := ⟨_, rfl⟩
          show zq_W X 0 0 y_34 68 [(0, .ref t), (1, .int s_22.1)] []
          refine zq_iconst (pc' := 69) C 0 dX6_digest_68 rfl (by decide) ?_
          refine zq_istore_n (lv' := [(2, .int 0), (0, .ref t), (1, .int s_22.1)]) (pc' := 70) C dX6_digest_69 rfl rfl (by decide) rfl rfl ?_
          refine zq_sub [1, 2, 0] rfl ?_
          replace hF := zq_bd hF; obtain ⟨r_49, e_50, hF⟩ := hF
          refine zq_lpW (fun s_48 => zq_W X 0 0 s_48.2 70 [(0, .ref t), (1, .int s_22.1), (2, .int s_48.1)] []) (fun y_51 => zq_W X 0 0 y_51 104 [(0, .ref t), (1, .int s_22.1)] []) e_50 (fun s_48 q_55 hF hrec_53 hex_54 => ?_) ?_
          · skip
            refine zq_iload_n (pc' := 71) C dX6_digest_70 rfl rfl rfl ?_
            refine zq_aload_n (pc' := 72) C dX6_digest_71 rfl rfl rfl ?_
            replace hF := zq_bd hF; obtain ⟨v_56, e_57, hF⟩ := hF
            refine zq_getR (j := 0) (pc' := 75) C zq_K6 zq_in6w (Or.inl wd_448) (by decide) rfl dX6_digest_72 rfl e_57 ?_
            refine zq_iconst (pc' := 76) C 0 dX6_digest_75 rfl (by decide) ?_
            replace hF := zq_bd hF; obtain ⟨v_58, e_59, hF⟩ := hF
            refine zq_iaload (pc' := 77) C dX6_digest_76 rfl e_59 ?_
            refine zq_icmp_ge (pc' := 80) C 104 dX6_digest_77 (by decide) rfl (fun c_60 => ?_) (fun c_60 => ?_)
            · have hF := (zq_ifp hF c_60)
              skip
              cases hF
              exact zq_sub [0, 1] rfl (hex_54 _ rfl)
            · have hF := (zq_ifn hF c_60)
              refine zq_aload_n (pc' := 81) C dX6_digest_80 rfl rfl rfl ?_
              refine zq_aload_n (pc' := 82) C dX6_digest_81 rfl rfl rfl ?_
              refine zq_aload_n (pc' := 83) C dX6_digest_82 rfl rfl rfl ?_
              replace hF := zq_bd hF; obtain ⟨v_61, e_62, hF⟩ := hF
              refine zq_getR (j := 0) (pc' := 86) C zq_K6 zq_in6w (Or.inl wd_448) (by decide) rfl dX6_digest_83 rfl e_62 ?_
              refine zq_iconst (pc' := 87) C 1 dX6_digest_86 rfl (by decide) ?_
              refine zq_iload_n (pc' := 88) C dX6_digest_87 rfl rfl rfl ?_
              refine zq_iadd (pc' := 89) C dX6_digest_88 rfl ?_
              replace hF := zq_bd hF; obtain ⟨v_63, e_64, hF⟩ := hF
              refine zq_iaload (pc' := 90) C dX6_digest_89 rfl e_64 ?_
              refine zq_iload_n (pc' := 91) C dX6_digest_90 rfl rfl rfl ?_
              replace hF := zq_ck_e hF; obtain ⟨e_67, hF⟩ := hF
              replace hF := zq_bd hF; obtain ⟨v_65, e_66, hF⟩ := hF
              refine zq_cV (pc' := 94) C (c_X6_degreeOf e_66) yv_X6_degreeOf wd_626 zq_K6 e_67 dX6_digest_91 rfl rfl rfl ⟨Nat.le_of_ble_eq_true rfl, Nat.le_of_ble_eq_true rfl⟩ (Nat.le_of_ble_eq_true rfl) ⟨rfl, rfl⟩ ⟨Nat.le_of_ble_eq_true rfl, Nat.le_of_ble_eq_true rfl⟩ rfl ?_
              refine zq_i2l (pc' := 95) C dX6_digest_94 rfl ?_
              replace hF := zq_ck_e hF; obtain ⟨e_70, hF⟩ := hF
              replace hF := zq_bd hF; obtain ⟨v_68, e_69, hF⟩ := hF
              refine zq_cV (pc' := 98) C (c_X6_mix e_69) yv_X6_mix wd_687 zq_K6 e_70 dX6_digest_95 rfl rfl rfl ⟨Nat.le_of_ble_eq_true rfl, Nat.le_of_ble_eq_true rfl⟩ (Nat.le_of_ble_eq_true rfl) ⟨rfl, rfl⟩ ⟨Nat.le_of_ble_eq_true rfl, Nat.le_of_ble_eq_true rfl⟩ rfl ?_
              replace hF := zq_let_e hF; obtain ⟨v_71, e_72, hF⟩ := hF
              refine zq_iinc (lv' := [(2, .int v_71), (0, .ref t), (1, .int s_22.1)]) (pc' := 101) C dX6_digest_98 rfl (by decide) 2 rfl e_72 rfl ?_
              refine zq_goto C 70 dX6_digest_101 (by decide) ?_
              cases hF
              exact zq_sub [1, 2, 0] rfl (hrec_53 _ rfl)
          · skip
            obtain ⟨y_51, rfl⟩ : ∃ z9, z9 = r_49 := ⟨_, rfl⟩
            show zq_W X 0 0 y_51 104 [(0, .ref t), (1, .int s_22.1)] []
            replace hF := zq_let_e hF; obtain ⟨v_73, e_74, hF⟩ := hF
            refine zq_iinc (lv' := [(1, .int v_73), (0, .ref t)]) (pc' := 107) C dX6_digest_104 rfl (by decide) 1 rfl e_74 rfl ?_
            refine zq_goto C 38 dX6_digest_107 (by decide) ?_
            cases hF
            exact zq_sub [1, 0] rfl (hrec_27 _ rfl)
    · skip
      obtain ⟨y_25, rfl⟩ : ∃ z9, z9 = r_23 := ⟨_, rfl⟩
      show zq_W X 0 0 y_25 110 [(0, .ref t)] []
      refine zq_iconst (pc' := 111) C 0 dX6_digest_110 rfl (by decide) ?_
      refine zq_istore_n (lv' := [(1, .int 0), (0, .ref t)]) (pc' := 112) C dX6_digest_111 rfl rfl (by decide) rfl rfl ?_
      refine zq_sub [1, 0] rfl ?_
      replace hF := zq_bd hF; obtain ⟨r_76, e_77, hF⟩ := hF
      refine zq_lpW (fun s_75 => zq_W X 0 0 s_75.2 112 [(0, .ref t), (1, .int s_75.1)] []) (fun y_78 => zq_W X 0 0 y_78 134 [(0, .ref t)] []) e_77 (fun s_75 q_82 hF hrec_80 hex_81 => ?_) ?_
      · skip
        refine zq_iload_n (pc' := 113) C dX6_digest_112 rfl rfl rfl ?_
        refine zq_bipush (pc' := 115) C 6 dX6_digest_113 rfl (by decide) ?_
        refine zq_icmp_ge (pc' := 118) C 134 dX6_digest_115 (by decide) rfl (fun c_83 => ?_) (fun c_83 => ?_)
        · have hF := (zq_ifp hF c_83)
          skip
          cases hF
          exact zq_sub [0] rfl (hex_81 _ rfl)
        · have hF := (zq_ifn hF c_83)
          refine zq_aload_n (pc' := 119) C dX6_digest_118 rfl rfl rfl ?_
          refine zq_aload_n (pc' := 120) C dX6_digest_119 rfl rfl rfl ?_
          refine zq_iload_n (pc' := 121) C dX6_digest_120 rfl rfl rfl ?_
          replace hF := zq_ck_e hF; obtain ⟨e_86, hF⟩ := hF
          replace hF := zq_bd hF; obtain ⟨v_84, e_85, hF⟩ := hF
          refine zq_cV (pc' := 124) C (c_X6_distanceNow e_85) yv_X6_distanceNow wd_658 zq_K6 e_86 dX6_digest_121 rfl rfl rfl ⟨Nat.le_of_ble_eq_true rfl, Nat.le_of_ble_eq_true rfl⟩ (Nat.le_of_ble_eq_true rfl) ⟨rfl, rfl⟩ ⟨Nat.le_of_ble_eq_true rfl, Nat.le_of_ble_eq_true rfl⟩ rfl ?_
          refine zq_i2l (pc' := 125) C dX6_digest_124 rfl ?_
          replace hF := zq_ck_e hF; obtain ⟨e_89, hF⟩ := hF
          replace hF := zq_bd hF; obtain ⟨v_87, e_88, hF⟩ := hF
          refine zq_cV (pc' := 128) C (c_X6_mix e_88) yv_X6_mix wd_687 zq_K6 e_89 dX6_digest_125 rfl rfl rfl ⟨Nat.le_of_ble_eq_true rfl, Nat.le_of_ble_eq_true rfl⟩ (Nat.le_of_ble_eq_true rfl) ⟨rfl, rfl⟩ ⟨Nat.le_of_ble_eq_true rfl, Nat.le_of_ble_eq_true rfl⟩ rfl ?_
          replace hF := zq_let_e hF; obtain ⟨v_90, e_91, hF⟩ := hF
          refine zq_iinc (lv' := [(1, .int v_90), (0, .ref t)]) (pc' := 131) C dX6_digest_128 rfl (by decide) 1 rfl e_91 rfl ?_
          refine zq_goto C 112 dX6_digest_131 (by decide) ?_
          cases hF
          exact zq_sub [1, 0] rfl (hrec_80 _ rfl)
      · skip
        obtain ⟨y_78, rfl⟩ : ∃ z9, z9 = r_76 := ⟨_, rfl⟩
        show zq_W X 0 0 y_78 134 [(0, .ref t)] []
        refine zq_iconst (pc' := 135) C 0 dX6_digest_134 rfl (by decide) ?_
        refine zq_istore_n (lv' := [(1, .int 0), (0, .ref t)]) (pc' := 136) C dX6_digest_135 rfl rfl (by decide) rfl rfl ?_
        refine zq_sub [1, 0] rfl ?_
        replace hF := zq_bd hF; obtain ⟨r_93, e_94, hF⟩ := hF
        refine zq_lpW (fun s_92 => zq_W X 0 0 s_92.2 136 [(0, .ref t), (1, .int s_92.1)] []) (fun y_95 => zq_W X 0 0 y_95 192 [(0, .ref t)] []) e_94 (fun s_92 q_99 hF hrec_97 hex_98 => ?_) ?_
        · skip
          refine zq_iload_n (pc' := 137) C dX6_digest_136 rfl rfl rfl ?_
          refine zq_aload_n (pc' := 138) C dX6_digest_137 rfl rfl rfl ?_
          replace hF := zq_bd hF; obtain ⟨v_100, e_101, hF⟩ := hF
          refine zq_getI (j := 9) (pc' := 141) C zq_K6 zq_in6w (Or.inl wd_446) (by decide) rfl dX6_digest_138 rfl e_101 ?_
          refine zq_icmp_ge (pc' := 144) C 192 dX6_digest_141 (by decide) rfl (fun c_102 => ?_) (fun c_102 => ?_)
          · have hF := (zq_ifp hF c_102)
            skip
            cases hF
            exact zq_sub [0] rfl (hex_98 _ rfl)
          · have hF := (zq_ifn hF c_102)
            refine zq_aload_n (pc' := 145) C dX6_digest_144 rfl rfl rfl ?_
            refine zq_aload_n (pc' := 146) C dX6_digest_145 rfl rfl rfl ?_
            refine zq_iconst (pc' := 147) C 0 dX6_digest_146 rfl (by decide) ?_
            refine zq_iload_n (pc' := 148) C dX6_digest_147 rfl rfl rfl ?_
            replace hF := zq_ck_e hF; obtain ⟨e_105, hF⟩ := hF
            replace hF := zq_bd hF; obtain ⟨v_103, e_104, hF⟩ := hF
            refine zq_cV (pc' := 151) C (c_X6_otherNow e_104) yv_X6_otherNow wd_645 zq_K6 e_105 dX6_digest_148 rfl rfl rfl ⟨Nat.le_of_ble_eq_true rfl, Nat.le_of_ble_eq_true rfl⟩ (Nat.le_of_ble_eq_true rfl) ⟨rfl, rfl⟩ ⟨Nat.le_of_ble_eq_true rfl, Nat.le_of_ble_eq_true rfl⟩ rfl ?_
            refine zq_i2l (pc' := 152) C dX6_digest_151 rfl ?_
            replace hF := zq_ck_e hF; obtain ⟨e_108, hF⟩ := hF
            replace hF := zq_bd hF; obtain ⟨v_106, e_107, hF⟩ := hF
            refine zq_cV (pc' := 155) C (c_X6_mix e_107) yv_X6_mix wd_687 zq_K6 e_108 dX6_digest_152 rfl rfl rfl ⟨Nat.le_of_ble_eq_true rfl, Nat.le_of_ble_eq_true rfl⟩ (Nat.le_of_ble_eq_true rfl) ⟨rfl, rfl⟩ ⟨Nat.le_of_ble_eq_true rfl, Nat.le_of_ble_eq_true rfl⟩ rfl ?_
            refine zq_aload_n (pc' := 156) C dX6_digest_155 rfl rfl rfl ?_
            refine zq_aload_n (pc' := 157) C dX6_digest_156 rfl rfl rfl ?_
            refine zq_iconst (pc' := 158) C 1 dX6_digest_157 rfl (by decide) ?_
            refine zq_iload_n (pc' := 159) C dX6_digest_158 rfl rfl rfl ?_
            replace hF := zq_ck_e hF; obtain ⟨e_111, hF⟩ := hF
            replace hF := zq_bd hF; obtain ⟨v_109, e_110, hF⟩ := hF
            refine zq_cV (pc' := 162) C (c_X6_otherNow e_110) yv_X6_otherNow wd_645 zq_K6 e_111 dX6_digest_159 rfl rfl rfl ⟨Nat.le_of_ble_eq_true rfl, Nat.le_of_ble_eq_true rfl⟩ (Nat.le_of_ble_eq_true rfl) ⟨rfl, rfl⟩ ⟨Nat.le_of_ble_eq_true rfl, Nat.le_of_ble_eq_true rfl⟩ rfl ?_
            refine zq_i2l (pc' := 163) C dX6_digest_162 rfl ?_
            replace hF := zq_ck_e hF; obtain ⟨e_114, hF⟩ := hF
            replace hF := zq_bd hF; obtain ⟨v_112, e_113, hF⟩ := hF
            refine zq_cV (pc' := 166) C (c_X6_mix e_113) yv_X6_mix wd_687 zq_K6 e_114 dX6_digest_163 rfl rfl rfl ⟨Nat.le_of_ble_eq_true rfl, Nat.le_of_ble_eq_true rfl⟩ (Nat.le_of_ble_eq_true rfl) ⟨rfl, rfl⟩ ⟨Nat.le_of_ble_eq_true rfl, Nat.le_of_ble_eq_true rfl⟩ rfl ?_
            refine zq_aload_n (pc' := 167) C dX6_digest_166 rfl rfl rfl ?_
            refine zq_aload_n (pc' := 168) C dX6_digest_167 rfl rfl rfl ?_
            refine zq_iload_n (pc' := 169) C dX6_digest_168 rfl rfl rfl ?_
            replace hF := zq_ck_e hF; obtain ⟨e_117, hF⟩ := hF
            replace hF := zq_bd hF; obtain ⟨v_115, e_116, hF⟩ := hF
            refine zq_cV (pc' := 172) C (c_X6_reason e_116) yv_X6_reason wd_651 zq_K6 e_117 dX6_digest_169 rfl rfl rfl ⟨Nat.le_of_ble_eq_true rfl, Nat.le_of_ble_eq_true rfl⟩ (Nat.le_of_ble_eq_true rfl) ⟨rfl, rfl⟩ ⟨Nat.le_of_ble_eq_true rfl, Nat.le_of_ble_eq_true rfl⟩ rfl ?_
            refine zq_i2l (pc' := 173) C dX6_digest_172 rfl ?_
            replace hF := zq_ck_e hF; obtain ⟨e_120, hF⟩ := hF
            replace hF := zq_bd hF; obtain ⟨v_118, e_119, hF⟩ := hF
            refine zq_cV (pc' := 176) C (c_X6_mix e_119) yv_X6_mix wd_687 zq_K6 e_120 dX6_digest_173 rfl rfl rfl ⟨Nat.le_of_ble_eq_true rfl, Nat.le_of_ble_eq_true rfl⟩ (Nat.le_of_ble_eq_true rfl) ⟨rfl, rfl⟩ ⟨Nat.le_of_ble_eq_true rfl, Nat.le_of_ble_eq_true rfl⟩ rfl ?_
            refine zq_aload_n (pc' := 177) C dX6_digest_176 rfl rfl rfl ?_
            refine zq_aload_n (pc' := 178) C dX6_digest_177 rfl rfl rfl ?_
            refine zq_iload_n (pc' := 179) C dX6_digest_178 rfl rfl rfl ?_
            replace hF := zq_ck_e hF; obtain ⟨e_123, hF⟩ := hF
            replace hF := zq_bd hF; obtain ⟨v_121, e_122, hF⟩ := hF
            refine zq_cV (pc' := 182) C (c_X6_flippedThen e_122) yv_X6_flippedThen wd_663 zq_K6 e_123 dX6_digest_179 rfl rfl rfl ⟨Nat.le_of_ble_eq_true rfl, Nat.le_of_ble_eq_true rfl⟩ (Nat.le_of_ble_eq_true rfl) ⟨rfl, rfl⟩ ⟨Nat.le_of_ble_eq_true rfl, Nat.le_of_ble_eq_true rfl⟩ rfl ?_
            refine zq_i2l (pc' := 183) C dX6_digest_182 rfl ?_
            replace hF := zq_ck_e hF; obtain ⟨e_126, hF⟩ := hF
            replace hF := zq_bd hF; obtain ⟨v_124, e_125, hF⟩ := hF
            refine zq_cV (pc' := 186) C (c_X6_mix e_125) yv_X6_mix wd_687 zq_K6 e_126 dX6_digest_183 rfl rfl rfl ⟨Nat.le_of_ble_eq_true rfl, Nat.le_of_ble_eq_true rfl⟩ (Nat.le_of_ble_eq_true rfl) ⟨rfl, rfl⟩ ⟨Nat.le_of_ble_eq_true rfl, Nat.le_of_ble_eq_true rfl⟩ rfl ?_
            replace hF := zq_let_e hF; obtain ⟨v_127, e_128, hF⟩ := hF
            refine zq_iinc (lv' := [(1, .int v_127), (0, .ref t)]) (pc' := 189) C dX6_digest_186 rfl (by decide) 1 rfl e_128 rfl ?_
            refine zq_goto C 136 dX6_digest_189 (by decide) ?_
            cases hF
            exact zq_sub [1, 0] rfl (hrec_97 _ rfl)
        · skip
          obtain ⟨y_95, rfl⟩ : ∃ z9, z9 = r_93 := ⟨_, rfl⟩
          show zq_W X 0 0 y_95 192 [(0, .ref t)] []
          refine zq_aload_n (pc' := 193) C dX6_digest_192 rfl rfl rfl ?_
          refine zq_aload_n (pc' := 194) C dX6_digest_193 rfl rfl rfl ?_
          replace hF := zq_ck_e hF; obtain ⟨e_131, hF⟩ := hF
          replace hF := zq_bd hF; obtain ⟨v_129, e_130, hF⟩ := hF
          refine zq_cV (pc' := 197) C (c_X6_share e_130) yv_X6_share wd_673 zq_K6 e_131 dX6_digest_194 rfl rfl rfl ⟨Nat.le_of_ble_eq_true rfl, Nat.le_of_ble_eq_true rfl⟩ (Nat.le_of_ble_eq_true rfl) ⟨rfl, rfl⟩ ⟨Nat.le_of_ble_eq_true rfl, Nat.le_of_ble_eq_true rfl⟩ rfl ?_
          replace hF := zq_bd hF; obtain ⟨v_132, e_133, hF⟩ := hF
          refine zq_cS (pc' := 200) C (c_Jxe99ae_doubleToLongBits_ccdee e_133) ys_Jxe99ae_doubleToLongBits_ccdee wd_690 dX6_digest_197 rfl rfl rfl ⟨Nat.le_of_ble_eq_true rfl, Nat.le_of_ble_eq_true rfl⟩ (Nat.le_of_ble_eq_true rfl) ⟨rfl, rfl⟩ ⟨Nat.le_of_ble_eq_true rfl, Nat.le_of_ble_eq_true rfl⟩ rfl ?_
          replace hF := zq_ck_e hF; obtain ⟨e_136, hF⟩ := hF
          replace hF := zq_bd hF; obtain ⟨v_134, e_135, hF⟩ := hF
          refine zq_cV (pc' := 203) C (c_X6_mix e_135) yv_X6_mix wd_687 zq_K6 e_136 dX6_digest_200 rfl rfl rfl ⟨Nat.le_of_ble_eq_true rfl, Nat.le_of_ble_eq_true rfl⟩ (Nat.le_of_ble_eq_true rfl) ⟨rfl, rfl⟩ ⟨Nat.le_of_ble_eq_true rfl, Nat.le_of_ble_eq_true rfl⟩ rfl ?_
          refine zq_aload_n (pc' := 204) C dX6_digest_203 rfl rfl rfl ?_
          refine zq_aload_n (pc' := 205) C dX6_digest_204 rfl rfl rfl ?_
          replace hF := zq_bd hF; obtain ⟨v_137, e_138, hF⟩ := hF
          refine zq_getI (j := 5) (pc' := 208) C zq_K6 zq_in6w (Or.inl wd_594) (by decide) rfl dX6_digest_205 rfl e_138 ?_
          refine zq_i2l (pc' := 209) C dX6_digest_208 rfl ?_
          replace hF := zq_ck_e hF; obtain ⟨e_141, hF⟩ := hF
          replace hF := zq_bd hF; obtain ⟨v_139, e_140, hF⟩ := hF
          refine zq_cV (pc' := 212) C (c_X6_mix e_140) yv_X6_mix wd_687 zq_K6 e_141 dX6_digest_209 rfl rfl rfl ⟨Nat.le_of_ble_eq_true rfl, Nat.le_of_ble_eq_true rfl⟩ (Nat.le_of_ble_eq_true rfl) ⟨rfl, rfl⟩ ⟨Nat.le_of_ble_eq_true rfl, Nat.le_of_ble_eq_true rfl⟩ rfl ?_
          refine zq_iconst (pc' := 213) C 0 dX6_digest_212 rfl (by decide) ?_
          refine zq_istore_n (lv' := [(1, .int 0), (0, .ref t)]) (pc' := 214) C dX6_digest_213 rfl rfl (by decide) rfl rfl ?_
          refine zq_sub [1, 0] rfl ?_
          replace hF := zq_bd hF; obtain ⟨r_143, e_144, hF⟩ := hF
          refine zq_lpW (fun s_142 => zq_W X 0 0 s_142.2 214 [(0, .ref t), (1, .int s_142.1)] []) (fun y_145 => zq_W X 0 0 y_145 239 [(0, .ref t)] []) e_144 (fun s_142 q_149 hF hrec_147 hex_148 => ?_) ?_
          · skip
            refine zq_iload_n (pc' := 215) C dX6_digest_214 rfl rfl rfl ?_
            refine zq_aload_n (pc' := 216) C dX6_digest_215 rfl rfl rfl ?_
            replace hF := zq_bd hF; obtain ⟨v_150, e_151, hF⟩ := hF
            refine zq_getI (j := 5) (pc' := 219) C zq_K6 zq_in6w (Or.inl wd_594) (by decide) rfl dX6_digest_216 rfl e_151 ?_
            refine zq_icmp_ge (pc' := 222) C 239 dX6_digest_219 (by decide) rfl (fun c_152 => ?_) (fun c_152 => ?_)
            · have hF := (zq_ifp hF c_152)
              skip
              cases hF
              exact zq_sub [0] rfl (hex_148 _ rfl)
            · have hF := (zq_ifn hF c_152)
              refine zq_aload_n (pc' := 223) C dX6_digest_222 rfl rfl rfl ?_
              refine zq_aload_n (pc' := 224) C dX6_digest_223 rfl rfl rfl ?_
              replace hF := zq_bd hF; obtain ⟨v_153, e_154, hF⟩ := hF
              refine zq_getR (j := 6) (pc' := 227) C zq_K6 zq_in6w (Or.inl wd_536) (by decide) rfl dX6_digest_224 rfl e_154 ?_
              refine zq_iload_n (pc' := 228) C dX6_digest_227 rfl rfl rfl ?_
              replace hF := zq_bd hF; obtain ⟨v_155, e_156, hF⟩ := hF
              refine zq_iaload (pc' := 229) C dX6_digest_228 rfl e_156 ?_
              refine zq_i2l (pc' := 230) C dX6_digest_229 rfl ?_
              replace hF := zq_ck_e hF; obtain ⟨e_159, hF⟩ := hF
              replace hF := zq_bd hF; obtain ⟨v_157, e_158, hF⟩ := hF
              refine zq_cV (pc' := 233) C (c_X6_mix e_158) yv_X6_mix wd_687 zq_K6 e_159 dX6_digest_230 rfl rfl rfl ⟨Nat.le_of_ble_eq_true rfl, Nat.le_of_ble_eq_true rfl⟩ (Nat.le_of_ble_eq_true rfl) ⟨rfl, rfl⟩ ⟨Nat.le_of_ble_eq_true rfl, Nat.le_of_ble_eq_true rfl⟩ rfl ?_
              replace hF := zq_let_e hF; obtain ⟨v_160, e_161, hF⟩ := hF
              refine zq_iinc (lv' := [(1, .int v_160), (0, .ref t)]) (pc' := 236) C dX6_digest_233 rfl (by decide) 1 rfl e_161 rfl ?_
              refine zq_goto C 214 dX6_digest_236 (by decide) ?_
              cases hF
              exact zq_sub [1, 0] rfl (hrec_147 _ rfl)
          · skip
            obtain ⟨y_145, rfl⟩ : ∃ z9, z9 = r_143 := ⟨_, rfl⟩
            show zq_W X 0 0 y_145 239 [(0, .ref t)] []
            refine zq_aload_n (pc' := 240) C dX6_digest_239 rfl rfl rfl ?_
            replace hF := zq_bd hF; obtain ⟨v_162, e_163, hF⟩ := hF
            refine zq_getL (j := 21) (pc' := 243) C zq_K6 zq_in6w (Or.inl wd_679) (by decide) rfl dX6_digest_240 rfl e_163 ?_
            have hF := Option.some.inj hF
            subst hF
            exact hE _ _ _ _ (Nat.le_of_ble_eq_true rfl) (Nat.le_of_ble_eq_true rfl) dX6_digest_243
theorem c_X6_digest {h : zq_H} {t : Nat} {out : (Int64 × zq_H)} (hF : f_X6_digest h t = some out) : zq_M none yX6_digest (Cond.code yX6_digest cX6_digest 3 (some .long) :: zq_all) rm_X6_digest [.ref t] h (some (.long out.1)) out.2 := zq_met2 (own := RX6) (by decide +kernel) rfl (Nat.le_of_ble_eq_true rfl) rfl rfl (fun X C T hn hE => v_X6_digest C T hn hF hE)
theorem yv_X6_digest : zq_calV yX6_digest RX6 cX6_digest 3 (some .long) 0 := ⟨by decide +kernel, wd_692, wd_919, wd_920, wd_458⟩
