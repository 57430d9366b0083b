def f_X6_mirror (h : zq_H) (t : Nat) (x1 : Int32) : Option (Int32 × zq_H) := (Option.bind (f_X6_isWhich h x1) fun v_1 => (if v_1 = false then (Option.bind (zq_pi h t 6 7 1) fun h_4 => some ((0, h_4))) else (Option.bind (zq_pi h t 6 7 0) fun h_9 => (zq_ck h_9 t 6 fun _ => (Option.bind (f_X6_save h_9 t) fun v_14 => (Option.bind (zq_gr v_14 t 6 0) fun v_17 => (Option.bind (zq_gr v_14 t 6 0) fun v_19 => (Option.bind (zq_ai v_14 v_19 (1 + x1)) fun v_21 => (zq_ck v_14 t 6 fun _ => (Option.bind (f_X6_mirrored v_14 t v_21) fun v_23 => (Option.bind (zq_si v_14 v_17 (1 + x1) v_23) fun h_26 => (Option.bind (zq_gr h_26 t 6 0) fun v_28 => (if x1 = 0 then (Option.bind (zq_gr h_26 t 6 0) fun v_41 => (Option.bind (zq_ai h_26 v_41 3) fun v_43 => (zq_ck h_26 t 6 fun _ => (Option.bind (f_X6_mirrored h_26 t v_43) fun v_45 => (Option.bind (zq_si h_26 v_28 3 v_45) fun h_48 => (Option.bind (zq_gr h_48 t 6 0) fun v_50 => (Option.bind (zq_ai h_48 v_50 (1 + x1)) fun v_52 => some ((v_52, h_48))))))))) else (Option.bind (zq_gr h_26 t 6 0) fun v_31 => (Option.bind (zq_ai h_26 v_31 3) fun v_33 => (Option.bind (zq_si h_26 v_28 3 v_33) fun h_35 => (Option.bind (zq_gr h_35 t 6 0) fun v_37 => (Option.bind (zq_ai h_35 v_37 (1 + x1)) fun v_39 => some ((v_39, h_35))))))))))))))))))))
abbrev rm_X6_mirror : Room := { frames := 2, cells := 0, slots := 0, locals := 46 }
theorem dX6_mirror_0 : decode cX6_mirror 0 = .ok (.aload_n 0, 1) := by decide +kernel
theorem dX6_mirror_1 : decode cX6_mirror 1 = .ok (.iload_n 1, 1) := by decide +kernel
theorem dX6_mirror_2 : decode cX6_mirror 2 = .ok (.invokestatic 144, 3) := by decide +kernel
theorem dX6_mirror_5 : decode cX6_mirror 5 = .ok (.ifCond .eq 7, 3) := by decide +kernel
theorem dX6_mirror_8 : decode cX6_mirror 8 = .ok (.iconst 0, 1) := by decide +kernel
theorem dX6_mirror_9 : decode cX6_mirror 9 = .ok (.goto 4, 3) := by decide +kernel
theorem dX6_mirror_12 : decode cX6_mirror 12 = .ok (.iconst 1, 1) := by decide +kernel
theorem dX6_mirror_13 : decode cX6_mirror 13 = .ok (.putfield 56, 3) := by decide +kernel
theorem dX6_mirror_16 : decode cX6_mirror 16 = .ok (.aload_n 0, 1) := by decide +kernel
theorem dX6_mirror_17 : decode cX6_mirror 17 = .ok (.getfield 56, 3) := by decide +kernel
theorem dX6_mirror_20 : decode cX6_mirror 20 = .ok (.ifCond .le 5, 3) := by decide +kernel
theorem dX6_mirror_23 : decode cX6_mirror 23 = .ok (.iconst 0, 1) := by decide +kernel
theorem dX6_mirror_24 : decode cX6_mirror 24 = .ok (.ireturn, 1) := by decide +kernel
theorem dX6_mirror_25 : decode cX6_mirror 25 = .ok (.aload_n 0, 1) := by decide +kernel
theorem dX6_mirror_26 : decode cX6_mirror 26 = .ok (.invokevirtual 141, 3) := by decide +kernel
theorem dX6_mirror_29 : decode cX6_mirror 29 = .ok (.aload_n 0, 1) := by decide +kernel
theorem dX6_mirror_30 : decode cX6_mirror 30 = .ok (.getfield 7, 3) := by decide +kernel
theorem dX6_mirror_33 : decode cX6_mirror 33 = .ok (.iconst 1, 1) := by decide +kernel
theorem dX6_mirror_34 : decode cX6_mirror 34 = .ok (.iload_n 1, 1) := by decide +kernel
theorem dX6_mirror_35 : decode cX6_mirror 35 = .ok (.iadd, 1) := by decide +kernel
theorem dX6_mirror_36 : decode cX6_mirror 36 = .ok (.aload_n 0, 1) := by decide +kernel
theorem dX6_mirror_37 : decode cX6_mirror 37 = .ok (.aload_n 0, 1) := by decide +kernel
theorem dX6_mirror_38 : decode cX6_mirror 38 = .ok (.getfield 7, 3) := by decide +kernel
theorem dX6_mirror_41 : decode cX6_mirror 41 = .ok (.iconst 1, 1) := by decide +kernel
theorem dX6_mirror_42 : decode cX6_mirror 42 = .ok (.iload_n 1, 1) := by decide +kernel
theorem dX6_mirror_43 : decode cX6_mirror 43 = .ok (.iadd, 1) := by decide +kernel
theorem dX6_mirror_44 : decode cX6_mirror 44 = .ok (.iaload, 1) := by decide +kernel
theorem dX6_mirror_45 : decode cX6_mirror 45 = .ok (.invokevirtual 138, 3) := by decide +kernel
theorem dX6_mirror_48 : decode cX6_mirror 48 = .ok (.iastore, 1) := by decide +kernel
theorem dX6_mirror_49 : decode cX6_mirror 49 = .ok (.aload_n 0, 1) := by decide +kernel
theorem dX6_mirror_50 : decode cX6_mirror 50 = .ok (.getfield 7, 3) := by decide +kernel
theorem dX6_mirror_53 : decode cX6_mirror 53 = .ok (.iconst 3, 1) := by decide +kernel
theorem dX6_mirror_54 : decode cX6_mirror 54 = .ok (.iload_n 1, 1) := by decide +kernel
theorem dX6_mirror_55 : decode cX6_mirror 55 = .ok (.ifCond .ne 16, 3) := by decide +kernel
theorem dX6_mirror_58 : decode cX6_mirror 58 = .ok (.aload_n 0, 1) := by decide +kernel
theorem dX6_mirror_59 : decode cX6_mirror 59 = .ok (.aload_n 0, 1) := by decide +kernel
theorem dX6_mirror_60 : decode cX6_mirror 60 = .ok (.getfield 7, 3) := by decide +kernel
theorem dX6_mirror_63 : decode cX6_mirror 63 = .ok (.iconst 3, 1) := by decide +kernel
theorem dX6_mirror_64 : decode cX6_mirror 64 = .ok (.iaload, 1) := by decide +kernel
theorem dX6_mirror_65 : decode cX6_mirror 65 = .ok (.invokevirtual 138, 3) := by decide +kernel
theorem dX6_mirror_68 : decode cX6_mirror 68 = .ok (.goto 9, 3) := by decide +kernel
theorem dX6_mirror_71 : decode cX6_mirror 71 = .ok (.aload_n 0, 1) := by decide +kernel
theorem dX6_mirror_72 : decode cX6_mirror 72 = .ok (.getfield 7, 3) := by decide +kernel
theorem dX6_mirror_75 : decode cX6_mirror 75 = .ok (.iconst 3, 1) := by decide +kernel
theorem dX6_mirror_76 : decode cX6_mirror 76 = .ok (.iaload, 1) := by decide +kernel
theorem dX6_mirror_77 : decode cX6_mirror 77 = .ok (.iastore, 1) := by decide +kernel
theorem dX6_mirror_78 : decode cX6_mirror 78 = .ok (.aload_n 0, 1) := by decide +kernel
theorem dX6_mirror_79 : decode cX6_mirror 79 = .ok (.getfield 7, 3) := by decide +kernel
theorem dX6_mirror_82 : decode cX6_mirror 82 = .ok (.iconst 1, 1) := by decide +kernel
theorem dX6_mirror_83 : decode cX6_mirror 83 = .ok (.iload_n 1, 1) := by decide +kernel
theorem dX6_mirror_84 : decode cX6_mirror 84 = .ok (.iadd, 1) := by decide +kernel
theorem dX6_mirror_85 : decode cX6_mirror 85 = .ok (.iaload, 1) := by decide +kernel
theorem dX6_mirror_86 : decode cX6_mirror 86 = .ok (.ireturn, 1) := by decide +kernel
set_option maxRecDepth 100000 in
set_option maxHeartbeats 4000000 in
theorem v_X6_mirror {X : zq_X} (C : zq_C X RX6 cX6_mirror 2 zq_all rm_X6_mirror) {h : zq_H} {t : Nat} {x1 : Int32} (T : zq_T X none) (hn : X.2.2.2.2.2.2.2.2.1.name = yX6_mirror.name) {out : (Int32 × zq_H)} (hF : f_X6_mirror h t x1 = some out) (hE : zq_End X cX6_mirror 0 0 (some (.int out.1)) out.2) : zq_W X 0 0 h 0 [(0, .ref t), (1, .int x1)] [] := by
  unfold f_X6_mirror at hF
  refine zq_aload_n (pc' := 1) C dX6_mirror_0 rfl rfl rfl ?_
  refine zq_iload_n (pc' := 2) C dX6_mirror_1 rfl rfl rfl ?_
  replace hF := zq_bd hF; obtain ⟨v_1, e_2, hF⟩ := hF
  refine zq_cS (pc' := 5) C (c_X6_isWhich e_2) ys_X6_isWhich wd_565 dX6_mirror_2 rfl rfl rfl ⟨Nat.le_of_ble_eq_true rfl, Nat.le_of_ble_eq_true rfl⟩ (Nat.le_of_ble_eq_true rfl) ⟨rfl, rfl⟩ ⟨Nat.le_of_ble_eq_true rfl, Nat.le_of_ble_eq_true rfl⟩ rfl ?_
  refine zq_if_eq (pc' := 8) C 12 dX6_mirror_5 (by decide) rfl (fun c_3 => ?_) (fun c_3 => ?_)
  · have hF := (zq_ifp hF (zq_b0.mp c_3))
    skip
    refine zq_iconst (pc' := 13) C 1 dX6_mirror_12 rfl (by decide) ?_
    replace hF := zq_bd hF; obtain ⟨h_4, e_5, hF⟩ := hF
    refine zq_putI (j := 7) (pc' := 16) C zq_K6 zq_in6w (Or.inl wd_542) (by decide) rfl rfl dX6_mirror_13 rfl (Or.inl rfl) e_5 ?_
    refine zq_aload_n (pc' := 17) C dX6_mirror_16 rfl rfl rfl ?_
    have e_7 : zq_gi h_4 t 6 7 = some 1 := zq_gi_pi e_5
    refine zq_getI (j := 7) (pc' := 20) C zq_K6 zq_in6w (Or.inl wd_542) (by decide) rfl dX6_mirror_17 rfl e_7 ?_
    refine zq_if_le (pc' := 23) C 25 dX6_mirror_20 (by decide) rfl (fun c_8 => absurd c_8 (by decide)) (fun _ => ?_)
    refine zq_iconst (pc' := 24) C 0 dX6_mirror_23 rfl (by decide) ?_
    have hF := Option.some.inj hF
    subst hF
    exact hE _ _ _ _ (Nat.le_of_ble_eq_true rfl) (Nat.le_of_ble_eq_true rfl) dX6_mirror_24
  · have hF := (zq_ifn hF (fun q => c_3 (zq_b0.mpr q)))
    refine zq_iconst (pc' := 9) C 0 dX6_mirror_8 rfl (by decide) ?_
    refine zq_goto C 13 dX6_mirror_9 (by decide) ?_
    replace hF := zq_bd hF; obtain ⟨h_9, e_10, hF⟩ := hF
    refine zq_putI (j := 7) (pc' := 16) C zq_K6 zq_in6w (Or.inl wd_542) (by decide) rfl rfl dX6_mirror_13 rfl (Or.inl rfl) e_10 ?_
    refine zq_aload_n (pc' := 17) C dX6_mirror_16 rfl rfl rfl ?_
    have e_12 : zq_gi h_9 t 6 7 = some 0 := zq_gi_pi e_10
    refine zq_getI (j := 7) (pc' := 20) C zq_K6 zq_in6w (Or.inl wd_542) (by decide) rfl dX6_mirror_17 rfl e_12 ?_
    refine zq_if_le (pc' := 23) C 25 dX6_mirror_20 (by decide) rfl (fun _ => ?_) (fun c_13 => absurd c_13 (by decide))
    refine zq_aload_n (pc' := 26) C dX6_mirror_25 rfl rfl rfl ?_
    replace hF := zq_ck_e hF; obtain ⟨e_16, hF⟩ := hF
    replace hF := zq_bd hF; obtain ⟨v_14, e_15, hF⟩ := hF
    refine zq_cV (pc' := 29) C (c_X6_save e_15) yv_X6_save wd_559 zq_K6 e_16 dX6_mirror_26 rfl rfl rfl ⟨Nat.le_of_ble_eq_true rfl, Nat.le_of_ble_eq_true rfl⟩ (Nat.le_of_ble_eq_true rfl) ⟨rfl, rfl⟩ ⟨Nat.le_of_ble_eq_true rfl, Nat.le_of_ble_eq_true rfl⟩ rfl ?_
    refine zq_aload_n (pc' := 30) C dX6_mirror_29 rfl rfl rfl ?_
    replace hF := zq_bd hF; obtain ⟨v_17, e_18, hF⟩ := hF
    refine zq_getR (j := 0) (pc' := 33) C zq_K6 zq_in6w (Or.inl wd_448) (by decide) rfl dX6_mirror_30 rfl e_18 ?_
    refine zq_iconst (pc' := 34) C 1 dX6_mirror_33 rfl (by decide) ?_
    refine zq_iload_n (pc' := 35) C dX6_mirror_34 rfl rfl rfl ?_
    refine zq_iadd (pc' := 36) C dX6_mirror_35 rfl ?_
    refine zq_aload_n (pc' := 37) C dX6_mirror_36 rfl rfl rfl ?_
    refine zq_aload_n (pc' := 38) C dX6_mirror_37 rfl rfl rfl ?_
    replace hF := zq_bd hF; obtain ⟨v_19, e_20, hF⟩ := hF
    refine zq_getR (j := 0) (pc' := 41) C zq_K6 zq_in6w (Or.inl wd_448) (by decide) rfl dX6_mirror_38 rfl e_20 ?_
    refine zq_iconst (pc' := 42) C 1 dX6_mirror_41 rfl (by decide) ?_
    refine zq_iload_n (pc' := 43) C dX6_mirror_42 rfl rfl rfl ?_
    refine zq_iadd (pc' := 44) C dX6_mirror_43 rfl ?_
    replace hF := zq_bd hF; obtain ⟨v_21, e_22, hF⟩ := hF
    refine zq_iaload (pc' := 45) C dX6_mirror_44 rfl e_22 ?_
    replace hF := zq_ck_e hF; obtain ⟨e_25, hF⟩ := hF
    replace hF := zq_bd hF; obtain ⟨v_23, e_24, hF⟩ := hF
    refine zq_cV (pc' := 48) C (c_X6_mirrored e_24) yv_X6_mirrored wd_499 zq_K6 e_25 dX6_mirror_45 rfl rfl rfl ⟨Nat.le_of_ble_eq_true rfl, Nat.le_of_ble_eq_true rfl⟩ (Nat.le_of_ble_eq_true rfl) ⟨rfl, rfl⟩ ⟨Nat.le_of_ble_eq_true rfl, Nat.le_of_ble_eq_true rfl⟩ rfl ?_
    replace hF := zq_bd hF; obtain ⟨h_26, e_27, hF⟩ := hF
    refine zq_iastore (pc' := 49) C dX6_mirror_48 rfl e_27 ?_
    refine zq_aload_n (pc' := 50) C dX6_mirror_49 rfl rfl rfl ?_
    replace hF := zq_bd hF; obtain ⟨v_28, e_29, hF⟩ := hF
    refine zq_getR (j := 0) (pc' := 53) C zq_K6 zq_in6w (Or.inl wd_448) (by decide) rfl dX6_mirror_50 rfl e_29 ?_
    refine zq_iconst (pc' := 54) C 3 dX6_mirror_53 rfl (by decide) ?_
    refine zq_iload_n (pc' := 55) C dX6_mirror_54 rfl rfl rfl ?_
    refine zq_if_ne (pc' := 58) C 71 dX6_mirror_55 (by decide) rfl (fun c_30 => ?_) (fun c_30 => ?_)
    · have hF := (zq_ifn hF c_30)
      skip
      refine zq_aload_n (pc' := 72) C dX6_mirror_71 rfl rfl rfl ?_
      replace hF := zq_bd hF; obtain ⟨v_31, e_32, hF⟩ := hF
      refine zq_getR (j := 0) (pc' := 75) C zq_K6 zq_in6w (Or.inl wd_448) (by decide) rfl dX6_mirror_72 rfl e_32 ?_
      refine zq_iconst (pc' := 76) C 3 dX6_mirror_75 rfl (by decide) ?_
      replace hF := zq_bd hF; obtain ⟨v_33, e_34, hF⟩ := hF
      refine zq_iaload (pc' := 77) C dX6_mirror_76 rfl e_34 ?_
      replace hF := zq_bd hF; obtain ⟨h_35, e_36, hF⟩ := hF
      refine zq_iastore (pc' := 78) C dX6_mirror_77 rfl e_36 ?_
      refine zq_aload_n (pc' := 79) C dX6_mirror_78 rfl rfl rfl ?_
      replace hF := zq_bd hF; obtain ⟨v_37, e_38, hF⟩ := hF
      refine zq_getR (j := 0) (pc' := 82) C zq_K6 zq_in6w (Or.inl wd_448) (by decide) rfl dX6_mirror_79 rfl e_38 ?_
      refine zq_iconst (pc' := 83) C 1 dX6_mirror_82 rfl (by decide) ?_
      refine zq_iload_n (pc' := 84) C dX6_mirror_83 rfl rfl rfl ?_
      refine zq_iadd (pc' := 85) C dX6_mirror_84 rfl ?_
      replace hF := zq_bd hF; obtain ⟨v_39, e_40, hF⟩ := hF
      refine zq_iaload (pc' := 86) C dX6_mirror_85 rfl e_40 ?_
      have hF := Option.some.inj hF
      subst hF
      exact hE _ _ _ _ (Nat.le_of_ble_eq_true rfl) (Nat.le_of_ble_eq_true rfl) dX6_mirror_86
    · have hF := (zq_ifp hF c_30)
      refine zq_aload_n (pc' := 59) C dX6_mirror_58 rfl rfl rfl ?_
      refine zq_aload_n (pc' := 60) C dX6_mirror_59 rfl rfl rfl ?_
      replace hF := zq_bd hF; obtain ⟨v_41, e_42, hF⟩ := hF
      refine zq_getR (j := 0) (pc' := 63) C zq_K6 zq_in6w (Or.inl wd_448) (by decide) rfl dX6_mirror_60 rfl e_42 ?_
      refine zq_iconst (pc' := 64) C 3 dX6_mirror_63 rfl (by decide) ?_
      replace hF := zq_bd hF; obtain ⟨v_43, e_44, hF⟩ := hF
      refine zq_iaload (pc' := 65) C dX6_mirror_64 rfl e_44 ?_
      replace hF := zq_ck_e hF; obtain ⟨e_47, hF⟩ := hF
      replace hF := zq_bd hF; obtain ⟨v_45, e_46, hF⟩ := hF
      refine zq_cV (pc' := 68) C (c_X6_mirrored e_46) yv_X6_mirrored wd_499 zq_K6 e_47 dX6_mirror_65 rfl rfl rfl ⟨Nat.le_of_ble_eq_true rfl, Nat.le_of_ble_eq_true rfl⟩ (Nat.le_of_ble_eq_true rfl) ⟨rfl, rfl⟩ ⟨Nat.le_of_ble_eq_true rfl, Nat.le_of_ble_eq_true rfl⟩ rfl ?_
      refine zq_goto C 77 dX6_mirror_68 (by decide) ?_
      replace hF := zq_bd hF; obtain ⟨h_48, e_49, hF⟩ := hF
      refine zq_iastore (pc' := 78) C dX6_mirror_77 rfl e_49 ?_
      refine zq_aload_n (pc' := 79) C dX6_mirror_78 rfl rfl rfl ?_
      replace hF := zq_bd hF; obtain ⟨v_50, e_51, hF⟩ := hF
      refine zq_getR (j := 0) (pc' := 82) C zq_K6 zq_in6w (Or.inl wd_448) (by decide) rfl dX6_mirror_79 rfl e_51 ?_
      refine zq_iconst (pc' := 83) C 1 dX6_mirror_82 rfl (by decide) ?_
      refine zq_iload_n (pc' := 84) C dX6_mirror_83 rfl rfl rfl ?_
      refine zq_iadd (pc' := 85) C dX6_mirror_84 rfl ?_
      replace hF := zq_bd hF; obtain ⟨v_52, e_53, hF⟩ := hF
      refine zq_iaload (pc' := 86) C dX6_mirror_85 rfl e_53 ?_
      have hF := Option.some.inj hF
      subst hF
      exact hE _ _ _ _ (Nat.le_of_ble_eq_true rfl) (Nat.le_of_ble_eq_true rfl) dX6_mirror_86
theorem c_X6_mirror {h : zq_H} {t : Nat} {x1 : Int32} {out : (Int32 × zq_H)} (hF : f_X6_mirror h t x1 = some out) : zq_M none yX6_mirror (Cond.code yX6_mirror cX6_mirror 2 (some .int) :: zq_all) rm_X6_mirror [.ref t, .int x1] h (some (.int out.1)) out.2 := zq_met2 (own := RX6) (by decide +kernel) rfl (Nat.le_of_ble_eq_true rfl) rfl ⟨.int, rfl, rfl⟩ (fun X C T hn hE => v_X6_mirror C T hn hF hE)
theorem yv_X6_mirror : zq_calV yX6_mirror RX6 cX6_mirror 2 (some .int) 1 := ⟨by decide +kernel, wd_586, wd_814, wd_815, wd_458⟩
def f_X6_exchange (h : zq_H) (t : Nat) : Option (Int32 × zq_H) := (Option.bind (zq_pi h t 6 7 0) fun h_1 => (zq_ck h_1 t 6 fun _ => (Option.bind (f_X6_save h_1 t) fun v_3 => (Option.bind (zq_gr v_3 t 6 0) fun v_6 => (Option.bind (zq_ai v_3 v_6 1) fun v_8 => (Option.bind (zq_gr v_3 t 6 0) fun v_10 => (Option.bind (zq_gr v_3 t 6 0) fun v_12 => (Option.bind (zq_ai v_3 v_12 2) fun v_14 => (Option.bind (zq_si v_3 v_10 1 v_14) fun h_16 => (Option.bind (zq_gr h_16 t 6 0) fun v_18 => (Option.bind (zq_si h_16 v_18 2 v_8) fun h_20 => (Option.bind (zq_gr h_20 t 6 0) fun v_22 => (Option.bind (zq_si h_20 v_22 3 0) fun h_24 => (Option.bind (zq_gr h_24 t 6 0) fun v_26 => (Option.bind (zq_ai h_24 v_26 1) fun v_28 => some ((v_28, h_24)))))))))))))))))
abbrev rm_X6_exchange : Room := { frames := 1, cells := 0, slots := 0, locals := 21 }
theorem dX6_exchange_0 : decode cX6_exchange 0 = .ok (.aload_n 0, 1) := by decide +kernel
theorem dX6_exchange_1 : decode cX6_exchange 1 = .ok (.iconst 0, 1) := by decide +kernel
theorem dX6_exchange_2 : decode cX6_exchange 2 = .ok (.putfield 56, 3) := by decide +kernel
theorem dX6_exchange_5 : decode cX6_exchange 5 = .ok (.aload_n 0, 1) := by decide +kernel
theorem dX6_exchange_6 : decode cX6_exchange 6 = .ok (.invokevirtual 141, 3) := by decide +kernel
theorem dX6_exchange_9 : decode cX6_exchange 9 = .ok (.aload_n 0, 1) := by decide +kernel
theorem dX6_exchange_10 : decode cX6_exchange 10 = .ok (.getfield 7, 3) := by decide +kernel
theorem dX6_exchange_13 : decode cX6_exchange 13 = .ok (.iconst 1, 1) := by decide +kernel
theorem dX6_exchange_14 : decode cX6_exchange 14 = .ok (.iaload, 1) := by decide +kernel
theorem dX6_exchange_15 : decode cX6_exchange 15 = .ok (.istore_n 1, 1) := by decide +kernel
theorem dX6_exchange_16 : decode cX6_exchange 16 = .ok (.aload_n 0, 1) := by decide +kernel
theorem dX6_exchange_17 : decode cX6_exchange 17 = .ok (.getfield 7, 3) := by decide +kernel
theorem dX6_exchange_20 : decode cX6_exchange 20 = .ok (.iconst 1, 1) := by decide +kernel
theorem dX6_exchange_21 : decode cX6_exchange 21 = .ok (.aload_n 0, 1) := by decide +kernel
theorem dX6_exchange_22 : decode cX6_exchange 22 = .ok (.getfield 7, 3) := by decide +kernel
theorem dX6_exchange_25 : decode cX6_exchange 25 = .ok (.iconst 2, 1) := by decide +kernel
theorem dX6_exchange_26 : decode cX6_exchange 26 = .ok (.iaload, 1) := by decide +kernel
theorem dX6_exchange_27 : decode cX6_exchange 27 = .ok (.iastore, 1) := by decide +kernel
theorem dX6_exchange_28 : decode cX6_exchange 28 = .ok (.aload_n 0, 1) := by decide +kernel
theorem dX6_exchange_29 : decode cX6_exchange 29 = .ok (.getfield 7, 3) := by decide +kernel
theorem dX6_exchange_32 : decode cX6_exchange 32 = .ok (.iconst 2, 1) := by decide +kernel
theorem dX6_exchange_33 : decode cX6_exchange 33 = .ok (.iload_n 1, 1) := by decide +kernel
theorem dX6_exchange_34 : decode cX6_exchange 34 = .ok (.iastore, 1) := by decide +kernel
theorem dX6_exchange_35 : decode cX6_exchange 35 = .ok (.aload_n 0, 1) := by decide +kernel
theorem dX6_exchange_36 : decode cX6_exchange 36 = .ok (.getfield 7, 3) := by decide +kernel
theorem dX6_exchange_39 : decode cX6_exchange 39 = .ok (.iconst 3, 1) := by decide +kernel
theorem dX6_exchange_40 : decode cX6_exchange 40 = .ok (.iconst 0, 1) := by decide +kernel
theorem dX6_exchange_41 : decode cX6_exchange 41 = .ok (.iastore, 1) := by decide +kernel
theorem dX6_exchange_42 : decode cX6_exchange 42 = .ok (.aload_n 0, 1) := by decide +kernel
theorem dX6_exchange_43 : decode cX6_exchange 43 = .ok (.getfield 7, 3) := by decide +kernel
theorem dX6_exchange_46 : decode cX6_exchange 46 = .ok (.iconst 1, 1) := by decide +kernel
theorem dX6_exchange_47 : decode cX6_exchange 47 = .ok (.iaload, 1) := by decide +kernel
theorem dX6_exchange_48 : decode cX6_exchange 48 = .ok (.ireturn, 1) := by decide +kernel
set_option maxRecDepth 100000 in
set_option maxHeartbeats 4000000 in
theorem v_X6_exchange {X : zq_X} (C : zq_C X RX6 cX6_exchange 2 zq_all rm_X6_exchange) {h : zq_H} {t : Nat} (T : zq_T X none) (hn : X.2.2.2.2.2.2.2.2.1.name = yX6_exchange.name) {out : (Int32 × zq_H)} (hF : f_X6_exchange h t = some out) (hE : zq_End X cX6_exchange 0 0 (some (.int out.1)) out.2) : zq_W X 0 0 h 0 [(0, .ref t)] [] := by
  unfold f_X6_exchange at hF
  refine zq_aload_n (pc' := 1) C dX6_exchange_0 rfl rfl rfl ?_
  refine zq_iconst (pc' := 2) C 0 dX6_exchange_1 rfl (by decide) ?_
  replace hF := zq_bd hF; obtain ⟨h_1, e_2, hF⟩ := hF
  refine zq_putI (j := 7) (pc' := 5) C zq_K6 zq_in6w (Or.inl wd_542) (by decide) rfl rfl dX6_exchange_2 rfl (Or.inl rfl) e_2 ?_
  refine zq_aload_n (pc' := 6) C dX6_exchange_5 rfl rfl rfl ?_
  replace hF := zq_ck_e hF; obtain ⟨e_5, hF⟩ := hF
  replace hF := zq_bd hF; obtain ⟨v_3, e_4, hF⟩ := hF
  refine zq_cV (pc' := 9) C (c_X6_save e_4) yv_X6_save wd_559 zq_K6 e_5 dX6_exchange_6 rfl rfl rfl ⟨Nat.le_of_ble_eq_true rfl, Nat.le_of_ble_eq_true rfl⟩ (Nat.le_of_ble_eq_true rfl) ⟨rfl, rfl⟩ ⟨Nat.le_of_ble_eq_true rfl, Nat.le_of_ble_eq_true rfl⟩ rfl ?_
  refine zq_aload_n (pc' := 10) C dX6_exchange_9 rfl rfl rfl ?_
  replace hF := zq_bd hF; obtain ⟨v_6, e_7, hF⟩ := hF
  refine zq_getR (j := 0) (pc' := 13) C zq_K6 zq_in6w (Or.inl wd_448) (by decide) rfl dX6_exchange_10 rfl e_7 ?_
  refine zq_iconst (pc' := 14) C 1 dX6_exchange_13 rfl (by decide) ?_
  replace hF := zq_bd hF; obtain ⟨v_8, e_9, hF⟩ := hF
  refine zq_iaload (pc' := 15) C dX6_exchange_14 rfl e_9 ?_
  refine zq_istore_n (lv' := [(1, .int v_8), (0, .ref t)]) (pc' := 16) C dX6_exchange_15 rfl rfl (by decide) rfl rfl ?_
  refine zq_aload_n (pc' := 17) C dX6_exchange_16 rfl rfl rfl ?_
  replace hF := zq_bd hF; obtain ⟨v_10, e_11, hF⟩ := hF
  refine zq_getR (j := 0) (pc' := 20) C zq_K6 zq_in6w (Or.inl wd_448) (by decide) rfl dX6_exchange_17 rfl e_11 ?_
  refine zq_iconst (pc' := 21) C 1 dX6_exchange_20 rfl (by decide) ?_
  refine zq_aload_n (pc' := 22) C dX6_exchange_21 rfl rfl rfl ?_
  replace hF := zq_bd hF; obtain ⟨v_12, e_13, hF⟩ := hF
  refine zq_getR (j := 0) (pc' := 25) C zq_K6 zq_in6w (Or.inl wd_448) (by decide) rfl dX6_exchange_22 rfl e_13 ?_
  refine zq_iconst (pc' := 26) C 2 dX6_exchange_25 rfl (by decide) ?_
  replace hF := zq_bd hF; obtain ⟨v_14, e_15, hF⟩ := hF
  refine zq_iaload (pc' := 27) C dX6_exchange_26 rfl e_15 ?_
  replace hF := zq_bd hF; obtain ⟨h_16, e_17, hF⟩ := hF
  refine zq_iastore (pc' := 28) C dX6_exchange_27 rfl e_17 ?_
  refine zq_aload_n (pc' := 29) C dX6_exchange_28 rfl rfl rfl ?_
  replace hF := zq_bd hF; obtain ⟨v_18, e_19, hF⟩ := hF
  refine zq_getR (j := 0) (pc' := 32) C zq_K6 zq_in6w (Or.inl wd_448) (by decide) rfl dX6_exchange_29 rfl e_19 ?_
  refine zq_iconst (pc' := 33) C 2 dX6_exchange_32 rfl (by decide) ?_
  refine zq_iload_n (pc' := 34) C dX6_exchange_33 rfl rfl rfl ?_
  replace hF := zq_bd hF; obtain ⟨h_20, e_21, hF⟩ := hF
  refine zq_iastore (pc' := 35) C dX6_exchange_34 rfl e_21 ?_
  refine zq_aload_n (pc' := 36) C dX6_exchange_35 rfl rfl rfl ?_
  replace hF := zq_bd hF; obtain ⟨v_22, e_23, hF⟩ := hF
  refine zq_getR (j := 0) (pc' := 39) C zq_K6 zq_in6w (Or.inl wd_448) (by decide) rfl dX6_exchange_36 rfl e_23 ?_
  refine zq_iconst (pc' := 40) C 3 dX6_exchange_39 rfl (by decide) ?_
  refine zq_iconst (pc' := 41) C 0 dX6_exchange_40 rfl (by decide) ?_
  replace hF := zq_bd hF; obtain ⟨h_24, e_25, hF⟩ := hF
  refine zq_iastore (pc' := 42) C dX6_exchange_41 rfl e_25 ?_
  refine zq_aload_n (pc' := 43) C dX6_exchange_42 rfl rfl rfl ?_
  replace hF := zq_bd hF; obtain ⟨v_26, e_27, hF⟩ := hF
  refine zq_getR (j := 0) (pc' := 46) C zq_K6 zq_in6w (Or.inl wd_448) (by decide) rfl dX6_exchange_43 rfl e_27 ?_
  refine zq_iconst (pc' := 47) C 1 dX6_exchange_46 rfl (by decide) ?_
  replace hF := zq_bd hF; obtain ⟨v_28, e_29, hF⟩ := hF
  refine zq_iaload (pc' := 48) C dX6_exchange_47 rfl e_29 ?_
  have hF := Option.some.inj hF
  subst hF
  exact hE _ _ _ _ (Nat.le_of_ble_eq_true rfl) (Nat.le_of_ble_eq_true rfl) dX6_exchange_48
theorem c_X6_exchange {h : zq_H} {t : Nat} {out : (Int32 × zq_H)} (hF : f_X6_exchange h t = some out) : zq_M none yX6_exchange (Cond.code yX6_exchange cX6_exchange 2 (some .int) :: zq_all) rm_X6_exchange [.ref t] h (some (.int out.1)) out.2 := zq_met2 (own := RX6) (by decide +kernel) rfl (Nat.le_of_ble_eq_true rfl) rfl ⟨.int, rfl, rfl⟩ (fun X C T hn hE => v_X6_exchange C T hn hF hE)
theorem yv_X6_exchange : zq_calV yX6_exchange RX6 cX6_exchange 2 (some .int) 0 := ⟨by decide +kernel, wd_587, wd_820, wd_821, wd_458⟩
def f_X6_lock (h : zq_H) (t : Nat) (x1 : Int32) (x2 : Int32) (x3 : Int32) : Option (Int32 × zq_H) := (zq_ck h t 6 fun _ => (Option.bind (f_X6_isDiagonal h t x1 x2) fun v_1 => (if v_1 = false then (Option.bind (zq_pi h t 6 7 1) fun h_5 => some ((0, h_5))) else (Option.bind (zq_pi h t 6 7 0) fun h_13 => (Option.bind (zq_gr h_13 t 6 0) fun v_18 => (Option.bind (zq_ai h_13 v_18 1) fun v_20 => (zq_ck h_13 t 6 fun _ => (Option.bind (f_X6_numberOf h_13 t x1 x2) fun v_22 => (Option.bind (f_X6_has h_13 v_20 v_22) fun v_25 => (if v_25 = false then (Option.bind (zq_pi h_13 t 6 7 2) fun h_28 => some ((0, h_28))) else (Option.bind (zq_pi h_13 t 6 7 0) fun h_33 => (zq_ck h_33 t 6 fun _ => (Option.bind (f_X6_save h_33 t) fun v_38 => (zq_ck v_38 t 6 fun _ => (Option.bind (f_X6_numberOf v_38 t x1 x2) fun v_41 => (zq_let ((1 : Int32) <<< (v_41 &&& 31)) fun v_44 => (Option.bind (zq_gr v_38 t 6 0) fun v_46 => (if x3 = 0 then (Option.bind (zq_gr v_38 t 6 0) fun v_49 => (Option.bind (zq_ai v_38 v_49 3) fun v_51 => (Option.bind (zq_si v_38 v_46 3 (v_51 &&& (v_44 ^^^ (-1)))) fun h_53 => (Option.bind (zq_gr h_53 t 6 0) fun v_55 => (Option.bind (zq_ai h_53 v_55 3) fun v_57 => (Option.bind (f_X6_ones h_53 v_57) fun v_59 => some ((v_59, h_53)))))))) else (Option.bind (zq_gr v_38 t 6 0) fun v_61 => (Option.bind (zq_ai v_38 v_61 3) fun v_63 => (Option.bind (zq_si v_38 v_46 3 (v_63 ||| v_44)) fun h_65 => (Option.bind (zq_gr h_65 t 6 0) fun v_67 => (Option.bind (zq_ai h_65 v_67 3) fun v_69 => (Option.bind (f_X6_ones h_65 v_69) fun v_71 => some ((v_71, h_65))))))))))))))))))))))))))
abbrev rm_X6_lock : Room := { frames := 2, cells := 0, slots := 0, locals := 44 }
theorem dX6_lock_0 : decode cX6_lock 0 = .ok (.aload_n 0, 1) := by decide +kernel
theorem dX6_lock_1 : decode cX6_lock 1 = .ok (.aload_n 0, 1) := by decide +kernel
theorem dX6_lock_2 : decode cX6_lock 2 = .ok (.iload_n 1, 1) := by decide +kernel
theorem dX6_lock_3 : decode cX6_lock 3 = .ok (.iload_n 2, 1) := by decide +kernel
theorem dX6_lock_4 : decode cX6_lock 4 = .ok (.invokevirtual 147, 3) := by decide +kernel
theorem dX6_lock_7 : decode cX6_lock 7 = .ok (.ifCond .eq 7, 3) := by decide +kernel
theorem dX6_lock_10 : decode cX6_lock 10 = .ok (.iconst 0, 1) := by decide +kernel
theorem dX6_lock_11 : decode cX6_lock 11 = .ok (.goto 4, 3) := by decide +kernel
theorem dX6_lock_14 : decode cX6_lock 14 = .ok (.iconst 1, 1) := by decide +kernel
theorem dX6_lock_15 : decode cX6_lock 15 = .ok (.putfield 56, 3) := by decide +kernel
theorem dX6_lock_18 : decode cX6_lock 18 = .ok (.aload_n 0, 1) := by decide +kernel
theorem dX6_lock_19 : decode cX6_lock 19 = .ok (.getfield 56, 3) := by decide +kernel
theorem dX6_lock_22 : decode cX6_lock 22 = .ok (.ifCond .ne 30, 3) := by decide +kernel
theorem dX6_lock_25 : decode cX6_lock 25 = .ok (.aload_n 0, 1) := by decide +kernel
theorem dX6_lock_26 : decode cX6_lock 26 = .ok (.aload_n 0, 1) := by decide +kernel
theorem dX6_lock_27 : decode cX6_lock 27 = .ok (.getfield 7, 3) := by decide +kernel
theorem dX6_lock_30 : decode cX6_lock 30 = .ok (.iconst 1, 1) := by decide +kernel
theorem dX6_lock_31 : decode cX6_lock 31 = .ok (.iaload, 1) := by decide +kernel
theorem dX6_lock_32 : decode cX6_lock 32 = .ok (.aload_n 0, 1) := by decide +kernel
theorem dX6_lock_33 : decode cX6_lock 33 = .ok (.iload_n 1, 1) := by decide +kernel
theorem dX6_lock_34 : decode cX6_lock 34 = .ok (.iload_n 2, 1) := by decide +kernel
theorem dX6_lock_35 : decode cX6_lock 35 = .ok (.invokevirtual 70, 3) := by decide +kernel
theorem dX6_lock_38 : decode cX6_lock 38 = .ok (.invokestatic 74, 3) := by decide +kernel
theorem dX6_lock_41 : decode cX6_lock 41 = .ok (.ifCond .eq 7, 3) := by decide +kernel
theorem dX6_lock_44 : decode cX6_lock 44 = .ok (.iconst 0, 1) := by decide +kernel
theorem dX6_lock_45 : decode cX6_lock 45 = .ok (.goto 4, 3) := by decide +kernel
theorem dX6_lock_48 : decode cX6_lock 48 = .ok (.iconst 2, 1) := by decide +kernel
theorem dX6_lock_49 : decode cX6_lock 49 = .ok (.putfield 56, 3) := by decide +kernel
theorem dX6_lock_52 : decode cX6_lock 52 = .ok (.aload_n 0, 1) := by decide +kernel
theorem dX6_lock_53 : decode cX6_lock 53 = .ok (.getfield 56, 3) := by decide +kernel
theorem dX6_lock_56 : decode cX6_lock 56 = .ok (.ifCond .le 5, 3) := by decide +kernel
theorem dX6_lock_59 : decode cX6_lock 59 = .ok (.iconst 0, 1) := by decide +kernel
theorem dX6_lock_60 : decode cX6_lock 60 = .ok (.ireturn, 1) := by decide +kernel
theorem dX6_lock_61 : decode cX6_lock 61 = .ok (.aload_n 0, 1) := by decide +kernel
theorem dX6_lock_62 : decode cX6_lock 62 = .ok (.invokevirtual 141, 3) := by decide +kernel
theorem dX6_lock_65 : decode cX6_lock 65 = .ok (.iconst 1, 1) := by decide +kernel
theorem dX6_lock_66 : decode cX6_lock 66 = .ok (.aload_n 0, 1) := by decide +kernel
theorem dX6_lock_67 : decode cX6_lock 67 = .ok (.iload_n 1, 1) := by decide +kernel
theorem dX6_lock_68 : decode cX6_lock 68 = .ok (.iload_n 2, 1) := by decide +kernel
theorem dX6_lock_69 : decode cX6_lock 69 = .ok (.invokevirtual 70, 3) := by decide +kernel
theorem dX6_lock_72 : decode cX6_lock 72 = .ok (.ishl, 1) := by decide +kernel
theorem dX6_lock_73 : decode cX6_lock 73 = .ok (.istore 4, 2) := by decide +kernel
theorem dX6_lock_75 : decode cX6_lock 75 = .ok (.aload_n 0, 1) := by decide +kernel
theorem dX6_lock_76 : decode cX6_lock 76 = .ok (.getfield 7, 3) := by decide +kernel
theorem dX6_lock_79 : decode cX6_lock 79 = .ok (.iconst 3, 1) := by decide +kernel
theorem dX6_lock_80 : decode cX6_lock 80 = .ok (.iload_n 3, 1) := by decide +kernel
theorem dX6_lock_81 : decode cX6_lock 81 = .ok (.ifCond .eq 15, 3) := by decide +kernel
theorem dX6_lock_84 : decode cX6_lock 84 = .ok (.aload_n 0, 1) := by decide +kernel
theorem dX6_lock_85 : decode cX6_lock 85 = .ok (.getfield 7, 3) := by decide +kernel
theorem dX6_lock_88 : decode cX6_lock 88 = .ok (.iconst 3, 1) := by decide +kernel
theorem dX6_lock_89 : decode cX6_lock 89 = .ok (.iaload, 1) := by decide +kernel
theorem dX6_lock_90 : decode cX6_lock 90 = .ok (.iload 4, 2) := by decide +kernel
theorem dX6_lock_92 : decode cX6_lock 92 = .ok (.ior, 1) := by decide +kernel
theorem dX6_lock_93 : decode cX6_lock 93 = .ok (.goto 14, 3) := by decide +kernel
theorem dX6_lock_96 : decode cX6_lock 96 = .ok (.aload_n 0, 1) := by decide +kernel
theorem dX6_lock_97 : decode cX6_lock 97 = .ok (.getfield 7, 3) := by decide +kernel
theorem dX6_lock_100 : decode cX6_lock 100 = .ok (.iconst 3, 1) := by decide +kernel
theorem dX6_lock_101 : decode cX6_lock 101 = .ok (.iaload, 1) := by decide +kernel
theorem dX6_lock_102 : decode cX6_lock 102 = .ok (.iload 4, 2) := by decide +kernel
theorem dX6_lock_104 : decode cX6_lock 104 = .ok (.iconst (-1), 1) := by decide +kernel
theorem dX6_lock_105 : decode cX6_lock 105 = .ok (.ixor, 1) := by decide +kernel
theorem dX6_lock_106 : decode cX6_lock 106 = .ok (.iand, 1) := by decide +kernel
theorem dX6_lock_107 : decode cX6_lock 107 = .ok (.iastore, 1) := by decide +kernel
theorem dX6_lock_108 : decode cX6_lock 108 = .ok (.aload_n 0, 1) := by decide +kernel
theorem dX6_lock_109 : decode cX6_lock 109 = .ok (.getfield 7, 3) := by decide +kernel
theorem dX6_lock_112 : decode cX6_lock 112 = .ok (.iconst 3, 1) := by decide +kernel
theorem dX6_lock_113 : decode cX6_lock 113 = .ok (.iaload, 1) := by decide +kernel
theorem dX6_lock_114 : decode cX6_lock 114 = .ok (.invokestatic 156, 3) := by decide +kernel
theorem dX6_lock_117 : decode cX6_lock 117 = .ok (.ireturn, 1) := by decide +kernel
set_option maxRecDepth 100000 in
set_option maxHeartbeats 4000000 in
theorem v_X6_lock {X : zq_X} (C : zq_C X RX6 cX6_lock 5 zq_all rm_X6_lock) {h : zq_H} {t : Nat} {x1 : Int32} {x2 : Int32} {x3 : Int32} (T : zq_T X none) (hn : X.2.2.2.2.2.2.2.2.1.name = yX6_lock.name) {out : (Int32 × zq_H)} (hF : f_X6_lock h t x1 x2 x3 = some out) (hE : zq_End X cX6_lock 0 0 (some (.int out.1)) out.2) : zq_W X 0 0 h 0 [(0, .ref t), (1, .int x1), (2, .int x2), (3, .int x3)] [] := by
  unfold f_X6_lock at hF
  refine zq_aload_n (pc' := 1) C dX6_lock_0 rfl rfl rfl ?_
  refine zq_aload_n (pc' := 2) C dX6_lock_1 rfl rfl rfl ?_
  refine zq_iload_n (pc' := 3) C dX6_lock_2 rfl rfl rfl ?_
  refine zq_iload_n (pc' := 4) C dX6_lock_3 rfl rfl rfl ?_
  replace hF := zq_ck_e hF; obtain ⟨e_3, hF⟩ := hF
  replace hF := zq_bd hF; obtain ⟨v_1, e_2, hF⟩ := hF
  refine zq_cV (pc' := 7) C (c_X6_isDiagonal e_2) yv_X6_isDiagonal wd_567 zq_K6 e_3 dX6_lock_4 rfl rfl rfl ⟨Nat.le_of_ble_eq_true rfl, Nat.le_of_ble_eq_true rfl⟩ (Nat.le_of_ble_eq_true rfl) ⟨rfl, rfl⟩ ⟨Nat.le_of_ble_eq_true rfl, Nat.le_of_ble_eq_true rfl⟩ rfl ?_
  refine zq_if_eq (pc' := 10) C 14 dX6_lock_7 (by decide) rfl (fun c_4 => ?_) (fun c_4 => ?_)
  · have hF := (zq_ifp hF (zq_b0.mp c_4))
    skip
    refine zq_iconst (pc' := 15) C 1 dX6_lock_14 rfl (by decide) ?_
    replace hF := zq_bd hF; obtain ⟨h_5, e_6, hF⟩ := hF
    refine zq_putI (j := 7) (pc' := 18) C zq_K6 zq_in6w (Or.inl wd_542) (by decide) rfl rfl dX6_lock_15 rfl (Or.inl rfl) e_6 ?_
    refine zq_aload_n (pc' := 19) C dX6_lock_18 rfl rfl rfl ?_
    have e_8 : zq_gi h_5 t 6 7 = some 1 := zq_gi_pi e_6
    refine zq_getI (j := 7) (pc' := 22) C zq_K6 zq_in6w (Or.inl wd_542) (by decide) rfl dX6_lock_19 rfl e_8 ?_
    refine zq_if_ne (pc' := 25) C 52 dX6_lock_22 (by decide) rfl (fun _ => ?_) (fun c_9 => absurd c_9 (by decide))
    refine zq_aload_n (pc' := 53) C dX6_lock_52 rfl rfl rfl ?_
    have e_11 : zq_gi h_5 t 6 7 = some 1 := zq_gi_pi e_6
    refine zq_getI (j := 7) (pc' := 56) C zq_K6 zq_in6w (Or.inl wd_542) (by decide) rfl dX6_lock_53 rfl e_11 ?_
    refine zq_if_le (pc' := 59) C 61 dX6_lock_56 (by decide) rfl (fun c_12 => absurd c_12 (by decide)) (fun _ => ?_)
    refine zq_iconst (pc' := 60) C 0 dX6_lock_59 rfl (by decide) ?_
    have hF := Option.some.inj hF
    subst hF
    exact hE _ _ _ _ (Nat.le_of_ble_eq_true rfl) (Nat.le_of_ble_eq_true rfl) dX6_lock_60
  · have hF := (zq_ifn hF (fun q => c_4 (zq_b0.mpr q)))
    refine zq_iconst (pc' := 11) C 0 dX6_lock_10 rfl (by decide) ?_
    refine zq_goto C 15 dX6_lock_11 (by decide) ?_
    replace hF := zq_bd hF; obtain ⟨h_13, e_14, hF⟩ := hF
    refine zq_putI (j := 7) (pc' := 18) C zq_K6 zq_in6w (Or.inl wd_542) (by decide) rfl rfl dX6_lock_15 rfl (Or.inl rfl) e_14 ?_
    refine zq_aload_n (pc' := 19) C dX6_lock_18 rfl rfl rfl ?_
    have e_16 : zq_gi h_13 t 6 7 = some 0 := zq_gi_pi e_14
    refine zq_getI (j := 7) (pc' := 22) C zq_K6 zq_in6w (Or.inl wd_542) (by decide) rfl dX6_lock_19 rfl e_16 ?_
    refine zq_if_ne (pc' := 25) C 52 dX6_lock_22 (by decide) rfl (fun c_17 => absurd c_17 (by decide)) (fun _ => ?_)
    refine zq_aload_n (pc' := 26) C dX6_lock_25 rfl rfl rfl ?_
    refine zq_aload_n (pc' := 27) C dX6_lock_26 rfl rfl rfl ?_
    replace hF := zq_bd hF; obtain ⟨v_18, e_19, hF⟩ := hF
    refine zq_getR (j := 0) (pc' := 30) C zq_K6 zq_in6w (Or.inl wd_448) (by decide) rfl dX6_lock_27 rfl e_19 ?_
    refine zq_iconst (pc' := 31) C 1 dX6_lock_30 rfl (by decide) ?_
    replace hF := zq_bd hF; obtain ⟨v_20, e_21, hF⟩ := hF
    refine zq_iaload (pc' := 32) C dX6_lock_31 rfl e_21 ?_
    refine zq_aload_n (pc' := 33) C dX6_lock_32 rfl rfl rfl ?_
    refine zq_iload_n (pc' := 34) C dX6_lock_33 rfl rfl rfl ?_
    refine zq_iload_n (pc' := 35) C dX6_lock_34 rfl rfl rfl ?_
    replace hF := zq_ck_e hF; obtain ⟨e_24, hF⟩ := hF
    replace hF := zq_bd hF; obtain ⟨v_22, e_23, hF⟩ := hF
    refine zq_cV (pc' := 38) C (c_X6_numberOf e_23) yv_X6_numberOf wd_455 zq_K6 e_24 dX6_lock_35 rfl rfl rfl ⟨Nat.le_of_ble_eq_true rfl, Nat.le_of_ble_eq_true rfl⟩ (Nat.le_of_ble_eq_true rfl) ⟨rfl, rfl⟩ ⟨Nat.le_of_ble_eq_true rfl, Nat.le_of_ble_eq_true rfl⟩ rfl ?_
    replace hF := zq_bd hF; obtain ⟨v_25, e_26, hF⟩ := hF
    refine zq_cS (pc' := 41) C (c_X6_has e_26) ys_X6_has wd_459 dX6_lock_38 rfl rfl rfl ⟨Nat.le_of_ble_eq_true rfl, Nat.le_of_ble_eq_true rfl⟩ (Nat.le_of_ble_eq_true rfl) ⟨rfl, rfl⟩ ⟨Nat.le_of_ble_eq_true rfl, Nat.le_of_ble_eq_true rfl⟩ rfl ?_
    refine zq_if_eq (pc' := 44) C 48 dX6_lock_41 (by decide) rfl (fun c_27 => ?_) (fun c_27 => ?_)
    · have hF := (zq_ifp hF (zq_b0.mp c_27))
      skip
      refine zq_iconst (pc' := 49) C 2 dX6_lock_48 rfl (by decide) ?_
      replace hF := zq_bd hF; obtain ⟨h_28, e_29, hF⟩ := hF
      refine zq_putI (j := 7) (pc' := 52) C zq_K6 zq_in6w (Or.inl wd_542) (by decide) rfl rfl dX6_lock_49 rfl (Or.inl rfl) e_29 ?_
      refine zq_aload_n (pc' := 53) C dX6_lock_52 rfl rfl rfl ?_
      have e_31 : zq_gi h_28 t 6 7 = some 2 := zq_gi_pi e_29
      refine zq_getI (j := 7) (pc' := 56) C zq_K6 zq_in6w (Or.inl wd_542) (by decide) rfl dX6_lock_53 rfl e_31 ?_
      refine zq_if_le (pc' := 59) C 61 dX6_lock_56 (by decide) rfl (fun c_32 => absurd c_32 (by decide)) (fun _ => ?_)
      refine zq_iconst (pc' := 60) C 0 dX6_lock_59 rfl (by decide) ?_
      have hF := Option.some.inj hF
      subst hF
      exact hE _ _ _ _ (Nat.le_of_ble_eq_true rfl) (Nat.le_of_ble_eq_true rfl) dX6_lock_60
    · have hF := (zq_ifn hF (fun q => c_27 (zq_b0.mpr q)))
      refine zq_iconst (pc' := 45) C 0 dX6_lock_44 rfl (by decide) ?_
      refine zq_goto C 49 dX6_lock_45 (by decide) ?_
      replace hF := zq_bd hF; obtain ⟨h_33, e_34, hF⟩ := hF
      refine zq_putI (j := 7) (pc' := 52) C zq_K6 zq_in6w (Or.inl wd_542) (by decide) rfl rfl dX6_lock_49 rfl (Or.inl rfl) e_34 ?_
      refine zq_aload_n (pc' := 53) C dX6_lock_52 rfl rfl rfl ?_
      have e_36 : zq_gi h_33 t 6 7 = some 0 := zq_gi_pi e_34
      refine zq_getI (j := 7) (pc' := 56) C zq_K6 zq_in6w (Or.inl wd_542) (by decide) rfl dX6_lock_53 rfl e_36 ?_
      refine zq_if_le (pc' := 59) C 61 dX6_lock_56 (by decide) rfl (fun _ => ?_) (fun c_37 => absurd c_37 (by decide))
      refine zq_aload_n (pc' := 62) C dX6_lock_61 rfl rfl rfl ?_
      replace hF := zq_ck_e hF; obtain ⟨e_40, hF⟩ := hF
      replace hF := zq_bd hF; obtain ⟨v_38, e_39, hF⟩ := hF
      refine zq_cV (pc' := 65) C (c_X6_save e_39) yv_X6_save wd_559 zq_K6 e_40 dX6_lock_62 rfl rfl rfl ⟨Nat.le_of_ble_eq_true rfl, Nat.le_of_ble_eq_true rfl⟩ (Nat.le_of_ble_eq_true rfl) ⟨rfl, rfl⟩ ⟨Nat.le_of_ble_eq_true rfl, Nat.le_of_ble_eq_true rfl⟩ rfl ?_
      refine zq_iconst (pc' := 66) C 1 dX6_lock_65 rfl (by decide) ?_
      refine zq_aload_n (pc' := 67) C dX6_lock_66 rfl rfl rfl ?_
      refine zq_iload_n (pc' := 68) C dX6_lock_67 rfl rfl rfl ?_
      refine zq_iload_n (pc' := 69) C dX6_lock_68 rfl rfl rfl ?_
      replace hF := zq_ck_e hF; obtain ⟨e_43, hF⟩ := hF
      replace hF := zq_bd hF; obtain ⟨v_41, e_42, hF⟩ := hF
      refine zq_cV (pc' := 72) C (c_X6_numberOf e_42) yv_X6_numberOf wd_455 zq_K6 e_43 dX6_lock_69 rfl rfl rfl ⟨Nat.le_of_ble_eq_true rfl, Nat.le_of_ble_eq_true rfl⟩ (Nat.le_of_ble_eq_true rfl) ⟨rfl, rfl⟩ ⟨Nat.le_of_ble_eq_true rfl, Nat.le_of_ble_eq_true rfl⟩ rfl ?_
      refine zq_ishl (pc' := 73) C dX6_lock_72 rfl ?_
      replace hF := zq_let_e hF; obtain ⟨v_44, e_45, hF⟩ := hF
      refine zq_istore (lv' := [(4, .int v_44), (0, .ref t), (1, .int x1), (2, .int x2), (3, .int x3)]) (pc' := 75) C dX6_lock_73 rfl (by decide) e_45 rfl ?_
      refine zq_aload_n (pc' := 76) C dX6_lock_75 rfl rfl rfl ?_
      replace hF := zq_bd hF; obtain ⟨v_46, e_47, hF⟩ := hF
      refine zq_getR (j := 0) (pc' := 79) C zq_K6 zq_in6w (Or.inl wd_448) (by decide) rfl dX6_lock_76 rfl e_47 ?_
      refine zq_iconst (pc' := 80) C 3 dX6_lock_79 rfl (by decide) ?_
      refine zq_iload_n (pc' := 81) C dX6_lock_80 rfl rfl rfl ?_
      refine zq_if_eq (pc' := 84) C 96 dX6_lock_81 (by decide) rfl (fun c_48 => ?_) (fun c_48 => ?_)
      · have hF := (zq_ifp hF c_48)
        skip
        refine zq_aload_n (pc' := 97) C dX6_lock_96 rfl rfl rfl ?_
        replace hF := zq_bd hF; obtain ⟨v_49, e_50, hF⟩ := hF
        refine zq_getR (j := 0) (pc' := 100) C zq_K6 zq_in6w (Or.inl wd_448) (by decide) rfl dX6_lock_97 rfl e_50 ?_
        refine zq_iconst (pc' := 101) C 3 dX6_lock_100 rfl (by decide) ?_
        replace hF := zq_bd hF; obtain ⟨v_51, e_52, hF⟩ := hF
        refine zq_iaload (pc' := 102) C dX6_lock_101 rfl e_52 ?_
        refine zq_iload (pc' := 104) C dX6_lock_102 rfl rfl ?_
        refine zq_iconst (pc' := 105) C (-1) dX6_lock_104 rfl (by decide) ?_
        refine zq_ixor (pc' := 106) C dX6_lock_105 rfl ?_
        refine zq_iand (pc' := 107) C dX6_lock_106 rfl ?_
        replace hF := zq_bd hF; obtain ⟨h_53, e_54, hF⟩ := hF
        refine zq_iastore (pc' := 108) C dX6_lock_107 rfl e_54 ?_
        refine zq_aload_n (pc' := 109) C dX6_lock_108 rfl rfl rfl ?_
        replace hF := zq_bd hF; obtain ⟨v_55, e_56, hF⟩ := hF
        refine zq_getR (j := 0) (pc' := 112) C zq_K6 zq_in6w (Or.inl wd_448) (by decide) rfl dX6_lock_109 rfl e_56 ?_
        refine zq_iconst (pc' := 113) C 3 dX6_lock_112 rfl (by decide) ?_
        replace hF := zq_bd hF; obtain ⟨v_57, e_58, hF⟩ := hF
        refine zq_iaload (pc' := 114) C dX6_lock_113 rfl e_58 ?_
        replace hF := zq_bd hF; obtain ⟨v_59, e_60, hF⟩ := hF
        refine zq_cS (pc' := 117) C (c_X6_ones e_60) ys_X6_ones wd_579 dX6_lock_114 rfl rfl rfl ⟨Nat.le_of_ble_eq_true rfl, Nat.le_of_ble_eq_true rfl⟩ (Nat.le_of_ble_eq_true rfl) ⟨rfl, rfl⟩ ⟨Nat.le_of_ble_eq_true rfl, Nat.le_of_ble_eq_true rfl⟩ rfl ?_
        have hF := Option.some.inj hF
        subst hF
        exact hE _ _ _ _ (Nat.le_of_ble_eq_true rfl) (Nat.le_of_ble_eq_true rfl) dX6_lock_117
      · have hF := (zq_ifn hF c_48)
        refine zq_aload_n (pc' := 85) C dX6_lock_84 rfl rfl rfl ?_
        replace hF := zq_bd hF; obtain ⟨v_61, e_62, hF⟩ := hF
        refine zq_getR (j := 0) (pc' := 88) C zq_K6 zq_in6w (Or.inl wd_448) (by decide) rfl dX6_lock_85 rfl e_62 ?_
        refine zq_iconst (pc' := 89) C 3 dX6_lock_88 rfl (by decide) ?_
        replace hF := zq_bd hF; obtain ⟨v_63, e_64, hF⟩ := hF
        refine zq_iaload (pc' := 90) C dX6_lock_89 rfl e_64 ?_
        refine zq_iload (pc' := 92) C dX6_lock_90 rfl rfl ?_
        refine zq_ior (pc' := 93) C dX6_lock_92 rfl ?_
        refine zq_goto C 107 dX6_lock_93 (by decide) ?_
        replace hF := zq_bd hF; obtain ⟨h_65, e_66, hF⟩ := hF
        refine zq_iastore (pc' := 108) C dX6_lock_107 rfl e_66 ?_
        refine zq_aload_n (pc' := 109) C dX6_lock_108 rfl rfl rfl ?_
        replace hF := zq_bd hF; obtain ⟨v_67, e_68, hF⟩ := hF
        refine zq_getR (j := 0) (pc' := 112) C zq_K6 zq_in6w (Or.inl wd_448) (by decide) rfl dX6_lock_109 rfl e_68 ?_
        refine zq_iconst (pc' := 113) C 3 dX6_lock_112 rfl (by decide) ?_
        replace hF := zq_bd hF; obtain ⟨v_69, e_70, hF⟩ := hF
        refine zq_iaload (pc' := 114) C dX6_lock_113 rfl e_70 ?_
        replace hF := zq_bd hF; obtain ⟨v_71, e_72, hF⟩ := hF
        refine zq_cS (pc' := 117) C (c_X6_ones e_72) ys_X6_ones wd_579 dX6_lock_114 rfl rfl rfl ⟨Nat.le_of_ble_eq_true rfl, Nat.le_of_ble_eq_true rfl⟩ (Nat.le_of_ble_eq_true rfl) ⟨rfl, rfl⟩ ⟨Nat.le_of_ble_eq_true rfl, Nat.le_of_ble_eq_true rfl⟩ rfl ?_
        have hF := Option.some.inj hF
        subst hF
        exact hE _ _ _ _ (Nat.le_of_ble_eq_true rfl) (Nat.le_of_ble_eq_true rfl) dX6_lock_117
theorem c_X6_lock {h : zq_H} {t : Nat} {x1 : Int32} {x2 : Int32} {x3 : Int32} {out : (Int32 × zq_H)} (hF : f_X6_lock h t x1 x2 x3 = some out) : zq_M none yX6_lock (Cond.code yX6_lock cX6_lock 5 (some .int) :: zq_all) rm_X6_lock [.ref t, .int x1, .int x2, .int x3] h (some (.int out.1)) out.2 := zq_met2 (own := RX6) (by decide +kernel) rfl (Nat.le_of_ble_eq_true rfl) rfl ⟨.int, rfl, rfl⟩ (fun X C T hn hE => v_X6_lock C T hn hF hE)
theorem yv_X6_lock : zq_calV yX6_lock RX6 cX6_lock 5 (some .int) 3 := ⟨by decide +kernel, wd_588, wd_825, wd_826, wd_458⟩
def f_X6_walk (h : zq_H) (t : Nat) (x1 : Int32) : Option (Int32 × zq_H) := (Option.bind (f_X6_within h x1 1 20) fun v_1 => (if v_1 = false then (Option.bind (zq_pi h t 6 7 1) fun h_60 => some ((0, h_60))) else (Option.bind (zq_gr h t 6 0) fun v_4 => (Option.bind (zq_ai h v_4 1) fun v_6 => (zq_ck h t 6 fun _ => (Option.bind (f_X6_lockedFrom h t v_6) fun v_8 => (if v_8.1 = (-1) then (Option.bind (zq_pi v_8.2 t 6 7 2) fun h_55 => some ((0, h_55))) else (Option.bind (zq_pi v_8.2 t 6 7 0) fun h_12 => (zq_ck h_12 t 6 fun _ => (Option.bind (f_X6_save h_12 t) fun v_17 => (zq_ck v_17 t 6 fun _ => (Option.bind (f_X6_nextFlip v_17 t) fun v_20 => ((zq_lp (σ := Int32 × Int32 × zq_H) (ρ := Int32 × zq_H) (fun s_23 => (if x1 ≤ s_23.1 then some (.inr (s_23.1, s_23.2.2)) else (if s_23.2.1 = (-1) then some (.inr (s_23.1, s_23.2.2)) else (Option.bind (zq_gr s_23.2.2 t 6 0) fun v_33 => (Option.bind (zq_gr s_23.2.2 t 6 0) fun v_35 => (Option.bind (zq_ai s_23.2.2 v_35 1) fun v_37 => (zq_ck s_23.2.2 t 6 fun _ => (Option.bind (f_X6_behindFlip s_23.2.2 t v_37 s_23.2.1) fun v_39 => (Option.bind (zq_si s_23.2.2 v_33 1 v_39) fun h_42 => (Option.bind (zq_gr h_42 t 6 0) fun v_44 => (Option.bind (zq_ai h_42 v_44 4) fun v_46 => (Option.bind (zq_si h_42 v_44 4 (v_46 + 1)) fun h_48 => (zq_let (s_23.1 + 1) fun v_50 => (zq_ck h_48 t 6 fun _ => (Option.bind (f_X6_nextFlip h_48 t) fun v_52 => some (.inl (v_50, v_52.1, v_52.2))))))))))))))))) zq_N (0, v_20.1, v_20.2)).bind (fun y_26 : Int32 × zq_H => some ((y_26.1, y_26.2))))))))))))))))
abbrev rm_X6_walk : Room := { frames := 6, cells := 0, slots := 0, locals := 138 }
theorem dX6_walk_0 : decode cX6_walk 0 = .ok (.aload_n 0, 1) := by decide +kernel
theorem dX6_walk_1 : decode cX6_walk 1 = .ok (.iload_n 1, 1) := by decide +kernel
theorem dX6_walk_2 : decode cX6_walk 2 = .ok (.iconst 1, 1) := by decide +kernel
theorem dX6_walk_3 : decode cX6_walk 3 = .ok (.bipush 20, 2) := by decide +kernel
theorem dX6_walk_5 : decode cX6_walk 5 = .ok (.invokestatic 66, 3) := by decide +kernel
theorem dX6_walk_8 : decode cX6_walk 8 = .ok (.ifCond .ne 7, 3) := by decide +kernel
theorem dX6_walk_11 : decode cX6_walk 11 = .ok (.iconst 1, 1) := by decide +kernel
theorem dX6_walk_12 : decode cX6_walk 12 = .ok (.goto 22, 3) := by decide +kernel
theorem dX6_walk_15 : decode cX6_walk 15 = .ok (.aload_n 0, 1) := by decide +kernel
theorem dX6_walk_16 : decode cX6_walk 16 = .ok (.aload_n 0, 1) := by decide +kernel
theorem dX6_walk_17 : decode cX6_walk 17 = .ok (.getfield 7, 3) := by decide +kernel
theorem dX6_walk_20 : decode cX6_walk 20 = .ok (.iconst 1, 1) := by decide +kernel
theorem dX6_walk_21 : decode cX6_walk 21 = .ok (.iaload, 1) := by decide +kernel
theorem dX6_walk_22 : decode cX6_walk 22 = .ok (.invokevirtual 132, 3) := by decide +kernel
theorem dX6_walk_25 : decode cX6_walk 25 = .ok (.iconst (-1), 1) := by decide +kernel
theorem dX6_walk_26 : decode cX6_walk 26 = .ok (.if_icmp .ne 7, 3) := by decide +kernel
theorem dX6_walk_29 : decode cX6_walk 29 = .ok (.iconst 2, 1) := by decide +kernel
theorem dX6_walk_30 : decode cX6_walk 30 = .ok (.goto 4, 3) := by decide +kernel
theorem dX6_walk_33 : decode cX6_walk 33 = .ok (.iconst 0, 1) := by decide +kernel
theorem dX6_walk_34 : decode cX6_walk 34 = .ok (.putfield 56, 3) := by decide +kernel
theorem dX6_walk_37 : decode cX6_walk 37 = .ok (.aload_n 0, 1) := by decide +kernel
theorem dX6_walk_38 : decode cX6_walk 38 = .ok (.getfield 56, 3) := by decide +kernel
theorem dX6_walk_41 : decode cX6_walk 41 = .ok (.ifCond .le 5, 3) := by decide +kernel
theorem dX6_walk_44 : decode cX6_walk 44 = .ok (.iconst 0, 1) := by decide +kernel
theorem dX6_walk_45 : decode cX6_walk 45 = .ok (.ireturn, 1) := by decide +kernel
theorem dX6_walk_46 : decode cX6_walk 46 = .ok (.aload_n 0, 1) := by decide +kernel
theorem dX6_walk_47 : decode cX6_walk 47 = .ok (.invokevirtual 141, 3) := by decide +kernel
theorem dX6_walk_50 : decode cX6_walk 50 = .ok (.iconst 0, 1) := by decide +kernel
theorem dX6_walk_51 : decode cX6_walk 51 = .ok (.istore_n 2, 1) := by decide +kernel
theorem dX6_walk_52 : decode cX6_walk 52 = .ok (.aload_n 0, 1) := by decide +kernel
theorem dX6_walk_53 : decode cX6_walk 53 = .ok (.invokevirtual 162, 3) := by decide +kernel
theorem dX6_walk_56 : decode cX6_walk 56 = .ok (.istore_n 3, 1) := by decide +kernel
theorem dX6_walk_57 : decode cX6_walk 57 = .ok (.iload_n 2, 1) := by decide +kernel
theorem dX6_walk_58 : decode cX6_walk 58 = .ok (.iload_n 1, 1) := by decide +kernel
theorem dX6_walk_59 : decode cX6_walk 59 = .ok (.if_icmp .ge 46, 3) := by decide +kernel
theorem dX6_walk_62 : decode cX6_walk 62 = .ok (.iload_n 3, 1) := by decide +kernel
theorem dX6_walk_63 : decode cX6_walk 63 = .ok (.iconst (-1), 1) := by decide +kernel
theorem dX6_walk_64 : decode cX6_walk 64 = .ok (.if_icmp .eq 41, 3) := by decide +kernel
theorem dX6_walk_67 : decode cX6_walk 67 = .ok (.aload_n 0, 1) := by decide +kernel
theorem dX6_walk_68 : decode cX6_walk 68 = .ok (.getfield 7, 3) := by decide +kernel
theorem dX6_walk_71 : decode cX6_walk 71 = .ok (.iconst 1, 1) := by decide +kernel
theorem dX6_walk_72 : decode cX6_walk 72 = .ok (.aload_n 0, 1) := by decide +kernel
theorem dX6_walk_73 : decode cX6_walk 73 = .ok (.aload_n 0, 1) := by decide +kernel
theorem dX6_walk_74 : decode cX6_walk 74 = .ok (.getfield 7, 3) := by decide +kernel
theorem dX6_walk_77 : decode cX6_walk 77 = .ok (.iconst 1, 1) := by decide +kernel
theorem dX6_walk_78 : decode cX6_walk 78 = .ok (.iaload, 1) := by decide +kernel
theorem dX6_walk_79 : decode cX6_walk 79 = .ok (.iload_n 3, 1) := by decide +kernel
theorem dX6_walk_80 : decode cX6_walk 80 = .ok (.invokevirtual 91, 3) := by decide +kernel
theorem dX6_walk_83 : decode cX6_walk 83 = .ok (.iastore, 1) := by decide +kernel
theorem dX6_walk_84 : decode cX6_walk 84 = .ok (.aload_n 0, 1) := by decide +kernel
theorem dX6_walk_85 : decode cX6_walk 85 = .ok (.getfield 7, 3) := by decide +kernel
theorem dX6_walk_88 : decode cX6_walk 88 = .ok (.iconst 4, 1) := by decide +kernel
theorem dX6_walk_89 : decode cX6_walk 89 = .ok (.dup2, 1) := by decide +kernel
theorem dX6_walk_90 : decode cX6_walk 90 = .ok (.iaload, 1) := by decide +kernel
theorem dX6_walk_91 : decode cX6_walk 91 = .ok (.iconst 1, 1) := by decide +kernel
theorem dX6_walk_92 : decode cX6_walk 92 = .ok (.iadd, 1) := by decide +kernel
theorem dX6_walk_93 : decode cX6_walk 93 = .ok (.iastore, 1) := by decide +kernel
theorem dX6_walk_94 : decode cX6_walk 94 = .ok (.iinc 2 1, 3) := by decide +kernel
theorem dX6_walk_97 : decode cX6_walk 97 = .ok (.aload_n 0, 1) := by decide +kernel
theorem dX6_walk_98 : decode cX6_walk 98 = .ok (.invokevirtual 162, 3) := by decide +kernel
theorem dX6_walk_101 : decode cX6_walk 101 = .ok (.istore_n 3, 1) := by decide +kernel
theorem dX6_walk_102 : decode cX6_walk 102 = .ok (.goto (-45), 3) := by decide +kernel
theorem dX6_walk_105 : decode cX6_walk 105 = .ok (.iload_n 2, 1) := by decide +kernel
theorem dX6_walk_106 : decode cX6_walk 106 = .ok (.ireturn, 1) := by decide +kernel
set_option maxRecDepth 100000 in
set_option maxHeartbeats 4000000 in
theorem v_X6_walk {X : zq_X} (C : zq_C X RX6 cX6_walk 4 zq_all rm_X6_walk) {h : zq_H} {t : Nat} {x1 : Int32} (T : zq_T X none) (hn : X.2.2.2.2.2.2.2.2.1.name = yX6_walk.name) {out : (Int32 × zq_H)} (hF : f_X6_walk h t x1 = some out) (hE : zq_End X cX6_walk 0 0 (some (.int out.1)) out.2) : zq_W X 0 0 h 0 [(0, .ref t), (1, .int x1)] [] := by
  unfold f_X6_walk at hF
  refine zq_aload_n (pc' := 1) C dX6_walk_0 rfl rfl rfl ?_
  refine zq_iload_n (pc' := 2) C dX6_walk_1 rfl rfl rfl ?_
  refine zq_iconst (pc' := 3) C 1 dX6_walk_2 rfl (by decide) ?_
  refine zq_bipush (pc' := 5) C 20 dX6_walk_3 rfl (by decide) ?_
  replace hF := zq_bd hF; obtain ⟨v_1, e_2, hF⟩ := hF
  refine zq_cS (pc' := 8) C (c_X6_within e_2) ys_X6_within wd_548 dX6_walk_5 rfl rfl rfl ⟨Nat.le_of_ble_eq_true rfl, Nat.le_of_ble_eq_true rfl⟩ (Nat.le_of_ble_eq_true rfl) ⟨rfl, rfl⟩ ⟨Nat.le_of_ble_eq_true rfl, Nat.le_of_ble_eq_true rfl⟩ rfl ?_
  refine zq_if_ne (pc' := 11) C 15 dX6_walk_8 (by decide) rfl (fun c_3 => ?_) (fun c_3 => ?_)
  · have hF := (zq_ifn hF (fun q => c_3 (zq_b0.mpr q)))
    skip
    refine zq_aload_n (pc' := 16) C dX6_walk_15 rfl rfl rfl ?_
    refine zq_aload_n (pc' := 17) C dX6_walk_16 rfl rfl rfl ?_
    replace hF := zq_bd hF; obtain ⟨v_4, e_5, hF⟩ := hF
    refine zq_getR (j := 0) (pc' := 20) C zq_K6 zq_in6w (Or.inl wd_448) (by decide) rfl dX6_walk_17 rfl e_5 ?_
    refine zq_iconst (pc' := 21) C 1 dX6_walk_20 rfl (by decide) ?_
    replace hF := zq_bd hF; obtain ⟨v_6, e_7, hF⟩ := hF
    refine zq_iaload (pc' := 22) C dX6_walk_21 rfl e_7 ?_
    replace hF := zq_ck_e hF; obtain ⟨e_10, hF⟩ := hF
    replace hF := zq_bd hF; obtain ⟨v_8, e_9, hF⟩ := hF
    refine zq_cV (pc' := 25) C (c_X6_lockedFrom e_9) yv_X6_lockedFrom wd_554 zq_K6 e_10 dX6_walk_22 rfl rfl rfl ⟨Nat.le_of_ble_eq_true rfl, Nat.le_of_ble_eq_true rfl⟩ (Nat.le_of_ble_eq_true rfl) ⟨rfl, rfl⟩ ⟨Nat.le_of_ble_eq_true rfl, Nat.le_of_ble_eq_true rfl⟩ rfl ?_
    refine zq_iconst (pc' := 26) C (-1) dX6_walk_25 rfl (by decide) ?_
    refine zq_icmp_ne (pc' := 29) C 33 dX6_walk_26 (by decide) rfl (fun c_11 => ?_) (fun c_11 => ?_)
    · have hF := (zq_ifn hF c_11)
      skip
      refine zq_iconst (pc' := 34) C 0 dX6_walk_33 rfl (by decide) ?_
      replace hF := zq_bd hF; obtain ⟨h_12, e_13, hF⟩ := hF
      refine zq_putI (j := 7) (pc' := 37) C zq_K6 zq_in6w (Or.inl wd_542) (by decide) rfl rfl dX6_walk_34 rfl (Or.inl rfl) e_13 ?_
      refine zq_aload_n (pc' := 38) C dX6_walk_37 rfl rfl rfl ?_
      have e_15 : zq_gi h_12 t 6 7 = some 0 := zq_gi_pi e_13
      refine zq_getI (j := 7) (pc' := 41) C zq_K6 zq_in6w (Or.inl wd_542) (by decide) rfl dX6_walk_38 rfl e_15 ?_
      refine zq_if_le (pc' := 44) C 46 dX6_walk_41 (by decide) rfl (fun _ => ?_) (fun c_16 => absurd c_16 (by decide))
      refine zq_aload_n (pc' := 47) C dX6_walk_46 rfl rfl rfl ?_
      replace hF := zq_ck_e hF; obtain ⟨e_19, hF⟩ := hF
      replace hF := zq_bd hF; obtain ⟨v_17, e_18, hF⟩ := hF
      refine zq_cV (pc' := 50) C (c_X6_save e_18) yv_X6_save wd_559 zq_K6 e_19 dX6_walk_47 rfl rfl rfl ⟨Nat.le_of_ble_eq_true rfl, Nat.le_of_ble_eq_true rfl⟩ (Nat.le_of_ble_eq_true rfl) ⟨rfl, rfl⟩ ⟨Nat.le_of_ble_eq_true rfl, Nat.le_of_ble_eq_true rfl⟩ rfl ?_
      refine zq_iconst (pc' := 51) C 0 dX6_walk_50 rfl (by decide) ?_
      refine zq_istore_n (lv' := [(2, .int 0), (0, .ref t), (1, .int x1)]) (pc' := 52) C dX6_walk_51 rfl rfl (by decide) rfl rfl ?_
      refine zq_aload_n (pc' := 53) C dX6_walk_52 rfl rfl rfl ?_
      replace hF := zq_ck_e hF; obtain ⟨e_22, hF⟩ := hF
      replace hF := zq_bd hF; obtain ⟨v_20, e_21, hF⟩ := hF
      refine zq_cV (pc' := 56) C (c_X6_nextFlip e_21) yv_X6_nextFlip wd_589 zq_K6 e_22 dX6_walk_53 rfl rfl rfl ⟨Nat.le_of_ble_eq_true rfl, Nat.le_of_ble_eq_true rfl⟩ (Nat.le_of_ble_eq_true rfl) ⟨rfl, rfl⟩ ⟨Nat.le_of_ble_eq_true rfl, Nat.le_of_ble_eq_true rfl⟩ rfl ?_
      refine zq_istore_n (lv' := [(3, .int v_20.1), (2, .int 0), (0, .ref t), (1, .int x1)]) (pc' := 57) C dX6_walk_56 rfl rfl (by decide) rfl rfl ?_
      refine zq_sub [2, 3, 1, 0] rfl ?_
      replace hF := zq_bd hF; obtain ⟨r_24, e_25, hF⟩ := hF
      refine zq_lpW (fun s_23 => zq_W X 0 0 s_23.2.2 57 [(0, .ref t), (1, .int x1), (2, .int s_23.1), (3, .int s_23.2.1)] []) (fun y_26 => zq_W X 0 0 y_26.2 105 [(2, .int y_26.1)] []) e_25 (fun s_23 q_30 hF hrec_28 hex_29 => ?_) ?_
      · skip
        refine zq_iload_n (pc' := 58) C dX6_walk_57 rfl rfl rfl ?_
        refine zq_iload_n (pc' := 59) C dX6_walk_58 rfl rfl rfl ?_
        refine zq_icmp_ge (pc' := 62) C 105 dX6_walk_59 (by decide) rfl (fun c_31 => ?_) (fun c_31 => ?_)
        · have hF := (zq_ifp hF c_31)
          skip
          cases hF
          exact zq_sub [2] rfl (hex_29 _ rfl)
        · have hF := (zq_ifn hF c_31)
          refine zq_iload_n (pc' := 63) C dX6_walk_62 rfl rfl rfl ?_
          refine zq_iconst (pc' := 64) C (-1) dX6_walk_63 rfl (by decide) ?_
          refine zq_icmp_eq (pc' := 67) C 105 dX6_walk_64 (by decide) rfl (fun c_32 => ?_) (fun c_32 => ?_)
          · have hF := (zq_ifp hF c_32)
            skip
            cases hF
            exact zq_sub [2] rfl (hex_29 _ rfl)
          · have hF := (zq_ifn hF c_32)
            refine zq_aload_n (pc' := 68) C dX6_walk_67 rfl rfl rfl ?_
            replace hF := zq_bd hF; obtain ⟨v_33, e_34, hF⟩ := hF
            refine zq_getR (j := 0) (pc' := 71) C zq_K6 zq_in6w (Or.inl wd_448) (by decide) rfl dX6_walk_68 rfl e_34 ?_
            refine zq_iconst (pc' := 72) C 1 dX6_walk_71 rfl (by decide) ?_
            refine zq_aload_n (pc' := 73) C dX6_walk_72 rfl rfl rfl ?_
            refine zq_aload_n (pc' := 74) C dX6_walk_73 rfl rfl rfl ?_
            replace hF := zq_bd hF; obtain ⟨v_35, e_36, hF⟩ := hF
            refine zq_getR (j := 0) (pc' := 77) C zq_K6 zq_in6w (Or.inl wd_448) (by decide) rfl dX6_walk_74 rfl e_36 ?_
            refine zq_iconst (pc' := 78) C 1 dX6_walk_77 rfl (by decide) ?_
            replace hF := zq_bd hF; obtain ⟨v_37, e_38, hF⟩ := hF
            refine zq_iaload (pc' := 79) C dX6_walk_78 rfl e_38 ?_
            refine zq_iload_n (pc' := 80) C dX6_walk_79 rfl rfl rfl ?_
            replace hF := zq_ck_e hF; obtain ⟨e_41, hF⟩ := hF
            replace hF := zq_bd hF; obtain ⟨v_39, e_40, hF⟩ := hF
            refine zq_cV (pc' := 83) C (c_X6_behindFlip e_40) yv_X6_behindFlip wd_479 zq_K6 e_41 dX6_walk_80 rfl rfl rfl ⟨Nat.le_of_ble_eq_true rfl, Nat.le_of_ble_eq_true rfl⟩ (Nat.le_of_ble_eq_true rfl) ⟨rfl, rfl⟩ ⟨Nat.le_of_ble_eq_true rfl, Nat.le_of_ble_eq_true rfl⟩ rfl ?_
            replace hF := zq_bd hF; obtain ⟨h_42, e_43, hF⟩ := hF
            refine zq_iastore (pc' := 84) C dX6_walk_83 rfl e_43 ?_
            refine zq_aload_n (pc' := 85) C dX6_walk_84 rfl rfl rfl ?_
            replace hF := zq_bd hF; obtain ⟨v_44, e_45, hF⟩ := hF
            refine zq_getR (j := 0) (pc' := 88) C zq_K6 zq_in6w (Or.inl wd_448) (by decide) rfl dX6_walk_85 rfl e_45 ?_
            refine zq_iconst (pc' := 89) C 4 dX6_walk_88 rfl (by decide) ?_
            refine zq_dup2 (pc' := 90) C dX6_walk_89 rfl rfl rfl ?_
            replace hF := zq_bd hF; obtain ⟨v_46, e_47, hF⟩ := hF
            refine zq_iaload (pc' := 91) C dX6_walk_90 rfl e_47 ?_
            refine zq_iconst (pc' := 92) C 1 dX6_walk_91 rfl (by decide) ?_
            refine zq_iadd (pc' := 93) C dX6_walk_92 rfl ?_
            replace hF := zq_bd hF; obtain ⟨h_48, e_49, hF⟩ := hF
            refine zq_iastore (pc' := 94) C dX6_walk_93 rfl e_49 ?_
            replace hF := zq_let_e hF; obtain ⟨v_50, e_51, hF⟩ := hF
            refine zq_iinc (lv' := [(2, .int v_50), (0, .ref t), (1, .int x1), (3, .int s_23.2.1)]) (pc' := 97) C dX6_walk_94 rfl (by decide) 2 rfl e_51 rfl ?_
            refine zq_aload_n (pc' := 98) C dX6_walk_97 rfl rfl rfl ?_
            replace hF := zq_ck_e hF; obtain ⟨e_54, hF⟩ := hF
            replace hF := zq_bd hF; obtain ⟨v_52, e_53, hF⟩ := hF
            refine zq_cV (pc' := 101) C (c_X6_nextFlip e_53) yv_X6_nextFlip wd_589 zq_K6 e_54 dX6_walk_98 rfl rfl rfl ⟨Nat.le_of_ble_eq_true rfl, Nat.le_of_ble_eq_true rfl⟩ (Nat.le_of_ble_eq_true rfl) ⟨rfl, rfl⟩ ⟨Nat.le_of_ble_eq_true rfl, Nat.le_of_ble_eq_true rfl⟩ rfl ?_
            refine zq_istore_n (lv' := [(3, .int v_52.1), (2, .int v_50), (0, .ref t), (1, .int x1)]) (pc' := 102) C dX6_walk_101 rfl rfl (by decide) rfl rfl ?_
            refine zq_goto C 57 dX6_walk_102 (by decide) ?_
            cases hF
            exact zq_sub [2, 3, 1, 0] rfl (hrec_28 _ rfl)
      · skip
        obtain ⟨y_26, rfl⟩ : ∃ z9, z9 = r_24 := ⟨_, rfl⟩
        show zq_W X 0 0 y_26.2 105 [(2, .int y_26.1)] []
        refine zq_iload_n (pc' := 106) C dX6_walk_105 rfl rfl rfl ?_
        have hF := Option.some.inj hF
        subst hF
        exact hE _ _ _ _ (Nat.le_of_ble_eq_true rfl) (Nat.le_of_ble_eq_true rfl) dX6_walk_106
    · have hF := (zq_ifp hF c_11)
      refine zq_iconst (pc' := 30) C 2 dX6_walk_29 rfl (by decide) ?_
      refine zq_goto C 34 dX6_walk_30 (by decide) ?_
      replace hF := zq_bd hF; obtain ⟨h_55, e_56, hF⟩ := hF
      refine zq_putI (j := 7) (pc' := 37) C zq_K6 zq_in6w (Or.inl wd_542) (by decide) rfl rfl dX6_walk_34 rfl (Or.inl rfl) e_56 ?_
      refine zq_aload_n (pc' := 38) C dX6_walk_37 rfl rfl rfl ?_
      have e_58 : zq_gi h_55 t 6 7 = some 2 := zq_gi_pi e_56
      refine zq_getI (j := 7) (pc' := 41) C zq_K6 zq_in6w (Or.inl wd_542) (by decide) rfl dX6_walk_38 rfl e_58 ?_
      refine zq_if_le (pc' := 44) C 46 dX6_walk_41 (by decide) rfl (fun c_59 => absurd c_59 (by decide)) (fun _ => ?_)
      refine zq_iconst (pc' := 45) C 0 dX6_walk_44 rfl (by decide) ?_
      have hF := Option.some.inj hF
      subst hF
      exact hE _ _ _ _ (Nat.le_of_ble_eq_true rfl) (Nat.le_of_ble_eq_true rfl) dX6_walk_45
  · have hF := (zq_ifp hF (zq_b0.mp c_3))
    refine zq_iconst (pc' := 12) C 1 dX6_walk_11 rfl (by decide) ?_
    refine zq_goto C 34 dX6_walk_12 (by decide) ?_
    replace hF := zq_bd hF; obtain ⟨h_60, e_61, hF⟩ := hF
    refine zq_putI (j := 7) (pc' := 37) C zq_K6 zq_in6w (Or.inl wd_542) (by decide) rfl rfl dX6_walk_34 rfl (Or.inl rfl) e_61 ?_
    refine zq_aload_n (pc' := 38) C dX6_walk_37 rfl rfl rfl ?_
    have e_63 : zq_gi h_60 t 6 7 = some 1 := zq_gi_pi e_61
    refine zq_getI (j := 7) (pc' := 41) C zq_K6 zq_in6w (Or.inl wd_542) (by decide) rfl dX6_walk_38 rfl e_63 ?_
    refine zq_if_le (pc' := 44) C 46 dX6_walk_41 (by decide) rfl (fun c_64 => absurd c_64 (by decide)) (fun _ => ?_)
    refine zq_iconst (pc' := 45) C 0 dX6_walk_44 rfl (by decide) ?_
    have hF := Option.some.inj hF
    subst hF
    exact hE _ _ _ _ (Nat.le_of_ble_eq_true rfl) (Nat.le_of_ble_eq_true rfl) dX6_walk_45
theorem c_X6_walk {h : zq_H} {t : Nat} {x1 : Int32} {out : (Int32 × zq_H)} (hF : f_X6_walk h t x1 = some out) : zq_M none yX6_walk (Cond.code yX6_walk cX6_walk 4 (some .int) :: zq_all) rm_X6_walk [.ref t, .int x1] h (some (.int out.1)) out.2 := zq_met2 (own := RX6) (by decide +kernel) rfl (Nat.le_of_ble_eq_true rfl) rfl ⟨.int, rfl, rfl⟩ (fun X C T hn hE => v_X6_walk C T hn hF hE)
theorem yv_X6_walk : zq_calV yX6_walk RX6 cX6_walk 4 (some .int) 1 := ⟨by decide +kernel, wd_592, wd_830, wd_831, wd_458⟩
def f_X6_append (h : zq_H) (t : Nat) (x1 : Int32) : Option (Int32 × zq_H) := (Option.bind (f_X6_within h x1 33 126) fun v_1 => (if v_1 = false then (Option.bind (zq_pi h t 6 7 1) fun h_29 => some ((0, h_29))) else (Option.bind (zq_gi h t 6 5) fun v_4 => (if v_4 = 60 then (Option.bind (zq_pi h t 6 7 2) fun h_24 => some ((0, h_24))) else (Option.bind (zq_pi h t 6 7 0) fun h_7 => (Option.bind (zq_gr h_7 t 6 6) fun v_12 => (Option.bind (zq_gi h_7 t 6 5) fun v_14 => (Option.bind (zq_si h_7 v_12 v_14 x1) fun h_16 => (Option.bind (zq_gi h_16 t 6 5) fun v_18 => (Option.bind (zq_pi h_16 t 6 5 (v_18 + 1)) fun h_20 => (Option.bind (zq_gi h_20 t 6 5) fun v_22 => some ((v_22, h_20)))))))))))))
abbrev rm_X6_append : Room := { frames := 1, cells := 0, slots := 0, locals := 22 }
theorem dX6_append_0 : decode cX6_append 0 = .ok (.aload_n 0, 1) := by decide +kernel
theorem dX6_append_1 : decode cX6_append 1 = .ok (.iload_n 1, 1) := by decide +kernel
theorem dX6_append_2 : decode cX6_append 2 = .ok (.bipush 33, 2) := by decide +kernel
theorem dX6_append_4 : decode cX6_append 4 = .ok (.bipush 126, 2) := by decide +kernel
theorem dX6_append_6 : decode cX6_append 6 = .ok (.invokestatic 66, 3) := by decide +kernel
theorem dX6_append_9 : decode cX6_append 9 = .ok (.ifCond .ne 7, 3) := by decide +kernel
theorem dX6_append_12 : decode cX6_append 12 = .ok (.iconst 1, 1) := by decide +kernel
theorem dX6_append_13 : decode cX6_append 13 = .ok (.goto 17, 3) := by decide +kernel
theorem dX6_append_16 : decode cX6_append 16 = .ok (.aload_n 0, 1) := by decide +kernel
theorem dX6_append_17 : decode cX6_append 17 = .ok (.getfield 166, 3) := by decide +kernel
theorem dX6_append_20 : decode cX6_append 20 = .ok (.bipush 60, 2) := by decide +kernel
theorem dX6_append_22 : decode cX6_append 22 = .ok (.if_icmp .ne 7, 3) := by decide +kernel
theorem dX6_append_25 : decode cX6_append 25 = .ok (.iconst 2, 1) := by decide +kernel
theorem dX6_append_26 : decode cX6_append 26 = .ok (.goto 4, 3) := by decide +kernel
theorem dX6_append_29 : decode cX6_append 29 = .ok (.iconst 0, 1) := by decide +kernel
theorem dX6_append_30 : decode cX6_append 30 = .ok (.putfield 56, 3) := by decide +kernel
theorem dX6_append_33 : decode cX6_append 33 = .ok (.aload_n 0, 1) := by decide +kernel
theorem dX6_append_34 : decode cX6_append 34 = .ok (.getfield 56, 3) := by decide +kernel
theorem dX6_append_37 : decode cX6_append 37 = .ok (.ifCond .le 5, 3) := by decide +kernel
theorem dX6_append_40 : decode cX6_append 40 = .ok (.iconst 0, 1) := by decide +kernel
theorem dX6_append_41 : decode cX6_append 41 = .ok (.ireturn, 1) := by decide +kernel
theorem dX6_append_42 : decode cX6_append 42 = .ok (.aload_n 0, 1) := by decide +kernel
theorem dX6_append_43 : decode cX6_append 43 = .ok (.getfield 22, 3) := by decide +kernel
theorem dX6_append_46 : decode cX6_append 46 = .ok (.aload_n 0, 1) := by decide +kernel
theorem dX6_append_47 : decode cX6_append 47 = .ok (.getfield 166, 3) := by decide +kernel
theorem dX6_append_50 : decode cX6_append 50 = .ok (.iload_n 1, 1) := by decide +kernel
theorem dX6_append_51 : decode cX6_append 51 = .ok (.iastore, 1) := by decide +kernel
theorem dX6_append_52 : decode cX6_append 52 = .ok (.aload_n 0, 1) := by decide +kernel
theorem dX6_append_53 : decode cX6_append 53 = .ok (.dup, 1) := by decide +kernel
theorem dX6_append_54 : decode cX6_append 54 = .ok (.getfield 166, 3) := by decide +kernel
theorem dX6_append_57 : decode cX6_append 57 = .ok (.iconst 1, 1) := by decide +kernel
theorem dX6_append_58 : decode cX6_append 58 = .ok (.iadd, 1) := by decide +kernel
theorem dX6_append_59 : decode cX6_append 59 = .ok (.putfield 166, 3) := by decide +kernel
theorem dX6_append_62 : decode cX6_append 62 = .ok (.aload_n 0, 1) := by decide +kernel
theorem dX6_append_63 : decode cX6_append 63 = .ok (.getfield 166, 3) := by decide +kernel
theorem dX6_append_66 : decode cX6_append 66 = .ok (.ireturn, 1) := by decide +kernel
set_option maxRecDepth 100000 in
set_option maxHeartbeats 4000000 in
theorem v_X6_append {X : zq_X} (C : zq_C X RX6 cX6_append 2 zq_all rm_X6_append) {h : zq_H} {t : Nat} {x1 : Int32} (T : zq_T X none) (hn : X.2.2.2.2.2.2.2.2.1.name = yX6_append.name) {out : (Int32 × zq_H)} (hF : f_X6_append h t x1 = some out) (hE : zq_End X cX6_append 0 0 (some (.int out.1)) out.2) : zq_W X 0 0 h 0 [(0, .ref t), (1, .int x1)] [] := by
  unfold f_X6_append at hF
  refine zq_aload_n (pc' := 1) C dX6_append_0 rfl rfl rfl ?_
  refine zq_iload_n (pc' := 2) C dX6_append_1 rfl rfl rfl ?_
  refine zq_bipush (pc' := 4) C 33 dX6_append_2 rfl (by decide) ?_
  refine zq_bipush (pc' := 6) C 126 dX6_append_4 rfl (by decide) ?_
  replace hF := zq_bd hF; obtain ⟨v_1, e_2, hF⟩ := hF
  refine zq_cS (pc' := 9) C (c_X6_within e_2) ys_X6_within wd_548 dX6_append_6 rfl rfl rfl ⟨Nat.le_of_ble_eq_true rfl, Nat.le_of_ble_eq_true rfl⟩ (Nat.le_of_ble_eq_true rfl) ⟨rfl, rfl⟩ ⟨Nat.le_of_ble_eq_true rfl, Nat.le_of_ble_eq_true rfl⟩ rfl ?_
  refine zq_if_ne (pc' := 12) C 16 dX6_append_9 (by decide) rfl (fun c_3 => ?_) (fun c_3 => ?_)
  · have hF := (zq_ifn hF (fun q => c_3 (zq_b0.mpr q)))
    skip
    refine zq_aload_n (pc' := 17) C dX6_append_16 rfl rfl rfl ?_
    replace hF := zq_bd hF; obtain ⟨v_4, e_5, hF⟩ := hF
    refine zq_getI (j := 5) (pc' := 20) C zq_K6 zq_in6w (Or.inl wd_594) (by decide) rfl dX6_append_17 rfl e_5 ?_
    refine zq_bipush (pc' := 22) C 60 dX6_append_20 rfl (by decide) ?_
    refine zq_icmp_ne (pc' := 25) C 29 dX6_append_22 (by decide) rfl (fun c_6 => ?_) (fun c_6 => ?_)
    · have hF := (zq_ifn hF c_6)
      skip
      refine zq_iconst (pc' := 30) C 0 dX6_append_29 rfl (by decide) ?_
      replace hF := zq_bd hF; obtain ⟨h_7, e_8, hF⟩ := hF
      refine zq_putI (j := 7) (pc' := 33) C zq_K6 zq_in6w (Or.inl wd_542) (by decide) rfl rfl dX6_append_30 rfl (Or.inl rfl) e_8 ?_
      refine zq_aload_n (pc' := 34) C dX6_append_33 rfl rfl rfl ?_
      have e_10 : zq_gi h_7 t 6 7 = some 0 := zq_gi_pi e_8
      refine zq_getI (j := 7) (pc' := 37) C zq_K6 zq_in6w (Or.inl wd_542) (by decide) rfl dX6_append_34 rfl e_10 ?_
      refine zq_if_le (pc' := 40) C 42 dX6_append_37 (by decide) rfl (fun _ => ?_) (fun c_11 => absurd c_11 (by decide))
      refine zq_aload_n (pc' := 43) C dX6_append_42 rfl rfl rfl ?_
      replace hF := zq_bd hF; obtain ⟨v_12, e_13, hF⟩ := hF
      refine zq_getR (j := 6) (pc' := 46) C zq_K6 zq_in6w (Or.inl wd_536) (by decide) rfl dX6_append_43 rfl e_13 ?_
      refine zq_aload_n (pc' := 47) C dX6_append_46 rfl rfl rfl ?_
      replace hF := zq_bd hF; obtain ⟨v_14, e_15, hF⟩ := hF
      refine zq_getI (j := 5) (pc' := 50) C zq_K6 zq_in6w (Or.inl wd_594) (by decide) rfl dX6_append_47 rfl e_15 ?_
      refine zq_iload_n (pc' := 51) C dX6_append_50 rfl rfl rfl ?_
      replace hF := zq_bd hF; obtain ⟨h_16, e_17, hF⟩ := hF
      refine zq_iastore (pc' := 52) C dX6_append_51 rfl e_17 ?_
      refine zq_aload_n (pc' := 53) C dX6_append_52 rfl rfl rfl ?_
      refine zq_dup (pc' := 54) C dX6_append_53 rfl rfl ?_
      replace hF := zq_bd hF; obtain ⟨v_18, e_19, hF⟩ := hF
      refine zq_getI (j := 5) (pc' := 57) C zq_K6 zq_in6w (Or.inl wd_594) (by decide) rfl dX6_append_54 rfl e_19 ?_
      refine zq_iconst (pc' := 58) C 1 dX6_append_57 rfl (by decide) ?_
      refine zq_iadd (pc' := 59) C dX6_append_58 rfl ?_
      replace hF := zq_bd hF; obtain ⟨h_20, e_21, hF⟩ := hF
      refine zq_putI (j := 5) (pc' := 62) C zq_K6 zq_in6w (Or.inl wd_594) (by decide) rfl rfl dX6_append_59 rfl (Or.inl rfl) e_21 ?_
      refine zq_aload_n (pc' := 63) C dX6_append_62 rfl rfl rfl ?_
      replace hF := zq_bd hF; obtain ⟨v_22, e_23, hF⟩ := hF
      refine zq_getI (j := 5) (pc' := 66) C zq_K6 zq_in6w (Or.inl wd_594) (by decide) rfl dX6_append_63 rfl e_23 ?_
      have hF := Option.some.inj hF
      subst hF
      exact hE _ _ _ _ (Nat.le_of_ble_eq_true rfl) (Nat.le_of_ble_eq_true rfl) dX6_append_66
    · have hF := (zq_ifp hF c_6)
      refine zq_iconst (pc' := 26) C 2 dX6_append_25 rfl (by decide) ?_
      refine zq_goto C 30 dX6_append_26 (by decide) ?_
      replace hF := zq_bd hF; obtain ⟨h_24, e_25, hF⟩ := hF
      refine zq_putI (j := 7) (pc' := 33) C zq_K6 zq_in6w (Or.inl wd_542) (by decide) rfl rfl dX6_append_30 rfl (Or.inl rfl) e_25 ?_
      refine zq_aload_n (pc' := 34) C dX6_append_33 rfl rfl rfl ?_
      have e_27 : zq_gi h_24 t 6 7 = some 2 := zq_gi_pi e_25
      refine zq_getI (j := 7) (pc' := 37) C zq_K6 zq_in6w (Or.inl wd_542) (by decide) rfl dX6_append_34 rfl e_27 ?_
      refine zq_if_le (pc' := 40) C 42 dX6_append_37 (by decide) rfl (fun c_28 => absurd c_28 (by decide)) (fun _ => ?_)
      refine zq_iconst (pc' := 41) C 0 dX6_append_40 rfl (by decide) ?_
      have hF := Option.some.inj hF
      subst hF
      exact hE _ _ _ _ (Nat.le_of_ble_eq_true rfl) (Nat.le_of_ble_eq_true rfl) dX6_append_41
  · have hF := (zq_ifp hF (zq_b0.mp c_3))
    refine zq_iconst (pc' := 13) C 1 dX6_append_12 rfl (by decide) ?_
    refine zq_goto C 30 dX6_append_13 (by decide) ?_
    replace hF := zq_bd hF; obtain ⟨h_29, e_30, hF⟩ := hF
    refine zq_putI (j := 7) (pc' := 33) C zq_K6 zq_in6w (Or.inl wd_542) (by decide) rfl rfl dX6_append_30 rfl (Or.inl rfl) e_30 ?_
    refine zq_aload_n (pc' := 34) C dX6_append_33 rfl rfl rfl ?_
    have e_32 : zq_gi h_29 t 6 7 = some 1 := zq_gi_pi e_30
    refine zq_getI (j := 7) (pc' := 37) C zq_K6 zq_in6w (Or.inl wd_542) (by decide) rfl dX6_append_34 rfl e_32 ?_
    refine zq_if_le (pc' := 40) C 42 dX6_append_37 (by decide) rfl (fun c_33 => absurd c_33 (by decide)) (fun _ => ?_)
    refine zq_iconst (pc' := 41) C 0 dX6_append_40 rfl (by decide) ?_
    have hF := Option.some.inj hF
    subst hF
    exact hE _ _ _ _ (Nat.le_of_ble_eq_true rfl) (Nat.le_of_ble_eq_true rfl) dX6_append_41
theorem c_X6_append {h : zq_H} {t : Nat} {x1 : Int32} {out : (Int32 × zq_H)} (hF : f_X6_append h t x1 = some out) : zq_M none yX6_append (Cond.code yX6_append cX6_append 2 (some .int) :: zq_all) rm_X6_append [.ref t, .int x1] h (some (.int out.1)) out.2 := zq_met2 (own := RX6) (by decide +kernel) rfl (Nat.le_of_ble_eq_true rfl) rfl ⟨.int, rfl, rfl⟩ (fun X C T hn hE => v_X6_append C T hn hF hE)
theorem yv_X6_append : zq_calV yX6_append RX6 cX6_append 2 (some .int) 1 := ⟨by decide +kernel, wd_593, wd_835, wd_836, wd_458⟩
def f_X6_clearBuffer (h : zq_H) (t : Nat) : Option (Int32 × zq_H) := (Option.bind (zq_pi h t 6 7 0) fun h_1 => (Option.bind (zq_gi h_1 t 6 5) fun v_3 => (Option.bind (zq_pi h_1 t 6 5 0) fun h_5 => some ((v_3, h_5)))))
abbrev rm_X6_clearBuffer : Room := { frames := 0, cells := 0, slots := 0, locals := 0 }
theorem dX6_clearBuffer_0 : decode cX6_clearBuffer 0 = .ok (.aload_n 0, 1) := by decide +kernel
theorem dX6_clearBuffer_1 : decode cX6_clearBuffer 1 = .ok (.iconst 0, 1) := by decide +kernel
theorem dX6_clearBuffer_2 : decode cX6_clearBuffer 2 = .ok (.putfield 56, 3) := by decide +kernel
theorem dX6_clearBuffer_5 : decode cX6_clearBuffer 5 = .ok (.aload_n 0, 1) := by decide +kernel
theorem dX6_clearBuffer_6 : decode cX6_clearBuffer 6 = .ok (.getfield 166, 3) := by decide +kernel
theorem dX6_clearBuffer_9 : decode cX6_clearBuffer 9 = .ok (.istore_n 1, 1) := by decide +kernel
theorem dX6_clearBuffer_10 : decode cX6_clearBuffer 10 = .ok (.aload_n 0, 1) := by decide +kernel
theorem dX6_clearBuffer_11 : decode cX6_clearBuffer 11 = .ok (.iconst 0, 1) := by decide +kernel
theorem dX6_clearBuffer_12 : decode cX6_clearBuffer 12 = .ok (.putfield 166, 3) := by decide +kernel
theorem dX6_clearBuffer_15 : decode cX6_clearBuffer 15 = .ok (.iload_n 1, 1) := by decide +kernel
theorem dX6_clearBuffer_16 : decode cX6_clearBuffer 16 = .ok (.ireturn, 1) := by decide +kernel
set_option maxRecDepth 100000 in
set_option maxHeartbeats 4000000 in
theorem v_X6_clearBuffer {X : zq_X} (C : zq_C X RX6 cX6_clearBuffer 2 zq_all rm_X6_clearBuffer) {h : zq_H} {t : Nat} (T : zq_T X none) (hn : X.2.2.2.2.2.2.2.2.1.name = yX6_clearBuffer.name) {out : (Int32 × zq_H)} (hF : f_X6_clearBuffer h t = some out) (hE : zq_End X cX6_clearBuffer 0 0 (some (.int out.1)) out.2) : zq_W X 0 0 h 0 [(0, .ref t)] [] := by
  unfold f_X6_clearBuffer at hF
  refine zq_aload_n (pc' := 1) C dX6_clearBuffer_0 rfl rfl rfl ?_
  refine zq_iconst (pc' := 2) C 0 dX6_clearBuffer_1 rfl (by decide) ?_
  replace hF := zq_bd hF; obtain ⟨h_1, e_2, hF⟩ := hF
  refine zq_putI (j := 7) (pc' := 5) C zq_K6 zq_in6w (Or.inl wd_542) (by decide) rfl rfl dX6_clearBuffer_2 rfl (Or.inl rfl) e_2 ?_
  refine zq_aload_n (pc' := 6) C dX6_clearBuffer_5 rfl rfl rfl ?_
  replace hF := zq_bd hF; obtain ⟨v_3, e_4, hF⟩ := hF
  refine zq_getI (j := 5) (pc' := 9) C zq_K6 zq_in6w (Or.inl wd_594) (by decide) rfl dX6_clearBuffer_6 rfl e_4 ?_
  refine zq_istore_n (lv' := [(1, .int v_3), (0, .ref t)]) (pc' := 10) C dX6_clearBuffer_9 rfl rfl (by decide) rfl rfl ?_
  refine zq_aload_n (pc' := 11) C dX6_clearBuffer_10 rfl rfl rfl ?_
  refine zq_iconst (pc' := 12) C 0 dX6_clearBuffer_11 rfl (by decide) ?_
  replace hF := zq_bd hF; obtain ⟨h_5, e_6, hF⟩ := hF
  refine zq_putI (j := 5) (pc' := 15) C zq_K6 zq_in6w (Or.inl wd_594) (by decide) rfl rfl dX6_clearBuffer_12 rfl (Or.inl rfl) e_6 ?_
  refine zq_iload_n (pc' := 16) C dX6_clearBuffer_15 rfl rfl rfl ?_
  have hF := Option.some.inj hF
  subst hF
  exact hE _ _ _ _ (Nat.le_of_ble_eq_true rfl) (Nat.le_of_ble_eq_true rfl) dX6_clearBuffer_16
theorem c_X6_clearBuffer {h : zq_H} {t : Nat} {out : (Int32 × zq_H)} (hF : f_X6_clearBuffer h t = some out) : zq_M none yX6_clearBuffer (Cond.code yX6_clearBuffer cX6_clearBuffer 2 (some .int) :: zq_all) rm_X6_clearBuffer [.ref t] h (some (.int out.1)) out.2 := zq_met2 (own := RX6) (by decide +kernel) rfl (Nat.le_of_ble_eq_true rfl) rfl ⟨.int, rfl, rfl⟩ (fun X C T hn hE => v_X6_clearBuffer C T hn hF hE)
theorem yv_X6_clearBuffer : zq_calV yX6_clearBuffer RX6 cX6_clearBuffer 2 (some .int) 0 := ⟨by decide +kernel, wd_595, wd_841, wd_842, wd_458⟩
def f_X6_canStand (h : zq_H) (t : Nat) (x1 : Int32) : Option Bool := (Option.bind (zq_gr h t 6 6) fun v_1 => (Option.bind (zq_ai h v_1 x1) fun v_3 => (zq_let (v_3 - 48) fun v_5 => (Option.bind (zq_gr h t 6 0) fun v_7 => (Option.bind (zq_ai h v_7 0) fun v_9 => (if x1 < ((3 * (v_9 - 3)) - 1) then (if (x1 - x1 / 3 * 3) = 0 then (Option.bind (zq_gr h t 6 0) fun v_26 => (Option.bind (zq_ai h v_26 0) fun v_28 => (Option.bind (f_X6_within h v_5 0 (v_28 - 3)) fun v_30 => some (v_30)))) else (if (x1 - x1 / 3 * 3) = 1 then (Option.bind (zq_gr h t 6 6) fun v_19 => (Option.bind (zq_ai h v_19 (x1 - 1)) fun v_21 => (zq_ck h t 6 fun _ => (Option.bind (f_X6_isDiagonal h t (v_21 - 48) v_5) fun v_23 => some (v_23))))) else (Option.bind (zq_gr h t 6 6) fun v_14 => (Option.bind (zq_ai h v_14 x1) fun v_16 => (if v_16 = 44 then some (true) else some (false)))))) else some (false)))))))
abbrev rm_X6_canStand : Room := { frames := 2, cells := 0, slots := 0, locals := 44 }
theorem dX6_canStand_0 : decode cX6_canStand 0 = .ok (.aload_n 0, 1) := by decide +kernel
theorem dX6_canStand_1 : decode cX6_canStand 1 = .ok (.getfield 22, 3) := by decide +kernel
theorem dX6_canStand_4 : decode cX6_canStand 4 = .ok (.iload_n 1, 1) := by decide +kernel
theorem dX6_canStand_5 : decode cX6_canStand 5 = .ok (.iaload, 1) := by decide +kernel
theorem dX6_canStand_6 : decode cX6_canStand 6 = .ok (.bipush 48, 2) := by decide +kernel
theorem dX6_canStand_8 : decode cX6_canStand 8 = .ok (.isub, 1) := by decide +kernel
theorem dX6_canStand_9 : decode cX6_canStand 9 = .ok (.istore_n 2, 1) := by decide +kernel
theorem dX6_canStand_10 : decode cX6_canStand 10 = .ok (.iload_n 1, 1) := by decide +kernel
theorem dX6_canStand_11 : decode cX6_canStand 11 = .ok (.iconst 3, 1) := by decide +kernel
theorem dX6_canStand_12 : decode cX6_canStand 12 = .ok (.aload_n 0, 1) := by decide +kernel
theorem dX6_canStand_13 : decode cX6_canStand 13 = .ok (.getfield 7, 3) := by decide +kernel
theorem dX6_canStand_16 : decode cX6_canStand 16 = .ok (.iconst 0, 1) := by decide +kernel
theorem dX6_canStand_17 : decode cX6_canStand 17 = .ok (.iaload, 1) := by decide +kernel
theorem dX6_canStand_18 : decode cX6_canStand 18 = .ok (.iconst 3, 1) := by decide +kernel
theorem dX6_canStand_19 : decode cX6_canStand 19 = .ok (.isub, 1) := by decide +kernel
theorem dX6_canStand_20 : decode cX6_canStand 20 = .ok (.imul, 1) := by decide +kernel
theorem dX6_canStand_21 : decode cX6_canStand 21 = .ok (.iconst 1, 1) := by decide +kernel
theorem dX6_canStand_22 : decode cX6_canStand 22 = .ok (.isub, 1) := by decide +kernel
theorem dX6_canStand_23 : decode cX6_canStand 23 = .ok (.if_icmp .lt 5, 3) := by decide +kernel
theorem dX6_canStand_26 : decode cX6_canStand 26 = .ok (.iconst 0, 1) := by decide +kernel
theorem dX6_canStand_27 : decode cX6_canStand 27 = .ok (.ireturn, 1) := by decide +kernel
theorem dX6_canStand_28 : decode cX6_canStand 28 = .ok (.iload_n 1, 1) := by decide +kernel
theorem dX6_canStand_29 : decode cX6_canStand 29 = .ok (.iconst 3, 1) := by decide +kernel
theorem dX6_canStand_30 : decode cX6_canStand 30 = .ok (.irem, 1) := by decide +kernel
theorem dX6_canStand_31 : decode cX6_canStand 31 = .ok (.ifCond .ne 17, 3) := by decide +kernel
theorem dX6_canStand_34 : decode cX6_canStand 34 = .ok (.iload_n 2, 1) := by decide +kernel
theorem dX6_canStand_35 : decode cX6_canStand 35 = .ok (.iconst 0, 1) := by decide +kernel
theorem dX6_canStand_36 : decode cX6_canStand 36 = .ok (.aload_n 0, 1) := by decide +kernel
theorem dX6_canStand_37 : decode cX6_canStand 37 = .ok (.getfield 7, 3) := by decide +kernel
theorem dX6_canStand_40 : decode cX6_canStand 40 = .ok (.iconst 0, 1) := by decide +kernel
theorem dX6_canStand_41 : decode cX6_canStand 41 = .ok (.iaload, 1) := by decide +kernel
theorem dX6_canStand_42 : decode cX6_canStand 42 = .ok (.iconst 3, 1) := by decide +kernel
theorem dX6_canStand_43 : decode cX6_canStand 43 = .ok (.isub, 1) := by decide +kernel
theorem dX6_canStand_44 : decode cX6_canStand 44 = .ok (.invokestatic 66, 3) := by decide +kernel
theorem dX6_canStand_47 : decode cX6_canStand 47 = .ok (.ireturn, 1) := by decide +kernel
theorem dX6_canStand_48 : decode cX6_canStand 48 = .ok (.iload_n 1, 1) := by decide +kernel
theorem dX6_canStand_49 : decode cX6_canStand 49 = .ok (.iconst 3, 1) := by decide +kernel
theorem dX6_canStand_50 : decode cX6_canStand 50 = .ok (.irem, 1) := by decide +kernel
theorem dX6_canStand_51 : decode cX6_canStand 51 = .ok (.iconst 1, 1) := by decide +kernel
theorem dX6_canStand_52 : decode cX6_canStand 52 = .ok (.if_icmp .ne 22, 3) := by decide +kernel
theorem dX6_canStand_55 : decode cX6_canStand 55 = .ok (.aload_n 0, 1) := by decide +kernel
theorem dX6_canStand_56 : decode cX6_canStand 56 = .ok (.aload_n 0, 1) := by decide +kernel
theorem dX6_canStand_57 : decode cX6_canStand 57 = .ok (.getfield 22, 3) := by decide +kernel
theorem dX6_canStand_60 : decode cX6_canStand 60 = .ok (.iload_n 1, 1) := by decide +kernel
theorem dX6_canStand_61 : decode cX6_canStand 61 = .ok (.iconst 1, 1) := by decide +kernel
theorem dX6_canStand_62 : decode cX6_canStand 62 = .ok (.isub, 1) := by decide +kernel
theorem dX6_canStand_63 : decode cX6_canStand 63 = .ok (.iaload, 1) := by decide +kernel
theorem dX6_canStand_64 : decode cX6_canStand 64 = .ok (.bipush 48, 2) := by decide +kernel
theorem dX6_canStand_66 : decode cX6_canStand 66 = .ok (.isub, 1) := by decide +kernel
theorem dX6_canStand_67 : decode cX6_canStand 67 = .ok (.iload_n 2, 1) := by decide +kernel
theorem dX6_canStand_68 : decode cX6_canStand 68 = .ok (.invokevirtual 147, 3) := by decide +kernel
theorem dX6_canStand_71 : decode cX6_canStand 71 = .ok (.goto 19, 3) := by decide +kernel
theorem dX6_canStand_74 : decode cX6_canStand 74 = .ok (.aload_n 0, 1) := by decide +kernel
theorem dX6_canStand_75 : decode cX6_canStand 75 = .ok (.getfield 22, 3) := by decide +kernel
theorem dX6_canStand_78 : decode cX6_canStand 78 = .ok (.iload_n 1, 1) := by decide +kernel
theorem dX6_canStand_79 : decode cX6_canStand 79 = .ok (.iaload, 1) := by decide +kernel
theorem dX6_canStand_80 : decode cX6_canStand 80 = .ok (.bipush 44, 2) := by decide +kernel
theorem dX6_canStand_82 : decode cX6_canStand 82 = .ok (.if_icmp .ne 7, 3) := by decide +kernel
theorem dX6_canStand_85 : decode cX6_canStand 85 = .ok (.iconst 1, 1) := by decide +kernel
theorem dX6_canStand_86 : decode cX6_canStand 86 = .ok (.goto 4, 3) := by decide +kernel
theorem dX6_canStand_89 : decode cX6_canStand 89 = .ok (.iconst 0, 1) := by decide +kernel
theorem dX6_canStand_90 : decode cX6_canStand 90 = .ok (.ireturn, 1) := by decide +kernel
set_option maxRecDepth 100000 in
set_option maxHeartbeats 4000000 in
theorem v_X6_canStand {X : zq_X} (C : zq_C X RX6 cX6_canStand 3 zq_all rm_X6_canStand) {h : zq_H} {t : Nat} {x1 : Int32} (T : zq_T X none) (hn : X.2.2.2.2.2.2.2.2.1.name = yX6_canStand.name) {out : Bool} (hF : f_X6_canStand h t x1 = some out) (hE : zq_End X cX6_canStand 0 0 (some (.int (zq_b out))) h) : zq_W X 0 0 h 0 [(0, .ref t), (1, .int x1)] [] := by
  unfold f_X6_canStand at hF
  refine zq_aload_n (pc' := 1) C dX6_canStand_0 rfl rfl rfl ?_
  replace hF := zq_bd hF; obtain ⟨v_1, e_2, hF⟩ := hF
  refine zq_getR (j := 6) (pc' := 4) C zq_K6 zq_in6w (Or.inl wd_536) (by decide) rfl dX6_canStand_1 rfl e_2 ?_
  refine zq_iload_n (pc' := 5) C dX6_canStand_4 rfl rfl rfl ?_
  replace hF := zq_bd hF; obtain ⟨v_3, e_4, hF⟩ := hF
  refine zq_iaload (pc' := 6) C dX6_canStand_5 rfl e_4 ?_
  refine zq_bipush (pc' := 8) C 48 dX6_canStand_6 rfl (by decide) ?_
  refine zq_isub (pc' := 9) C dX6_canStand_8 rfl ?_
  replace hF := zq_let_e hF; obtain ⟨v_5, e_6, hF⟩ := hF
  refine zq_istore_n (lv' := [(2, .int v_5), (0, .ref t), (1, .int x1)]) (pc' := 10) C dX6_canStand_9 rfl rfl (by decide) e_6 rfl ?_
  refine zq_iload_n (pc' := 11) C dX6_canStand_10 rfl rfl rfl ?_
  refine zq_iconst (pc' := 12) C 3 dX6_canStand_11 rfl (by decide) ?_
  refine zq_aload_n (pc' := 13) C dX6_canStand_12 rfl rfl rfl ?_
  replace hF := zq_bd hF; obtain ⟨v_7, e_8, hF⟩ := hF
  refine zq_getR (j := 0) (pc' := 16) C zq_K6 zq_in6w (Or.inl wd_448) (by decide) rfl dX6_canStand_13 rfl e_8 ?_
  refine zq_iconst (pc' := 17) C 0 dX6_canStand_16 rfl (by decide) ?_
  replace hF := zq_bd hF; obtain ⟨v_9, e_10, hF⟩ := hF
  refine zq_iaload (pc' := 18) C dX6_canStand_17 rfl e_10 ?_
  refine zq_iconst (pc' := 19) C 3 dX6_canStand_18 rfl (by decide) ?_
  refine zq_isub (pc' := 20) C dX6_canStand_19 rfl ?_
  refine zq_imul (pc' := 21) C dX6_canStand_20 rfl ?_
  refine zq_iconst (pc' := 22) C 1 dX6_canStand_21 rfl (by decide) ?_
  refine zq_isub (pc' := 23) C dX6_canStand_22 rfl ?_
  refine zq_icmp_lt (pc' := 26) C 28 dX6_canStand_23 (by decide) rfl (fun c_11 => ?_) (fun c_11 => ?_)
  · have hF := (zq_ifp hF c_11)
    skip
    refine zq_iload_n (pc' := 29) C dX6_canStand_28 rfl rfl rfl ?_
    refine zq_iconst (pc' := 30) C 3 dX6_canStand_29 rfl (by decide) ?_
    refine zq_irem (pc' := 31) C dX6_canStand_30 rfl (by decide) ?_
    refine zq_if_ne (pc' := 34) C 48 dX6_canStand_31 (by decide) rfl (fun c_12 => ?_) (fun c_12 => ?_)
    · have hF := (zq_ifn hF c_12)
      skip
      refine zq_iload_n (pc' := 49) C dX6_canStand_48 rfl rfl rfl ?_
      refine zq_iconst (pc' := 50) C 3 dX6_canStand_49 rfl (by decide) ?_
      refine zq_irem (pc' := 51) C dX6_canStand_50 rfl (by decide) ?_
      refine zq_iconst (pc' := 52) C 1 dX6_canStand_51 rfl (by decide) ?_
      refine zq_icmp_ne (pc' := 55) C 74 dX6_canStand_52 (by decide) rfl (fun c_13 => ?_) (fun c_13 => ?_)
      · have hF := (zq_ifn hF c_13)
        skip
        refine zq_aload_n (pc' := 75) C dX6_canStand_74 rfl rfl rfl ?_
        replace hF := zq_bd hF; obtain ⟨v_14, e_15, hF⟩ := hF
        refine zq_getR (j := 6) (pc' := 78) C zq_K6 zq_in6w (Or.inl wd_536) (by decide) rfl dX6_canStand_75 rfl e_15 ?_
        refine zq_iload_n (pc' := 79) C dX6_canStand_78 rfl rfl rfl ?_
        replace hF := zq_bd hF; obtain ⟨v_16, e_17, hF⟩ := hF
        refine zq_iaload (pc' := 80) C dX6_canStand_79 rfl e_17 ?_
        refine zq_bipush (pc' := 82) C 44 dX6_canStand_80 rfl (by decide) ?_
        refine zq_icmp_ne (pc' := 85) C 89 dX6_canStand_82 (by decide) rfl (fun c_18 => ?_) (fun c_18 => ?_)
        · have hF := (zq_ifn hF c_18)
          skip
          refine zq_iconst (pc' := 90) C 0 dX6_canStand_89 rfl (by decide) ?_
          have hF := Option.some.inj hF
          subst hF
          exact hE _ _ _ _ (Nat.le_of_ble_eq_true rfl) (Nat.le_of_ble_eq_true rfl) dX6_canStand_90
        · have hF := (zq_ifp hF c_18)
          refine zq_iconst (pc' := 86) C 1 dX6_canStand_85 rfl (by decide) ?_
          refine zq_goto C 90 dX6_canStand_86 (by decide) ?_
          have hF := Option.some.inj hF
          subst hF
          exact hE _ _ _ _ (Nat.le_of_ble_eq_true rfl) (Nat.le_of_ble_eq_true rfl) dX6_canStand_90
      · have hF := (zq_ifp hF c_13)
        refine zq_aload_n (pc' := 56) C dX6_canStand_55 rfl rfl rfl ?_
        refine zq_aload_n (pc' := 57) C dX6_canStand_56 rfl rfl rfl ?_
        replace hF := zq_bd hF; obtain ⟨v_19, e_20, hF⟩ := hF
        refine zq_getR (j := 6) (pc' := 60) C zq_K6 zq_in6w (Or.inl wd_536) (by decide) rfl dX6_canStand_57 rfl e_20 ?_
        refine zq_iload_n (pc' := 61) C dX6_canStand_60 rfl rfl rfl ?_
        refine zq_iconst (pc' := 62) C 1 dX6_canStand_61 rfl (by decide) ?_
        refine zq_isub (pc' := 63) C dX6_canStand_62 rfl ?_
        replace hF := zq_bd hF; obtain ⟨v_21, e_22, hF⟩ := hF
        refine zq_iaload (pc' := 64) C dX6_canStand_63 rfl e_22 ?_
        refine zq_bipush (pc' := 66) C 48 dX6_canStand_64 rfl (by decide) ?_
        refine zq_isub (pc' := 67) C dX6_canStand_66 rfl ?_
        refine zq_iload_n (pc' := 68) C dX6_canStand_67 rfl rfl rfl ?_
        replace hF := zq_ck_e hF; obtain ⟨e_25, hF⟩ := hF
        replace hF := zq_bd hF; obtain ⟨v_23, e_24, hF⟩ := hF
        refine zq_cV (pc' := 71) C (c_X6_isDiagonal e_24) yv_X6_isDiagonal wd_567 zq_K6 e_25 dX6_canStand_68 rfl rfl rfl ⟨Nat.le_of_ble_eq_true rfl, Nat.le_of_ble_eq_true rfl⟩ (Nat.le_of_ble_eq_true rfl) ⟨rfl, rfl⟩ ⟨Nat.le_of_ble_eq_true rfl, Nat.le_of_ble_eq_true rfl⟩ rfl ?_
        refine zq_goto C 90 dX6_canStand_71 (by decide) ?_
        have hF := Option.some.inj hF
        subst hF
        exact hE _ _ _ _ (Nat.le_of_ble_eq_true rfl) (Nat.le_of_ble_eq_true rfl) dX6_canStand_90
    · have hF := (zq_ifp hF c_12)
      refine zq_iload_n (pc' := 35) C dX6_canStand_34 rfl rfl rfl ?_
      refine zq_iconst (pc' := 36) C 0 dX6_canStand_35 rfl (by decide) ?_
      refine zq_aload_n (pc' := 37) C dX6_canStand_36 rfl rfl rfl ?_
      replace hF := zq_bd hF; obtain ⟨v_26, e_27, hF⟩ := hF
      refine zq_getR (j := 0) (pc' := 40) C zq_K6 zq_in6w (Or.inl wd_448) (by decide) rfl dX6_canStand_37 rfl e_27 ?_
      refine zq_iconst (pc' := 41) C 0 dX6_canStand_40 rfl (by decide) ?_
      replace hF := zq_bd hF; obtain ⟨v_28, e_29, hF⟩ := hF
      refine zq_iaload (pc' := 42) C dX6_canStand_41 rfl e_29 ?_
      refine zq_iconst (pc' := 43) C 3 dX6_canStand_42 rfl (by decide) ?_
      refine zq_isub (pc' := 44) C dX6_canStand_43 rfl ?_
      replace hF := zq_bd hF; obtain ⟨v_30, e_31, hF⟩ := hF
      refine zq_cS (pc' := 47) C (c_X6_within e_31) ys_X6_within wd_548 dX6_canStand_44 rfl rfl rfl ⟨Nat.le_of_ble_eq_true rfl, Nat.le_of_ble_eq_true rfl⟩ (Nat.le_of_ble_eq_true rfl) ⟨rfl, rfl⟩ ⟨Nat.le_of_ble_eq_true rfl, Nat.le_of_ble_eq_true rfl⟩ rfl ?_
      have hF := Option.some.inj hF
      subst hF
      exact hE _ _ _ _ (Nat.le_of_ble_eq_true rfl) (Nat.le_of_ble_eq_true rfl) dX6_canStand_47
  · have hF := (zq_ifn hF c_11)
    refine zq_iconst (pc' := 27) C 0 dX6_canStand_26 rfl (by decide) ?_
    have hF := Option.some.inj hF
    subst hF
    exact hE _ _ _ _ (Nat.le_of_ble_eq_true rfl) (Nat.le_of_ble_eq_true rfl) dX6_canStand_27
theorem c_X6_canStand {h : zq_H} {t : Nat} {x1 : Int32} {out : Bool} (hF : f_X6_canStand h t x1 = some out) : zq_M none yX6_canStand (Cond.code yX6_canStand cX6_canStand 3 (some .boolean) :: zq_all) rm_X6_canStand [.ref t, .int x1] h (some (.int (zq_b out))) h := zq_met2 (own := RX6) (by decide +kernel) rfl (Nat.le_of_ble_eq_true rfl) rfl ⟨.boolean, rfl, by cases out <;> rfl⟩ (fun X C T hn hE => v_X6_canStand C T hn hF hE)
theorem yv_X6_canStand : zq_calV yX6_canStand RX6 cX6_canStand 3 (some .boolean) 1 := ⟨by decide +kernel, wd_596, wd_599, wd_600, wd_458⟩
def f_X6_rightUpTo (h : zq_H) (t : Nat) : Option Int32 := ((zq_lp (σ := Int32) (ρ := Int32) (fun s_1 => (Option.bind (zq_gi h t 6 5) fun v_9 => (if v_9 ≤ s_1 then some (.inr s_1) else (zq_ck h t 6 fun _ => (Option.bind (f_X6_canStand h t s_1) fun v_12 => (if v_12 = false then some (.inr s_1) else (zq_let (s_1 + 1) fun v_16 => some (.inl v_16)))))))) zq_N 0).bind (fun y_4 : Int32 => some (y_4)))
abbrev rm_X6_rightUpTo : Room := { frames := 3, cells := 0, slots := 0, locals := 66 }
theorem dX6_rightUpTo_0 : decode cX6_rightUpTo 0 = .ok (.iconst 0, 1) := by decide +kernel
theorem dX6_rightUpTo_1 : decode cX6_rightUpTo 1 = .ok (.istore_n 1, 1) := by decide +kernel
theorem dX6_rightUpTo_2 : decode cX6_rightUpTo 2 = .ok (.iload_n 1, 1) := by decide +kernel
theorem dX6_rightUpTo_3 : decode cX6_rightUpTo 3 = .ok (.aload_n 0, 1) := by decide +kernel
theorem dX6_rightUpTo_4 : decode cX6_rightUpTo 4 = .ok (.getfield 166, 3) := by decide +kernel
theorem dX6_rightUpTo_7 : decode cX6_rightUpTo 7 = .ok (.if_icmp .ge 17, 3) := by decide +kernel
theorem dX6_rightUpTo_10 : decode cX6_rightUpTo 10 = .ok (.aload_n 0, 1) := by decide +kernel
theorem dX6_rightUpTo_11 : decode cX6_rightUpTo 11 = .ok (.iload_n 1, 1) := by decide +kernel
theorem dX6_rightUpTo_12 : decode cX6_rightUpTo 12 = .ok (.invokevirtual 169, 3) := by decide +kernel
theorem dX6_rightUpTo_15 : decode cX6_rightUpTo 15 = .ok (.ifCond .eq 9, 3) := by decide +kernel
theorem dX6_rightUpTo_18 : decode cX6_rightUpTo 18 = .ok (.iinc 1 1, 3) := by decide +kernel
theorem dX6_rightUpTo_21 : decode cX6_rightUpTo 21 = .ok (.goto (-19), 3) := by decide +kernel
theorem dX6_rightUpTo_24 : decode cX6_rightUpTo 24 = .ok (.iload_n 1, 1) := by decide +kernel
theorem dX6_rightUpTo_25 : decode cX6_rightUpTo 25 = .ok (.ireturn, 1) := by decide +kernel
set_option maxRecDepth 100000 in
set_option maxHeartbeats 4000000 in
theorem v_X6_rightUpTo {X : zq_X} (C : zq_C X RX6 cX6_rightUpTo 2 zq_all rm_X6_rightUpTo) {h : zq_H} {t : Nat} (T : zq_T X none) (hn : X.2.2.2.2.2.2.2.2.1.name = yX6_rightUpTo.name) {out : Int32} (hF : f_X6_rightUpTo h t = some out) (hE : zq_End X cX6_rightUpTo 0 0 (some (.int out)) h) : zq_W X 0 0 h 0 [(0, .ref t)] [] := by
  unfold f_X6_rightUpTo at hF
  refine zq_iconst (pc' := 1) C 0 dX6_rightUpTo_0 rfl (by decide) ?_
  refine zq_istore_n (lv' := [(1, .int 0), (0, .ref t)]) (pc' := 2) C dX6_rightUpTo_1 rfl rfl (by decide) rfl rfl ?_
  refine zq_sub [1, 0] rfl ?_
  replace hF := zq_bd hF; obtain ⟨r_2, e_3, hF⟩ := hF
  refine zq_lpW (fun s_1 => zq_W X 0 0 h 2 [(0, .ref t), (1, .int s_1)] []) (fun y_4 => zq_W X 0 0 h 24 [(1, .int y_4)] []) e_3 (fun s_1 q_8 hF hrec_6 hex_7 => ?_) ?_
  · skip
    refine zq_iload_n (pc' := 3) C dX6_rightUpTo_2 rfl rfl rfl ?_
    refine zq_aload_n (pc' := 4) C dX6_rightUpTo_3 rfl rfl rfl ?_
    replace hF := zq_bd hF; obtain ⟨v_9, e_10, hF⟩ := hF
    refine zq_getI (j := 5) (pc' := 7) C zq_K6 zq_in6w (Or.inl wd_594) (by decide) rfl dX6_rightUpTo_4 rfl e_10 ?_
    refine zq_icmp_ge (pc' := 10) C 24 dX6_rightUpTo_7 (by decide) rfl (fun c_11 => ?_) (fun c_11 => ?_)
    · have hF := (zq_ifp hF c_11)
      skip
      cases hF
      exact zq_sub [1] rfl (hex_7 _ rfl)
    · have hF := (zq_ifn hF c_11)
      refine zq_aload_n (pc' := 11) C dX6_rightUpTo_10 rfl rfl rfl ?_
      refine zq_iload_n (pc' := 12) C dX6_rightUpTo_11 rfl rfl rfl ?_
      replace hF := zq_ck_e hF; obtain ⟨e_14, hF⟩ := hF
      replace hF := zq_bd hF; obtain ⟨v_12, e_13, hF⟩ := hF
      refine zq_cV (pc' := 15) C (c_X6_canStand e_13) yv_X6_canStand wd_598 zq_K6 e_14 dX6_rightUpTo_12 rfl rfl rfl ⟨Nat.le_of_ble_eq_true rfl, Nat.le_of_ble_eq_true rfl⟩ (Nat.le_of_ble_eq_true rfl) ⟨rfl, rfl⟩ ⟨Nat.le_of_ble_eq_true rfl, Nat.le_of_ble_eq_true rfl⟩ rfl ?_
      refine zq_if_eq (pc' := 18) C 24 dX6_rightUpTo_15 (by decide) rfl (fun c_15 => ?_) (fun c_15 => ?_)
      · have hF := (zq_ifp hF (zq_b0.mp c_15))
        skip
        cases hF
        exact zq_sub [1] rfl (hex_7 _ rfl)
      · have hF := (zq_ifn hF (fun q => c_15 (zq_b0.mpr q)))
        replace hF := zq_let_e hF; obtain ⟨v_16, e_17, hF⟩ := hF
        refine zq_iinc (lv' := [(1, .int v_16), (0, .ref t)]) (pc' := 21) C dX6_rightUpTo_18 rfl (by decide) 1 rfl e_17 rfl ?_
        refine zq_goto C 2 dX6_rightUpTo_21 (by decide) ?_
        cases hF
        exact zq_sub [1, 0] rfl (hrec_6 _ rfl)
  · skip
    obtain ⟨y_4, rfl⟩ : ∃ z9, z9 = r_2 := ⟨_, rfl⟩
    show zq_W X 0 0 h 24 [(1, .int y_4)] []
    refine zq_iload_n (pc' := 25) C dX6_rightUpTo_24 rfl rfl rfl ?_
    have hF := Option.some.inj hF
    subst hF
    exact hE _ _ _ _ (Nat.le_of_ble_eq_true rfl) (Nat.le_of_ble_eq_true rfl) dX6_rightUpTo_25
theorem c_X6_rightUpTo {h : zq_H} {t : Nat} {out : Int32} (hF : f_X6_rightUpTo h t = some out) : zq_M none yX6_rightUpTo (Cond.code yX6_rightUpTo cX6_rightUpTo 2 (some .int) :: zq_all) rm_X6_rightUpTo [.ref t] h (some (.int out)) h := zq_met2 (own := RX6) (by decide +kernel) rfl (Nat.le_of_ble_eq_true rfl) rfl ⟨.int, rfl, rfl⟩ (fun X C T hn hE => v_X6_rightUpTo C T hn hF hE)
theorem yv_X6_rightUpTo : zq_calV yX6_rightUpTo RX6 cX6_rightUpTo 2 (some .int) 0 := ⟨by decide +kernel, wd_597, wd_602, wd_603, wd_458⟩
def f_X6_firstError (h : zq_H) (t : Nat) : Option (Int32 × zq_H) := (Option.bind (zq_pi h t 6 7 0) fun h_1 => (zq_ck h_1 t 6 fun _ => (Option.bind (f_X6_rightUpTo h_1 t) fun v_3 => some ((v_3, h_1)))))
abbrev rm_X6_firstError : Room := { frames := 4, cells := 0, slots := 0, locals := 87 }
theorem dX6_firstError_0 : decode cX6_firstError 0 = .ok (.aload_n 0, 1) := by decide +kernel
theorem dX6_firstError_1 : decode cX6_firstError 1 = .ok (.iconst 0, 1) := by decide +kernel
theorem dX6_firstError_2 : decode cX6_firstError 2 = .ok (.putfield 56, 3) := by decide +kernel
theorem dX6_firstError_5 : decode cX6_firstError 5 = .ok (.aload_n 0, 1) := by decide +kernel
theorem dX6_firstError_6 : decode cX6_firstError 6 = .ok (.invokevirtual 172, 3) := by decide +kernel
theorem dX6_firstError_9 : decode cX6_firstError 9 = .ok (.ireturn, 1) := by decide +kernel
set_option maxRecDepth 100000 in
set_option maxHeartbeats 4000000 in
theorem v_X6_firstError {X : zq_X} (C : zq_C X RX6 cX6_firstError 1 zq_all rm_X6_firstError) {h : zq_H} {t : Nat} (T : zq_T X none) (hn : X.2.2.2.2.2.2.2.2.1.name = yX6_firstError.name) {out : (Int32 × zq_H)} (hF : f_X6_firstError h t = some out) (hE : zq_End X cX6_firstError 0 0 (some (.int out.1)) out.2) : zq_W X 0 0 h 0 [(0, .ref t)] [] := by
  unfold f_X6_firstError at hF
  refine zq_aload_n (pc' := 1) C dX6_firstError_0 rfl rfl rfl ?_
  refine zq_iconst (pc' := 2) C 0 dX6_firstError_1 rfl (by decide) ?_
  replace hF := zq_bd hF; obtain ⟨h_1, e_2, hF⟩ := hF
  refine zq_putI (j := 7) (pc' := 5) C zq_K6 zq_in6w (Or.inl wd_542) (by decide) rfl rfl dX6_firstError_2 rfl (Or.inl rfl) e_2 ?_
  refine zq_aload_n (pc' := 6) C dX6_firstError_5 rfl rfl rfl ?_
  replace hF := zq_ck_e hF; obtain ⟨e_5, hF⟩ := hF
  replace hF := zq_bd hF; obtain ⟨v_3, e_4, hF⟩ := hF
  refine zq_cV (pc' := 9) C (c_X6_rightUpTo e_4) yv_X6_rightUpTo wd_601 zq_K6 e_5 dX6_firstError_6 rfl rfl rfl ⟨Nat.le_of_ble_eq_true rfl, Nat.le_of_ble_eq_true rfl⟩ (Nat.le_of_ble_eq_true rfl) ⟨rfl, rfl⟩ ⟨Nat.le_of_ble_eq_true rfl, Nat.le_of_ble_eq_true rfl⟩ rfl ?_
  have hF := Option.some.inj hF
  subst hF
  exact hE _ _ _ _ (Nat.le_of_ble_eq_true rfl) (Nat.le_of_ble_eq_true rfl) dX6_firstError_9
theorem c_X6_firstError {h : zq_H} {t : Nat} {out : (Int32 × zq_H)} (hF : f_X6_firstError h t = some out) : zq_M none yX6_firstError (Cond.code yX6_firstError cX6_firstError 1 (some .int) :: zq_all) rm_X6_firstError [.ref t] h (some (.int out.1)) out.2 := zq_met2 (own := RX6) (by decide +kernel) rfl (Nat.le_of_ble_eq_true rfl) rfl ⟨.int, rfl, rfl⟩ (fun X C T hn hE => v_X6_firstError C T hn hF hE)
theorem yv_X6_firstError : zq_calV yX6_firstError RX6 cX6_firstError 1 (some .int) 0 := ⟨by decide +kernel, wd_604, wd_847, wd_848, wd_458⟩
def f_X6_toldAt (h : zq_H) (t : Nat) (x1 : Int32) : Option Int32 := (Option.bind (zq_gr h t 6 6) fun v_1 => (Option.bind (zq_ai h v_1 (3 * x1)) fun v_3 => (Option.bind (zq_gr h t 6 6) fun v_5 => (Option.bind (zq_ai h v_5 ((3 * x1) + 1)) fun v_7 => (zq_ck h t 6 fun _ => (Option.bind (f_X6_numberOf h t (v_3 - 48) (v_7 - 48)) fun v_9 => some (v_9)))))))
abbrev rm_X6_toldAt : Room := { frames := 1, cells := 0, slots := 0, locals := 22 }
theorem dX6_toldAt_0 : decode cX6_toldAt 0 = .ok (.aload_n 0, 1) := by decide +kernel
theorem dX6_toldAt_1 : decode cX6_toldAt 1 = .ok (.aload_n 0, 1) := by decide +kernel
theorem dX6_toldAt_2 : decode cX6_toldAt 2 = .ok (.getfield 22, 3) := by decide +kernel
theorem dX6_toldAt_5 : decode cX6_toldAt 5 = .ok (.iconst 3, 1) := by decide +kernel
theorem dX6_toldAt_6 : decode cX6_toldAt 6 = .ok (.iload_n 1, 1) := by decide +kernel
theorem dX6_toldAt_7 : decode cX6_toldAt 7 = .ok (.imul, 1) := by decide +kernel
theorem dX6_toldAt_8 : decode cX6_toldAt 8 = .ok (.iaload, 1) := by decide +kernel
theorem dX6_toldAt_9 : decode cX6_toldAt 9 = .ok (.bipush 48, 2) := by decide +kernel
theorem dX6_toldAt_11 : decode cX6_toldAt 11 = .ok (.isub, 1) := by decide +kernel
theorem dX6_toldAt_12 : decode cX6_toldAt 12 = .ok (.aload_n 0, 1) := by decide +kernel
theorem dX6_toldAt_13 : decode cX6_toldAt 13 = .ok (.getfield 22, 3) := by decide +kernel
theorem dX6_toldAt_16 : decode cX6_toldAt 16 = .ok (.iconst 3, 1) := by decide +kernel
theorem dX6_toldAt_17 : decode cX6_toldAt 17 = .ok (.iload_n 1, 1) := by decide +kernel
theorem dX6_toldAt_18 : decode cX6_toldAt 18 = .ok (.imul, 1) := by decide +kernel
theorem dX6_toldAt_19 : decode cX6_toldAt 19 = .ok (.iconst 1, 1) := by decide +kernel
theorem dX6_toldAt_20 : decode cX6_toldAt 20 = .ok (.iadd, 1) := by decide +kernel
theorem dX6_toldAt_21 : decode cX6_toldAt 21 = .ok (.iaload, 1) := by decide +kernel
theorem dX6_toldAt_22 : decode cX6_toldAt 22 = .ok (.bipush 48, 2) := by decide +kernel
theorem dX6_toldAt_24 : decode cX6_toldAt 24 = .ok (.isub, 1) := by decide +kernel
theorem dX6_toldAt_25 : decode cX6_toldAt 25 = .ok (.invokevirtual 70, 3) := by decide +kernel
theorem dX6_toldAt_28 : decode cX6_toldAt 28 = .ok (.ireturn, 1) := by decide +kernel
set_option maxRecDepth 100000 in
set_option maxHeartbeats 4000000 in
theorem v_X6_toldAt {X : zq_X} (C : zq_C X RX6 cX6_toldAt 2 zq_all rm_X6_toldAt) {h : zq_H} {t : Nat} {x1 : Int32} (T : zq_T X none) (hn : X.2.2.2.2.2.2.2.2.1.name = yX6_toldAt.name) {out : Int32} (hF : f_X6_toldAt h t x1 = some out) (hE : zq_End X cX6_toldAt 0 0 (some (.int out)) h) : zq_W X 0 0 h 0 [(0, .ref t), (1, .int x1)] [] := by
  unfold f_X6_toldAt at hF
  refine zq_aload_n (pc' := 1) C dX6_toldAt_0 rfl rfl rfl ?_
  refine zq_aload_n (pc' := 2) C dX6_toldAt_1 rfl rfl rfl ?_
  replace hF := zq_bd hF; obtain ⟨v_1, e_2, hF⟩ := hF
  refine zq_getR (j := 6) (pc' := 5) C zq_K6 zq_in6w (Or.inl wd_536) (by decide) rfl dX6_toldAt_2 rfl e_2 ?_
  refine zq_iconst (pc' := 6) C 3 dX6_toldAt_5 rfl (by decide) ?_
  refine zq_iload_n (pc' := 7) C dX6_toldAt_6 rfl rfl rfl ?_
  refine zq_imul (pc' := 8) C dX6_toldAt_7 rfl ?_
  replace hF := zq_bd hF; obtain ⟨v_3, e_4, hF⟩ := hF
  refine zq_iaload (pc' := 9) C dX6_toldAt_8 rfl e_4 ?_
  refine zq_bipush (pc' := 11) C 48 dX6_toldAt_9 rfl (by decide) ?_
  refine zq_isub (pc' := 12) C dX6_toldAt_11 rfl ?_
  refine zq_aload_n (pc' := 13) C dX6_toldAt_12 rfl rfl rfl ?_
  replace hF := zq_bd hF; obtain ⟨v_5, e_6, hF⟩ := hF
  refine zq_getR (j := 6) (pc' := 16) C zq_K6 zq_in6w (Or.inl wd_536) (by decide) rfl dX6_toldAt_13 rfl e_6 ?_
  refine zq_iconst (pc' := 17) C 3 dX6_toldAt_16 rfl (by decide) ?_
  refine zq_iload_n (pc' := 18) C dX6_toldAt_17 rfl rfl rfl ?_
  refine zq_imul (pc' := 19) C dX6_toldAt_18 rfl ?_
  refine zq_iconst (pc' := 20) C 1 dX6_toldAt_19 rfl (by decide) ?_
  refine zq_iadd (pc' := 21) C dX6_toldAt_20 rfl ?_
  replace hF := zq_bd hF; obtain ⟨v_7, e_8, hF⟩ := hF
  refine zq_iaload (pc' := 22) C dX6_toldAt_21 rfl e_8 ?_
  refine zq_bipush (pc' := 24) C 48 dX6_toldAt_22 rfl (by decide) ?_
  refine zq_isub (pc' := 25) C dX6_toldAt_24 rfl ?_
  replace hF := zq_ck_e hF; obtain ⟨e_11, hF⟩ := hF
  replace hF := zq_bd hF; obtain ⟨v_9, e_10, hF⟩ := hF
  refine zq_cV (pc' := 28) C (c_X6_numberOf e_10) yv_X6_numberOf wd_455 zq_K6 e_11 dX6_toldAt_25 rfl rfl rfl ⟨Nat.le_of_ble_eq_true rfl, Nat.le_of_ble_eq_true rfl⟩ (Nat.le_of_ble_eq_true rfl) ⟨rfl, rfl⟩ ⟨Nat.le_of_ble_eq_true rfl, Nat.le_of_ble_eq_true rfl⟩ rfl ?_
  have hF := Option.some.inj hF
  subst hF
  exact hE _ _ _ _ (Nat.le_of_ble_eq_true rfl) (Nat.le_of_ble_eq_true rfl) dX6_toldAt_28
theorem c_X6_toldAt {h : zq_H} {t : Nat} {x1 : Int32} {out : Int32} (hF : f_X6_toldAt h t x1 = some out) : zq_M none yX6_toldAt (Cond.code yX6_toldAt cX6_toldAt 2 (some .int) :: zq_all) rm_X6_toldAt [.ref t, .int x1] h (some (.int out)) h := zq_met2 (own := RX6) (by decide +kernel) rfl (Nat.le_of_ble_eq_true rfl) rfl ⟨.int, rfl, rfl⟩ (fun X C T hn hE => v_X6_toldAt C T hn hF hE)
theorem yv_X6_toldAt : zq_calV yX6_toldAt RX6 cX6_toldAt 2 (some .int) 1 := ⟨by decide +kernel, wd_605, wd_608, wd_609, wd_458⟩
def f_X6_isTriangulation (h : zq_H) (t : Nat) : Option Bool := ((zq_lp (σ := Int32 × Int32) (ρ := Int32) (fun s_1 => (Option.bind (zq_gr h t 6 0) fun v_9 => (Option.bind (zq_ai h v_9 0) fun v_11 => (if (v_11 - 3) ≤ s_1.2 then some (.inr s_1.1) else ((zq_lp (σ := Int32 × Int32) (ρ := Int32) (fun s_14 => (if s_1.2 ≤ s_14.2 then some (.inr s_14.1) else (if s_14.1 = 0 then (zq_let (s_14.2 + 1) fun v_24 => some (.inl (0, v_24))) else (zq_ck h t 6 fun _ => (Option.bind (f_X6_toldAt h t s_1.2) fun v_26 => (zq_ck h t 6 fun _ => (Option.bind (f_X6_toldAt h t s_14.2) fun v_29 => (if v_26 = v_29 then (zq_let (s_14.2 + 1) fun v_33 => some (.inl (0, v_33))) else (zq_ck h t 6 fun _ => (Option.bind (f_X6_toldAt h t s_1.2) fun v_35 => (zq_ck h t 6 fun _ => (Option.bind (f_X6_toldAt h t s_14.2) fun v_38 => (zq_ck h t 6 fun _ => (Option.bind (f_X6_cross h t v_35 v_38) fun v_41 => (if v_41 = false then (zq_let (s_14.2 + 1) fun v_47 => some (.inl (1, v_47))) else (zq_let (s_14.2 + 1) fun v_45 => some (.inl (0, v_45)))))))))))))))))) zq_N (s_1.1, 0)).bind (fun y_17 : Int32 => (zq_let (s_1.2 + 1) fun v_49 => some (.inl (y_17, v_49))))))))) zq_N (1, 0)).bind (fun y_4 : Int32 => (zq_z y_4 fun b_52 => some (b_52))))
abbrev rm_X6_isTriangulation : Room := { frames := 2, cells := 0, slots := 0, locals := 43 }
theorem dX6_isTriangulation_0 : decode cX6_isTriangulation 0 = .ok (.iconst 1, 1) := by decide +kernel
theorem dX6_isTriangulation_1 : decode cX6_isTriangulation 1 = .ok (.istore_n 1, 1) := by decide +kernel
theorem dX6_isTriangulation_2 : decode cX6_isTriangulation 2 = .ok (.iconst 0, 1) := by decide +kernel
theorem dX6_isTriangulation_3 : decode cX6_isTriangulation 3 = .ok (.istore_n 2, 1) := by decide +kernel
theorem dX6_isTriangulation_4 : decode cX6_isTriangulation 4 = .ok (.iload_n 2, 1) := by decide +kernel
theorem dX6_isTriangulation_5 : decode cX6_isTriangulation 5 = .ok (.aload_n 0, 1) := by decide +kernel
theorem dX6_isTriangulation_6 : decode cX6_isTriangulation 6 = .ok (.getfield 7, 3) := by decide +kernel
theorem dX6_isTriangulation_9 : decode cX6_isTriangulation 9 = .ok (.iconst 0, 1) := by decide +kernel
theorem dX6_isTriangulation_10 : decode cX6_isTriangulation 10 = .ok (.iaload, 1) := by decide +kernel
theorem dX6_isTriangulation_11 : decode cX6_isTriangulation 11 = .ok (.iconst 3, 1) := by decide +kernel
theorem dX6_isTriangulation_12 : decode cX6_isTriangulation 12 = .ok (.isub, 1) := by decide +kernel
theorem dX6_isTriangulation_13 : decode cX6_isTriangulation 13 = .ok (.if_icmp .ge 62, 3) := by decide +kernel
theorem dX6_isTriangulation_16 : decode cX6_isTriangulation 16 = .ok (.iconst 0, 1) := by decide +kernel
theorem dX6_isTriangulation_17 : decode cX6_isTriangulation 17 = .ok (.istore_n 3, 1) := by decide +kernel
theorem dX6_isTriangulation_18 : decode cX6_isTriangulation 18 = .ok (.iload_n 3, 1) := by decide +kernel
theorem dX6_isTriangulation_19 : decode cX6_isTriangulation 19 = .ok (.iload_n 2, 1) := by decide +kernel
theorem dX6_isTriangulation_20 : decode cX6_isTriangulation 20 = .ok (.if_icmp .ge 49, 3) := by decide +kernel
theorem dX6_isTriangulation_23 : decode cX6_isTriangulation 23 = .ok (.iload_n 1, 1) := by decide +kernel
theorem dX6_isTriangulation_24 : decode cX6_isTriangulation 24 = .ok (.ifCond .eq 37, 3) := by decide +kernel
theorem dX6_isTriangulation_27 : decode cX6_isTriangulation 27 = .ok (.aload_n 0, 1) := by decide +kernel
theorem dX6_isTriangulation_28 : decode cX6_isTriangulation 28 = .ok (.iload_n 2, 1) := by decide +kernel
theorem dX6_isTriangulation_29 : decode cX6_isTriangulation 29 = .ok (.invokevirtual 175, 3) := by decide +kernel
theorem dX6_isTriangulation_32 : decode cX6_isTriangulation 32 = .ok (.aload_n 0, 1) := by decide +kernel
theorem dX6_isTriangulation_33 : decode cX6_isTriangulation 33 = .ok (.iload_n 3, 1) := by decide +kernel
theorem dX6_isTriangulation_34 : decode cX6_isTriangulation 34 = .ok (.invokevirtual 175, 3) := by decide +kernel
theorem dX6_isTriangulation_37 : decode cX6_isTriangulation 37 = .ok (.if_icmp .eq 24, 3) := by decide +kernel
theorem dX6_isTriangulation_40 : decode cX6_isTriangulation 40 = .ok (.aload_n 0, 1) := by decide +kernel
theorem dX6_isTriangulation_41 : decode cX6_isTriangulation 41 = .ok (.aload_n 0, 1) := by decide +kernel
theorem dX6_isTriangulation_42 : decode cX6_isTriangulation 42 = .ok (.iload_n 2, 1) := by decide +kernel
theorem dX6_isTriangulation_43 : decode cX6_isTriangulation 43 = .ok (.invokevirtual 175, 3) := by decide +kernel
theorem dX6_isTriangulation_46 : decode cX6_isTriangulation 46 = .ok (.aload_n 0, 1) := by decide +kernel
theorem dX6_isTriangulation_47 : decode cX6_isTriangulation 47 = .ok (.iload_n 3, 1) := by decide +kernel
theorem dX6_isTriangulation_48 : decode cX6_isTriangulation 48 = .ok (.invokevirtual 175, 3) := by decide +kernel
theorem dX6_isTriangulation_51 : decode cX6_isTriangulation 51 = .ok (.invokevirtual 178, 3) := by decide +kernel
theorem dX6_isTriangulation_54 : decode cX6_isTriangulation 54 = .ok (.ifCond .ne 7, 3) := by decide +kernel
theorem dX6_isTriangulation_57 : decode cX6_isTriangulation 57 = .ok (.iconst 1, 1) := by decide +kernel
theorem dX6_isTriangulation_58 : decode cX6_isTriangulation 58 = .ok (.goto 4, 3) := by decide +kernel
theorem dX6_isTriangulation_61 : decode cX6_isTriangulation 61 = .ok (.iconst 0, 1) := by decide +kernel
theorem dX6_isTriangulation_62 : decode cX6_isTriangulation 62 = .ok (.istore_n 1, 1) := by decide +kernel
theorem dX6_isTriangulation_63 : decode cX6_isTriangulation 63 = .ok (.iinc 3 1, 3) := by decide +kernel
theorem dX6_isTriangulation_66 : decode cX6_isTriangulation 66 = .ok (.goto (-48), 3) := by decide +kernel
theorem dX6_isTriangulation_69 : decode cX6_isTriangulation 69 = .ok (.iinc 2 1, 3) := by decide +kernel
theorem dX6_isTriangulation_72 : decode cX6_isTriangulation 72 = .ok (.goto (-68), 3) := by decide +kernel
theorem dX6_isTriangulation_75 : decode cX6_isTriangulation 75 = .ok (.iload_n 1, 1) := by decide +kernel
theorem dX6_isTriangulation_76 : decode cX6_isTriangulation 76 = .ok (.ireturn, 1) := by decide +kernel
set_option maxRecDepth 100000 in
set_option maxHeartbeats 4000000 in
theorem v_X6_isTriangulation {X : zq_X} (C : zq_C X RX6 cX6_isTriangulation 4 zq_all rm_X6_isTriangulation) {h : zq_H} {t : Nat} (T : zq_T X none) (hn : X.2.2.2.2.2.2.2.2.1.name = yX6_isTriangulation.name) {out : Bool} (hF : f_X6_isTriangulation h t = some out) (hE : zq_End X cX6_isTriangulation 0 0 (some (.int (zq_b out))) h) : zq_W X 0 0 h 0 [(0, .ref t)] [] := by
  unfold f_X6_isTriangulation at hF
  refine zq_iconst (pc' := 1) C 1 dX6_isTriangulation_0 rfl (by decide) ?_
  refine zq_istore_n (lv' := [(1, .int 1), (0, .ref t)]) (pc' := 2) C dX6_isTriangulation_1 rfl rfl (by decide) rfl rfl ?_
  refine zq_iconst (pc' := 3) C 0 dX6_isTriangulation_2 rfl (by decide) ?_
  refine zq_istore_n (lv' := [(2, .int 0), (1, .int 1), (0, .ref t)]) (pc' := 4) C dX6_isTriangulation_3 rfl rfl (by decide) rfl rfl ?_
  refine zq_sub [2, 1, 0] rfl ?_
  replace hF := zq_bd hF; obtain ⟨r_2, e_3, hF⟩ := hF
  refine zq_lpW (fun s_1 => zq_W X 0 0 h 4 [(0, .ref t), (1, .int s_1.1), (2, .int s_1.2)] []) (fun y_4 => zq_W X 0 0 h 75 [(1, .int y_4)] []) e_3 (fun s_1 q_8 hF hrec_6 hex_7 => ?_) ?_
  · skip
    refine zq_iload_n (pc' := 5) C dX6_isTriangulation_4 rfl rfl rfl ?_
    refine zq_aload_n (pc' := 6) C dX6_isTriangulation_5 rfl rfl rfl ?_
    replace hF := zq_bd hF; obtain ⟨v_9, e_10, hF⟩ := hF
    refine zq_getR (j := 0) (pc' := 9) C zq_K6 zq_in6w (Or.inl wd_448) (by decide) rfl dX6_isTriangulation_6 rfl e_10 ?_
    refine zq_iconst (pc' := 10) C 0 dX6_isTriangulation_9 rfl (by decide) ?_
    replace hF := zq_bd hF; obtain ⟨v_11, e_12, hF⟩ := hF
    refine zq_iaload (pc' := 11) C dX6_isTriangulation_10 rfl e_12 ?_
    refine zq_iconst (pc' := 12) C 3 dX6_isTriangulation_11 rfl (by decide) ?_
    refine zq_isub (pc' := 13) C dX6_isTriangulation_12 rfl ?_
    refine zq_icmp_ge (pc' := 16) C 75 dX6_isTriangulation_13 (by decide) rfl (fun c_13 => ?_) (fun c_13 => ?_)
    · have hF := (zq_ifp hF c_13)
      skip
      cases hF
      exact zq_sub [1] rfl (hex_7 _ rfl)
    · have hF := (zq_ifn hF c_13)
      refine zq_iconst (pc' := 17) C 0 dX6_isTriangulation_16 rfl (by decide) ?_
      refine zq_istore_n (lv' := [(3, .int 0), (0, .ref t), (1, .int s_1.1), (2, .int s_1.2)]) (pc' := 18) C dX6_isTriangulation_17 rfl rfl (by decide) rfl rfl ?_
      refine zq_sub [1, 2, 3, 0] rfl ?_
      replace hF := zq_bd hF; obtain ⟨r_15, e_16, hF⟩ := hF
      refine zq_lpW (fun s_14 => zq_W X 0 0 h 18 [(0, .ref t), (1, .int s_14.1), (2, .int s_1.2), (3, .int s_14.2)] []) (fun y_17 => zq_W X 0 0 h 69 [(0, .ref t), (1, .int y_17), (2, .int s_1.2)] []) e_16 (fun s_14 q_21 hF hrec_19 hex_20 => ?_) ?_
      · skip
        refine zq_iload_n (pc' := 19) C dX6_isTriangulation_18 rfl rfl rfl ?_
        refine zq_iload_n (pc' := 20) C dX6_isTriangulation_19 rfl rfl rfl ?_
        refine zq_icmp_ge (pc' := 23) C 69 dX6_isTriangulation_20 (by decide) rfl (fun c_22 => ?_) (fun c_22 => ?_)
        · have hF := (zq_ifp hF c_22)
          skip
          cases hF
          exact zq_sub [0, 1, 2] rfl (hex_20 _ rfl)
        · have hF := (zq_ifn hF c_22)
          refine zq_iload_n (pc' := 24) C dX6_isTriangulation_23 rfl rfl rfl ?_
          refine zq_if_eq (pc' := 27) C 61 dX6_isTriangulation_24 (by decide) rfl (fun c_23 => ?_) (fun c_23 => ?_)
          · have hF := (zq_ifp hF c_23)
            skip
            refine zq_iconst (pc' := 62) C 0 dX6_isTriangulation_61 rfl (by decide) ?_
            refine zq_istore_n (lv' := [(1, .int 0), (0, .ref t), (2, .int s_1.2), (3, .int s_14.2)]) (pc' := 63) C dX6_isTriangulation_62 rfl rfl (by decide) rfl rfl ?_
            replace hF := zq_let_e hF; obtain ⟨v_24, e_25, hF⟩ := hF
            refine zq_iinc (lv' := [(3, .int v_24), (1, .int 0), (0, .ref t), (2, .int s_1.2)]) (pc' := 66) C dX6_isTriangulation_63 rfl (by decide) 3 rfl e_25 rfl ?_
            refine zq_goto C 18 dX6_isTriangulation_66 (by decide) ?_
            cases hF
            exact zq_sub [2, 1, 3, 0] rfl (hrec_19 _ rfl)
          · have hF := (zq_ifn hF c_23)
            refine zq_aload_n (pc' := 28) C dX6_isTriangulation_27 rfl rfl rfl ?_
            refine zq_iload_n (pc' := 29) C dX6_isTriangulation_28 rfl rfl rfl ?_
            replace hF := zq_ck_e hF; obtain ⟨e_28, hF⟩ := hF
            replace hF := zq_bd hF; obtain ⟨v_26, e_27, hF⟩ := hF
            refine zq_cV (pc' := 32) C (c_X6_toldAt e_27) yv_X6_toldAt wd_607 zq_K6 e_28 dX6_isTriangulation_29 rfl rfl rfl ⟨Nat.le_of_ble_eq_true rfl, Nat.le_of_ble_eq_true rfl⟩ (Nat.le_of_ble_eq_true rfl) ⟨rfl, rfl⟩ ⟨Nat.le_of_ble_eq_true rfl, Nat.le_of_ble_eq_true rfl⟩ rfl ?_
            refine zq_aload_n (pc' := 33) C dX6_isTriangulation_32 rfl rfl rfl ?_
            refine zq_iload_n (pc' := 34) C dX6_isTriangulation_33 rfl rfl rfl ?_
            replace hF := zq_ck_e hF; obtain ⟨e_31, hF⟩ := hF
            replace hF := zq_bd hF; obtain ⟨v_29, e_30, hF⟩ := hF
            refine zq_cV (pc' := 37) C (c_X6_toldAt e_30) yv_X6_toldAt wd_607 zq_K6 e_31 dX6_isTriangulation_34 rfl rfl rfl ⟨Nat.le_of_ble_eq_true rfl, Nat.le_of_ble_eq_true rfl⟩ (Nat.le_of_ble_eq_true rfl) ⟨rfl, rfl⟩ ⟨Nat.le_of_ble_eq_true rfl, Nat.le_of_ble_eq_true rfl⟩ rfl ?_
            refine zq_icmp_eq (pc' := 40) C 61 dX6_isTriangulation_37 (by decide) rfl (fun c_32 => ?_) (fun c_32 => ?_)
            · have hF := (zq_ifp hF c_32)
              skip
              refine zq_iconst (pc' := 62) C 0 dX6_isTriangulation_61 rfl (by decide) ?_
              refine zq_istore_n (lv' := [(1, .int 0), (0, .ref t), (2, .int s_1.2), (3, .int s_14.2)]) (pc' := 63) C dX6_isTriangulation_62 rfl rfl (by decide) rfl rfl ?_
              replace hF := zq_let_e hF; obtain ⟨v_33, e_34, hF⟩ := hF
              refine zq_iinc (lv' := [(3, .int v_33), (1, .int 0), (0, .ref t), (2, .int s_1.2)]) (pc' := 66) C dX6_isTriangulation_63 rfl (by decide) 3 rfl e_34 rfl ?_
              refine zq_goto C 18 dX6_isTriangulation_66 (by decide) ?_
              cases hF
              exact zq_sub [2, 1, 3, 0] rfl (hrec_19 _ rfl)
            · have hF := (zq_ifn hF c_32)
              refine zq_aload_n (pc' := 41) C dX6_isTriangulation_40 rfl rfl rfl ?_
              refine zq_aload_n (pc' := 42) C dX6_isTriangulation_41 rfl rfl rfl ?_
              refine zq_iload_n (pc' := 43) C dX6_isTriangulation_42 rfl rfl rfl ?_
              replace hF := zq_ck_e hF; obtain ⟨e_37, hF⟩ := hF
              replace hF := zq_bd hF; obtain ⟨v_35, e_36, hF⟩ := hF
              refine zq_cV (pc' := 46) C (c_X6_toldAt e_36) yv_X6_toldAt wd_607 zq_K6 e_37 dX6_isTriangulation_43 rfl rfl rfl ⟨Nat.le_of_ble_eq_true rfl, Nat.le_of_ble_eq_true rfl⟩ (Nat.le_of_ble_eq_true rfl) ⟨rfl, rfl⟩ ⟨Nat.le_of_ble_eq_true rfl, Nat.le_of_ble_eq_true rfl⟩ rfl ?_
              refine zq_aload_n (pc' := 47) C dX6_isTriangulation_46 rfl rfl rfl ?_
              refine zq_iload_n (pc' := 48) C dX6_isTriangulation_47 rfl rfl rfl ?_
              replace hF := zq_ck_e hF; obtain ⟨e_40, hF⟩ := hF
              replace hF := zq_bd hF; obtain ⟨v_38, e_39, hF⟩ := hF
              refine zq_cV (pc' := 51) C (c_X6_toldAt e_39) yv_X6_toldAt wd_607 zq_K6 e_40 dX6_isTriangulation_48 rfl rfl rfl ⟨Nat.le_of_ble_eq_true rfl, Nat.le_of_ble_eq_true rfl⟩ (Nat.le_of_ble_eq_true rfl) ⟨rfl, rfl⟩ ⟨Nat.le_of_ble_eq_true rfl, Nat.le_of_ble_eq_true rfl⟩ rfl ?_
              replace hF := zq_ck_e hF; obtain ⟨e_43, hF⟩ := hF
              replace hF := zq_bd hF; obtain ⟨v_41, e_42, hF⟩ := hF
              refine zq_cV (pc' := 54) C (c_X6_cross e_42) yv_X6_cross wd_610 zq_K6 e_43 dX6_isTriangulation_51 rfl rfl rfl ⟨Nat.le_of_ble_eq_true rfl, Nat.le_of_ble_eq_true rfl⟩ (Nat.le_of_ble_eq_true rfl) ⟨rfl, rfl⟩ ⟨Nat.le_of_ble_eq_true rfl, Nat.le_of_ble_eq_true rfl⟩ rfl ?_
              refine zq_if_ne (pc' := 57) C 61 dX6_isTriangulation_54 (by decide) rfl (fun c_44 => ?_) (fun c_44 => ?_)
              · have hF := (zq_ifn hF (fun q => c_44 (zq_b0.mpr q)))
                skip
                refine zq_iconst (pc' := 62) C 0 dX6_isTriangulation_61 rfl (by decide) ?_
                refine zq_istore_n (lv' := [(1, .int 0), (0, .ref t), (2, .int s_1.2), (3, .int s_14.2)]) (pc' := 63) C dX6_isTriangulation_62 rfl rfl (by decide) rfl rfl ?_
                replace hF := zq_let_e hF; obtain ⟨v_45, e_46, hF⟩ := hF
                refine zq_iinc (lv' := [(3, .int v_45), (1, .int 0), (0, .ref t), (2, .int s_1.2)]) (pc' := 66) C dX6_isTriangulation_63 rfl (by decide) 3 rfl e_46 rfl ?_
                refine zq_goto C 18 dX6_isTriangulation_66 (by decide) ?_
                cases hF
                exact zq_sub [2, 1, 3, 0] rfl (hrec_19 _ rfl)
              · have hF := (zq_ifp hF (zq_b0.mp c_44))
                refine zq_iconst (pc' := 58) C 1 dX6_isTriangulation_57 rfl (by decide) ?_
                refine zq_goto C 62 dX6_isTriangulation_58 (by decide) ?_
                refine zq_istore_n (lv' := [(1, .int 1), (0, .ref t), (2, .int s_1.2), (3, .int s_14.2)]) (pc' := 63) C dX6_isTriangulation_62 rfl rfl (by decide) rfl rfl ?_
                replace hF := zq_let_e hF; obtain ⟨v_47, e_48, hF⟩ := hF
                refine zq_iinc (lv' := [(3, .int v_47), (1, .int 1), (0, .ref t), (2, .int s_1.2)]) (pc' := 66) C dX6_isTriangulation_63 rfl (by decide) 3 rfl e_48 rfl ?_
                refine zq_goto C 18 dX6_isTriangulation_66 (by decide) ?_
                cases hF
                exact zq_sub [2, 1, 3, 0] rfl (hrec_19 _ rfl)
      · skip
        obtain ⟨y_17, rfl⟩ : ∃ z9, z9 = r_15 := ⟨_, rfl⟩
        show zq_W X 0 0 h 69 [(0, .ref t), (1, .int y_17), (2, .int s_1.2)] []
        replace hF := zq_let_e hF; obtain ⟨v_49, e_50, hF⟩ := hF
        refine zq_iinc (lv' := [(2, .int v_49), (0, .ref t), (1, .int y_17)]) (pc' := 72) C dX6_isTriangulation_69 rfl (by decide) 2 rfl e_50 rfl ?_
        refine zq_goto C 4 dX6_isTriangulation_72 (by decide) ?_
        cases hF
        exact zq_sub [1, 2, 0] rfl (hrec_6 _ rfl)
  · skip
    obtain ⟨y_4, rfl⟩ : ∃ z9, z9 = r_2 := ⟨_, rfl⟩
    show zq_W X 0 0 h 75 [(1, .int y_4)] []
    refine zq_iload_n (pc' := 76) C dX6_isTriangulation_75 rfl rfl rfl ?_
    replace hF := zq_z_e hF; obtain ⟨b_52, e_53, hF⟩ := hF
    subst e_53
    have hF := Option.some.inj hF
    subst hF
    exact hE _ _ _ _ (Nat.le_of_ble_eq_true rfl) (Nat.le_of_ble_eq_true rfl) dX6_isTriangulation_76
theorem c_X6_isTriangulation {h : zq_H} {t : Nat} {out : Bool} (hF : f_X6_isTriangulation h t = some out) : zq_M none yX6_isTriangulation (Cond.code yX6_isTriangulation cX6_isTriangulation 4 (some .boolean) :: zq_all) rm_X6_isTriangulation [.ref t] h (some (.int (zq_b out))) h := zq_met2 (own := RX6) (by decide +kernel) rfl (Nat.le_of_ble_eq_true rfl) rfl ⟨.boolean, rfl, by cases out <;> rfl⟩ (fun X C T hn hE => v_X6_isTriangulation C T hn hF hE)
theorem yv_X6_isTriangulation : zq_calV yX6_isTriangulation RX6 cX6_isTriangulation 4 (some .boolean) 0 := ⟨by decide +kernel, wd_606, wd_614, wd_615, wd_458⟩
def f_X6_read (h : zq_H) (t : Nat) (x1 : Int32) : Option (Int32 × zq_H) := (zq_ck h t 6 fun _ => (Option.bind (f_X6_rightUpTo h t) fun v_1 => (Option.bind (zq_gi h t 6 5) fun v_4 => (if v_1 = v_4 then (Option.bind (zq_gi h t 6 5) fun v_21 => (Option.bind (zq_gr h t 6 0) fun v_23 => (Option.bind (zq_ai h v_23 0) fun v_25 => (if v_21 = ((3 * (v_25 - 3)) - 1) then (Option.bind (f_X6_isWhich h x1) fun v_42 => (if v_42 = false then (Option.bind (zq_pi h t 6 7 1) fun h_88 => some ((0, h_88))) else (zq_ck h t 6 fun _ => (Option.bind (f_X6_isTriangulation h t) fun v_46 => (if v_46 = false then (Option.bind (zq_pi h t 6 7 3) fun h_50 => some ((0, h_50))) else (Option.bind (zq_pi h t 6 7 0) fun h_55 => (zq_ck h_55 t 6 fun _ => (Option.bind (f_X6_save h_55 t) fun v_60 => ((zq_lp (σ := Int32 × Int32) (ρ := Int32) (fun s_63 => (Option.bind (zq_gr v_60 t 6 0) fun v_71 => (Option.bind (zq_ai v_60 v_71 0) fun v_73 => (if (v_73 - 3) ≤ s_63.2 then some (.inr s_63.1) else (zq_ck v_60 t 6 fun _ => (Option.bind (f_X6_toldAt v_60 t s_63.2) fun v_76 => (zq_let (s_63.1 ||| ((1 : Int32) <<< (v_76 &&& 31))) fun v_79 => (zq_let (s_63.2 + 1) fun v_81 => some (.inl (v_79, v_81)))))))))) zq_N (0, 0)).bind (fun y_66 : Int32 => (Option.bind (zq_pi v_60 t 6 5 0) fun h_83 => (zq_ck h_83 t 6 fun _ => (Option.bind (f_X6_lay h_83 t x1 y_66) fun v_85 => some ((y_66, v_85))))))))))))))) else (Option.bind (f_X6_isWhich h x1) fun v_28 => (if v_28 = false then (Option.bind (zq_pi h t 6 7 1) fun h_37 => some ((0, h_37))) else (Option.bind (zq_pi h t 6 7 2) fun h_32 => some ((0, h_32))))))))) else (Option.bind (f_X6_isWhich h x1) fun v_7 => (if v_7 = false then (Option.bind (zq_pi h t 6 7 1) fun h_16 => some ((0, h_16))) else (Option.bind (zq_pi h t 6 7 2) fun h_11 => some ((0, h_11)))))))))
abbrev rm_X6_read : Room := { frames := 4, cells := 0, slots := 0, locals := 87 }
theorem dX6_read_0 : decode cX6_read 0 = .ok (.aload_n 0, 1) := by decide +kernel
theorem dX6_read_1 : decode cX6_read 1 = .ok (.invokevirtual 172, 3) := by decide +kernel
theorem dX6_read_4 : decode cX6_read 4 = .ok (.aload_n 0, 1) := by decide +kernel
theorem dX6_read_5 : decode cX6_read 5 = .ok (.getfield 166, 3) := by decide +kernel
theorem dX6_read_8 : decode cX6_read 8 = .ok (.if_icmp .ne 26, 3) := by decide +kernel
theorem dX6_read_11 : decode cX6_read 11 = .ok (.aload_n 0, 1) := by decide +kernel
theorem dX6_read_12 : decode cX6_read 12 = .ok (.getfield 166, 3) := by decide +kernel
theorem dX6_read_15 : decode cX6_read 15 = .ok (.iconst 3, 1) := by decide +kernel
theorem dX6_read_16 : decode cX6_read 16 = .ok (.aload_n 0, 1) := by decide +kernel
theorem dX6_read_17 : decode cX6_read 17 = .ok (.getfield 7, 3) := by decide +kernel
theorem dX6_read_20 : decode cX6_read 20 = .ok (.iconst 0, 1) := by decide +kernel
theorem dX6_read_21 : decode cX6_read 21 = .ok (.iaload, 1) := by decide +kernel
theorem dX6_read_22 : decode cX6_read 22 = .ok (.iconst 3, 1) := by decide +kernel
theorem dX6_read_23 : decode cX6_read 23 = .ok (.isub, 1) := by decide +kernel
theorem dX6_read_24 : decode cX6_read 24 = .ok (.imul, 1) := by decide +kernel
theorem dX6_read_25 : decode cX6_read 25 = .ok (.iconst 1, 1) := by decide +kernel
theorem dX6_read_26 : decode cX6_read 26 = .ok (.isub, 1) := by decide +kernel
theorem dX6_read_27 : decode cX6_read 27 = .ok (.if_icmp .ne 7, 3) := by decide +kernel
theorem dX6_read_30 : decode cX6_read 30 = .ok (.iconst 1, 1) := by decide +kernel
theorem dX6_read_31 : decode cX6_read 31 = .ok (.goto 4, 3) := by decide +kernel
theorem dX6_read_34 : decode cX6_read 34 = .ok (.iconst 0, 1) := by decide +kernel
theorem dX6_read_35 : decode cX6_read 35 = .ok (.istore_n 2, 1) := by decide +kernel
theorem dX6_read_36 : decode cX6_read 36 = .ok (.aload_n 0, 1) := by decide +kernel
theorem dX6_read_37 : decode cX6_read 37 = .ok (.iload_n 1, 1) := by decide +kernel
theorem dX6_read_38 : decode cX6_read 38 = .ok (.invokestatic 144, 3) := by decide +kernel
theorem dX6_read_41 : decode cX6_read 41 = .ok (.ifCond .ne 7, 3) := by decide +kernel
theorem dX6_read_44 : decode cX6_read 44 = .ok (.iconst 1, 1) := by decide +kernel
theorem dX6_read_45 : decode cX6_read 45 = .ok (.goto 23, 3) := by decide +kernel
theorem dX6_read_48 : decode cX6_read 48 = .ok (.iload_n 2, 1) := by decide +kernel
theorem dX6_read_49 : decode cX6_read 49 = .ok (.ifCond .ne 7, 3) := by decide +kernel
theorem dX6_read_52 : decode cX6_read 52 = .ok (.iconst 2, 1) := by decide +kernel
theorem dX6_read_53 : decode cX6_read 53 = .ok (.goto 15, 3) := by decide +kernel
theorem dX6_read_56 : decode cX6_read 56 = .ok (.aload_n 0, 1) := by decide +kernel
theorem dX6_read_57 : decode cX6_read 57 = .ok (.invokevirtual 181, 3) := by decide +kernel
theorem dX6_read_60 : decode cX6_read 60 = .ok (.ifCond .eq 7, 3) := by decide +kernel
theorem dX6_read_63 : decode cX6_read 63 = .ok (.iconst 0, 1) := by decide +kernel
theorem dX6_read_64 : decode cX6_read 64 = .ok (.goto 4, 3) := by decide +kernel
theorem dX6_read_67 : decode cX6_read 67 = .ok (.iconst 3, 1) := by decide +kernel
theorem dX6_read_68 : decode cX6_read 68 = .ok (.putfield 56, 3) := by decide +kernel
theorem dX6_read_71 : decode cX6_read 71 = .ok (.aload_n 0, 1) := by decide +kernel
theorem dX6_read_72 : decode cX6_read 72 = .ok (.getfield 56, 3) := by decide +kernel
theorem dX6_read_75 : decode cX6_read 75 = .ok (.ifCond .le 5, 3) := by decide +kernel
theorem dX6_read_78 : decode cX6_read 78 = .ok (.iconst 0, 1) := by decide +kernel
theorem dX6_read_79 : decode cX6_read 79 = .ok (.ireturn, 1) := by decide +kernel
theorem dX6_read_80 : decode cX6_read 80 = .ok (.aload_n 0, 1) := by decide +kernel
theorem dX6_read_81 : decode cX6_read 81 = .ok (.invokevirtual 141, 3) := by decide +kernel
theorem dX6_read_84 : decode cX6_read 84 = .ok (.iconst 0, 1) := by decide +kernel
theorem dX6_read_85 : decode cX6_read 85 = .ok (.istore_n 3, 1) := by decide +kernel
theorem dX6_read_86 : decode cX6_read 86 = .ok (.iconst 0, 1) := by decide +kernel
theorem dX6_read_87 : decode cX6_read 87 = .ok (.istore 4, 2) := by decide +kernel
theorem dX6_read_89 : decode cX6_read 89 = .ok (.iload 4, 2) := by decide +kernel
theorem dX6_read_91 : decode cX6_read 91 = .ok (.aload_n 0, 1) := by decide +kernel
theorem dX6_read_92 : decode cX6_read 92 = .ok (.getfield 7, 3) := by decide +kernel
theorem dX6_read_95 : decode cX6_read 95 = .ok (.iconst 0, 1) := by decide +kernel
theorem dX6_read_96 : decode cX6_read 96 = .ok (.iaload, 1) := by decide +kernel
theorem dX6_read_97 : decode cX6_read 97 = .ok (.iconst 3, 1) := by decide +kernel
theorem dX6_read_98 : decode cX6_read 98 = .ok (.isub, 1) := by decide +kernel
theorem dX6_read_99 : decode cX6_read 99 = .ok (.if_icmp .ge 20, 3) := by decide +kernel
theorem dX6_read_102 : decode cX6_read 102 = .ok (.iload_n 3, 1) := by decide +kernel
theorem dX6_read_103 : decode cX6_read 103 = .ok (.iconst 1, 1) := by decide +kernel
theorem dX6_read_104 : decode cX6_read 104 = .ok (.aload_n 0, 1) := by decide +kernel
theorem dX6_read_105 : decode cX6_read 105 = .ok (.iload 4, 2) := by decide +kernel
theorem dX6_read_107 : decode cX6_read 107 = .ok (.invokevirtual 175, 3) := by decide +kernel
theorem dX6_read_110 : decode cX6_read 110 = .ok (.ishl, 1) := by decide +kernel
theorem dX6_read_111 : decode cX6_read 111 = .ok (.ior, 1) := by decide +kernel
theorem dX6_read_112 : decode cX6_read 112 = .ok (.istore_n 3, 1) := by decide +kernel
theorem dX6_read_113 : decode cX6_read 113 = .ok (.iinc 4 1, 3) := by decide +kernel
theorem dX6_read_116 : decode cX6_read 116 = .ok (.goto (-27), 3) := by decide +kernel
theorem dX6_read_119 : decode cX6_read 119 = .ok (.aload_n 0, 1) := by decide +kernel
theorem dX6_read_120 : decode cX6_read 120 = .ok (.iconst 0, 1) := by decide +kernel
theorem dX6_read_121 : decode cX6_read 121 = .ok (.putfield 166, 3) := by decide +kernel
theorem dX6_read_124 : decode cX6_read 124 = .ok (.aload_n 0, 1) := by decide +kernel
theorem dX6_read_125 : decode cX6_read 125 = .ok (.iload_n 1, 1) := by decide +kernel
theorem dX6_read_126 : decode cX6_read 126 = .ok (.iload_n 3, 1) := by decide +kernel
theorem dX6_read_127 : decode cX6_read 127 = .ok (.invokevirtual 159, 3) := by decide +kernel
theorem dX6_read_130 : decode cX6_read 130 = .ok (.iload_n 3, 1) := by decide +kernel
theorem dX6_read_131 : decode cX6_read 131 = .ok (.ireturn, 1) := by decide +kernel
set_option maxRecDepth 100000 in
set_option maxHeartbeats 4000000 in
theorem v_X6_read {X : zq_X} (C : zq_C X RX6 cX6_read 5 zq_all rm_X6_read) {h : zq_H} {t : Nat} {x1 : Int32} (T : zq_T X none) (hn : X.2.2.2.2.2.2.2.2.1.name = yX6_read.name) {out : (Int32 × zq_H)} (hF : f_X6_read h t x1 = some out) (hE : zq_End X cX6_read 0 0 (some (.int out.1)) out.2) : zq_W X 0 0 h 0 [(0, .ref t), (1, .int x1)] [] := by
  unfold f_X6_read at hF
  refine zq_aload_n (pc' := 1) C dX6_read_0 rfl rfl rfl ?_
  replace hF := zq_ck_e hF; obtain ⟨e_3, hF⟩ := hF
  replace hF := zq_bd hF; obtain ⟨v_1, e_2, hF⟩ := hF
  refine zq_cV (pc' := 4) C (c_X6_rightUpTo e_2) yv_X6_rightUpTo wd_601 zq_K6 e_3 dX6_read_1 rfl rfl rfl ⟨Nat.le_of_ble_eq_true rfl, Nat.le_of_ble_eq_true rfl⟩ (Nat.le_of_ble_eq_true rfl) ⟨rfl, rfl⟩ ⟨Nat.le_of_ble_eq_true rfl, Nat.le_of_ble_eq_true rfl⟩ rfl ?_
  refine zq_aload_n (pc' := 5) C dX6_read_4 rfl rfl rfl ?_
  replace hF := zq_bd hF; obtain ⟨v_4, e_5, hF⟩ := hF
  refine zq_getI (j := 5) (pc' := 8) C zq_K6 zq_in6w (Or.inl wd_594) (by decide) rfl dX6_read_5 rfl e_5 ?_
  refine zq_icmp_ne (pc' := 11) C 34 dX6_read_8 (by decide) rfl (fun c_6 => ?_) (fun c_6 => ?_)
  · have hF := (zq_ifn hF c_6)
    skip
    refine zq_iconst (pc' := 35) C 0 dX6_read_34 rfl (by decide) ?_
    refine zq_istore_n (lv' := [(2, .int 0), (0, .ref t), (1, .int x1)]) (pc' := 36) C dX6_read_35 rfl rfl (by decide) rfl rfl ?_
    refine zq_aload_n (pc' := 37) C dX6_read_36 rfl rfl rfl ?_
    refine zq_iload_n (pc' := 38) C dX6_read_37 rfl rfl rfl ?_
    replace hF := zq_bd hF; obtain ⟨v_7, e_8, hF⟩ := hF
    refine zq_cS (pc' := 41) C (c_X6_isWhich e_8) ys_X6_isWhich wd_565 dX6_read_38 rfl rfl rfl ⟨Nat.le_of_ble_eq_true rfl, Nat.le_of_ble_eq_true rfl⟩ (Nat.le_of_ble_eq_true rfl) ⟨rfl, rfl⟩ ⟨Nat.le_of_ble_eq_true rfl, Nat.le_of_ble_eq_true rfl⟩ rfl ?_
    refine zq_if_ne (pc' := 44) C 48 dX6_read_41 (by decide) rfl (fun c_9 => ?_) (fun c_9 => ?_)
    · have hF := (zq_ifn hF (fun q => c_9 (zq_b0.mpr q)))
      skip
      refine zq_iload_n (pc' := 49) C dX6_read_48 rfl rfl rfl ?_
      refine zq_if_ne (pc' := 52) C 56 dX6_read_49 (by decide) rfl (fun c_10 => absurd c_10 (by decide)) (fun _ => ?_)
      refine zq_iconst (pc' := 53) C 2 dX6_read_52 rfl (by decide) ?_
      refine zq_goto C 68 dX6_read_53 (by decide) ?_
      replace hF := zq_bd hF; obtain ⟨h_11, e_12, hF⟩ := hF
      refine zq_putI (j := 7) (pc' := 71) C zq_K6 zq_in6w (Or.inl wd_542) (by decide) rfl rfl dX6_read_68 rfl (Or.inl rfl) e_12 ?_
      refine zq_aload_n (pc' := 72) C dX6_read_71 rfl rfl rfl ?_
      have e_14 : zq_gi h_11 t 6 7 = some 2 := zq_gi_pi e_12
      refine zq_getI (j := 7) (pc' := 75) C zq_K6 zq_in6w (Or.inl wd_542) (by decide) rfl dX6_read_72 rfl e_14 ?_
      refine zq_if_le (pc' := 78) C 80 dX6_read_75 (by decide) rfl (fun c_15 => absurd c_15 (by decide)) (fun _ => ?_)
      refine zq_iconst (pc' := 79) C 0 dX6_read_78 rfl (by decide) ?_
      have hF := Option.some.inj hF
      subst hF
      exact hE _ _ _ _ (Nat.le_of_ble_eq_true rfl) (Nat.le_of_ble_eq_true rfl) dX6_read_79
    · have hF := (zq_ifp hF (zq_b0.mp c_9))
      refine zq_iconst (pc' := 45) C 1 dX6_read_44 rfl (by decide) ?_
      refine zq_goto C 68 dX6_read_45 (by decide) ?_
      replace hF := zq_bd hF; obtain ⟨h_16, e_17, hF⟩ := hF
      refine zq_putI (j := 7) (pc' := 71) C zq_K6 zq_in6w (Or.inl wd_542) (by decide) rfl rfl dX6_read_68 rfl (Or.inl rfl) e_17 ?_
      refine zq_aload_n (pc' := 72) C dX6_read_71 rfl rfl rfl ?_
      have e_19 : zq_gi h_16 t 6 7 = some 1 := zq_gi_pi e_17
      refine zq_getI (j := 7) (pc' := 75) C zq_K6 zq_in6w (Or.inl wd_542) (by decide) rfl dX6_read_72 rfl e_19 ?_
      refine zq_if_le (pc' := 78) C 80 dX6_read_75 (by decide) rfl (fun c_20 => absurd c_20 (by decide)) (fun _ => ?_)
      refine zq_iconst (pc' := 79) C 0 dX6_read_78 rfl (by decide) ?_
      have hF := Option.some.inj hF
      subst hF
      exact hE _ _ _ _ (Nat.le_of_ble_eq_true rfl) (Nat.le_of_ble_eq_true rfl) dX6_read_79
  · have hF := (zq_ifp hF c_6)
    refine zq_aload_n (pc' := 12) C dX6_read_11 rfl rfl rfl ?_
    replace hF := zq_bd hF; obtain ⟨v_21, e_22, hF⟩ := hF
    refine zq_getI (j := 5) (pc' := 15) C zq_K6 zq_in6w (Or.inl wd_594) (by decide) rfl dX6_read_12 rfl e_22 ?_
    refine zq_iconst (pc' := 16) C 3 dX6_read_15 rfl (by decide) ?_
    refine zq_aload_n (pc' := 17) C dX6_read_16 rfl rfl rfl ?_
    replace hF := zq_bd hF; obtain ⟨v_23, e_24, hF⟩ := hF
    refine zq_getR (j := 0) (pc' := 20) C zq_K6 zq_in6w (Or.inl wd_448) (by decide) rfl dX6_read_17 rfl e_24 ?_
    refine zq_iconst (pc' := 21) C 0 dX6_read_20 rfl (by decide) ?_
    replace hF := zq_bd hF; obtain ⟨v_25, e_26, hF⟩ := hF
    refine zq_iaload (pc' := 22) C dX6_read_21 rfl e_26 ?_
    refine zq_iconst (pc' := 23) C 3 dX6_read_22 rfl (by decide) ?_
    refine zq_isub (pc' := 24) C dX6_read_23 rfl ?_
    refine zq_imul (pc' := 25) C dX6_read_24 rfl ?_
    refine zq_iconst (pc' := 26) C 1 dX6_read_25 rfl (by decide) ?_
    refine zq_isub (pc' := 27) C dX6_read_26 rfl ?_
    refine zq_icmp_ne (pc' := 30) C 34 dX6_read_27 (by decide) rfl (fun c_27 => ?_) (fun c_27 => ?_)
    · have hF := (zq_ifn hF c_27)
      skip
      refine zq_iconst (pc' := 35) C 0 dX6_read_34 rfl (by decide) ?_
      refine zq_istore_n (lv' := [(2, .int 0), (0, .ref t), (1, .int x1)]) (pc' := 36) C dX6_read_35 rfl rfl (by decide) rfl rfl ?_
      refine zq_aload_n (pc' := 37) C dX6_read_36 rfl rfl rfl ?_
      refine zq_iload_n (pc' := 38) C dX6_read_37 rfl rfl rfl ?_
      replace hF := zq_bd hF; obtain ⟨v_28, e_29, hF⟩ := hF
      refine zq_cS (pc' := 41) C (c_X6_isWhich e_29) ys_X6_isWhich wd_565 dX6_read_38 rfl rfl rfl ⟨Nat.le_of_ble_eq_true rfl, Nat.le_of_ble_eq_true rfl⟩ (Nat.le_of_ble_eq_true rfl) ⟨rfl, rfl⟩ ⟨Nat.le_of_ble_eq_true rfl, Nat.le_of_ble_eq_true rfl⟩ rfl ?_
      refine zq_if_ne (pc' := 44) C 48 dX6_read_41 (by decide) rfl (fun c_30 => ?_) (fun c_30 => ?_)
      · have hF := (zq_ifn hF (fun q => c_30 (zq_b0.mpr q)))
        skip
        refine zq_iload_n (pc' := 49) C dX6_read_48 rfl rfl rfl ?_
        refine zq_if_ne (pc' := 52) C 56 dX6_read_49 (by decide) rfl (fun c_31 => absurd c_31 (by decide)) (fun _ => ?_)
        refine zq_iconst (pc' := 53) C 2 dX6_read_52 rfl (by decide) ?_
        refine zq_goto C 68 dX6_read_53 (by decide) ?_
        replace hF := zq_bd hF; obtain ⟨h_32, e_33, hF⟩ := hF
        refine zq_putI (j := 7) (pc' := 71) C zq_K6 zq_in6w (Or.inl wd_542) (by decide) rfl rfl dX6_read_68 rfl (Or.inl rfl) e_33 ?_
        refine zq_aload_n (pc' := 72) C dX6_read_71 rfl rfl rfl ?_
        have e_35 : zq_gi h_32 t 6 7 = some 2 := zq_gi_pi e_33
        refine zq_getI (j := 7) (pc' := 75) C zq_K6 zq_in6w (Or.inl wd_542) (by decide) rfl dX6_read_72 rfl e_35 ?_
        refine zq_if_le (pc' := 78) C 80 dX6_read_75 (by decide) rfl (fun c_36 => absurd c_36 (by decide)) (fun _ => ?_)
        refine zq_iconst (pc' := 79) C 0 dX6_read_78 rfl (by decide) ?_
        have hF := Option.some.inj hF
        subst hF
        exact hE _ _ _ _ (Nat.le_of_ble_eq_true rfl) (Nat.le_of_ble_eq_true rfl) dX6_read_79
      · have hF := (zq_ifp hF (zq_b0.mp c_30))
        refine zq_iconst (pc' := 45) C 1 dX6_read_44 rfl (by decide) ?_
        refine zq_goto C 68 dX6_read_45 (by decide) ?_
        replace hF := zq_bd hF; obtain ⟨h_37, e_38, hF⟩ := hF
        refine zq_putI (j := 7) (pc' := 71) C zq_K6 zq_in6w (Or.inl wd_542) (by decide) rfl rfl dX6_read_68 rfl (Or.inl rfl) e_38 ?_
        refine zq_aload_n (pc' := 72) C dX6_read_71 rfl rfl rfl ?_
        have e_40 : zq_gi h_37 t 6 7 = some 1 := zq_gi_pi e_38
        refine zq_getI (j := 7) (pc' := 75) C zq_K6 zq_in6w (Or.inl wd_542) (by decide) rfl dX6_read_72 rfl e_40 ?_
        refine zq_if_le (pc' := 78) C 80 dX6_read_75 (by decide) rfl (fun c_41 => absurd c_41 (by decide)) (fun _ => ?_)
        refine zq_iconst (pc' := 79) C 0 dX6_read_78 rfl (by decide) ?_
        have hF := Option.some.inj hF
        subst hF
        exact hE _ _ _ _ (Nat.le_of_ble_eq_true rfl) (Nat.le_of_ble_eq_true rfl) dX6_read_79
    · have hF := (zq_ifp hF c_27)
      refine zq_iconst (pc' := 31) C 1 dX6_read_30 rfl (by decide) ?_
      refine zq_goto C 35 dX6_read_31 (by decide) ?_
      refine zq_istore_n (lv' := [(2, .int 1), (0, .ref t), (1, .int x1)]) (pc' := 36) C dX6_read_35 rfl rfl (by decide) rfl rfl ?_
      refine zq_aload_n (pc' := 37) C dX6_read_36 rfl rfl rfl ?_
      refine zq_iload_n (pc' := 38) C dX6_read_37 rfl rfl rfl ?_
      replace hF := zq_bd hF; obtain ⟨v_42, e_43, hF⟩ := hF
      refine zq_cS (pc' := 41) C (c_X6_isWhich e_43) ys_X6_isWhich wd_565 dX6_read_38 rfl rfl rfl ⟨Nat.le_of_ble_eq_true rfl, Nat.le_of_ble_eq_true rfl⟩ (Nat.le_of_ble_eq_true rfl) ⟨rfl, rfl⟩ ⟨Nat.le_of_ble_eq_true rfl, Nat.le_of_ble_eq_true rfl⟩ rfl ?_
      refine zq_if_ne (pc' := 44) C 48 dX6_read_41 (by decide) rfl (fun c_44 => ?_) (fun c_44 => ?_)
      · have hF := (zq_ifn hF (fun q => c_44 (zq_b0.mpr q)))
        skip
        refine zq_iload_n (pc' := 49) C dX6_read_48 rfl rfl rfl ?_
        refine zq_if_ne (pc' := 52) C 56 dX6_read_49 (by decide) rfl (fun _ => ?_) (fun c_45 => absurd c_45 (by decide))
        refine zq_aload_n (pc' := 57) C dX6_read_56 rfl rfl rfl ?_
        replace hF := zq_ck_e hF; obtain ⟨e_48, hF⟩ := hF
        replace hF := zq_bd hF; obtain ⟨v_46, e_47, hF⟩ := hF
        refine zq_cV (pc' := 60) C (c_X6_isTriangulation e_47) yv_X6_isTriangulation wd_613 zq_K6 e_48 dX6_read_57 rfl rfl rfl ⟨Nat.le_of_ble_eq_true rfl, Nat.le_of_ble_eq_true rfl⟩ (Nat.le_of_ble_eq_true rfl) ⟨rfl, rfl⟩ ⟨Nat.le_of_ble_eq_true rfl, Nat.le_of_ble_eq_true rfl⟩ rfl ?_
        refine zq_if_eq (pc' := 63) C 67 dX6_read_60 (by decide) rfl (fun c_49 => ?_) (fun c_49 => ?_)
        · have hF := (zq_ifp hF (zq_b0.mp c_49))
          skip
          refine zq_iconst (pc' := 68) C 3 dX6_read_67 rfl (by decide) ?_
          replace hF := zq_bd hF; obtain ⟨h_50, e_51, hF⟩ := hF
          refine zq_putI (j := 7) (pc' := 71) C zq_K6 zq_in6w (Or.inl wd_542) (by decide) rfl rfl dX6_read_68 rfl (Or.inl rfl) e_51 ?_
          refine zq_aload_n (pc' := 72) C dX6_read_71 rfl rfl rfl ?_
          have e_53 : zq_gi h_50 t 6 7 = some 3 := zq_gi_pi e_51
          refine zq_getI (j := 7) (pc' := 75) C zq_K6 zq_in6w (Or.inl wd_542) (by decide) rfl dX6_read_72 rfl e_53 ?_
          refine zq_if_le (pc' := 78) C 80 dX6_read_75 (by decide) rfl (fun c_54 => absurd c_54 (by decide)) (fun _ => ?_)
          refine zq_iconst (pc' := 79) C 0 dX6_read_78 rfl (by decide) ?_
          have hF := Option.some.inj hF
          subst hF
          exact hE _ _ _ _ (Nat.le_of_ble_eq_true rfl) (Nat.le_of_ble_eq_true rfl) dX6_read_79
        · have hF := (zq_ifn hF (fun q => c_49 (zq_b0.mpr q)))
          refine zq_iconst (pc' := 64) C 0 dX6_read_63 rfl (by decide) ?_
          refine zq_goto C 68 dX6_read_64 (by decide) ?_
          replace hF := zq_bd hF; obtain ⟨h_55, e_56, hF⟩ := hF
          refine zq_putI (j := 7) (pc' := 71) C zq_K6 zq_in6w (Or.inl wd_542) (by decide) rfl rfl dX6_read_68 rfl (Or.inl rfl) e_56 ?_
          refine zq_aload_n (pc' := 72) C dX6_read_71 rfl rfl rfl ?_
          have e_58 : zq_gi h_55 t 6 7 = some 0 := zq_gi_pi e_56
          refine zq_getI (j := 7) (pc' := 75) C zq_K6 zq_in6w (Or.inl wd_542) (by decide) rfl dX6_read_72 rfl e_58 ?_
          refine zq_if_le (pc' := 78) C 80 dX6_read_75 (by decide) rfl (fun _ => ?_) (fun c_59 => absurd c_59 (by decide))
          refine zq_aload_n (pc' := 81) C dX6_read_80 rfl rfl rfl ?_
          replace hF := zq_ck_e hF; obtain ⟨e_62, hF⟩ := hF
          replace hF := zq_bd hF; obtain ⟨v_60, e_61, hF⟩ := hF
          refine zq_cV (pc' := 84) C (c_X6_save e_61) yv_X6_save wd_559 zq_K6 e_62 dX6_read_81 rfl rfl rfl ⟨Nat.le_of_ble_eq_true rfl, Nat.le_of_ble_eq_true rfl⟩ (Nat.le_of_ble_eq_true rfl) ⟨rfl, rfl⟩ ⟨Nat.le_of_ble_eq_true rfl, Nat.le_of_ble_eq_true rfl⟩ rfl ?_
          refine zq_iconst (pc' := 85) C 0 dX6_read_84 rfl (by decide) ?_
          refine zq_istore_n (lv' := [(3, .int 0), (2, .int 1), (0, .ref t), (1, .int x1)]) (pc' := 86) C dX6_read_85 rfl rfl (by decide) rfl rfl ?_
          refine zq_iconst (pc' := 87) C 0 dX6_read_86 rfl (by decide) ?_
          refine zq_istore (lv' := [(4, .int 0), (3, .int 0), (2, .int 1), (0, .ref t), (1, .int x1)]) (pc' := 89) C dX6_read_87 rfl (by decide) rfl rfl ?_
          refine zq_sub [3, 4, 1, 0] rfl ?_
          replace hF := zq_bd hF; obtain ⟨r_64, e_65, hF⟩ := hF
          refine zq_lpW (fun s_63 => zq_W X 0 0 v_60 89 [(0, .ref t), (1, .int x1), (3, .int s_63.1), (4, .int s_63.2)] []) (fun y_66 => zq_W X 0 0 v_60 119 [(0, .ref t), (1, .int x1), (3, .int y_66)] []) e_65 (fun s_63 q_70 hF hrec_68 hex_69 => ?_) ?_
          · skip
            refine zq_iload (pc' := 91) C dX6_read_89 rfl rfl ?_
            refine zq_aload_n (pc' := 92) C dX6_read_91 rfl rfl rfl ?_
            replace hF := zq_bd hF; obtain ⟨v_71, e_72, hF⟩ := hF
            refine zq_getR (j := 0) (pc' := 95) C zq_K6 zq_in6w (Or.inl wd_448) (by decide) rfl dX6_read_92 rfl e_72 ?_
            refine zq_iconst (pc' := 96) C 0 dX6_read_95 rfl (by decide) ?_
            replace hF := zq_bd hF; obtain ⟨v_73, e_74, hF⟩ := hF
            refine zq_iaload (pc' := 97) C dX6_read_96 rfl e_74 ?_
            refine zq_iconst (pc' := 98) C 3 dX6_read_97 rfl (by decide) ?_
            refine zq_isub (pc' := 99) C dX6_read_98 rfl ?_
            refine zq_icmp_ge (pc' := 102) C 119 dX6_read_99 (by decide) rfl (fun c_75 => ?_) (fun c_75 => ?_)
            · have hF := (zq_ifp hF c_75)
              skip
              cases hF
              exact zq_sub [0, 1, 2] rfl (hex_69 _ rfl)
            · have hF := (zq_ifn hF c_75)
              refine zq_iload_n (pc' := 103) C dX6_read_102 rfl rfl rfl ?_
              refine zq_iconst (pc' := 104) C 1 dX6_read_103 rfl (by decide) ?_
              refine zq_aload_n (pc' := 105) C dX6_read_104 rfl rfl rfl ?_
              refine zq_iload (pc' := 107) C dX6_read_105 rfl rfl ?_
              replace hF := zq_ck_e hF; obtain ⟨e_78, hF⟩ := hF
              replace hF := zq_bd hF; obtain ⟨v_76, e_77, hF⟩ := hF
              refine zq_cV (pc' := 110) C (c_X6_toldAt e_77) yv_X6_toldAt wd_607 zq_K6 e_78 dX6_read_107 rfl rfl rfl ⟨Nat.le_of_ble_eq_true rfl, Nat.le_of_ble_eq_true rfl⟩ (Nat.le_of_ble_eq_true rfl) ⟨rfl, rfl⟩ ⟨Nat.le_of_ble_eq_true rfl, Nat.le_of_ble_eq_true rfl⟩ rfl ?_
              refine zq_ishl (pc' := 111) C dX6_read_110 rfl ?_
              refine zq_ior (pc' := 112) C dX6_read_111 rfl ?_
              replace hF := zq_let_e hF; obtain ⟨v_79, e_80, hF⟩ := hF
              refine zq_istore_n (lv' := [(3, .int v_79), (0, .ref t), (1, .int x1), (4, .int s_63.2)]) (pc' := 113) C dX6_read_112 rfl rfl (by decide) e_80 rfl ?_
              replace hF := zq_let_e hF; obtain ⟨v_81, e_82, hF⟩ := hF
              refine zq_iinc (lv' := [(4, .int v_81), (3, .int v_79), (0, .ref t), (1, .int x1)]) (pc' := 116) C dX6_read_113 rfl (by decide) 3 rfl e_82 rfl ?_
              refine zq_goto C 89 dX6_read_116 (by decide) ?_
              cases hF
              exact zq_sub [2, 3, 1, 0] rfl (hrec_68 _ rfl)
          · skip
            obtain ⟨y_66, rfl⟩ : ∃ z9, z9 = r_64 := ⟨_, rfl⟩
            show zq_W X 0 0 v_60 119 [(0, .ref t), (1, .int x1), (3, .int y_66)] []
            refine zq_aload_n (pc' := 120) C dX6_read_119 rfl rfl rfl ?_
            refine zq_iconst (pc' := 121) C 0 dX6_read_120 rfl (by decide) ?_
            replace hF := zq_bd hF; obtain ⟨h_83, e_84, hF⟩ := hF
            refine zq_putI (j := 5) (pc' := 124) C zq_K6 zq_in6w (Or.inl wd_594) (by decide) rfl rfl dX6_read_121 rfl (Or.inl rfl) e_84 ?_
            refine zq_aload_n (pc' := 125) C dX6_read_124 rfl rfl rfl ?_
            refine zq_iload_n (pc' := 126) C dX6_read_125 rfl rfl rfl ?_
            refine zq_iload_n (pc' := 127) C dX6_read_126 rfl rfl rfl ?_
            replace hF := zq_ck_e hF; obtain ⟨e_87, hF⟩ := hF
            replace hF := zq_bd hF; obtain ⟨v_85, e_86, hF⟩ := hF
            refine zq_cV (pc' := 130) C (c_X6_lay e_86) yv_X6_lay wd_581 zq_K6 e_87 dX6_read_127 rfl rfl rfl ⟨Nat.le_of_ble_eq_true rfl, Nat.le_of_ble_eq_true rfl⟩ (Nat.le_of_ble_eq_true rfl) ⟨rfl, rfl⟩ ⟨Nat.le_of_ble_eq_true rfl, Nat.le_of_ble_eq_true rfl⟩ rfl ?_
            refine zq_iload_n (pc' := 131) C dX6_read_130 rfl rfl rfl ?_
            have hF := Option.some.inj hF
            subst hF
            exact hE _ _ _ _ (Nat.le_of_ble_eq_true rfl) (Nat.le_of_ble_eq_true rfl) dX6_read_131
      · have hF := (zq_ifp hF (zq_b0.mp c_44))
        refine zq_iconst (pc' := 45) C 1 dX6_read_44 rfl (by decide) ?_
        refine zq_goto C 68 dX6_read_45 (by decide) ?_
        replace hF := zq_bd hF; obtain ⟨h_88, e_89, hF⟩ := hF
        refine zq_putI (j := 7) (pc' := 71) C zq_K6 zq_in6w (Or.inl wd_542) (by decide) rfl rfl dX6_read_68 rfl (Or.inl rfl) e_89 ?_
        refine zq_aload_n (pc' := 72) C dX6_read_71 rfl rfl rfl ?_
        have e_91 : zq_gi h_88 t 6 7 = some 1 := zq_gi_pi e_89
        refine zq_getI (j := 7) (pc' := 75) C zq_K6 zq_in6w (Or.inl wd_542) (by decide) rfl dX6_read_72 rfl e_91 ?_
        refine zq_if_le (pc' := 78) C 80 dX6_read_75 (by decide) rfl (fun c_92 => absurd c_92 (by decide)) (fun _ => ?_)
        refine zq_iconst (pc' := 79) C 0 dX6_read_78 rfl (by decide) ?_
        have hF := Option.some.inj hF
        subst hF
        exact hE _ _ _ _ (Nat.le_of_ble_eq_true rfl) (Nat.le_of_ble_eq_true rfl) dX6_read_79
theorem c_X6_read {h : zq_H} {t : Nat} {x1 : Int32} {out : (Int32 × zq_H)} (hF : f_X6_read h t x1 = some out) : zq_M none yX6_read (Cond.code yX6_read cX6_read 5 (some .int) :: zq_all) rm_X6_read [.ref t, .int x1] h (some (.int out.1)) out.2 := zq_met2 (own := RX6) (by decide +kernel) rfl (Nat.le_of_ble_eq_true rfl) rfl ⟨.int, rfl, rfl⟩ (fun X C T hn hE => v_X6_read C T hn hF hE)
theorem yv_X6_read : zq_calV yX6_read RX6 cX6_read 5 (some .int) 1 := ⟨by decide +kernel, wd_616, wd_852, wd_853, wd_458⟩
def f_X6_isSnapshot (h : zq_H) (x0 : Int32) : Option Bool := (Option.bind (f_X6_within h x0 0 1) fun v_1 => some (v_1))
abbrev rm_X6_isSnapshot : Room := { frames := 1, cells := 0, slots := 0, locals := 22 }
theorem dX6_isSnapshot_0 : decode cX6_isSnapshot 0 = .ok (.iload_n 0, 1) := by decide +kernel
theorem dX6_isSnapshot_1 : decode cX6_isSnapshot 1 = .ok (.iconst 0, 1) := by decide +kernel
theorem dX6_isSnapshot_2 : decode cX6_isSnapshot 2 = .ok (.iconst 1, 1) := by decide +kernel
theorem dX6_isSnapshot_3 : decode cX6_isSnapshot 3 = .ok (.invokestatic 66, 3) := by decide +kernel
theorem dX6_isSnapshot_6 : decode cX6_isSnapshot 6 = .ok (.ireturn, 1) := by decide +kernel
set_option maxRecDepth 100000 in
set_option maxHeartbeats 4000000 in
theorem v_X6_isSnapshot {X : zq_X} (C : zq_C X RX6 cX6_isSnapshot 1 zq_all rm_X6_isSnapshot) {h : zq_H} {x0 : Int32} (T : zq_T X none) (hn : X.2.2.2.2.2.2.2.2.1.name = yX6_isSnapshot.name) {out : Bool} (hF : f_X6_isSnapshot h x0 = some out) (hE : zq_End X cX6_isSnapshot 0 0 (some (.int (zq_b out))) h) : zq_W X 0 0 h 0 [(0, .int x0)] [] := by
  unfold f_X6_isSnapshot at hF
  refine zq_iload_n (pc' := 1) C dX6_isSnapshot_0 rfl rfl rfl ?_
  refine zq_iconst (pc' := 2) C 0 dX6_isSnapshot_1 rfl (by decide) ?_
  refine zq_iconst (pc' := 3) C 1 dX6_isSnapshot_2 rfl (by decide) ?_
  replace hF := zq_bd hF; obtain ⟨v_1, e_2, hF⟩ := hF
  refine zq_cS (pc' := 6) C (c_X6_within e_2) ys_X6_within wd_548 dX6_isSnapshot_3 rfl rfl rfl ⟨Nat.le_of_ble_eq_true rfl, Nat.le_of_ble_eq_true rfl⟩ (Nat.le_of_ble_eq_true rfl) ⟨rfl, rfl⟩ ⟨Nat.le_of_ble_eq_true rfl, Nat.le_of_ble_eq_true rfl⟩ rfl ?_
  have hF := Option.some.inj hF
  subst hF
  exact hE _ _ _ _ (Nat.le_of_ble_eq_true rfl) (Nat.le_of_ble_eq_true rfl) dX6_isSnapshot_6
theorem c_X6_isSnapshot {h : zq_H} {x0 : Int32} {out : Bool} (hF : f_X6_isSnapshot h x0 = some out) : zq_M none yX6_isSnapshot (Cond.code yX6_isSnapshot cX6_isSnapshot 1 (some .boolean) :: zq_all) rm_X6_isSnapshot [.int x0] h (some (.int (zq_b out))) h := zq_met2 (own := RX6) (by decide +kernel) rfl (Nat.le_of_ble_eq_true rfl) rfl ⟨.boolean, rfl, by cases out <;> rfl⟩ (fun X C T hn hE => v_X6_isSnapshot C T hn hF hE)
theorem ys_X6_isSnapshot : zq_calS yX6_isSnapshot cX6_isSnapshot 1 (some .boolean) 1 := ⟨by decide +kernel, wd_617, wd_620, wd_458⟩
def f_X6_take (h : zq_H) (t : Nat) (x1 : Int32) : Option (Int32 × zq_H) := (Option.bind (f_X6_isSnapshot h x1) fun v_1 => (if v_1 = false then (Option.bind (zq_pi h t 6 7 1) fun h_4 => some ((0, h_4))) else (Option.bind (zq_pi h t 6 7 0) fun h_9 => (Option.bind (zq_gr h_9 t 6 4) fun v_14 => (Option.bind (zq_si h_9 v_14 x1 1) fun h_16 => ((zq_lp (σ := Int32 × zq_H) (ρ := zq_H) (fun s_18 => (if 5 ≤ s_18.1 then some (.inr s_18.2) else (Option.bind (zq_gr s_18.2 t 6 3) fun v_27 => (Option.bind (zq_gr s_18.2 t 6 0) fun v_29 => (Option.bind (zq_ai s_18.2 v_29 s_18.1) fun v_31 => (Option.bind (zq_si s_18.2 v_27 ((5 * x1) + s_18.1) v_31) fun h_33 => (zq_let (s_18.1 + 1) fun v_35 => some (.inl (v_35, h_33))))))))) zq_N (0, h_16)).bind (fun y_21 : zq_H => (Option.bind (zq_gr y_21 t 6 0) fun v_37 => (Option.bind (zq_ai y_21 v_37 0) fun v_39 => some ((v_39, y_21)))))))))))
abbrev rm_X6_take : Room := { frames := 2, cells := 0, slots := 0, locals := 42 }
theorem dX6_take_0 : decode cX6_take 0 = .ok (.aload_n 0, 1) := by decide +kernel
theorem dX6_take_1 : decode cX6_take 1 = .ok (.iload_n 1, 1) := by decide +kernel
theorem dX6_take_2 : decode cX6_take 2 = .ok (.invokestatic 185, 3) := by decide +kernel
theorem dX6_take_5 : decode cX6_take 5 = .ok (.ifCond .eq 7, 3) := by decide +kernel
theorem dX6_take_8 : decode cX6_take 8 = .ok (.iconst 0, 1) := by decide +kernel
theorem dX6_take_9 : decode cX6_take 9 = .ok (.goto 4, 3) := by decide +kernel
theorem dX6_take_12 : decode cX6_take 12 = .ok (.iconst 1, 1) := by decide +kernel
theorem dX6_take_13 : decode cX6_take 13 = .ok (.putfield 56, 3) := by decide +kernel
theorem dX6_take_16 : decode cX6_take 16 = .ok (.aload_n 0, 1) := by decide +kernel
theorem dX6_take_17 : decode cX6_take 17 = .ok (.getfield 56, 3) := by decide +kernel
theorem dX6_take_20 : decode cX6_take 20 = .ok (.ifCond .le 5, 3) := by decide +kernel
theorem dX6_take_23 : decode cX6_take 23 = .ok (.iconst 0, 1) := by decide +kernel
theorem dX6_take_24 : decode cX6_take 24 = .ok (.ireturn, 1) := by decide +kernel
theorem dX6_take_25 : decode cX6_take 25 = .ok (.aload_n 0, 1) := by decide +kernel
theorem dX6_take_26 : decode cX6_take 26 = .ok (.getfield 19, 3) := by decide +kernel
theorem dX6_take_29 : decode cX6_take 29 = .ok (.iload_n 1, 1) := by decide +kernel
theorem dX6_take_30 : decode cX6_take 30 = .ok (.iconst 1, 1) := by decide +kernel
theorem dX6_take_31 : decode cX6_take 31 = .ok (.iastore, 1) := by decide +kernel
theorem dX6_take_32 : decode cX6_take 32 = .ok (.iconst 0, 1) := by decide +kernel
theorem dX6_take_33 : decode cX6_take 33 = .ok (.istore_n 2, 1) := by decide +kernel
theorem dX6_take_34 : decode cX6_take 34 = .ok (.iload_n 2, 1) := by decide +kernel
theorem dX6_take_35 : decode cX6_take 35 = .ok (.iconst 5, 1) := by decide +kernel
theorem dX6_take_36 : decode cX6_take 36 = .ok (.if_icmp .ge 25, 3) := by decide +kernel
theorem dX6_take_39 : decode cX6_take 39 = .ok (.aload_n 0, 1) := by decide +kernel
theorem dX6_take_40 : decode cX6_take 40 = .ok (.getfield 16, 3) := by decide +kernel
theorem dX6_take_43 : decode cX6_take 43 = .ok (.iconst 5, 1) := by decide +kernel
theorem dX6_take_44 : decode cX6_take 44 = .ok (.iload_n 1, 1) := by decide +kernel
theorem dX6_take_45 : decode cX6_take 45 = .ok (.imul, 1) := by decide +kernel
theorem dX6_take_46 : decode cX6_take 46 = .ok (.iload_n 2, 1) := by decide +kernel
theorem dX6_take_47 : decode cX6_take 47 = .ok (.iadd, 1) := by decide +kernel
theorem dX6_take_48 : decode cX6_take 48 = .ok (.aload_n 0, 1) := by decide +kernel
theorem dX6_take_49 : decode cX6_take 49 = .ok (.getfield 7, 3) := by decide +kernel
theorem dX6_take_52 : decode cX6_take 52 = .ok (.iload_n 2, 1) := by decide +kernel
theorem dX6_take_53 : decode cX6_take 53 = .ok (.iaload, 1) := by decide +kernel
theorem dX6_take_54 : decode cX6_take 54 = .ok (.iastore, 1) := by decide +kernel
theorem dX6_take_55 : decode cX6_take 55 = .ok (.iinc 2 1, 3) := by decide +kernel
theorem dX6_take_58 : decode cX6_take 58 = .ok (.goto (-24), 3) := by decide +kernel
theorem dX6_take_61 : decode cX6_take 61 = .ok (.aload_n 0, 1) := by decide +kernel
theorem dX6_take_62 : decode cX6_take 62 = .ok (.getfield 7, 3) := by decide +kernel
theorem dX6_take_65 : decode cX6_take 65 = .ok (.iconst 0, 1) := by decide +kernel
theorem dX6_take_66 : decode cX6_take 66 = .ok (.iaload, 1) := by decide +kernel
theorem dX6_take_67 : decode cX6_take 67 = .ok (.ireturn, 1) := by decide +kernel
set_option maxRecDepth 100000 in
set_option maxHeartbeats 4000000 in
theorem v_X6_take {X : zq_X} (C : zq_C X RX6 cX6_take 3 zq_all rm_X6_take) {h : zq_H} {t : Nat} {x1 : Int32} (T : zq_T X none) (hn : X.2.2.2.2.2.2.2.2.1.name = yX6_take.name) {out : (Int32 × zq_H)} (hF : f_X6_take h t x1 = some out) (hE : zq_End X cX6_take 0 0 (some (.int out.1)) out.2) : zq_W X 0 0 h 0 [(0, .ref t), (1, .int x1)] [] := by
  unfold f_X6_take at hF
  refine zq_aload_n (pc' := 1) C dX6_take_0 rfl rfl rfl ?_
  refine zq_iload_n (pc' := 2) C dX6_take_1 rfl rfl rfl ?_
  replace hF := zq_bd hF; obtain ⟨v_1, e_2, hF⟩ := hF
  refine zq_cS (pc' := 5) C (c_X6_isSnapshot e_2) ys_X6_isSnapshot wd_619 dX6_take_2 rfl rfl rfl ⟨Nat.le_of_ble_eq_true rfl, Nat.le_of_ble_eq_true rfl⟩ (Nat.le_of_ble_eq_true rfl) ⟨rfl, rfl⟩ ⟨Nat.le_of_ble_eq_true rfl, Nat.le_of_ble_eq_true rfl⟩ rfl ?_
  refine zq_if_eq (pc' := 8) C 12 dX6_take_5 (by decide) rfl (fun c_3 => ?_) (fun c_3 => ?_)
  · have hF := (zq_ifp hF (zq_b0.mp c_3))
    skip
    refine zq_iconst (pc' := 13) C 1 dX6_take_12 rfl (by decide) ?_
    replace hF := zq_bd hF; obtain ⟨h_4, e_5, hF⟩ := hF
    refine zq_putI (j := 7) (pc' := 16) C zq_K6 zq_in6w (Or.inl wd_542) (by decide) rfl rfl dX6_take_13 rfl (Or.inl rfl) e_5 ?_
    refine zq_aload_n (pc' := 17) C dX6_take_16 rfl rfl rfl ?_
    have e_7 : zq_gi h_4 t 6 7 = some 1 := zq_gi_pi e_5
    refine zq_getI (j := 7) (pc' := 20) C zq_K6 zq_in6w (Or.inl wd_542) (by decide) rfl dX6_take_17 rfl e_7 ?_
    refine zq_if_le (pc' := 23) C 25 dX6_take_20 (by decide) rfl (fun c_8 => absurd c_8 (by decide)) (fun _ => ?_)
    refine zq_iconst (pc' := 24) C 0 dX6_take_23 rfl (by decide) ?_
    have hF := Option.some.inj hF
    subst hF
    exact hE _ _ _ _ (Nat.le_of_ble_eq_true rfl) (Nat.le_of_ble_eq_true rfl) dX6_take_24
  · have hF := (zq_ifn hF (fun q => c_3 (zq_b0.mpr q)))
    refine zq_iconst (pc' := 9) C 0 dX6_take_8 rfl (by decide) ?_
    refine zq_goto C 13 dX6_take_9 (by decide) ?_
    replace hF := zq_bd hF; obtain ⟨h_9, e_10, hF⟩ := hF
    refine zq_putI (j := 7) (pc' := 16) C zq_K6 zq_in6w (Or.inl wd_542) (by decide) rfl rfl dX6_take_13 rfl (Or.inl rfl) e_10 ?_
    refine zq_aload_n (pc' := 17) C dX6_take_16 rfl rfl rfl ?_
    have e_12 : zq_gi h_9 t 6 7 = some 0 := zq_gi_pi e_10
    refine zq_getI (j := 7) (pc' := 20) C zq_K6 zq_in6w (Or.inl wd_542) (by decide) rfl dX6_take_17 rfl e_12 ?_
    refine zq_if_le (pc' := 23) C 25 dX6_take_20 (by decide) rfl (fun _ => ?_) (fun c_13 => absurd c_13 (by decide))
    refine zq_aload_n (pc' := 26) C dX6_take_25 rfl rfl rfl ?_
    replace hF := zq_bd hF; obtain ⟨v_14, e_15, hF⟩ := hF
    refine zq_getR (j := 4) (pc' := 29) C zq_K6 zq_in6w (Or.inl wd_535) (by decide) rfl dX6_take_26 rfl e_15 ?_
    refine zq_iload_n (pc' := 30) C dX6_take_29 rfl rfl rfl ?_
    refine zq_iconst (pc' := 31) C 1 dX6_take_30 rfl (by decide) ?_
    replace hF := zq_bd hF; obtain ⟨h_16, e_17, hF⟩ := hF
    refine zq_iastore (pc' := 32) C dX6_take_31 rfl e_17 ?_
    refine zq_iconst (pc' := 33) C 0 dX6_take_32 rfl (by decide) ?_
    refine zq_istore_n (lv' := [(2, .int 0), (0, .ref t), (1, .int x1)]) (pc' := 34) C dX6_take_33 rfl rfl (by decide) rfl rfl ?_
    refine zq_sub [1, 2, 0] rfl ?_
    replace hF := zq_bd hF; obtain ⟨r_19, e_20, hF⟩ := hF
    refine zq_lpW (fun s_18 => zq_W X 0 0 s_18.2 34 [(0, .ref t), (1, .int x1), (2, .int s_18.1)] []) (fun y_21 => zq_W X 0 0 y_21 61 [(0, .ref t)] []) e_20 (fun s_18 q_25 hF hrec_23 hex_24 => ?_) ?_
    · skip
      refine zq_iload_n (pc' := 35) C dX6_take_34 rfl rfl rfl ?_
      refine zq_iconst (pc' := 36) C 5 dX6_take_35 rfl (by decide) ?_
      refine zq_icmp_ge (pc' := 39) C 61 dX6_take_36 (by decide) rfl (fun c_26 => ?_) (fun c_26 => ?_)
      · have hF := (zq_ifp hF c_26)
        skip
        cases hF
        exact zq_sub [0] rfl (hex_24 _ rfl)
      · have hF := (zq_ifn hF c_26)
        refine zq_aload_n (pc' := 40) C dX6_take_39 rfl rfl rfl ?_
        replace hF := zq_bd hF; obtain ⟨v_27, e_28, hF⟩ := hF
        refine zq_getR (j := 3) (pc' := 43) C zq_K6 zq_in6w (Or.inl wd_534) (by decide) rfl dX6_take_40 rfl e_28 ?_
        refine zq_iconst (pc' := 44) C 5 dX6_take_43 rfl (by decide) ?_
        refine zq_iload_n (pc' := 45) C dX6_take_44 rfl rfl rfl ?_
        refine zq_imul (pc' := 46) C dX6_take_45 rfl ?_
        refine zq_iload_n (pc' := 47) C dX6_take_46 rfl rfl rfl ?_
        refine zq_iadd (pc' := 48) C dX6_take_47 rfl ?_
        refine zq_aload_n (pc' := 49) C dX6_take_48 rfl rfl rfl ?_
        replace hF := zq_bd hF; obtain ⟨v_29, e_30, hF⟩ := hF
        refine zq_getR (j := 0) (pc' := 52) C zq_K6 zq_in6w (Or.inl wd_448) (by decide) rfl dX6_take_49 rfl e_30 ?_
        refine zq_iload_n (pc' := 53) C dX6_take_52 rfl rfl rfl ?_
        replace hF := zq_bd hF; obtain ⟨v_31, e_32, hF⟩ := hF
        refine zq_iaload (pc' := 54) C dX6_take_53 rfl e_32 ?_
        replace hF := zq_bd hF; obtain ⟨h_33, e_34, hF⟩ := hF
        refine zq_iastore (pc' := 55) C dX6_take_54 rfl e_34 ?_
        replace hF := zq_let_e hF; obtain ⟨v_35, e_36, hF⟩ := hF
        refine zq_iinc (lv' := [(2, .int v_35), (0, .ref t), (1, .int x1)]) (pc' := 58) C dX6_take_55 rfl (by decide) 2 rfl e_36 rfl ?_
        refine zq_goto C 34 dX6_take_58 (by decide) ?_
        cases hF
        exact zq_sub [1, 2, 0] rfl (hrec_23 _ rfl)
    · skip
      obtain ⟨y_21, rfl⟩ : ∃ z9, z9 = r_19 := ⟨_, rfl⟩
      show zq_W X 0 0 y_21 61 [(0, .ref t)] []
      refine zq_aload_n (pc' := 62) C dX6_take_61 rfl rfl rfl ?_
      replace hF := zq_bd hF; obtain ⟨v_37, e_38, hF⟩ := hF
      refine zq_getR (j := 0) (pc' := 65) C zq_K6 zq_in6w (Or.inl wd_448) (by decide) rfl dX6_take_62 rfl e_38 ?_
      refine zq_iconst (pc' := 66) C 0 dX6_take_65 rfl (by decide) ?_
      replace hF := zq_bd hF; obtain ⟨v_39, e_40, hF⟩ := hF
      refine zq_iaload (pc' := 67) C dX6_take_66 rfl e_40 ?_
      have hF := Option.some.inj hF
      subst hF
      exact hE _ _ _ _ (Nat.le_of_ble_eq_true rfl) (Nat.le_of_ble_eq_true rfl) dX6_take_67
theorem c_X6_take {h : zq_H} {t : Nat} {x1 : Int32} {out : (Int32 × zq_H)} (hF : f_X6_take h t x1 = some out) : zq_M none yX6_take (Cond.code yX6_take cX6_take 3 (some .int) :: zq_all) rm_X6_take [.ref t, .int x1] h (some (.int out.1)) out.2 := zq_met2 (own := RX6) (by decide +kernel) rfl (Nat.le_of_ble_eq_true rfl) rfl ⟨.int, rfl, rfl⟩ (fun X C T hn hE => v_X6_take C T hn hF hE)
theorem yv_X6_take : zq_calV yX6_take RX6 cX6_take 3 (some .int) 1 := ⟨by decide +kernel, wd_618, wd_857, wd_858, wd_458⟩
def f_X6_restore (h : zq_H) (t : Nat) (x1 : Int32) : Option (Int32 × zq_H) := (Option.bind (f_X6_isSnapshot h x1) fun v_1 => (if v_1 = false then (Option.bind (zq_pi h t 6 7 1) fun h_4 => some ((0, h_4))) else (Option.bind (zq_pi h t 6 7 0) fun h_12 => (Option.bind (zq_gr h_12 t 6 4) fun v_17 => (Option.bind (zq_ai h_12 v_17 x1) fun v_19 => (if v_19 = 1 then (Option.bind (zq_pi h_12 t 6 7 0) fun h_27 => (zq_ck h_27 t 6 fun _ => (Option.bind (f_X6_save h_27 t) fun v_32 => ((zq_lp (σ := Int32 × zq_H) (ρ := zq_H) (fun s_35 => (if 4 ≤ s_35.1 then some (.inr s_35.2) else (Option.bind (zq_gr s_35.2 t 6 0) fun v_44 => (Option.bind (zq_gr s_35.2 t 6 3) fun v_46 => (Option.bind (zq_ai s_35.2 v_46 ((5 * x1) + s_35.1)) fun v_48 => (Option.bind (zq_si s_35.2 v_44 s_35.1 v_48) fun h_50 => (zq_let (s_35.1 + 1) fun v_52 => some (.inl (v_52, h_50))))))))) zq_N (0, v_32)).bind (fun y_38 : zq_H => (zq_ck y_38 t 6 fun _ => (Option.bind (f_X6_layAll y_38 t) fun v_54 => (Option.bind (zq_gr v_54 t 6 0) fun v_57 => (Option.bind (zq_ai v_54 v_57 0) fun v_59 => some ((v_59, v_54))))))))))) else (Option.bind (zq_pi h_12 t 6 7 2) fun h_22 => some ((0, h_22)))))))))
abbrev rm_X6_restore : Room := { frames := 7, cells := 0, slots := 0, locals := 161 }
theorem dX6_restore_0 : decode cX6_restore 0 = .ok (.aload_n 0, 1) := by decide +kernel
theorem dX6_restore_1 : decode cX6_restore 1 = .ok (.iload_n 1, 1) := by decide +kernel
theorem dX6_restore_2 : decode cX6_restore 2 = .ok (.invokestatic 185, 3) := by decide +kernel
theorem dX6_restore_5 : decode cX6_restore 5 = .ok (.ifCond .eq 7, 3) := by decide +kernel
theorem dX6_restore_8 : decode cX6_restore 8 = .ok (.iconst 0, 1) := by decide +kernel
theorem dX6_restore_9 : decode cX6_restore 9 = .ok (.goto 4, 3) := by decide +kernel
theorem dX6_restore_12 : decode cX6_restore 12 = .ok (.iconst 1, 1) := by decide +kernel
theorem dX6_restore_13 : decode cX6_restore 13 = .ok (.putfield 56, 3) := by decide +kernel
theorem dX6_restore_16 : decode cX6_restore 16 = .ok (.aload_n 0, 1) := by decide +kernel
theorem dX6_restore_17 : decode cX6_restore 17 = .ok (.getfield 56, 3) := by decide +kernel
theorem dX6_restore_20 : decode cX6_restore 20 = .ok (.ifCond .ne 22, 3) := by decide +kernel
theorem dX6_restore_23 : decode cX6_restore 23 = .ok (.aload_n 0, 1) := by decide +kernel
theorem dX6_restore_24 : decode cX6_restore 24 = .ok (.aload_n 0, 1) := by decide +kernel
theorem dX6_restore_25 : decode cX6_restore 25 = .ok (.getfield 19, 3) := by decide +kernel
theorem dX6_restore_28 : decode cX6_restore 28 = .ok (.iload_n 1, 1) := by decide +kernel
theorem dX6_restore_29 : decode cX6_restore 29 = .ok (.iaload, 1) := by decide +kernel
theorem dX6_restore_30 : decode cX6_restore 30 = .ok (.iconst 1, 1) := by decide +kernel
theorem dX6_restore_31 : decode cX6_restore 31 = .ok (.if_icmp .ne 7, 3) := by decide +kernel
theorem dX6_restore_34 : decode cX6_restore 34 = .ok (.iconst 0, 1) := by decide +kernel
theorem dX6_restore_35 : decode cX6_restore 35 = .ok (.goto 4, 3) := by decide +kernel
theorem dX6_restore_38 : decode cX6_restore 38 = .ok (.iconst 2, 1) := by decide +kernel
theorem dX6_restore_39 : decode cX6_restore 39 = .ok (.putfield 56, 3) := by decide +kernel
theorem dX6_restore_42 : decode cX6_restore 42 = .ok (.aload_n 0, 1) := by decide +kernel
theorem dX6_restore_43 : decode cX6_restore 43 = .ok (.getfield 56, 3) := by decide +kernel
theorem dX6_restore_46 : decode cX6_restore 46 = .ok (.ifCond .le 5, 3) := by decide +kernel
theorem dX6_restore_49 : decode cX6_restore 49 = .ok (.iconst 0, 1) := by decide +kernel
theorem dX6_restore_50 : decode cX6_restore 50 = .ok (.ireturn, 1) := by decide +kernel
theorem dX6_restore_51 : decode cX6_restore 51 = .ok (.aload_n 0, 1) := by decide +kernel
theorem dX6_restore_52 : decode cX6_restore 52 = .ok (.invokevirtual 141, 3) := by decide +kernel
theorem dX6_restore_55 : decode cX6_restore 55 = .ok (.iconst 0, 1) := by decide +kernel
theorem dX6_restore_56 : decode cX6_restore 56 = .ok (.istore_n 2, 1) := by decide +kernel
theorem dX6_restore_57 : decode cX6_restore 57 = .ok (.iload_n 2, 1) := by decide +kernel
theorem dX6_restore_58 : decode cX6_restore 58 = .ok (.iconst 4, 1) := by decide +kernel
theorem dX6_restore_59 : decode cX6_restore 59 = .ok (.if_icmp .ge 25, 3) := by decide +kernel
theorem dX6_restore_62 : decode cX6_restore 62 = .ok (.aload_n 0, 1) := by decide +kernel
theorem dX6_restore_63 : decode cX6_restore 63 = .ok (.getfield 7, 3) := by decide +kernel
theorem dX6_restore_66 : decode cX6_restore 66 = .ok (.iload_n 2, 1) := by decide +kernel
theorem dX6_restore_67 : decode cX6_restore 67 = .ok (.aload_n 0, 1) := by decide +kernel
theorem dX6_restore_68 : decode cX6_restore 68 = .ok (.getfield 16, 3) := by decide +kernel
theorem dX6_restore_71 : decode cX6_restore 71 = .ok (.iconst 5, 1) := by decide +kernel
theorem dX6_restore_72 : decode cX6_restore 72 = .ok (.iload_n 1, 1) := by decide +kernel
theorem dX6_restore_73 : decode cX6_restore 73 = .ok (.imul, 1) := by decide +kernel
theorem dX6_restore_74 : decode cX6_restore 74 = .ok (.iload_n 2, 1) := by decide +kernel
theorem dX6_restore_75 : decode cX6_restore 75 = .ok (.iadd, 1) := by decide +kernel
theorem dX6_restore_76 : decode cX6_restore 76 = .ok (.iaload, 1) := by decide +kernel
theorem dX6_restore_77 : decode cX6_restore 77 = .ok (.iastore, 1) := by decide +kernel
theorem dX6_restore_78 : decode cX6_restore 78 = .ok (.iinc 2 1, 3) := by decide +kernel
theorem dX6_restore_81 : decode cX6_restore 81 = .ok (.goto (-24), 3) := by decide +kernel
theorem dX6_restore_84 : decode cX6_restore 84 = .ok (.aload_n 0, 1) := by decide +kernel
theorem dX6_restore_85 : decode cX6_restore 85 = .ok (.invokevirtual 49, 3) := by decide +kernel
theorem dX6_restore_88 : decode cX6_restore 88 = .ok (.aload_n 0, 1) := by decide +kernel
theorem dX6_restore_89 : decode cX6_restore 89 = .ok (.getfield 7, 3) := by decide +kernel
theorem dX6_restore_92 : decode cX6_restore 92 = .ok (.iconst 0, 1) := by decide +kernel
theorem dX6_restore_93 : decode cX6_restore 93 = .ok (.iaload, 1) := by decide +kernel
theorem dX6_restore_94 : decode cX6_restore 94 = .ok (.ireturn, 1) := by decide +kernel
set_option maxRecDepth 100000 in
set_option maxHeartbeats 4000000 in
theorem v_X6_restore {X : zq_X} (C : zq_C X RX6 cX6_restore 3 zq_all rm_X6_restore) {h : zq_H} {t : Nat} {x1 : Int32} (T : zq_T X none) (hn : X.2.2.2.2.2.2.2.2.1.name = yX6_restore.name) {out : (Int32 × zq_H)} (hF : f_X6_restore h t x1 = some out) (hE : zq_End X cX6_restore 0 0 (some (.int out.1)) out.2) : zq_W X 0 0 h 0 [(0, .ref t), (1, .int x1)] [] := by
  unfold f_X6_restore at hF
  refine zq_aload_n (pc' := 1) C dX6_restore_0 rfl rfl rfl ?_
  refine zq_iload_n (pc' := 2) C dX6_restore_1 rfl rfl rfl ?_
  replace hF := zq_bd hF; obtain ⟨v_1, e_2, hF⟩ := hF
  refine zq_cS (pc' := 5) C (c_X6_isSnapshot e_2) ys_X6_isSnapshot wd_619 dX6_restore_2 rfl rfl rfl ⟨Nat.le_of_ble_eq_true rfl, Nat.le_of_ble_eq_true rfl⟩ (Nat.le_of_ble_eq_true rfl) ⟨rfl, rfl⟩ ⟨Nat.le_of_ble_eq_true rfl, Nat.le_of_ble_eq_true rfl⟩ rfl ?_
  refine zq_if_eq (pc' := 8) C 12 dX6_restore_5 (by decide) rfl (fun c_3 => ?_) (fun c_3 => ?_)
  · have hF := (zq_ifp hF (zq_b0.mp c_3))
    skip
    refine zq_iconst (pc' := 13) C 1 dX6_restore_12 rfl (by decide) ?_
    replace hF := zq_bd hF; obtain ⟨h_4, e_5, hF⟩ := hF
    refine zq_putI (j := 7) (pc' := 16) C zq_K6 zq_in6w (Or.inl wd_542) (by decide) rfl rfl dX6_restore_13 rfl (Or.inl rfl) e_5 ?_
    refine zq_aload_n (pc' := 17) C dX6_restore_16 rfl rfl rfl ?_
    have e_7 : zq_gi h_4 t 6 7 = some 1 := zq_gi_pi e_5
    refine zq_getI (j := 7) (pc' := 20) C zq_K6 zq_in6w (Or.inl wd_542) (by decide) rfl dX6_restore_17 rfl e_7 ?_
    refine zq_if_ne (pc' := 23) C 42 dX6_restore_20 (by decide) rfl (fun _ => ?_) (fun c_8 => absurd c_8 (by decide))
    refine zq_aload_n (pc' := 43) C dX6_restore_42 rfl rfl rfl ?_
    have e_10 : zq_gi h_4 t 6 7 = some 1 := zq_gi_pi e_5
    refine zq_getI (j := 7) (pc' := 46) C zq_K6 zq_in6w (Or.inl wd_542) (by decide) rfl dX6_restore_43 rfl e_10 ?_
    refine zq_if_le (pc' := 49) C 51 dX6_restore_46 (by decide) rfl (fun c_11 => absurd c_11 (by decide)) (fun _ => ?_)
    refine zq_iconst (pc' := 50) C 0 dX6_restore_49 rfl (by decide) ?_
    have hF := Option.some.inj hF
    subst hF
    exact hE _ _ _ _ (Nat.le_of_ble_eq_true rfl) (Nat.le_of_ble_eq_true rfl) dX6_restore_50
  · have hF := (zq_ifn hF (fun q => c_3 (zq_b0.mpr q)))
    refine zq_iconst (pc' := 9) C 0 dX6_restore_8 rfl (by decide) ?_
    refine zq_goto C 13 dX6_restore_9 (by decide) ?_
    replace hF := zq_bd hF; obtain ⟨h_12, e_13, hF⟩ := hF
    refine zq_putI (j := 7) (pc' := 16) C zq_K6 zq_in6w (Or.inl wd_542) (by decide) rfl rfl dX6_restore_13 rfl (Or.inl rfl) e_13 ?_
    refine zq_aload_n (pc' := 17) C dX6_restore_16 rfl rfl rfl ?_
    have e_15 : zq_gi h_12 t 6 7 = some 0 := zq_gi_pi e_13
    refine zq_getI (j := 7) (pc' := 20) C zq_K6 zq_in6w (Or.inl wd_542) (by decide) rfl dX6_restore_17 rfl e_15 ?_
    refine zq_if_ne (pc' := 23) C 42 dX6_restore_20 (by decide) rfl (fun c_16 => absurd c_16 (by decide)) (fun _ => ?_)
    refine zq_aload_n (pc' := 24) C dX6_restore_23 rfl rfl rfl ?_
    refine zq_aload_n (pc' := 25) C dX6_restore_24 rfl rfl rfl ?_
    replace hF := zq_bd hF; obtain ⟨v_17, e_18, hF⟩ := hF
    refine zq_getR (j := 4) (pc' := 28) C zq_K6 zq_in6w (Or.inl wd_535) (by decide) rfl dX6_restore_25 rfl e_18 ?_
    refine zq_iload_n (pc' := 29) C dX6_restore_28 rfl rfl rfl ?_
    replace hF := zq_bd hF; obtain ⟨v_19, e_20, hF⟩ := hF
    refine zq_iaload (pc' := 30) C dX6_restore_29 rfl e_20 ?_
    refine zq_iconst (pc' := 31) C 1 dX6_restore_30 rfl (by decide) ?_
    refine zq_icmp_ne (pc' := 34) C 38 dX6_restore_31 (by decide) rfl (fun c_21 => ?_) (fun c_21 => ?_)
    · have hF := (zq_ifn hF c_21)
      skip
      refine zq_iconst (pc' := 39) C 2 dX6_restore_38 rfl (by decide) ?_
      replace hF := zq_bd hF; obtain ⟨h_22, e_23, hF⟩ := hF
      refine zq_putI (j := 7) (pc' := 42) C zq_K6 zq_in6w (Or.inl wd_542) (by decide) rfl rfl dX6_restore_39 rfl (Or.inl rfl) e_23 ?_
      refine zq_aload_n (pc' := 43) C dX6_restore_42 rfl rfl rfl ?_
      have e_25 : zq_gi h_22 t 6 7 = some 2 := zq_gi_pi e_23
      refine zq_getI (j := 7) (pc' := 46) C zq_K6 zq_in6w (Or.inl wd_542) (by decide) rfl dX6_restore_43 rfl e_25 ?_
      refine zq_if_le (pc' := 49) C 51 dX6_restore_46 (by decide) rfl (fun c_26 => absurd c_26 (by decide)) (fun _ => ?_)
      refine zq_iconst (pc' := 50) C 0 dX6_restore_49 rfl (by decide) ?_
      have hF := Option.some.inj hF
      subst hF
      exact hE _ _ _ _ (Nat.le_of_ble_eq_true rfl) (Nat.le_of_ble_eq_true rfl) dX6_restore_50
    · have hF := (zq_ifp hF c_21)
      refine zq_iconst (pc' := 35) C 0 dX6_restore_34 rfl (by decide) ?_
      refine zq_goto C 39 dX6_restore_35 (by decide) ?_
      replace hF := zq_bd hF; obtain ⟨h_27, e_28, hF⟩ := hF
      refine zq_putI (j := 7) (pc' := 42) C zq_K6 zq_in6w (Or.inl wd_542) (by decide) rfl rfl dX6_restore_39 rfl (Or.inl rfl) e_28 ?_
      refine zq_aload_n (pc' := 43) C dX6_restore_42 rfl rfl rfl ?_
      have e_30 : zq_gi h_27 t 6 7 = some 0 := zq_gi_pi e_28
      refine zq_getI (j := 7) (pc' := 46) C zq_K6 zq_in6w (Or.inl wd_542) (by decide) rfl dX6_restore_43 rfl e_30 ?_
      refine zq_if_le (pc' := 49) C 51 dX6_restore_46 (by decide) rfl (fun _ => ?_) (fun c_31 => absurd c_31 (by decide))
      refine zq_aload_n (pc' := 52) C dX6_restore_51 rfl rfl rfl ?_
      replace hF := zq_ck_e hF; obtain ⟨e_34, hF⟩ := hF
      replace hF := zq_bd hF; obtain ⟨v_32, e_33, hF⟩ := hF
      refine zq_cV (pc' := 55) C (c_X6_save e_33) yv_X6_save wd_559 zq_K6 e_34 dX6_restore_52 rfl rfl rfl ⟨Nat.le_of_ble_eq_true rfl, Nat.le_of_ble_eq_true rfl⟩ (Nat.le_of_ble_eq_true rfl) ⟨rfl, rfl⟩ ⟨Nat.le_of_ble_eq_true rfl, Nat.le_of_ble_eq_true rfl⟩ rfl ?_
      refine zq_iconst (pc' := 56) C 0 dX6_restore_55 rfl (by decide) ?_
      refine zq_istore_n (lv' := [(2, .int 0), (0, .ref t), (1, .int x1)]) (pc' := 57) C dX6_restore_56 rfl rfl (by decide) rfl rfl ?_
      refine zq_sub [1, 2, 0] rfl ?_
      replace hF := zq_bd hF; obtain ⟨r_36, e_37, hF⟩ := hF
      refine zq_lpW (fun s_35 => zq_W X 0 0 s_35.2 57 [(0, .ref t), (1, .int x1), (2, .int s_35.1)] []) (fun y_38 => zq_W X 0 0 y_38 84 [(0, .ref t)] []) e_37 (fun s_35 q_42 hF hrec_40 hex_41 => ?_) ?_
      · skip
        refine zq_iload_n (pc' := 58) C dX6_restore_57 rfl rfl rfl ?_
        refine zq_iconst (pc' := 59) C 4 dX6_restore_58 rfl (by decide) ?_
        refine zq_icmp_ge (pc' := 62) C 84 dX6_restore_59 (by decide) rfl (fun c_43 => ?_) (fun c_43 => ?_)
        · have hF := (zq_ifp hF c_43)
          skip
          cases hF
          exact zq_sub [0] rfl (hex_41 _ rfl)
        · have hF := (zq_ifn hF c_43)
          refine zq_aload_n (pc' := 63) C dX6_restore_62 rfl rfl rfl ?_
          replace hF := zq_bd hF; obtain ⟨v_44, e_45, hF⟩ := hF
          refine zq_getR (j := 0) (pc' := 66) C zq_K6 zq_in6w (Or.inl wd_448) (by decide) rfl dX6_restore_63 rfl e_45 ?_
          refine zq_iload_n (pc' := 67) C dX6_restore_66 rfl rfl rfl ?_
          refine zq_aload_n (pc' := 68) C dX6_restore_67 rfl rfl rfl ?_
          replace hF := zq_bd hF; obtain ⟨v_46, e_47, hF⟩ := hF
          refine zq_getR (j := 3) (pc' := 71) C zq_K6 zq_in6w (Or.inl wd_534) (by decide) rfl dX6_restore_68 rfl e_47 ?_
          refine zq_iconst (pc' := 72) C 5 dX6_restore_71 rfl (by decide) ?_
          refine zq_iload_n (pc' := 73) C dX6_restore_72 rfl rfl rfl ?_
          refine zq_imul (pc' := 74) C dX6_restore_73 rfl ?_
          refine zq_iload_n (pc' := 75) C dX6_restore_74 rfl rfl rfl ?_
          refine zq_iadd (pc' := 76) C dX6_restore_75 rfl ?_
          replace hF := zq_bd hF; obtain ⟨v_48, e_49, hF⟩ := hF
          refine zq_iaload (pc' := 77) C dX6_restore_76 rfl e_49 ?_
          replace hF := zq_bd hF; obtain ⟨h_50, e_51, hF⟩ := hF
          refine zq_iastore (pc' := 78) C dX6_restore_77 rfl e_51 ?_
          replace hF := zq_let_e hF; obtain ⟨v_52, e_53, hF⟩ := hF
          refine zq_iinc (lv' := [(2, .int v_52), (0, .ref t), (1, .int x1)]) (pc' := 81) C dX6_restore_78 rfl (by decide) 2 rfl e_53 rfl ?_
          refine zq_goto C 57 dX6_restore_81 (by decide) ?_
          cases hF
          exact zq_sub [1, 2, 0] rfl (hrec_40 _ rfl)
      · skip
        obtain ⟨y_38, rfl⟩ : ∃ z9, z9 = r_36 := ⟨_, rfl⟩
        show zq_W X 0 0 y_38 84 [(0, .ref t)] []
        refine zq_aload_n (pc' := 85) C dX6_restore_84 rfl rfl rfl ?_
        replace hF := zq_ck_e hF; obtain ⟨e_56, hF⟩ := hF
        replace hF := zq_bd hF; obtain ⟨v_54, e_55, hF⟩ := hF
        refine zq_cV (pc' := 88) C (c_X6_layAll e_55) yv_X6_layAll wd_537 zq_K6 e_56 dX6_restore_85 rfl rfl rfl ⟨Nat.le_of_ble_eq_true rfl, Nat.le_of_ble_eq_true rfl⟩ (Nat.le_of_ble_eq_true rfl) ⟨rfl, rfl⟩ ⟨Nat.le_of_ble_eq_true rfl, Nat.le_of_ble_eq_true rfl⟩ rfl ?_
        refine zq_aload_n (pc' := 89) C dX6_restore_88 rfl rfl rfl ?_
        replace hF := zq_bd hF; obtain ⟨v_57, e_58, hF⟩ := hF
        refine zq_getR (j := 0) (pc' := 92) C zq_K6 zq_in6w (Or.inl wd_448) (by decide) rfl dX6_restore_89 rfl e_58 ?_
        refine zq_iconst (pc' := 93) C 0 dX6_restore_92 rfl (by decide) ?_
        replace hF := zq_bd hF; obtain ⟨v_59, e_60, hF⟩ := hF
        refine zq_iaload (pc' := 94) C dX6_restore_93 rfl e_60 ?_
        have hF := Option.some.inj hF
        subst hF
        exact hE _ _ _ _ (Nat.le_of_ble_eq_true rfl) (Nat.le_of_ble_eq_true rfl) dX6_restore_94
theorem c_X6_restore {h : zq_H} {t : Nat} {x1 : Int32} {out : (Int32 × zq_H)} (hF : f_X6_restore h t x1 = some out) : zq_M none yX6_restore (Cond.code yX6_restore cX6_restore 3 (some .int) :: zq_all) rm_X6_restore [.ref t, .int x1] h (some (.int out.1)) out.2 := zq_met2 (own := RX6) (by decide +kernel) rfl (Nat.le_of_ble_eq_true rfl) rfl ⟨.int, rfl, rfl⟩ (fun X C T hn hE => v_X6_restore C T hn hF hE)
theorem yv_X6_restore : zq_calV yX6_restore RX6 cX6_restore 3 (some .int) 1 := ⟨by decide +kernel, wd_621, wd_862, wd_863, wd_458⟩
def f_X6_undo (h : zq_H) (t : Nat) : Option (Int32 × zq_H) := (Option.bind (zq_gi h t 6 1) fun v_1 => (if v_1 ≤ 0 then (Option.bind (zq_pi h t 6 7 1) fun h_4 => some ((0, h_4))) else (Option.bind (zq_pi h t 6 7 0) fun h_9 => (Option.bind (zq_gi h_9 t 6 1) fun v_14 => (Option.bind (zq_pi h_9 t 6 1 (v_14 - 1)) fun h_16 => ((zq_lp (σ := Int32 × zq_H) (ρ := zq_H) (fun s_18 => (if 5 ≤ s_18.1 then some (.inr s_18.2) else (Option.bind (zq_gr s_18.2 t 6 0) fun v_27 => (Option.bind (zq_gr s_18.2 t 6 2) fun v_29 => (Option.bind (zq_gi s_18.2 t 6 1) fun v_31 => (Option.bind (zq_ai s_18.2 v_29 ((5 * v_31) + s_18.1)) fun v_33 => (Option.bind (zq_si s_18.2 v_27 s_18.1 v_33) fun h_35 => (zq_let (s_18.1 + 1) fun v_37 => some (.inl (v_37, h_35)))))))))) zq_N (0, h_16)).bind (fun y_21 : zq_H => (zq_ck y_21 t 6 fun _ => (Option.bind (f_X6_layAll y_21 t) fun v_39 => (Option.bind (zq_gi v_39 t 6 1) fun v_42 => some ((v_42, v_39))))))))))))
abbrev rm_X6_undo : Room := { frames := 7, cells := 0, slots := 0, locals := 161 }
theorem dX6_undo_0 : decode cX6_undo 0 = .ok (.aload_n 0, 1) := by decide +kernel
theorem dX6_undo_1 : decode cX6_undo 1 = .ok (.aload_n 0, 1) := by decide +kernel
theorem dX6_undo_2 : decode cX6_undo 2 = .ok (.getfield 60, 3) := by decide +kernel
theorem dX6_undo_5 : decode cX6_undo 5 = .ok (.ifCond .le 7, 3) := by decide +kernel
theorem dX6_undo_8 : decode cX6_undo 8 = .ok (.iconst 0, 1) := by decide +kernel
theorem dX6_undo_9 : decode cX6_undo 9 = .ok (.goto 4, 3) := by decide +kernel
theorem dX6_undo_12 : decode cX6_undo 12 = .ok (.iconst 1, 1) := by decide +kernel
theorem dX6_undo_13 : decode cX6_undo 13 = .ok (.putfield 56, 3) := by decide +kernel
theorem dX6_undo_16 : decode cX6_undo 16 = .ok (.aload_n 0, 1) := by decide +kernel
theorem dX6_undo_17 : decode cX6_undo 17 = .ok (.getfield 56, 3) := by decide +kernel
theorem dX6_undo_20 : decode cX6_undo 20 = .ok (.ifCond .le 5, 3) := by decide +kernel
theorem dX6_undo_23 : decode cX6_undo 23 = .ok (.iconst 0, 1) := by decide +kernel
theorem dX6_undo_24 : decode cX6_undo 24 = .ok (.ireturn, 1) := by decide +kernel
theorem dX6_undo_25 : decode cX6_undo 25 = .ok (.aload_n 0, 1) := by decide +kernel
theorem dX6_undo_26 : decode cX6_undo 26 = .ok (.dup, 1) := by decide +kernel
theorem dX6_undo_27 : decode cX6_undo 27 = .ok (.getfield 60, 3) := by decide +kernel
theorem dX6_undo_30 : decode cX6_undo 30 = .ok (.iconst 1, 1) := by decide +kernel
theorem dX6_undo_31 : decode cX6_undo 31 = .ok (.isub, 1) := by decide +kernel
theorem dX6_undo_32 : decode cX6_undo 32 = .ok (.putfield 60, 3) := by decide +kernel
theorem dX6_undo_35 : decode cX6_undo 35 = .ok (.iconst 0, 1) := by decide +kernel
theorem dX6_undo_36 : decode cX6_undo 36 = .ok (.istore_n 1, 1) := by decide +kernel
theorem dX6_undo_37 : decode cX6_undo 37 = .ok (.iload_n 1, 1) := by decide +kernel
theorem dX6_undo_38 : decode cX6_undo 38 = .ok (.iconst 5, 1) := by decide +kernel
theorem dX6_undo_39 : decode cX6_undo 39 = .ok (.if_icmp .ge 28, 3) := by decide +kernel
theorem dX6_undo_42 : decode cX6_undo 42 = .ok (.aload_n 0, 1) := by decide +kernel
theorem dX6_undo_43 : decode cX6_undo 43 = .ok (.getfield 7, 3) := by decide +kernel
theorem dX6_undo_46 : decode cX6_undo 46 = .ok (.iload_n 1, 1) := by decide +kernel
theorem dX6_undo_47 : decode cX6_undo 47 = .ok (.aload_n 0, 1) := by decide +kernel
theorem dX6_undo_48 : decode cX6_undo 48 = .ok (.getfield 13, 3) := by decide +kernel
theorem dX6_undo_51 : decode cX6_undo 51 = .ok (.iconst 5, 1) := by decide +kernel
theorem dX6_undo_52 : decode cX6_undo 52 = .ok (.aload_n 0, 1) := by decide +kernel
theorem dX6_undo_53 : decode cX6_undo 53 = .ok (.getfield 60, 3) := by decide +kernel
theorem dX6_undo_56 : decode cX6_undo 56 = .ok (.imul, 1) := by decide +kernel
theorem dX6_undo_57 : decode cX6_undo 57 = .ok (.iload_n 1, 1) := by decide +kernel
theorem dX6_undo_58 : decode cX6_undo 58 = .ok (.iadd, 1) := by decide +kernel
theorem dX6_undo_59 : decode cX6_undo 59 = .ok (.iaload, 1) := by decide +kernel
theorem dX6_undo_60 : decode cX6_undo 60 = .ok (.iastore, 1) := by decide +kernel
theorem dX6_undo_61 : decode cX6_undo 61 = .ok (.iinc 1 1, 3) := by decide +kernel
theorem dX6_undo_64 : decode cX6_undo 64 = .ok (.goto (-27), 3) := by decide +kernel
theorem dX6_undo_67 : decode cX6_undo 67 = .ok (.aload_n 0, 1) := by decide +kernel
theorem dX6_undo_68 : decode cX6_undo 68 = .ok (.invokevirtual 49, 3) := by decide +kernel
theorem dX6_undo_71 : decode cX6_undo 71 = .ok (.aload_n 0, 1) := by decide +kernel
theorem dX6_undo_72 : decode cX6_undo 72 = .ok (.getfield 60, 3) := by decide +kernel
theorem dX6_undo_75 : decode cX6_undo 75 = .ok (.ireturn, 1) := by decide +kernel
set_option maxRecDepth 100000 in
set_option maxHeartbeats 4000000 in
theorem v_X6_undo {X : zq_X} (C : zq_C X RX6 cX6_undo 2 zq_all rm_X6_undo) {h : zq_H} {t : Nat} (T : zq_T X none) (hn : X.2.2.2.2.2.2.2.2.1.name = yX6_undo.name) {out : (Int32 × zq_H)} (hF : f_X6_undo h t = some out) (hE : zq_End X cX6_undo 0 0 (some (.int out.1)) out.2) : zq_W X 0 0 h 0 [(0, .ref t)] [] := by
  unfold f_X6_undo at hF
  refine zq_aload_n (pc' := 1) C dX6_undo_0 rfl rfl rfl ?_
  refine zq_aload_n (pc' := 2) C dX6_undo_1 rfl rfl rfl ?_
  replace hF := zq_bd hF; obtain ⟨v_1, e_2, hF⟩ := hF
  refine zq_getI (j := 1) (pc' := 5) C zq_K6 zq_in6w (Or.inl wd_545) (by decide) rfl dX6_undo_2 rfl e_2 ?_
  refine zq_if_le (pc' := 8) C 12 dX6_undo_5 (by decide) rfl (fun c_3 => ?_) (fun c_3 => ?_)
  · have hF := (zq_ifp hF c_3)
    skip
    refine zq_iconst (pc' := 13) C 1 dX6_undo_12 rfl (by decide) ?_
    replace hF := zq_bd hF; obtain ⟨h_4, e_5, hF⟩ := hF
    refine zq_putI (j := 7) (pc' := 16) C zq_K6 zq_in6w (Or.inl wd_542) (by decide) rfl rfl dX6_undo_13 rfl (Or.inl rfl) e_5 ?_
    refine zq_aload_n (pc' := 17) C dX6_undo_16 rfl rfl rfl ?_
    have e_7 : zq_gi h_4 t 6 7 = some 1 := zq_gi_pi e_5
    refine zq_getI (j := 7) (pc' := 20) C zq_K6 zq_in6w (Or.inl wd_542) (by decide) rfl dX6_undo_17 rfl e_7 ?_
    refine zq_if_le (pc' := 23) C 25 dX6_undo_20 (by decide) rfl (fun c_8 => absurd c_8 (by decide)) (fun _ => ?_)
    refine zq_iconst (pc' := 24) C 0 dX6_undo_23 rfl (by decide) ?_
    have hF := Option.some.inj hF
    subst hF
    exact hE _ _ _ _ (Nat.le_of_ble_eq_true rfl) (Nat.le_of_ble_eq_true rfl) dX6_undo_24
  · have hF := (zq_ifn hF c_3)
    refine zq_iconst (pc' := 9) C 0 dX6_undo_8 rfl (by decide) ?_
    refine zq_goto C 13 dX6_undo_9 (by decide) ?_
    replace hF := zq_bd hF; obtain ⟨h_9, e_10, hF⟩ := hF
    refine zq_putI (j := 7) (pc' := 16) C zq_K6 zq_in6w (Or.inl wd_542) (by decide) rfl rfl dX6_undo_13 rfl (Or.inl rfl) e_10 ?_
    refine zq_aload_n (pc' := 17) C dX6_undo_16 rfl rfl rfl ?_
    have e_12 : zq_gi h_9 t 6 7 = some 0 := zq_gi_pi e_10
    refine zq_getI (j := 7) (pc' := 20) C zq_K6 zq_in6w (Or.inl wd_542) (by decide) rfl dX6_undo_17 rfl e_12 ?_
    refine zq_if_le (pc' := 23) C 25 dX6_undo_20 (by decide) rfl (fun _ => ?_) (fun c_13 => absurd c_13 (by decide))
    refine zq_aload_n (pc' := 26) C dX6_undo_25 rfl rfl rfl ?_
    refine zq_dup (pc' := 27) C dX6_undo_26 rfl rfl ?_
    replace hF := zq_bd hF; obtain ⟨v_14, e_15, hF⟩ := hF
    refine zq_getI (j := 1) (pc' := 30) C zq_K6 zq_in6w (Or.inl wd_545) (by decide) rfl dX6_undo_27 rfl e_15 ?_
    refine zq_iconst (pc' := 31) C 1 dX6_undo_30 rfl (by decide) ?_
    refine zq_isub (pc' := 32) C dX6_undo_31 rfl ?_
    replace hF := zq_bd hF; obtain ⟨h_16, e_17, hF⟩ := hF
    refine zq_putI (j := 1) (pc' := 35) C zq_K6 zq_in6w (Or.inl wd_545) (by decide) rfl rfl dX6_undo_32 rfl (Or.inl rfl) e_17 ?_
    refine zq_iconst (pc' := 36) C 0 dX6_undo_35 rfl (by decide) ?_
    refine zq_istore_n (lv' := [(1, .int 0), (0, .ref t)]) (pc' := 37) C dX6_undo_36 rfl rfl (by decide) rfl rfl ?_
    refine zq_sub [1, 0] rfl ?_
    replace hF := zq_bd hF; obtain ⟨r_19, e_20, hF⟩ := hF
    refine zq_lpW (fun s_18 => zq_W X 0 0 s_18.2 37 [(0, .ref t), (1, .int s_18.1)] []) (fun y_21 => zq_W X 0 0 y_21 67 [(0, .ref t)] []) e_20 (fun s_18 q_25 hF hrec_23 hex_24 => ?_) ?_
    · skip
      refine zq_iload_n (pc' := 38) C dX6_undo_37 rfl rfl rfl ?_
      refine zq_iconst (pc' := 39) C 5 dX6_undo_38 rfl (by decide) ?_
      refine zq_icmp_ge (pc' := 42) C 67 dX6_undo_39 (by decide) rfl (fun c_26 => ?_) (fun c_26 => ?_)
      · have hF := (zq_ifp hF c_26)
        skip
        cases hF
        exact zq_sub [0] rfl (hex_24 _ rfl)
      · have hF := (zq_ifn hF c_26)
        refine zq_aload_n (pc' := 43) C dX6_undo_42 rfl rfl rfl ?_
        replace hF := zq_bd hF; obtain ⟨v_27, e_28, hF⟩ := hF
        refine zq_getR (j := 0) (pc' := 46) C zq_K6 zq_in6w (Or.inl wd_448) (by decide) rfl dX6_undo_43 rfl e_28 ?_
        refine zq_iload_n (pc' := 47) C dX6_undo_46 rfl rfl rfl ?_
        refine zq_aload_n (pc' := 48) C dX6_undo_47 rfl rfl rfl ?_
        replace hF := zq_bd hF; obtain ⟨v_29, e_30, hF⟩ := hF
        refine zq_getR (j := 2) (pc' := 51) C zq_K6 zq_in6w (Or.inl wd_533) (by decide) rfl dX6_undo_48 rfl e_30 ?_
        refine zq_iconst (pc' := 52) C 5 dX6_undo_51 rfl (by decide) ?_
        refine zq_aload_n (pc' := 53) C dX6_undo_52 rfl rfl rfl ?_
        replace hF := zq_bd hF; obtain ⟨v_31, e_32, hF⟩ := hF
        refine zq_getI (j := 1) (pc' := 56) C zq_K6 zq_in6w (Or.inl wd_545) (by decide) rfl dX6_undo_53 rfl e_32 ?_
        refine zq_imul (pc' := 57) C dX6_undo_56 rfl ?_
        refine zq_iload_n (pc' := 58) C dX6_undo_57 rfl rfl rfl ?_
        refine zq_iadd (pc' := 59) C dX6_undo_58 rfl ?_
        replace hF := zq_bd hF; obtain ⟨v_33, e_34, hF⟩ := hF
        refine zq_iaload (pc' := 60) C dX6_undo_59 rfl e_34 ?_
        replace hF := zq_bd hF; obtain ⟨h_35, e_36, hF⟩ := hF
        refine zq_iastore (pc' := 61) C dX6_undo_60 rfl e_36 ?_
        replace hF := zq_let_e hF; obtain ⟨v_37, e_38, hF⟩ := hF
        refine zq_iinc (lv' := [(1, .int v_37), (0, .ref t)]) (pc' := 64) C dX6_undo_61 rfl (by decide) 1 rfl e_38 rfl ?_
        refine zq_goto C 37 dX6_undo_64 (by decide) ?_
        cases hF
        exact zq_sub [1, 0] rfl (hrec_23 _ rfl)
    · skip
      obtain ⟨y_21, rfl⟩ : ∃ z9, z9 = r_19 := ⟨_, rfl⟩
      show zq_W X 0 0 y_21 67 [(0, .ref t)] []
      refine zq_aload_n (pc' := 68) C dX6_undo_67 rfl rfl rfl ?_
      replace hF := zq_ck_e hF; obtain ⟨e_41, hF⟩ := hF
      replace hF := zq_bd hF; obtain ⟨v_39, e_40, hF⟩ := hF
      refine zq_cV (pc' := 71) C (c_X6_layAll e_40) yv_X6_layAll wd_537 zq_K6 e_41 dX6_undo_68 rfl rfl rfl ⟨Nat.le_of_ble_eq_true rfl, Nat.le_of_ble_eq_true rfl⟩ (Nat.le_of_ble_eq_true rfl) ⟨rfl, rfl⟩ ⟨Nat.le_of_ble_eq_true rfl, Nat.le_of_ble_eq_true rfl⟩ rfl ?_
      refine zq_aload_n (pc' := 72) C dX6_undo_71 rfl rfl rfl ?_
      replace hF := zq_bd hF; obtain ⟨v_42, e_43, hF⟩ := hF
      refine zq_getI (j := 1) (pc' := 75) C zq_K6 zq_in6w (Or.inl wd_545) (by decide) rfl dX6_undo_72 rfl e_43 ?_
      have hF := Option.some.inj hF
      subst hF
      exact hE _ _ _ _ (Nat.le_of_ble_eq_true rfl) (Nat.le_of_ble_eq_true rfl) dX6_undo_75
theorem c_X6_undo {h : zq_H} {t : Nat} {out : (Int32 × zq_H)} (hF : f_X6_undo h t = some out) : zq_M none yX6_undo (Cond.code yX6_undo cX6_undo 2 (some .int) :: zq_all) rm_X6_undo [.ref t] h (some (.int out.1)) out.2 := zq_met2 (own := RX6) (by decide +kernel) rfl (Nat.le_of_ble_eq_true rfl) rfl ⟨.int, rfl, rfl⟩ (fun X C T hn hE => v_X6_undo C T hn hF hE)
theorem yv_X6_undo : zq_calV yX6_undo RX6 cX6_undo 2 (some .int) 0 := ⟨by decide +kernel, wd_622, wd_867, wd_868, wd_458⟩
def f_X6_number (h : zq_H) (t : Nat) (x1 : Int32) (x2 : Int32) : Option (Int32 × zq_H) := (zq_ck h t 6 fun _ => (Option.bind (f_X6_isDiagonal h t x1 x2) fun v_1 => (if v_1 = false then (Option.bind (zq_pi h t 6 7 1) fun h_5 => some ((0, h_5))) else (Option.bind (zq_pi h t 6 7 0) fun h_10 => (zq_ck h_10 t 6 fun _ => (Option.bind (f_X6_numberOf h_10 t x1 x2) fun v_15 => some ((v_15, h_10))))))))
abbrev rm_X6_number : Room := { frames := 2, cells := 0, slots := 0, locals := 44 }
theorem dX6_number_0 : decode cX6_number 0 = .ok (.aload_n 0, 1) := by decide +kernel
theorem dX6_number_1 : decode cX6_number 1 = .ok (.aload_n 0, 1) := by decide +kernel
theorem dX6_number_2 : decode cX6_number 2 = .ok (.iload_n 1, 1) := by decide +kernel
theorem dX6_number_3 : decode cX6_number 3 = .ok (.iload_n 2, 1) := by decide +kernel
theorem dX6_number_4 : decode cX6_number 4 = .ok (.invokevirtual 147, 3) := by decide +kernel
theorem dX6_number_7 : decode cX6_number 7 = .ok (.ifCond .eq 7, 3) := by decide +kernel
theorem dX6_number_10 : decode cX6_number 10 = .ok (.iconst 0, 1) := by decide +kernel
theorem dX6_number_11 : decode cX6_number 11 = .ok (.goto 4, 3) := by decide +kernel
theorem dX6_number_14 : decode cX6_number 14 = .ok (.iconst 1, 1) := by decide +kernel
theorem dX6_number_15 : decode cX6_number 15 = .ok (.putfield 56, 3) := by decide +kernel
theorem dX6_number_18 : decode cX6_number 18 = .ok (.aload_n 0, 1) := by decide +kernel
theorem dX6_number_19 : decode cX6_number 19 = .ok (.getfield 56, 3) := by decide +kernel
theorem dX6_number_22 : decode cX6_number 22 = .ok (.ifCond .le 7, 3) := by decide +kernel
theorem dX6_number_25 : decode cX6_number 25 = .ok (.iconst 0, 1) := by decide +kernel
theorem dX6_number_26 : decode cX6_number 26 = .ok (.goto 9, 3) := by decide +kernel
theorem dX6_number_29 : decode cX6_number 29 = .ok (.aload_n 0, 1) := by decide +kernel
theorem dX6_number_30 : decode cX6_number 30 = .ok (.iload_n 1, 1) := by decide +kernel
theorem dX6_number_31 : decode cX6_number 31 = .ok (.iload_n 2, 1) := by decide +kernel
theorem dX6_number_32 : decode cX6_number 32 = .ok (.invokevirtual 70, 3) := by decide +kernel
theorem dX6_number_35 : decode cX6_number 35 = .ok (.ireturn, 1) := by decide +kernel
set_option maxRecDepth 100000 in
set_option maxHeartbeats 4000000 in
theorem v_X6_number {X : zq_X} (C : zq_C X RX6 cX6_number 3 zq_all rm_X6_number) {h : zq_H} {t : Nat} {x1 : Int32} {x2 : Int32} (T : zq_T X none) (hn : X.2.2.2.2.2.2.2.2.1.name = yX6_number.name) {out : (Int32 × zq_H)} (hF : f_X6_number h t x1 x2 = some out) (hE : zq_End X cX6_number 0 0 (some (.int out.1)) out.2) : zq_W X 0 0 h 0 [(0, .ref t), (1, .int x1), (2, .int x2)] [] := by
  unfold f_X6_number at hF
  refine zq_aload_n (pc' := 1) C dX6_number_0 rfl rfl rfl ?_
  refine zq_aload_n (pc' := 2) C dX6_number_1 rfl rfl rfl ?_
  refine zq_iload_n (pc' := 3) C dX6_number_2 rfl rfl rfl ?_
  refine zq_iload_n (pc' := 4) C dX6_number_3 rfl rfl rfl ?_
  replace hF := zq_ck_e hF; obtain ⟨e_3, hF⟩ := hF
  replace hF := zq_bd hF; obtain ⟨v_1, e_2, hF⟩ := hF
  refine zq_cV (pc' := 7) C (c_X6_isDiagonal e_2) yv_X6_isDiagonal wd_567 zq_K6 e_3 dX6_number_4 rfl rfl rfl ⟨Nat.le_of_ble_eq_true rfl, Nat.le_of_ble_eq_true rfl⟩ (Nat.le_of_ble_eq_true rfl) ⟨rfl, rfl⟩ ⟨Nat.le_of_ble_eq_true rfl, Nat.le_of_ble_eq_true rfl⟩ rfl ?_
  refine zq_if_eq (pc' := 10) C 14 dX6_number_7 (by decide) rfl (fun c_4 => ?_) (fun c_4 => ?_)
  · have hF := (zq_ifp hF (zq_b0.mp c_4))
    skip
    refine zq_iconst (pc' := 15) C 1 dX6_number_14 rfl (by decide) ?_
    replace hF := zq_bd hF; obtain ⟨h_5, e_6, hF⟩ := hF
    refine zq_putI (j := 7) (pc' := 18) C zq_K6 zq_in6w (Or.inl wd_542) (by decide) rfl rfl dX6_number_15 rfl (Or.inl rfl) e_6 ?_
    refine zq_aload_n (pc' := 19) C dX6_number_18 rfl rfl rfl ?_
    have e_8 : zq_gi h_5 t 6 7 = some 1 := zq_gi_pi e_6
    refine zq_getI (j := 7) (pc' := 22) C zq_K6 zq_in6w (Or.inl wd_542) (by decide) rfl dX6_number_19 rfl e_8 ?_
    refine zq_if_le (pc' := 25) C 29 dX6_number_22 (by decide) rfl (fun c_9 => absurd c_9 (by decide)) (fun _ => ?_)
    refine zq_iconst (pc' := 26) C 0 dX6_number_25 rfl (by decide) ?_
    refine zq_goto C 35 dX6_number_26 (by decide) ?_
    have hF := Option.some.inj hF
    subst hF
    exact hE _ _ _ _ (Nat.le_of_ble_eq_true rfl) (Nat.le_of_ble_eq_true rfl) dX6_number_35
  · have hF := (zq_ifn hF (fun q => c_4 (zq_b0.mpr q)))
    refine zq_iconst (pc' := 11) C 0 dX6_number_10 rfl (by decide) ?_
    refine zq_goto C 15 dX6_number_11 (by decide) ?_
    replace hF := zq_bd hF; obtain ⟨h_10, e_11, hF⟩ := hF
    refine zq_putI (j := 7) (pc' := 18) C zq_K6 zq_in6w (Or.inl wd_542) (by decide) rfl rfl dX6_number_15 rfl (Or.inl rfl) e_11 ?_
    refine zq_aload_n (pc' := 19) C dX6_number_18 rfl rfl rfl ?_
    have e_13 : zq_gi h_10 t 6 7 = some 0 := zq_gi_pi e_11
    refine zq_getI (j := 7) (pc' := 22) C zq_K6 zq_in6w (Or.inl wd_542) (by decide) rfl dX6_number_19 rfl e_13 ?_
    refine zq_if_le (pc' := 25) C 29 dX6_number_22 (by decide) rfl (fun _ => ?_) (fun c_14 => absurd c_14 (by decide))
    refine zq_aload_n (pc' := 30) C dX6_number_29 rfl rfl rfl ?_
    refine zq_iload_n (pc' := 31) C dX6_number_30 rfl rfl rfl ?_
    refine zq_iload_n (pc' := 32) C dX6_number_31 rfl rfl rfl ?_
    replace hF := zq_ck_e hF; obtain ⟨e_17, hF⟩ := hF
    replace hF := zq_bd hF; obtain ⟨v_15, e_16, hF⟩ := hF
    refine zq_cV (pc' := 35) C (c_X6_numberOf e_16) yv_X6_numberOf wd_455 zq_K6 e_17 dX6_number_32 rfl rfl rfl ⟨Nat.le_of_ble_eq_true rfl, Nat.le_of_ble_eq_true rfl⟩ (Nat.le_of_ble_eq_true rfl) ⟨rfl, rfl⟩ ⟨Nat.le_of_ble_eq_true rfl, Nat.le_of_ble_eq_true rfl⟩ rfl ?_
    have hF := Option.some.inj hF
    subst hF
    exact hE _ _ _ _ (Nat.le_of_ble_eq_true rfl) (Nat.le_of_ble_eq_true rfl) dX6_number_35
theorem c_X6_number {h : zq_H} {t : Nat} {x1 : Int32} {x2 : Int32} {out : (Int32 × zq_H)} (hF : f_X6_number h t x1 x2 = some out) : zq_M none yX6_number (Cond.code yX6_number cX6_number 3 (some .int) :: zq_all) rm_X6_number [.ref t, .int x1, .int x2] h (some (.int out.1)) out.2 := zq_met2 (own := RX6) (by decide +kernel) rfl (Nat.le_of_ble_eq_true rfl) rfl ⟨.int, rfl, rfl⟩ (fun X C T hn hE => v_X6_number C T hn hF hE)
theorem yv_X6_number : zq_calV yX6_number RX6 cX6_number 3 (some .int) 2 := ⟨by decide +kernel, wd_623, wd_872, wd_873, wd_458⟩
def f_X6_degreeOf (h : zq_H) (t : Nat) (x1 : Int32) (x2 : Int32) : Option Int32 := (zq_ck h t 6 fun _ => (Option.bind (f_X6_fanOf h t x2) fun v_1 => (Option.bind (f_X6_ones h (x1 &&& v_1)) fun v_4 => some (v_4))))
abbrev rm_X6_degreeOf : Room := { frames := 1, cells := 0, slots := 0, locals := 23 }
theorem dX6_degreeOf_0 : decode cX6_degreeOf 0 = .ok (.iload_n 1, 1) := by decide +kernel
theorem dX6_degreeOf_1 : decode cX6_degreeOf 1 = .ok (.aload_n 0, 1) := by decide +kernel
theorem dX6_degreeOf_2 : decode cX6_degreeOf 2 = .ok (.iload_n 2, 1) := by decide +kernel
theorem dX6_degreeOf_3 : decode cX6_degreeOf 3 = .ok (.invokevirtual 52, 3) := by decide +kernel
theorem dX6_degreeOf_6 : decode cX6_degreeOf 6 = .ok (.iand, 1) := by decide +kernel
theorem dX6_degreeOf_7 : decode cX6_degreeOf 7 = .ok (.invokestatic 156, 3) := by decide +kernel
theorem dX6_degreeOf_10 : decode cX6_degreeOf 10 = .ok (.ireturn, 1) := by decide +kernel
set_option maxRecDepth 100000 in
set_option maxHeartbeats 4000000 in
theorem v_X6_degreeOf {X : zq_X} (C : zq_C X RX6 cX6_degreeOf 3 zq_all rm_X6_degreeOf) {h : zq_H} {t : Nat} {x1 : Int32} {x2 : Int32} (T : zq_T X none) (hn : X.2.2.2.2.2.2.2.2.1.name = yX6_degreeOf.name) {out : Int32} (hF : f_X6_degreeOf h t x1 x2 = some out) (hE : zq_End X cX6_degreeOf 0 0 (some (.int out)) h) : zq_W X 0 0 h 0 [(0, .ref t), (1, .int x1), (2, .int x2)] [] := by
  unfold f_X6_degreeOf at hF
  refine zq_iload_n (pc' := 1) C dX6_degreeOf_0 rfl rfl rfl ?_
  refine zq_aload_n (pc' := 2) C dX6_degreeOf_1 rfl rfl rfl ?_
  refine zq_iload_n (pc' := 3) C dX6_degreeOf_2 rfl rfl rfl ?_
  replace hF := zq_ck_e hF; obtain ⟨e_3, hF⟩ := hF
  replace hF := zq_bd hF; obtain ⟨v_1, e_2, hF⟩ := hF
  refine zq_cV (pc' := 6) C (c_X6_fanOf e_2) yv_X6_fanOf wd_476 zq_K6 e_3 dX6_degreeOf_3 rfl rfl rfl ⟨Nat.le_of_ble_eq_true rfl, Nat.le_of_ble_eq_true rfl⟩ (Nat.le_of_ble_eq_true rfl) ⟨rfl, rfl⟩ ⟨Nat.le_of_ble_eq_true rfl, Nat.le_of_ble_eq_true rfl⟩ rfl ?_
  refine zq_iand (pc' := 7) C dX6_degreeOf_6 rfl ?_
  replace hF := zq_bd hF; obtain ⟨v_4, e_5, hF⟩ := hF
  refine zq_cS (pc' := 10) C (c_X6_ones e_5) ys_X6_ones wd_579 dX6_degreeOf_7 rfl rfl rfl ⟨Nat.le_of_ble_eq_true rfl, Nat.le_of_ble_eq_true rfl⟩ (Nat.le_of_ble_eq_true rfl) ⟨rfl, rfl⟩ ⟨Nat.le_of_ble_eq_true rfl, Nat.le_of_ble_eq_true rfl⟩ rfl ?_
  have hF := Option.some.inj hF
  subst hF
  exact hE _ _ _ _ (Nat.le_of_ble_eq_true rfl) (Nat.le_of_ble_eq_true rfl) dX6_degreeOf_10
theorem c_X6_degreeOf {h : zq_H} {t : Nat} {x1 : Int32} {x2 : Int32} {out : Int32} (hF : f_X6_degreeOf h t x1 x2 = some out) : zq_M none yX6_degreeOf (Cond.code yX6_degreeOf cX6_degreeOf 3 (some .int) :: zq_all) rm_X6_degreeOf [.ref t, .int x1, .int x2] h (some (.int out)) h := zq_met2 (own := RX6) (by decide +kernel) rfl (Nat.le_of_ble_eq_true rfl) rfl ⟨.int, rfl, rfl⟩ (fun X C T hn hE => v_X6_degreeOf C T hn hF hE)
theorem yv_X6_degreeOf : zq_calV yX6_degreeOf RX6 cX6_degreeOf 3 (some .int) 2 := ⟨by decide +kernel, wd_624, wd_627, wd_628, wd_458⟩
def f_X6_cornersOf (h : zq_H) (t : Nat) (x1 : Int32) (x2 : Int32) : Option Int32 := ((zq_lp (σ := Int32 × Int32 × Int32) (ρ := Int32 × Int32) (fun s_1 => (Option.bind (zq_gr h t 6 0) fun v_9 => (Option.bind (zq_ai h v_9 0) fun v_11 => (if v_11 ≤ s_1.2.2 then some (.inr (s_1.1, s_1.2.1)) else (zq_ck h t 6 fun _ => (Option.bind (f_X6_degreeOf h t x1 s_1.2.2) fun v_14 => (if v_14 = 0 then (zq_let (s_1.1 + 1) fun v_25 => (if v_14 ≤ s_1.2.1 then (zq_let (s_1.2.2 + 1) fun v_28 => some (.inl (v_25, s_1.2.1, v_28))) else (zq_let (s_1.2.2 + 1) fun v_30 => some (.inl (v_25, v_14, v_30))))) else (zq_let (s_1.1 + 0) fun v_18 => (if v_14 ≤ s_1.2.1 then (zq_let (s_1.2.2 + 1) fun v_21 => some (.inl (v_18, s_1.2.1, v_21))) else (zq_let (s_1.2.2 + 1) fun v_23 => some (.inl (v_18, v_14, v_23)))))))))))) zq_N (0, 0, 0)).bind (fun y_4 : Int32 × Int32 => (if x2 = 0 then some (y_4.2) else some (y_4.1))))
abbrev rm_X6_cornersOf : Room := { frames := 2, cells := 0, slots := 0, locals := 45 }
theorem dX6_cornersOf_0 : decode cX6_cornersOf 0 = .ok (.iconst 0, 1) := by decide +kernel
theorem dX6_cornersOf_1 : decode cX6_cornersOf 1 = .ok (.istore_n 3, 1) := by decide +kernel
theorem dX6_cornersOf_2 : decode cX6_cornersOf 2 = .ok (.iconst 0, 1) := by decide +kernel
theorem dX6_cornersOf_3 : decode cX6_cornersOf 3 = .ok (.istore 4, 2) := by decide +kernel
theorem dX6_cornersOf_5 : decode cX6_cornersOf 5 = .ok (.iconst 0, 1) := by decide +kernel
theorem dX6_cornersOf_6 : decode cX6_cornersOf 6 = .ok (.istore 5, 2) := by decide +kernel
theorem dX6_cornersOf_8 : decode cX6_cornersOf 8 = .ok (.iload 5, 2) := by decide +kernel
theorem dX6_cornersOf_10 : decode cX6_cornersOf 10 = .ok (.aload_n 0, 1) := by decide +kernel
theorem dX6_cornersOf_11 : decode cX6_cornersOf 11 = .ok (.getfield 7, 3) := by decide +kernel
theorem dX6_cornersOf_14 : decode cX6_cornersOf 14 = .ok (.iconst 0, 1) := by decide +kernel
theorem dX6_cornersOf_15 : decode cX6_cornersOf 15 = .ok (.iaload, 1) := by decide +kernel
theorem dX6_cornersOf_16 : decode cX6_cornersOf 16 = .ok (.if_icmp .ge 47, 3) := by decide +kernel
theorem dX6_cornersOf_19 : decode cX6_cornersOf 19 = .ok (.aload_n 0, 1) := by decide +kernel
theorem dX6_cornersOf_20 : decode cX6_cornersOf 20 = .ok (.iload_n 1, 1) := by decide +kernel
theorem dX6_cornersOf_21 : decode cX6_cornersOf 21 = .ok (.iload 5, 2) := by decide +kernel
theorem dX6_cornersOf_23 : decode cX6_cornersOf 23 = .ok (.invokevirtual 188, 3) := by decide +kernel
theorem dX6_cornersOf_26 : decode cX6_cornersOf 26 = .ok (.istore 6, 2) := by decide +kernel
theorem dX6_cornersOf_28 : decode cX6_cornersOf 28 = .ok (.iload_n 3, 1) := by decide +kernel
theorem dX6_cornersOf_29 : decode cX6_cornersOf 29 = .ok (.iload 6, 2) := by decide +kernel
theorem dX6_cornersOf_31 : decode cX6_cornersOf 31 = .ok (.ifCond .ne 7, 3) := by decide +kernel
theorem dX6_cornersOf_34 : decode cX6_cornersOf 34 = .ok (.iconst 1, 1) := by decide +kernel
theorem dX6_cornersOf_35 : decode cX6_cornersOf 35 = .ok (.goto 4, 3) := by decide +kernel
theorem dX6_cornersOf_38 : decode cX6_cornersOf 38 = .ok (.iconst 0, 1) := by decide +kernel
theorem dX6_cornersOf_39 : decode cX6_cornersOf 39 = .ok (.iadd, 1) := by decide +kernel
theorem dX6_cornersOf_40 : decode cX6_cornersOf 40 = .ok (.istore_n 3, 1) := by decide +kernel
theorem dX6_cornersOf_41 : decode cX6_cornersOf 41 = .ok (.iload 6, 2) := by decide +kernel
theorem dX6_cornersOf_43 : decode cX6_cornersOf 43 = .ok (.iload 4, 2) := by decide +kernel
theorem dX6_cornersOf_45 : decode cX6_cornersOf 45 = .ok (.if_icmp .le 8, 3) := by decide +kernel
theorem dX6_cornersOf_48 : decode cX6_cornersOf 48 = .ok (.iload 6, 2) := by decide +kernel
theorem dX6_cornersOf_50 : decode cX6_cornersOf 50 = .ok (.goto 5, 3) := by decide +kernel
theorem dX6_cornersOf_53 : decode cX6_cornersOf 53 = .ok (.iload 4, 2) := by decide +kernel
theorem dX6_cornersOf_55 : decode cX6_cornersOf 55 = .ok (.istore 4, 2) := by decide +kernel
theorem dX6_cornersOf_57 : decode cX6_cornersOf 57 = .ok (.iinc 5 1, 3) := by decide +kernel
theorem dX6_cornersOf_60 : decode cX6_cornersOf 60 = .ok (.goto (-52), 3) := by decide +kernel
theorem dX6_cornersOf_63 : decode cX6_cornersOf 63 = .ok (.iload_n 2, 1) := by decide +kernel
theorem dX6_cornersOf_64 : decode cX6_cornersOf 64 = .ok (.ifCond .eq 7, 3) := by decide +kernel
theorem dX6_cornersOf_67 : decode cX6_cornersOf 67 = .ok (.iload_n 3, 1) := by decide +kernel
theorem dX6_cornersOf_68 : decode cX6_cornersOf 68 = .ok (.goto 5, 3) := by decide +kernel
theorem dX6_cornersOf_71 : decode cX6_cornersOf 71 = .ok (.iload 4, 2) := by decide +kernel
theorem dX6_cornersOf_73 : decode cX6_cornersOf 73 = .ok (.ireturn, 1) := by decide +kernel
set_option maxRecDepth 100000 in
set_option maxHeartbeats 4000000 in
theorem v_X6_cornersOf {X : zq_X} (C : zq_C X RX6 cX6_cornersOf 7 zq_all rm_X6_cornersOf) {h : zq_H} {t : Nat} {x1 : Int32} {x2 : Int32} (T : zq_T X none) (hn : X.2.2.2.2.2.2.2.2.1.name = yX6_cornersOf.name) {out : Int32} (hF : f_X6_cornersOf h t x1 x2 = some out) (hE : zq_End X cX6_cornersOf 0 0 (some (.int out)) h) : zq_W X 0 0 h 0 [(0, .ref t), (1, .int x1), (2, .int x2)] [] := by
  unfold f_X6_cornersOf at hF
  refine zq_iconst (pc' := 1) C 0 dX6_cornersOf_0 rfl (by decide) ?_
  refine zq_istore_n (lv' := [(3, .int 0), (0, .ref t), (1, .int x1), (2, .int x2)]) (pc' := 2) C dX6_cornersOf_1 rfl rfl (by decide) rfl rfl ?_
  refine zq_iconst (pc' := 3) C 0 dX6_cornersOf_2 rfl (by decide) ?_
  refine zq_istore (lv' := [(4, .int 0), (3, .int 0), (0, .ref t), (1, .int x1), (2, .int x2)]) (pc' := 5) C dX6_cornersOf_3 rfl (by decide) rfl rfl ?_
  refine zq_iconst (pc' := 6) C 0 dX6_cornersOf_5 rfl (by decide) ?_
  refine zq_istore (lv' := [(5, .int 0), (4, .int 0), (3, .int 0), (0, .ref t), (1, .int x1), (2, .int x2)]) (pc' := 8) C dX6_cornersOf_6 rfl (by decide) rfl rfl ?_
  refine zq_sub [3, 4, 5, 2, 1, 0] rfl ?_
  replace hF := zq_bd hF; obtain ⟨r_2, e_3, hF⟩ := hF
  refine zq_lpW (fun s_1 => zq_W X 0 0 h 8 [(0, .ref t), (1, .int x1), (2, .int x2), (3, .int s_1.1), (4, .int s_1.2.1), (5, .int s_1.2.2)] []) (fun y_4 => zq_W X 0 0 h 63 [(2, .int x2), (3, .int y_4.1), (4, .int y_4.2)] []) e_3 (fun s_1 q_8 hF hrec_6 hex_7 => ?_) ?_
  · skip
    refine zq_iload (pc' := 10) C dX6_cornersOf_8 rfl rfl ?_
    refine zq_aload_n (pc' := 11) C dX6_cornersOf_10 rfl rfl rfl ?_
    replace hF := zq_bd hF; obtain ⟨v_9, e_10, hF⟩ := hF
    refine zq_getR (j := 0) (pc' := 14) C zq_K6 zq_in6w (Or.inl wd_448) (by decide) rfl dX6_cornersOf_11 rfl e_10 ?_
    refine zq_iconst (pc' := 15) C 0 dX6_cornersOf_14 rfl (by decide) ?_
    replace hF := zq_bd hF; obtain ⟨v_11, e_12, hF⟩ := hF
    refine zq_iaload (pc' := 16) C dX6_cornersOf_15 rfl e_12 ?_
    refine zq_icmp_ge (pc' := 19) C 63 dX6_cornersOf_16 (by decide) rfl (fun c_13 => ?_) (fun c_13 => ?_)
    · have hF := (zq_ifp hF c_13)
      skip
      cases hF
      exact zq_sub [2, 3, 4] rfl (hex_7 _ rfl)
    · have hF := (zq_ifn hF c_13)
      refine zq_aload_n (pc' := 20) C dX6_cornersOf_19 rfl rfl rfl ?_
      refine zq_iload_n (pc' := 21) C dX6_cornersOf_20 rfl rfl rfl ?_
      refine zq_iload (pc' := 23) C dX6_cornersOf_21 rfl rfl ?_
      replace hF := zq_ck_e hF; obtain ⟨e_16, hF⟩ := hF
      replace hF := zq_bd hF; obtain ⟨v_14, e_15, hF⟩ := hF
      refine zq_cV (pc' := 26) C (c_X6_degreeOf e_15) yv_X6_degreeOf wd_626 zq_K6 e_16 dX6_cornersOf_23 rfl rfl rfl ⟨Nat.le_of_ble_eq_true rfl, Nat.le_of_ble_eq_true rfl⟩ (Nat.le_of_ble_eq_true rfl) ⟨rfl, rfl⟩ ⟨Nat.le_of_ble_eq_true rfl, Nat.le_of_ble_eq_true rfl⟩ rfl ?_
      refine zq_istore (lv' := [(6, .int v_14), (0, .ref t), (1, .int x1), (2, .int x2), (3, .int s_1.1), (4, .int s_1.2.1), (5, .int s_1.2.2)]) (pc' := 28) C dX6_cornersOf_26 rfl (by decide) rfl rfl ?_
      refine zq_iload_n (pc' := 29) C dX6_cornersOf_28 rfl rfl rfl ?_
      refine zq_iload (pc' := 31) C dX6_cornersOf_29 rfl rfl ?_
      refine zq_if_ne (pc' := 34) C 38 dX6_cornersOf_31 (by decide) rfl (fun c_17 => ?_) (fun c_17 => ?_)
      · have hF := (zq_ifn hF c_17)
        skip
        refine zq_iconst (pc' := 39) C 0 dX6_cornersOf_38 rfl (by decide) ?_
        refine zq_iadd (pc' := 40) C dX6_cornersOf_39 rfl ?_
        replace hF := zq_let_e hF; obtain ⟨v_18, e_19, hF⟩ := hF
        refine zq_istore_n (lv' := [(3, .int v_18), (6, .int v_14), (0, .ref t), (1, .int x1), (2, .int x2), (4, .int s_1.2.1), (5, .int s_1.2.2)]) (pc' := 41) C dX6_cornersOf_40 rfl rfl (by decide) e_19 rfl ?_
        refine zq_iload (pc' := 43) C dX6_cornersOf_41 rfl rfl ?_
        refine zq_iload (pc' := 45) C dX6_cornersOf_43 rfl rfl ?_
        refine zq_icmp_le (pc' := 48) C 53 dX6_cornersOf_45 (by decide) rfl (fun c_20 => ?_) (fun c_20 => ?_)
        · have hF := (zq_ifp hF c_20)
          skip
          refine zq_iload (pc' := 55) C dX6_cornersOf_53 rfl rfl ?_
          refine zq_istore (lv' := [(4, .int s_1.2.1), (3, .int v_18), (6, .int v_14), (0, .ref t), (1, .int x1), (2, .int x2), (5, .int s_1.2.2)]) (pc' := 57) C dX6_cornersOf_55 rfl (by decide) rfl rfl ?_
          replace hF := zq_let_e hF; obtain ⟨v_21, e_22, hF⟩ := hF
          refine zq_iinc (lv' := [(5, .int v_21), (4, .int s_1.2.1), (3, .int v_18), (6, .int v_14), (0, .ref t), (1, .int x1), (2, .int x2)]) (pc' := 60) C dX6_cornersOf_57 rfl (by decide) 6 rfl e_22 rfl ?_
          refine zq_goto C 8 dX6_cornersOf_60 (by decide) ?_
          cases hF
          exact zq_sub [4, 5, 6, 2, 1, 0] rfl (hrec_6 _ rfl)
        · have hF := (zq_ifn hF c_20)
          refine zq_iload (pc' := 50) C dX6_cornersOf_48 rfl rfl ?_
          refine zq_goto C 55 dX6_cornersOf_50 (by decide) ?_
          refine zq_istore (lv' := [(4, .int v_14), (3, .int v_18), (6, .int v_14), (0, .ref t), (1, .int x1), (2, .int x2), (5, .int s_1.2.2)]) (pc' := 57) C dX6_cornersOf_55 rfl (by decide) rfl rfl ?_
          replace hF := zq_let_e hF; obtain ⟨v_23, e_24, hF⟩ := hF
          refine zq_iinc (lv' := [(5, .int v_23), (4, .int v_14), (3, .int v_18), (6, .int v_14), (0, .ref t), (1, .int x1), (2, .int x2)]) (pc' := 60) C dX6_cornersOf_57 rfl (by decide) 6 rfl e_24 rfl ?_
          refine zq_goto C 8 dX6_cornersOf_60 (by decide) ?_
          cases hF
          exact zq_sub [4, 5, 6, 2, 1, 0] rfl (hrec_6 _ rfl)
      · have hF := (zq_ifp hF c_17)
        refine zq_iconst (pc' := 35) C 1 dX6_cornersOf_34 rfl (by decide) ?_
        refine zq_goto C 39 dX6_cornersOf_35 (by decide) ?_
        refine zq_iadd (pc' := 40) C dX6_cornersOf_39 rfl ?_
        replace hF := zq_let_e hF; obtain ⟨v_25, e_26, hF⟩ := hF
        refine zq_istore_n (lv' := [(3, .int v_25), (6, .int v_14), (0, .ref t), (1, .int x1), (2, .int x2), (4, .int s_1.2.1), (5, .int s_1.2.2)]) (pc' := 41) C dX6_cornersOf_40 rfl rfl (by decide) e_26 rfl ?_
        refine zq_iload (pc' := 43) C dX6_cornersOf_41 rfl rfl ?_
        refine zq_iload (pc' := 45) C dX6_cornersOf_43 rfl rfl ?_
        refine zq_icmp_le (pc' := 48) C 53 dX6_cornersOf_45 (by decide) rfl (fun c_27 => ?_) (fun c_27 => ?_)
        · have hF := (zq_ifp hF c_27)
          skip
          refine zq_iload (pc' := 55) C dX6_cornersOf_53 rfl rfl ?_
          refine zq_istore (lv' := [(4, .int s_1.2.1), (3, .int v_25), (6, .int v_14), (0, .ref t), (1, .int x1), (2, .int x2), (5, .int s_1.2.2)]) (pc' := 57) C dX6_cornersOf_55 rfl (by decide) rfl rfl ?_
          replace hF := zq_let_e hF; obtain ⟨v_28, e_29, hF⟩ := hF
          refine zq_iinc (lv' := [(5, .int v_28), (4, .int s_1.2.1), (3, .int v_25), (6, .int v_14), (0, .ref t), (1, .int x1), (2, .int x2)]) (pc' := 60) C dX6_cornersOf_57 rfl (by decide) 6 rfl e_29 rfl ?_
          refine zq_goto C 8 dX6_cornersOf_60 (by decide) ?_
          cases hF
          exact zq_sub [4, 5, 6, 2, 1, 0] rfl (hrec_6 _ rfl)
        · have hF := (zq_ifn hF c_27)
          refine zq_iload (pc' := 50) C dX6_cornersOf_48 rfl rfl ?_
          refine zq_goto C 55 dX6_cornersOf_50 (by decide) ?_
          refine zq_istore (lv' := [(4, .int v_14), (3, .int v_25), (6, .int v_14), (0, .ref t), (1, .int x1), (2, .int x2), (5, .int s_1.2.2)]) (pc' := 57) C dX6_cornersOf_55 rfl (by decide) rfl rfl ?_
          replace hF := zq_let_e hF; obtain ⟨v_30, e_31, hF⟩ := hF
          refine zq_iinc (lv' := [(5, .int v_30), (4, .int v_14), (3, .int v_25), (6, .int v_14), (0, .ref t), (1, .int x1), (2, .int x2)]) (pc' := 60) C dX6_cornersOf_57 rfl (by decide) 6 rfl e_31 rfl ?_
          refine zq_goto C 8 dX6_cornersOf_60 (by decide) ?_
          cases hF
          exact zq_sub [4, 5, 6, 2, 1, 0] rfl (hrec_6 _ rfl)
  · skip
    obtain ⟨y_4, rfl⟩ : ∃ z9, z9 = r_2 := ⟨_, rfl⟩
    show zq_W X 0 0 h 63 [(2, .int x2), (3, .int y_4.1), (4, .int y_4.2)] []
    refine zq_iload_n (pc' := 64) C dX6_cornersOf_63 rfl rfl rfl ?_
    refine zq_if_eq (pc' := 67) C 71 dX6_cornersOf_64 (by decide) rfl (fun c_32 => ?_) (fun c_32 => ?_)
    · have hF := (zq_ifp hF c_32)
      skip
      refine zq_iload (pc' := 73) C dX6_cornersOf_71 rfl rfl ?_
      have hF := Option.some.inj hF
      subst hF
      exact hE _ _ _ _ (Nat.le_of_ble_eq_true rfl) (Nat.le_of_ble_eq_true rfl) dX6_cornersOf_73
    · have hF := (zq_ifn hF c_32)
      refine zq_iload_n (pc' := 68) C dX6_cornersOf_67 rfl rfl rfl ?_
      refine zq_goto C 73 dX6_cornersOf_68 (by decide) ?_
      have hF := Option.some.inj hF
      subst hF
      exact hE _ _ _ _ (Nat.le_of_ble_eq_true rfl) (Nat.le_of_ble_eq_true rfl) dX6_cornersOf_73
theorem c_X6_cornersOf {h : zq_H} {t : Nat} {x1 : Int32} {x2 : Int32} {out : Int32} (hF : f_X6_cornersOf h t x1 x2 = some out) : zq_M none yX6_cornersOf (Cond.code yX6_cornersOf cX6_cornersOf 7 (some .int) :: zq_all) rm_X6_cornersOf [.ref t, .int x1, .int x2] h (some (.int out)) h := zq_met2 (own := RX6) (by decide +kernel) rfl (Nat.le_of_ble_eq_true rfl) rfl ⟨.int, rfl, rfl⟩ (fun X C T hn hE => v_X6_cornersOf C T hn hF hE)
theorem yv_X6_cornersOf : zq_calV yX6_cornersOf RX6 cX6_cornersOf 7 (some .int) 2 := ⟨by decide +kernel, wd_625, wd_633, wd_634, wd_458⟩
def f_X6_triangulationNow (h : zq_H) (t : Nat) (x1 : Int32) (x2 : Int32) : Option (Int32 × zq_H) := (Option.bind (zq_gr h t 6 0) fun v_1 => (Option.bind (zq_ai h v_1 (1 + x1)) fun v_3 => (if x2 = 0 then some ((v_3, h)) else (if x2 = 1 then (zq_ck h t 6 fun _ => (Option.bind (f_X6_codeOf h t v_3) fun v_7 => some ((v_7, h)))) else (if x2 = 2 then (zq_ck h t 6 fun _ => (Option.bind (f_X6_likenesses h t v_3) fun v_11 => some ((v_11, h)))) else (if x2 = 3 then (zq_ck h t 6 fun _ => (Option.bind (f_X6_cornersOf h t v_3 1) fun v_15 => some ((v_15, h)))) else (if x2 = 4 then (zq_ck h t 6 fun _ => (Option.bind (f_X6_cornersOf h t v_3 0) fun v_19 => some ((v_19, h)))) else (if x2 = 5 then (zq_ck h t 6 fun _ => (Option.bind (f_X6_farthestFrom h t v_3) fun v_23 => some ((v_23.1, v_23.2)))) else (zq_ck h t 6 fun _ => (Option.bind (f_X6_leastSoFar h t v_3) fun v_26 => some ((v_26.1, v_26.2))))))))))))
abbrev rm_X6_triangulationNow : Room := { frames := 4, cells := 0, slots := 0, locals := 100 }
theorem dX6_triangulationNow_0 : decode cX6_triangulationNow 0 = .ok (.aload_n 0, 1) := by decide +kernel
theorem dX6_triangulationNow_1 : decode cX6_triangulationNow 1 = .ok (.getfield 7, 3) := by decide +kernel
theorem dX6_triangulationNow_4 : decode cX6_triangulationNow 4 = .ok (.iconst 1, 1) := by decide +kernel
theorem dX6_triangulationNow_5 : decode cX6_triangulationNow 5 = .ok (.iload_n 1, 1) := by decide +kernel
theorem dX6_triangulationNow_6 : decode cX6_triangulationNow 6 = .ok (.iadd, 1) := by decide +kernel
theorem dX6_triangulationNow_7 : decode cX6_triangulationNow 7 = .ok (.iaload, 1) := by decide +kernel
theorem dX6_triangulationNow_8 : decode cX6_triangulationNow 8 = .ok (.istore_n 3, 1) := by decide +kernel
theorem dX6_triangulationNow_9 : decode cX6_triangulationNow 9 = .ok (.iload_n 2, 1) := by decide +kernel
theorem dX6_triangulationNow_10 : decode cX6_triangulationNow 10 = .ok (.tableswitch 72 0 5 #[38, 40, 46, 52, 59, 66], 38) := by decide +kernel
theorem dX6_triangulationNow_48 : decode cX6_triangulationNow 48 = .ok (.iload_n 3, 1) := by decide +kernel
theorem dX6_triangulationNow_49 : decode cX6_triangulationNow 49 = .ok (.ireturn, 1) := by decide +kernel
theorem dX6_triangulationNow_50 : decode cX6_triangulationNow 50 = .ok (.aload_n 0, 1) := by decide +kernel
theorem dX6_triangulationNow_51 : decode cX6_triangulationNow 51 = .ok (.iload_n 3, 1) := by decide +kernel
theorem dX6_triangulationNow_52 : decode cX6_triangulationNow 52 = .ok (.invokevirtual 122, 3) := by decide +kernel
theorem dX6_triangulationNow_55 : decode cX6_triangulationNow 55 = .ok (.ireturn, 1) := by decide +kernel
theorem dX6_triangulationNow_56 : decode cX6_triangulationNow 56 = .ok (.aload_n 0, 1) := by decide +kernel
theorem dX6_triangulationNow_57 : decode cX6_triangulationNow 57 = .ok (.iload_n 3, 1) := by decide +kernel
theorem dX6_triangulationNow_58 : decode cX6_triangulationNow 58 = .ok (.invokevirtual 191, 3) := by decide +kernel
theorem dX6_triangulationNow_61 : decode cX6_triangulationNow 61 = .ok (.ireturn, 1) := by decide +kernel
theorem dX6_triangulationNow_62 : decode cX6_triangulationNow 62 = .ok (.aload_n 0, 1) := by decide +kernel
theorem dX6_triangulationNow_63 : decode cX6_triangulationNow 63 = .ok (.iload_n 3, 1) := by decide +kernel
theorem dX6_triangulationNow_64 : decode cX6_triangulationNow 64 = .ok (.iconst 1, 1) := by decide +kernel
theorem dX6_triangulationNow_65 : decode cX6_triangulationNow 65 = .ok (.invokevirtual 194, 3) := by decide +kernel
theorem dX6_triangulationNow_68 : decode cX6_triangulationNow 68 = .ok (.ireturn, 1) := by decide +kernel
theorem dX6_triangulationNow_69 : decode cX6_triangulationNow 69 = .ok (.aload_n 0, 1) := by decide +kernel
theorem dX6_triangulationNow_70 : decode cX6_triangulationNow 70 = .ok (.iload_n 3, 1) := by decide +kernel
theorem dX6_triangulationNow_71 : decode cX6_triangulationNow 71 = .ok (.iconst 0, 1) := by decide +kernel
theorem dX6_triangulationNow_72 : decode cX6_triangulationNow 72 = .ok (.invokevirtual 194, 3) := by decide +kernel
theorem dX6_triangulationNow_75 : decode cX6_triangulationNow 75 = .ok (.ireturn, 1) := by decide +kernel
theorem dX6_triangulationNow_76 : decode cX6_triangulationNow 76 = .ok (.aload_n 0, 1) := by decide +kernel
theorem dX6_triangulationNow_77 : decode cX6_triangulationNow 77 = .ok (.iload_n 3, 1) := by decide +kernel
theorem dX6_triangulationNow_78 : decode cX6_triangulationNow 78 = .ok (.invokevirtual 125, 3) := by decide +kernel
theorem dX6_triangulationNow_81 : decode cX6_triangulationNow 81 = .ok (.ireturn, 1) := by decide +kernel
theorem dX6_triangulationNow_82 : decode cX6_triangulationNow 82 = .ok (.aload_n 0, 1) := by decide +kernel
theorem dX6_triangulationNow_83 : decode cX6_triangulationNow 83 = .ok (.iload_n 3, 1) := by decide +kernel
theorem dX6_triangulationNow_84 : decode cX6_triangulationNow 84 = .ok (.invokevirtual 198, 3) := by decide +kernel
theorem dX6_triangulationNow_87 : decode cX6_triangulationNow 87 = .ok (.ireturn, 1) := by decide +kernel
set_option maxRecDepth 100000 in
set_option maxHeartbeats 4000000 in
theorem v_X6_triangulationNow {X : zq_X} (C : zq_C X RX6 cX6_triangulationNow 4 zq_all rm_X6_triangulationNow) {h : zq_H} {t : Nat} {x1 : Int32} {x2 : Int32} (T : zq_T X none) (hn : X.2.2.2.2.2.2.2.2.1.name = yX6_triangulationNow.name) {out : (Int32 × zq_H)} (hF : f_X6_triangulationNow h t x1 x2 = some out) (hE : zq_End X cX6_triangulationNow 0 0 (some (.int out.1)) out.2) : zq_W X 0 0 h 0 [(0, .ref t), (1, .int x1), (2, .int x2)] [] := by
  unfold f_X6_triangulationNow at hF
  refine zq_aload_n (pc' := 1) C dX6_triangulationNow_0 rfl rfl rfl ?_
  replace hF := zq_bd hF; obtain ⟨v_1, e_2, hF⟩ := hF
  refine zq_getR (j := 0) (pc' := 4) C zq_K6 zq_in6w (Or.inl wd_448) (by decide) rfl dX6_triangulationNow_1 rfl e_2 ?_
  refine zq_iconst (pc' := 5) C 1 dX6_triangulationNow_4 rfl (by decide) ?_
  refine zq_iload_n (pc' := 6) C dX6_triangulationNow_5 rfl rfl rfl ?_
  refine zq_iadd (pc' := 7) C dX6_triangulationNow_6 rfl ?_
  replace hF := zq_bd hF; obtain ⟨v_3, e_4, hF⟩ := hF
  refine zq_iaload (pc' := 8) C dX6_triangulationNow_7 rfl e_4 ?_
  refine zq_istore_n (lv' := [(3, .int v_3), (0, .ref t), (1, .int x1), (2, .int x2)]) (pc' := 9) C dX6_triangulationNow_8 rfl rfl (by decide) rfl rfl ?_
  refine zq_iload_n (pc' := 10) C dX6_triangulationNow_9 rfl rfl rfl ?_
  by_cases c_5 : x2 = 0
  · have hF := zq_ifp hF c_5
    refine zq_tsIn C 48 dX6_triangulationNow_10 (by rw [c_5]; decide) (by rw [c_5]; decide) (by rw [c_5]; rfl) (by decide) ?_
    refine zq_iload_n (pc' := 49) C dX6_triangulationNow_48 rfl rfl rfl ?_
    have hF := Option.some.inj hF
    subst hF
    exact hE _ _ _ _ (Nat.le_of_ble_eq_true rfl) (Nat.le_of_ble_eq_true rfl) dX6_triangulationNow_49
  have hF := zq_ifn hF c_5
  by_cases c_6 : x2 = 1
  · have hF := zq_ifp hF c_6
    refine zq_tsIn C 50 dX6_triangulationNow_10 (by rw [c_6]; decide) (by rw [c_6]; decide) (by rw [c_6]; rfl) (by decide) ?_
    refine zq_aload_n (pc' := 51) C dX6_triangulationNow_50 rfl rfl rfl ?_
    refine zq_iload_n (pc' := 52) C dX6_triangulationNow_51 rfl rfl rfl ?_
    replace hF := zq_ck_e hF; obtain ⟨e_9, hF⟩ := hF
    replace hF := zq_bd hF; obtain ⟨v_7, e_8, hF⟩ := hF
    refine zq_cV (pc' := 55) C (c_X6_codeOf e_8) yv_X6_codeOf wd_525 zq_K6 e_9 dX6_triangulationNow_52 rfl rfl rfl ⟨Nat.le_of_ble_eq_true rfl, Nat.le_of_ble_eq_true rfl⟩ (Nat.le_of_ble_eq_true rfl) ⟨rfl, rfl⟩ ⟨Nat.le_of_ble_eq_true rfl, Nat.le_of_ble_eq_true rfl⟩ rfl ?_
    have hF := Option.some.inj hF
    subst hF
    exact hE _ _ _ _ (Nat.le_of_ble_eq_true rfl) (Nat.le_of_ble_eq_true rfl) dX6_triangulationNow_55
  have hF := zq_ifn hF c_6
  by_cases c_10 : x2 = 2
  · have hF := zq_ifp hF c_10
    refine zq_tsIn C 56 dX6_triangulationNow_10 (by rw [c_10]; decide) (by rw [c_10]; decide) (by rw [c_10]; rfl) (by decide) ?_
    refine zq_aload_n (pc' := 57) C dX6_triangulationNow_56 rfl rfl rfl ?_
    refine zq_iload_n (pc' := 58) C dX6_triangulationNow_57 rfl rfl rfl ?_
    replace hF := zq_ck_e hF; obtain ⟨e_13, hF⟩ := hF
    replace hF := zq_bd hF; obtain ⟨v_11, e_12, hF⟩ := hF
    refine zq_cV (pc' := 61) C (c_X6_likenesses e_12) yv_X6_likenesses wd_629 zq_K6 e_13 dX6_triangulationNow_58 rfl rfl rfl ⟨Nat.le_of_ble_eq_true rfl, Nat.le_of_ble_eq_true rfl⟩ (Nat.le_of_ble_eq_true rfl) ⟨rfl, rfl⟩ ⟨Nat.le_of_ble_eq_true rfl, Nat.le_of_ble_eq_true rfl⟩ rfl ?_
    have hF := Option.some.inj hF
    subst hF
    exact hE _ _ _ _ (Nat.le_of_ble_eq_true rfl) (Nat.le_of_ble_eq_true rfl) dX6_triangulationNow_61
  have hF := zq_ifn hF c_10
  by_cases c_14 : x2 = 3
  · have hF := zq_ifp hF c_14
    refine zq_tsIn C 62 dX6_triangulationNow_10 (by rw [c_14]; decide) (by rw [c_14]; decide) (by rw [c_14]; rfl) (by decide) ?_
    refine zq_aload_n (pc' := 63) C dX6_triangulationNow_62 rfl rfl rfl ?_
    refine zq_iload_n (pc' := 64) C dX6_triangulationNow_63 rfl rfl rfl ?_
    refine zq_iconst (pc' := 65) C 1 dX6_triangulationNow_64 rfl (by decide) ?_
    replace hF := zq_ck_e hF; obtain ⟨e_17, hF⟩ := hF
    replace hF := zq_bd hF; obtain ⟨v_15, e_16, hF⟩ := hF
    refine zq_cV (pc' := 68) C (c_X6_cornersOf e_16) yv_X6_cornersOf wd_632 zq_K6 e_17 dX6_triangulationNow_65 rfl rfl rfl ⟨Nat.le_of_ble_eq_true rfl, Nat.le_of_ble_eq_true rfl⟩ (Nat.le_of_ble_eq_true rfl) ⟨rfl, rfl⟩ ⟨Nat.le_of_ble_eq_true rfl, Nat.le_of_ble_eq_true rfl⟩ rfl ?_
    have hF := Option.some.inj hF
    subst hF
    exact hE _ _ _ _ (Nat.le_of_ble_eq_true rfl) (Nat.le_of_ble_eq_true rfl) dX6_triangulationNow_68
  have hF := zq_ifn hF c_14
  by_cases c_18 : x2 = 4
  · have hF := zq_ifp hF c_18
    refine zq_tsIn C 69 dX6_triangulationNow_10 (by rw [c_18]; decide) (by rw [c_18]; decide) (by rw [c_18]; rfl) (by decide) ?_
    refine zq_aload_n (pc' := 70) C dX6_triangulationNow_69 rfl rfl rfl ?_
    refine zq_iload_n (pc' := 71) C dX6_triangulationNow_70 rfl rfl rfl ?_
    refine zq_iconst (pc' := 72) C 0 dX6_triangulationNow_71 rfl (by decide) ?_
    replace hF := zq_ck_e hF; obtain ⟨e_21, hF⟩ := hF
    replace hF := zq_bd hF; obtain ⟨v_19, e_20, hF⟩ := hF
    refine zq_cV (pc' := 75) C (c_X6_cornersOf e_20) yv_X6_cornersOf wd_632 zq_K6 e_21 dX6_triangulationNow_72 rfl rfl rfl ⟨Nat.le_of_ble_eq_true rfl, Nat.le_of_ble_eq_true rfl⟩ (Nat.le_of_ble_eq_true rfl) ⟨rfl, rfl⟩ ⟨Nat.le_of_ble_eq_true rfl, Nat.le_of_ble_eq_true rfl⟩ rfl ?_
    have hF := Option.some.inj hF
    subst hF
    exact hE _ _ _ _ (Nat.le_of_ble_eq_true rfl) (Nat.le_of_ble_eq_true rfl) dX6_triangulationNow_75
  have hF := zq_ifn hF c_18
  by_cases c_22 : x2 = 5
  · have hF := zq_ifp hF c_22
    refine zq_tsIn C 76 dX6_triangulationNow_10 (by rw [c_22]; decide) (by rw [c_22]; decide) (by rw [c_22]; rfl) (by decide) ?_
    refine zq_aload_n (pc' := 77) C dX6_triangulationNow_76 rfl rfl rfl ?_
    refine zq_iload_n (pc' := 78) C dX6_triangulationNow_77 rfl rfl rfl ?_
    replace hF := zq_ck_e hF; obtain ⟨e_25, hF⟩ := hF
    replace hF := zq_bd hF; obtain ⟨v_23, e_24, hF⟩ := hF
    refine zq_cV (pc' := 81) C (c_X6_farthestFrom e_24) yv_X6_farthestFrom wd_528 zq_K6 e_25 dX6_triangulationNow_78 rfl rfl rfl ⟨Nat.le_of_ble_eq_true rfl, Nat.le_of_ble_eq_true rfl⟩ (Nat.le_of_ble_eq_true rfl) ⟨rfl, rfl⟩ ⟨Nat.le_of_ble_eq_true rfl, Nat.le_of_ble_eq_true rfl⟩ rfl ?_
    have hF := Option.some.inj hF
    subst hF
    exact hE _ _ _ _ (Nat.le_of_ble_eq_true rfl) (Nat.le_of_ble_eq_true rfl) dX6_triangulationNow_81
  have hF := zq_ifn hF c_22
  refine zq_tsOut C 82 dX6_triangulationNow_10 (zq_out (n := 6) rfl rfl (by decide) (fun k hk => match k, hk with | 0, _ => c_5 | 1, _ => c_6 | 2, _ => c_10 | 3, _ => c_14 | 4, _ => c_18 | 5, _ => c_22 | k + 6, hk => absurd hk (by omega))) (by decide) ?_
  refine zq_aload_n (pc' := 83) C dX6_triangulationNow_82 rfl rfl rfl ?_
  refine zq_iload_n (pc' := 84) C dX6_triangulationNow_83 rfl rfl rfl ?_
  replace hF := zq_ck_e hF; obtain ⟨e_28, hF⟩ := hF
  replace hF := zq_bd hF; obtain ⟨v_26, e_27, hF⟩ := hF
  refine zq_cV (pc' := 87) C (c_X6_leastSoFar e_27) yv_X6_leastSoFar wd_635 zq_K6 e_28 dX6_triangulationNow_84 rfl rfl rfl ⟨Nat.le_of_ble_eq_true rfl, Nat.le_of_ble_eq_true rfl⟩ (Nat.le_of_ble_eq_true rfl) ⟨rfl, rfl⟩ ⟨Nat.le_of_ble_eq_true rfl, Nat.le_of_ble_eq_true rfl⟩ rfl ?_
  have hF := Option.some.inj hF
  subst hF
  exact hE _ _ _ _ (Nat.le_of_ble_eq_true rfl) (Nat.le_of_ble_eq_true rfl) dX6_triangulationNow_87
theorem c_X6_triangulationNow {h : zq_H} {t : Nat} {x1 : Int32} {x2 : Int32} {out : (Int32 × zq_H)} (hF : f_X6_triangulationNow h t x1 x2 = some out) : zq_M none yX6_triangulationNow (Cond.code yX6_triangulationNow cX6_triangulationNow 4 (some .int) :: zq_all) rm_X6_triangulationNow [.ref t, .int x1, .int x2] h (some (.int out.1)) out.2 := zq_met2 (own := RX6) (by decide +kernel) rfl (Nat.le_of_ble_eq_true rfl) rfl ⟨.int, rfl, rfl⟩ (fun X C T hn hE => v_X6_triangulationNow C T hn hF hE)
theorem yv_X6_triangulationNow : zq_calV yX6_triangulationNow RX6 cX6_triangulationNow 4 (some .int) 2 := ⟨by decide +kernel, wd_638, wd_640, wd_641, wd_458⟩
