def f_X6_layAll (h : zq_H) (t : Nat) : Option zq_H := (Option.bind (zq_gi h t 6 8) fun v_1 => (Option.bind (zq_gr h t 6 0) fun v_3 => (Option.bind (zq_ai h v_3 0) fun v_5 => (if v_1 = v_5 then some (h) else (Option.bind (zq_gr h t 6 0) fun v_8 => (Option.bind (zq_ai h v_8 0) fun v_10 => (Option.bind (zq_pi h t 6 8 v_10) fun h_12 => (zq_ck h_12 t 6 fun _ => (Option.bind (f_X6_layDiagonals h_12 t) fun v_14 => (zq_ck v_14 t 6 fun _ => (Option.bind (f_X6_findAll v_14 t) fun v_17 => (zq_ck v_17 t 6 fun _ => (Option.bind (f_X6_sortAll v_17 t) fun v_20 => (zq_ck v_20 t 6 fun _ => (Option.bind (f_X6_layLeads v_20 t) fun v_23 => (Option.bind (zq_pi v_23 t 6 16 0) fun h_26 => (Option.bind (zq_pi h_26 t 6 17 0) fun h_28 => ((zq_lp (σ := Int32 × zq_H) (ρ := zq_H) (fun s_30 => (Option.bind (zq_gi s_30.2 t 6 13) fun v_38 => (if v_38 ≤ s_30.1 then some (.inr s_30.2) else (Option.bind (zq_gi s_30.2 t 6 16) fun v_41 => (Option.bind (zq_gr s_30.2 t 6 14) fun v_43 => (Option.bind (zq_ai s_30.2 v_43 s_30.1) fun v_45 => (zq_ck s_30.2 t 6 fun _ => (Option.bind (f_X6_codeOf s_30.2 t v_45) fun v_47 => (Option.bind (zq_gr s_30.2 t 6 14) fun v_50 => (Option.bind (zq_ai s_30.2 v_50 s_30.1) fun v_52 => (if v_47 = v_52 then (Option.bind (zq_pi s_30.2 t 6 16 (v_41 + 1)) fun h_77 => (Option.bind (zq_gr h_77 t 6 14) fun v_79 => (Option.bind (zq_ai h_77 v_79 s_30.1) fun v_81 => (zq_ck h_77 t 6 fun _ => (Option.bind (f_X6_farthestFrom h_77 t v_81) fun v_83 => (Option.bind (zq_gi v_83.2 t 6 17) fun v_86 => (if v_83.1 ≤ v_86 then (Option.bind (zq_gi v_83.2 t 6 17) fun v_89 => (Option.bind (zq_pi v_83.2 t 6 17 v_89) fun h_91 => (zq_let (s_30.1 + 1) fun v_93 => some (.inl (v_93, h_91))))) else (Option.bind (zq_pi v_83.2 t 6 17 v_83.1) fun h_95 => (zq_let (s_30.1 + 1) fun v_97 => some (.inl (v_97, h_95))))))))))) else (Option.bind (zq_pi s_30.2 t 6 16 (v_41 + 0)) fun h_55 => (Option.bind (zq_gr h_55 t 6 14) fun v_57 => (Option.bind (zq_ai h_55 v_57 s_30.1) fun v_59 => (zq_ck h_55 t 6 fun _ => (Option.bind (f_X6_farthestFrom h_55 t v_59) fun v_61 => (Option.bind (zq_gi v_61.2 t 6 17) fun v_64 => (if v_61.1 ≤ v_64 then (Option.bind (zq_gi v_61.2 t 6 17) fun v_67 => (Option.bind (zq_pi v_61.2 t 6 17 v_67) fun h_69 => (zq_let (s_30.1 + 1) fun v_71 => some (.inl (v_71, h_69))))) else (Option.bind (zq_pi v_61.2 t 6 17 v_61.1) fun h_73 => (zq_let (s_30.1 + 1) fun v_75 => some (.inl (v_75, h_73)))))))))))))))))))))) zq_N (0, h_28)).bind (fun y_33 : zq_H => some (y_33))))))))))))))))))))
abbrev rm_X6_layAll : Room := { frames := 6, cells := 0, slots := 0, locals := 139 }
theorem dX6_layAll_0 : decode cX6_layAll 0 = .ok (.aload_n 0, 1) := by decide +kernel
theorem dX6_layAll_1 : decode cX6_layAll 1 = .ok (.getfield 101, 3) := by decide +kernel
theorem dX6_layAll_4 : decode cX6_layAll 4 = .ok (.aload_n 0, 1) := by decide +kernel
theorem dX6_layAll_5 : decode cX6_layAll 5 = .ok (.getfield 7, 3) := by decide +kernel
theorem dX6_layAll_8 : decode cX6_layAll 8 = .ok (.iconst 0, 1) := by decide +kernel
theorem dX6_layAll_9 : decode cX6_layAll 9 = .ok (.iaload, 1) := by decide +kernel
theorem dX6_layAll_10 : decode cX6_layAll 10 = .ok (.if_icmp .ne 4, 3) := by decide +kernel
theorem dX6_layAll_13 : decode cX6_layAll 13 = .ok (.return_, 1) := by decide +kernel
theorem dX6_layAll_14 : decode cX6_layAll 14 = .ok (.aload_n 0, 1) := by decide +kernel
theorem dX6_layAll_15 : decode cX6_layAll 15 = .ok (.aload_n 0, 1) := by decide +kernel
theorem dX6_layAll_16 : decode cX6_layAll 16 = .ok (.getfield 7, 3) := by decide +kernel
theorem dX6_layAll_19 : decode cX6_layAll 19 = .ok (.iconst 0, 1) := by decide +kernel
theorem dX6_layAll_20 : decode cX6_layAll 20 = .ok (.iaload, 1) := by decide +kernel
theorem dX6_layAll_21 : decode cX6_layAll 21 = .ok (.putfield 101, 3) := by decide +kernel
theorem dX6_layAll_24 : decode cX6_layAll 24 = .ok (.aload_n 0, 1) := by decide +kernel
theorem dX6_layAll_25 : decode cX6_layAll 25 = .ok (.invokevirtual 104, 3) := by decide +kernel
theorem dX6_layAll_28 : decode cX6_layAll 28 = .ok (.aload_n 0, 1) := by decide +kernel
theorem dX6_layAll_29 : decode cX6_layAll 29 = .ok (.invokevirtual 107, 3) := by decide +kernel
theorem dX6_layAll_32 : decode cX6_layAll 32 = .ok (.aload_n 0, 1) := by decide +kernel
theorem dX6_layAll_33 : decode cX6_layAll 33 = .ok (.invokevirtual 110, 3) := by decide +kernel
theorem dX6_layAll_36 : decode cX6_layAll 36 = .ok (.aload_n 0, 1) := by decide +kernel
theorem dX6_layAll_37 : decode cX6_layAll 37 = .ok (.invokevirtual 113, 3) := by decide +kernel
theorem dX6_layAll_40 : decode cX6_layAll 40 = .ok (.aload_n 0, 1) := by decide +kernel
theorem dX6_layAll_41 : decode cX6_layAll 41 = .ok (.iconst 0, 1) := by decide +kernel
theorem dX6_layAll_42 : decode cX6_layAll 42 = .ok (.putfield 116, 3) := by decide +kernel
theorem dX6_layAll_45 : decode cX6_layAll 45 = .ok (.aload_n 0, 1) := by decide +kernel
theorem dX6_layAll_46 : decode cX6_layAll 46 = .ok (.iconst 0, 1) := by decide +kernel
theorem dX6_layAll_47 : decode cX6_layAll 47 = .ok (.putfield 119, 3) := by decide +kernel
theorem dX6_layAll_50 : decode cX6_layAll 50 = .ok (.iconst 0, 1) := by decide +kernel
theorem dX6_layAll_51 : decode cX6_layAll 51 = .ok (.istore_n 1, 1) := by decide +kernel
theorem dX6_layAll_52 : decode cX6_layAll 52 = .ok (.iload_n 1, 1) := by decide +kernel
theorem dX6_layAll_53 : decode cX6_layAll 53 = .ok (.aload_n 0, 1) := by decide +kernel
theorem dX6_layAll_54 : decode cX6_layAll 54 = .ok (.getfield 88, 3) := by decide +kernel
theorem dX6_layAll_57 : decode cX6_layAll 57 = .ok (.if_icmp .ge 73, 3) := by decide +kernel
theorem dX6_layAll_60 : decode cX6_layAll 60 = .ok (.aload_n 0, 1) := by decide +kernel
theorem dX6_layAll_61 : decode cX6_layAll 61 = .ok (.dup, 1) := by decide +kernel
theorem dX6_layAll_62 : decode cX6_layAll 62 = .ok (.getfield 116, 3) := by decide +kernel
theorem dX6_layAll_65 : decode cX6_layAll 65 = .ok (.aload_n 0, 1) := by decide +kernel
theorem dX6_layAll_66 : decode cX6_layAll 66 = .ok (.aload_n 0, 1) := by decide +kernel
theorem dX6_layAll_67 : decode cX6_layAll 67 = .ok (.getfield 34, 3) := by decide +kernel
theorem dX6_layAll_70 : decode cX6_layAll 70 = .ok (.iload_n 1, 1) := by decide +kernel
theorem dX6_layAll_71 : decode cX6_layAll 71 = .ok (.iaload, 1) := by decide +kernel
theorem dX6_layAll_72 : decode cX6_layAll 72 = .ok (.invokevirtual 122, 3) := by decide +kernel
theorem dX6_layAll_75 : decode cX6_layAll 75 = .ok (.aload_n 0, 1) := by decide +kernel
theorem dX6_layAll_76 : decode cX6_layAll 76 = .ok (.getfield 34, 3) := by decide +kernel
theorem dX6_layAll_79 : decode cX6_layAll 79 = .ok (.iload_n 1, 1) := by decide +kernel
theorem dX6_layAll_80 : decode cX6_layAll 80 = .ok (.iaload, 1) := by decide +kernel
theorem dX6_layAll_81 : decode cX6_layAll 81 = .ok (.if_icmp .ne 7, 3) := by decide +kernel
theorem dX6_layAll_84 : decode cX6_layAll 84 = .ok (.iconst 1, 1) := by decide +kernel
theorem dX6_layAll_85 : decode cX6_layAll 85 = .ok (.goto 4, 3) := by decide +kernel
theorem dX6_layAll_88 : decode cX6_layAll 88 = .ok (.iconst 0, 1) := by decide +kernel
theorem dX6_layAll_89 : decode cX6_layAll 89 = .ok (.iadd, 1) := by decide +kernel
theorem dX6_layAll_90 : decode cX6_layAll 90 = .ok (.putfield 116, 3) := by decide +kernel
theorem dX6_layAll_93 : decode cX6_layAll 93 = .ok (.aload_n 0, 1) := by decide +kernel
theorem dX6_layAll_94 : decode cX6_layAll 94 = .ok (.aload_n 0, 1) := by decide +kernel
theorem dX6_layAll_95 : decode cX6_layAll 95 = .ok (.getfield 34, 3) := by decide +kernel
theorem dX6_layAll_98 : decode cX6_layAll 98 = .ok (.iload_n 1, 1) := by decide +kernel
theorem dX6_layAll_99 : decode cX6_layAll 99 = .ok (.iaload, 1) := by decide +kernel
theorem dX6_layAll_100 : decode cX6_layAll 100 = .ok (.invokevirtual 125, 3) := by decide +kernel
theorem dX6_layAll_103 : decode cX6_layAll 103 = .ok (.istore_n 2, 1) := by decide +kernel
theorem dX6_layAll_104 : decode cX6_layAll 104 = .ok (.aload_n 0, 1) := by decide +kernel
theorem dX6_layAll_105 : decode cX6_layAll 105 = .ok (.iload_n 2, 1) := by decide +kernel
theorem dX6_layAll_106 : decode cX6_layAll 106 = .ok (.aload_n 0, 1) := by decide +kernel
theorem dX6_layAll_107 : decode cX6_layAll 107 = .ok (.getfield 119, 3) := by decide +kernel
theorem dX6_layAll_110 : decode cX6_layAll 110 = .ok (.if_icmp .le 7, 3) := by decide +kernel
theorem dX6_layAll_113 : decode cX6_layAll 113 = .ok (.iload_n 2, 1) := by decide +kernel
theorem dX6_layAll_114 : decode cX6_layAll 114 = .ok (.goto 7, 3) := by decide +kernel
theorem dX6_layAll_117 : decode cX6_layAll 117 = .ok (.aload_n 0, 1) := by decide +kernel
theorem dX6_layAll_118 : decode cX6_layAll 118 = .ok (.getfield 119, 3) := by decide +kernel
theorem dX6_layAll_121 : decode cX6_layAll 121 = .ok (.putfield 119, 3) := by decide +kernel
theorem dX6_layAll_124 : decode cX6_layAll 124 = .ok (.iinc 1 1, 3) := by decide +kernel
theorem dX6_layAll_127 : decode cX6_layAll 127 = .ok (.goto (-75), 3) := by decide +kernel
theorem dX6_layAll_130 : decode cX6_layAll 130 = .ok (.return_, 1) := by decide +kernel
set_option maxRecDepth 100000 in
set_option maxHeartbeats 4000000 in
theorem v_X6_layAll {X : zq_X} (C : zq_C X RX6 cX6_layAll 3 zq_all rm_X6_layAll) {h : zq_H} {t : Nat} (T : zq_T X none) (hn : X.2.2.2.2.2.2.2.2.1.name = yX6_layAll.name) {out : zq_H} (hF : f_X6_layAll h t = some out) (hE : zq_End X cX6_layAll 0 0 none out) : zq_W X 0 0 h 0 [(0, .ref t)] [] := by
  unfold f_X6_layAll at hF
  refine zq_aload_n (pc' := 1) C dX6_layAll_0 rfl rfl rfl ?_
  replace hF := zq_bd hF; obtain ⟨v_1, e_2, hF⟩ := hF
  refine zq_getI (j := 8) (pc' := 4) C zq_K6 zq_in6w (Or.inl wd_510) (by decide) rfl dX6_layAll_1 rfl e_2 ?_
  refine zq_aload_n (pc' := 5) C dX6_layAll_4 rfl rfl rfl ?_
  replace hF := zq_bd hF; obtain ⟨v_3, e_4, hF⟩ := hF
  refine zq_getR (j := 0) (pc' := 8) C zq_K6 zq_in6w (Or.inl wd_448) (by decide) rfl dX6_layAll_5 rfl e_4 ?_
  refine zq_iconst (pc' := 9) C 0 dX6_layAll_8 rfl (by decide) ?_
  replace hF := zq_bd hF; obtain ⟨v_5, e_6, hF⟩ := hF
  refine zq_iaload (pc' := 10) C dX6_layAll_9 rfl e_6 ?_
  refine zq_icmp_ne (pc' := 13) C 14 dX6_layAll_10 (by decide) rfl (fun c_7 => ?_) (fun c_7 => ?_)
  · have hF := (zq_ifn hF c_7)
    skip
    refine zq_aload_n (pc' := 15) C dX6_layAll_14 rfl rfl rfl ?_
    refine zq_aload_n (pc' := 16) C dX6_layAll_15 rfl rfl rfl ?_
    replace hF := zq_bd hF; obtain ⟨v_8, e_9, hF⟩ := hF
    refine zq_getR (j := 0) (pc' := 19) C zq_K6 zq_in6w (Or.inl wd_448) (by decide) rfl dX6_layAll_16 rfl e_9 ?_
    refine zq_iconst (pc' := 20) C 0 dX6_layAll_19 rfl (by decide) ?_
    replace hF := zq_bd hF; obtain ⟨v_10, e_11, hF⟩ := hF
    refine zq_iaload (pc' := 21) C dX6_layAll_20 rfl e_11 ?_
    replace hF := zq_bd hF; obtain ⟨h_12, e_13, hF⟩ := hF
    refine zq_putI (j := 8) (pc' := 24) C zq_K6 zq_in6w (Or.inl wd_510) (by decide) rfl rfl dX6_layAll_21 rfl (Or.inl rfl) e_13 ?_
    refine zq_aload_n (pc' := 25) C dX6_layAll_24 rfl rfl rfl ?_
    replace hF := zq_ck_e hF; obtain ⟨e_16, hF⟩ := hF
    replace hF := zq_bd hF; obtain ⟨v_14, e_15, hF⟩ := hF
    refine zq_cV (pc' := 28) C (c_X6_layDiagonals e_15) yv_X6_layDiagonals wd_513 zq_K6 e_16 dX6_layAll_25 rfl rfl rfl ⟨Nat.le_of_ble_eq_true rfl, Nat.le_of_ble_eq_true rfl⟩ (Nat.le_of_ble_eq_true rfl) ⟨rfl, rfl⟩ ⟨Nat.le_of_ble_eq_true rfl, Nat.le_of_ble_eq_true rfl⟩ rfl ?_
    refine zq_aload_n (pc' := 29) C dX6_layAll_28 rfl rfl rfl ?_
    replace hF := zq_ck_e hF; obtain ⟨e_19, hF⟩ := hF
    replace hF := zq_bd hF; obtain ⟨v_17, e_18, hF⟩ := hF
    refine zq_cV (pc' := 32) C (c_X6_findAll e_18) yv_X6_findAll wd_516 zq_K6 e_19 dX6_layAll_29 rfl rfl rfl ⟨Nat.le_of_ble_eq_true rfl, Nat.le_of_ble_eq_true rfl⟩ (Nat.le_of_ble_eq_true rfl) ⟨rfl, rfl⟩ ⟨Nat.le_of_ble_eq_true rfl, Nat.le_of_ble_eq_true rfl⟩ rfl ?_
    refine zq_aload_n (pc' := 33) C dX6_layAll_32 rfl rfl rfl ?_
    replace hF := zq_ck_e hF; obtain ⟨e_22, hF⟩ := hF
    replace hF := zq_bd hF; obtain ⟨v_20, e_21, hF⟩ := hF
    refine zq_cV (pc' := 36) C (c_X6_sortAll e_21) yv_X6_sortAll wd_519 zq_K6 e_22 dX6_layAll_33 rfl rfl rfl ⟨Nat.le_of_ble_eq_true rfl, Nat.le_of_ble_eq_true rfl⟩ (Nat.le_of_ble_eq_true rfl) ⟨rfl, rfl⟩ ⟨Nat.le_of_ble_eq_true rfl, Nat.le_of_ble_eq_true rfl⟩ rfl ?_
    refine zq_aload_n (pc' := 37) C dX6_layAll_36 rfl rfl rfl ?_
    replace hF := zq_ck_e hF; obtain ⟨e_25, hF⟩ := hF
    replace hF := zq_bd hF; obtain ⟨v_23, e_24, hF⟩ := hF
    refine zq_cV (pc' := 40) C (c_X6_layLeads e_24) yv_X6_layLeads wd_522 zq_K6 e_25 dX6_layAll_37 rfl rfl rfl ⟨Nat.le_of_ble_eq_true rfl, Nat.le_of_ble_eq_true rfl⟩ (Nat.le_of_ble_eq_true rfl) ⟨rfl, rfl⟩ ⟨Nat.le_of_ble_eq_true rfl, Nat.le_of_ble_eq_true rfl⟩ rfl ?_
    refine zq_aload_n (pc' := 41) C dX6_layAll_40 rfl rfl rfl ?_
    refine zq_iconst (pc' := 42) C 0 dX6_layAll_41 rfl (by decide) ?_
    replace hF := zq_bd hF; obtain ⟨h_26, e_27, hF⟩ := hF
    refine zq_putI (j := 16) (pc' := 45) C zq_K6 zq_in6w (Or.inl wd_511) (by decide) rfl rfl dX6_layAll_42 rfl (Or.inl rfl) e_27 ?_
    refine zq_aload_n (pc' := 46) C dX6_layAll_45 rfl rfl rfl ?_
    refine zq_iconst (pc' := 47) C 0 dX6_layAll_46 rfl (by decide) ?_
    replace hF := zq_bd hF; obtain ⟨h_28, e_29, hF⟩ := hF
    refine zq_putI (j := 17) (pc' := 50) C zq_K6 zq_in6w (Or.inl wd_512) (by decide) rfl rfl dX6_layAll_47 rfl (Or.inl rfl) e_29 ?_
    refine zq_iconst (pc' := 51) C 0 dX6_layAll_50 rfl (by decide) ?_
    refine zq_istore_n (lv' := [(1, .int 0), (0, .ref t)]) (pc' := 52) C dX6_layAll_51 rfl rfl (by decide) rfl rfl ?_
    refine zq_sub [1, 0] rfl ?_
    replace hF := zq_bd hF; obtain ⟨r_31, e_32, hF⟩ := hF
    refine zq_lpW (fun s_30 => zq_W X 0 0 s_30.2 52 [(0, .ref t), (1, .int s_30.1)] []) (fun y_33 => zq_W X 0 0 y_33 130 [] []) e_32 (fun s_30 q_37 hF hrec_35 hex_36 => ?_) ?_
    · skip
      refine zq_iload_n (pc' := 53) C dX6_layAll_52 rfl rfl rfl ?_
      refine zq_aload_n (pc' := 54) C dX6_layAll_53 rfl rfl rfl ?_
      replace hF := zq_bd hF; obtain ⟨v_38, e_39, hF⟩ := hF
      refine zq_getI (j := 13) (pc' := 57) C zq_K6 zq_in6w (Or.inl wd_474) (by decide) rfl dX6_layAll_54 rfl e_39 ?_
      refine zq_icmp_ge (pc' := 60) C 130 dX6_layAll_57 (by decide) rfl (fun c_40 => ?_) (fun c_40 => ?_)
      · have hF := (zq_ifp hF c_40)
        skip
        cases hF
        exact zq_sub [] rfl (hex_36 _ rfl)
      · have hF := (zq_ifn hF c_40)
        refine zq_aload_n (pc' := 61) C dX6_layAll_60 rfl rfl rfl ?_
        refine zq_dup (pc' := 62) C dX6_layAll_61 rfl rfl ?_
        replace hF := zq_bd hF; obtain ⟨v_41, e_42, hF⟩ := hF
        refine zq_getI (j := 16) (pc' := 65) C zq_K6 zq_in6w (Or.inl wd_511) (by decide) rfl dX6_layAll_62 rfl e_42 ?_
        refine zq_aload_n (pc' := 66) C dX6_layAll_65 rfl rfl rfl ?_
        refine zq_aload_n (pc' := 67) C dX6_layAll_66 rfl rfl rfl ?_
        replace hF := zq_bd hF; obtain ⟨v_43, e_44, hF⟩ := hF
        refine zq_getR (j := 14) (pc' := 70) C zq_K6 zq_in6w (Or.inl wd_475) (by decide) rfl dX6_layAll_67 rfl e_44 ?_
        refine zq_iload_n (pc' := 71) C dX6_layAll_70 rfl rfl rfl ?_
        replace hF := zq_bd hF; obtain ⟨v_45, e_46, hF⟩ := hF
        refine zq_iaload (pc' := 72) C dX6_layAll_71 rfl e_46 ?_
        replace hF := zq_ck_e hF; obtain ⟨e_49, hF⟩ := hF
        replace hF := zq_bd hF; obtain ⟨v_47, e_48, hF⟩ := hF
        refine zq_cV (pc' := 75) C (c_X6_codeOf e_48) yv_X6_codeOf wd_525 zq_K6 e_49 dX6_layAll_72 rfl rfl rfl ⟨Nat.le_of_ble_eq_true rfl, Nat.le_of_ble_eq_true rfl⟩ (Nat.le_of_ble_eq_true rfl) ⟨rfl, rfl⟩ ⟨Nat.le_of_ble_eq_true rfl, Nat.le_of_ble_eq_true rfl⟩ rfl ?_
        refine zq_aload_n (pc' := 76) C dX6_layAll_75 rfl rfl rfl ?_
        replace hF := zq_bd hF; obtain ⟨v_50, e_51, hF⟩ := hF
        refine zq_getR (j := 14) (pc' := 79) C zq_K6 zq_in6w (Or.inl wd_475) (by decide) rfl dX6_layAll_76 rfl e_51 ?_
        refine zq_iload_n (pc' := 80) C dX6_layAll_79 rfl rfl rfl ?_
        replace hF := zq_bd hF; obtain ⟨v_52, e_53, hF⟩ := hF
        refine zq_iaload (pc' := 81) C dX6_layAll_80 rfl e_53 ?_
        refine zq_icmp_ne (pc' := 84) C 88 dX6_layAll_81 (by decide) rfl (fun c_54 => ?_) (fun c_54 => ?_)
        · have hF := (zq_ifn hF c_54)
          skip
          refine zq_iconst (pc' := 89) C 0 dX6_layAll_88 rfl (by decide) ?_
          refine zq_iadd (pc' := 90) C dX6_layAll_89 rfl ?_
          replace hF := zq_bd hF; obtain ⟨h_55, e_56, hF⟩ := hF
          refine zq_putI (j := 16) (pc' := 93) C zq_K6 zq_in6w (Or.inl wd_511) (by decide) rfl rfl dX6_layAll_90 rfl (Or.inl rfl) e_56 ?_
          refine zq_aload_n (pc' := 94) C dX6_layAll_93 rfl rfl rfl ?_
          refine zq_aload_n (pc' := 95) C dX6_layAll_94 rfl rfl rfl ?_
          replace hF := zq_bd hF; obtain ⟨v_57, e_58, hF⟩ := hF
          refine zq_getR (j := 14) (pc' := 98) C zq_K6 zq_in6w (Or.inl wd_475) (by decide) rfl dX6_layAll_95 rfl e_58 ?_
          refine zq_iload_n (pc' := 99) C dX6_layAll_98 rfl rfl rfl ?_
          replace hF := zq_bd hF; obtain ⟨v_59, e_60, hF⟩ := hF
          refine zq_iaload (pc' := 100) C dX6_layAll_99 rfl e_60 ?_
          replace hF := zq_ck_e hF; obtain ⟨e_63, hF⟩ := hF
          replace hF := zq_bd hF; obtain ⟨v_61, e_62, hF⟩ := hF
          refine zq_cV (pc' := 103) C (c_X6_farthestFrom e_62) yv_X6_farthestFrom wd_528 zq_K6 e_63 dX6_layAll_100 rfl rfl rfl ⟨Nat.le_of_ble_eq_true rfl, Nat.le_of_ble_eq_true rfl⟩ (Nat.le_of_ble_eq_true rfl) ⟨rfl, rfl⟩ ⟨Nat.le_of_ble_eq_true rfl, Nat.le_of_ble_eq_true rfl⟩ rfl ?_
          refine zq_istore_n (lv' := [(2, .int v_61.1), (0, .ref t), (1, .int s_30.1)]) (pc' := 104) C dX6_layAll_103 rfl rfl (by decide) rfl rfl ?_
          refine zq_aload_n (pc' := 105) C dX6_layAll_104 rfl rfl rfl ?_
          refine zq_iload_n (pc' := 106) C dX6_layAll_105 rfl rfl rfl ?_
          refine zq_aload_n (pc' := 107) C dX6_layAll_106 rfl rfl rfl ?_
          replace hF := zq_bd hF; obtain ⟨v_64, e_65, hF⟩ := hF
          refine zq_getI (j := 17) (pc' := 110) C zq_K6 zq_in6w (Or.inl wd_512) (by decide) rfl dX6_layAll_107 rfl e_65 ?_
          refine zq_icmp_le (pc' := 113) C 117 dX6_layAll_110 (by decide) rfl (fun c_66 => ?_) (fun c_66 => ?_)
          · have hF := (zq_ifp hF c_66)
            skip
            refine zq_aload_n (pc' := 118) C dX6_layAll_117 rfl rfl rfl ?_
            replace hF := zq_bd hF; obtain ⟨v_67, e_68, hF⟩ := hF
            refine zq_getI (j := 17) (pc' := 121) C zq_K6 zq_in6w (Or.inl wd_512) (by decide) rfl dX6_layAll_118 rfl e_68 ?_
            replace hF := zq_bd hF; obtain ⟨h_69, e_70, hF⟩ := hF
            refine zq_putI (j := 17) (pc' := 124) C zq_K6 zq_in6w (Or.inl wd_512) (by decide) rfl rfl dX6_layAll_121 rfl (Or.inl rfl) e_70 ?_
            replace hF := zq_let_e hF; obtain ⟨v_71, e_72, hF⟩ := hF
            refine zq_iinc (lv' := [(1, .int v_71), (2, .int v_61.1), (0, .ref t)]) (pc' := 127) C dX6_layAll_124 rfl (by decide) 2 rfl e_72 rfl ?_
            refine zq_goto C 52 dX6_layAll_127 (by decide) ?_
            cases hF
            exact zq_sub [2, 0] rfl (hrec_35 _ rfl)
          · have hF := (zq_ifn hF c_66)
            refine zq_iload_n (pc' := 114) C dX6_layAll_113 rfl rfl rfl ?_
            refine zq_goto C 121 dX6_layAll_114 (by decide) ?_
            replace hF := zq_bd hF; obtain ⟨h_73, e_74, hF⟩ := hF
            refine zq_putI (j := 17) (pc' := 124) C zq_K6 zq_in6w (Or.inl wd_512) (by decide) rfl rfl dX6_layAll_121 rfl (Or.inl rfl) e_74 ?_
            replace hF := zq_let_e hF; obtain ⟨v_75, e_76, hF⟩ := hF
            refine zq_iinc (lv' := [(1, .int v_75), (2, .int v_61.1), (0, .ref t)]) (pc' := 127) C dX6_layAll_124 rfl (by decide) 2 rfl e_76 rfl ?_
            refine zq_goto C 52 dX6_layAll_127 (by decide) ?_
            cases hF
            exact zq_sub [2, 0] rfl (hrec_35 _ rfl)
        · have hF := (zq_ifp hF c_54)
          refine zq_iconst (pc' := 85) C 1 dX6_layAll_84 rfl (by decide) ?_
          refine zq_goto C 89 dX6_layAll_85 (by decide) ?_
          refine zq_iadd (pc' := 90) C dX6_layAll_89 rfl ?_
          replace hF := zq_bd hF; obtain ⟨h_77, e_78, hF⟩ := hF
          refine zq_putI (j := 16) (pc' := 93) C zq_K6 zq_in6w (Or.inl wd_511) (by decide) rfl rfl dX6_layAll_90 rfl (Or.inl rfl) e_78 ?_
          refine zq_aload_n (pc' := 94) C dX6_layAll_93 rfl rfl rfl ?_
          refine zq_aload_n (pc' := 95) C dX6_layAll_94 rfl rfl rfl ?_
          replace hF := zq_bd hF; obtain ⟨v_79, e_80, hF⟩ := hF
          refine zq_getR (j := 14) (pc' := 98) C zq_K6 zq_in6w (Or.inl wd_475) (by decide) rfl dX6_layAll_95 rfl e_80 ?_
          refine zq_iload_n (pc' := 99) C dX6_layAll_98 rfl rfl rfl ?_
          replace hF := zq_bd hF; obtain ⟨v_81, e_82, hF⟩ := hF
          refine zq_iaload (pc' := 100) C dX6_layAll_99 rfl e_82 ?_
          replace hF := zq_ck_e hF; obtain ⟨e_85, hF⟩ := hF
          replace hF := zq_bd hF; obtain ⟨v_83, e_84, hF⟩ := hF
          refine zq_cV (pc' := 103) C (c_X6_farthestFrom e_84) yv_X6_farthestFrom wd_528 zq_K6 e_85 dX6_layAll_100 rfl rfl rfl ⟨Nat.le_of_ble_eq_true rfl, Nat.le_of_ble_eq_true rfl⟩ (Nat.le_of_ble_eq_true rfl) ⟨rfl, rfl⟩ ⟨Nat.le_of_ble_eq_true rfl, Nat.le_of_ble_eq_true rfl⟩ rfl ?_
          refine zq_istore_n (lv' := [(2, .int v_83.1), (0, .ref t), (1, .int s_30.1)]) (pc' := 104) C dX6_layAll_103 rfl rfl (by decide) rfl rfl ?_
          refine zq_aload_n (pc' := 105) C dX6_layAll_104 rfl rfl rfl ?_
          refine zq_iload_n (pc' := 106) C dX6_layAll_105 rfl rfl rfl ?_
          refine zq_aload_n (pc' := 107) C dX6_layAll_106 rfl rfl rfl ?_
          replace hF := zq_bd hF; obtain ⟨v_86, e_87, hF⟩ := hF
          refine zq_getI (j := 17) (pc' := 110) C zq_K6 zq_in6w (Or.inl wd_512) (by decide) rfl dX6_layAll_107 rfl e_87 ?_
          refine zq_icmp_le (pc' := 113) C 117 dX6_layAll_110 (by decide) rfl (fun c_88 => ?_) (fun c_88 => ?_)
          · have hF := (zq_ifp hF c_88)
            skip
            refine zq_aload_n (pc' := 118) C dX6_layAll_117 rfl rfl rfl ?_
            replace hF := zq_bd hF; obtain ⟨v_89, e_90, hF⟩ := hF
            refine zq_getI (j := 17) (pc' := 121) C zq_K6 zq_in6w (Or.inl wd_512) (by decide) rfl dX6_layAll_118 rfl e_90 ?_
            replace hF := zq_bd hF; obtain ⟨h_91, e_92, hF⟩ := hF
            refine zq_putI (j := 17) (pc' := 124) C zq_K6 zq_in6w (Or.inl wd_512) (by decide) rfl rfl dX6_layAll_121 rfl (Or.inl rfl) e_92 ?_
            replace hF := zq_let_e hF; obtain ⟨v_93, e_94, hF⟩ := hF
            refine zq_iinc (lv' := [(1, .int v_93), (2, .int v_83.1), (0, .ref t)]) (pc' := 127) C dX6_layAll_124 rfl (by decide) 2 rfl e_94 rfl ?_
            refine zq_goto C 52 dX6_layAll_127 (by decide) ?_
            cases hF
            exact zq_sub [2, 0] rfl (hrec_35 _ rfl)
          · have hF := (zq_ifn hF c_88)
            refine zq_iload_n (pc' := 114) C dX6_layAll_113 rfl rfl rfl ?_
            refine zq_goto C 121 dX6_layAll_114 (by decide) ?_
            replace hF := zq_bd hF; obtain ⟨h_95, e_96, hF⟩ := hF
            refine zq_putI (j := 17) (pc' := 124) C zq_K6 zq_in6w (Or.inl wd_512) (by decide) rfl rfl dX6_layAll_121 rfl (Or.inl rfl) e_96 ?_
            replace hF := zq_let_e hF; obtain ⟨v_97, e_98, hF⟩ := hF
            refine zq_iinc (lv' := [(1, .int v_97), (2, .int v_83.1), (0, .ref t)]) (pc' := 127) C dX6_layAll_124 rfl (by decide) 2 rfl e_98 rfl ?_
            refine zq_goto C 52 dX6_layAll_127 (by decide) ?_
            cases hF
            exact zq_sub [2, 0] rfl (hrec_35 _ rfl)
    · skip
      obtain ⟨y_33, rfl⟩ : ∃ z9, z9 = r_31 := ⟨_, rfl⟩
      show zq_W X 0 0 y_33 130 [] []
      have hF := Option.some.inj hF
      subst hF
      exact hE _ _ _ _ (Nat.le_of_ble_eq_true rfl) (Nat.le_of_ble_eq_true rfl) dX6_layAll_130
  · have hF := (zq_ifp hF c_7)
    have hF := Option.some.inj hF
    subst hF
    exact hE _ _ _ _ (Nat.le_of_ble_eq_true rfl) (Nat.le_of_ble_eq_true rfl) dX6_layAll_13
theorem c_X6_layAll {h : zq_H} {t : Nat} {out : zq_H} (hF : f_X6_layAll h t = some out) : zq_M none yX6_layAll (Cond.code yX6_layAll cX6_layAll 3 none :: zq_all) rm_X6_layAll [.ref t] h none out := zq_met2 (own := RX6) (by decide +kernel) rfl (Nat.le_of_ble_eq_true rfl) rfl rfl (fun X C T hn hE => v_X6_layAll C T hn hF hE)
theorem yv_X6_layAll : zq_calV yX6_layAll RX6 cX6_layAll 3 none 0 := ⟨by decide +kernel, wd_531, wd_538, wd_539, wd_458⟩
def f_X6_init (h : zq_H) (t : Nat) : Option zq_H := (Option.bind (zq_na h (t + 1) 10 5 5) fun h_1 => (Option.bind (zq_pr h_1 t 6 0 (t + 1)) fun h_3 => (Option.bind (zq_na h_3 (t + 2) 10 30 30) fun h_5 => (Option.bind (zq_pr h_5 t 6 2 (t + 2)) fun h_7 => (Option.bind (zq_na h_7 (t + 3) 10 10 10) fun h_9 => (Option.bind (zq_pr h_9 t 6 3 (t + 3)) fun h_11 => (Option.bind (zq_na h_11 (t + 4) 10 2 2) fun h_13 => (Option.bind (zq_pr h_13 t 6 4 (t + 4)) fun h_15 => (Option.bind (zq_na h_15 (t + 5) 10 60 60) fun h_17 => (Option.bind (zq_pr h_17 t 6 6 (t + 5)) fun h_19 => (Option.bind (zq_na h_19 (t + 6) 10 27 27) fun h_21 => (Option.bind (zq_pr h_21 t 6 10 (t + 6)) fun h_23 => (Option.bind (zq_na h_23 (t + 7) 10 27 27) fun h_25 => (Option.bind (zq_pr h_25 t 6 11 (t + 7)) fun h_27 => (Option.bind (zq_na h_27 (t + 8) 10 81 81) fun h_29 => (Option.bind (zq_pr h_29 t 6 12 (t + 8)) fun h_31 => (Option.bind (zq_na h_31 (t + 9) 10 429 429) fun h_33 => (Option.bind (zq_pr h_33 t 6 14 (t + 9)) fun h_35 => (Option.bind (zq_na h_35 (t + 10) 10 2574 2574) fun h_37 => (Option.bind (zq_pr h_37 t 6 15 (t + 10)) fun h_39 => (Option.bind (zq_na h_39 (t + 11) 10 429 429) fun h_41 => (Option.bind (zq_pr h_41 t 6 18 (t + 11)) fun h_43 => (Option.bind (zq_na h_43 (t + 12) 10 429 429) fun h_45 => (Option.bind (zq_pr h_45 t 6 19 (t + 12)) fun h_47 => (Option.bind (zq_na h_47 (t + 13) 10 429 429) fun h_49 => (Option.bind (zq_pr h_49 t 6 20 (t + 13)) fun h_51 => (zq_is (zq_gr h_51 t 6 0) (t + 1) fun _ => (Option.bind (zq_si h_51 (t + 1) 0 6) fun h_55 => (zq_ck h_55 t 6 fun _ => (Option.bind (f_X6_layAll h_55 t) fun v_57 => (zq_is (zq_gr v_57 t 6 0) (t + 1) fun _ => (zq_ck v_57 t 6 fun _ => (Option.bind (f_X6_fanOf v_57 t 0) fun v_62 => (Option.bind (zq_si v_57 (t + 1) 1 v_62) fun h_65 => (zq_is (zq_gr h_65 t 6 0) (t + 1) fun _ => (zq_ck h_65 t 6 fun _ => (Option.bind (f_X6_fanOf h_65 t 0) fun v_69 => (Option.bind (zq_si h_65 (t + 1) 2 v_69) fun h_72 => some (h_72)))))))))))))))))))))))))))))))))))))))
abbrev rm_X6_init : Room := { frames := 7, cells := 13, slots := 4532, locals := 161 }
theorem dX6_init_0 : decode cX6_init 0 = .ok (.aload_n 0, 1) := by decide +kernel
theorem dX6_init_1 : decode cX6_init 1 = .ok (.invokespecial 1, 3) := by decide +kernel
theorem dX6_init_4 : decode cX6_init 4 = .ok (.aload_n 0, 1) := by decide +kernel
theorem dX6_init_5 : decode cX6_init 5 = .ok (.iconst 5, 1) := by decide +kernel
theorem dX6_init_6 : decode cX6_init 6 = .ok (.newarray .int, 2) := by decide +kernel
theorem dX6_init_8 : decode cX6_init 8 = .ok (.putfield 7, 3) := by decide +kernel
theorem dX6_init_11 : decode cX6_init 11 = .ok (.aload_n 0, 1) := by decide +kernel
theorem dX6_init_12 : decode cX6_init 12 = .ok (.bipush 30, 2) := by decide +kernel
theorem dX6_init_14 : decode cX6_init 14 = .ok (.newarray .int, 2) := by decide +kernel
theorem dX6_init_16 : decode cX6_init 16 = .ok (.putfield 13, 3) := by decide +kernel
theorem dX6_init_19 : decode cX6_init 19 = .ok (.aload_n 0, 1) := by decide +kernel
theorem dX6_init_20 : decode cX6_init 20 = .ok (.bipush 10, 2) := by decide +kernel
theorem dX6_init_22 : decode cX6_init 22 = .ok (.newarray .int, 2) := by decide +kernel
theorem dX6_init_24 : decode cX6_init 24 = .ok (.putfield 16, 3) := by decide +kernel
theorem dX6_init_27 : decode cX6_init 27 = .ok (.aload_n 0, 1) := by decide +kernel
theorem dX6_init_28 : decode cX6_init 28 = .ok (.iconst 2, 1) := by decide +kernel
theorem dX6_init_29 : decode cX6_init 29 = .ok (.newarray .int, 2) := by decide +kernel
theorem dX6_init_31 : decode cX6_init 31 = .ok (.putfield 19, 3) := by decide +kernel
theorem dX6_init_34 : decode cX6_init 34 = .ok (.aload_n 0, 1) := by decide +kernel
theorem dX6_init_35 : decode cX6_init 35 = .ok (.bipush 60, 2) := by decide +kernel
theorem dX6_init_37 : decode cX6_init 37 = .ok (.newarray .int, 2) := by decide +kernel
theorem dX6_init_39 : decode cX6_init 39 = .ok (.putfield 22, 3) := by decide +kernel
theorem dX6_init_42 : decode cX6_init 42 = .ok (.aload_n 0, 1) := by decide +kernel
theorem dX6_init_43 : decode cX6_init 43 = .ok (.bipush 27, 2) := by decide +kernel
theorem dX6_init_45 : decode cX6_init 45 = .ok (.newarray .int, 2) := by decide +kernel
theorem dX6_init_47 : decode cX6_init 47 = .ok (.putfield 25, 3) := by decide +kernel
theorem dX6_init_50 : decode cX6_init 50 = .ok (.aload_n 0, 1) := by decide +kernel
theorem dX6_init_51 : decode cX6_init 51 = .ok (.bipush 27, 2) := by decide +kernel
theorem dX6_init_53 : decode cX6_init 53 = .ok (.newarray .int, 2) := by decide +kernel
theorem dX6_init_55 : decode cX6_init 55 = .ok (.putfield 28, 3) := by decide +kernel
theorem dX6_init_58 : decode cX6_init 58 = .ok (.aload_n 0, 1) := by decide +kernel
theorem dX6_init_59 : decode cX6_init 59 = .ok (.bipush 81, 2) := by decide +kernel
theorem dX6_init_61 : decode cX6_init 61 = .ok (.newarray .int, 2) := by decide +kernel
theorem dX6_init_63 : decode cX6_init 63 = .ok (.putfield 31, 3) := by decide +kernel
theorem dX6_init_66 : decode cX6_init 66 = .ok (.aload_n 0, 1) := by decide +kernel
theorem dX6_init_67 : decode cX6_init 67 = .ok (.sipush 429, 3) := by decide +kernel
theorem dX6_init_70 : decode cX6_init 70 = .ok (.newarray .int, 2) := by decide +kernel
theorem dX6_init_72 : decode cX6_init 72 = .ok (.putfield 34, 3) := by decide +kernel
theorem dX6_init_75 : decode cX6_init 75 = .ok (.aload_n 0, 1) := by decide +kernel
theorem dX6_init_76 : decode cX6_init 76 = .ok (.sipush 2574, 3) := by decide +kernel
theorem dX6_init_79 : decode cX6_init 79 = .ok (.newarray .int, 2) := by decide +kernel
theorem dX6_init_81 : decode cX6_init 81 = .ok (.putfield 37, 3) := by decide +kernel
theorem dX6_init_84 : decode cX6_init 84 = .ok (.aload_n 0, 1) := by decide +kernel
theorem dX6_init_85 : decode cX6_init 85 = .ok (.sipush 429, 3) := by decide +kernel
theorem dX6_init_88 : decode cX6_init 88 = .ok (.newarray .int, 2) := by decide +kernel
theorem dX6_init_90 : decode cX6_init 90 = .ok (.putfield 40, 3) := by decide +kernel
theorem dX6_init_93 : decode cX6_init 93 = .ok (.aload_n 0, 1) := by decide +kernel
theorem dX6_init_94 : decode cX6_init 94 = .ok (.sipush 429, 3) := by decide +kernel
theorem dX6_init_97 : decode cX6_init 97 = .ok (.newarray .int, 2) := by decide +kernel
theorem dX6_init_99 : decode cX6_init 99 = .ok (.putfield 43, 3) := by decide +kernel
theorem dX6_init_102 : decode cX6_init 102 = .ok (.aload_n 0, 1) := by decide +kernel
theorem dX6_init_103 : decode cX6_init 103 = .ok (.sipush 429, 3) := by decide +kernel
theorem dX6_init_106 : decode cX6_init 106 = .ok (.newarray .int, 2) := by decide +kernel
theorem dX6_init_108 : decode cX6_init 108 = .ok (.putfield 46, 3) := by decide +kernel
theorem dX6_init_111 : decode cX6_init 111 = .ok (.aload_n 0, 1) := by decide +kernel
theorem dX6_init_112 : decode cX6_init 112 = .ok (.getfield 7, 3) := by decide +kernel
theorem dX6_init_115 : decode cX6_init 115 = .ok (.iconst 0, 1) := by decide +kernel
theorem dX6_init_116 : decode cX6_init 116 = .ok (.bipush 6, 2) := by decide +kernel
theorem dX6_init_118 : decode cX6_init 118 = .ok (.iastore, 1) := by decide +kernel
theorem dX6_init_119 : decode cX6_init 119 = .ok (.aload_n 0, 1) := by decide +kernel
theorem dX6_init_120 : decode cX6_init 120 = .ok (.invokevirtual 49, 3) := by decide +kernel
theorem dX6_init_123 : decode cX6_init 123 = .ok (.aload_n 0, 1) := by decide +kernel
theorem dX6_init_124 : decode cX6_init 124 = .ok (.getfield 7, 3) := by decide +kernel
theorem dX6_init_127 : decode cX6_init 127 = .ok (.iconst 1, 1) := by decide +kernel
theorem dX6_init_128 : decode cX6_init 128 = .ok (.aload_n 0, 1) := by decide +kernel
theorem dX6_init_129 : decode cX6_init 129 = .ok (.iconst 0, 1) := by decide +kernel
theorem dX6_init_130 : decode cX6_init 130 = .ok (.invokevirtual 52, 3) := by decide +kernel
theorem dX6_init_133 : decode cX6_init 133 = .ok (.iastore, 1) := by decide +kernel
theorem dX6_init_134 : decode cX6_init 134 = .ok (.aload_n 0, 1) := by decide +kernel
theorem dX6_init_135 : decode cX6_init 135 = .ok (.getfield 7, 3) := by decide +kernel
theorem dX6_init_138 : decode cX6_init 138 = .ok (.iconst 2, 1) := by decide +kernel
theorem dX6_init_139 : decode cX6_init 139 = .ok (.aload_n 0, 1) := by decide +kernel
theorem dX6_init_140 : decode cX6_init 140 = .ok (.iconst 0, 1) := by decide +kernel
theorem dX6_init_141 : decode cX6_init 141 = .ok (.invokevirtual 52, 3) := by decide +kernel
theorem dX6_init_144 : decode cX6_init 144 = .ok (.iastore, 1) := by decide +kernel
theorem dX6_init_145 : decode cX6_init 145 = .ok (.return_, 1) := by decide +kernel
set_option maxRecDepth 100000 in
set_option maxHeartbeats 4000000 in
theorem v_X6_init {X : zq_X} (C : zq_C X RX6 cX6_init 1 zq_all rm_X6_init) {h : zq_H} {t : Nat} (T : zq_T X (some (t + 1))) (hn : X.2.2.2.2.2.2.2.2.1.name = yX6_init.name) {out : zq_H} (hF : f_X6_init h t = some out) (hE : zq_End X cX6_init 13 4532 none out) : zq_W X 0 0 h 0 [(0, .ref t)] [] := by
  unfold f_X6_init at hF
  refine zq_aload_n (pc' := 1) C dX6_init_0 rfl rfl rfl ?_
  refine zq_objInit (pc' := 4) C wd_532 wd_3 wd_4 dX6_init_1 rfl (by decide) (Nat.le_of_ble_eq_true rfl) (Nat.le_of_ble_eq_true rfl) ?_
  refine zq_aload_n (pc' := 5) C dX6_init_4 rfl rfl rfl ?_
  refine zq_iconst (pc' := 6) C 5 dX6_init_5 rfl (by decide) ?_
  replace hF := zq_bd hF; obtain ⟨h_1, e_2, hF⟩ := hF
  refine zq_newI (n := t + 1) (pc' := 8) C wd_10 T rfl dX6_init_6 rfl e_2 (by decide) ⟨Nat.le_of_ble_eq_true rfl, Nat.le_of_ble_eq_true rfl⟩ ?_
  refine zq_widen 1 5 (Nat.le_of_ble_eq_true rfl) (Nat.le_of_ble_eq_true rfl) ?_
  replace hF := zq_bd hF; obtain ⟨h_3, e_4, hF⟩ := hF
  refine zq_putR (j := 0) (pc' := 11) C zq_K6 zq_in6w (Or.inl wd_448) (by decide) rfl (Or.inr ⟨_, rfl⟩) dX6_init_8 rfl (Or.inr ⟨hn, rfl, rfl, wd_448⟩) e_4 ?_
  refine zq_aload_n (pc' := 12) C dX6_init_11 rfl rfl rfl ?_
  refine zq_bipush (pc' := 14) C 30 dX6_init_12 rfl (by decide) ?_
  replace hF := zq_bd hF; obtain ⟨h_5, e_6, hF⟩ := hF
  refine zq_newI (n := t + 2) (pc' := 16) C wd_10 T rfl dX6_init_14 rfl e_6 (by decide) ⟨Nat.le_of_ble_eq_true rfl, Nat.le_of_ble_eq_true rfl⟩ ?_
  refine zq_widen 2 35 (Nat.le_of_ble_eq_true rfl) (Nat.le_of_ble_eq_true rfl) ?_
  replace hF := zq_bd hF; obtain ⟨h_7, e_8, hF⟩ := hF
  refine zq_putR (j := 2) (pc' := 19) C zq_K6 zq_in6w (Or.inl wd_533) (by decide) rfl (Or.inr ⟨_, rfl⟩) dX6_init_16 rfl (Or.inr ⟨hn, rfl, rfl, wd_533⟩) e_8 ?_
  refine zq_aload_n (pc' := 20) C dX6_init_19 rfl rfl rfl ?_
  refine zq_bipush (pc' := 22) C 10 dX6_init_20 rfl (by decide) ?_
  replace hF := zq_bd hF; obtain ⟨h_9, e_10, hF⟩ := hF
  refine zq_newI (n := t + 3) (pc' := 24) C wd_10 T rfl dX6_init_22 rfl e_10 (by decide) ⟨Nat.le_of_ble_eq_true rfl, Nat.le_of_ble_eq_true rfl⟩ ?_
  refine zq_widen 3 45 (Nat.le_of_ble_eq_true rfl) (Nat.le_of_ble_eq_true rfl) ?_
  replace hF := zq_bd hF; obtain ⟨h_11, e_12, hF⟩ := hF
  refine zq_putR (j := 3) (pc' := 27) C zq_K6 zq_in6w (Or.inl wd_534) (by decide) rfl (Or.inr ⟨_, rfl⟩) dX6_init_24 rfl (Or.inr ⟨hn, rfl, rfl, wd_534⟩) e_12 ?_
  refine zq_aload_n (pc' := 28) C dX6_init_27 rfl rfl rfl ?_
  refine zq_iconst (pc' := 29) C 2 dX6_init_28 rfl (by decide) ?_
  replace hF := zq_bd hF; obtain ⟨h_13, e_14, hF⟩ := hF
  refine zq_newI (n := t + 4) (pc' := 31) C wd_10 T rfl dX6_init_29 rfl e_14 (by decide) ⟨Nat.le_of_ble_eq_true rfl, Nat.le_of_ble_eq_true rfl⟩ ?_
  refine zq_widen 4 47 (Nat.le_of_ble_eq_true rfl) (Nat.le_of_ble_eq_true rfl) ?_
  replace hF := zq_bd hF; obtain ⟨h_15, e_16, hF⟩ := hF
  refine zq_putR (j := 4) (pc' := 34) C zq_K6 zq_in6w (Or.inl wd_535) (by decide) rfl (Or.inr ⟨_, rfl⟩) dX6_init_31 rfl (Or.inr ⟨hn, rfl, rfl, wd_535⟩) e_16 ?_
  refine zq_aload_n (pc' := 35) C dX6_init_34 rfl rfl rfl ?_
  refine zq_bipush (pc' := 37) C 60 dX6_init_35 rfl (by decide) ?_
  replace hF := zq_bd hF; obtain ⟨h_17, e_18, hF⟩ := hF
  refine zq_newI (n := t + 5) (pc' := 39) C wd_10 T rfl dX6_init_37 rfl e_18 (by decide) ⟨Nat.le_of_ble_eq_true rfl, Nat.le_of_ble_eq_true rfl⟩ ?_
  refine zq_widen 5 107 (Nat.le_of_ble_eq_true rfl) (Nat.le_of_ble_eq_true rfl) ?_
  replace hF := zq_bd hF; obtain ⟨h_19, e_20, hF⟩ := hF
  refine zq_putR (j := 6) (pc' := 42) C zq_K6 zq_in6w (Or.inl wd_536) (by decide) rfl (Or.inr ⟨_, rfl⟩) dX6_init_39 rfl (Or.inr ⟨hn, rfl, rfl, wd_536⟩) e_20 ?_
  refine zq_aload_n (pc' := 43) C dX6_init_42 rfl rfl rfl ?_
  refine zq_bipush (pc' := 45) C 27 dX6_init_43 rfl (by decide) ?_
  replace hF := zq_bd hF; obtain ⟨h_21, e_22, hF⟩ := hF
  refine zq_newI (n := t + 6) (pc' := 47) C wd_10 T rfl dX6_init_45 rfl e_22 (by decide) ⟨Nat.le_of_ble_eq_true rfl, Nat.le_of_ble_eq_true rfl⟩ ?_
  refine zq_widen 6 134 (Nat.le_of_ble_eq_true rfl) (Nat.le_of_ble_eq_true rfl) ?_
  replace hF := zq_bd hF; obtain ⟨h_23, e_24, hF⟩ := hF
  refine zq_putR (j := 10) (pc' := 50) C zq_K6 zq_in6w (Or.inl wd_449) (by decide) rfl (Or.inr ⟨_, rfl⟩) dX6_init_47 rfl (Or.inr ⟨hn, rfl, rfl, wd_449⟩) e_24 ?_
  refine zq_aload_n (pc' := 51) C dX6_init_50 rfl rfl rfl ?_
  refine zq_bipush (pc' := 53) C 27 dX6_init_51 rfl (by decide) ?_
  replace hF := zq_bd hF; obtain ⟨h_25, e_26, hF⟩ := hF
  refine zq_newI (n := t + 7) (pc' := 55) C wd_10 T rfl dX6_init_53 rfl e_26 (by decide) ⟨Nat.le_of_ble_eq_true rfl, Nat.le_of_ble_eq_true rfl⟩ ?_
  refine zq_widen 7 161 (Nat.le_of_ble_eq_true rfl) (Nat.le_of_ble_eq_true rfl) ?_
  replace hF := zq_bd hF; obtain ⟨h_27, e_28, hF⟩ := hF
  refine zq_putR (j := 11) (pc' := 58) C zq_K6 zq_in6w (Or.inl wd_450) (by decide) rfl (Or.inr ⟨_, rfl⟩) dX6_init_55 rfl (Or.inr ⟨hn, rfl, rfl, wd_450⟩) e_28 ?_
  refine zq_aload_n (pc' := 59) C dX6_init_58 rfl rfl rfl ?_
  refine zq_bipush (pc' := 61) C 81 dX6_init_59 rfl (by decide) ?_
  replace hF := zq_bd hF; obtain ⟨h_29, e_30, hF⟩ := hF
  refine zq_newI (n := t + 8) (pc' := 63) C wd_10 T rfl dX6_init_61 rfl e_30 (by decide) ⟨Nat.le_of_ble_eq_true rfl, Nat.le_of_ble_eq_true rfl⟩ ?_
  refine zq_widen 8 242 (Nat.le_of_ble_eq_true rfl) (Nat.le_of_ble_eq_true rfl) ?_
  replace hF := zq_bd hF; obtain ⟨h_31, e_32, hF⟩ := hF
  refine zq_putR (j := 12) (pc' := 66) C zq_K6 zq_in6w (Or.inl wd_447) (by decide) rfl (Or.inr ⟨_, rfl⟩) dX6_init_63 rfl (Or.inr ⟨hn, rfl, rfl, wd_447⟩) e_32 ?_
  refine zq_aload_n (pc' := 67) C dX6_init_66 rfl rfl rfl ?_
  refine zq_sipush (pc' := 70) C 429 dX6_init_67 rfl (by decide) ?_
  replace hF := zq_bd hF; obtain ⟨h_33, e_34, hF⟩ := hF
  refine zq_newI (n := t + 9) (pc' := 72) C wd_10 T rfl dX6_init_70 rfl e_34 (by decide) ⟨Nat.le_of_ble_eq_true rfl, Nat.le_of_ble_eq_true rfl⟩ ?_
  refine zq_widen 9 671 (Nat.le_of_ble_eq_true rfl) (Nat.le_of_ble_eq_true rfl) ?_
  replace hF := zq_bd hF; obtain ⟨h_35, e_36, hF⟩ := hF
  refine zq_putR (j := 14) (pc' := 75) C zq_K6 zq_in6w (Or.inl wd_475) (by decide) rfl (Or.inr ⟨_, rfl⟩) dX6_init_72 rfl (Or.inr ⟨hn, rfl, rfl, wd_475⟩) e_36 ?_
  refine zq_aload_n (pc' := 76) C dX6_init_75 rfl rfl rfl ?_
  refine zq_sipush (pc' := 79) C 2574 dX6_init_76 rfl (by decide) ?_
  replace hF := zq_bd hF; obtain ⟨h_37, e_38, hF⟩ := hF
  refine zq_newI (n := t + 10) (pc' := 81) C wd_10 T rfl dX6_init_79 rfl e_38 (by decide) ⟨Nat.le_of_ble_eq_true rfl, Nat.le_of_ble_eq_true rfl⟩ ?_
  refine zq_widen 10 3245 (Nat.le_of_ble_eq_true rfl) (Nat.le_of_ble_eq_true rfl) ?_
  replace hF := zq_bd hF; obtain ⟨h_39, e_40, hF⟩ := hF
  refine zq_putR (j := 15) (pc' := 84) C zq_K6 zq_in6w (Or.inl wd_488) (by decide) rfl (Or.inr ⟨_, rfl⟩) dX6_init_81 rfl (Or.inr ⟨hn, rfl, rfl, wd_488⟩) e_40 ?_
  refine zq_aload_n (pc' := 85) C dX6_init_84 rfl rfl rfl ?_
  refine zq_sipush (pc' := 88) C 429 dX6_init_85 rfl (by decide) ?_
  replace hF := zq_bd hF; obtain ⟨h_41, e_42, hF⟩ := hF
  refine zq_newI (n := t + 11) (pc' := 90) C wd_10 T rfl dX6_init_88 rfl e_42 (by decide) ⟨Nat.le_of_ble_eq_true rfl, Nat.le_of_ble_eq_true rfl⟩ ?_
  refine zq_widen 11 3674 (Nat.le_of_ble_eq_true rfl) (Nat.le_of_ble_eq_true rfl) ?_
  replace hF := zq_bd hF; obtain ⟨h_43, e_44, hF⟩ := hF
  refine zq_putR (j := 18) (pc' := 93) C zq_K6 zq_in6w (Or.inl wd_503) (by decide) rfl (Or.inr ⟨_, rfl⟩) dX6_init_90 rfl (Or.inr ⟨hn, rfl, rfl, wd_503⟩) e_44 ?_
  refine zq_aload_n (pc' := 94) C dX6_init_93 rfl rfl rfl ?_
  refine zq_sipush (pc' := 97) C 429 dX6_init_94 rfl (by decide) ?_
  replace hF := zq_bd hF; obtain ⟨h_45, e_46, hF⟩ := hF
  refine zq_newI (n := t + 12) (pc' := 99) C wd_10 T rfl dX6_init_97 rfl e_46 (by decide) ⟨Nat.le_of_ble_eq_true rfl, Nat.le_of_ble_eq_true rfl⟩ ?_
  refine zq_widen 12 4103 (Nat.le_of_ble_eq_true rfl) (Nat.le_of_ble_eq_true rfl) ?_
  replace hF := zq_bd hF; obtain ⟨h_47, e_48, hF⟩ := hF
  refine zq_putR (j := 19) (pc' := 102) C zq_K6 zq_in6w (Or.inl wd_504) (by decide) rfl (Or.inr ⟨_, rfl⟩) dX6_init_99 rfl (Or.inr ⟨hn, rfl, rfl, wd_504⟩) e_48 ?_
  refine zq_aload_n (pc' := 103) C dX6_init_102 rfl rfl rfl ?_
  refine zq_sipush (pc' := 106) C 429 dX6_init_103 rfl (by decide) ?_
  replace hF := zq_bd hF; obtain ⟨h_49, e_50, hF⟩ := hF
  refine zq_newI (n := t + 13) (pc' := 108) C wd_10 T rfl dX6_init_106 rfl e_50 (by decide) ⟨Nat.le_of_ble_eq_true rfl, Nat.le_of_ble_eq_true rfl⟩ ?_
  refine zq_widen 13 4532 (Nat.le_of_ble_eq_true rfl) (Nat.le_of_ble_eq_true rfl) ?_
  replace hF := zq_bd hF; obtain ⟨h_51, e_52, hF⟩ := hF
  refine zq_putR (j := 20) (pc' := 111) C zq_K6 zq_in6w (Or.inl wd_505) (by decide) rfl (Or.inr ⟨_, rfl⟩) dX6_init_108 rfl (Or.inr ⟨hn, rfl, rfl, wd_505⟩) e_52 ?_
  refine zq_aload_n (pc' := 112) C dX6_init_111 rfl rfl rfl ?_
  replace hF := zq_is_e hF; obtain ⟨e_54, hF⟩ := hF
  refine zq_getR (j := 0) (pc' := 115) C zq_K6 zq_in6w (Or.inl wd_448) (by decide) rfl dX6_init_112 rfl e_54 ?_
  refine zq_iconst (pc' := 116) C 0 dX6_init_115 rfl (by decide) ?_
  refine zq_bipush (pc' := 118) C 6 dX6_init_116 rfl (by decide) ?_
  replace hF := zq_bd hF; obtain ⟨h_55, e_56, hF⟩ := hF
  refine zq_iastore (pc' := 119) C dX6_init_118 rfl e_56 ?_
  refine zq_aload_n (pc' := 120) C dX6_init_119 rfl rfl rfl ?_
  replace hF := zq_ck_e hF; obtain ⟨e_59, hF⟩ := hF
  replace hF := zq_bd hF; obtain ⟨v_57, e_58, hF⟩ := hF
  refine zq_cV (pc' := 123) C (c_X6_layAll e_58) yv_X6_layAll wd_537 zq_K6 e_59 dX6_init_120 rfl rfl rfl ⟨Nat.le_of_ble_eq_true rfl, Nat.le_of_ble_eq_true rfl⟩ (Nat.le_of_ble_eq_true rfl) ⟨rfl, rfl⟩ ⟨Nat.le_of_ble_eq_true rfl, Nat.le_of_ble_eq_true rfl⟩ rfl ?_
  refine zq_aload_n (pc' := 124) C dX6_init_123 rfl rfl rfl ?_
  replace hF := zq_is_e hF; obtain ⟨e_61, hF⟩ := hF
  refine zq_getR (j := 0) (pc' := 127) C zq_K6 zq_in6w (Or.inl wd_448) (by decide) rfl dX6_init_124 rfl e_61 ?_
  refine zq_iconst (pc' := 128) C 1 dX6_init_127 rfl (by decide) ?_
  refine zq_aload_n (pc' := 129) C dX6_init_128 rfl rfl rfl ?_
  refine zq_iconst (pc' := 130) C 0 dX6_init_129 rfl (by decide) ?_
  replace hF := zq_ck_e hF; obtain ⟨e_64, hF⟩ := hF
  replace hF := zq_bd hF; obtain ⟨v_62, e_63, hF⟩ := hF
  refine zq_cV (pc' := 133) C (c_X6_fanOf e_63) yv_X6_fanOf wd_476 zq_K6 e_64 dX6_init_130 rfl rfl rfl ⟨Nat.le_of_ble_eq_true rfl, Nat.le_of_ble_eq_true rfl⟩ (Nat.le_of_ble_eq_true rfl) ⟨rfl, rfl⟩ ⟨Nat.le_of_ble_eq_true rfl, Nat.le_of_ble_eq_true rfl⟩ rfl ?_
  replace hF := zq_bd hF; obtain ⟨h_65, e_66, hF⟩ := hF
  refine zq_iastore (pc' := 134) C dX6_init_133 rfl e_66 ?_
  refine zq_aload_n (pc' := 135) C dX6_init_134 rfl rfl rfl ?_
  replace hF := zq_is_e hF; obtain ⟨e_68, hF⟩ := hF
  refine zq_getR (j := 0) (pc' := 138) C zq_K6 zq_in6w (Or.inl wd_448) (by decide) rfl dX6_init_135 rfl e_68 ?_
  refine zq_iconst (pc' := 139) C 2 dX6_init_138 rfl (by decide) ?_
  refine zq_aload_n (pc' := 140) C dX6_init_139 rfl rfl rfl ?_
  refine zq_iconst (pc' := 141) C 0 dX6_init_140 rfl (by decide) ?_
  replace hF := zq_ck_e hF; obtain ⟨e_71, hF⟩ := hF
  replace hF := zq_bd hF; obtain ⟨v_69, e_70, hF⟩ := hF
  refine zq_cV (pc' := 144) C (c_X6_fanOf e_70) yv_X6_fanOf wd_476 zq_K6 e_71 dX6_init_141 rfl rfl rfl ⟨Nat.le_of_ble_eq_true rfl, Nat.le_of_ble_eq_true rfl⟩ (Nat.le_of_ble_eq_true rfl) ⟨rfl, rfl⟩ ⟨Nat.le_of_ble_eq_true rfl, Nat.le_of_ble_eq_true rfl⟩ rfl ?_
  replace hF := zq_bd hF; obtain ⟨h_72, e_73, hF⟩ := hF
  refine zq_iastore (pc' := 145) C dX6_init_144 rfl e_73 ?_
  have hF := Option.some.inj hF
  subst hF
  exact hE _ _ _ _ (Nat.le_of_ble_eq_true rfl) (Nat.le_of_ble_eq_true rfl) dX6_init_145
theorem c_X6_init {h : zq_H} {t : Nat} {out : zq_H} (hF : f_X6_init h t = some out) : zq_M (some (t + 1)) yX6_init (Cond.code yX6_init cX6_init 1 none :: zq_all) rm_X6_init [.ref t] h none out := zq_met2 (own := RX6) (by decide +kernel) rfl (Nat.le_of_ble_eq_true rfl) rfl rfl (fun X C T hn hE => v_X6_init C T hn hF hE)
theorem yi_X6_init : zq_Y yX6_init 0 := by decide +kernel
def f_X6_thrown (h : zq_H) (t : Nat) : Option Int32 := (Option.bind (zq_gi h t 6 7) fun v_1 => some (v_1))
abbrev rm_X6_thrown : Room := { frames := 0, cells := 0, slots := 0, locals := 0 }
theorem dX6_thrown_0 : decode cX6_thrown 0 = .ok (.aload_n 0, 1) := by decide +kernel
theorem dX6_thrown_1 : decode cX6_thrown 1 = .ok (.getfield 56, 3) := by decide +kernel
theorem dX6_thrown_4 : decode cX6_thrown 4 = .ok (.ireturn, 1) := by decide +kernel
set_option maxRecDepth 100000 in
set_option maxHeartbeats 4000000 in
theorem v_X6_thrown {X : zq_X} (C : zq_C X RX6 cX6_thrown 1 zq_all rm_X6_thrown) {h : zq_H} {t : Nat} (T : zq_T X none) (hn : X.2.2.2.2.2.2.2.2.1.name = yX6_thrown.name) {out : Int32} (hF : f_X6_thrown h t = some out) (hE : zq_End X cX6_thrown 0 0 (some (.int out)) h) : zq_W X 0 0 h 0 [(0, .ref t)] [] := by
  unfold f_X6_thrown at hF
  refine zq_aload_n (pc' := 1) C dX6_thrown_0 rfl rfl rfl ?_
  replace hF := zq_bd hF; obtain ⟨v_1, e_2, hF⟩ := hF
  refine zq_getI (j := 7) (pc' := 4) C zq_K6 zq_in6w (Or.inl wd_542) (by decide) rfl dX6_thrown_1 rfl e_2 ?_
  have hF := Option.some.inj hF
  subst hF
  exact hE _ _ _ _ (Nat.le_of_ble_eq_true rfl) (Nat.le_of_ble_eq_true rfl) dX6_thrown_4
theorem c_X6_thrown {h : zq_H} {t : Nat} {out : Int32} (hF : f_X6_thrown h t = some out) : zq_M none yX6_thrown (Cond.code yX6_thrown cX6_thrown 1 (some .int) :: zq_all) rm_X6_thrown [.ref t] h (some (.int out)) h := zq_met2 (own := RX6) (by decide +kernel) rfl (Nat.le_of_ble_eq_true rfl) rfl ⟨.int, rfl, rfl⟩ (fun X C T hn hE => v_X6_thrown C T hn hF hE)
theorem yv_X6_thrown : zq_calV yX6_thrown RX6 cX6_thrown 1 (some .int) 0 := ⟨by decide +kernel, wd_541, wd_794, wd_795, wd_458⟩
def f_X6_within (h : zq_H) (x0 : Int32) (x1 : Int32) (x2 : Int32) : Option Bool := (if x0 < x1 then some (false) else (if x2 < x0 then some (false) else some (true)))
abbrev rm_X6_within : Room := { frames := 0, cells := 0, slots := 0, locals := 0 }
theorem dX6_within_0 : decode cX6_within 0 = .ok (.iload_n 0, 1) := by decide +kernel
theorem dX6_within_1 : decode cX6_within 1 = .ok (.iload_n 1, 1) := by decide +kernel
theorem dX6_within_2 : decode cX6_within 2 = .ok (.if_icmp .lt 12, 3) := by decide +kernel
theorem dX6_within_5 : decode cX6_within 5 = .ok (.iload_n 0, 1) := by decide +kernel
theorem dX6_within_6 : decode cX6_within 6 = .ok (.iload_n 2, 1) := by decide +kernel
theorem dX6_within_7 : decode cX6_within 7 = .ok (.if_icmp .gt 7, 3) := by decide +kernel
theorem dX6_within_10 : decode cX6_within 10 = .ok (.iconst 1, 1) := by decide +kernel
theorem dX6_within_11 : decode cX6_within 11 = .ok (.goto 4, 3) := by decide +kernel
theorem dX6_within_14 : decode cX6_within 14 = .ok (.iconst 0, 1) := by decide +kernel
theorem dX6_within_15 : decode cX6_within 15 = .ok (.ireturn, 1) := by decide +kernel
set_option maxRecDepth 100000 in
set_option maxHeartbeats 4000000 in
theorem v_X6_within {X : zq_X} (C : zq_C X RX6 cX6_within 3 zq_all rm_X6_within) {h : zq_H} {x0 : Int32} {x1 : Int32} {x2 : Int32} (T : zq_T X none) (hn : X.2.2.2.2.2.2.2.2.1.name = yX6_within.name) {out : Bool} (hF : f_X6_within h x0 x1 x2 = some out) (hE : zq_End X cX6_within 0 0 (some (.int (zq_b out))) h) : zq_W X 0 0 h 0 [(0, .int x0), (1, .int x1), (2, .int x2)] [] := by
  unfold f_X6_within at hF
  refine zq_iload_n (pc' := 1) C dX6_within_0 rfl rfl rfl ?_
  refine zq_iload_n (pc' := 2) C dX6_within_1 rfl rfl rfl ?_
  refine zq_icmp_lt (pc' := 5) C 14 dX6_within_2 (by decide) rfl (fun c_1 => ?_) (fun c_1 => ?_)
  · have hF := (zq_ifp hF c_1)
    skip
    refine zq_iconst (pc' := 15) C 0 dX6_within_14 rfl (by decide) ?_
    have hF := Option.some.inj hF
    subst hF
    exact hE _ _ _ _ (Nat.le_of_ble_eq_true rfl) (Nat.le_of_ble_eq_true rfl) dX6_within_15
  · have hF := (zq_ifn hF c_1)
    refine zq_iload_n (pc' := 6) C dX6_within_5 rfl rfl rfl ?_
    refine zq_iload_n (pc' := 7) C dX6_within_6 rfl rfl rfl ?_
    refine zq_icmp_gt (pc' := 10) C 14 dX6_within_7 (by decide) rfl (fun c_2 => ?_) (fun c_2 => ?_)
    · have hF := (zq_ifp hF c_2)
      skip
      refine zq_iconst (pc' := 15) C 0 dX6_within_14 rfl (by decide) ?_
      have hF := Option.some.inj hF
      subst hF
      exact hE _ _ _ _ (Nat.le_of_ble_eq_true rfl) (Nat.le_of_ble_eq_true rfl) dX6_within_15
    · have hF := (zq_ifn hF c_2)
      refine zq_iconst (pc' := 11) C 1 dX6_within_10 rfl (by decide) ?_
      refine zq_goto C 15 dX6_within_11 (by decide) ?_
      have hF := Option.some.inj hF
      subst hF
      exact hE _ _ _ _ (Nat.le_of_ble_eq_true rfl) (Nat.le_of_ble_eq_true rfl) dX6_within_15
theorem c_X6_within {h : zq_H} {x0 : Int32} {x1 : Int32} {x2 : Int32} {out : Bool} (hF : f_X6_within h x0 x1 x2 = some out) : zq_M none yX6_within (Cond.code yX6_within cX6_within 3 (some .boolean) :: zq_all) rm_X6_within [.int x0, .int x1, .int x2] h (some (.int (zq_b out))) h := zq_met2 (own := RX6) (by decide +kernel) rfl (Nat.le_of_ble_eq_true rfl) rfl ⟨.boolean, rfl, by cases out <;> rfl⟩ (fun X C T hn hE => v_X6_within C T hn hF hE)
theorem ys_X6_within : zq_calS yX6_within cX6_within 3 (some .boolean) 3 := ⟨by decide +kernel, wd_543, wd_549, wd_458⟩
def f_X6_save (h : zq_H) (t : Nat) : Option zq_H := (Option.bind (zq_gi h t 6 1) fun v_1 => (if v_1 = 6 then ((zq_lp (σ := Int32 × zq_H) (ρ := zq_H) (fun s_29 => (if 30 ≤ s_29.1 then some (.inr s_29.2) else (Option.bind (zq_gr s_29.2 t 6 2) fun v_38 => (Option.bind (zq_gr s_29.2 t 6 2) fun v_40 => (Option.bind (zq_ai s_29.2 v_40 s_29.1) fun v_42 => (Option.bind (zq_si s_29.2 v_38 (s_29.1 - 5) v_42) fun h_44 => (zq_let (s_29.1 + 1) fun v_46 => some (.inl (v_46, h_44))))))))) zq_N (5, h)).bind (fun y_32 : zq_H => (Option.bind (zq_gi y_32 t 6 1) fun v_48 => (Option.bind (zq_pi y_32 t 6 1 (v_48 - 1)) fun h_50 => ((zq_lp (σ := Int32 × zq_H) (ρ := zq_H) (fun s_52 => (if 5 ≤ s_52.1 then some (.inr s_52.2) else (Option.bind (zq_gr s_52.2 t 6 2) fun v_61 => (Option.bind (zq_gi s_52.2 t 6 1) fun v_63 => (Option.bind (zq_gr s_52.2 t 6 0) fun v_65 => (Option.bind (zq_ai s_52.2 v_65 s_52.1) fun v_67 => (Option.bind (zq_si s_52.2 v_61 ((5 * v_63) + s_52.1) v_67) fun h_69 => (zq_let (s_52.1 + 1) fun v_71 => some (.inl (v_71, h_69)))))))))) zq_N (0, h_50)).bind (fun y_55 : zq_H => (Option.bind (zq_gi y_55 t 6 1) fun v_73 => (Option.bind (zq_pi y_55 t 6 1 (v_73 + 1)) fun h_75 => some (h_75))))))))) else ((zq_lp (σ := Int32 × zq_H) (ρ := zq_H) (fun s_4 => (if 5 ≤ s_4.1 then some (.inr s_4.2) else (Option.bind (zq_gr s_4.2 t 6 2) fun v_13 => (Option.bind (zq_gi s_4.2 t 6 1) fun v_15 => (Option.bind (zq_gr s_4.2 t 6 0) fun v_17 => (Option.bind (zq_ai s_4.2 v_17 s_4.1) fun v_19 => (Option.bind (zq_si s_4.2 v_13 ((5 * v_15) + s_4.1) v_19) fun h_21 => (zq_let (s_4.1 + 1) fun v_23 => some (.inl (v_23, h_21)))))))))) zq_N (0, h)).bind (fun y_7 : zq_H => (Option.bind (zq_gi y_7 t 6 1) fun v_25 => (Option.bind (zq_pi y_7 t 6 1 (v_25 + 1)) fun h_27 => some (h_27)))))))
abbrev rm_X6_save : Room := { frames := 0, cells := 0, slots := 0, locals := 0 }
theorem dX6_save_0 : decode cX6_save 0 = .ok (.aload_n 0, 1) := by decide +kernel
theorem dX6_save_1 : decode cX6_save 1 = .ok (.getfield 60, 3) := by decide +kernel
theorem dX6_save_4 : decode cX6_save 4 = .ok (.bipush 6, 2) := by decide +kernel
theorem dX6_save_6 : decode cX6_save 6 = .ok (.if_icmp .ne 41, 3) := by decide +kernel
theorem dX6_save_9 : decode cX6_save 9 = .ok (.iconst 5, 1) := by decide +kernel
theorem dX6_save_10 : decode cX6_save 10 = .ok (.istore_n 1, 1) := by decide +kernel
theorem dX6_save_11 : decode cX6_save 11 = .ok (.iload_n 1, 1) := by decide +kernel
theorem dX6_save_12 : decode cX6_save 12 = .ok (.bipush 30, 2) := by decide +kernel
theorem dX6_save_14 : decode cX6_save 14 = .ok (.if_icmp .ge 23, 3) := by decide +kernel
theorem dX6_save_17 : decode cX6_save 17 = .ok (.aload_n 0, 1) := by decide +kernel
theorem dX6_save_18 : decode cX6_save 18 = .ok (.getfield 13, 3) := by decide +kernel
theorem dX6_save_21 : decode cX6_save 21 = .ok (.iload_n 1, 1) := by decide +kernel
theorem dX6_save_22 : decode cX6_save 22 = .ok (.iconst 5, 1) := by decide +kernel
theorem dX6_save_23 : decode cX6_save 23 = .ok (.isub, 1) := by decide +kernel
theorem dX6_save_24 : decode cX6_save 24 = .ok (.aload_n 0, 1) := by decide +kernel
theorem dX6_save_25 : decode cX6_save 25 = .ok (.getfield 13, 3) := by decide +kernel
theorem dX6_save_28 : decode cX6_save 28 = .ok (.iload_n 1, 1) := by decide +kernel
theorem dX6_save_29 : decode cX6_save 29 = .ok (.iaload, 1) := by decide +kernel
theorem dX6_save_30 : decode cX6_save 30 = .ok (.iastore, 1) := by decide +kernel
theorem dX6_save_31 : decode cX6_save 31 = .ok (.iinc 1 1, 3) := by decide +kernel
theorem dX6_save_34 : decode cX6_save 34 = .ok (.goto (-23), 3) := by decide +kernel
theorem dX6_save_37 : decode cX6_save 37 = .ok (.aload_n 0, 1) := by decide +kernel
theorem dX6_save_38 : decode cX6_save 38 = .ok (.dup, 1) := by decide +kernel
theorem dX6_save_39 : decode cX6_save 39 = .ok (.getfield 60, 3) := by decide +kernel
theorem dX6_save_42 : decode cX6_save 42 = .ok (.iconst 1, 1) := by decide +kernel
theorem dX6_save_43 : decode cX6_save 43 = .ok (.isub, 1) := by decide +kernel
theorem dX6_save_44 : decode cX6_save 44 = .ok (.putfield 60, 3) := by decide +kernel
theorem dX6_save_47 : decode cX6_save 47 = .ok (.iconst 0, 1) := by decide +kernel
theorem dX6_save_48 : decode cX6_save 48 = .ok (.istore_n 1, 1) := by decide +kernel
theorem dX6_save_49 : decode cX6_save 49 = .ok (.iload_n 1, 1) := by decide +kernel
theorem dX6_save_50 : decode cX6_save 50 = .ok (.iconst 5, 1) := by decide +kernel
theorem dX6_save_51 : decode cX6_save 51 = .ok (.if_icmp .ge 28, 3) := by decide +kernel
theorem dX6_save_54 : decode cX6_save 54 = .ok (.aload_n 0, 1) := by decide +kernel
theorem dX6_save_55 : decode cX6_save 55 = .ok (.getfield 13, 3) := by decide +kernel
theorem dX6_save_58 : decode cX6_save 58 = .ok (.iconst 5, 1) := by decide +kernel
theorem dX6_save_59 : decode cX6_save 59 = .ok (.aload_n 0, 1) := by decide +kernel
theorem dX6_save_60 : decode cX6_save 60 = .ok (.getfield 60, 3) := by decide +kernel
theorem dX6_save_63 : decode cX6_save 63 = .ok (.imul, 1) := by decide +kernel
theorem dX6_save_64 : decode cX6_save 64 = .ok (.iload_n 1, 1) := by decide +kernel
theorem dX6_save_65 : decode cX6_save 65 = .ok (.iadd, 1) := by decide +kernel
theorem dX6_save_66 : decode cX6_save 66 = .ok (.aload_n 0, 1) := by decide +kernel
theorem dX6_save_67 : decode cX6_save 67 = .ok (.getfield 7, 3) := by decide +kernel
theorem dX6_save_70 : decode cX6_save 70 = .ok (.iload_n 1, 1) := by decide +kernel
theorem dX6_save_71 : decode cX6_save 71 = .ok (.iaload, 1) := by decide +kernel
theorem dX6_save_72 : decode cX6_save 72 = .ok (.iastore, 1) := by decide +kernel
theorem dX6_save_73 : decode cX6_save 73 = .ok (.iinc 1 1, 3) := by decide +kernel
theorem dX6_save_76 : decode cX6_save 76 = .ok (.goto (-27), 3) := by decide +kernel
theorem dX6_save_79 : decode cX6_save 79 = .ok (.aload_n 0, 1) := by decide +kernel
theorem dX6_save_80 : decode cX6_save 80 = .ok (.dup, 1) := by decide +kernel
theorem dX6_save_81 : decode cX6_save 81 = .ok (.getfield 60, 3) := by decide +kernel
theorem dX6_save_84 : decode cX6_save 84 = .ok (.iconst 1, 1) := by decide +kernel
theorem dX6_save_85 : decode cX6_save 85 = .ok (.iadd, 1) := by decide +kernel
theorem dX6_save_86 : decode cX6_save 86 = .ok (.putfield 60, 3) := by decide +kernel
theorem dX6_save_89 : decode cX6_save 89 = .ok (.return_, 1) := by decide +kernel
set_option maxRecDepth 100000 in
set_option maxHeartbeats 4000000 in
theorem v_X6_save {X : zq_X} (C : zq_C X RX6 cX6_save 2 zq_all rm_X6_save) {h : zq_H} {t : Nat} (T : zq_T X none) (hn : X.2.2.2.2.2.2.2.2.1.name = yX6_save.name) {out : zq_H} (hF : f_X6_save h t = some out) (hE : zq_End X cX6_save 0 0 none out) : zq_W X 0 0 h 0 [(0, .ref t)] [] := by
  unfold f_X6_save at hF
  refine zq_aload_n (pc' := 1) C dX6_save_0 rfl rfl rfl ?_
  replace hF := zq_bd hF; obtain ⟨v_1, e_2, hF⟩ := hF
  refine zq_getI (j := 1) (pc' := 4) C zq_K6 zq_in6w (Or.inl wd_545) (by decide) rfl dX6_save_1 rfl e_2 ?_
  refine zq_bipush (pc' := 6) C 6 dX6_save_4 rfl (by decide) ?_
  refine zq_icmp_ne (pc' := 9) C 47 dX6_save_6 (by decide) rfl (fun c_3 => ?_) (fun c_3 => ?_)
  · have hF := (zq_ifn hF c_3)
    skip
    refine zq_iconst (pc' := 48) C 0 dX6_save_47 rfl (by decide) ?_
    refine zq_istore_n (lv' := [(1, .int 0), (0, .ref t)]) (pc' := 49) C dX6_save_48 rfl rfl (by decide) rfl rfl ?_
    refine zq_sub [1, 0] rfl ?_
    replace hF := zq_bd hF; obtain ⟨r_5, e_6, hF⟩ := hF
    refine zq_lpW (fun s_4 => zq_W X 0 0 s_4.2 49 [(0, .ref t), (1, .int s_4.1)] []) (fun y_7 => zq_W X 0 0 y_7 79 [(0, .ref t)] []) e_6 (fun s_4 q_11 hF hrec_9 hex_10 => ?_) ?_
    · skip
      refine zq_iload_n (pc' := 50) C dX6_save_49 rfl rfl rfl ?_
      refine zq_iconst (pc' := 51) C 5 dX6_save_50 rfl (by decide) ?_
      refine zq_icmp_ge (pc' := 54) C 79 dX6_save_51 (by decide) rfl (fun c_12 => ?_) (fun c_12 => ?_)
      · have hF := (zq_ifp hF c_12)
        skip
        cases hF
        exact zq_sub [0] rfl (hex_10 _ rfl)
      · have hF := (zq_ifn hF c_12)
        refine zq_aload_n (pc' := 55) C dX6_save_54 rfl rfl rfl ?_
        replace hF := zq_bd hF; obtain ⟨v_13, e_14, hF⟩ := hF
        refine zq_getR (j := 2) (pc' := 58) C zq_K6 zq_in6w (Or.inl wd_533) (by decide) rfl dX6_save_55 rfl e_14 ?_
        refine zq_iconst (pc' := 59) C 5 dX6_save_58 rfl (by decide) ?_
        refine zq_aload_n (pc' := 60) C dX6_save_59 rfl rfl rfl ?_
        replace hF := zq_bd hF; obtain ⟨v_15, e_16, hF⟩ := hF
        refine zq_getI (j := 1) (pc' := 63) C zq_K6 zq_in6w (Or.inl wd_545) (by decide) rfl dX6_save_60 rfl e_16 ?_
        refine zq_imul (pc' := 64) C dX6_save_63 rfl ?_
        refine zq_iload_n (pc' := 65) C dX6_save_64 rfl rfl rfl ?_
        refine zq_iadd (pc' := 66) C dX6_save_65 rfl ?_
        refine zq_aload_n (pc' := 67) C dX6_save_66 rfl rfl rfl ?_
        replace hF := zq_bd hF; obtain ⟨v_17, e_18, hF⟩ := hF
        refine zq_getR (j := 0) (pc' := 70) C zq_K6 zq_in6w (Or.inl wd_448) (by decide) rfl dX6_save_67 rfl e_18 ?_
        refine zq_iload_n (pc' := 71) C dX6_save_70 rfl rfl rfl ?_
        replace hF := zq_bd hF; obtain ⟨v_19, e_20, hF⟩ := hF
        refine zq_iaload (pc' := 72) C dX6_save_71 rfl e_20 ?_
        replace hF := zq_bd hF; obtain ⟨h_21, e_22, hF⟩ := hF
        refine zq_iastore (pc' := 73) C dX6_save_72 rfl e_22 ?_
        replace hF := zq_let_e hF; obtain ⟨v_23, e_24, hF⟩ := hF
        refine zq_iinc (lv' := [(1, .int v_23), (0, .ref t)]) (pc' := 76) C dX6_save_73 rfl (by decide) 1 rfl e_24 rfl ?_
        refine zq_goto C 49 dX6_save_76 (by decide) ?_
        cases hF
        exact zq_sub [1, 0] rfl (hrec_9 _ rfl)
    · skip
      obtain ⟨y_7, rfl⟩ : ∃ z9, z9 = r_5 := ⟨_, rfl⟩
      show zq_W X 0 0 y_7 79 [(0, .ref t)] []
      refine zq_aload_n (pc' := 80) C dX6_save_79 rfl rfl rfl ?_
      refine zq_dup (pc' := 81) C dX6_save_80 rfl rfl ?_
      replace hF := zq_bd hF; obtain ⟨v_25, e_26, hF⟩ := hF
      refine zq_getI (j := 1) (pc' := 84) C zq_K6 zq_in6w (Or.inl wd_545) (by decide) rfl dX6_save_81 rfl e_26 ?_
      refine zq_iconst (pc' := 85) C 1 dX6_save_84 rfl (by decide) ?_
      refine zq_iadd (pc' := 86) C dX6_save_85 rfl ?_
      replace hF := zq_bd hF; obtain ⟨h_27, e_28, hF⟩ := hF
      refine zq_putI (j := 1) (pc' := 89) C zq_K6 zq_in6w (Or.inl wd_545) (by decide) rfl rfl dX6_save_86 rfl (Or.inl rfl) e_28 ?_
      have hF := Option.some.inj hF
      subst hF
      exact hE _ _ _ _ (Nat.le_of_ble_eq_true rfl) (Nat.le_of_ble_eq_true rfl) dX6_save_89
  · have hF := (zq_ifp hF c_3)
    refine zq_iconst (pc' := 10) C 5 dX6_save_9 rfl (by decide) ?_
    refine zq_istore_n (lv' := [(1, .int 5), (0, .ref t)]) (pc' := 11) C dX6_save_10 rfl rfl (by decide) rfl rfl ?_
    refine zq_sub [1, 0] rfl ?_
    replace hF := zq_bd hF; obtain ⟨r_30, e_31, hF⟩ := hF
    refine zq_lpW (fun s_29 => zq_W X 0 0 s_29.2 11 [(0, .ref t), (1, .int s_29.1)] []) (fun y_32 => zq_W X 0 0 y_32 37 [(0, .ref t)] []) e_31 (fun s_29 q_36 hF hrec_34 hex_35 => ?_) ?_
    · skip
      refine zq_iload_n (pc' := 12) C dX6_save_11 rfl rfl rfl ?_
      refine zq_bipush (pc' := 14) C 30 dX6_save_12 rfl (by decide) ?_
      refine zq_icmp_ge (pc' := 17) C 37 dX6_save_14 (by decide) rfl (fun c_37 => ?_) (fun c_37 => ?_)
      · have hF := (zq_ifp hF c_37)
        skip
        cases hF
        exact zq_sub [0] rfl (hex_35 _ rfl)
      · have hF := (zq_ifn hF c_37)
        refine zq_aload_n (pc' := 18) C dX6_save_17 rfl rfl rfl ?_
        replace hF := zq_bd hF; obtain ⟨v_38, e_39, hF⟩ := hF
        refine zq_getR (j := 2) (pc' := 21) C zq_K6 zq_in6w (Or.inl wd_533) (by decide) rfl dX6_save_18 rfl e_39 ?_
        refine zq_iload_n (pc' := 22) C dX6_save_21 rfl rfl rfl ?_
        refine zq_iconst (pc' := 23) C 5 dX6_save_22 rfl (by decide) ?_
        refine zq_isub (pc' := 24) C dX6_save_23 rfl ?_
        refine zq_aload_n (pc' := 25) C dX6_save_24 rfl rfl rfl ?_
        replace hF := zq_bd hF; obtain ⟨v_40, e_41, hF⟩ := hF
        refine zq_getR (j := 2) (pc' := 28) C zq_K6 zq_in6w (Or.inl wd_533) (by decide) rfl dX6_save_25 rfl e_41 ?_
        refine zq_iload_n (pc' := 29) C dX6_save_28 rfl rfl rfl ?_
        replace hF := zq_bd hF; obtain ⟨v_42, e_43, hF⟩ := hF
        refine zq_iaload (pc' := 30) C dX6_save_29 rfl e_43 ?_
        replace hF := zq_bd hF; obtain ⟨h_44, e_45, hF⟩ := hF
        refine zq_iastore (pc' := 31) C dX6_save_30 rfl e_45 ?_
        replace hF := zq_let_e hF; obtain ⟨v_46, e_47, hF⟩ := hF
        refine zq_iinc (lv' := [(1, .int v_46), (0, .ref t)]) (pc' := 34) C dX6_save_31 rfl (by decide) 1 rfl e_47 rfl ?_
        refine zq_goto C 11 dX6_save_34 (by decide) ?_
        cases hF
        exact zq_sub [1, 0] rfl (hrec_34 _ rfl)
    · skip
      obtain ⟨y_32, rfl⟩ : ∃ z9, z9 = r_30 := ⟨_, rfl⟩
      show zq_W X 0 0 y_32 37 [(0, .ref t)] []
      refine zq_aload_n (pc' := 38) C dX6_save_37 rfl rfl rfl ?_
      refine zq_dup (pc' := 39) C dX6_save_38 rfl rfl ?_
      replace hF := zq_bd hF; obtain ⟨v_48, e_49, hF⟩ := hF
      refine zq_getI (j := 1) (pc' := 42) C zq_K6 zq_in6w (Or.inl wd_545) (by decide) rfl dX6_save_39 rfl e_49 ?_
      refine zq_iconst (pc' := 43) C 1 dX6_save_42 rfl (by decide) ?_
      refine zq_isub (pc' := 44) C dX6_save_43 rfl ?_
      replace hF := zq_bd hF; obtain ⟨h_50, e_51, hF⟩ := hF
      refine zq_putI (j := 1) (pc' := 47) C zq_K6 zq_in6w (Or.inl wd_545) (by decide) rfl rfl dX6_save_44 rfl (Or.inl rfl) e_51 ?_
      refine zq_iconst (pc' := 48) C 0 dX6_save_47 rfl (by decide) ?_
      refine zq_istore_n (lv' := [(1, .int 0), (0, .ref t)]) (pc' := 49) C dX6_save_48 rfl rfl (by decide) rfl rfl ?_
      refine zq_sub [1, 0] rfl ?_
      replace hF := zq_bd hF; obtain ⟨r_53, e_54, hF⟩ := hF
      refine zq_lpW (fun s_52 => zq_W X 0 0 s_52.2 49 [(0, .ref t), (1, .int s_52.1)] []) (fun y_55 => zq_W X 0 0 y_55 79 [(0, .ref t)] []) e_54 (fun s_52 q_59 hF hrec_57 hex_58 => ?_) ?_
      · skip
        refine zq_iload_n (pc' := 50) C dX6_save_49 rfl rfl rfl ?_
        refine zq_iconst (pc' := 51) C 5 dX6_save_50 rfl (by decide) ?_
        refine zq_icmp_ge (pc' := 54) C 79 dX6_save_51 (by decide) rfl (fun c_60 => ?_) (fun c_60 => ?_)
        · have hF := (zq_ifp hF c_60)
          skip
          cases hF
          exact zq_sub [0] rfl (hex_58 _ rfl)
        · have hF := (zq_ifn hF c_60)
          refine zq_aload_n (pc' := 55) C dX6_save_54 rfl rfl rfl ?_
          replace hF := zq_bd hF; obtain ⟨v_61, e_62, hF⟩ := hF
          refine zq_getR (j := 2) (pc' := 58) C zq_K6 zq_in6w (Or.inl wd_533) (by decide) rfl dX6_save_55 rfl e_62 ?_
          refine zq_iconst (pc' := 59) C 5 dX6_save_58 rfl (by decide) ?_
          refine zq_aload_n (pc' := 60) C dX6_save_59 rfl rfl rfl ?_
          replace hF := zq_bd hF; obtain ⟨v_63, e_64, hF⟩ := hF
          refine zq_getI (j := 1) (pc' := 63) C zq_K6 zq_in6w (Or.inl wd_545) (by decide) rfl dX6_save_60 rfl e_64 ?_
          refine zq_imul (pc' := 64) C dX6_save_63 rfl ?_
          refine zq_iload_n (pc' := 65) C dX6_save_64 rfl rfl rfl ?_
          refine zq_iadd (pc' := 66) C dX6_save_65 rfl ?_
          refine zq_aload_n (pc' := 67) C dX6_save_66 rfl rfl rfl ?_
          replace hF := zq_bd hF; obtain ⟨v_65, e_66, hF⟩ := hF
          refine zq_getR (j := 0) (pc' := 70) C zq_K6 zq_in6w (Or.inl wd_448) (by decide) rfl dX6_save_67 rfl e_66 ?_
          refine zq_iload_n (pc' := 71) C dX6_save_70 rfl rfl rfl ?_
          replace hF := zq_bd hF; obtain ⟨v_67, e_68, hF⟩ := hF
          refine zq_iaload (pc' := 72) C dX6_save_71 rfl e_68 ?_
          replace hF := zq_bd hF; obtain ⟨h_69, e_70, hF⟩ := hF
          refine zq_iastore (pc' := 73) C dX6_save_72 rfl e_70 ?_
          replace hF := zq_let_e hF; obtain ⟨v_71, e_72, hF⟩ := hF
          refine zq_iinc (lv' := [(1, .int v_71), (0, .ref t)]) (pc' := 76) C dX6_save_73 rfl (by decide) 1 rfl e_72 rfl ?_
          refine zq_goto C 49 dX6_save_76 (by decide) ?_
          cases hF
          exact zq_sub [1, 0] rfl (hrec_57 _ rfl)
      · skip
        obtain ⟨y_55, rfl⟩ : ∃ z9, z9 = r_53 := ⟨_, rfl⟩
        show zq_W X 0 0 y_55 79 [(0, .ref t)] []
        refine zq_aload_n (pc' := 80) C dX6_save_79 rfl rfl rfl ?_
        refine zq_dup (pc' := 81) C dX6_save_80 rfl rfl ?_
        replace hF := zq_bd hF; obtain ⟨v_73, e_74, hF⟩ := hF
        refine zq_getI (j := 1) (pc' := 84) C zq_K6 zq_in6w (Or.inl wd_545) (by decide) rfl dX6_save_81 rfl e_74 ?_
        refine zq_iconst (pc' := 85) C 1 dX6_save_84 rfl (by decide) ?_
        refine zq_iadd (pc' := 86) C dX6_save_85 rfl ?_
        replace hF := zq_bd hF; obtain ⟨h_75, e_76, hF⟩ := hF
        refine zq_putI (j := 1) (pc' := 89) C zq_K6 zq_in6w (Or.inl wd_545) (by decide) rfl rfl dX6_save_86 rfl (Or.inl rfl) e_76 ?_
        have hF := Option.some.inj hF
        subst hF
        exact hE _ _ _ _ (Nat.le_of_ble_eq_true rfl) (Nat.le_of_ble_eq_true rfl) dX6_save_89
theorem c_X6_save {h : zq_H} {t : Nat} {out : zq_H} (hF : f_X6_save h t = some out) : zq_M none yX6_save (Cond.code yX6_save cX6_save 2 none :: zq_all) rm_X6_save [.ref t] h none out := zq_met2 (own := RX6) (by decide +kernel) rfl (Nat.le_of_ble_eq_true rfl) rfl rfl (fun X C T hn hE => v_X6_save C T hn hF hE)
theorem yv_X6_save : zq_calV yX6_save RX6 cX6_save 2 none 0 := ⟨by decide +kernel, wd_544, wd_560, wd_561, wd_458⟩
def f_X6_ones (h : zq_H) (x0 : Int32) : Option Int32 := ((zq_lp (σ := Int32 × Int32) (ρ := Int32) (fun s_1 => (if 27 ≤ s_1.2 then some (.inr s_1.1) else (zq_let (s_1.1 + ((x0 >>> (s_1.2 &&& 31)) &&& 1)) fun v_10 => (zq_let (s_1.2 + 1) fun v_12 => some (.inl (v_10, v_12)))))) zq_N (0, 0)).bind (fun y_4 : Int32 => some (y_4)))
abbrev rm_X6_ones : Room := { frames := 0, cells := 0, slots := 0, locals := 0 }
theorem dX6_ones_0 : decode cX6_ones 0 = .ok (.iconst 0, 1) := by decide +kernel
theorem dX6_ones_1 : decode cX6_ones 1 = .ok (.istore_n 1, 1) := by decide +kernel
theorem dX6_ones_2 : decode cX6_ones 2 = .ok (.iconst 0, 1) := by decide +kernel
theorem dX6_ones_3 : decode cX6_ones 3 = .ok (.istore_n 2, 1) := by decide +kernel
theorem dX6_ones_4 : decode cX6_ones 4 = .ok (.iload_n 2, 1) := by decide +kernel
theorem dX6_ones_5 : decode cX6_ones 5 = .ok (.bipush 27, 2) := by decide +kernel
theorem dX6_ones_7 : decode cX6_ones 7 = .ok (.if_icmp .ge 17, 3) := by decide +kernel
theorem dX6_ones_10 : decode cX6_ones 10 = .ok (.iload_n 1, 1) := by decide +kernel
theorem dX6_ones_11 : decode cX6_ones 11 = .ok (.iload_n 0, 1) := by decide +kernel
theorem dX6_ones_12 : decode cX6_ones 12 = .ok (.iload_n 2, 1) := by decide +kernel
theorem dX6_ones_13 : decode cX6_ones 13 = .ok (.ishr, 1) := by decide +kernel
theorem dX6_ones_14 : decode cX6_ones 14 = .ok (.iconst 1, 1) := by decide +kernel
theorem dX6_ones_15 : decode cX6_ones 15 = .ok (.iand, 1) := by decide +kernel
theorem dX6_ones_16 : decode cX6_ones 16 = .ok (.iadd, 1) := by decide +kernel
theorem dX6_ones_17 : decode cX6_ones 17 = .ok (.istore_n 1, 1) := by decide +kernel
theorem dX6_ones_18 : decode cX6_ones 18 = .ok (.iinc 2 1, 3) := by decide +kernel
theorem dX6_ones_21 : decode cX6_ones 21 = .ok (.goto (-17), 3) := by decide +kernel
theorem dX6_ones_24 : decode cX6_ones 24 = .ok (.iload_n 1, 1) := by decide +kernel
theorem dX6_ones_25 : decode cX6_ones 25 = .ok (.ireturn, 1) := by decide +kernel
set_option maxRecDepth 100000 in
set_option maxHeartbeats 4000000 in
theorem v_X6_ones {X : zq_X} (C : zq_C X RX6 cX6_ones 3 zq_all rm_X6_ones) {h : zq_H} {x0 : Int32} (T : zq_T X none) (hn : X.2.2.2.2.2.2.2.2.1.name = yX6_ones.name) {out : Int32} (hF : f_X6_ones h x0 = some out) (hE : zq_End X cX6_ones 0 0 (some (.int out)) h) : zq_W X 0 0 h 0 [(0, .int x0)] [] := by
  unfold f_X6_ones at hF
  refine zq_iconst (pc' := 1) C 0 dX6_ones_0 rfl (by decide) ?_
  refine zq_istore_n (lv' := [(1, .int 0), (0, .int x0)]) (pc' := 2) C dX6_ones_1 rfl rfl (by decide) rfl rfl ?_
  refine zq_iconst (pc' := 3) C 0 dX6_ones_2 rfl (by decide) ?_
  refine zq_istore_n (lv' := [(2, .int 0), (1, .int 0), (0, .int x0)]) (pc' := 4) C dX6_ones_3 rfl rfl (by decide) rfl rfl ?_
  refine zq_sub [2, 1, 0] rfl ?_
  replace hF := zq_bd hF; obtain ⟨r_2, e_3, hF⟩ := hF
  refine zq_lpW (fun s_1 => zq_W X 0 0 h 4 [(0, .int x0), (1, .int s_1.1), (2, .int s_1.2)] []) (fun y_4 => zq_W X 0 0 h 24 [(1, .int y_4)] []) e_3 (fun s_1 q_8 hF hrec_6 hex_7 => ?_) ?_
  · skip
    refine zq_iload_n (pc' := 5) C dX6_ones_4 rfl rfl rfl ?_
    refine zq_bipush (pc' := 7) C 27 dX6_ones_5 rfl (by decide) ?_
    refine zq_icmp_ge (pc' := 10) C 24 dX6_ones_7 (by decide) rfl (fun c_9 => ?_) (fun c_9 => ?_)
    · have hF := (zq_ifp hF c_9)
      skip
      cases hF
      exact zq_sub [1] rfl (hex_7 _ rfl)
    · have hF := (zq_ifn hF c_9)
      refine zq_iload_n (pc' := 11) C dX6_ones_10 rfl rfl rfl ?_
      refine zq_iload_n (pc' := 12) C dX6_ones_11 rfl rfl rfl ?_
      refine zq_iload_n (pc' := 13) C dX6_ones_12 rfl rfl rfl ?_
      refine zq_ishr (pc' := 14) C dX6_ones_13 rfl ?_
      refine zq_iconst (pc' := 15) C 1 dX6_ones_14 rfl (by decide) ?_
      refine zq_iand (pc' := 16) C dX6_ones_15 rfl ?_
      refine zq_iadd (pc' := 17) C dX6_ones_16 rfl ?_
      replace hF := zq_let_e hF; obtain ⟨v_10, e_11, hF⟩ := hF
      refine zq_istore_n (lv' := [(1, .int v_10), (0, .int x0), (2, .int s_1.2)]) (pc' := 18) C dX6_ones_17 rfl rfl (by decide) e_11 rfl ?_
      replace hF := zq_let_e hF; obtain ⟨v_12, e_13, hF⟩ := hF
      refine zq_iinc (lv' := [(2, .int v_12), (1, .int v_10), (0, .int x0)]) (pc' := 21) C dX6_ones_18 rfl (by decide) 2 rfl e_13 rfl ?_
      refine zq_goto C 4 dX6_ones_21 (by decide) ?_
      cases hF
      exact zq_sub [2, 1, 0] rfl (hrec_6 _ rfl)
  · skip
    obtain ⟨y_4, rfl⟩ : ∃ z9, z9 = r_2 := ⟨_, rfl⟩
    show zq_W X 0 0 h 24 [(1, .int y_4)] []
    refine zq_iload_n (pc' := 25) C dX6_ones_24 rfl rfl rfl ?_
    have hF := Option.some.inj hF
    subst hF
    exact hE _ _ _ _ (Nat.le_of_ble_eq_true rfl) (Nat.le_of_ble_eq_true rfl) dX6_ones_25
theorem c_X6_ones {h : zq_H} {x0 : Int32} {out : Int32} (hF : f_X6_ones h x0 = some out) : zq_M none yX6_ones (Cond.code yX6_ones cX6_ones 3 (some .int) :: zq_all) rm_X6_ones [.int x0] h (some (.int out)) h := zq_met2 (own := RX6) (by decide +kernel) rfl (Nat.le_of_ble_eq_true rfl) rfl ⟨.int, rfl, rfl⟩ (fun X C T hn hE => v_X6_ones C T hn hF hE)
theorem ys_X6_ones : zq_calS yX6_ones cX6_ones 3 (some .int) 1 := ⟨by decide +kernel, wd_546, wd_580, wd_458⟩
def f_X6_isDiagonal (h : zq_H) (t : Nat) (x1 : Int32) (x2 : Int32) : Option Bool := (Option.bind (zq_gr h t 6 0) fun v_1 => (Option.bind (zq_ai h v_1 0) fun v_3 => (Option.bind (f_X6_within h x1 0 (v_3 - 1)) fun v_5 => (if v_5 = false then some (false) else (Option.bind (zq_gr h t 6 0) fun v_8 => (Option.bind (zq_ai h v_8 0) fun v_10 => (Option.bind (f_X6_within h x2 0 (v_10 - 1)) fun v_12 => (if v_12 = false then some (false) else (if x2 ≤ x1 then some (false) else (zq_ck h t 6 fun _ => (Option.bind (f_X6_numberOf h t x1 x2) fun v_16 => (if v_16 = (-1) then some (false) else some (true)))))))))))))
abbrev rm_X6_isDiagonal : Room := { frames := 1, cells := 0, slots := 0, locals := 22 }
theorem dX6_isDiagonal_0 : decode cX6_isDiagonal 0 = .ok (.iload_n 1, 1) := by decide +kernel
theorem dX6_isDiagonal_1 : decode cX6_isDiagonal 1 = .ok (.iconst 0, 1) := by decide +kernel
theorem dX6_isDiagonal_2 : decode cX6_isDiagonal 2 = .ok (.aload_n 0, 1) := by decide +kernel
theorem dX6_isDiagonal_3 : decode cX6_isDiagonal 3 = .ok (.getfield 7, 3) := by decide +kernel
theorem dX6_isDiagonal_6 : decode cX6_isDiagonal 6 = .ok (.iconst 0, 1) := by decide +kernel
theorem dX6_isDiagonal_7 : decode cX6_isDiagonal 7 = .ok (.iaload, 1) := by decide +kernel
theorem dX6_isDiagonal_8 : decode cX6_isDiagonal 8 = .ok (.iconst 1, 1) := by decide +kernel
theorem dX6_isDiagonal_9 : decode cX6_isDiagonal 9 = .ok (.isub, 1) := by decide +kernel
theorem dX6_isDiagonal_10 : decode cX6_isDiagonal 10 = .ok (.invokestatic 66, 3) := by decide +kernel
theorem dX6_isDiagonal_13 : decode cX6_isDiagonal 13 = .ok (.ifCond .eq 38, 3) := by decide +kernel
theorem dX6_isDiagonal_16 : decode cX6_isDiagonal 16 = .ok (.iload_n 2, 1) := by decide +kernel
theorem dX6_isDiagonal_17 : decode cX6_isDiagonal 17 = .ok (.iconst 0, 1) := by decide +kernel
theorem dX6_isDiagonal_18 : decode cX6_isDiagonal 18 = .ok (.aload_n 0, 1) := by decide +kernel
theorem dX6_isDiagonal_19 : decode cX6_isDiagonal 19 = .ok (.getfield 7, 3) := by decide +kernel
theorem dX6_isDiagonal_22 : decode cX6_isDiagonal 22 = .ok (.iconst 0, 1) := by decide +kernel
theorem dX6_isDiagonal_23 : decode cX6_isDiagonal 23 = .ok (.iaload, 1) := by decide +kernel
theorem dX6_isDiagonal_24 : decode cX6_isDiagonal 24 = .ok (.iconst 1, 1) := by decide +kernel
theorem dX6_isDiagonal_25 : decode cX6_isDiagonal 25 = .ok (.isub, 1) := by decide +kernel
theorem dX6_isDiagonal_26 : decode cX6_isDiagonal 26 = .ok (.invokestatic 66, 3) := by decide +kernel
theorem dX6_isDiagonal_29 : decode cX6_isDiagonal 29 = .ok (.ifCond .eq 22, 3) := by decide +kernel
theorem dX6_isDiagonal_32 : decode cX6_isDiagonal 32 = .ok (.iload_n 1, 1) := by decide +kernel
theorem dX6_isDiagonal_33 : decode cX6_isDiagonal 33 = .ok (.iload_n 2, 1) := by decide +kernel
theorem dX6_isDiagonal_34 : decode cX6_isDiagonal 34 = .ok (.if_icmp .ge 17, 3) := by decide +kernel
theorem dX6_isDiagonal_37 : decode cX6_isDiagonal 37 = .ok (.aload_n 0, 1) := by decide +kernel
theorem dX6_isDiagonal_38 : decode cX6_isDiagonal 38 = .ok (.iload_n 1, 1) := by decide +kernel
theorem dX6_isDiagonal_39 : decode cX6_isDiagonal 39 = .ok (.iload_n 2, 1) := by decide +kernel
theorem dX6_isDiagonal_40 : decode cX6_isDiagonal 40 = .ok (.invokevirtual 70, 3) := by decide +kernel
theorem dX6_isDiagonal_43 : decode cX6_isDiagonal 43 = .ok (.iconst (-1), 1) := by decide +kernel
theorem dX6_isDiagonal_44 : decode cX6_isDiagonal 44 = .ok (.if_icmp .eq 7, 3) := by decide +kernel
theorem dX6_isDiagonal_47 : decode cX6_isDiagonal 47 = .ok (.iconst 1, 1) := by decide +kernel
theorem dX6_isDiagonal_48 : decode cX6_isDiagonal 48 = .ok (.goto 4, 3) := by decide +kernel
theorem dX6_isDiagonal_51 : decode cX6_isDiagonal 51 = .ok (.iconst 0, 1) := by decide +kernel
theorem dX6_isDiagonal_52 : decode cX6_isDiagonal 52 = .ok (.ireturn, 1) := by decide +kernel
set_option maxRecDepth 100000 in
set_option maxHeartbeats 4000000 in
theorem v_X6_isDiagonal {X : zq_X} (C : zq_C X RX6 cX6_isDiagonal 3 zq_all rm_X6_isDiagonal) {h : zq_H} {t : Nat} {x1 : Int32} {x2 : Int32} (T : zq_T X none) (hn : X.2.2.2.2.2.2.2.2.1.name = yX6_isDiagonal.name) {out : Bool} (hF : f_X6_isDiagonal h t x1 x2 = some out) (hE : zq_End X cX6_isDiagonal 0 0 (some (.int (zq_b out))) h) : zq_W X 0 0 h 0 [(0, .ref t), (1, .int x1), (2, .int x2)] [] := by
  unfold f_X6_isDiagonal at hF
  refine zq_iload_n (pc' := 1) C dX6_isDiagonal_0 rfl rfl rfl ?_
  refine zq_iconst (pc' := 2) C 0 dX6_isDiagonal_1 rfl (by decide) ?_
  refine zq_aload_n (pc' := 3) C dX6_isDiagonal_2 rfl rfl rfl ?_
  replace hF := zq_bd hF; obtain ⟨v_1, e_2, hF⟩ := hF
  refine zq_getR (j := 0) (pc' := 6) C zq_K6 zq_in6w (Or.inl wd_448) (by decide) rfl dX6_isDiagonal_3 rfl e_2 ?_
  refine zq_iconst (pc' := 7) C 0 dX6_isDiagonal_6 rfl (by decide) ?_
  replace hF := zq_bd hF; obtain ⟨v_3, e_4, hF⟩ := hF
  refine zq_iaload (pc' := 8) C dX6_isDiagonal_7 rfl e_4 ?_
  refine zq_iconst (pc' := 9) C 1 dX6_isDiagonal_8 rfl (by decide) ?_
  refine zq_isub (pc' := 10) C dX6_isDiagonal_9 rfl ?_
  replace hF := zq_bd hF; obtain ⟨v_5, e_6, hF⟩ := hF
  refine zq_cS (pc' := 13) C (c_X6_within e_6) ys_X6_within wd_548 dX6_isDiagonal_10 rfl rfl rfl ⟨Nat.le_of_ble_eq_true rfl, Nat.le_of_ble_eq_true rfl⟩ (Nat.le_of_ble_eq_true rfl) ⟨rfl, rfl⟩ ⟨Nat.le_of_ble_eq_true rfl, Nat.le_of_ble_eq_true rfl⟩ rfl ?_
  refine zq_if_eq (pc' := 16) C 51 dX6_isDiagonal_13 (by decide) rfl (fun c_7 => ?_) (fun c_7 => ?_)
  · have hF := (zq_ifp hF (zq_b0.mp c_7))
    skip
    refine zq_iconst (pc' := 52) C 0 dX6_isDiagonal_51 rfl (by decide) ?_
    have hF := Option.some.inj hF
    subst hF
    exact hE _ _ _ _ (Nat.le_of_ble_eq_true rfl) (Nat.le_of_ble_eq_true rfl) dX6_isDiagonal_52
  · have hF := (zq_ifn hF (fun q => c_7 (zq_b0.mpr q)))
    refine zq_iload_n (pc' := 17) C dX6_isDiagonal_16 rfl rfl rfl ?_
    refine zq_iconst (pc' := 18) C 0 dX6_isDiagonal_17 rfl (by decide) ?_
    refine zq_aload_n (pc' := 19) C dX6_isDiagonal_18 rfl rfl rfl ?_
    replace hF := zq_bd hF; obtain ⟨v_8, e_9, hF⟩ := hF
    refine zq_getR (j := 0) (pc' := 22) C zq_K6 zq_in6w (Or.inl wd_448) (by decide) rfl dX6_isDiagonal_19 rfl e_9 ?_
    refine zq_iconst (pc' := 23) C 0 dX6_isDiagonal_22 rfl (by decide) ?_
    replace hF := zq_bd hF; obtain ⟨v_10, e_11, hF⟩ := hF
    refine zq_iaload (pc' := 24) C dX6_isDiagonal_23 rfl e_11 ?_
    refine zq_iconst (pc' := 25) C 1 dX6_isDiagonal_24 rfl (by decide) ?_
    refine zq_isub (pc' := 26) C dX6_isDiagonal_25 rfl ?_
    replace hF := zq_bd hF; obtain ⟨v_12, e_13, hF⟩ := hF
    refine zq_cS (pc' := 29) C (c_X6_within e_13) ys_X6_within wd_548 dX6_isDiagonal_26 rfl rfl rfl ⟨Nat.le_of_ble_eq_true rfl, Nat.le_of_ble_eq_true rfl⟩ (Nat.le_of_ble_eq_true rfl) ⟨rfl, rfl⟩ ⟨Nat.le_of_ble_eq_true rfl, Nat.le_of_ble_eq_true rfl⟩ rfl ?_
    refine zq_if_eq (pc' := 32) C 51 dX6_isDiagonal_29 (by decide) rfl (fun c_14 => ?_) (fun c_14 => ?_)
    · have hF := (zq_ifp hF (zq_b0.mp c_14))
      skip
      refine zq_iconst (pc' := 52) C 0 dX6_isDiagonal_51 rfl (by decide) ?_
      have hF := Option.some.inj hF
      subst hF
      exact hE _ _ _ _ (Nat.le_of_ble_eq_true rfl) (Nat.le_of_ble_eq_true rfl) dX6_isDiagonal_52
    · have hF := (zq_ifn hF (fun q => c_14 (zq_b0.mpr q)))
      refine zq_iload_n (pc' := 33) C dX6_isDiagonal_32 rfl rfl rfl ?_
      refine zq_iload_n (pc' := 34) C dX6_isDiagonal_33 rfl rfl rfl ?_
      refine zq_icmp_ge (pc' := 37) C 51 dX6_isDiagonal_34 (by decide) rfl (fun c_15 => ?_) (fun c_15 => ?_)
      · have hF := (zq_ifp hF c_15)
        skip
        refine zq_iconst (pc' := 52) C 0 dX6_isDiagonal_51 rfl (by decide) ?_
        have hF := Option.some.inj hF
        subst hF
        exact hE _ _ _ _ (Nat.le_of_ble_eq_true rfl) (Nat.le_of_ble_eq_true rfl) dX6_isDiagonal_52
      · have hF := (zq_ifn hF c_15)
        refine zq_aload_n (pc' := 38) C dX6_isDiagonal_37 rfl rfl rfl ?_
        refine zq_iload_n (pc' := 39) C dX6_isDiagonal_38 rfl rfl rfl ?_
        refine zq_iload_n (pc' := 40) C dX6_isDiagonal_39 rfl rfl rfl ?_
        replace hF := zq_ck_e hF; obtain ⟨e_18, hF⟩ := hF
        replace hF := zq_bd hF; obtain ⟨v_16, e_17, hF⟩ := hF
        refine zq_cV (pc' := 43) C (c_X6_numberOf e_17) yv_X6_numberOf wd_455 zq_K6 e_18 dX6_isDiagonal_40 rfl rfl rfl ⟨Nat.le_of_ble_eq_true rfl, Nat.le_of_ble_eq_true rfl⟩ (Nat.le_of_ble_eq_true rfl) ⟨rfl, rfl⟩ ⟨Nat.le_of_ble_eq_true rfl, Nat.le_of_ble_eq_true rfl⟩ rfl ?_
        refine zq_iconst (pc' := 44) C (-1) dX6_isDiagonal_43 rfl (by decide) ?_
        refine zq_icmp_eq (pc' := 47) C 51 dX6_isDiagonal_44 (by decide) rfl (fun c_19 => ?_) (fun c_19 => ?_)
        · have hF := (zq_ifp hF c_19)
          skip
          refine zq_iconst (pc' := 52) C 0 dX6_isDiagonal_51 rfl (by decide) ?_
          have hF := Option.some.inj hF
          subst hF
          exact hE _ _ _ _ (Nat.le_of_ble_eq_true rfl) (Nat.le_of_ble_eq_true rfl) dX6_isDiagonal_52
        · have hF := (zq_ifn hF c_19)
          refine zq_iconst (pc' := 48) C 1 dX6_isDiagonal_47 rfl (by decide) ?_
          refine zq_goto C 52 dX6_isDiagonal_48 (by decide) ?_
          have hF := Option.some.inj hF
          subst hF
          exact hE _ _ _ _ (Nat.le_of_ble_eq_true rfl) (Nat.le_of_ble_eq_true rfl) dX6_isDiagonal_52
theorem c_X6_isDiagonal {h : zq_H} {t : Nat} {x1 : Int32} {x2 : Int32} {out : Bool} (hF : f_X6_isDiagonal h t x1 x2 = some out) : zq_M none yX6_isDiagonal (Cond.code yX6_isDiagonal cX6_isDiagonal 3 (some .boolean) :: zq_all) rm_X6_isDiagonal [.ref t, .int x1, .int x2] h (some (.int (zq_b out))) h := zq_met2 (own := RX6) (by decide +kernel) rfl (Nat.le_of_ble_eq_true rfl) rfl ⟨.boolean, rfl, by cases out <;> rfl⟩ (fun X C T hn hE => v_X6_isDiagonal C T hn hF hE)
theorem yv_X6_isDiagonal : zq_calV yX6_isDiagonal RX6 cX6_isDiagonal 3 (some .boolean) 2 := ⟨by decide +kernel, wd_547, wd_568, wd_569, wd_458⟩
def f_X6_cross (h : zq_H) (t : Nat) (x1 : Int32) (x2 : Int32) : Option Bool := (Option.bind (zq_gr h t 6 10) fun v_1 => (Option.bind (zq_ai h v_1 x1) fun v_3 => (Option.bind (zq_gr h t 6 11) fun v_5 => (Option.bind (zq_ai h v_5 x1) fun v_7 => (Option.bind (zq_gr h t 6 10) fun v_9 => (Option.bind (zq_ai h v_9 x2) fun v_11 => (Option.bind (zq_gr h t 6 11) fun v_13 => (Option.bind (zq_ai h v_13 x2) fun v_15 => (if v_11 ≤ v_3 then (if v_3 ≤ v_11 then some (false) else (if v_15 ≤ v_3 then some (false) else (if v_7 ≤ v_15 then some (false) else some (true)))) else (if v_7 ≤ v_11 then (if v_3 ≤ v_11 then some (false) else (if v_15 ≤ v_3 then some (false) else (if v_7 ≤ v_15 then some (false) else some (true)))) else (if v_7 < v_15 then some (true) else (if v_3 ≤ v_11 then some (false) else (if v_15 ≤ v_3 then some (false) else (if v_7 ≤ v_15 then some (false) else some (true)))))))))))))))
abbrev rm_X6_cross : Room := { frames := 0, cells := 0, slots := 0, locals := 0 }
theorem dX6_cross_0 : decode cX6_cross 0 = .ok (.aload_n 0, 1) := by decide +kernel
theorem dX6_cross_1 : decode cX6_cross 1 = .ok (.getfield 25, 3) := by decide +kernel
theorem dX6_cross_4 : decode cX6_cross 4 = .ok (.iload_n 1, 1) := by decide +kernel
theorem dX6_cross_5 : decode cX6_cross 5 = .ok (.iaload, 1) := by decide +kernel
theorem dX6_cross_6 : decode cX6_cross 6 = .ok (.istore_n 3, 1) := by decide +kernel
theorem dX6_cross_7 : decode cX6_cross 7 = .ok (.aload_n 0, 1) := by decide +kernel
theorem dX6_cross_8 : decode cX6_cross 8 = .ok (.getfield 28, 3) := by decide +kernel
theorem dX6_cross_11 : decode cX6_cross 11 = .ok (.iload_n 1, 1) := by decide +kernel
theorem dX6_cross_12 : decode cX6_cross 12 = .ok (.iaload, 1) := by decide +kernel
theorem dX6_cross_13 : decode cX6_cross 13 = .ok (.istore 4, 2) := by decide +kernel
theorem dX6_cross_15 : decode cX6_cross 15 = .ok (.aload_n 0, 1) := by decide +kernel
theorem dX6_cross_16 : decode cX6_cross 16 = .ok (.getfield 25, 3) := by decide +kernel
theorem dX6_cross_19 : decode cX6_cross 19 = .ok (.iload_n 2, 1) := by decide +kernel
theorem dX6_cross_20 : decode cX6_cross 20 = .ok (.iaload, 1) := by decide +kernel
theorem dX6_cross_21 : decode cX6_cross 21 = .ok (.istore 5, 2) := by decide +kernel
theorem dX6_cross_23 : decode cX6_cross 23 = .ok (.aload_n 0, 1) := by decide +kernel
theorem dX6_cross_24 : decode cX6_cross 24 = .ok (.getfield 28, 3) := by decide +kernel
theorem dX6_cross_27 : decode cX6_cross 27 = .ok (.iload_n 2, 1) := by decide +kernel
theorem dX6_cross_28 : decode cX6_cross 28 = .ok (.iaload, 1) := by decide +kernel
theorem dX6_cross_29 : decode cX6_cross 29 = .ok (.istore 6, 2) := by decide +kernel
theorem dX6_cross_31 : decode cX6_cross 31 = .ok (.iload_n 3, 1) := by decide +kernel
theorem dX6_cross_32 : decode cX6_cross 32 = .ok (.iload 5, 2) := by decide +kernel
theorem dX6_cross_34 : decode cX6_cross 34 = .ok (.if_icmp .ge 17, 3) := by decide +kernel
theorem dX6_cross_37 : decode cX6_cross 37 = .ok (.iload 5, 2) := by decide +kernel
theorem dX6_cross_39 : decode cX6_cross 39 = .ok (.iload 4, 2) := by decide +kernel
theorem dX6_cross_41 : decode cX6_cross 41 = .ok (.if_icmp .ge 10, 3) := by decide +kernel
theorem dX6_cross_44 : decode cX6_cross 44 = .ok (.iload 4, 2) := by decide +kernel
theorem dX6_cross_46 : decode cX6_cross 46 = .ok (.iload 6, 2) := by decide +kernel
theorem dX6_cross_48 : decode cX6_cross 48 = .ok (.if_icmp .lt 22, 3) := by decide +kernel
theorem dX6_cross_51 : decode cX6_cross 51 = .ok (.iload 5, 2) := by decide +kernel
theorem dX6_cross_53 : decode cX6_cross 53 = .ok (.iload_n 3, 1) := by decide +kernel
theorem dX6_cross_54 : decode cX6_cross 54 = .ok (.if_icmp .ge 20, 3) := by decide +kernel
theorem dX6_cross_57 : decode cX6_cross 57 = .ok (.iload_n 3, 1) := by decide +kernel
theorem dX6_cross_58 : decode cX6_cross 58 = .ok (.iload 6, 2) := by decide +kernel
theorem dX6_cross_60 : decode cX6_cross 60 = .ok (.if_icmp .ge 14, 3) := by decide +kernel
theorem dX6_cross_63 : decode cX6_cross 63 = .ok (.iload 6, 2) := by decide +kernel
theorem dX6_cross_65 : decode cX6_cross 65 = .ok (.iload 4, 2) := by decide +kernel
theorem dX6_cross_67 : decode cX6_cross 67 = .ok (.if_icmp .ge 7, 3) := by decide +kernel
theorem dX6_cross_70 : decode cX6_cross 70 = .ok (.iconst 1, 1) := by decide +kernel
theorem dX6_cross_71 : decode cX6_cross 71 = .ok (.goto 4, 3) := by decide +kernel
theorem dX6_cross_74 : decode cX6_cross 74 = .ok (.iconst 0, 1) := by decide +kernel
theorem dX6_cross_75 : decode cX6_cross 75 = .ok (.ireturn, 1) := by decide +kernel
set_option maxRecDepth 100000 in
set_option maxHeartbeats 4000000 in
theorem v_X6_cross {X : zq_X} (C : zq_C X RX6 cX6_cross 7 zq_all rm_X6_cross) {h : zq_H} {t : Nat} {x1 : Int32} {x2 : Int32} (T : zq_T X none) (hn : X.2.2.2.2.2.2.2.2.1.name = yX6_cross.name) {out : Bool} (hF : f_X6_cross h t x1 x2 = some out) (hE : zq_End X cX6_cross 0 0 (some (.int (zq_b out))) h) : zq_W X 0 0 h 0 [(0, .ref t), (1, .int x1), (2, .int x2)] [] := by
  unfold f_X6_cross at hF
  refine zq_aload_n (pc' := 1) C dX6_cross_0 rfl rfl rfl ?_
  replace hF := zq_bd hF; obtain ⟨v_1, e_2, hF⟩ := hF
  refine zq_getR (j := 10) (pc' := 4) C zq_K6 zq_in6w (Or.inl wd_449) (by decide) rfl dX6_cross_1 rfl e_2 ?_
  refine zq_iload_n (pc' := 5) C dX6_cross_4 rfl rfl rfl ?_
  replace hF := zq_bd hF; obtain ⟨v_3, e_4, hF⟩ := hF
  refine zq_iaload (pc' := 6) C dX6_cross_5 rfl e_4 ?_
  refine zq_istore_n (lv' := [(3, .int v_3), (0, .ref t), (1, .int x1), (2, .int x2)]) (pc' := 7) C dX6_cross_6 rfl rfl (by decide) rfl rfl ?_
  refine zq_aload_n (pc' := 8) C dX6_cross_7 rfl rfl rfl ?_
  replace hF := zq_bd hF; obtain ⟨v_5, e_6, hF⟩ := hF
  refine zq_getR (j := 11) (pc' := 11) C zq_K6 zq_in6w (Or.inl wd_450) (by decide) rfl dX6_cross_8 rfl e_6 ?_
  refine zq_iload_n (pc' := 12) C dX6_cross_11 rfl rfl rfl ?_
  replace hF := zq_bd hF; obtain ⟨v_7, e_8, hF⟩ := hF
  refine zq_iaload (pc' := 13) C dX6_cross_12 rfl e_8 ?_
  refine zq_istore (lv' := [(4, .int v_7), (3, .int v_3), (0, .ref t), (1, .int x1), (2, .int x2)]) (pc' := 15) C dX6_cross_13 rfl (by decide) rfl rfl ?_
  refine zq_aload_n (pc' := 16) C dX6_cross_15 rfl rfl rfl ?_
  replace hF := zq_bd hF; obtain ⟨v_9, e_10, hF⟩ := hF
  refine zq_getR (j := 10) (pc' := 19) C zq_K6 zq_in6w (Or.inl wd_449) (by decide) rfl dX6_cross_16 rfl e_10 ?_
  refine zq_iload_n (pc' := 20) C dX6_cross_19 rfl rfl rfl ?_
  replace hF := zq_bd hF; obtain ⟨v_11, e_12, hF⟩ := hF
  refine zq_iaload (pc' := 21) C dX6_cross_20 rfl e_12 ?_
  refine zq_istore (lv' := [(5, .int v_11), (4, .int v_7), (3, .int v_3), (0, .ref t), (1, .int x1), (2, .int x2)]) (pc' := 23) C dX6_cross_21 rfl (by decide) rfl rfl ?_
  refine zq_aload_n (pc' := 24) C dX6_cross_23 rfl rfl rfl ?_
  replace hF := zq_bd hF; obtain ⟨v_13, e_14, hF⟩ := hF
  refine zq_getR (j := 11) (pc' := 27) C zq_K6 zq_in6w (Or.inl wd_450) (by decide) rfl dX6_cross_24 rfl e_14 ?_
  refine zq_iload_n (pc' := 28) C dX6_cross_27 rfl rfl rfl ?_
  replace hF := zq_bd hF; obtain ⟨v_15, e_16, hF⟩ := hF
  refine zq_iaload (pc' := 29) C dX6_cross_28 rfl e_16 ?_
  refine zq_istore (lv' := [(6, .int v_15), (5, .int v_11), (4, .int v_7), (3, .int v_3), (0, .ref t), (1, .int x1), (2, .int x2)]) (pc' := 31) C dX6_cross_29 rfl (by decide) rfl rfl ?_
  refine zq_iload_n (pc' := 32) C dX6_cross_31 rfl rfl rfl ?_
  refine zq_iload (pc' := 34) C dX6_cross_32 rfl rfl ?_
  refine zq_icmp_ge (pc' := 37) C 51 dX6_cross_34 (by decide) rfl (fun c_17 => ?_) (fun c_17 => ?_)
  · have hF := (zq_ifp hF c_17)
    skip
    refine zq_iload (pc' := 53) C dX6_cross_51 rfl rfl ?_
    refine zq_iload_n (pc' := 54) C dX6_cross_53 rfl rfl rfl ?_
    refine zq_icmp_ge (pc' := 57) C 74 dX6_cross_54 (by decide) rfl (fun c_18 => ?_) (fun c_18 => ?_)
    · have hF := (zq_ifp hF c_18)
      skip
      refine zq_iconst (pc' := 75) C 0 dX6_cross_74 rfl (by decide) ?_
      have hF := Option.some.inj hF
      subst hF
      exact hE _ _ _ _ (Nat.le_of_ble_eq_true rfl) (Nat.le_of_ble_eq_true rfl) dX6_cross_75
    · have hF := (zq_ifn hF c_18)
      refine zq_iload_n (pc' := 58) C dX6_cross_57 rfl rfl rfl ?_
      refine zq_iload (pc' := 60) C dX6_cross_58 rfl rfl ?_
      refine zq_icmp_ge (pc' := 63) C 74 dX6_cross_60 (by decide) rfl (fun c_19 => ?_) (fun c_19 => ?_)
      · have hF := (zq_ifp hF c_19)
        skip
        refine zq_iconst (pc' := 75) C 0 dX6_cross_74 rfl (by decide) ?_
        have hF := Option.some.inj hF
        subst hF
        exact hE _ _ _ _ (Nat.le_of_ble_eq_true rfl) (Nat.le_of_ble_eq_true rfl) dX6_cross_75
      · have hF := (zq_ifn hF c_19)
        refine zq_iload (pc' := 65) C dX6_cross_63 rfl rfl ?_
        refine zq_iload (pc' := 67) C dX6_cross_65 rfl rfl ?_
        refine zq_icmp_ge (pc' := 70) C 74 dX6_cross_67 (by decide) rfl (fun c_20 => ?_) (fun c_20 => ?_)
        · have hF := (zq_ifp hF c_20)
          skip
          refine zq_iconst (pc' := 75) C 0 dX6_cross_74 rfl (by decide) ?_
          have hF := Option.some.inj hF
          subst hF
          exact hE _ _ _ _ (Nat.le_of_ble_eq_true rfl) (Nat.le_of_ble_eq_true rfl) dX6_cross_75
        · have hF := (zq_ifn hF c_20)
          refine zq_iconst (pc' := 71) C 1 dX6_cross_70 rfl (by decide) ?_
          refine zq_goto C 75 dX6_cross_71 (by decide) ?_
          have hF := Option.some.inj hF
          subst hF
          exact hE _ _ _ _ (Nat.le_of_ble_eq_true rfl) (Nat.le_of_ble_eq_true rfl) dX6_cross_75
  · have hF := (zq_ifn hF c_17)
    refine zq_iload (pc' := 39) C dX6_cross_37 rfl rfl ?_
    refine zq_iload (pc' := 41) C dX6_cross_39 rfl rfl ?_
    refine zq_icmp_ge (pc' := 44) C 51 dX6_cross_41 (by decide) rfl (fun c_21 => ?_) (fun c_21 => ?_)
    · have hF := (zq_ifp hF c_21)
      skip
      refine zq_iload (pc' := 53) C dX6_cross_51 rfl rfl ?_
      refine zq_iload_n (pc' := 54) C dX6_cross_53 rfl rfl rfl ?_
      refine zq_icmp_ge (pc' := 57) C 74 dX6_cross_54 (by decide) rfl (fun c_22 => ?_) (fun c_22 => ?_)
      · have hF := (zq_ifp hF c_22)
        skip
        refine zq_iconst (pc' := 75) C 0 dX6_cross_74 rfl (by decide) ?_
        have hF := Option.some.inj hF
        subst hF
        exact hE _ _ _ _ (Nat.le_of_ble_eq_true rfl) (Nat.le_of_ble_eq_true rfl) dX6_cross_75
      · have hF := (zq_ifn hF c_22)
        refine zq_iload_n (pc' := 58) C dX6_cross_57 rfl rfl rfl ?_
        refine zq_iload (pc' := 60) C dX6_cross_58 rfl rfl ?_
        refine zq_icmp_ge (pc' := 63) C 74 dX6_cross_60 (by decide) rfl (fun c_23 => ?_) (fun c_23 => ?_)
        · have hF := (zq_ifp hF c_23)
          skip
          refine zq_iconst (pc' := 75) C 0 dX6_cross_74 rfl (by decide) ?_
          have hF := Option.some.inj hF
          subst hF
          exact hE _ _ _ _ (Nat.le_of_ble_eq_true rfl) (Nat.le_of_ble_eq_true rfl) dX6_cross_75
        · have hF := (zq_ifn hF c_23)
          refine zq_iload (pc' := 65) C dX6_cross_63 rfl rfl ?_
          refine zq_iload (pc' := 67) C dX6_cross_65 rfl rfl ?_
          refine zq_icmp_ge (pc' := 70) C 74 dX6_cross_67 (by decide) rfl (fun c_24 => ?_) (fun c_24 => ?_)
          · have hF := (zq_ifp hF c_24)
            skip
            refine zq_iconst (pc' := 75) C 0 dX6_cross_74 rfl (by decide) ?_
            have hF := Option.some.inj hF
            subst hF
            exact hE _ _ _ _ (Nat.le_of_ble_eq_true rfl) (Nat.le_of_ble_eq_true rfl) dX6_cross_75
          · have hF := (zq_ifn hF c_24)
            refine zq_iconst (pc' := 71) C 1 dX6_cross_70 rfl (by decide) ?_
            refine zq_goto C 75 dX6_cross_71 (by decide) ?_
            have hF := Option.some.inj hF
            subst hF
            exact hE _ _ _ _ (Nat.le_of_ble_eq_true rfl) (Nat.le_of_ble_eq_true rfl) dX6_cross_75
    · have hF := (zq_ifn hF c_21)
      refine zq_iload (pc' := 46) C dX6_cross_44 rfl rfl ?_
      refine zq_iload (pc' := 48) C dX6_cross_46 rfl rfl ?_
      refine zq_icmp_lt (pc' := 51) C 70 dX6_cross_48 (by decide) rfl (fun c_25 => ?_) (fun c_25 => ?_)
      · have hF := (zq_ifp hF c_25)
        skip
        refine zq_iconst (pc' := 71) C 1 dX6_cross_70 rfl (by decide) ?_
        refine zq_goto C 75 dX6_cross_71 (by decide) ?_
        have hF := Option.some.inj hF
        subst hF
        exact hE _ _ _ _ (Nat.le_of_ble_eq_true rfl) (Nat.le_of_ble_eq_true rfl) dX6_cross_75
      · have hF := (zq_ifn hF c_25)
        refine zq_iload (pc' := 53) C dX6_cross_51 rfl rfl ?_
        refine zq_iload_n (pc' := 54) C dX6_cross_53 rfl rfl rfl ?_
        refine zq_icmp_ge (pc' := 57) C 74 dX6_cross_54 (by decide) rfl (fun c_26 => ?_) (fun c_26 => ?_)
        · have hF := (zq_ifp hF c_26)
          skip
          refine zq_iconst (pc' := 75) C 0 dX6_cross_74 rfl (by decide) ?_
          have hF := Option.some.inj hF
          subst hF
          exact hE _ _ _ _ (Nat.le_of_ble_eq_true rfl) (Nat.le_of_ble_eq_true rfl) dX6_cross_75
        · have hF := (zq_ifn hF c_26)
          refine zq_iload_n (pc' := 58) C dX6_cross_57 rfl rfl rfl ?_
          refine zq_iload (pc' := 60) C dX6_cross_58 rfl rfl ?_
          refine zq_icmp_ge (pc' := 63) C 74 dX6_cross_60 (by decide) rfl (fun c_27 => ?_) (fun c_27 => ?_)
          · have hF := (zq_ifp hF c_27)
            skip
            refine zq_iconst (pc' := 75) C 0 dX6_cross_74 rfl (by decide) ?_
            have hF := Option.some.inj hF
            subst hF
            exact hE _ _ _ _ (Nat.le_of_ble_eq_true rfl) (Nat.le_of_ble_eq_true rfl) dX6_cross_75
          · have hF := (zq_ifn hF c_27)
            refine zq_iload (pc' := 65) C dX6_cross_63 rfl rfl ?_
            refine zq_iload (pc' := 67) C dX6_cross_65 rfl rfl ?_
            refine zq_icmp_ge (pc' := 70) C 74 dX6_cross_67 (by decide) rfl (fun c_28 => ?_) (fun c_28 => ?_)
            · have hF := (zq_ifp hF c_28)
              skip
              refine zq_iconst (pc' := 75) C 0 dX6_cross_74 rfl (by decide) ?_
              have hF := Option.some.inj hF
              subst hF
              exact hE _ _ _ _ (Nat.le_of_ble_eq_true rfl) (Nat.le_of_ble_eq_true rfl) dX6_cross_75
            · have hF := (zq_ifn hF c_28)
              refine zq_iconst (pc' := 71) C 1 dX6_cross_70 rfl (by decide) ?_
              refine zq_goto C 75 dX6_cross_71 (by decide) ?_
              have hF := Option.some.inj hF
              subst hF
              exact hE _ _ _ _ (Nat.le_of_ble_eq_true rfl) (Nat.le_of_ble_eq_true rfl) dX6_cross_75
theorem c_X6_cross {h : zq_H} {t : Nat} {x1 : Int32} {x2 : Int32} {out : Bool} (hF : f_X6_cross h t x1 x2 = some out) : zq_M none yX6_cross (Cond.code yX6_cross cX6_cross 7 (some .boolean) :: zq_all) rm_X6_cross [.ref t, .int x1, .int x2] h (some (.int (zq_b out))) h := zq_met2 (own := RX6) (by decide +kernel) rfl (Nat.le_of_ble_eq_true rfl) rfl ⟨.boolean, rfl, by cases out <;> rfl⟩ (fun X C T hn hE => v_X6_cross C T hn hF hE)
theorem yv_X6_cross : zq_calV yX6_cross RX6 cX6_cross 7 (some .boolean) 2 := ⟨by decide +kernel, wd_550, wd_611, wd_612, wd_458⟩
def f_X6_freeFrom (h : zq_H) (t : Nat) (x1 : Int32) : Option (Int32 × zq_H) := (zq_ck h t 6 fun _ => (Option.bind (f_X6_goFrom h t x1 0) fun v_1 => (Option.bind (zq_gr v_1 t 6 18) fun v_4 => (Option.bind (zq_gr v_1 t 6 0) fun v_6 => (Option.bind (zq_ai v_1 v_6 2) fun v_8 => (zq_ck v_1 t 6 fun _ => (Option.bind (f_X6_indexOf v_1 t v_8) fun v_10 => (Option.bind (zq_ai v_1 v_4 v_10) fun v_13 => some ((v_13, v_1))))))))))
abbrev rm_X6_freeFrom : Room := { frames := 2, cells := 0, slots := 0, locals := 54 }
theorem dX6_freeFrom_0 : decode cX6_freeFrom 0 = .ok (.aload_n 0, 1) := by decide +kernel
theorem dX6_freeFrom_1 : decode cX6_freeFrom 1 = .ok (.iload_n 1, 1) := by decide +kernel
theorem dX6_freeFrom_2 : decode cX6_freeFrom 2 = .ok (.iconst 0, 1) := by decide +kernel
theorem dX6_freeFrom_3 : decode cX6_freeFrom 3 = .ok (.invokevirtual 128, 3) := by decide +kernel
theorem dX6_freeFrom_6 : decode cX6_freeFrom 6 = .ok (.aload_n 0, 1) := by decide +kernel
theorem dX6_freeFrom_7 : decode cX6_freeFrom 7 = .ok (.getfield 40, 3) := by decide +kernel
theorem dX6_freeFrom_10 : decode cX6_freeFrom 10 = .ok (.aload_n 0, 1) := by decide +kernel
theorem dX6_freeFrom_11 : decode cX6_freeFrom 11 = .ok (.aload_n 0, 1) := by decide +kernel
theorem dX6_freeFrom_12 : decode cX6_freeFrom 12 = .ok (.getfield 7, 3) := by decide +kernel
theorem dX6_freeFrom_15 : decode cX6_freeFrom 15 = .ok (.iconst 2, 1) := by decide +kernel
theorem dX6_freeFrom_16 : decode cX6_freeFrom 16 = .ok (.iaload, 1) := by decide +kernel
theorem dX6_freeFrom_17 : decode cX6_freeFrom 17 = .ok (.invokevirtual 98, 3) := by decide +kernel
theorem dX6_freeFrom_20 : decode cX6_freeFrom 20 = .ok (.iaload, 1) := by decide +kernel
theorem dX6_freeFrom_21 : decode cX6_freeFrom 21 = .ok (.ireturn, 1) := by decide +kernel
set_option maxRecDepth 100000 in
set_option maxHeartbeats 4000000 in
theorem v_X6_freeFrom {X : zq_X} (C : zq_C X RX6 cX6_freeFrom 2 zq_all rm_X6_freeFrom) {h : zq_H} {t : Nat} {x1 : Int32} (T : zq_T X none) (hn : X.2.2.2.2.2.2.2.2.1.name = yX6_freeFrom.name) {out : (Int32 × zq_H)} (hF : f_X6_freeFrom h t x1 = some out) (hE : zq_End X cX6_freeFrom 0 0 (some (.int out.1)) out.2) : zq_W X 0 0 h 0 [(0, .ref t), (1, .int x1)] [] := by
  unfold f_X6_freeFrom at hF
  refine zq_aload_n (pc' := 1) C dX6_freeFrom_0 rfl rfl rfl ?_
  refine zq_iload_n (pc' := 2) C dX6_freeFrom_1 rfl rfl rfl ?_
  refine zq_iconst (pc' := 3) C 0 dX6_freeFrom_2 rfl (by decide) ?_
  replace hF := zq_ck_e hF; obtain ⟨e_3, hF⟩ := hF
  replace hF := zq_bd hF; obtain ⟨v_1, e_2, hF⟩ := hF
  refine zq_cV (pc' := 6) C (c_X6_goFrom e_2) yv_X6_goFrom wd_507 zq_K6 e_3 dX6_freeFrom_3 rfl rfl rfl ⟨Nat.le_of_ble_eq_true rfl, Nat.le_of_ble_eq_true rfl⟩ (Nat.le_of_ble_eq_true rfl) ⟨rfl, rfl⟩ ⟨Nat.le_of_ble_eq_true rfl, Nat.le_of_ble_eq_true rfl⟩ rfl ?_
  refine zq_aload_n (pc' := 7) C dX6_freeFrom_6 rfl rfl rfl ?_
  replace hF := zq_bd hF; obtain ⟨v_4, e_5, hF⟩ := hF
  refine zq_getR (j := 18) (pc' := 10) C zq_K6 zq_in6w (Or.inl wd_503) (by decide) rfl dX6_freeFrom_7 rfl e_5 ?_
  refine zq_aload_n (pc' := 11) C dX6_freeFrom_10 rfl rfl rfl ?_
  refine zq_aload_n (pc' := 12) C dX6_freeFrom_11 rfl rfl rfl ?_
  replace hF := zq_bd hF; obtain ⟨v_6, e_7, hF⟩ := hF
  refine zq_getR (j := 0) (pc' := 15) C zq_K6 zq_in6w (Or.inl wd_448) (by decide) rfl dX6_freeFrom_12 rfl e_7 ?_
  refine zq_iconst (pc' := 16) C 2 dX6_freeFrom_15 rfl (by decide) ?_
  replace hF := zq_bd hF; obtain ⟨v_8, e_9, hF⟩ := hF
  refine zq_iaload (pc' := 17) C dX6_freeFrom_16 rfl e_9 ?_
  replace hF := zq_ck_e hF; obtain ⟨e_12, hF⟩ := hF
  replace hF := zq_bd hF; obtain ⟨v_10, e_11, hF⟩ := hF
  refine zq_cV (pc' := 20) C (c_X6_indexOf e_11) yv_X6_indexOf wd_489 zq_K6 e_12 dX6_freeFrom_17 rfl rfl rfl ⟨Nat.le_of_ble_eq_true rfl, Nat.le_of_ble_eq_true rfl⟩ (Nat.le_of_ble_eq_true rfl) ⟨rfl, rfl⟩ ⟨Nat.le_of_ble_eq_true rfl, Nat.le_of_ble_eq_true rfl⟩ rfl ?_
  replace hF := zq_bd hF; obtain ⟨v_13, e_14, hF⟩ := hF
  refine zq_iaload (pc' := 21) C dX6_freeFrom_20 rfl e_14 ?_
  have hF := Option.some.inj hF
  subst hF
  exact hE _ _ _ _ (Nat.le_of_ble_eq_true rfl) (Nat.le_of_ble_eq_true rfl) dX6_freeFrom_21
theorem c_X6_freeFrom {h : zq_H} {t : Nat} {x1 : Int32} {out : (Int32 × zq_H)} (hF : f_X6_freeFrom h t x1 = some out) : zq_M none yX6_freeFrom (Cond.code yX6_freeFrom cX6_freeFrom 2 (some .int) :: zq_all) rm_X6_freeFrom [.ref t, .int x1] h (some (.int out.1)) out.2 := zq_met2 (own := RX6) (by decide +kernel) rfl (Nat.le_of_ble_eq_true rfl) rfl ⟨.int, rfl, rfl⟩ (fun X C T hn hE => v_X6_freeFrom C T hn hF hE)
theorem yv_X6_freeFrom : zq_calV yX6_freeFrom RX6 cX6_freeFrom 2 (some .int) 1 := ⟨by decide +kernel, wd_551, wd_655, wd_656, wd_458⟩
def f_X6_lockedFrom (h : zq_H) (t : Nat) (x1 : Int32) : Option (Int32 × zq_H) := (Option.bind (zq_gr h t 6 0) fun v_1 => (Option.bind (zq_ai h v_1 3) fun v_3 => (zq_ck h t 6 fun _ => (Option.bind (f_X6_goFrom h t x1 v_3) fun v_5 => (Option.bind (zq_gr v_5 t 6 18) fun v_8 => (Option.bind (zq_gr v_5 t 6 0) fun v_10 => (Option.bind (zq_ai v_5 v_10 2) fun v_12 => (zq_ck v_5 t 6 fun _ => (Option.bind (f_X6_indexOf v_5 t v_12) fun v_14 => (Option.bind (zq_ai v_5 v_8 v_14) fun v_17 => some ((v_17, v_5))))))))))))
abbrev rm_X6_lockedFrom : Room := { frames := 2, cells := 0, slots := 0, locals := 54 }
theorem dX6_lockedFrom_0 : decode cX6_lockedFrom 0 = .ok (.aload_n 0, 1) := by decide +kernel
theorem dX6_lockedFrom_1 : decode cX6_lockedFrom 1 = .ok (.iload_n 1, 1) := by decide +kernel
theorem dX6_lockedFrom_2 : decode cX6_lockedFrom 2 = .ok (.aload_n 0, 1) := by decide +kernel
theorem dX6_lockedFrom_3 : decode cX6_lockedFrom 3 = .ok (.getfield 7, 3) := by decide +kernel
theorem dX6_lockedFrom_6 : decode cX6_lockedFrom 6 = .ok (.iconst 3, 1) := by decide +kernel
theorem dX6_lockedFrom_7 : decode cX6_lockedFrom 7 = .ok (.iaload, 1) := by decide +kernel
theorem dX6_lockedFrom_8 : decode cX6_lockedFrom 8 = .ok (.invokevirtual 128, 3) := by decide +kernel
theorem dX6_lockedFrom_11 : decode cX6_lockedFrom 11 = .ok (.aload_n 0, 1) := by decide +kernel
theorem dX6_lockedFrom_12 : decode cX6_lockedFrom 12 = .ok (.getfield 40, 3) := by decide +kernel
theorem dX6_lockedFrom_15 : decode cX6_lockedFrom 15 = .ok (.aload_n 0, 1) := by decide +kernel
theorem dX6_lockedFrom_16 : decode cX6_lockedFrom 16 = .ok (.aload_n 0, 1) := by decide +kernel
theorem dX6_lockedFrom_17 : decode cX6_lockedFrom 17 = .ok (.getfield 7, 3) := by decide +kernel
theorem dX6_lockedFrom_20 : decode cX6_lockedFrom 20 = .ok (.iconst 2, 1) := by decide +kernel
theorem dX6_lockedFrom_21 : decode cX6_lockedFrom 21 = .ok (.iaload, 1) := by decide +kernel
theorem dX6_lockedFrom_22 : decode cX6_lockedFrom 22 = .ok (.invokevirtual 98, 3) := by decide +kernel
theorem dX6_lockedFrom_25 : decode cX6_lockedFrom 25 = .ok (.iaload, 1) := by decide +kernel
theorem dX6_lockedFrom_26 : decode cX6_lockedFrom 26 = .ok (.ireturn, 1) := by decide +kernel
set_option maxRecDepth 100000 in
set_option maxHeartbeats 4000000 in
theorem v_X6_lockedFrom {X : zq_X} (C : zq_C X RX6 cX6_lockedFrom 2 zq_all rm_X6_lockedFrom) {h : zq_H} {t : Nat} {x1 : Int32} (T : zq_T X none) (hn : X.2.2.2.2.2.2.2.2.1.name = yX6_lockedFrom.name) {out : (Int32 × zq_H)} (hF : f_X6_lockedFrom h t x1 = some out) (hE : zq_End X cX6_lockedFrom 0 0 (some (.int out.1)) out.2) : zq_W X 0 0 h 0 [(0, .ref t), (1, .int x1)] [] := by
  unfold f_X6_lockedFrom at hF
  refine zq_aload_n (pc' := 1) C dX6_lockedFrom_0 rfl rfl rfl ?_
  refine zq_iload_n (pc' := 2) C dX6_lockedFrom_1 rfl rfl rfl ?_
  refine zq_aload_n (pc' := 3) C dX6_lockedFrom_2 rfl rfl rfl ?_
  replace hF := zq_bd hF; obtain ⟨v_1, e_2, hF⟩ := hF
  refine zq_getR (j := 0) (pc' := 6) C zq_K6 zq_in6w (Or.inl wd_448) (by decide) rfl dX6_lockedFrom_3 rfl e_2 ?_
  refine zq_iconst (pc' := 7) C 3 dX6_lockedFrom_6 rfl (by decide) ?_
  replace hF := zq_bd hF; obtain ⟨v_3, e_4, hF⟩ := hF
  refine zq_iaload (pc' := 8) C dX6_lockedFrom_7 rfl e_4 ?_
  replace hF := zq_ck_e hF; obtain ⟨e_7, hF⟩ := hF
  replace hF := zq_bd hF; obtain ⟨v_5, e_6, hF⟩ := hF
  refine zq_cV (pc' := 11) C (c_X6_goFrom e_6) yv_X6_goFrom wd_507 zq_K6 e_7 dX6_lockedFrom_8 rfl rfl rfl ⟨Nat.le_of_ble_eq_true rfl, Nat.le_of_ble_eq_true rfl⟩ (Nat.le_of_ble_eq_true rfl) ⟨rfl, rfl⟩ ⟨Nat.le_of_ble_eq_true rfl, Nat.le_of_ble_eq_true rfl⟩ rfl ?_
  refine zq_aload_n (pc' := 12) C dX6_lockedFrom_11 rfl rfl rfl ?_
  replace hF := zq_bd hF; obtain ⟨v_8, e_9, hF⟩ := hF
  refine zq_getR (j := 18) (pc' := 15) C zq_K6 zq_in6w (Or.inl wd_503) (by decide) rfl dX6_lockedFrom_12 rfl e_9 ?_
  refine zq_aload_n (pc' := 16) C dX6_lockedFrom_15 rfl rfl rfl ?_
  refine zq_aload_n (pc' := 17) C dX6_lockedFrom_16 rfl rfl rfl ?_
  replace hF := zq_bd hF; obtain ⟨v_10, e_11, hF⟩ := hF
  refine zq_getR (j := 0) (pc' := 20) C zq_K6 zq_in6w (Or.inl wd_448) (by decide) rfl dX6_lockedFrom_17 rfl e_11 ?_
  refine zq_iconst (pc' := 21) C 2 dX6_lockedFrom_20 rfl (by decide) ?_
  replace hF := zq_bd hF; obtain ⟨v_12, e_13, hF⟩ := hF
  refine zq_iaload (pc' := 22) C dX6_lockedFrom_21 rfl e_13 ?_
  replace hF := zq_ck_e hF; obtain ⟨e_16, hF⟩ := hF
  replace hF := zq_bd hF; obtain ⟨v_14, e_15, hF⟩ := hF
  refine zq_cV (pc' := 25) C (c_X6_indexOf e_15) yv_X6_indexOf wd_489 zq_K6 e_16 dX6_lockedFrom_22 rfl rfl rfl ⟨Nat.le_of_ble_eq_true rfl, Nat.le_of_ble_eq_true rfl⟩ (Nat.le_of_ble_eq_true rfl) ⟨rfl, rfl⟩ ⟨Nat.le_of_ble_eq_true rfl, Nat.le_of_ble_eq_true rfl⟩ rfl ?_
  replace hF := zq_bd hF; obtain ⟨v_17, e_18, hF⟩ := hF
  refine zq_iaload (pc' := 26) C dX6_lockedFrom_25 rfl e_18 ?_
  have hF := Option.some.inj hF
  subst hF
  exact hE _ _ _ _ (Nat.le_of_ble_eq_true rfl) (Nat.le_of_ble_eq_true rfl) dX6_lockedFrom_26
theorem c_X6_lockedFrom {h : zq_H} {t : Nat} {x1 : Int32} {out : (Int32 × zq_H)} (hF : f_X6_lockedFrom h t x1 = some out) : zq_M none yX6_lockedFrom (Cond.code yX6_lockedFrom cX6_lockedFrom 2 (some .int) :: zq_all) rm_X6_lockedFrom [.ref t, .int x1] h (some (.int out.1)) out.2 := zq_met2 (own := RX6) (by decide +kernel) rfl (Nat.le_of_ble_eq_true rfl) rfl ⟨.int, rfl, rfl⟩ (fun X C T hn hE => v_X6_lockedFrom C T hn hF hE)
theorem yv_X6_lockedFrom : zq_calV yX6_lockedFrom RX6 cX6_lockedFrom 2 (some .int) 1 := ⟨by decide +kernel, wd_552, wd_555, wd_556, wd_458⟩
def f_X6_leastSoFar (h : zq_H) (t : Nat) (x1 : Int32) : Option (Int32 × zq_H) := (zq_ck h t 6 fun _ => (Option.bind (f_X6_farthestFrom h t x1) fun v_1 => ((zq_lp (σ := Int32) (ρ := Int32) (fun s_4 => (Option.bind (zq_gr v_1.2 t 6 18) fun v_12 => (Option.bind (zq_ai v_1.2 v_12 s_4) fun v_14 => (if v_1.1 ≤ v_14 then some (.inr s_4) else (zq_let (s_4 + 1) fun v_17 => some (.inl v_17)))))) zq_N 0).bind (fun y_7 : Int32 => (Option.bind (zq_gr v_1.2 t 6 14) fun v_19 => (Option.bind (zq_ai v_1.2 v_19 y_7) fun v_21 => some ((v_21, v_1.2))))))))
abbrev rm_X6_leastSoFar : Room := { frames := 3, cells := 0, slots := 0, locals := 77 }
theorem dX6_leastSoFar_0 : decode cX6_leastSoFar 0 = .ok (.aload_n 0, 1) := by decide +kernel
theorem dX6_leastSoFar_1 : decode cX6_leastSoFar 1 = .ok (.iload_n 1, 1) := by decide +kernel
theorem dX6_leastSoFar_2 : decode cX6_leastSoFar 2 = .ok (.invokevirtual 125, 3) := by decide +kernel
theorem dX6_leastSoFar_5 : decode cX6_leastSoFar 5 = .ok (.istore_n 2, 1) := by decide +kernel
theorem dX6_leastSoFar_6 : decode cX6_leastSoFar 6 = .ok (.iconst 0, 1) := by decide +kernel
theorem dX6_leastSoFar_7 : decode cX6_leastSoFar 7 = .ok (.istore_n 3, 1) := by decide +kernel
theorem dX6_leastSoFar_8 : decode cX6_leastSoFar 8 = .ok (.aload_n 0, 1) := by decide +kernel
theorem dX6_leastSoFar_9 : decode cX6_leastSoFar 9 = .ok (.getfield 40, 3) := by decide +kernel
theorem dX6_leastSoFar_12 : decode cX6_leastSoFar 12 = .ok (.iload_n 3, 1) := by decide +kernel
theorem dX6_leastSoFar_13 : decode cX6_leastSoFar 13 = .ok (.iaload, 1) := by decide +kernel
theorem dX6_leastSoFar_14 : decode cX6_leastSoFar 14 = .ok (.iload_n 2, 1) := by decide +kernel
theorem dX6_leastSoFar_15 : decode cX6_leastSoFar 15 = .ok (.if_icmp .ge 9, 3) := by decide +kernel
theorem dX6_leastSoFar_18 : decode cX6_leastSoFar 18 = .ok (.iinc 3 1, 3) := by decide +kernel
theorem dX6_leastSoFar_21 : decode cX6_leastSoFar 21 = .ok (.goto (-13), 3) := by decide +kernel
theorem dX6_leastSoFar_24 : decode cX6_leastSoFar 24 = .ok (.aload_n 0, 1) := by decide +kernel
theorem dX6_leastSoFar_25 : decode cX6_leastSoFar 25 = .ok (.getfield 34, 3) := by decide +kernel
theorem dX6_leastSoFar_28 : decode cX6_leastSoFar 28 = .ok (.iload_n 3, 1) := by decide +kernel
theorem dX6_leastSoFar_29 : decode cX6_leastSoFar 29 = .ok (.iaload, 1) := by decide +kernel
theorem dX6_leastSoFar_30 : decode cX6_leastSoFar 30 = .ok (.ireturn, 1) := by decide +kernel
set_option maxRecDepth 100000 in
set_option maxHeartbeats 4000000 in
theorem v_X6_leastSoFar {X : zq_X} (C : zq_C X RX6 cX6_leastSoFar 4 zq_all rm_X6_leastSoFar) {h : zq_H} {t : Nat} {x1 : Int32} (T : zq_T X none) (hn : X.2.2.2.2.2.2.2.2.1.name = yX6_leastSoFar.name) {out : (Int32 × zq_H)} (hF : f_X6_leastSoFar h t x1 = some out) (hE : zq_End X cX6_leastSoFar 0 0 (some (.int out.1)) out.2) : zq_W X 0 0 h 0 [(0, .ref t), (1, .int x1)] [] := by
  unfold f_X6_leastSoFar at hF
  refine zq_aload_n (pc' := 1) C dX6_leastSoFar_0 rfl rfl rfl ?_
  refine zq_iload_n (pc' := 2) C dX6_leastSoFar_1 rfl rfl rfl ?_
  replace hF := zq_ck_e hF; obtain ⟨e_3, hF⟩ := hF
  replace hF := zq_bd hF; obtain ⟨v_1, e_2, hF⟩ := hF
  refine zq_cV (pc' := 5) C (c_X6_farthestFrom e_2) yv_X6_farthestFrom wd_528 zq_K6 e_3 dX6_leastSoFar_2 rfl rfl rfl ⟨Nat.le_of_ble_eq_true rfl, Nat.le_of_ble_eq_true rfl⟩ (Nat.le_of_ble_eq_true rfl) ⟨rfl, rfl⟩ ⟨Nat.le_of_ble_eq_true rfl, Nat.le_of_ble_eq_true rfl⟩ rfl ?_
  refine zq_istore_n (lv' := [(2, .int v_1.1), (0, .ref t), (1, .int x1)]) (pc' := 6) C dX6_leastSoFar_5 rfl rfl (by decide) rfl rfl ?_
  refine zq_iconst (pc' := 7) C 0 dX6_leastSoFar_6 rfl (by decide) ?_
  refine zq_istore_n (lv' := [(3, .int 0), (2, .int v_1.1), (0, .ref t), (1, .int x1)]) (pc' := 8) C dX6_leastSoFar_7 rfl rfl (by decide) rfl rfl ?_
  refine zq_sub [2, 1, 0] rfl ?_
  replace hF := zq_bd hF; obtain ⟨r_5, e_6, hF⟩ := hF
  refine zq_lpW (fun s_4 => zq_W X 0 0 v_1.2 8 [(0, .ref t), (2, .int v_1.1), (3, .int s_4)] []) (fun y_7 => zq_W X 0 0 v_1.2 24 [(0, .ref t), (3, .int y_7)] []) e_6 (fun s_4 q_11 hF hrec_9 hex_10 => ?_) ?_
  · skip
    refine zq_aload_n (pc' := 9) C dX6_leastSoFar_8 rfl rfl rfl ?_
    replace hF := zq_bd hF; obtain ⟨v_12, e_13, hF⟩ := hF
    refine zq_getR (j := 18) (pc' := 12) C zq_K6 zq_in6w (Or.inl wd_503) (by decide) rfl dX6_leastSoFar_9 rfl e_13 ?_
    refine zq_iload_n (pc' := 13) C dX6_leastSoFar_12 rfl rfl rfl ?_
    replace hF := zq_bd hF; obtain ⟨v_14, e_15, hF⟩ := hF
    refine zq_iaload (pc' := 14) C dX6_leastSoFar_13 rfl e_15 ?_
    refine zq_iload_n (pc' := 15) C dX6_leastSoFar_14 rfl rfl rfl ?_
    refine zq_icmp_ge (pc' := 18) C 24 dX6_leastSoFar_15 (by decide) rfl (fun c_16 => ?_) (fun c_16 => ?_)
    · have hF := (zq_ifp hF c_16)
      skip
      cases hF
      exact zq_sub [0, 2] rfl (hex_10 _ rfl)
    · have hF := (zq_ifn hF c_16)
      replace hF := zq_let_e hF; obtain ⟨v_17, e_18, hF⟩ := hF
      refine zq_iinc (lv' := [(3, .int v_17), (0, .ref t), (2, .int v_1.1)]) (pc' := 21) C dX6_leastSoFar_18 rfl (by decide) 2 rfl e_18 rfl ?_
      refine zq_goto C 8 dX6_leastSoFar_21 (by decide) ?_
      cases hF
      exact zq_sub [1, 2, 0] rfl (hrec_9 _ rfl)
  · skip
    obtain ⟨y_7, rfl⟩ : ∃ z9, z9 = r_5 := ⟨_, rfl⟩
    show zq_W X 0 0 v_1.2 24 [(0, .ref t), (3, .int y_7)] []
    refine zq_aload_n (pc' := 25) C dX6_leastSoFar_24 rfl rfl rfl ?_
    replace hF := zq_bd hF; obtain ⟨v_19, e_20, hF⟩ := hF
    refine zq_getR (j := 14) (pc' := 28) C zq_K6 zq_in6w (Or.inl wd_475) (by decide) rfl dX6_leastSoFar_25 rfl e_20 ?_
    refine zq_iload_n (pc' := 29) C dX6_leastSoFar_28 rfl rfl rfl ?_
    replace hF := zq_bd hF; obtain ⟨v_21, e_22, hF⟩ := hF
    refine zq_iaload (pc' := 30) C dX6_leastSoFar_29 rfl e_22 ?_
    have hF := Option.some.inj hF
    subst hF
    exact hE _ _ _ _ (Nat.le_of_ble_eq_true rfl) (Nat.le_of_ble_eq_true rfl) dX6_leastSoFar_30
theorem c_X6_leastSoFar {h : zq_H} {t : Nat} {x1 : Int32} {out : (Int32 × zq_H)} (hF : f_X6_leastSoFar h t x1 = some out) : zq_M none yX6_leastSoFar (Cond.code yX6_leastSoFar cX6_leastSoFar 4 (some .int) :: zq_all) rm_X6_leastSoFar [.ref t, .int x1] h (some (.int out.1)) out.2 := zq_met2 (own := RX6) (by decide +kernel) rfl (Nat.le_of_ble_eq_true rfl) rfl ⟨.int, rfl, rfl⟩ (fun X C T hn hE => v_X6_leastSoFar C T hn hF hE)
theorem yv_X6_leastSoFar : zq_calV yX6_leastSoFar RX6 cX6_leastSoFar 4 (some .int) 1 := ⟨by decide +kernel, wd_553, wd_636, wd_637, wd_458⟩
def f_X6_nextFlip (h : zq_H) (t : Nat) : Option (Int32 × zq_H) := (Option.bind (zq_gr h t 6 0) fun v_1 => (Option.bind (zq_ai h v_1 1) fun v_3 => (zq_ck h t 6 fun _ => (Option.bind (f_X6_lockedFrom h t v_3) fun v_5 => ((zq_lp (σ := Int32 × zq_H) (ρ := (zq_H) ⊕ (Int32 × zq_H)) (fun s_8 => (Option.bind (zq_gi s_8.2 t 6 9) fun v_16 => (if v_16 ≤ s_8.1 then some (.inr (.inl s_8.2)) else (if v_5.1 ≤ 0 then some (.inr (.inl s_8.2)) else (Option.bind (zq_gr s_8.2 t 6 0) fun v_20 => (Option.bind (zq_ai s_8.2 v_20 1) fun v_22 => (Option.bind (f_X6_has s_8.2 v_22 s_8.1) fun v_24 => (if v_24 = false then (zq_let (s_8.1 + 1) fun v_27 => some (.inl (v_27, s_8.2))) else (Option.bind (zq_gr s_8.2 t 6 0) fun v_29 => (Option.bind (zq_ai s_8.2 v_29 3) fun v_31 => (Option.bind (f_X6_has s_8.2 v_31 s_8.1) fun v_33 => (if v_33 = false then (Option.bind (zq_gr s_8.2 t 6 0) fun v_38 => (Option.bind (zq_ai s_8.2 v_38 1) fun v_40 => (zq_ck s_8.2 t 6 fun _ => (Option.bind (f_X6_behindFlip s_8.2 t v_40 s_8.1) fun v_42 => (zq_ck s_8.2 t 6 fun _ => (Option.bind (f_X6_lockedFrom s_8.2 t v_42) fun v_45 => (if v_45.1 = (v_5.1 - 1) then some (.inr (.inr ((s_8.1, v_45.2)))) else (zq_let (s_8.1 + 1) fun v_49 => some (.inl (v_49, v_45.2)))))))))) else (zq_let (s_8.1 + 1) fun v_36 => some (.inl (v_36, s_8.2))))))))))))))) zq_N (0, v_5.2)).bind (Sum.elim (fun y_11 : zq_H => some (((-1), y_11))) (fun z_12 => some z_12)))))))
abbrev rm_X6_nextFlip : Room := { frames := 5, cells := 0, slots := 0, locals := 116 }
theorem dX6_nextFlip_0 : decode cX6_nextFlip 0 = .ok (.aload_n 0, 1) := by decide +kernel
theorem dX6_nextFlip_1 : decode cX6_nextFlip 1 = .ok (.aload_n 0, 1) := by decide +kernel
theorem dX6_nextFlip_2 : decode cX6_nextFlip 2 = .ok (.getfield 7, 3) := by decide +kernel
theorem dX6_nextFlip_5 : decode cX6_nextFlip 5 = .ok (.iconst 1, 1) := by decide +kernel
theorem dX6_nextFlip_6 : decode cX6_nextFlip 6 = .ok (.iaload, 1) := by decide +kernel
theorem dX6_nextFlip_7 : decode cX6_nextFlip 7 = .ok (.invokevirtual 132, 3) := by decide +kernel
theorem dX6_nextFlip_10 : decode cX6_nextFlip 10 = .ok (.istore_n 1, 1) := by decide +kernel
theorem dX6_nextFlip_11 : decode cX6_nextFlip 11 = .ok (.iconst 0, 1) := by decide +kernel
theorem dX6_nextFlip_12 : decode cX6_nextFlip 12 = .ok (.istore_n 2, 1) := by decide +kernel
theorem dX6_nextFlip_13 : decode cX6_nextFlip 13 = .ok (.iload_n 2, 1) := by decide +kernel
theorem dX6_nextFlip_14 : decode cX6_nextFlip 14 = .ok (.aload_n 0, 1) := by decide +kernel
theorem dX6_nextFlip_15 : decode cX6_nextFlip 15 = .ok (.getfield 63, 3) := by decide +kernel
theorem dX6_nextFlip_18 : decode cX6_nextFlip 18 = .ok (.if_icmp .ge 62, 3) := by decide +kernel
theorem dX6_nextFlip_21 : decode cX6_nextFlip 21 = .ok (.iload_n 1, 1) := by decide +kernel
theorem dX6_nextFlip_22 : decode cX6_nextFlip 22 = .ok (.ifCond .le 58, 3) := by decide +kernel
theorem dX6_nextFlip_25 : decode cX6_nextFlip 25 = .ok (.aload_n 0, 1) := by decide +kernel
theorem dX6_nextFlip_26 : decode cX6_nextFlip 26 = .ok (.getfield 7, 3) := by decide +kernel
theorem dX6_nextFlip_29 : decode cX6_nextFlip 29 = .ok (.iconst 1, 1) := by decide +kernel
theorem dX6_nextFlip_30 : decode cX6_nextFlip 30 = .ok (.iaload, 1) := by decide +kernel
theorem dX6_nextFlip_31 : decode cX6_nextFlip 31 = .ok (.iload_n 2, 1) := by decide +kernel
theorem dX6_nextFlip_32 : decode cX6_nextFlip 32 = .ok (.invokestatic 74, 3) := by decide +kernel
theorem dX6_nextFlip_35 : decode cX6_nextFlip 35 = .ok (.ifCond .eq 39, 3) := by decide +kernel
theorem dX6_nextFlip_38 : decode cX6_nextFlip 38 = .ok (.aload_n 0, 1) := by decide +kernel
theorem dX6_nextFlip_39 : decode cX6_nextFlip 39 = .ok (.getfield 7, 3) := by decide +kernel
theorem dX6_nextFlip_42 : decode cX6_nextFlip 42 = .ok (.iconst 3, 1) := by decide +kernel
theorem dX6_nextFlip_43 : decode cX6_nextFlip 43 = .ok (.iaload, 1) := by decide +kernel
theorem dX6_nextFlip_44 : decode cX6_nextFlip 44 = .ok (.iload_n 2, 1) := by decide +kernel
theorem dX6_nextFlip_45 : decode cX6_nextFlip 45 = .ok (.invokestatic 74, 3) := by decide +kernel
theorem dX6_nextFlip_48 : decode cX6_nextFlip 48 = .ok (.ifCond .ne 26, 3) := by decide +kernel
theorem dX6_nextFlip_51 : decode cX6_nextFlip 51 = .ok (.aload_n 0, 1) := by decide +kernel
theorem dX6_nextFlip_52 : decode cX6_nextFlip 52 = .ok (.aload_n 0, 1) := by decide +kernel
theorem dX6_nextFlip_53 : decode cX6_nextFlip 53 = .ok (.aload_n 0, 1) := by decide +kernel
theorem dX6_nextFlip_54 : decode cX6_nextFlip 54 = .ok (.getfield 7, 3) := by decide +kernel
theorem dX6_nextFlip_57 : decode cX6_nextFlip 57 = .ok (.iconst 1, 1) := by decide +kernel
theorem dX6_nextFlip_58 : decode cX6_nextFlip 58 = .ok (.iaload, 1) := by decide +kernel
theorem dX6_nextFlip_59 : decode cX6_nextFlip 59 = .ok (.iload_n 2, 1) := by decide +kernel
theorem dX6_nextFlip_60 : decode cX6_nextFlip 60 = .ok (.invokevirtual 91, 3) := by decide +kernel
theorem dX6_nextFlip_63 : decode cX6_nextFlip 63 = .ok (.invokevirtual 132, 3) := by decide +kernel
theorem dX6_nextFlip_66 : decode cX6_nextFlip 66 = .ok (.iload_n 1, 1) := by decide +kernel
theorem dX6_nextFlip_67 : decode cX6_nextFlip 67 = .ok (.iconst 1, 1) := by decide +kernel
theorem dX6_nextFlip_68 : decode cX6_nextFlip 68 = .ok (.isub, 1) := by decide +kernel
theorem dX6_nextFlip_69 : decode cX6_nextFlip 69 = .ok (.if_icmp .ne 5, 3) := by decide +kernel
theorem dX6_nextFlip_72 : decode cX6_nextFlip 72 = .ok (.iload_n 2, 1) := by decide +kernel
theorem dX6_nextFlip_73 : decode cX6_nextFlip 73 = .ok (.ireturn, 1) := by decide +kernel
theorem dX6_nextFlip_74 : decode cX6_nextFlip 74 = .ok (.iinc 2 1, 3) := by decide +kernel
theorem dX6_nextFlip_77 : decode cX6_nextFlip 77 = .ok (.goto (-64), 3) := by decide +kernel
theorem dX6_nextFlip_80 : decode cX6_nextFlip 80 = .ok (.iconst (-1), 1) := by decide +kernel
theorem dX6_nextFlip_81 : decode cX6_nextFlip 81 = .ok (.ireturn, 1) := by decide +kernel
set_option maxRecDepth 100000 in
set_option maxHeartbeats 4000000 in
theorem v_X6_nextFlip {X : zq_X} (C : zq_C X RX6 cX6_nextFlip 3 zq_all rm_X6_nextFlip) {h : zq_H} {t : Nat} (T : zq_T X none) (hn : X.2.2.2.2.2.2.2.2.1.name = yX6_nextFlip.name) {out : (Int32 × zq_H)} (hF : f_X6_nextFlip h t = some out) (hE : zq_End X cX6_nextFlip 0 0 (some (.int out.1)) out.2) : zq_W X 0 0 h 0 [(0, .ref t)] [] := by
  unfold f_X6_nextFlip at hF
  refine zq_aload_n (pc' := 1) C dX6_nextFlip_0 rfl rfl rfl ?_
  refine zq_aload_n (pc' := 2) C dX6_nextFlip_1 rfl rfl rfl ?_
  replace hF := zq_bd hF; obtain ⟨v_1, e_2, hF⟩ := hF
  refine zq_getR (j := 0) (pc' := 5) C zq_K6 zq_in6w (Or.inl wd_448) (by decide) rfl dX6_nextFlip_2 rfl e_2 ?_
  refine zq_iconst (pc' := 6) C 1 dX6_nextFlip_5 rfl (by decide) ?_
  replace hF := zq_bd hF; obtain ⟨v_3, e_4, hF⟩ := hF
  refine zq_iaload (pc' := 7) C dX6_nextFlip_6 rfl e_4 ?_
  replace hF := zq_ck_e hF; obtain ⟨e_7, hF⟩ := hF
  replace hF := zq_bd hF; obtain ⟨v_5, e_6, hF⟩ := hF
  refine zq_cV (pc' := 10) C (c_X6_lockedFrom e_6) yv_X6_lockedFrom wd_554 zq_K6 e_7 dX6_nextFlip_7 rfl rfl rfl ⟨Nat.le_of_ble_eq_true rfl, Nat.le_of_ble_eq_true rfl⟩ (Nat.le_of_ble_eq_true rfl) ⟨rfl, rfl⟩ ⟨Nat.le_of_ble_eq_true rfl, Nat.le_of_ble_eq_true rfl⟩ rfl ?_
  refine zq_istore_n (lv' := [(1, .int v_5.1), (0, .ref t)]) (pc' := 11) C dX6_nextFlip_10 rfl rfl (by decide) rfl rfl ?_
  refine zq_iconst (pc' := 12) C 0 dX6_nextFlip_11 rfl (by decide) ?_
  refine zq_istore_n (lv' := [(2, .int 0), (1, .int v_5.1), (0, .ref t)]) (pc' := 13) C dX6_nextFlip_12 rfl rfl (by decide) rfl rfl ?_
  refine zq_sub [2, 1, 0] rfl ?_
  replace hF := zq_bd hF; obtain ⟨r_9, e_10, hF⟩ := hF
  refine zq_lpW (fun s_8 => zq_W X 0 0 s_8.2 13 [(0, .ref t), (1, .int v_5.1), (2, .int s_8.1)] []) (Sum.elim (fun y_11 => zq_W X 0 0 y_11 80 [] []) (fun z_12 => out = z_12)) e_10 (fun s_8 q_15 hF hrec_13 hex_14 => ?_) ?_
  · skip
    refine zq_iload_n (pc' := 14) C dX6_nextFlip_13 rfl rfl rfl ?_
    refine zq_aload_n (pc' := 15) C dX6_nextFlip_14 rfl rfl rfl ?_
    replace hF := zq_bd hF; obtain ⟨v_16, e_17, hF⟩ := hF
    refine zq_getI (j := 9) (pc' := 18) C zq_K6 zq_in6w (Or.inl wd_446) (by decide) rfl dX6_nextFlip_15 rfl e_17 ?_
    refine zq_icmp_ge (pc' := 21) C 80 dX6_nextFlip_18 (by decide) rfl (fun c_18 => ?_) (fun c_18 => ?_)
    · have hF := (zq_ifp hF c_18)
      skip
      cases hF
      exact zq_sub [] rfl (hex_14 _ rfl)
    · have hF := (zq_ifn hF c_18)
      refine zq_iload_n (pc' := 22) C dX6_nextFlip_21 rfl rfl rfl ?_
      refine zq_if_le (pc' := 25) C 80 dX6_nextFlip_22 (by decide) rfl (fun c_19 => ?_) (fun c_19 => ?_)
      · have hF := (zq_ifp hF c_19)
        skip
        cases hF
        exact zq_sub [] rfl (hex_14 _ rfl)
      · have hF := (zq_ifn hF c_19)
        refine zq_aload_n (pc' := 26) C dX6_nextFlip_25 rfl rfl rfl ?_
        replace hF := zq_bd hF; obtain ⟨v_20, e_21, hF⟩ := hF
        refine zq_getR (j := 0) (pc' := 29) C zq_K6 zq_in6w (Or.inl wd_448) (by decide) rfl dX6_nextFlip_26 rfl e_21 ?_
        refine zq_iconst (pc' := 30) C 1 dX6_nextFlip_29 rfl (by decide) ?_
        replace hF := zq_bd hF; obtain ⟨v_22, e_23, hF⟩ := hF
        refine zq_iaload (pc' := 31) C dX6_nextFlip_30 rfl e_23 ?_
        refine zq_iload_n (pc' := 32) C dX6_nextFlip_31 rfl rfl rfl ?_
        replace hF := zq_bd hF; obtain ⟨v_24, e_25, hF⟩ := hF
        refine zq_cS (pc' := 35) C (c_X6_has e_25) ys_X6_has wd_459 dX6_nextFlip_32 rfl rfl rfl ⟨Nat.le_of_ble_eq_true rfl, Nat.le_of_ble_eq_true rfl⟩ (Nat.le_of_ble_eq_true rfl) ⟨rfl, rfl⟩ ⟨Nat.le_of_ble_eq_true rfl, Nat.le_of_ble_eq_true rfl⟩ rfl ?_
        refine zq_if_eq (pc' := 38) C 74 dX6_nextFlip_35 (by decide) rfl (fun c_26 => ?_) (fun c_26 => ?_)
        · have hF := (zq_ifp hF (zq_b0.mp c_26))
          skip
          replace hF := zq_let_e hF; obtain ⟨v_27, e_28, hF⟩ := hF
          refine zq_iinc (lv' := [(2, .int v_27), (0, .ref t), (1, .int v_5.1)]) (pc' := 77) C dX6_nextFlip_74 rfl (by decide) 2 rfl e_28 rfl ?_
          refine zq_goto C 13 dX6_nextFlip_77 (by decide) ?_
          cases hF
          exact zq_sub [1, 2, 0] rfl (hrec_13 _ rfl)
        · have hF := (zq_ifn hF (fun q => c_26 (zq_b0.mpr q)))
          refine zq_aload_n (pc' := 39) C dX6_nextFlip_38 rfl rfl rfl ?_
          replace hF := zq_bd hF; obtain ⟨v_29, e_30, hF⟩ := hF
          refine zq_getR (j := 0) (pc' := 42) C zq_K6 zq_in6w (Or.inl wd_448) (by decide) rfl dX6_nextFlip_39 rfl e_30 ?_
          refine zq_iconst (pc' := 43) C 3 dX6_nextFlip_42 rfl (by decide) ?_
          replace hF := zq_bd hF; obtain ⟨v_31, e_32, hF⟩ := hF
          refine zq_iaload (pc' := 44) C dX6_nextFlip_43 rfl e_32 ?_
          refine zq_iload_n (pc' := 45) C dX6_nextFlip_44 rfl rfl rfl ?_
          replace hF := zq_bd hF; obtain ⟨v_33, e_34, hF⟩ := hF
          refine zq_cS (pc' := 48) C (c_X6_has e_34) ys_X6_has wd_459 dX6_nextFlip_45 rfl rfl rfl ⟨Nat.le_of_ble_eq_true rfl, Nat.le_of_ble_eq_true rfl⟩ (Nat.le_of_ble_eq_true rfl) ⟨rfl, rfl⟩ ⟨Nat.le_of_ble_eq_true rfl, Nat.le_of_ble_eq_true rfl⟩ rfl ?_
          refine zq_if_ne (pc' := 51) C 74 dX6_nextFlip_48 (by decide) rfl (fun c_35 => ?_) (fun c_35 => ?_)
          · have hF := (zq_ifn hF (fun q => c_35 (zq_b0.mpr q)))
            skip
            replace hF := zq_let_e hF; obtain ⟨v_36, e_37, hF⟩ := hF
            refine zq_iinc (lv' := [(2, .int v_36), (0, .ref t), (1, .int v_5.1)]) (pc' := 77) C dX6_nextFlip_74 rfl (by decide) 2 rfl e_37 rfl ?_
            refine zq_goto C 13 dX6_nextFlip_77 (by decide) ?_
            cases hF
            exact zq_sub [1, 2, 0] rfl (hrec_13 _ rfl)
          · have hF := (zq_ifp hF (zq_b0.mp c_35))
            refine zq_aload_n (pc' := 52) C dX6_nextFlip_51 rfl rfl rfl ?_
            refine zq_aload_n (pc' := 53) C dX6_nextFlip_52 rfl rfl rfl ?_
            refine zq_aload_n (pc' := 54) C dX6_nextFlip_53 rfl rfl rfl ?_
            replace hF := zq_bd hF; obtain ⟨v_38, e_39, hF⟩ := hF
            refine zq_getR (j := 0) (pc' := 57) C zq_K6 zq_in6w (Or.inl wd_448) (by decide) rfl dX6_nextFlip_54 rfl e_39 ?_
            refine zq_iconst (pc' := 58) C 1 dX6_nextFlip_57 rfl (by decide) ?_
            replace hF := zq_bd hF; obtain ⟨v_40, e_41, hF⟩ := hF
            refine zq_iaload (pc' := 59) C dX6_nextFlip_58 rfl e_41 ?_
            refine zq_iload_n (pc' := 60) C dX6_nextFlip_59 rfl rfl rfl ?_
            replace hF := zq_ck_e hF; obtain ⟨e_44, hF⟩ := hF
            replace hF := zq_bd hF; obtain ⟨v_42, e_43, hF⟩ := hF
            refine zq_cV (pc' := 63) C (c_X6_behindFlip e_43) yv_X6_behindFlip wd_479 zq_K6 e_44 dX6_nextFlip_60 rfl rfl rfl ⟨Nat.le_of_ble_eq_true rfl, Nat.le_of_ble_eq_true rfl⟩ (Nat.le_of_ble_eq_true rfl) ⟨rfl, rfl⟩ ⟨Nat.le_of_ble_eq_true rfl, Nat.le_of_ble_eq_true rfl⟩ rfl ?_
            replace hF := zq_ck_e hF; obtain ⟨e_47, hF⟩ := hF
            replace hF := zq_bd hF; obtain ⟨v_45, e_46, hF⟩ := hF
            refine zq_cV (pc' := 66) C (c_X6_lockedFrom e_46) yv_X6_lockedFrom wd_554 zq_K6 e_47 dX6_nextFlip_63 rfl rfl rfl ⟨Nat.le_of_ble_eq_true rfl, Nat.le_of_ble_eq_true rfl⟩ (Nat.le_of_ble_eq_true rfl) ⟨rfl, rfl⟩ ⟨Nat.le_of_ble_eq_true rfl, Nat.le_of_ble_eq_true rfl⟩ rfl ?_
            refine zq_iload_n (pc' := 67) C dX6_nextFlip_66 rfl rfl rfl ?_
            refine zq_iconst (pc' := 68) C 1 dX6_nextFlip_67 rfl (by decide) ?_
            refine zq_isub (pc' := 69) C dX6_nextFlip_68 rfl ?_
            refine zq_icmp_ne (pc' := 72) C 74 dX6_nextFlip_69 (by decide) rfl (fun c_48 => ?_) (fun c_48 => ?_)
            · have hF := (zq_ifn hF c_48)
              skip
              replace hF := zq_let_e hF; obtain ⟨v_49, e_50, hF⟩ := hF
              refine zq_iinc (lv' := [(2, .int v_49), (0, .ref t), (1, .int v_5.1)]) (pc' := 77) C dX6_nextFlip_74 rfl (by decide) 2 rfl e_50 rfl ?_
              refine zq_goto C 13 dX6_nextFlip_77 (by decide) ?_
              cases hF
              exact zq_sub [1, 2, 0] rfl (hrec_13 _ rfl)
            · have hF := (zq_ifp hF c_48)
              refine zq_iload_n (pc' := 73) C dX6_nextFlip_72 rfl rfl rfl ?_
              cases hF
              have q9 : out = (s_8.1, v_45.2) := hex_14 _ rfl
              subst q9
              exact hE _ _ _ _ (Nat.le_of_ble_eq_true rfl) (Nat.le_of_ble_eq_true rfl) dX6_nextFlip_73
  · rcases r_9 with y_11 | z_12
    · dsimp only [Sum.elim_inl] at hF
      show zq_W X 0 0 y_11 80 [] []
      refine zq_iconst (pc' := 81) C (-1) dX6_nextFlip_80 rfl (by decide) ?_
      have hF := Option.some.inj hF
      subst hF
      exact hE _ _ _ _ (Nat.le_of_ble_eq_true rfl) (Nat.le_of_ble_eq_true rfl) dX6_nextFlip_81
    · cases hF; rfl
theorem c_X6_nextFlip {h : zq_H} {t : Nat} {out : (Int32 × zq_H)} (hF : f_X6_nextFlip h t = some out) : zq_M none yX6_nextFlip (Cond.code yX6_nextFlip cX6_nextFlip 3 (some .int) :: zq_all) rm_X6_nextFlip [.ref t] h (some (.int out.1)) out.2 := zq_met2 (own := RX6) (by decide +kernel) rfl (Nat.le_of_ble_eq_true rfl) rfl ⟨.int, rfl, rfl⟩ (fun X C T hn hE => v_X6_nextFlip C T hn hF hE)
theorem yv_X6_nextFlip : zq_calV yX6_nextFlip RX6 cX6_nextFlip 3 (some .int) 0 := ⟨by decide +kernel, wd_557, wd_590, wd_591, wd_458⟩
def f_X6_likenesses (h : zq_H) (t : Nat) (x1 : Int32) : Option Int32 := ((zq_lp (σ := Int32 × Int32) (ρ := Int32) (fun s_1 => (Option.bind (zq_gr h t 6 0) fun v_9 => (Option.bind (zq_ai h v_9 0) fun v_11 => (if v_11 ≤ s_1.2 then some (.inr s_1.1) else (zq_ck h t 6 fun _ => (Option.bind (f_X6_turned h t x1 s_1.2) fun v_14 => (if v_14 = x1 then (zq_let (s_1.1 + 1) fun v_35 => (zq_ck h t 6 fun _ => (Option.bind (f_X6_mirrored h t x1) fun v_37 => (zq_ck h t 6 fun _ => (Option.bind (f_X6_turned h t v_37 s_1.2) fun v_40 => (if v_40 = x1 then (zq_let (v_35 + 1) fun v_48 => (zq_let (s_1.2 + 1) fun v_50 => some (.inl (v_48, v_50)))) else (zq_let (v_35 + 0) fun v_44 => (zq_let (s_1.2 + 1) fun v_46 => some (.inl (v_44, v_46)))))))))) else (zq_let (s_1.1 + 0) fun v_18 => (zq_ck h t 6 fun _ => (Option.bind (f_X6_mirrored h t x1) fun v_20 => (zq_ck h t 6 fun _ => (Option.bind (f_X6_turned h t v_20 s_1.2) fun v_23 => (if v_23 = x1 then (zq_let (v_18 + 1) fun v_31 => (zq_let (s_1.2 + 1) fun v_33 => some (.inl (v_31, v_33)))) else (zq_let (v_18 + 0) fun v_27 => (zq_let (s_1.2 + 1) fun v_29 => some (.inl (v_27, v_29))))))))))))))))) zq_N (0, 0)).bind (fun y_4 : Int32 => some (y_4)))
abbrev rm_X6_likenesses : Room := { frames := 2, cells := 0, slots := 0, locals := 47 }
theorem dX6_likenesses_0 : decode cX6_likenesses 0 = .ok (.iconst 0, 1) := by decide +kernel
theorem dX6_likenesses_1 : decode cX6_likenesses 1 = .ok (.istore_n 2, 1) := by decide +kernel
theorem dX6_likenesses_2 : decode cX6_likenesses 2 = .ok (.iconst 0, 1) := by decide +kernel
theorem dX6_likenesses_3 : decode cX6_likenesses 3 = .ok (.istore_n 3, 1) := by decide +kernel
theorem dX6_likenesses_4 : decode cX6_likenesses 4 = .ok (.iload_n 3, 1) := by decide +kernel
theorem dX6_likenesses_5 : decode cX6_likenesses 5 = .ok (.aload_n 0, 1) := by decide +kernel
theorem dX6_likenesses_6 : decode cX6_likenesses 6 = .ok (.getfield 7, 3) := by decide +kernel
theorem dX6_likenesses_9 : decode cX6_likenesses 9 = .ok (.iconst 0, 1) := by decide +kernel
theorem dX6_likenesses_10 : decode cX6_likenesses 10 = .ok (.iaload, 1) := by decide +kernel
theorem dX6_likenesses_11 : decode cX6_likenesses 11 = .ok (.if_icmp .ge 49, 3) := by decide +kernel
theorem dX6_likenesses_14 : decode cX6_likenesses 14 = .ok (.iload_n 2, 1) := by decide +kernel
theorem dX6_likenesses_15 : decode cX6_likenesses 15 = .ok (.aload_n 0, 1) := by decide +kernel
theorem dX6_likenesses_16 : decode cX6_likenesses 16 = .ok (.iload_n 1, 1) := by decide +kernel
theorem dX6_likenesses_17 : decode cX6_likenesses 17 = .ok (.iload_n 3, 1) := by decide +kernel
theorem dX6_likenesses_18 : decode cX6_likenesses 18 = .ok (.invokevirtual 135, 3) := by decide +kernel
theorem dX6_likenesses_21 : decode cX6_likenesses 21 = .ok (.iload_n 1, 1) := by decide +kernel
theorem dX6_likenesses_22 : decode cX6_likenesses 22 = .ok (.if_icmp .ne 7, 3) := by decide +kernel
theorem dX6_likenesses_25 : decode cX6_likenesses 25 = .ok (.iconst 1, 1) := by decide +kernel
theorem dX6_likenesses_26 : decode cX6_likenesses 26 = .ok (.goto 4, 3) := by decide +kernel
theorem dX6_likenesses_29 : decode cX6_likenesses 29 = .ok (.iconst 0, 1) := by decide +kernel
theorem dX6_likenesses_30 : decode cX6_likenesses 30 = .ok (.iadd, 1) := by decide +kernel
theorem dX6_likenesses_31 : decode cX6_likenesses 31 = .ok (.istore_n 2, 1) := by decide +kernel
theorem dX6_likenesses_32 : decode cX6_likenesses 32 = .ok (.iload_n 2, 1) := by decide +kernel
theorem dX6_likenesses_33 : decode cX6_likenesses 33 = .ok (.aload_n 0, 1) := by decide +kernel
theorem dX6_likenesses_34 : decode cX6_likenesses 34 = .ok (.aload_n 0, 1) := by decide +kernel
theorem dX6_likenesses_35 : decode cX6_likenesses 35 = .ok (.iload_n 1, 1) := by decide +kernel
theorem dX6_likenesses_36 : decode cX6_likenesses 36 = .ok (.invokevirtual 138, 3) := by decide +kernel
theorem dX6_likenesses_39 : decode cX6_likenesses 39 = .ok (.iload_n 3, 1) := by decide +kernel
theorem dX6_likenesses_40 : decode cX6_likenesses 40 = .ok (.invokevirtual 135, 3) := by decide +kernel
theorem dX6_likenesses_43 : decode cX6_likenesses 43 = .ok (.iload_n 1, 1) := by decide +kernel
theorem dX6_likenesses_44 : decode cX6_likenesses 44 = .ok (.if_icmp .ne 7, 3) := by decide +kernel
theorem dX6_likenesses_47 : decode cX6_likenesses 47 = .ok (.iconst 1, 1) := by decide +kernel
theorem dX6_likenesses_48 : decode cX6_likenesses 48 = .ok (.goto 4, 3) := by decide +kernel
theorem dX6_likenesses_51 : decode cX6_likenesses 51 = .ok (.iconst 0, 1) := by decide +kernel
theorem dX6_likenesses_52 : decode cX6_likenesses 52 = .ok (.iadd, 1) := by decide +kernel
theorem dX6_likenesses_53 : decode cX6_likenesses 53 = .ok (.istore_n 2, 1) := by decide +kernel
theorem dX6_likenesses_54 : decode cX6_likenesses 54 = .ok (.iinc 3 1, 3) := by decide +kernel
theorem dX6_likenesses_57 : decode cX6_likenesses 57 = .ok (.goto (-53), 3) := by decide +kernel
theorem dX6_likenesses_60 : decode cX6_likenesses 60 = .ok (.iload_n 2, 1) := by decide +kernel
theorem dX6_likenesses_61 : decode cX6_likenesses 61 = .ok (.ireturn, 1) := by decide +kernel
set_option maxRecDepth 100000 in
set_option maxHeartbeats 4000000 in
theorem v_X6_likenesses {X : zq_X} (C : zq_C X RX6 cX6_likenesses 4 zq_all rm_X6_likenesses) {h : zq_H} {t : Nat} {x1 : Int32} (T : zq_T X none) (hn : X.2.2.2.2.2.2.2.2.1.name = yX6_likenesses.name) {out : Int32} (hF : f_X6_likenesses h t x1 = some out) (hE : zq_End X cX6_likenesses 0 0 (some (.int out)) h) : zq_W X 0 0 h 0 [(0, .ref t), (1, .int x1)] [] := by
  unfold f_X6_likenesses at hF
  refine zq_iconst (pc' := 1) C 0 dX6_likenesses_0 rfl (by decide) ?_
  refine zq_istore_n (lv' := [(2, .int 0), (0, .ref t), (1, .int x1)]) (pc' := 2) C dX6_likenesses_1 rfl rfl (by decide) rfl rfl ?_
  refine zq_iconst (pc' := 3) C 0 dX6_likenesses_2 rfl (by decide) ?_
  refine zq_istore_n (lv' := [(3, .int 0), (2, .int 0), (0, .ref t), (1, .int x1)]) (pc' := 4) C dX6_likenesses_3 rfl rfl (by decide) rfl rfl ?_
  refine zq_sub [2, 3, 1, 0] rfl ?_
  replace hF := zq_bd hF; obtain ⟨r_2, e_3, hF⟩ := hF
  refine zq_lpW (fun s_1 => zq_W X 0 0 h 4 [(0, .ref t), (1, .int x1), (2, .int s_1.1), (3, .int s_1.2)] []) (fun y_4 => zq_W X 0 0 h 60 [(2, .int y_4)] []) e_3 (fun s_1 q_8 hF hrec_6 hex_7 => ?_) ?_
  · skip
    refine zq_iload_n (pc' := 5) C dX6_likenesses_4 rfl rfl rfl ?_
    refine zq_aload_n (pc' := 6) C dX6_likenesses_5 rfl rfl rfl ?_
    replace hF := zq_bd hF; obtain ⟨v_9, e_10, hF⟩ := hF
    refine zq_getR (j := 0) (pc' := 9) C zq_K6 zq_in6w (Or.inl wd_448) (by decide) rfl dX6_likenesses_6 rfl e_10 ?_
    refine zq_iconst (pc' := 10) C 0 dX6_likenesses_9 rfl (by decide) ?_
    replace hF := zq_bd hF; obtain ⟨v_11, e_12, hF⟩ := hF
    refine zq_iaload (pc' := 11) C dX6_likenesses_10 rfl e_12 ?_
    refine zq_icmp_ge (pc' := 14) C 60 dX6_likenesses_11 (by decide) rfl (fun c_13 => ?_) (fun c_13 => ?_)
    · have hF := (zq_ifp hF c_13)
      skip
      cases hF
      exact zq_sub [2] rfl (hex_7 _ rfl)
    · have hF := (zq_ifn hF c_13)
      refine zq_iload_n (pc' := 15) C dX6_likenesses_14 rfl rfl rfl ?_
      refine zq_aload_n (pc' := 16) C dX6_likenesses_15 rfl rfl rfl ?_
      refine zq_iload_n (pc' := 17) C dX6_likenesses_16 rfl rfl rfl ?_
      refine zq_iload_n (pc' := 18) C dX6_likenesses_17 rfl rfl rfl ?_
      replace hF := zq_ck_e hF; obtain ⟨e_16, hF⟩ := hF
      replace hF := zq_bd hF; obtain ⟨v_14, e_15, hF⟩ := hF
      refine zq_cV (pc' := 21) C (c_X6_turned e_15) yv_X6_turned wd_496 zq_K6 e_16 dX6_likenesses_18 rfl rfl rfl ⟨Nat.le_of_ble_eq_true rfl, Nat.le_of_ble_eq_true rfl⟩ (Nat.le_of_ble_eq_true rfl) ⟨rfl, rfl⟩ ⟨Nat.le_of_ble_eq_true rfl, Nat.le_of_ble_eq_true rfl⟩ rfl ?_
      refine zq_iload_n (pc' := 22) C dX6_likenesses_21 rfl rfl rfl ?_
      refine zq_icmp_ne (pc' := 25) C 29 dX6_likenesses_22 (by decide) rfl (fun c_17 => ?_) (fun c_17 => ?_)
      · have hF := (zq_ifn hF c_17)
        skip
        refine zq_iconst (pc' := 30) C 0 dX6_likenesses_29 rfl (by decide) ?_
        refine zq_iadd (pc' := 31) C dX6_likenesses_30 rfl ?_
        replace hF := zq_let_e hF; obtain ⟨v_18, e_19, hF⟩ := hF
        refine zq_istore_n (lv' := [(2, .int v_18), (0, .ref t), (1, .int x1), (3, .int s_1.2)]) (pc' := 32) C dX6_likenesses_31 rfl rfl (by decide) e_19 rfl ?_
        refine zq_iload_n (pc' := 33) C dX6_likenesses_32 rfl rfl rfl ?_
        refine zq_aload_n (pc' := 34) C dX6_likenesses_33 rfl rfl rfl ?_
        refine zq_aload_n (pc' := 35) C dX6_likenesses_34 rfl rfl rfl ?_
        refine zq_iload_n (pc' := 36) C dX6_likenesses_35 rfl rfl rfl ?_
        replace hF := zq_ck_e hF; obtain ⟨e_22, hF⟩ := hF
        replace hF := zq_bd hF; obtain ⟨v_20, e_21, hF⟩ := hF
        refine zq_cV (pc' := 39) C (c_X6_mirrored e_21) yv_X6_mirrored wd_499 zq_K6 e_22 dX6_likenesses_36 rfl rfl rfl ⟨Nat.le_of_ble_eq_true rfl, Nat.le_of_ble_eq_true rfl⟩ (Nat.le_of_ble_eq_true rfl) ⟨rfl, rfl⟩ ⟨Nat.le_of_ble_eq_true rfl, Nat.le_of_ble_eq_true rfl⟩ rfl ?_
        refine zq_iload_n (pc' := 40) C dX6_likenesses_39 rfl rfl rfl ?_
        replace hF := zq_ck_e hF; obtain ⟨e_25, hF⟩ := hF
        replace hF := zq_bd hF; obtain ⟨v_23, e_24, hF⟩ := hF
        refine zq_cV (pc' := 43) C (c_X6_turned e_24) yv_X6_turned wd_496 zq_K6 e_25 dX6_likenesses_40 rfl rfl rfl ⟨Nat.le_of_ble_eq_true rfl, Nat.le_of_ble_eq_true rfl⟩ (Nat.le_of_ble_eq_true rfl) ⟨rfl, rfl⟩ ⟨Nat.le_of_ble_eq_true rfl, Nat.le_of_ble_eq_true rfl⟩ rfl ?_
        refine zq_iload_n (pc' := 44) C dX6_likenesses_43 rfl rfl rfl ?_
        refine zq_icmp_ne (pc' := 47) C 51 dX6_likenesses_44 (by decide) rfl (fun c_26 => ?_) (fun c_26 => ?_)
        · have hF := (zq_ifn hF c_26)
          skip
          refine zq_iconst (pc' := 52) C 0 dX6_likenesses_51 rfl (by decide) ?_
          refine zq_iadd (pc' := 53) C dX6_likenesses_52 rfl ?_
          replace hF := zq_let_e hF; obtain ⟨v_27, e_28, hF⟩ := hF
          refine zq_istore_n (lv' := [(2, .int v_27), (0, .ref t), (1, .int x1), (3, .int s_1.2)]) (pc' := 54) C dX6_likenesses_53 rfl rfl (by decide) e_28 rfl ?_
          replace hF := zq_let_e hF; obtain ⟨v_29, e_30, hF⟩ := hF
          refine zq_iinc (lv' := [(3, .int v_29), (2, .int v_27), (0, .ref t), (1, .int x1)]) (pc' := 57) C dX6_likenesses_54 rfl (by decide) 3 rfl e_30 rfl ?_
          refine zq_goto C 4 dX6_likenesses_57 (by decide) ?_
          cases hF
          exact zq_sub [2, 3, 1, 0] rfl (hrec_6 _ rfl)
        · have hF := (zq_ifp hF c_26)
          refine zq_iconst (pc' := 48) C 1 dX6_likenesses_47 rfl (by decide) ?_
          refine zq_goto C 52 dX6_likenesses_48 (by decide) ?_
          refine zq_iadd (pc' := 53) C dX6_likenesses_52 rfl ?_
          replace hF := zq_let_e hF; obtain ⟨v_31, e_32, hF⟩ := hF
          refine zq_istore_n (lv' := [(2, .int v_31), (0, .ref t), (1, .int x1), (3, .int s_1.2)]) (pc' := 54) C dX6_likenesses_53 rfl rfl (by decide) e_32 rfl ?_
          replace hF := zq_let_e hF; obtain ⟨v_33, e_34, hF⟩ := hF
          refine zq_iinc (lv' := [(3, .int v_33), (2, .int v_31), (0, .ref t), (1, .int x1)]) (pc' := 57) C dX6_likenesses_54 rfl (by decide) 3 rfl e_34 rfl ?_
          refine zq_goto C 4 dX6_likenesses_57 (by decide) ?_
          cases hF
          exact zq_sub [2, 3, 1, 0] rfl (hrec_6 _ rfl)
      · have hF := (zq_ifp hF c_17)
        refine zq_iconst (pc' := 26) C 1 dX6_likenesses_25 rfl (by decide) ?_
        refine zq_goto C 30 dX6_likenesses_26 (by decide) ?_
        refine zq_iadd (pc' := 31) C dX6_likenesses_30 rfl ?_
        replace hF := zq_let_e hF; obtain ⟨v_35, e_36, hF⟩ := hF
        refine zq_istore_n (lv' := [(2, .int v_35), (0, .ref t), (1, .int x1), (3, .int s_1.2)]) (pc' := 32) C dX6_likenesses_31 rfl rfl (by decide) e_36 rfl ?_
        refine zq_iload_n (pc' := 33) C dX6_likenesses_32 rfl rfl rfl ?_
        refine zq_aload_n (pc' := 34) C dX6_likenesses_33 rfl rfl rfl ?_
        refine zq_aload_n (pc' := 35) C dX6_likenesses_34 rfl rfl rfl ?_
        refine zq_iload_n (pc' := 36) C dX6_likenesses_35 rfl rfl rfl ?_
        replace hF := zq_ck_e hF; obtain ⟨e_39, hF⟩ := hF
        replace hF := zq_bd hF; obtain ⟨v_37, e_38, hF⟩ := hF
        refine zq_cV (pc' := 39) C (c_X6_mirrored e_38) yv_X6_mirrored wd_499 zq_K6 e_39 dX6_likenesses_36 rfl rfl rfl ⟨Nat.le_of_ble_eq_true rfl, Nat.le_of_ble_eq_true rfl⟩ (Nat.le_of_ble_eq_true rfl) ⟨rfl, rfl⟩ ⟨Nat.le_of_ble_eq_true rfl, Nat.le_of_ble_eq_true rfl⟩ rfl ?_
        refine zq_iload_n (pc' := 40) C dX6_likenesses_39 rfl rfl rfl ?_
        replace hF := zq_ck_e hF; obtain ⟨e_42, hF⟩ := hF
        replace hF := zq_bd hF; obtain ⟨v_40, e_41, hF⟩ := hF
        refine zq_cV (pc' := 43) C (c_X6_turned e_41) yv_X6_turned wd_496 zq_K6 e_42 dX6_likenesses_40 rfl rfl rfl ⟨Nat.le_of_ble_eq_true rfl, Nat.le_of_ble_eq_true rfl⟩ (Nat.le_of_ble_eq_true rfl) ⟨rfl, rfl⟩ ⟨Nat.le_of_ble_eq_true rfl, Nat.le_of_ble_eq_true rfl⟩ rfl ?_
        refine zq_iload_n (pc' := 44) C dX6_likenesses_43 rfl rfl rfl ?_
        refine zq_icmp_ne (pc' := 47) C 51 dX6_likenesses_44 (by decide) rfl (fun c_43 => ?_) (fun c_43 => ?_)
        · have hF := (zq_ifn hF c_43)
          skip
          refine zq_iconst (pc' := 52) C 0 dX6_likenesses_51 rfl (by decide) ?_
          refine zq_iadd (pc' := 53) C dX6_likenesses_52 rfl ?_
          replace hF := zq_let_e hF; obtain ⟨v_44, e_45, hF⟩ := hF
          refine zq_istore_n (lv' := [(2, .int v_44), (0, .ref t), (1, .int x1), (3, .int s_1.2)]) (pc' := 54) C dX6_likenesses_53 rfl rfl (by decide) e_45 rfl ?_
          replace hF := zq_let_e hF; obtain ⟨v_46, e_47, hF⟩ := hF
          refine zq_iinc (lv' := [(3, .int v_46), (2, .int v_44), (0, .ref t), (1, .int x1)]) (pc' := 57) C dX6_likenesses_54 rfl (by decide) 3 rfl e_47 rfl ?_
          refine zq_goto C 4 dX6_likenesses_57 (by decide) ?_
          cases hF
          exact zq_sub [2, 3, 1, 0] rfl (hrec_6 _ rfl)
        · have hF := (zq_ifp hF c_43)
          refine zq_iconst (pc' := 48) C 1 dX6_likenesses_47 rfl (by decide) ?_
          refine zq_goto C 52 dX6_likenesses_48 (by decide) ?_
          refine zq_iadd (pc' := 53) C dX6_likenesses_52 rfl ?_
          replace hF := zq_let_e hF; obtain ⟨v_48, e_49, hF⟩ := hF
          refine zq_istore_n (lv' := [(2, .int v_48), (0, .ref t), (1, .int x1), (3, .int s_1.2)]) (pc' := 54) C dX6_likenesses_53 rfl rfl (by decide) e_49 rfl ?_
          replace hF := zq_let_e hF; obtain ⟨v_50, e_51, hF⟩ := hF
          refine zq_iinc (lv' := [(3, .int v_50), (2, .int v_48), (0, .ref t), (1, .int x1)]) (pc' := 57) C dX6_likenesses_54 rfl (by decide) 3 rfl e_51 rfl ?_
          refine zq_goto C 4 dX6_likenesses_57 (by decide) ?_
          cases hF
          exact zq_sub [2, 3, 1, 0] rfl (hrec_6 _ rfl)
  · skip
    obtain ⟨y_4, rfl⟩ : ∃ z9, z9 = r_2 := ⟨_, rfl⟩
    show zq_W X 0 0 h 60 [(2, .int y_4)] []
    refine zq_iload_n (pc' := 61) C dX6_likenesses_60 rfl rfl rfl ?_
    have hF := Option.some.inj hF
    subst hF
    exact hE _ _ _ _ (Nat.le_of_ble_eq_true rfl) (Nat.le_of_ble_eq_true rfl) dX6_likenesses_61
theorem c_X6_likenesses {h : zq_H} {t : Nat} {x1 : Int32} {out : Int32} (hF : f_X6_likenesses h t x1 = some out) : zq_M none yX6_likenesses (Cond.code yX6_likenesses cX6_likenesses 4 (some .int) :: zq_all) rm_X6_likenesses [.ref t, .int x1] h (some (.int out)) h := zq_met2 (own := RX6) (by decide +kernel) rfl (Nat.le_of_ble_eq_true rfl) rfl ⟨.int, rfl, rfl⟩ (fun X C T hn hE => v_X6_likenesses C T hn hF hE)
theorem yv_X6_likenesses : zq_calV yX6_likenesses RX6 cX6_likenesses 4 (some .int) 1 := ⟨by decide +kernel, wd_558, wd_630, wd_631, wd_458⟩
def f_X6_begin (h : zq_H) (t : Nat) (x1 : Int32) : Option (Int32 × zq_H) := (Option.bind (f_X6_within h x1 4 9) fun v_1 => (if v_1 = false then (Option.bind (zq_pi h t 6 7 1) fun h_4 => some ((0, h_4))) else (Option.bind (zq_pi h t 6 7 0) fun h_9 => (zq_ck h_9 t 6 fun _ => (Option.bind (f_X6_save h_9 t) fun v_14 => (Option.bind (zq_gr v_14 t 6 0) fun v_17 => (Option.bind (zq_ai v_14 v_17 0) fun v_19 => (Option.bind (zq_gr v_14 t 6 0) fun v_21 => (Option.bind (zq_si v_14 v_21 0 x1) fun h_23 => (zq_ck h_23 t 6 fun _ => (Option.bind (f_X6_layAll h_23 t) fun v_25 => (Option.bind (zq_gr v_25 t 6 0) fun v_28 => (zq_ck v_25 t 6 fun _ => (Option.bind (f_X6_fanOf v_25 t 0) fun v_30 => (Option.bind (zq_si v_25 v_28 1 v_30) fun h_33 => (Option.bind (zq_gr h_33 t 6 0) fun v_35 => (zq_ck h_33 t 6 fun _ => (Option.bind (f_X6_fanOf h_33 t 0) fun v_37 => (Option.bind (zq_si h_33 v_35 2 v_37) fun h_40 => (Option.bind (zq_gr h_40 t 6 0) fun v_42 => (Option.bind (zq_si h_40 v_42 3 0) fun h_44 => some ((v_19, h_44)))))))))))))))))))))))
abbrev rm_X6_begin : Room := { frames := 7, cells := 0, slots := 0, locals := 161 }
theorem dX6_begin_0 : decode cX6_begin 0 = .ok (.aload_n 0, 1) := by decide +kernel
theorem dX6_begin_1 : decode cX6_begin 1 = .ok (.iload_n 1, 1) := by decide +kernel
theorem dX6_begin_2 : decode cX6_begin 2 = .ok (.iconst 4, 1) := by decide +kernel
theorem dX6_begin_3 : decode cX6_begin 3 = .ok (.bipush 9, 2) := by decide +kernel
theorem dX6_begin_5 : decode cX6_begin 5 = .ok (.invokestatic 66, 3) := by decide +kernel
theorem dX6_begin_8 : decode cX6_begin 8 = .ok (.ifCond .eq 7, 3) := by decide +kernel
theorem dX6_begin_11 : decode cX6_begin 11 = .ok (.iconst 0, 1) := by decide +kernel
theorem dX6_begin_12 : decode cX6_begin 12 = .ok (.goto 4, 3) := by decide +kernel
theorem dX6_begin_15 : decode cX6_begin 15 = .ok (.iconst 1, 1) := by decide +kernel
theorem dX6_begin_16 : decode cX6_begin 16 = .ok (.putfield 56, 3) := by decide +kernel
theorem dX6_begin_19 : decode cX6_begin 19 = .ok (.aload_n 0, 1) := by decide +kernel
theorem dX6_begin_20 : decode cX6_begin 20 = .ok (.getfield 56, 3) := by decide +kernel
theorem dX6_begin_23 : decode cX6_begin 23 = .ok (.ifCond .le 5, 3) := by decide +kernel
theorem dX6_begin_26 : decode cX6_begin 26 = .ok (.iconst 0, 1) := by decide +kernel
theorem dX6_begin_27 : decode cX6_begin 27 = .ok (.ireturn, 1) := by decide +kernel
theorem dX6_begin_28 : decode cX6_begin 28 = .ok (.aload_n 0, 1) := by decide +kernel
theorem dX6_begin_29 : decode cX6_begin 29 = .ok (.invokevirtual 141, 3) := by decide +kernel
theorem dX6_begin_32 : decode cX6_begin 32 = .ok (.aload_n 0, 1) := by decide +kernel
theorem dX6_begin_33 : decode cX6_begin 33 = .ok (.getfield 7, 3) := by decide +kernel
theorem dX6_begin_36 : decode cX6_begin 36 = .ok (.iconst 0, 1) := by decide +kernel
theorem dX6_begin_37 : decode cX6_begin 37 = .ok (.iaload, 1) := by decide +kernel
theorem dX6_begin_38 : decode cX6_begin 38 = .ok (.istore_n 2, 1) := by decide +kernel
theorem dX6_begin_39 : decode cX6_begin 39 = .ok (.aload_n 0, 1) := by decide +kernel
theorem dX6_begin_40 : decode cX6_begin 40 = .ok (.getfield 7, 3) := by decide +kernel
theorem dX6_begin_43 : decode cX6_begin 43 = .ok (.iconst 0, 1) := by decide +kernel
theorem dX6_begin_44 : decode cX6_begin 44 = .ok (.iload_n 1, 1) := by decide +kernel
theorem dX6_begin_45 : decode cX6_begin 45 = .ok (.iastore, 1) := by decide +kernel
theorem dX6_begin_46 : decode cX6_begin 46 = .ok (.aload_n 0, 1) := by decide +kernel
theorem dX6_begin_47 : decode cX6_begin 47 = .ok (.invokevirtual 49, 3) := by decide +kernel
theorem dX6_begin_50 : decode cX6_begin 50 = .ok (.aload_n 0, 1) := by decide +kernel
theorem dX6_begin_51 : decode cX6_begin 51 = .ok (.getfield 7, 3) := by decide +kernel
theorem dX6_begin_54 : decode cX6_begin 54 = .ok (.iconst 1, 1) := by decide +kernel
theorem dX6_begin_55 : decode cX6_begin 55 = .ok (.aload_n 0, 1) := by decide +kernel
theorem dX6_begin_56 : decode cX6_begin 56 = .ok (.iconst 0, 1) := by decide +kernel
theorem dX6_begin_57 : decode cX6_begin 57 = .ok (.invokevirtual 52, 3) := by decide +kernel
theorem dX6_begin_60 : decode cX6_begin 60 = .ok (.iastore, 1) := by decide +kernel
theorem dX6_begin_61 : decode cX6_begin 61 = .ok (.aload_n 0, 1) := by decide +kernel
theorem dX6_begin_62 : decode cX6_begin 62 = .ok (.getfield 7, 3) := by decide +kernel
theorem dX6_begin_65 : decode cX6_begin 65 = .ok (.iconst 2, 1) := by decide +kernel
theorem dX6_begin_66 : decode cX6_begin 66 = .ok (.aload_n 0, 1) := by decide +kernel
theorem dX6_begin_67 : decode cX6_begin 67 = .ok (.iconst 0, 1) := by decide +kernel
theorem dX6_begin_68 : decode cX6_begin 68 = .ok (.invokevirtual 52, 3) := by decide +kernel
theorem dX6_begin_71 : decode cX6_begin 71 = .ok (.iastore, 1) := by decide +kernel
theorem dX6_begin_72 : decode cX6_begin 72 = .ok (.aload_n 0, 1) := by decide +kernel
theorem dX6_begin_73 : decode cX6_begin 73 = .ok (.getfield 7, 3) := by decide +kernel
theorem dX6_begin_76 : decode cX6_begin 76 = .ok (.iconst 3, 1) := by decide +kernel
theorem dX6_begin_77 : decode cX6_begin 77 = .ok (.iconst 0, 1) := by decide +kernel
theorem dX6_begin_78 : decode cX6_begin 78 = .ok (.iastore, 1) := by decide +kernel
theorem dX6_begin_79 : decode cX6_begin 79 = .ok (.iload_n 2, 1) := by decide +kernel
theorem dX6_begin_80 : decode cX6_begin 80 = .ok (.ireturn, 1) := by decide +kernel
set_option maxRecDepth 100000 in
set_option maxHeartbeats 4000000 in
theorem v_X6_begin {X : zq_X} (C : zq_C X RX6 cX6_begin 3 zq_all rm_X6_begin) {h : zq_H} {t : Nat} {x1 : Int32} (T : zq_T X none) (hn : X.2.2.2.2.2.2.2.2.1.name = yX6_begin.name) {out : (Int32 × zq_H)} (hF : f_X6_begin h t x1 = some out) (hE : zq_End X cX6_begin 0 0 (some (.int out.1)) out.2) : zq_W X 0 0 h 0 [(0, .ref t), (1, .int x1)] [] := by
  unfold f_X6_begin at hF
  refine zq_aload_n (pc' := 1) C dX6_begin_0 rfl rfl rfl ?_
  refine zq_iload_n (pc' := 2) C dX6_begin_1 rfl rfl rfl ?_
  refine zq_iconst (pc' := 3) C 4 dX6_begin_2 rfl (by decide) ?_
  refine zq_bipush (pc' := 5) C 9 dX6_begin_3 rfl (by decide) ?_
  replace hF := zq_bd hF; obtain ⟨v_1, e_2, hF⟩ := hF
  refine zq_cS (pc' := 8) C (c_X6_within e_2) ys_X6_within wd_548 dX6_begin_5 rfl rfl rfl ⟨Nat.le_of_ble_eq_true rfl, Nat.le_of_ble_eq_true rfl⟩ (Nat.le_of_ble_eq_true rfl) ⟨rfl, rfl⟩ ⟨Nat.le_of_ble_eq_true rfl, Nat.le_of_ble_eq_true rfl⟩ rfl ?_
  refine zq_if_eq (pc' := 11) C 15 dX6_begin_8 (by decide) rfl (fun c_3 => ?_) (fun c_3 => ?_)
  · have hF := (zq_ifp hF (zq_b0.mp c_3))
    skip
    refine zq_iconst (pc' := 16) C 1 dX6_begin_15 rfl (by decide) ?_
    replace hF := zq_bd hF; obtain ⟨h_4, e_5, hF⟩ := hF
    refine zq_putI (j := 7) (pc' := 19) C zq_K6 zq_in6w (Or.inl wd_542) (by decide) rfl rfl dX6_begin_16 rfl (Or.inl rfl) e_5 ?_
    refine zq_aload_n (pc' := 20) C dX6_begin_19 rfl rfl rfl ?_
    have e_7 : zq_gi h_4 t 6 7 = some 1 := zq_gi_pi e_5
    refine zq_getI (j := 7) (pc' := 23) C zq_K6 zq_in6w (Or.inl wd_542) (by decide) rfl dX6_begin_20 rfl e_7 ?_
    refine zq_if_le (pc' := 26) C 28 dX6_begin_23 (by decide) rfl (fun c_8 => absurd c_8 (by decide)) (fun _ => ?_)
    refine zq_iconst (pc' := 27) C 0 dX6_begin_26 rfl (by decide) ?_
    have hF := Option.some.inj hF
    subst hF
    exact hE _ _ _ _ (Nat.le_of_ble_eq_true rfl) (Nat.le_of_ble_eq_true rfl) dX6_begin_27
  · have hF := (zq_ifn hF (fun q => c_3 (zq_b0.mpr q)))
    refine zq_iconst (pc' := 12) C 0 dX6_begin_11 rfl (by decide) ?_
    refine zq_goto C 16 dX6_begin_12 (by decide) ?_
    replace hF := zq_bd hF; obtain ⟨h_9, e_10, hF⟩ := hF
    refine zq_putI (j := 7) (pc' := 19) C zq_K6 zq_in6w (Or.inl wd_542) (by decide) rfl rfl dX6_begin_16 rfl (Or.inl rfl) e_10 ?_
    refine zq_aload_n (pc' := 20) C dX6_begin_19 rfl rfl rfl ?_
    have e_12 : zq_gi h_9 t 6 7 = some 0 := zq_gi_pi e_10
    refine zq_getI (j := 7) (pc' := 23) C zq_K6 zq_in6w (Or.inl wd_542) (by decide) rfl dX6_begin_20 rfl e_12 ?_
    refine zq_if_le (pc' := 26) C 28 dX6_begin_23 (by decide) rfl (fun _ => ?_) (fun c_13 => absurd c_13 (by decide))
    refine zq_aload_n (pc' := 29) C dX6_begin_28 rfl rfl rfl ?_
    replace hF := zq_ck_e hF; obtain ⟨e_16, hF⟩ := hF
    replace hF := zq_bd hF; obtain ⟨v_14, e_15, hF⟩ := hF
    refine zq_cV (pc' := 32) C (c_X6_save e_15) yv_X6_save wd_559 zq_K6 e_16 dX6_begin_29 rfl rfl rfl ⟨Nat.le_of_ble_eq_true rfl, Nat.le_of_ble_eq_true rfl⟩ (Nat.le_of_ble_eq_true rfl) ⟨rfl, rfl⟩ ⟨Nat.le_of_ble_eq_true rfl, Nat.le_of_ble_eq_true rfl⟩ rfl ?_
    refine zq_aload_n (pc' := 33) C dX6_begin_32 rfl rfl rfl ?_
    replace hF := zq_bd hF; obtain ⟨v_17, e_18, hF⟩ := hF
    refine zq_getR (j := 0) (pc' := 36) C zq_K6 zq_in6w (Or.inl wd_448) (by decide) rfl dX6_begin_33 rfl e_18 ?_
    refine zq_iconst (pc' := 37) C 0 dX6_begin_36 rfl (by decide) ?_
    replace hF := zq_bd hF; obtain ⟨v_19, e_20, hF⟩ := hF
    refine zq_iaload (pc' := 38) C dX6_begin_37 rfl e_20 ?_
    refine zq_istore_n (lv' := [(2, .int v_19), (0, .ref t), (1, .int x1)]) (pc' := 39) C dX6_begin_38 rfl rfl (by decide) rfl rfl ?_
    refine zq_aload_n (pc' := 40) C dX6_begin_39 rfl rfl rfl ?_
    replace hF := zq_bd hF; obtain ⟨v_21, e_22, hF⟩ := hF
    refine zq_getR (j := 0) (pc' := 43) C zq_K6 zq_in6w (Or.inl wd_448) (by decide) rfl dX6_begin_40 rfl e_22 ?_
    refine zq_iconst (pc' := 44) C 0 dX6_begin_43 rfl (by decide) ?_
    refine zq_iload_n (pc' := 45) C dX6_begin_44 rfl rfl rfl ?_
    replace hF := zq_bd hF; obtain ⟨h_23, e_24, hF⟩ := hF
    refine zq_iastore (pc' := 46) C dX6_begin_45 rfl e_24 ?_
    refine zq_aload_n (pc' := 47) C dX6_begin_46 rfl rfl rfl ?_
    replace hF := zq_ck_e hF; obtain ⟨e_27, hF⟩ := hF
    replace hF := zq_bd hF; obtain ⟨v_25, e_26, hF⟩ := hF
    refine zq_cV (pc' := 50) C (c_X6_layAll e_26) yv_X6_layAll wd_537 zq_K6 e_27 dX6_begin_47 rfl rfl rfl ⟨Nat.le_of_ble_eq_true rfl, Nat.le_of_ble_eq_true rfl⟩ (Nat.le_of_ble_eq_true rfl) ⟨rfl, rfl⟩ ⟨Nat.le_of_ble_eq_true rfl, Nat.le_of_ble_eq_true rfl⟩ rfl ?_
    refine zq_aload_n (pc' := 51) C dX6_begin_50 rfl rfl rfl ?_
    replace hF := zq_bd hF; obtain ⟨v_28, e_29, hF⟩ := hF
    refine zq_getR (j := 0) (pc' := 54) C zq_K6 zq_in6w (Or.inl wd_448) (by decide) rfl dX6_begin_51 rfl e_29 ?_
    refine zq_iconst (pc' := 55) C 1 dX6_begin_54 rfl (by decide) ?_
    refine zq_aload_n (pc' := 56) C dX6_begin_55 rfl rfl rfl ?_
    refine zq_iconst (pc' := 57) C 0 dX6_begin_56 rfl (by decide) ?_
    replace hF := zq_ck_e hF; obtain ⟨e_32, hF⟩ := hF
    replace hF := zq_bd hF; obtain ⟨v_30, e_31, hF⟩ := hF
    refine zq_cV (pc' := 60) C (c_X6_fanOf e_31) yv_X6_fanOf wd_476 zq_K6 e_32 dX6_begin_57 rfl rfl rfl ⟨Nat.le_of_ble_eq_true rfl, Nat.le_of_ble_eq_true rfl⟩ (Nat.le_of_ble_eq_true rfl) ⟨rfl, rfl⟩ ⟨Nat.le_of_ble_eq_true rfl, Nat.le_of_ble_eq_true rfl⟩ rfl ?_
    replace hF := zq_bd hF; obtain ⟨h_33, e_34, hF⟩ := hF
    refine zq_iastore (pc' := 61) C dX6_begin_60 rfl e_34 ?_
    refine zq_aload_n (pc' := 62) C dX6_begin_61 rfl rfl rfl ?_
    replace hF := zq_bd hF; obtain ⟨v_35, e_36, hF⟩ := hF
    refine zq_getR (j := 0) (pc' := 65) C zq_K6 zq_in6w (Or.inl wd_448) (by decide) rfl dX6_begin_62 rfl e_36 ?_
    refine zq_iconst (pc' := 66) C 2 dX6_begin_65 rfl (by decide) ?_
    refine zq_aload_n (pc' := 67) C dX6_begin_66 rfl rfl rfl ?_
    refine zq_iconst (pc' := 68) C 0 dX6_begin_67 rfl (by decide) ?_
    replace hF := zq_ck_e hF; obtain ⟨e_39, hF⟩ := hF
    replace hF := zq_bd hF; obtain ⟨v_37, e_38, hF⟩ := hF
    refine zq_cV (pc' := 71) C (c_X6_fanOf e_38) yv_X6_fanOf wd_476 zq_K6 e_39 dX6_begin_68 rfl rfl rfl ⟨Nat.le_of_ble_eq_true rfl, Nat.le_of_ble_eq_true rfl⟩ (Nat.le_of_ble_eq_true rfl) ⟨rfl, rfl⟩ ⟨Nat.le_of_ble_eq_true rfl, Nat.le_of_ble_eq_true rfl⟩ rfl ?_
    replace hF := zq_bd hF; obtain ⟨h_40, e_41, hF⟩ := hF
    refine zq_iastore (pc' := 72) C dX6_begin_71 rfl e_41 ?_
    refine zq_aload_n (pc' := 73) C dX6_begin_72 rfl rfl rfl ?_
    replace hF := zq_bd hF; obtain ⟨v_42, e_43, hF⟩ := hF
    refine zq_getR (j := 0) (pc' := 76) C zq_K6 zq_in6w (Or.inl wd_448) (by decide) rfl dX6_begin_73 rfl e_43 ?_
    refine zq_iconst (pc' := 77) C 3 dX6_begin_76 rfl (by decide) ?_
    refine zq_iconst (pc' := 78) C 0 dX6_begin_77 rfl (by decide) ?_
    replace hF := zq_bd hF; obtain ⟨h_44, e_45, hF⟩ := hF
    refine zq_iastore (pc' := 79) C dX6_begin_78 rfl e_45 ?_
    refine zq_iload_n (pc' := 80) C dX6_begin_79 rfl rfl rfl ?_
    have hF := Option.some.inj hF
    subst hF
    exact hE _ _ _ _ (Nat.le_of_ble_eq_true rfl) (Nat.le_of_ble_eq_true rfl) dX6_begin_80
theorem c_X6_begin {h : zq_H} {t : Nat} {x1 : Int32} {out : (Int32 × zq_H)} (hF : f_X6_begin h t x1 = some out) : zq_M none yX6_begin (Cond.code yX6_begin cX6_begin 3 (some .int) :: zq_all) rm_X6_begin [.ref t, .int x1] h (some (.int out.1)) out.2 := zq_met2 (own := RX6) (by decide +kernel) rfl (Nat.le_of_ble_eq_true rfl) rfl ⟨.int, rfl, rfl⟩ (fun X C T hn hE => v_X6_begin C T hn hF hE)
theorem yv_X6_begin : zq_calV yX6_begin RX6 cX6_begin 3 (some .int) 1 := ⟨by decide +kernel, wd_562, wd_791, wd_792, wd_458⟩
def f_X6_isWhich (h : zq_H) (x0 : Int32) : Option Bool := (Option.bind (f_X6_within h x0 0 1) fun v_1 => some (v_1))
abbrev rm_X6_isWhich : Room := { frames := 1, cells := 0, slots := 0, locals := 22 }
theorem dX6_isWhich_0 : decode cX6_isWhich 0 = .ok (.iload_n 0, 1) := by decide +kernel
theorem dX6_isWhich_1 : decode cX6_isWhich 1 = .ok (.iconst 0, 1) := by decide +kernel
theorem dX6_isWhich_2 : decode cX6_isWhich 2 = .ok (.iconst 1, 1) := by decide +kernel
theorem dX6_isWhich_3 : decode cX6_isWhich 3 = .ok (.invokestatic 66, 3) := by decide +kernel
theorem dX6_isWhich_6 : decode cX6_isWhich 6 = .ok (.ireturn, 1) := by decide +kernel
set_option maxRecDepth 100000 in
set_option maxHeartbeats 4000000 in
theorem v_X6_isWhich {X : zq_X} (C : zq_C X RX6 cX6_isWhich 1 zq_all rm_X6_isWhich) {h : zq_H} {x0 : Int32} (T : zq_T X none) (hn : X.2.2.2.2.2.2.2.2.1.name = yX6_isWhich.name) {out : Bool} (hF : f_X6_isWhich h x0 = some out) (hE : zq_End X cX6_isWhich 0 0 (some (.int (zq_b out))) h) : zq_W X 0 0 h 0 [(0, .int x0)] [] := by
  unfold f_X6_isWhich at hF
  refine zq_iload_n (pc' := 1) C dX6_isWhich_0 rfl rfl rfl ?_
  refine zq_iconst (pc' := 2) C 0 dX6_isWhich_1 rfl (by decide) ?_
  refine zq_iconst (pc' := 3) C 1 dX6_isWhich_2 rfl (by decide) ?_
  replace hF := zq_bd hF; obtain ⟨v_1, e_2, hF⟩ := hF
  refine zq_cS (pc' := 6) C (c_X6_within e_2) ys_X6_within wd_548 dX6_isWhich_3 rfl rfl rfl ⟨Nat.le_of_ble_eq_true rfl, Nat.le_of_ble_eq_true rfl⟩ (Nat.le_of_ble_eq_true rfl) ⟨rfl, rfl⟩ ⟨Nat.le_of_ble_eq_true rfl, Nat.le_of_ble_eq_true rfl⟩ rfl ?_
  have hF := Option.some.inj hF
  subst hF
  exact hE _ _ _ _ (Nat.le_of_ble_eq_true rfl) (Nat.le_of_ble_eq_true rfl) dX6_isWhich_6
theorem c_X6_isWhich {h : zq_H} {x0 : Int32} {out : Bool} (hF : f_X6_isWhich h x0 = some out) : zq_M none yX6_isWhich (Cond.code yX6_isWhich cX6_isWhich 1 (some .boolean) :: zq_all) rm_X6_isWhich [.int x0] h (some (.int (zq_b out))) h := zq_met2 (own := RX6) (by decide +kernel) rfl (Nat.le_of_ble_eq_true rfl) rfl ⟨.boolean, rfl, by cases out <;> rfl⟩ (fun X C T hn hE => v_X6_isWhich C T hn hF hE)
theorem ys_X6_isWhich : zq_calS yX6_isWhich cX6_isWhich 1 (some .boolean) 1 := ⟨by decide +kernel, wd_563, wd_566, wd_458⟩
def f_X6_canFlip (h : zq_H) (t : Nat) (x1 : Int32) (x2 : Int32) : Option Bool := (Option.bind (zq_gr h t 6 0) fun v_1 => (Option.bind (zq_ai h v_1 (1 + x1)) fun v_3 => (Option.bind (f_X6_has h v_3 x2) fun v_5 => (if v_5 = false then some (false) else (if x1 = 1 then some (true) else (Option.bind (zq_gr h t 6 0) fun v_9 => (Option.bind (zq_ai h v_9 3) fun v_11 => (Option.bind (f_X6_has h v_11 x2) fun v_13 => (if v_13 = false then some (true) else some (false))))))))))
abbrev rm_X6_canFlip : Room := { frames := 1, cells := 0, slots := 0, locals := 21 }
theorem dX6_canFlip_0 : decode cX6_canFlip 0 = .ok (.aload_n 0, 1) := by decide +kernel
theorem dX6_canFlip_1 : decode cX6_canFlip 1 = .ok (.getfield 7, 3) := by decide +kernel
theorem dX6_canFlip_4 : decode cX6_canFlip 4 = .ok (.iconst 1, 1) := by decide +kernel
theorem dX6_canFlip_5 : decode cX6_canFlip 5 = .ok (.iload_n 1, 1) := by decide +kernel
theorem dX6_canFlip_6 : decode cX6_canFlip 6 = .ok (.iadd, 1) := by decide +kernel
theorem dX6_canFlip_7 : decode cX6_canFlip 7 = .ok (.iaload, 1) := by decide +kernel
theorem dX6_canFlip_8 : decode cX6_canFlip 8 = .ok (.iload_n 2, 1) := by decide +kernel
theorem dX6_canFlip_9 : decode cX6_canFlip 9 = .ok (.invokestatic 74, 3) := by decide +kernel
theorem dX6_canFlip_12 : decode cX6_canFlip 12 = .ok (.ifCond .eq 25, 3) := by decide +kernel
theorem dX6_canFlip_15 : decode cX6_canFlip 15 = .ok (.iload_n 1, 1) := by decide +kernel
theorem dX6_canFlip_16 : decode cX6_canFlip 16 = .ok (.iconst 1, 1) := by decide +kernel
theorem dX6_canFlip_17 : decode cX6_canFlip 17 = .ok (.if_icmp .eq 16, 3) := by decide +kernel
theorem dX6_canFlip_20 : decode cX6_canFlip 20 = .ok (.aload_n 0, 1) := by decide +kernel
theorem dX6_canFlip_21 : decode cX6_canFlip 21 = .ok (.getfield 7, 3) := by decide +kernel
theorem dX6_canFlip_24 : decode cX6_canFlip 24 = .ok (.iconst 3, 1) := by decide +kernel
theorem dX6_canFlip_25 : decode cX6_canFlip 25 = .ok (.iaload, 1) := by decide +kernel
theorem dX6_canFlip_26 : decode cX6_canFlip 26 = .ok (.iload_n 2, 1) := by decide +kernel
theorem dX6_canFlip_27 : decode cX6_canFlip 27 = .ok (.invokestatic 74, 3) := by decide +kernel
theorem dX6_canFlip_30 : decode cX6_canFlip 30 = .ok (.ifCond .ne 7, 3) := by decide +kernel
theorem dX6_canFlip_33 : decode cX6_canFlip 33 = .ok (.iconst 1, 1) := by decide +kernel
theorem dX6_canFlip_34 : decode cX6_canFlip 34 = .ok (.goto 4, 3) := by decide +kernel
theorem dX6_canFlip_37 : decode cX6_canFlip 37 = .ok (.iconst 0, 1) := by decide +kernel
theorem dX6_canFlip_38 : decode cX6_canFlip 38 = .ok (.ireturn, 1) := by decide +kernel
set_option maxRecDepth 100000 in
set_option maxHeartbeats 4000000 in
theorem v_X6_canFlip {X : zq_X} (C : zq_C X RX6 cX6_canFlip 3 zq_all rm_X6_canFlip) {h : zq_H} {t : Nat} {x1 : Int32} {x2 : Int32} (T : zq_T X none) (hn : X.2.2.2.2.2.2.2.2.1.name = yX6_canFlip.name) {out : Bool} (hF : f_X6_canFlip h t x1 x2 = some out) (hE : zq_End X cX6_canFlip 0 0 (some (.int (zq_b out))) h) : zq_W X 0 0 h 0 [(0, .ref t), (1, .int x1), (2, .int x2)] [] := by
  unfold f_X6_canFlip at hF
  refine zq_aload_n (pc' := 1) C dX6_canFlip_0 rfl rfl rfl ?_
  replace hF := zq_bd hF; obtain ⟨v_1, e_2, hF⟩ := hF
  refine zq_getR (j := 0) (pc' := 4) C zq_K6 zq_in6w (Or.inl wd_448) (by decide) rfl dX6_canFlip_1 rfl e_2 ?_
  refine zq_iconst (pc' := 5) C 1 dX6_canFlip_4 rfl (by decide) ?_
  refine zq_iload_n (pc' := 6) C dX6_canFlip_5 rfl rfl rfl ?_
  refine zq_iadd (pc' := 7) C dX6_canFlip_6 rfl ?_
  replace hF := zq_bd hF; obtain ⟨v_3, e_4, hF⟩ := hF
  refine zq_iaload (pc' := 8) C dX6_canFlip_7 rfl e_4 ?_
  refine zq_iload_n (pc' := 9) C dX6_canFlip_8 rfl rfl rfl ?_
  replace hF := zq_bd hF; obtain ⟨v_5, e_6, hF⟩ := hF
  refine zq_cS (pc' := 12) C (c_X6_has e_6) ys_X6_has wd_459 dX6_canFlip_9 rfl rfl rfl ⟨Nat.le_of_ble_eq_true rfl, Nat.le_of_ble_eq_true rfl⟩ (Nat.le_of_ble_eq_true rfl) ⟨rfl, rfl⟩ ⟨Nat.le_of_ble_eq_true rfl, Nat.le_of_ble_eq_true rfl⟩ rfl ?_
  refine zq_if_eq (pc' := 15) C 37 dX6_canFlip_12 (by decide) rfl (fun c_7 => ?_) (fun c_7 => ?_)
  · have hF := (zq_ifp hF (zq_b0.mp c_7))
    skip
    refine zq_iconst (pc' := 38) C 0 dX6_canFlip_37 rfl (by decide) ?_
    have hF := Option.some.inj hF
    subst hF
    exact hE _ _ _ _ (Nat.le_of_ble_eq_true rfl) (Nat.le_of_ble_eq_true rfl) dX6_canFlip_38
  · have hF := (zq_ifn hF (fun q => c_7 (zq_b0.mpr q)))
    refine zq_iload_n (pc' := 16) C dX6_canFlip_15 rfl rfl rfl ?_
    refine zq_iconst (pc' := 17) C 1 dX6_canFlip_16 rfl (by decide) ?_
    refine zq_icmp_eq (pc' := 20) C 33 dX6_canFlip_17 (by decide) rfl (fun c_8 => ?_) (fun c_8 => ?_)
    · have hF := (zq_ifp hF c_8)
      skip
      refine zq_iconst (pc' := 34) C 1 dX6_canFlip_33 rfl (by decide) ?_
      refine zq_goto C 38 dX6_canFlip_34 (by decide) ?_
      have hF := Option.some.inj hF
      subst hF
      exact hE _ _ _ _ (Nat.le_of_ble_eq_true rfl) (Nat.le_of_ble_eq_true rfl) dX6_canFlip_38
    · have hF := (zq_ifn hF c_8)
      refine zq_aload_n (pc' := 21) C dX6_canFlip_20 rfl rfl rfl ?_
      replace hF := zq_bd hF; obtain ⟨v_9, e_10, hF⟩ := hF
      refine zq_getR (j := 0) (pc' := 24) C zq_K6 zq_in6w (Or.inl wd_448) (by decide) rfl dX6_canFlip_21 rfl e_10 ?_
      refine zq_iconst (pc' := 25) C 3 dX6_canFlip_24 rfl (by decide) ?_
      replace hF := zq_bd hF; obtain ⟨v_11, e_12, hF⟩ := hF
      refine zq_iaload (pc' := 26) C dX6_canFlip_25 rfl e_12 ?_
      refine zq_iload_n (pc' := 27) C dX6_canFlip_26 rfl rfl rfl ?_
      replace hF := zq_bd hF; obtain ⟨v_13, e_14, hF⟩ := hF
      refine zq_cS (pc' := 30) C (c_X6_has e_14) ys_X6_has wd_459 dX6_canFlip_27 rfl rfl rfl ⟨Nat.le_of_ble_eq_true rfl, Nat.le_of_ble_eq_true rfl⟩ (Nat.le_of_ble_eq_true rfl) ⟨rfl, rfl⟩ ⟨Nat.le_of_ble_eq_true rfl, Nat.le_of_ble_eq_true rfl⟩ rfl ?_
      refine zq_if_ne (pc' := 33) C 37 dX6_canFlip_30 (by decide) rfl (fun c_15 => ?_) (fun c_15 => ?_)
      · have hF := (zq_ifn hF (fun q => c_15 (zq_b0.mpr q)))
        skip
        refine zq_iconst (pc' := 38) C 0 dX6_canFlip_37 rfl (by decide) ?_
        have hF := Option.some.inj hF
        subst hF
        exact hE _ _ _ _ (Nat.le_of_ble_eq_true rfl) (Nat.le_of_ble_eq_true rfl) dX6_canFlip_38
      · have hF := (zq_ifp hF (zq_b0.mp c_15))
        refine zq_iconst (pc' := 34) C 1 dX6_canFlip_33 rfl (by decide) ?_
        refine zq_goto C 38 dX6_canFlip_34 (by decide) ?_
        have hF := Option.some.inj hF
        subst hF
        exact hE _ _ _ _ (Nat.le_of_ble_eq_true rfl) (Nat.le_of_ble_eq_true rfl) dX6_canFlip_38
theorem c_X6_canFlip {h : zq_H} {t : Nat} {x1 : Int32} {x2 : Int32} {out : Bool} (hF : f_X6_canFlip h t x1 x2 = some out) : zq_M none yX6_canFlip (Cond.code yX6_canFlip cX6_canFlip 3 (some .boolean) :: zq_all) rm_X6_canFlip [.ref t, .int x1, .int x2] h (some (.int (zq_b out))) h := zq_met2 (own := RX6) (by decide +kernel) rfl (Nat.le_of_ble_eq_true rfl) rfl ⟨.boolean, rfl, by cases out <;> rfl⟩ (fun X C T hn hE => v_X6_canFlip C T hn hF hE)
theorem yv_X6_canFlip : zq_calV yX6_canFlip RX6 cX6_canFlip 3 (some .boolean) 2 := ⟨by decide +kernel, wd_564, wd_571, wd_572, wd_458⟩
def f_X6_flip (h : zq_H) (t : Nat) (x1 : Int32) (x2 : Int32) (x3 : Int32) : Option (Int32 × zq_H) := (Option.bind (f_X6_isWhich h x1) fun v_1 => (if v_1 = false then (Option.bind (zq_pi h t 6 7 1) fun h_4 => some ((0, h_4))) else (zq_ck h t 6 fun _ => (Option.bind (f_X6_isDiagonal h t x2 x3) fun v_12 => (if v_12 = false then (Option.bind (zq_pi h t 6 7 1) fun h_16 => some ((0, h_16))) else (Option.bind (zq_pi h t 6 7 0) fun h_24 => (zq_ck h_24 t 6 fun _ => (Option.bind (f_X6_numberOf h_24 t x2 x3) fun v_29 => (zq_ck h_24 t 6 fun _ => (Option.bind (f_X6_canFlip h_24 t x1 v_29) fun v_32 => (if v_32 = false then (Option.bind (zq_pi h_24 t 6 7 2) fun h_36 => some ((0, h_36))) else (Option.bind (zq_pi h_24 t 6 7 0) fun h_41 => (zq_ck h_41 t 6 fun _ => (Option.bind (f_X6_save h_41 t) fun v_46 => (Option.bind (zq_gr v_46 t 6 0) fun v_49 => (Option.bind (zq_ai v_46 v_49 (1 + x1)) fun v_51 => (zq_ck v_46 t 6 fun _ => (Option.bind (f_X6_numberOf v_46 t x2 x3) fun v_53 => (zq_ck v_46 t 6 fun _ => (Option.bind (f_X6_flipped v_46 t v_51 v_53) fun v_56 => (Option.bind (zq_gr v_46 t 6 0) fun v_59 => (Option.bind (zq_gr v_46 t 6 0) fun v_61 => (Option.bind (zq_ai v_46 v_61 (1 + x1)) fun v_63 => (zq_ck v_46 t 6 fun _ => (Option.bind (f_X6_numberOf v_46 t x2 x3) fun v_65 => (zq_ck v_46 t 6 fun _ => (Option.bind (f_X6_behindFlip v_46 t v_63 v_65) fun v_68 => (Option.bind (zq_si v_46 v_59 (1 + x1) v_68) fun h_71 => (Option.bind (zq_gr h_71 t 6 0) fun v_73 => (Option.bind (zq_ai h_71 v_73 4) fun v_75 => (Option.bind (zq_si h_71 v_73 4 (v_75 + 1)) fun h_77 => some ((v_56, h_77)))))))))))))))))))))))))))))))))
abbrev rm_X6_flip : Room := { frames := 5, cells := 0, slots := 0, locals := 116 }
theorem dX6_flip_0 : decode cX6_flip 0 = .ok (.aload_n 0, 1) := by decide +kernel
theorem dX6_flip_1 : decode cX6_flip 1 = .ok (.iload_n 1, 1) := by decide +kernel
theorem dX6_flip_2 : decode cX6_flip 2 = .ok (.invokestatic 144, 3) := by decide +kernel
theorem dX6_flip_5 : decode cX6_flip 5 = .ok (.ifCond .eq 16, 3) := by decide +kernel
theorem dX6_flip_8 : decode cX6_flip 8 = .ok (.aload_n 0, 1) := by decide +kernel
theorem dX6_flip_9 : decode cX6_flip 9 = .ok (.iload_n 2, 1) := by decide +kernel
theorem dX6_flip_10 : decode cX6_flip 10 = .ok (.iload_n 3, 1) := by decide +kernel
theorem dX6_flip_11 : decode cX6_flip 11 = .ok (.invokevirtual 147, 3) := by decide +kernel
theorem dX6_flip_14 : decode cX6_flip 14 = .ok (.ifCond .eq 7, 3) := by decide +kernel
theorem dX6_flip_17 : decode cX6_flip 17 = .ok (.iconst 0, 1) := by decide +kernel
theorem dX6_flip_18 : decode cX6_flip 18 = .ok (.goto 4, 3) := by decide +kernel
theorem dX6_flip_21 : decode cX6_flip 21 = .ok (.iconst 1, 1) := by decide +kernel
theorem dX6_flip_22 : decode cX6_flip 22 = .ok (.putfield 56, 3) := by decide +kernel
theorem dX6_flip_25 : decode cX6_flip 25 = .ok (.aload_n 0, 1) := by decide +kernel
theorem dX6_flip_26 : decode cX6_flip 26 = .ok (.getfield 56, 3) := by decide +kernel
theorem dX6_flip_29 : decode cX6_flip 29 = .ok (.ifCond .ne 26, 3) := by decide +kernel
theorem dX6_flip_32 : decode cX6_flip 32 = .ok (.aload_n 0, 1) := by decide +kernel
theorem dX6_flip_33 : decode cX6_flip 33 = .ok (.aload_n 0, 1) := by decide +kernel
theorem dX6_flip_34 : decode cX6_flip 34 = .ok (.iload_n 1, 1) := by decide +kernel
theorem dX6_flip_35 : decode cX6_flip 35 = .ok (.aload_n 0, 1) := by decide +kernel
theorem dX6_flip_36 : decode cX6_flip 36 = .ok (.iload_n 2, 1) := by decide +kernel
theorem dX6_flip_37 : decode cX6_flip 37 = .ok (.iload_n 3, 1) := by decide +kernel
theorem dX6_flip_38 : decode cX6_flip 38 = .ok (.invokevirtual 70, 3) := by decide +kernel
theorem dX6_flip_41 : decode cX6_flip 41 = .ok (.invokevirtual 150, 3) := by decide +kernel
theorem dX6_flip_44 : decode cX6_flip 44 = .ok (.ifCond .eq 7, 3) := by decide +kernel
theorem dX6_flip_47 : decode cX6_flip 47 = .ok (.iconst 0, 1) := by decide +kernel
theorem dX6_flip_48 : decode cX6_flip 48 = .ok (.goto 4, 3) := by decide +kernel
theorem dX6_flip_51 : decode cX6_flip 51 = .ok (.iconst 2, 1) := by decide +kernel
theorem dX6_flip_52 : decode cX6_flip 52 = .ok (.putfield 56, 3) := by decide +kernel
theorem dX6_flip_55 : decode cX6_flip 55 = .ok (.aload_n 0, 1) := by decide +kernel
theorem dX6_flip_56 : decode cX6_flip 56 = .ok (.getfield 56, 3) := by decide +kernel
theorem dX6_flip_59 : decode cX6_flip 59 = .ok (.ifCond .le 5, 3) := by decide +kernel
theorem dX6_flip_62 : decode cX6_flip 62 = .ok (.iconst 0, 1) := by decide +kernel
theorem dX6_flip_63 : decode cX6_flip 63 = .ok (.ireturn, 1) := by decide +kernel
theorem dX6_flip_64 : decode cX6_flip 64 = .ok (.aload_n 0, 1) := by decide +kernel
theorem dX6_flip_65 : decode cX6_flip 65 = .ok (.invokevirtual 141, 3) := by decide +kernel
theorem dX6_flip_68 : decode cX6_flip 68 = .ok (.aload_n 0, 1) := by decide +kernel
theorem dX6_flip_69 : decode cX6_flip 69 = .ok (.aload_n 0, 1) := by decide +kernel
theorem dX6_flip_70 : decode cX6_flip 70 = .ok (.getfield 7, 3) := by decide +kernel
theorem dX6_flip_73 : decode cX6_flip 73 = .ok (.iconst 1, 1) := by decide +kernel
theorem dX6_flip_74 : decode cX6_flip 74 = .ok (.iload_n 1, 1) := by decide +kernel
theorem dX6_flip_75 : decode cX6_flip 75 = .ok (.iadd, 1) := by decide +kernel
theorem dX6_flip_76 : decode cX6_flip 76 = .ok (.iaload, 1) := by decide +kernel
theorem dX6_flip_77 : decode cX6_flip 77 = .ok (.aload_n 0, 1) := by decide +kernel
theorem dX6_flip_78 : decode cX6_flip 78 = .ok (.iload_n 2, 1) := by decide +kernel
theorem dX6_flip_79 : decode cX6_flip 79 = .ok (.iload_n 3, 1) := by decide +kernel
theorem dX6_flip_80 : decode cX6_flip 80 = .ok (.invokevirtual 70, 3) := by decide +kernel
theorem dX6_flip_83 : decode cX6_flip 83 = .ok (.invokevirtual 85, 3) := by decide +kernel
theorem dX6_flip_86 : decode cX6_flip 86 = .ok (.istore 4, 2) := by decide +kernel
theorem dX6_flip_88 : decode cX6_flip 88 = .ok (.aload_n 0, 1) := by decide +kernel
theorem dX6_flip_89 : decode cX6_flip 89 = .ok (.getfield 7, 3) := by decide +kernel
theorem dX6_flip_92 : decode cX6_flip 92 = .ok (.iconst 1, 1) := by decide +kernel
theorem dX6_flip_93 : decode cX6_flip 93 = .ok (.iload_n 1, 1) := by decide +kernel
theorem dX6_flip_94 : decode cX6_flip 94 = .ok (.iadd, 1) := by decide +kernel
theorem dX6_flip_95 : decode cX6_flip 95 = .ok (.aload_n 0, 1) := by decide +kernel
theorem dX6_flip_96 : decode cX6_flip 96 = .ok (.aload_n 0, 1) := by decide +kernel
theorem dX6_flip_97 : decode cX6_flip 97 = .ok (.getfield 7, 3) := by decide +kernel
theorem dX6_flip_100 : decode cX6_flip 100 = .ok (.iconst 1, 1) := by decide +kernel
theorem dX6_flip_101 : decode cX6_flip 101 = .ok (.iload_n 1, 1) := by decide +kernel
theorem dX6_flip_102 : decode cX6_flip 102 = .ok (.iadd, 1) := by decide +kernel
theorem dX6_flip_103 : decode cX6_flip 103 = .ok (.iaload, 1) := by decide +kernel
theorem dX6_flip_104 : decode cX6_flip 104 = .ok (.aload_n 0, 1) := by decide +kernel
theorem dX6_flip_105 : decode cX6_flip 105 = .ok (.iload_n 2, 1) := by decide +kernel
theorem dX6_flip_106 : decode cX6_flip 106 = .ok (.iload_n 3, 1) := by decide +kernel
theorem dX6_flip_107 : decode cX6_flip 107 = .ok (.invokevirtual 70, 3) := by decide +kernel
theorem dX6_flip_110 : decode cX6_flip 110 = .ok (.invokevirtual 91, 3) := by decide +kernel
theorem dX6_flip_113 : decode cX6_flip 113 = .ok (.iastore, 1) := by decide +kernel
theorem dX6_flip_114 : decode cX6_flip 114 = .ok (.aload_n 0, 1) := by decide +kernel
theorem dX6_flip_115 : decode cX6_flip 115 = .ok (.getfield 7, 3) := by decide +kernel
theorem dX6_flip_118 : decode cX6_flip 118 = .ok (.iconst 4, 1) := by decide +kernel
theorem dX6_flip_119 : decode cX6_flip 119 = .ok (.dup2, 1) := by decide +kernel
theorem dX6_flip_120 : decode cX6_flip 120 = .ok (.iaload, 1) := by decide +kernel
theorem dX6_flip_121 : decode cX6_flip 121 = .ok (.iconst 1, 1) := by decide +kernel
theorem dX6_flip_122 : decode cX6_flip 122 = .ok (.iadd, 1) := by decide +kernel
theorem dX6_flip_123 : decode cX6_flip 123 = .ok (.iastore, 1) := by decide +kernel
theorem dX6_flip_124 : decode cX6_flip 124 = .ok (.iload 4, 2) := by decide +kernel
theorem dX6_flip_126 : decode cX6_flip 126 = .ok (.ireturn, 1) := by decide +kernel
set_option maxRecDepth 100000 in
set_option maxHeartbeats 4000000 in
theorem v_X6_flip {X : zq_X} (C : zq_C X RX6 cX6_flip 5 zq_all rm_X6_flip) {h : zq_H} {t : Nat} {x1 : Int32} {x2 : Int32} {x3 : Int32} (T : zq_T X none) (hn : X.2.2.2.2.2.2.2.2.1.name = yX6_flip.name) {out : (Int32 × zq_H)} (hF : f_X6_flip h t x1 x2 x3 = some out) (hE : zq_End X cX6_flip 0 0 (some (.int out.1)) out.2) : zq_W X 0 0 h 0 [(0, .ref t), (1, .int x1), (2, .int x2), (3, .int x3)] [] := by
  unfold f_X6_flip at hF
  refine zq_aload_n (pc' := 1) C dX6_flip_0 rfl rfl rfl ?_
  refine zq_iload_n (pc' := 2) C dX6_flip_1 rfl rfl rfl ?_
  replace hF := zq_bd hF; obtain ⟨v_1, e_2, hF⟩ := hF
  refine zq_cS (pc' := 5) C (c_X6_isWhich e_2) ys_X6_isWhich wd_565 dX6_flip_2 rfl rfl rfl ⟨Nat.le_of_ble_eq_true rfl, Nat.le_of_ble_eq_true rfl⟩ (Nat.le_of_ble_eq_true rfl) ⟨rfl, rfl⟩ ⟨Nat.le_of_ble_eq_true rfl, Nat.le_of_ble_eq_true rfl⟩ rfl ?_
  refine zq_if_eq (pc' := 8) C 21 dX6_flip_5 (by decide) rfl (fun c_3 => ?_) (fun c_3 => ?_)
  · have hF := (zq_ifp hF (zq_b0.mp c_3))
    skip
    refine zq_iconst (pc' := 22) C 1 dX6_flip_21 rfl (by decide) ?_
    replace hF := zq_bd hF; obtain ⟨h_4, e_5, hF⟩ := hF
    refine zq_putI (j := 7) (pc' := 25) C zq_K6 zq_in6w (Or.inl wd_542) (by decide) rfl rfl dX6_flip_22 rfl (Or.inl rfl) e_5 ?_
    refine zq_aload_n (pc' := 26) C dX6_flip_25 rfl rfl rfl ?_
    have e_7 : zq_gi h_4 t 6 7 = some 1 := zq_gi_pi e_5
    refine zq_getI (j := 7) (pc' := 29) C zq_K6 zq_in6w (Or.inl wd_542) (by decide) rfl dX6_flip_26 rfl e_7 ?_
    refine zq_if_ne (pc' := 32) C 55 dX6_flip_29 (by decide) rfl (fun _ => ?_) (fun c_8 => absurd c_8 (by decide))
    refine zq_aload_n (pc' := 56) C dX6_flip_55 rfl rfl rfl ?_
    have e_10 : zq_gi h_4 t 6 7 = some 1 := zq_gi_pi e_5
    refine zq_getI (j := 7) (pc' := 59) C zq_K6 zq_in6w (Or.inl wd_542) (by decide) rfl dX6_flip_56 rfl e_10 ?_
    refine zq_if_le (pc' := 62) C 64 dX6_flip_59 (by decide) rfl (fun c_11 => absurd c_11 (by decide)) (fun _ => ?_)
    refine zq_iconst (pc' := 63) C 0 dX6_flip_62 rfl (by decide) ?_
    have hF := Option.some.inj hF
    subst hF
    exact hE _ _ _ _ (Nat.le_of_ble_eq_true rfl) (Nat.le_of_ble_eq_true rfl) dX6_flip_63
  · have hF := (zq_ifn hF (fun q => c_3 (zq_b0.mpr q)))
    refine zq_aload_n (pc' := 9) C dX6_flip_8 rfl rfl rfl ?_
    refine zq_iload_n (pc' := 10) C dX6_flip_9 rfl rfl rfl ?_
    refine zq_iload_n (pc' := 11) C dX6_flip_10 rfl rfl rfl ?_
    replace hF := zq_ck_e hF; obtain ⟨e_14, hF⟩ := hF
    replace hF := zq_bd hF; obtain ⟨v_12, e_13, hF⟩ := hF
    refine zq_cV (pc' := 14) C (c_X6_isDiagonal e_13) yv_X6_isDiagonal wd_567 zq_K6 e_14 dX6_flip_11 rfl rfl rfl ⟨Nat.le_of_ble_eq_true rfl, Nat.le_of_ble_eq_true rfl⟩ (Nat.le_of_ble_eq_true rfl) ⟨rfl, rfl⟩ ⟨Nat.le_of_ble_eq_true rfl, Nat.le_of_ble_eq_true rfl⟩ rfl ?_
    refine zq_if_eq (pc' := 17) C 21 dX6_flip_14 (by decide) rfl (fun c_15 => ?_) (fun c_15 => ?_)
    · have hF := (zq_ifp hF (zq_b0.mp c_15))
      skip
      refine zq_iconst (pc' := 22) C 1 dX6_flip_21 rfl (by decide) ?_
      replace hF := zq_bd hF; obtain ⟨h_16, e_17, hF⟩ := hF
      refine zq_putI (j := 7) (pc' := 25) C zq_K6 zq_in6w (Or.inl wd_542) (by decide) rfl rfl dX6_flip_22 rfl (Or.inl rfl) e_17 ?_
      refine zq_aload_n (pc' := 26) C dX6_flip_25 rfl rfl rfl ?_
      have e_19 : zq_gi h_16 t 6 7 = some 1 := zq_gi_pi e_17
      refine zq_getI (j := 7) (pc' := 29) C zq_K6 zq_in6w (Or.inl wd_542) (by decide) rfl dX6_flip_26 rfl e_19 ?_
      refine zq_if_ne (pc' := 32) C 55 dX6_flip_29 (by decide) rfl (fun _ => ?_) (fun c_20 => absurd c_20 (by decide))
      refine zq_aload_n (pc' := 56) C dX6_flip_55 rfl rfl rfl ?_
      have e_22 : zq_gi h_16 t 6 7 = some 1 := zq_gi_pi e_17
      refine zq_getI (j := 7) (pc' := 59) C zq_K6 zq_in6w (Or.inl wd_542) (by decide) rfl dX6_flip_56 rfl e_22 ?_
      refine zq_if_le (pc' := 62) C 64 dX6_flip_59 (by decide) rfl (fun c_23 => absurd c_23 (by decide)) (fun _ => ?_)
      refine zq_iconst (pc' := 63) C 0 dX6_flip_62 rfl (by decide) ?_
      have hF := Option.some.inj hF
      subst hF
      exact hE _ _ _ _ (Nat.le_of_ble_eq_true rfl) (Nat.le_of_ble_eq_true rfl) dX6_flip_63
    · have hF := (zq_ifn hF (fun q => c_15 (zq_b0.mpr q)))
      refine zq_iconst (pc' := 18) C 0 dX6_flip_17 rfl (by decide) ?_
      refine zq_goto C 22 dX6_flip_18 (by decide) ?_
      replace hF := zq_bd hF; obtain ⟨h_24, e_25, hF⟩ := hF
      refine zq_putI (j := 7) (pc' := 25) C zq_K6 zq_in6w (Or.inl wd_542) (by decide) rfl rfl dX6_flip_22 rfl (Or.inl rfl) e_25 ?_
      refine zq_aload_n (pc' := 26) C dX6_flip_25 rfl rfl rfl ?_
      have e_27 : zq_gi h_24 t 6 7 = some 0 := zq_gi_pi e_25
      refine zq_getI (j := 7) (pc' := 29) C zq_K6 zq_in6w (Or.inl wd_542) (by decide) rfl dX6_flip_26 rfl e_27 ?_
      refine zq_if_ne (pc' := 32) C 55 dX6_flip_29 (by decide) rfl (fun c_28 => absurd c_28 (by decide)) (fun _ => ?_)
      refine zq_aload_n (pc' := 33) C dX6_flip_32 rfl rfl rfl ?_
      refine zq_aload_n (pc' := 34) C dX6_flip_33 rfl rfl rfl ?_
      refine zq_iload_n (pc' := 35) C dX6_flip_34 rfl rfl rfl ?_
      refine zq_aload_n (pc' := 36) C dX6_flip_35 rfl rfl rfl ?_
      refine zq_iload_n (pc' := 37) C dX6_flip_36 rfl rfl rfl ?_
      refine zq_iload_n (pc' := 38) C dX6_flip_37 rfl rfl rfl ?_
      replace hF := zq_ck_e hF; obtain ⟨e_31, hF⟩ := hF
      replace hF := zq_bd hF; obtain ⟨v_29, e_30, hF⟩ := hF
      refine zq_cV (pc' := 41) C (c_X6_numberOf e_30) yv_X6_numberOf wd_455 zq_K6 e_31 dX6_flip_38 rfl rfl rfl ⟨Nat.le_of_ble_eq_true rfl, Nat.le_of_ble_eq_true rfl⟩ (Nat.le_of_ble_eq_true rfl) ⟨rfl, rfl⟩ ⟨Nat.le_of_ble_eq_true rfl, Nat.le_of_ble_eq_true rfl⟩ rfl ?_
      replace hF := zq_ck_e hF; obtain ⟨e_34, hF⟩ := hF
      replace hF := zq_bd hF; obtain ⟨v_32, e_33, hF⟩ := hF
      refine zq_cV (pc' := 44) C (c_X6_canFlip e_33) yv_X6_canFlip wd_570 zq_K6 e_34 dX6_flip_41 rfl rfl rfl ⟨Nat.le_of_ble_eq_true rfl, Nat.le_of_ble_eq_true rfl⟩ (Nat.le_of_ble_eq_true rfl) ⟨rfl, rfl⟩ ⟨Nat.le_of_ble_eq_true rfl, Nat.le_of_ble_eq_true rfl⟩ rfl ?_
      refine zq_if_eq (pc' := 47) C 51 dX6_flip_44 (by decide) rfl (fun c_35 => ?_) (fun c_35 => ?_)
      · have hF := (zq_ifp hF (zq_b0.mp c_35))
        skip
        refine zq_iconst (pc' := 52) C 2 dX6_flip_51 rfl (by decide) ?_
        replace hF := zq_bd hF; obtain ⟨h_36, e_37, hF⟩ := hF
        refine zq_putI (j := 7) (pc' := 55) C zq_K6 zq_in6w (Or.inl wd_542) (by decide) rfl rfl dX6_flip_52 rfl (Or.inl rfl) e_37 ?_
        refine zq_aload_n (pc' := 56) C dX6_flip_55 rfl rfl rfl ?_
        have e_39 : zq_gi h_36 t 6 7 = some 2 := zq_gi_pi e_37
        refine zq_getI (j := 7) (pc' := 59) C zq_K6 zq_in6w (Or.inl wd_542) (by decide) rfl dX6_flip_56 rfl e_39 ?_
        refine zq_if_le (pc' := 62) C 64 dX6_flip_59 (by decide) rfl (fun c_40 => absurd c_40 (by decide)) (fun _ => ?_)
        refine zq_iconst (pc' := 63) C 0 dX6_flip_62 rfl (by decide) ?_
        have hF := Option.some.inj hF
        subst hF
        exact hE _ _ _ _ (Nat.le_of_ble_eq_true rfl) (Nat.le_of_ble_eq_true rfl) dX6_flip_63
      · have hF := (zq_ifn hF (fun q => c_35 (zq_b0.mpr q)))
        refine zq_iconst (pc' := 48) C 0 dX6_flip_47 rfl (by decide) ?_
        refine zq_goto C 52 dX6_flip_48 (by decide) ?_
        replace hF := zq_bd hF; obtain ⟨h_41, e_42, hF⟩ := hF
        refine zq_putI (j := 7) (pc' := 55) C zq_K6 zq_in6w (Or.inl wd_542) (by decide) rfl rfl dX6_flip_52 rfl (Or.inl rfl) e_42 ?_
        refine zq_aload_n (pc' := 56) C dX6_flip_55 rfl rfl rfl ?_
        have e_44 : zq_gi h_41 t 6 7 = some 0 := zq_gi_pi e_42
        refine zq_getI (j := 7) (pc' := 59) C zq_K6 zq_in6w (Or.inl wd_542) (by decide) rfl dX6_flip_56 rfl e_44 ?_
        refine zq_if_le (pc' := 62) C 64 dX6_flip_59 (by decide) rfl (fun _ => ?_) (fun c_45 => absurd c_45 (by decide))
        refine zq_aload_n (pc' := 65) C dX6_flip_64 rfl rfl rfl ?_
        replace hF := zq_ck_e hF; obtain ⟨e_48, hF⟩ := hF
        replace hF := zq_bd hF; obtain ⟨v_46, e_47, hF⟩ := hF
        refine zq_cV (pc' := 68) C (c_X6_save e_47) yv_X6_save wd_559 zq_K6 e_48 dX6_flip_65 rfl rfl rfl ⟨Nat.le_of_ble_eq_true rfl, Nat.le_of_ble_eq_true rfl⟩ (Nat.le_of_ble_eq_true rfl) ⟨rfl, rfl⟩ ⟨Nat.le_of_ble_eq_true rfl, Nat.le_of_ble_eq_true rfl⟩ rfl ?_
        refine zq_aload_n (pc' := 69) C dX6_flip_68 rfl rfl rfl ?_
        refine zq_aload_n (pc' := 70) C dX6_flip_69 rfl rfl rfl ?_
        replace hF := zq_bd hF; obtain ⟨v_49, e_50, hF⟩ := hF
        refine zq_getR (j := 0) (pc' := 73) C zq_K6 zq_in6w (Or.inl wd_448) (by decide) rfl dX6_flip_70 rfl e_50 ?_
        refine zq_iconst (pc' := 74) C 1 dX6_flip_73 rfl (by decide) ?_
        refine zq_iload_n (pc' := 75) C dX6_flip_74 rfl rfl rfl ?_
        refine zq_iadd (pc' := 76) C dX6_flip_75 rfl ?_
        replace hF := zq_bd hF; obtain ⟨v_51, e_52, hF⟩ := hF
        refine zq_iaload (pc' := 77) C dX6_flip_76 rfl e_52 ?_
        refine zq_aload_n (pc' := 78) C dX6_flip_77 rfl rfl rfl ?_
        refine zq_iload_n (pc' := 79) C dX6_flip_78 rfl rfl rfl ?_
        refine zq_iload_n (pc' := 80) C dX6_flip_79 rfl rfl rfl ?_
        replace hF := zq_ck_e hF; obtain ⟨e_55, hF⟩ := hF
        replace hF := zq_bd hF; obtain ⟨v_53, e_54, hF⟩ := hF
        refine zq_cV (pc' := 83) C (c_X6_numberOf e_54) yv_X6_numberOf wd_455 zq_K6 e_55 dX6_flip_80 rfl rfl rfl ⟨Nat.le_of_ble_eq_true rfl, Nat.le_of_ble_eq_true rfl⟩ (Nat.le_of_ble_eq_true rfl) ⟨rfl, rfl⟩ ⟨Nat.le_of_ble_eq_true rfl, Nat.le_of_ble_eq_true rfl⟩ rfl ?_
        replace hF := zq_ck_e hF; obtain ⟨e_58, hF⟩ := hF
        replace hF := zq_bd hF; obtain ⟨v_56, e_57, hF⟩ := hF
        refine zq_cV (pc' := 86) C (c_X6_flipped e_57) yv_X6_flipped wd_470 zq_K6 e_58 dX6_flip_83 rfl rfl rfl ⟨Nat.le_of_ble_eq_true rfl, Nat.le_of_ble_eq_true rfl⟩ (Nat.le_of_ble_eq_true rfl) ⟨rfl, rfl⟩ ⟨Nat.le_of_ble_eq_true rfl, Nat.le_of_ble_eq_true rfl⟩ rfl ?_
        refine zq_istore (lv' := [(4, .int v_56), (0, .ref t), (1, .int x1), (2, .int x2), (3, .int x3)]) (pc' := 88) C dX6_flip_86 rfl (by decide) rfl rfl ?_
        refine zq_aload_n (pc' := 89) C dX6_flip_88 rfl rfl rfl ?_
        replace hF := zq_bd hF; obtain ⟨v_59, e_60, hF⟩ := hF
        refine zq_getR (j := 0) (pc' := 92) C zq_K6 zq_in6w (Or.inl wd_448) (by decide) rfl dX6_flip_89 rfl e_60 ?_
        refine zq_iconst (pc' := 93) C 1 dX6_flip_92 rfl (by decide) ?_
        refine zq_iload_n (pc' := 94) C dX6_flip_93 rfl rfl rfl ?_
        refine zq_iadd (pc' := 95) C dX6_flip_94 rfl ?_
        refine zq_aload_n (pc' := 96) C dX6_flip_95 rfl rfl rfl ?_
        refine zq_aload_n (pc' := 97) C dX6_flip_96 rfl rfl rfl ?_
        replace hF := zq_bd hF; obtain ⟨v_61, e_62, hF⟩ := hF
        refine zq_getR (j := 0) (pc' := 100) C zq_K6 zq_in6w (Or.inl wd_448) (by decide) rfl dX6_flip_97 rfl e_62 ?_
        refine zq_iconst (pc' := 101) C 1 dX6_flip_100 rfl (by decide) ?_
        refine zq_iload_n (pc' := 102) C dX6_flip_101 rfl rfl rfl ?_
        refine zq_iadd (pc' := 103) C dX6_flip_102 rfl ?_
        replace hF := zq_bd hF; obtain ⟨v_63, e_64, hF⟩ := hF
        refine zq_iaload (pc' := 104) C dX6_flip_103 rfl e_64 ?_
        refine zq_aload_n (pc' := 105) C dX6_flip_104 rfl rfl rfl ?_
        refine zq_iload_n (pc' := 106) C dX6_flip_105 rfl rfl rfl ?_
        refine zq_iload_n (pc' := 107) C dX6_flip_106 rfl rfl rfl ?_
        replace hF := zq_ck_e hF; obtain ⟨e_67, hF⟩ := hF
        replace hF := zq_bd hF; obtain ⟨v_65, e_66, hF⟩ := hF
        refine zq_cV (pc' := 110) C (c_X6_numberOf e_66) yv_X6_numberOf wd_455 zq_K6 e_67 dX6_flip_107 rfl rfl rfl ⟨Nat.le_of_ble_eq_true rfl, Nat.le_of_ble_eq_true rfl⟩ (Nat.le_of_ble_eq_true rfl) ⟨rfl, rfl⟩ ⟨Nat.le_of_ble_eq_true rfl, Nat.le_of_ble_eq_true rfl⟩ rfl ?_
        replace hF := zq_ck_e hF; obtain ⟨e_70, hF⟩ := hF
        replace hF := zq_bd hF; obtain ⟨v_68, e_69, hF⟩ := hF
        refine zq_cV (pc' := 113) C (c_X6_behindFlip e_69) yv_X6_behindFlip wd_479 zq_K6 e_70 dX6_flip_110 rfl rfl rfl ⟨Nat.le_of_ble_eq_true rfl, Nat.le_of_ble_eq_true rfl⟩ (Nat.le_of_ble_eq_true rfl) ⟨rfl, rfl⟩ ⟨Nat.le_of_ble_eq_true rfl, Nat.le_of_ble_eq_true rfl⟩ rfl ?_
        replace hF := zq_bd hF; obtain ⟨h_71, e_72, hF⟩ := hF
        refine zq_iastore (pc' := 114) C dX6_flip_113 rfl e_72 ?_
        refine zq_aload_n (pc' := 115) C dX6_flip_114 rfl rfl rfl ?_
        replace hF := zq_bd hF; obtain ⟨v_73, e_74, hF⟩ := hF
        refine zq_getR (j := 0) (pc' := 118) C zq_K6 zq_in6w (Or.inl wd_448) (by decide) rfl dX6_flip_115 rfl e_74 ?_
        refine zq_iconst (pc' := 119) C 4 dX6_flip_118 rfl (by decide) ?_
        refine zq_dup2 (pc' := 120) C dX6_flip_119 rfl rfl rfl ?_
        replace hF := zq_bd hF; obtain ⟨v_75, e_76, hF⟩ := hF
        refine zq_iaload (pc' := 121) C dX6_flip_120 rfl e_76 ?_
        refine zq_iconst (pc' := 122) C 1 dX6_flip_121 rfl (by decide) ?_
        refine zq_iadd (pc' := 123) C dX6_flip_122 rfl ?_
        replace hF := zq_bd hF; obtain ⟨h_77, e_78, hF⟩ := hF
        refine zq_iastore (pc' := 124) C dX6_flip_123 rfl e_78 ?_
        refine zq_iload (pc' := 126) C dX6_flip_124 rfl rfl ?_
        have hF := Option.some.inj hF
        subst hF
        exact hE _ _ _ _ (Nat.le_of_ble_eq_true rfl) (Nat.le_of_ble_eq_true rfl) dX6_flip_126
theorem c_X6_flip {h : zq_H} {t : Nat} {x1 : Int32} {x2 : Int32} {x3 : Int32} {out : (Int32 × zq_H)} (hF : f_X6_flip h t x1 x2 x3 = some out) : zq_M none yX6_flip (Cond.code yX6_flip cX6_flip 5 (some .int) :: zq_all) rm_X6_flip [.ref t, .int x1, .int x2, .int x3] h (some (.int out.1)) out.2 := zq_met2 (own := RX6) (by decide +kernel) rfl (Nat.le_of_ble_eq_true rfl) rfl ⟨.int, rfl, rfl⟩ (fun X C T hn hE => v_X6_flip C T hn hF hE)
theorem yv_X6_flip : zq_calV yX6_flip RX6 cX6_flip 5 (some .int) 3 := ⟨by decide +kernel, wd_573, wd_799, wd_800, wd_458⟩
def f_X6_lay (h : zq_H) (t : Nat) (x1 : Int32) (x2 : Int32) : Option zq_H := (Option.bind (zq_gr h t 6 0) fun v_1 => (Option.bind (zq_si h v_1 (1 + x1) x2) fun h_3 => (Option.bind (zq_gr h_3 t 6 0) fun v_5 => (if x1 = 0 then (Option.bind (zq_si h_3 v_5 3 0) fun h_14 => some (h_14)) else (Option.bind (zq_gr h_3 t 6 0) fun v_8 => (Option.bind (zq_ai h_3 v_8 3) fun v_10 => (Option.bind (zq_si h_3 v_5 3 v_10) fun h_12 => some (h_12))))))))
abbrev rm_X6_lay : Room := { frames := 0, cells := 0, slots := 0, locals := 0 }
theorem dX6_lay_0 : decode cX6_lay 0 = .ok (.aload_n 0, 1) := by decide +kernel
theorem dX6_lay_1 : decode cX6_lay 1 = .ok (.getfield 7, 3) := by decide +kernel
theorem dX6_lay_4 : decode cX6_lay 4 = .ok (.iconst 1, 1) := by decide +kernel
theorem dX6_lay_5 : decode cX6_lay 5 = .ok (.iload_n 1, 1) := by decide +kernel
theorem dX6_lay_6 : decode cX6_lay 6 = .ok (.iadd, 1) := by decide +kernel
theorem dX6_lay_7 : decode cX6_lay 7 = .ok (.iload_n 2, 1) := by decide +kernel
theorem dX6_lay_8 : decode cX6_lay 8 = .ok (.iastore, 1) := by decide +kernel
theorem dX6_lay_9 : decode cX6_lay 9 = .ok (.aload_n 0, 1) := by decide +kernel
theorem dX6_lay_10 : decode cX6_lay 10 = .ok (.getfield 7, 3) := by decide +kernel
theorem dX6_lay_13 : decode cX6_lay 13 = .ok (.iconst 3, 1) := by decide +kernel
theorem dX6_lay_14 : decode cX6_lay 14 = .ok (.iload_n 1, 1) := by decide +kernel
theorem dX6_lay_15 : decode cX6_lay 15 = .ok (.ifCond .ne 7, 3) := by decide +kernel
theorem dX6_lay_18 : decode cX6_lay 18 = .ok (.iconst 0, 1) := by decide +kernel
theorem dX6_lay_19 : decode cX6_lay 19 = .ok (.goto 9, 3) := by decide +kernel
theorem dX6_lay_22 : decode cX6_lay 22 = .ok (.aload_n 0, 1) := by decide +kernel
theorem dX6_lay_23 : decode cX6_lay 23 = .ok (.getfield 7, 3) := by decide +kernel
theorem dX6_lay_26 : decode cX6_lay 26 = .ok (.iconst 3, 1) := by decide +kernel
theorem dX6_lay_27 : decode cX6_lay 27 = .ok (.iaload, 1) := by decide +kernel
theorem dX6_lay_28 : decode cX6_lay 28 = .ok (.iastore, 1) := by decide +kernel
theorem dX6_lay_29 : decode cX6_lay 29 = .ok (.return_, 1) := by decide +kernel
set_option maxRecDepth 100000 in
set_option maxHeartbeats 4000000 in
theorem v_X6_lay {X : zq_X} (C : zq_C X RX6 cX6_lay 3 zq_all rm_X6_lay) {h : zq_H} {t : Nat} {x1 : Int32} {x2 : Int32} (T : zq_T X none) (hn : X.2.2.2.2.2.2.2.2.1.name = yX6_lay.name) {out : zq_H} (hF : f_X6_lay h t x1 x2 = some out) (hE : zq_End X cX6_lay 0 0 none out) : zq_W X 0 0 h 0 [(0, .ref t), (1, .int x1), (2, .int x2)] [] := by
  unfold f_X6_lay at hF
  refine zq_aload_n (pc' := 1) C dX6_lay_0 rfl rfl rfl ?_
  replace hF := zq_bd hF; obtain ⟨v_1, e_2, hF⟩ := hF
  refine zq_getR (j := 0) (pc' := 4) C zq_K6 zq_in6w (Or.inl wd_448) (by decide) rfl dX6_lay_1 rfl e_2 ?_
  refine zq_iconst (pc' := 5) C 1 dX6_lay_4 rfl (by decide) ?_
  refine zq_iload_n (pc' := 6) C dX6_lay_5 rfl rfl rfl ?_
  refine zq_iadd (pc' := 7) C dX6_lay_6 rfl ?_
  refine zq_iload_n (pc' := 8) C dX6_lay_7 rfl rfl rfl ?_
  replace hF := zq_bd hF; obtain ⟨h_3, e_4, hF⟩ := hF
  refine zq_iastore (pc' := 9) C dX6_lay_8 rfl e_4 ?_
  refine zq_aload_n (pc' := 10) C dX6_lay_9 rfl rfl rfl ?_
  replace hF := zq_bd hF; obtain ⟨v_5, e_6, hF⟩ := hF
  refine zq_getR (j := 0) (pc' := 13) C zq_K6 zq_in6w (Or.inl wd_448) (by decide) rfl dX6_lay_10 rfl e_6 ?_
  refine zq_iconst (pc' := 14) C 3 dX6_lay_13 rfl (by decide) ?_
  refine zq_iload_n (pc' := 15) C dX6_lay_14 rfl rfl rfl ?_
  refine zq_if_ne (pc' := 18) C 22 dX6_lay_15 (by decide) rfl (fun c_7 => ?_) (fun c_7 => ?_)
  · have hF := (zq_ifn hF c_7)
    skip
    refine zq_aload_n (pc' := 23) C dX6_lay_22 rfl rfl rfl ?_
    replace hF := zq_bd hF; obtain ⟨v_8, e_9, hF⟩ := hF
    refine zq_getR (j := 0) (pc' := 26) C zq_K6 zq_in6w (Or.inl wd_448) (by decide) rfl dX6_lay_23 rfl e_9 ?_
    refine zq_iconst (pc' := 27) C 3 dX6_lay_26 rfl (by decide) ?_
    replace hF := zq_bd hF; obtain ⟨v_10, e_11, hF⟩ := hF
    refine zq_iaload (pc' := 28) C dX6_lay_27 rfl e_11 ?_
    replace hF := zq_bd hF; obtain ⟨h_12, e_13, hF⟩ := hF
    refine zq_iastore (pc' := 29) C dX6_lay_28 rfl e_13 ?_
    have hF := Option.some.inj hF
    subst hF
    exact hE _ _ _ _ (Nat.le_of_ble_eq_true rfl) (Nat.le_of_ble_eq_true rfl) dX6_lay_29
  · have hF := (zq_ifp hF c_7)
    refine zq_iconst (pc' := 19) C 0 dX6_lay_18 rfl (by decide) ?_
    refine zq_goto C 28 dX6_lay_19 (by decide) ?_
    replace hF := zq_bd hF; obtain ⟨h_14, e_15, hF⟩ := hF
    refine zq_iastore (pc' := 29) C dX6_lay_28 rfl e_15 ?_
    have hF := Option.some.inj hF
    subst hF
    exact hE _ _ _ _ (Nat.le_of_ble_eq_true rfl) (Nat.le_of_ble_eq_true rfl) dX6_lay_29
theorem c_X6_lay {h : zq_H} {t : Nat} {x1 : Int32} {x2 : Int32} {out : zq_H} (hF : f_X6_lay h t x1 x2 = some out) : zq_M none yX6_lay (Cond.code yX6_lay cX6_lay 3 none :: zq_all) rm_X6_lay [.ref t, .int x1, .int x2] h none out := zq_met2 (own := RX6) (by decide +kernel) rfl (Nat.le_of_ble_eq_true rfl) rfl rfl (fun X C T hn hE => v_X6_lay C T hn hF hE)
theorem yv_X6_lay : zq_calV yX6_lay RX6 cX6_lay 3 none 2 := ⟨by decide +kernel, wd_574, wd_582, wd_583, wd_458⟩
def f_X6_isCorner (h : zq_H) (t : Nat) (x1 : Int32) : Option Bool := (Option.bind (zq_gr h t 6 0) fun v_1 => (Option.bind (zq_ai h v_1 0) fun v_3 => (Option.bind (f_X6_within h x1 0 (v_3 - 1)) fun v_5 => some (v_5))))
abbrev rm_X6_isCorner : Room := { frames := 1, cells := 0, slots := 0, locals := 22 }
theorem dX6_isCorner_0 : decode cX6_isCorner 0 = .ok (.iload_n 1, 1) := by decide +kernel
theorem dX6_isCorner_1 : decode cX6_isCorner 1 = .ok (.iconst 0, 1) := by decide +kernel
theorem dX6_isCorner_2 : decode cX6_isCorner 2 = .ok (.aload_n 0, 1) := by decide +kernel
theorem dX6_isCorner_3 : decode cX6_isCorner 3 = .ok (.getfield 7, 3) := by decide +kernel
theorem dX6_isCorner_6 : decode cX6_isCorner 6 = .ok (.iconst 0, 1) := by decide +kernel
theorem dX6_isCorner_7 : decode cX6_isCorner 7 = .ok (.iaload, 1) := by decide +kernel
theorem dX6_isCorner_8 : decode cX6_isCorner 8 = .ok (.iconst 1, 1) := by decide +kernel
theorem dX6_isCorner_9 : decode cX6_isCorner 9 = .ok (.isub, 1) := by decide +kernel
theorem dX6_isCorner_10 : decode cX6_isCorner 10 = .ok (.invokestatic 66, 3) := by decide +kernel
theorem dX6_isCorner_13 : decode cX6_isCorner 13 = .ok (.ireturn, 1) := by decide +kernel
set_option maxRecDepth 100000 in
set_option maxHeartbeats 4000000 in
theorem v_X6_isCorner {X : zq_X} (C : zq_C X RX6 cX6_isCorner 2 zq_all rm_X6_isCorner) {h : zq_H} {t : Nat} {x1 : Int32} (T : zq_T X none) (hn : X.2.2.2.2.2.2.2.2.1.name = yX6_isCorner.name) {out : Bool} (hF : f_X6_isCorner h t x1 = some out) (hE : zq_End X cX6_isCorner 0 0 (some (.int (zq_b out))) h) : zq_W X 0 0 h 0 [(0, .ref t), (1, .int x1)] [] := by
  unfold f_X6_isCorner at hF
  refine zq_iload_n (pc' := 1) C dX6_isCorner_0 rfl rfl rfl ?_
  refine zq_iconst (pc' := 2) C 0 dX6_isCorner_1 rfl (by decide) ?_
  refine zq_aload_n (pc' := 3) C dX6_isCorner_2 rfl rfl rfl ?_
  replace hF := zq_bd hF; obtain ⟨v_1, e_2, hF⟩ := hF
  refine zq_getR (j := 0) (pc' := 6) C zq_K6 zq_in6w (Or.inl wd_448) (by decide) rfl dX6_isCorner_3 rfl e_2 ?_
  refine zq_iconst (pc' := 7) C 0 dX6_isCorner_6 rfl (by decide) ?_
  replace hF := zq_bd hF; obtain ⟨v_3, e_4, hF⟩ := hF
  refine zq_iaload (pc' := 8) C dX6_isCorner_7 rfl e_4 ?_
  refine zq_iconst (pc' := 9) C 1 dX6_isCorner_8 rfl (by decide) ?_
  refine zq_isub (pc' := 10) C dX6_isCorner_9 rfl ?_
  replace hF := zq_bd hF; obtain ⟨v_5, e_6, hF⟩ := hF
  refine zq_cS (pc' := 13) C (c_X6_within e_6) ys_X6_within wd_548 dX6_isCorner_10 rfl rfl rfl ⟨Nat.le_of_ble_eq_true rfl, Nat.le_of_ble_eq_true rfl⟩ (Nat.le_of_ble_eq_true rfl) ⟨rfl, rfl⟩ ⟨Nat.le_of_ble_eq_true rfl, Nat.le_of_ble_eq_true rfl⟩ rfl ?_
  have hF := Option.some.inj hF
  subst hF
  exact hE _ _ _ _ (Nat.le_of_ble_eq_true rfl) (Nat.le_of_ble_eq_true rfl) dX6_isCorner_13
theorem c_X6_isCorner {h : zq_H} {t : Nat} {x1 : Int32} {out : Bool} (hF : f_X6_isCorner h t x1 = some out) : zq_M none yX6_isCorner (Cond.code yX6_isCorner cX6_isCorner 2 (some .boolean) :: zq_all) rm_X6_isCorner [.ref t, .int x1] h (some (.int (zq_b out))) h := zq_met2 (own := RX6) (by decide +kernel) rfl (Nat.le_of_ble_eq_true rfl) rfl ⟨.boolean, rfl, by cases out <;> rfl⟩ (fun X C T hn hE => v_X6_isCorner C T hn hF hE)
theorem yv_X6_isCorner : zq_calV yX6_isCorner RX6 cX6_isCorner 2 (some .boolean) 1 := ⟨by decide +kernel, wd_575, wd_577, wd_578, wd_458⟩
def f_X6_fan (h : zq_H) (t : Nat) (x1 : Int32) (x2 : Int32) : Option (Int32 × zq_H) := (Option.bind (f_X6_isWhich h x1) fun v_1 => (if v_1 = false then (Option.bind (zq_pi h t 6 7 1) fun h_4 => some ((0, h_4))) else (zq_ck h t 6 fun _ => (Option.bind (f_X6_isCorner h t x2) fun v_9 => (if v_9 = false then (Option.bind (zq_pi h t 6 7 1) fun h_13 => some ((0, h_13))) else (Option.bind (zq_pi h t 6 7 0) fun h_18 => (zq_ck h_18 t 6 fun _ => (Option.bind (f_X6_save h_18 t) fun v_23 => (Option.bind (zq_gr v_23 t 6 0) fun v_26 => (Option.bind (zq_ai v_23 v_26 (1 + x1)) fun v_28 => (zq_ck v_23 t 6 fun _ => (Option.bind (f_X6_fanOf v_23 t x2) fun v_30 => (Option.bind (f_X6_ones v_23 (v_28 &&& v_30)) fun v_33 => (zq_ck v_23 t 6 fun _ => (Option.bind (f_X6_fanOf v_23 t x2) fun v_35 => (zq_ck v_23 t 6 fun _ => (Option.bind (f_X6_lay v_23 t x1 v_35) fun v_38 => some ((v_33, v_38)))))))))))))))))))
abbrev rm_X6_fan : Room := { frames := 2, cells := 0, slots := 0, locals := 43 }
theorem dX6_fan_0 : decode cX6_fan 0 = .ok (.aload_n 0, 1) := by decide +kernel
theorem dX6_fan_1 : decode cX6_fan 1 = .ok (.iload_n 1, 1) := by decide +kernel
theorem dX6_fan_2 : decode cX6_fan 2 = .ok (.invokestatic 144, 3) := by decide +kernel
theorem dX6_fan_5 : decode cX6_fan 5 = .ok (.ifCond .eq 15, 3) := by decide +kernel
theorem dX6_fan_8 : decode cX6_fan 8 = .ok (.aload_n 0, 1) := by decide +kernel
theorem dX6_fan_9 : decode cX6_fan 9 = .ok (.iload_n 2, 1) := by decide +kernel
theorem dX6_fan_10 : decode cX6_fan 10 = .ok (.invokevirtual 153, 3) := by decide +kernel
theorem dX6_fan_13 : decode cX6_fan 13 = .ok (.ifCond .eq 7, 3) := by decide +kernel
theorem dX6_fan_16 : decode cX6_fan 16 = .ok (.iconst 0, 1) := by decide +kernel
theorem dX6_fan_17 : decode cX6_fan 17 = .ok (.goto 4, 3) := by decide +kernel
theorem dX6_fan_20 : decode cX6_fan 20 = .ok (.iconst 1, 1) := by decide +kernel
theorem dX6_fan_21 : decode cX6_fan 21 = .ok (.putfield 56, 3) := by decide +kernel
theorem dX6_fan_24 : decode cX6_fan 24 = .ok (.aload_n 0, 1) := by decide +kernel
theorem dX6_fan_25 : decode cX6_fan 25 = .ok (.getfield 56, 3) := by decide +kernel
theorem dX6_fan_28 : decode cX6_fan 28 = .ok (.ifCond .le 5, 3) := by decide +kernel
theorem dX6_fan_31 : decode cX6_fan 31 = .ok (.iconst 0, 1) := by decide +kernel
theorem dX6_fan_32 : decode cX6_fan 32 = .ok (.ireturn, 1) := by decide +kernel
theorem dX6_fan_33 : decode cX6_fan 33 = .ok (.aload_n 0, 1) := by decide +kernel
theorem dX6_fan_34 : decode cX6_fan 34 = .ok (.invokevirtual 141, 3) := by decide +kernel
theorem dX6_fan_37 : decode cX6_fan 37 = .ok (.aload_n 0, 1) := by decide +kernel
theorem dX6_fan_38 : decode cX6_fan 38 = .ok (.getfield 7, 3) := by decide +kernel
theorem dX6_fan_41 : decode cX6_fan 41 = .ok (.iconst 1, 1) := by decide +kernel
theorem dX6_fan_42 : decode cX6_fan 42 = .ok (.iload_n 1, 1) := by decide +kernel
theorem dX6_fan_43 : decode cX6_fan 43 = .ok (.iadd, 1) := by decide +kernel
theorem dX6_fan_44 : decode cX6_fan 44 = .ok (.iaload, 1) := by decide +kernel
theorem dX6_fan_45 : decode cX6_fan 45 = .ok (.aload_n 0, 1) := by decide +kernel
theorem dX6_fan_46 : decode cX6_fan 46 = .ok (.iload_n 2, 1) := by decide +kernel
theorem dX6_fan_47 : decode cX6_fan 47 = .ok (.invokevirtual 52, 3) := by decide +kernel
theorem dX6_fan_50 : decode cX6_fan 50 = .ok (.iand, 1) := by decide +kernel
theorem dX6_fan_51 : decode cX6_fan 51 = .ok (.invokestatic 156, 3) := by decide +kernel
theorem dX6_fan_54 : decode cX6_fan 54 = .ok (.istore_n 3, 1) := by decide +kernel
theorem dX6_fan_55 : decode cX6_fan 55 = .ok (.aload_n 0, 1) := by decide +kernel
theorem dX6_fan_56 : decode cX6_fan 56 = .ok (.iload_n 1, 1) := by decide +kernel
theorem dX6_fan_57 : decode cX6_fan 57 = .ok (.aload_n 0, 1) := by decide +kernel
theorem dX6_fan_58 : decode cX6_fan 58 = .ok (.iload_n 2, 1) := by decide +kernel
theorem dX6_fan_59 : decode cX6_fan 59 = .ok (.invokevirtual 52, 3) := by decide +kernel
theorem dX6_fan_62 : decode cX6_fan 62 = .ok (.invokevirtual 159, 3) := by decide +kernel
theorem dX6_fan_65 : decode cX6_fan 65 = .ok (.iload_n 3, 1) := by decide +kernel
theorem dX6_fan_66 : decode cX6_fan 66 = .ok (.ireturn, 1) := by decide +kernel
set_option maxRecDepth 100000 in
set_option maxHeartbeats 4000000 in
theorem v_X6_fan {X : zq_X} (C : zq_C X RX6 cX6_fan 4 zq_all rm_X6_fan) {h : zq_H} {t : Nat} {x1 : Int32} {x2 : Int32} (T : zq_T X none) (hn : X.2.2.2.2.2.2.2.2.1.name = yX6_fan.name) {out : (Int32 × zq_H)} (hF : f_X6_fan h t x1 x2 = some out) (hE : zq_End X cX6_fan 0 0 (some (.int out.1)) out.2) : zq_W X 0 0 h 0 [(0, .ref t), (1, .int x1), (2, .int x2)] [] := by
  unfold f_X6_fan at hF
  refine zq_aload_n (pc' := 1) C dX6_fan_0 rfl rfl rfl ?_
  refine zq_iload_n (pc' := 2) C dX6_fan_1 rfl rfl rfl ?_
  replace hF := zq_bd hF; obtain ⟨v_1, e_2, hF⟩ := hF
  refine zq_cS (pc' := 5) C (c_X6_isWhich e_2) ys_X6_isWhich wd_565 dX6_fan_2 rfl rfl rfl ⟨Nat.le_of_ble_eq_true rfl, Nat.le_of_ble_eq_true rfl⟩ (Nat.le_of_ble_eq_true rfl) ⟨rfl, rfl⟩ ⟨Nat.le_of_ble_eq_true rfl, Nat.le_of_ble_eq_true rfl⟩ rfl ?_
  refine zq_if_eq (pc' := 8) C 20 dX6_fan_5 (by decide) rfl (fun c_3 => ?_) (fun c_3 => ?_)
  · have hF := (zq_ifp hF (zq_b0.mp c_3))
    skip
    refine zq_iconst (pc' := 21) C 1 dX6_fan_20 rfl (by decide) ?_
    replace hF := zq_bd hF; obtain ⟨h_4, e_5, hF⟩ := hF
    refine zq_putI (j := 7) (pc' := 24) C zq_K6 zq_in6w (Or.inl wd_542) (by decide) rfl rfl dX6_fan_21 rfl (Or.inl rfl) e_5 ?_
    refine zq_aload_n (pc' := 25) C dX6_fan_24 rfl rfl rfl ?_
    have e_7 : zq_gi h_4 t 6 7 = some 1 := zq_gi_pi e_5
    refine zq_getI (j := 7) (pc' := 28) C zq_K6 zq_in6w (Or.inl wd_542) (by decide) rfl dX6_fan_25 rfl e_7 ?_
    refine zq_if_le (pc' := 31) C 33 dX6_fan_28 (by decide) rfl (fun c_8 => absurd c_8 (by decide)) (fun _ => ?_)
    refine zq_iconst (pc' := 32) C 0 dX6_fan_31 rfl (by decide) ?_
    have hF := Option.some.inj hF
    subst hF
    exact hE _ _ _ _ (Nat.le_of_ble_eq_true rfl) (Nat.le_of_ble_eq_true rfl) dX6_fan_32
  · have hF := (zq_ifn hF (fun q => c_3 (zq_b0.mpr q)))
    refine zq_aload_n (pc' := 9) C dX6_fan_8 rfl rfl rfl ?_
    refine zq_iload_n (pc' := 10) C dX6_fan_9 rfl rfl rfl ?_
    replace hF := zq_ck_e hF; obtain ⟨e_11, hF⟩ := hF
    replace hF := zq_bd hF; obtain ⟨v_9, e_10, hF⟩ := hF
    refine zq_cV (pc' := 13) C (c_X6_isCorner e_10) yv_X6_isCorner wd_576 zq_K6 e_11 dX6_fan_10 rfl rfl rfl ⟨Nat.le_of_ble_eq_true rfl, Nat.le_of_ble_eq_true rfl⟩ (Nat.le_of_ble_eq_true rfl) ⟨rfl, rfl⟩ ⟨Nat.le_of_ble_eq_true rfl, Nat.le_of_ble_eq_true rfl⟩ rfl ?_
    refine zq_if_eq (pc' := 16) C 20 dX6_fan_13 (by decide) rfl (fun c_12 => ?_) (fun c_12 => ?_)
    · have hF := (zq_ifp hF (zq_b0.mp c_12))
      skip
      refine zq_iconst (pc' := 21) C 1 dX6_fan_20 rfl (by decide) ?_
      replace hF := zq_bd hF; obtain ⟨h_13, e_14, hF⟩ := hF
      refine zq_putI (j := 7) (pc' := 24) C zq_K6 zq_in6w (Or.inl wd_542) (by decide) rfl rfl dX6_fan_21 rfl (Or.inl rfl) e_14 ?_
      refine zq_aload_n (pc' := 25) C dX6_fan_24 rfl rfl rfl ?_
      have e_16 : zq_gi h_13 t 6 7 = some 1 := zq_gi_pi e_14
      refine zq_getI (j := 7) (pc' := 28) C zq_K6 zq_in6w (Or.inl wd_542) (by decide) rfl dX6_fan_25 rfl e_16 ?_
      refine zq_if_le (pc' := 31) C 33 dX6_fan_28 (by decide) rfl (fun c_17 => absurd c_17 (by decide)) (fun _ => ?_)
      refine zq_iconst (pc' := 32) C 0 dX6_fan_31 rfl (by decide) ?_
      have hF := Option.some.inj hF
      subst hF
      exact hE _ _ _ _ (Nat.le_of_ble_eq_true rfl) (Nat.le_of_ble_eq_true rfl) dX6_fan_32
    · have hF := (zq_ifn hF (fun q => c_12 (zq_b0.mpr q)))
      refine zq_iconst (pc' := 17) C 0 dX6_fan_16 rfl (by decide) ?_
      refine zq_goto C 21 dX6_fan_17 (by decide) ?_
      replace hF := zq_bd hF; obtain ⟨h_18, e_19, hF⟩ := hF
      refine zq_putI (j := 7) (pc' := 24) C zq_K6 zq_in6w (Or.inl wd_542) (by decide) rfl rfl dX6_fan_21 rfl (Or.inl rfl) e_19 ?_
      refine zq_aload_n (pc' := 25) C dX6_fan_24 rfl rfl rfl ?_
      have e_21 : zq_gi h_18 t 6 7 = some 0 := zq_gi_pi e_19
      refine zq_getI (j := 7) (pc' := 28) C zq_K6 zq_in6w (Or.inl wd_542) (by decide) rfl dX6_fan_25 rfl e_21 ?_
      refine zq_if_le (pc' := 31) C 33 dX6_fan_28 (by decide) rfl (fun _ => ?_) (fun c_22 => absurd c_22 (by decide))
      refine zq_aload_n (pc' := 34) C dX6_fan_33 rfl rfl rfl ?_
      replace hF := zq_ck_e hF; obtain ⟨e_25, hF⟩ := hF
      replace hF := zq_bd hF; obtain ⟨v_23, e_24, hF⟩ := hF
      refine zq_cV (pc' := 37) C (c_X6_save e_24) yv_X6_save wd_559 zq_K6 e_25 dX6_fan_34 rfl rfl rfl ⟨Nat.le_of_ble_eq_true rfl, Nat.le_of_ble_eq_true rfl⟩ (Nat.le_of_ble_eq_true rfl) ⟨rfl, rfl⟩ ⟨Nat.le_of_ble_eq_true rfl, Nat.le_of_ble_eq_true rfl⟩ rfl ?_
      refine zq_aload_n (pc' := 38) C dX6_fan_37 rfl rfl rfl ?_
      replace hF := zq_bd hF; obtain ⟨v_26, e_27, hF⟩ := hF
      refine zq_getR (j := 0) (pc' := 41) C zq_K6 zq_in6w (Or.inl wd_448) (by decide) rfl dX6_fan_38 rfl e_27 ?_
      refine zq_iconst (pc' := 42) C 1 dX6_fan_41 rfl (by decide) ?_
      refine zq_iload_n (pc' := 43) C dX6_fan_42 rfl rfl rfl ?_
      refine zq_iadd (pc' := 44) C dX6_fan_43 rfl ?_
      replace hF := zq_bd hF; obtain ⟨v_28, e_29, hF⟩ := hF
      refine zq_iaload (pc' := 45) C dX6_fan_44 rfl e_29 ?_
      refine zq_aload_n (pc' := 46) C dX6_fan_45 rfl rfl rfl ?_
      refine zq_iload_n (pc' := 47) C dX6_fan_46 rfl rfl rfl ?_
      replace hF := zq_ck_e hF; obtain ⟨e_32, hF⟩ := hF
      replace hF := zq_bd hF; obtain ⟨v_30, e_31, hF⟩ := hF
      refine zq_cV (pc' := 50) C (c_X6_fanOf e_31) yv_X6_fanOf wd_476 zq_K6 e_32 dX6_fan_47 rfl rfl rfl ⟨Nat.le_of_ble_eq_true rfl, Nat.le_of_ble_eq_true rfl⟩ (Nat.le_of_ble_eq_true rfl) ⟨rfl, rfl⟩ ⟨Nat.le_of_ble_eq_true rfl, Nat.le_of_ble_eq_true rfl⟩ rfl ?_
      refine zq_iand (pc' := 51) C dX6_fan_50 rfl ?_
      replace hF := zq_bd hF; obtain ⟨v_33, e_34, hF⟩ := hF
      refine zq_cS (pc' := 54) C (c_X6_ones e_34) ys_X6_ones wd_579 dX6_fan_51 rfl rfl rfl ⟨Nat.le_of_ble_eq_true rfl, Nat.le_of_ble_eq_true rfl⟩ (Nat.le_of_ble_eq_true rfl) ⟨rfl, rfl⟩ ⟨Nat.le_of_ble_eq_true rfl, Nat.le_of_ble_eq_true rfl⟩ rfl ?_
      refine zq_istore_n (lv' := [(3, .int v_33), (0, .ref t), (1, .int x1), (2, .int x2)]) (pc' := 55) C dX6_fan_54 rfl rfl (by decide) rfl rfl ?_
      refine zq_aload_n (pc' := 56) C dX6_fan_55 rfl rfl rfl ?_
      refine zq_iload_n (pc' := 57) C dX6_fan_56 rfl rfl rfl ?_
      refine zq_aload_n (pc' := 58) C dX6_fan_57 rfl rfl rfl ?_
      refine zq_iload_n (pc' := 59) C dX6_fan_58 rfl rfl rfl ?_
      replace hF := zq_ck_e hF; obtain ⟨e_37, hF⟩ := hF
      replace hF := zq_bd hF; obtain ⟨v_35, e_36, hF⟩ := hF
      refine zq_cV (pc' := 62) C (c_X6_fanOf e_36) yv_X6_fanOf wd_476 zq_K6 e_37 dX6_fan_59 rfl rfl rfl ⟨Nat.le_of_ble_eq_true rfl, Nat.le_of_ble_eq_true rfl⟩ (Nat.le_of_ble_eq_true rfl) ⟨rfl, rfl⟩ ⟨Nat.le_of_ble_eq_true rfl, Nat.le_of_ble_eq_true rfl⟩ rfl ?_
      replace hF := zq_ck_e hF; obtain ⟨e_40, hF⟩ := hF
      replace hF := zq_bd hF; obtain ⟨v_38, e_39, hF⟩ := hF
      refine zq_cV (pc' := 65) C (c_X6_lay e_39) yv_X6_lay wd_581 zq_K6 e_40 dX6_fan_62 rfl rfl rfl ⟨Nat.le_of_ble_eq_true rfl, Nat.le_of_ble_eq_true rfl⟩ (Nat.le_of_ble_eq_true rfl) ⟨rfl, rfl⟩ ⟨Nat.le_of_ble_eq_true rfl, Nat.le_of_ble_eq_true rfl⟩ rfl ?_
      refine zq_iload_n (pc' := 66) C dX6_fan_65 rfl rfl rfl ?_
      have hF := Option.some.inj hF
      subst hF
      exact hE _ _ _ _ (Nat.le_of_ble_eq_true rfl) (Nat.le_of_ble_eq_true rfl) dX6_fan_66
theorem c_X6_fan {h : zq_H} {t : Nat} {x1 : Int32} {x2 : Int32} {out : (Int32 × zq_H)} (hF : f_X6_fan h t x1 x2 = some out) : zq_M none yX6_fan (Cond.code yX6_fan cX6_fan 4 (some .int) :: zq_all) rm_X6_fan [.ref t, .int x1, .int x2] h (some (.int out.1)) out.2 := zq_met2 (own := RX6) (by decide +kernel) rfl (Nat.le_of_ble_eq_true rfl) rfl ⟨.int, rfl, rfl⟩ (fun X C T hn hE => v_X6_fan C T hn hF hE)
theorem yv_X6_fan : zq_calV yX6_fan RX6 cX6_fan 4 (some .int) 2 := ⟨by decide +kernel, wd_584, wd_804, wd_805, wd_458⟩
def f_X6_turn (h : zq_H) (t : Nat) (x1 : Int32) (x2 : Int32) : Option (Int32 × zq_H) := (Option.bind (f_X6_isWhich h x1) fun v_1 => (if v_1 = false then (Option.bind (zq_pi h t 6 7 1) fun h_57 => some ((0, h_57))) else (Option.bind (f_X6_within h x2 0 8) fun v_4 => (if v_4 = false then (Option.bind (zq_pi h t 6 7 2) fun h_7 => some ((0, h_7))) else (Option.bind (zq_pi h t 6 7 0) fun h_12 => (zq_ck h_12 t 6 fun _ => (Option.bind (f_X6_save h_12 t) fun v_17 => (Option.bind (zq_gr v_17 t 6 0) fun v_20 => (Option.bind (zq_gr v_17 t 6 0) fun v_22 => (Option.bind (zq_ai v_17 v_22 (1 + x1)) fun v_24 => (zq_ck v_17 t 6 fun _ => (Option.bind (f_X6_turned v_17 t v_24 x2) fun v_26 => (Option.bind (zq_si v_17 v_20 (1 + x1) v_26) fun h_29 => (Option.bind (zq_gr h_29 t 6 0) fun v_31 => (if x1 = 0 then (Option.bind (zq_gr h_29 t 6 0) fun v_44 => (Option.bind (zq_ai h_29 v_44 3) fun v_46 => (zq_ck h_29 t 6 fun _ => (Option.bind (f_X6_turned h_29 t v_46 x2) fun v_48 => (Option.bind (zq_si h_29 v_31 3 v_48) fun h_51 => (Option.bind (zq_gr h_51 t 6 0) fun v_53 => (Option.bind (zq_ai h_51 v_53 (1 + x1)) fun v_55 => some ((v_55, h_51))))))))) else (Option.bind (zq_gr h_29 t 6 0) fun v_34 => (Option.bind (zq_ai h_29 v_34 3) fun v_36 => (Option.bind (zq_si h_29 v_31 3 v_36) fun h_38 => (Option.bind (zq_gr h_38 t 6 0) fun v_40 => (Option.bind (zq_ai h_38 v_40 (1 + x1)) fun v_42 => some ((v_42, h_38))))))))))))))))))))))
abbrev rm_X6_turn : Room := { frames := 2, cells := 0, slots := 0, locals := 47 }
theorem dX6_turn_0 : decode cX6_turn 0 = .ok (.aload_n 0, 1) := by decide +kernel
theorem dX6_turn_1 : decode cX6_turn 1 = .ok (.iload_n 1, 1) := by decide +kernel
theorem dX6_turn_2 : decode cX6_turn 2 = .ok (.invokestatic 144, 3) := by decide +kernel
theorem dX6_turn_5 : decode cX6_turn 5 = .ok (.ifCond .ne 7, 3) := by decide +kernel
theorem dX6_turn_8 : decode cX6_turn 8 = .ok (.iconst 1, 1) := by decide +kernel
theorem dX6_turn_9 : decode cX6_turn 9 = .ok (.goto 18, 3) := by decide +kernel
theorem dX6_turn_12 : decode cX6_turn 12 = .ok (.iload_n 2, 1) := by decide +kernel
theorem dX6_turn_13 : decode cX6_turn 13 = .ok (.iconst 0, 1) := by decide +kernel
theorem dX6_turn_14 : decode cX6_turn 14 = .ok (.bipush 8, 2) := by decide +kernel
theorem dX6_turn_16 : decode cX6_turn 16 = .ok (.invokestatic 66, 3) := by decide +kernel
theorem dX6_turn_19 : decode cX6_turn 19 = .ok (.ifCond .eq 7, 3) := by decide +kernel
theorem dX6_turn_22 : decode cX6_turn 22 = .ok (.iconst 0, 1) := by decide +kernel
theorem dX6_turn_23 : decode cX6_turn 23 = .ok (.goto 4, 3) := by decide +kernel
theorem dX6_turn_26 : decode cX6_turn 26 = .ok (.iconst 2, 1) := by decide +kernel
theorem dX6_turn_27 : decode cX6_turn 27 = .ok (.putfield 56, 3) := by decide +kernel
theorem dX6_turn_30 : decode cX6_turn 30 = .ok (.aload_n 0, 1) := by decide +kernel
theorem dX6_turn_31 : decode cX6_turn 31 = .ok (.getfield 56, 3) := by decide +kernel
theorem dX6_turn_34 : decode cX6_turn 34 = .ok (.ifCond .le 5, 3) := by decide +kernel
theorem dX6_turn_37 : decode cX6_turn 37 = .ok (.iconst 0, 1) := by decide +kernel
theorem dX6_turn_38 : decode cX6_turn 38 = .ok (.ireturn, 1) := by decide +kernel
theorem dX6_turn_39 : decode cX6_turn 39 = .ok (.aload_n 0, 1) := by decide +kernel
theorem dX6_turn_40 : decode cX6_turn 40 = .ok (.invokevirtual 141, 3) := by decide +kernel
theorem dX6_turn_43 : decode cX6_turn 43 = .ok (.aload_n 0, 1) := by decide +kernel
theorem dX6_turn_44 : decode cX6_turn 44 = .ok (.getfield 7, 3) := by decide +kernel
theorem dX6_turn_47 : decode cX6_turn 47 = .ok (.iconst 1, 1) := by decide +kernel
theorem dX6_turn_48 : decode cX6_turn 48 = .ok (.iload_n 1, 1) := by decide +kernel
theorem dX6_turn_49 : decode cX6_turn 49 = .ok (.iadd, 1) := by decide +kernel
theorem dX6_turn_50 : decode cX6_turn 50 = .ok (.aload_n 0, 1) := by decide +kernel
theorem dX6_turn_51 : decode cX6_turn 51 = .ok (.aload_n 0, 1) := by decide +kernel
theorem dX6_turn_52 : decode cX6_turn 52 = .ok (.getfield 7, 3) := by decide +kernel
theorem dX6_turn_55 : decode cX6_turn 55 = .ok (.iconst 1, 1) := by decide +kernel
theorem dX6_turn_56 : decode cX6_turn 56 = .ok (.iload_n 1, 1) := by decide +kernel
theorem dX6_turn_57 : decode cX6_turn 57 = .ok (.iadd, 1) := by decide +kernel
theorem dX6_turn_58 : decode cX6_turn 58 = .ok (.iaload, 1) := by decide +kernel
theorem dX6_turn_59 : decode cX6_turn 59 = .ok (.iload_n 2, 1) := by decide +kernel
theorem dX6_turn_60 : decode cX6_turn 60 = .ok (.invokevirtual 135, 3) := by decide +kernel
theorem dX6_turn_63 : decode cX6_turn 63 = .ok (.iastore, 1) := by decide +kernel
theorem dX6_turn_64 : decode cX6_turn 64 = .ok (.aload_n 0, 1) := by decide +kernel
theorem dX6_turn_65 : decode cX6_turn 65 = .ok (.getfield 7, 3) := by decide +kernel
theorem dX6_turn_68 : decode cX6_turn 68 = .ok (.iconst 3, 1) := by decide +kernel
theorem dX6_turn_69 : decode cX6_turn 69 = .ok (.iload_n 1, 1) := by decide +kernel
theorem dX6_turn_70 : decode cX6_turn 70 = .ok (.ifCond .ne 17, 3) := by decide +kernel
theorem dX6_turn_73 : decode cX6_turn 73 = .ok (.aload_n 0, 1) := by decide +kernel
theorem dX6_turn_74 : decode cX6_turn 74 = .ok (.aload_n 0, 1) := by decide +kernel
theorem dX6_turn_75 : decode cX6_turn 75 = .ok (.getfield 7, 3) := by decide +kernel
theorem dX6_turn_78 : decode cX6_turn 78 = .ok (.iconst 3, 1) := by decide +kernel
theorem dX6_turn_79 : decode cX6_turn 79 = .ok (.iaload, 1) := by decide +kernel
theorem dX6_turn_80 : decode cX6_turn 80 = .ok (.iload_n 2, 1) := by decide +kernel
theorem dX6_turn_81 : decode cX6_turn 81 = .ok (.invokevirtual 135, 3) := by decide +kernel
theorem dX6_turn_84 : decode cX6_turn 84 = .ok (.goto 9, 3) := by decide +kernel
theorem dX6_turn_87 : decode cX6_turn 87 = .ok (.aload_n 0, 1) := by decide +kernel
theorem dX6_turn_88 : decode cX6_turn 88 = .ok (.getfield 7, 3) := by decide +kernel
theorem dX6_turn_91 : decode cX6_turn 91 = .ok (.iconst 3, 1) := by decide +kernel
theorem dX6_turn_92 : decode cX6_turn 92 = .ok (.iaload, 1) := by decide +kernel
theorem dX6_turn_93 : decode cX6_turn 93 = .ok (.iastore, 1) := by decide +kernel
theorem dX6_turn_94 : decode cX6_turn 94 = .ok (.aload_n 0, 1) := by decide +kernel
theorem dX6_turn_95 : decode cX6_turn 95 = .ok (.getfield 7, 3) := by decide +kernel
theorem dX6_turn_98 : decode cX6_turn 98 = .ok (.iconst 1, 1) := by decide +kernel
theorem dX6_turn_99 : decode cX6_turn 99 = .ok (.iload_n 1, 1) := by decide +kernel
theorem dX6_turn_100 : decode cX6_turn 100 = .ok (.iadd, 1) := by decide +kernel
theorem dX6_turn_101 : decode cX6_turn 101 = .ok (.iaload, 1) := by decide +kernel
theorem dX6_turn_102 : decode cX6_turn 102 = .ok (.ireturn, 1) := by decide +kernel
set_option maxRecDepth 100000 in
set_option maxHeartbeats 4000000 in
theorem v_X6_turn {X : zq_X} (C : zq_C X RX6 cX6_turn 3 zq_all rm_X6_turn) {h : zq_H} {t : Nat} {x1 : Int32} {x2 : Int32} (T : zq_T X none) (hn : X.2.2.2.2.2.2.2.2.1.name = yX6_turn.name) {out : (Int32 × zq_H)} (hF : f_X6_turn h t x1 x2 = some out) (hE : zq_End X cX6_turn 0 0 (some (.int out.1)) out.2) : zq_W X 0 0 h 0 [(0, .ref t), (1, .int x1), (2, .int x2)] [] := by
  unfold f_X6_turn at hF
  refine zq_aload_n (pc' := 1) C dX6_turn_0 rfl rfl rfl ?_
  refine zq_iload_n (pc' := 2) C dX6_turn_1 rfl rfl rfl ?_
  replace hF := zq_bd hF; obtain ⟨v_1, e_2, hF⟩ := hF
  refine zq_cS (pc' := 5) C (c_X6_isWhich e_2) ys_X6_isWhich wd_565 dX6_turn_2 rfl rfl rfl ⟨Nat.le_of_ble_eq_true rfl, Nat.le_of_ble_eq_true rfl⟩ (Nat.le_of_ble_eq_true rfl) ⟨rfl, rfl⟩ ⟨Nat.le_of_ble_eq_true rfl, Nat.le_of_ble_eq_true rfl⟩ rfl ?_
  refine zq_if_ne (pc' := 8) C 12 dX6_turn_5 (by decide) rfl (fun c_3 => ?_) (fun c_3 => ?_)
  · have hF := (zq_ifn hF (fun q => c_3 (zq_b0.mpr q)))
    skip
    refine zq_iload_n (pc' := 13) C dX6_turn_12 rfl rfl rfl ?_
    refine zq_iconst (pc' := 14) C 0 dX6_turn_13 rfl (by decide) ?_
    refine zq_bipush (pc' := 16) C 8 dX6_turn_14 rfl (by decide) ?_
    replace hF := zq_bd hF; obtain ⟨v_4, e_5, hF⟩ := hF
    refine zq_cS (pc' := 19) C (c_X6_within e_5) ys_X6_within wd_548 dX6_turn_16 rfl rfl rfl ⟨Nat.le_of_ble_eq_true rfl, Nat.le_of_ble_eq_true rfl⟩ (Nat.le_of_ble_eq_true rfl) ⟨rfl, rfl⟩ ⟨Nat.le_of_ble_eq_true rfl, Nat.le_of_ble_eq_true rfl⟩ rfl ?_
    refine zq_if_eq (pc' := 22) C 26 dX6_turn_19 (by decide) rfl (fun c_6 => ?_) (fun c_6 => ?_)
    · have hF := (zq_ifp hF (zq_b0.mp c_6))
      skip
      refine zq_iconst (pc' := 27) C 2 dX6_turn_26 rfl (by decide) ?_
      replace hF := zq_bd hF; obtain ⟨h_7, e_8, hF⟩ := hF
      refine zq_putI (j := 7) (pc' := 30) C zq_K6 zq_in6w (Or.inl wd_542) (by decide) rfl rfl dX6_turn_27 rfl (Or.inl rfl) e_8 ?_
      refine zq_aload_n (pc' := 31) C dX6_turn_30 rfl rfl rfl ?_
      have e_10 : zq_gi h_7 t 6 7 = some 2 := zq_gi_pi e_8
      refine zq_getI (j := 7) (pc' := 34) C zq_K6 zq_in6w (Or.inl wd_542) (by decide) rfl dX6_turn_31 rfl e_10 ?_
      refine zq_if_le (pc' := 37) C 39 dX6_turn_34 (by decide) rfl (fun c_11 => absurd c_11 (by decide)) (fun _ => ?_)
      refine zq_iconst (pc' := 38) C 0 dX6_turn_37 rfl (by decide) ?_
      have hF := Option.some.inj hF
      subst hF
      exact hE _ _ _ _ (Nat.le_of_ble_eq_true rfl) (Nat.le_of_ble_eq_true rfl) dX6_turn_38
    · have hF := (zq_ifn hF (fun q => c_6 (zq_b0.mpr q)))
      refine zq_iconst (pc' := 23) C 0 dX6_turn_22 rfl (by decide) ?_
      refine zq_goto C 27 dX6_turn_23 (by decide) ?_
      replace hF := zq_bd hF; obtain ⟨h_12, e_13, hF⟩ := hF
      refine zq_putI (j := 7) (pc' := 30) C zq_K6 zq_in6w (Or.inl wd_542) (by decide) rfl rfl dX6_turn_27 rfl (Or.inl rfl) e_13 ?_
      refine zq_aload_n (pc' := 31) C dX6_turn_30 rfl rfl rfl ?_
      have e_15 : zq_gi h_12 t 6 7 = some 0 := zq_gi_pi e_13
      refine zq_getI (j := 7) (pc' := 34) C zq_K6 zq_in6w (Or.inl wd_542) (by decide) rfl dX6_turn_31 rfl e_15 ?_
      refine zq_if_le (pc' := 37) C 39 dX6_turn_34 (by decide) rfl (fun _ => ?_) (fun c_16 => absurd c_16 (by decide))
      refine zq_aload_n (pc' := 40) C dX6_turn_39 rfl rfl rfl ?_
      replace hF := zq_ck_e hF; obtain ⟨e_19, hF⟩ := hF
      replace hF := zq_bd hF; obtain ⟨v_17, e_18, hF⟩ := hF
      refine zq_cV (pc' := 43) C (c_X6_save e_18) yv_X6_save wd_559 zq_K6 e_19 dX6_turn_40 rfl rfl rfl ⟨Nat.le_of_ble_eq_true rfl, Nat.le_of_ble_eq_true rfl⟩ (Nat.le_of_ble_eq_true rfl) ⟨rfl, rfl⟩ ⟨Nat.le_of_ble_eq_true rfl, Nat.le_of_ble_eq_true rfl⟩ rfl ?_
      refine zq_aload_n (pc' := 44) C dX6_turn_43 rfl rfl rfl ?_
      replace hF := zq_bd hF; obtain ⟨v_20, e_21, hF⟩ := hF
      refine zq_getR (j := 0) (pc' := 47) C zq_K6 zq_in6w (Or.inl wd_448) (by decide) rfl dX6_turn_44 rfl e_21 ?_
      refine zq_iconst (pc' := 48) C 1 dX6_turn_47 rfl (by decide) ?_
      refine zq_iload_n (pc' := 49) C dX6_turn_48 rfl rfl rfl ?_
      refine zq_iadd (pc' := 50) C dX6_turn_49 rfl ?_
      refine zq_aload_n (pc' := 51) C dX6_turn_50 rfl rfl rfl ?_
      refine zq_aload_n (pc' := 52) C dX6_turn_51 rfl rfl rfl ?_
      replace hF := zq_bd hF; obtain ⟨v_22, e_23, hF⟩ := hF
      refine zq_getR (j := 0) (pc' := 55) C zq_K6 zq_in6w (Or.inl wd_448) (by decide) rfl dX6_turn_52 rfl e_23 ?_
      refine zq_iconst (pc' := 56) C 1 dX6_turn_55 rfl (by decide) ?_
      refine zq_iload_n (pc' := 57) C dX6_turn_56 rfl rfl rfl ?_
      refine zq_iadd (pc' := 58) C dX6_turn_57 rfl ?_
      replace hF := zq_bd hF; obtain ⟨v_24, e_25, hF⟩ := hF
      refine zq_iaload (pc' := 59) C dX6_turn_58 rfl e_25 ?_
      refine zq_iload_n (pc' := 60) C dX6_turn_59 rfl rfl rfl ?_
      replace hF := zq_ck_e hF; obtain ⟨e_28, hF⟩ := hF
      replace hF := zq_bd hF; obtain ⟨v_26, e_27, hF⟩ := hF
      refine zq_cV (pc' := 63) C (c_X6_turned e_27) yv_X6_turned wd_496 zq_K6 e_28 dX6_turn_60 rfl rfl rfl ⟨Nat.le_of_ble_eq_true rfl, Nat.le_of_ble_eq_true rfl⟩ (Nat.le_of_ble_eq_true rfl) ⟨rfl, rfl⟩ ⟨Nat.le_of_ble_eq_true rfl, Nat.le_of_ble_eq_true rfl⟩ rfl ?_
      replace hF := zq_bd hF; obtain ⟨h_29, e_30, hF⟩ := hF
      refine zq_iastore (pc' := 64) C dX6_turn_63 rfl e_30 ?_
      refine zq_aload_n (pc' := 65) C dX6_turn_64 rfl rfl rfl ?_
      replace hF := zq_bd hF; obtain ⟨v_31, e_32, hF⟩ := hF
      refine zq_getR (j := 0) (pc' := 68) C zq_K6 zq_in6w (Or.inl wd_448) (by decide) rfl dX6_turn_65 rfl e_32 ?_
      refine zq_iconst (pc' := 69) C 3 dX6_turn_68 rfl (by decide) ?_
      refine zq_iload_n (pc' := 70) C dX6_turn_69 rfl rfl rfl ?_
      refine zq_if_ne (pc' := 73) C 87 dX6_turn_70 (by decide) rfl (fun c_33 => ?_) (fun c_33 => ?_)
      · have hF := (zq_ifn hF c_33)
        skip
        refine zq_aload_n (pc' := 88) C dX6_turn_87 rfl rfl rfl ?_
        replace hF := zq_bd hF; obtain ⟨v_34, e_35, hF⟩ := hF
        refine zq_getR (j := 0) (pc' := 91) C zq_K6 zq_in6w (Or.inl wd_448) (by decide) rfl dX6_turn_88 rfl e_35 ?_
        refine zq_iconst (pc' := 92) C 3 dX6_turn_91 rfl (by decide) ?_
        replace hF := zq_bd hF; obtain ⟨v_36, e_37, hF⟩ := hF
        refine zq_iaload (pc' := 93) C dX6_turn_92 rfl e_37 ?_
        replace hF := zq_bd hF; obtain ⟨h_38, e_39, hF⟩ := hF
        refine zq_iastore (pc' := 94) C dX6_turn_93 rfl e_39 ?_
        refine zq_aload_n (pc' := 95) C dX6_turn_94 rfl rfl rfl ?_
        replace hF := zq_bd hF; obtain ⟨v_40, e_41, hF⟩ := hF
        refine zq_getR (j := 0) (pc' := 98) C zq_K6 zq_in6w (Or.inl wd_448) (by decide) rfl dX6_turn_95 rfl e_41 ?_
        refine zq_iconst (pc' := 99) C 1 dX6_turn_98 rfl (by decide) ?_
        refine zq_iload_n (pc' := 100) C dX6_turn_99 rfl rfl rfl ?_
        refine zq_iadd (pc' := 101) C dX6_turn_100 rfl ?_
        replace hF := zq_bd hF; obtain ⟨v_42, e_43, hF⟩ := hF
        refine zq_iaload (pc' := 102) C dX6_turn_101 rfl e_43 ?_
        have hF := Option.some.inj hF
        subst hF
        exact hE _ _ _ _ (Nat.le_of_ble_eq_true rfl) (Nat.le_of_ble_eq_true rfl) dX6_turn_102
      · have hF := (zq_ifp hF c_33)
        refine zq_aload_n (pc' := 74) C dX6_turn_73 rfl rfl rfl ?_
        refine zq_aload_n (pc' := 75) C dX6_turn_74 rfl rfl rfl ?_
        replace hF := zq_bd hF; obtain ⟨v_44, e_45, hF⟩ := hF
        refine zq_getR (j := 0) (pc' := 78) C zq_K6 zq_in6w (Or.inl wd_448) (by decide) rfl dX6_turn_75 rfl e_45 ?_
        refine zq_iconst (pc' := 79) C 3 dX6_turn_78 rfl (by decide) ?_
        replace hF := zq_bd hF; obtain ⟨v_46, e_47, hF⟩ := hF
        refine zq_iaload (pc' := 80) C dX6_turn_79 rfl e_47 ?_
        refine zq_iload_n (pc' := 81) C dX6_turn_80 rfl rfl rfl ?_
        replace hF := zq_ck_e hF; obtain ⟨e_50, hF⟩ := hF
        replace hF := zq_bd hF; obtain ⟨v_48, e_49, hF⟩ := hF
        refine zq_cV (pc' := 84) C (c_X6_turned e_49) yv_X6_turned wd_496 zq_K6 e_50 dX6_turn_81 rfl rfl rfl ⟨Nat.le_of_ble_eq_true rfl, Nat.le_of_ble_eq_true rfl⟩ (Nat.le_of_ble_eq_true rfl) ⟨rfl, rfl⟩ ⟨Nat.le_of_ble_eq_true rfl, Nat.le_of_ble_eq_true rfl⟩ rfl ?_
        refine zq_goto C 93 dX6_turn_84 (by decide) ?_
        replace hF := zq_bd hF; obtain ⟨h_51, e_52, hF⟩ := hF
        refine zq_iastore (pc' := 94) C dX6_turn_93 rfl e_52 ?_
        refine zq_aload_n (pc' := 95) C dX6_turn_94 rfl rfl rfl ?_
        replace hF := zq_bd hF; obtain ⟨v_53, e_54, hF⟩ := hF
        refine zq_getR (j := 0) (pc' := 98) C zq_K6 zq_in6w (Or.inl wd_448) (by decide) rfl dX6_turn_95 rfl e_54 ?_
        refine zq_iconst (pc' := 99) C 1 dX6_turn_98 rfl (by decide) ?_
        refine zq_iload_n (pc' := 100) C dX6_turn_99 rfl rfl rfl ?_
        refine zq_iadd (pc' := 101) C dX6_turn_100 rfl ?_
        replace hF := zq_bd hF; obtain ⟨v_55, e_56, hF⟩ := hF
        refine zq_iaload (pc' := 102) C dX6_turn_101 rfl e_56 ?_
        have hF := Option.some.inj hF
        subst hF
        exact hE _ _ _ _ (Nat.le_of_ble_eq_true rfl) (Nat.le_of_ble_eq_true rfl) dX6_turn_102
  · have hF := (zq_ifp hF (zq_b0.mp c_3))
    refine zq_iconst (pc' := 9) C 1 dX6_turn_8 rfl (by decide) ?_
    refine zq_goto C 27 dX6_turn_9 (by decide) ?_
    replace hF := zq_bd hF; obtain ⟨h_57, e_58, hF⟩ := hF
    refine zq_putI (j := 7) (pc' := 30) C zq_K6 zq_in6w (Or.inl wd_542) (by decide) rfl rfl dX6_turn_27 rfl (Or.inl rfl) e_58 ?_
    refine zq_aload_n (pc' := 31) C dX6_turn_30 rfl rfl rfl ?_
    have e_60 : zq_gi h_57 t 6 7 = some 1 := zq_gi_pi e_58
    refine zq_getI (j := 7) (pc' := 34) C zq_K6 zq_in6w (Or.inl wd_542) (by decide) rfl dX6_turn_31 rfl e_60 ?_
    refine zq_if_le (pc' := 37) C 39 dX6_turn_34 (by decide) rfl (fun c_61 => absurd c_61 (by decide)) (fun _ => ?_)
    refine zq_iconst (pc' := 38) C 0 dX6_turn_37 rfl (by decide) ?_
    have hF := Option.some.inj hF
    subst hF
    exact hE _ _ _ _ (Nat.le_of_ble_eq_true rfl) (Nat.le_of_ble_eq_true rfl) dX6_turn_38
theorem c_X6_turn {h : zq_H} {t : Nat} {x1 : Int32} {x2 : Int32} {out : (Int32 × zq_H)} (hF : f_X6_turn h t x1 x2 = some out) : zq_M none yX6_turn (Cond.code yX6_turn cX6_turn 3 (some .int) :: zq_all) rm_X6_turn [.ref t, .int x1, .int x2] h (some (.int out.1)) out.2 := zq_met2 (own := RX6) (by decide +kernel) rfl (Nat.le_of_ble_eq_true rfl) rfl ⟨.int, rfl, rfl⟩ (fun X C T hn hE => v_X6_turn C T hn hF hE)
theorem yv_X6_turn : zq_calV yX6_turn RX6 cX6_turn 3 (some .int) 2 := ⟨by decide +kernel, wd_585, wd_809, wd_810, wd_458⟩
