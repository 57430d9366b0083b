def f_X6_layDiagonals (h : zq_H) (t : Nat) : Option zq_H := (Option.bind (zq_pi h t 6 9 0) fun h_1 => ((zq_lp (σ := Int32 × zq_H) (ρ := zq_H) (fun s_3 => (if 81 ≤ s_3.1 then some (.inr s_3.2) else (Option.bind (zq_gr s_3.2 t 6 12) fun v_12 => (Option.bind (zq_si s_3.2 v_12 s_3.1 (-1)) fun h_14 => (zq_let (s_3.1 + 1) fun v_16 => some (.inl (v_16, h_14))))))) zq_N (0, h_1)).bind (fun y_6 : zq_H => ((zq_lp (σ := Int32 × zq_H) (ρ := zq_H) (fun s_18 => (Option.bind (zq_gr s_18.2 t 6 0) fun v_26 => (Option.bind (zq_ai s_18.2 v_26 0) fun v_28 => (if v_28 ≤ s_18.1 then some (.inr s_18.2) else (zq_let (s_18.1 + 2) fun v_31 => ((zq_lp (σ := Int32 × zq_H) (ρ := zq_H) (fun s_33 => (Option.bind (zq_gr s_33.2 t 6 0) fun v_41 => (Option.bind (zq_ai s_33.2 v_41 0) fun v_43 => (if v_43 ≤ s_33.1 then some (.inr s_33.2) else (Option.bind (zq_gr s_33.2 t 6 0) fun v_46 => (Option.bind (zq_ai s_33.2 v_46 0) fun v_48 => (if (v_48 - 1) ≤ (s_33.1 - s_18.1) then (zq_let (s_33.1 + 1) fun v_51 => some (.inl (v_51, s_33.2))) else (Option.bind (zq_gr s_33.2 t 6 10) fun v_53 => (Option.bind (zq_gi s_33.2 t 6 9) fun v_55 => (Option.bind (zq_si s_33.2 v_53 v_55 s_18.1) fun h_57 => (Option.bind (zq_gr h_57 t 6 11) fun v_59 => (Option.bind (zq_gi h_57 t 6 9) fun v_61 => (Option.bind (zq_si h_57 v_59 v_61 s_33.1) fun h_63 => (Option.bind (zq_gr h_63 t 6 12) fun v_65 => (Option.bind (zq_gi h_63 t 6 9) fun v_67 => (Option.bind (zq_si h_63 v_65 ((9 * s_18.1) + s_33.1) v_67) fun h_69 => (Option.bind (zq_gi h_69 t 6 9) fun v_71 => (Option.bind (zq_pi h_69 t 6 9 (v_71 + 1)) fun h_73 => (zq_let (s_33.1 + 1) fun v_75 => some (.inl (v_75, h_73))))))))))))))))))))) zq_N (v_31, s_18.2)).bind (fun y_36 : zq_H => (zq_let (s_18.1 + 1) fun v_77 => some (.inl (v_77, y_36)))))))))) zq_N (0, y_6)).bind (fun y_21 : zq_H => some (y_21))))))
abbrev rm_X6_layDiagonals : Room := { frames := 0, cells := 0, slots := 0, locals := 0 }
theorem dX6_layDiagonals_0 : decode cX6_layDiagonals 0 = .ok (.aload_n 0, 1) := by decide +kernel
theorem dX6_layDiagonals_1 : decode cX6_layDiagonals 1 = .ok (.iconst 0, 1) := by decide +kernel
theorem dX6_layDiagonals_2 : decode cX6_layDiagonals 2 = .ok (.putfield 63, 3) := by decide +kernel
theorem dX6_layDiagonals_5 : decode cX6_layDiagonals 5 = .ok (.iconst 0, 1) := by decide +kernel
theorem dX6_layDiagonals_6 : decode cX6_layDiagonals 6 = .ok (.istore_n 1, 1) := by decide +kernel
theorem dX6_layDiagonals_7 : decode cX6_layDiagonals 7 = .ok (.iload_n 1, 1) := by decide +kernel
theorem dX6_layDiagonals_8 : decode cX6_layDiagonals 8 = .ok (.bipush 81, 2) := by decide +kernel
theorem dX6_layDiagonals_10 : decode cX6_layDiagonals 10 = .ok (.if_icmp .ge 16, 3) := by decide +kernel
theorem dX6_layDiagonals_13 : decode cX6_layDiagonals 13 = .ok (.aload_n 0, 1) := by decide +kernel
theorem dX6_layDiagonals_14 : decode cX6_layDiagonals 14 = .ok (.getfield 31, 3) := by decide +kernel
theorem dX6_layDiagonals_17 : decode cX6_layDiagonals 17 = .ok (.iload_n 1, 1) := by decide +kernel
theorem dX6_layDiagonals_18 : decode cX6_layDiagonals 18 = .ok (.iconst (-1), 1) := by decide +kernel
theorem dX6_layDiagonals_19 : decode cX6_layDiagonals 19 = .ok (.iastore, 1) := by decide +kernel
theorem dX6_layDiagonals_20 : decode cX6_layDiagonals 20 = .ok (.iinc 1 1, 3) := by decide +kernel
theorem dX6_layDiagonals_23 : decode cX6_layDiagonals 23 = .ok (.goto (-16), 3) := by decide +kernel
theorem dX6_layDiagonals_26 : decode cX6_layDiagonals 26 = .ok (.iconst 0, 1) := by decide +kernel
theorem dX6_layDiagonals_27 : decode cX6_layDiagonals 27 = .ok (.istore_n 1, 1) := by decide +kernel
theorem dX6_layDiagonals_28 : decode cX6_layDiagonals 28 = .ok (.iload_n 1, 1) := by decide +kernel
theorem dX6_layDiagonals_29 : decode cX6_layDiagonals 29 = .ok (.aload_n 0, 1) := by decide +kernel
theorem dX6_layDiagonals_30 : decode cX6_layDiagonals 30 = .ok (.getfield 7, 3) := by decide +kernel
theorem dX6_layDiagonals_33 : decode cX6_layDiagonals 33 = .ok (.iconst 0, 1) := by decide +kernel
theorem dX6_layDiagonals_34 : decode cX6_layDiagonals 34 = .ok (.iaload, 1) := by decide +kernel
theorem dX6_layDiagonals_35 : decode cX6_layDiagonals 35 = .ok (.if_icmp .ge 88, 3) := by decide +kernel
theorem dX6_layDiagonals_38 : decode cX6_layDiagonals 38 = .ok (.iload_n 1, 1) := by decide +kernel
theorem dX6_layDiagonals_39 : decode cX6_layDiagonals 39 = .ok (.iconst 2, 1) := by decide +kernel
theorem dX6_layDiagonals_40 : decode cX6_layDiagonals 40 = .ok (.iadd, 1) := by decide +kernel
theorem dX6_layDiagonals_41 : decode cX6_layDiagonals 41 = .ok (.istore_n 2, 1) := by decide +kernel
theorem dX6_layDiagonals_42 : decode cX6_layDiagonals 42 = .ok (.iload_n 2, 1) := by decide +kernel
theorem dX6_layDiagonals_43 : decode cX6_layDiagonals 43 = .ok (.aload_n 0, 1) := by decide +kernel
theorem dX6_layDiagonals_44 : decode cX6_layDiagonals 44 = .ok (.getfield 7, 3) := by decide +kernel
theorem dX6_layDiagonals_47 : decode cX6_layDiagonals 47 = .ok (.iconst 0, 1) := by decide +kernel
theorem dX6_layDiagonals_48 : decode cX6_layDiagonals 48 = .ok (.iaload, 1) := by decide +kernel
theorem dX6_layDiagonals_49 : decode cX6_layDiagonals 49 = .ok (.if_icmp .ge 68, 3) := by decide +kernel
theorem dX6_layDiagonals_52 : decode cX6_layDiagonals 52 = .ok (.iload_n 2, 1) := by decide +kernel
theorem dX6_layDiagonals_53 : decode cX6_layDiagonals 53 = .ok (.iload_n 1, 1) := by decide +kernel
theorem dX6_layDiagonals_54 : decode cX6_layDiagonals 54 = .ok (.isub, 1) := by decide +kernel
theorem dX6_layDiagonals_55 : decode cX6_layDiagonals 55 = .ok (.aload_n 0, 1) := by decide +kernel
theorem dX6_layDiagonals_56 : decode cX6_layDiagonals 56 = .ok (.getfield 7, 3) := by decide +kernel
theorem dX6_layDiagonals_59 : decode cX6_layDiagonals 59 = .ok (.iconst 0, 1) := by decide +kernel
theorem dX6_layDiagonals_60 : decode cX6_layDiagonals 60 = .ok (.iaload, 1) := by decide +kernel
theorem dX6_layDiagonals_61 : decode cX6_layDiagonals 61 = .ok (.iconst 1, 1) := by decide +kernel
theorem dX6_layDiagonals_62 : decode cX6_layDiagonals 62 = .ok (.isub, 1) := by decide +kernel
theorem dX6_layDiagonals_63 : decode cX6_layDiagonals 63 = .ok (.if_icmp .ge 48, 3) := by decide +kernel
theorem dX6_layDiagonals_66 : decode cX6_layDiagonals 66 = .ok (.aload_n 0, 1) := by decide +kernel
theorem dX6_layDiagonals_67 : decode cX6_layDiagonals 67 = .ok (.getfield 25, 3) := by decide +kernel
theorem dX6_layDiagonals_70 : decode cX6_layDiagonals 70 = .ok (.aload_n 0, 1) := by decide +kernel
theorem dX6_layDiagonals_71 : decode cX6_layDiagonals 71 = .ok (.getfield 63, 3) := by decide +kernel
theorem dX6_layDiagonals_74 : decode cX6_layDiagonals 74 = .ok (.iload_n 1, 1) := by decide +kernel
theorem dX6_layDiagonals_75 : decode cX6_layDiagonals 75 = .ok (.iastore, 1) := by decide +kernel
theorem dX6_layDiagonals_76 : decode cX6_layDiagonals 76 = .ok (.aload_n 0, 1) := by decide +kernel
theorem dX6_layDiagonals_77 : decode cX6_layDiagonals 77 = .ok (.getfield 28, 3) := by decide +kernel
theorem dX6_layDiagonals_80 : decode cX6_layDiagonals 80 = .ok (.aload_n 0, 1) := by decide +kernel
theorem dX6_layDiagonals_81 : decode cX6_layDiagonals 81 = .ok (.getfield 63, 3) := by decide +kernel
theorem dX6_layDiagonals_84 : decode cX6_layDiagonals 84 = .ok (.iload_n 2, 1) := by decide +kernel
theorem dX6_layDiagonals_85 : decode cX6_layDiagonals 85 = .ok (.iastore, 1) := by decide +kernel
theorem dX6_layDiagonals_86 : decode cX6_layDiagonals 86 = .ok (.aload_n 0, 1) := by decide +kernel
theorem dX6_layDiagonals_87 : decode cX6_layDiagonals 87 = .ok (.getfield 31, 3) := by decide +kernel
theorem dX6_layDiagonals_90 : decode cX6_layDiagonals 90 = .ok (.bipush 9, 2) := by decide +kernel
theorem dX6_layDiagonals_92 : decode cX6_layDiagonals 92 = .ok (.iload_n 1, 1) := by decide +kernel
theorem dX6_layDiagonals_93 : decode cX6_layDiagonals 93 = .ok (.imul, 1) := by decide +kernel
theorem dX6_layDiagonals_94 : decode cX6_layDiagonals 94 = .ok (.iload_n 2, 1) := by decide +kernel
theorem dX6_layDiagonals_95 : decode cX6_layDiagonals 95 = .ok (.iadd, 1) := by decide +kernel
theorem dX6_layDiagonals_96 : decode cX6_layDiagonals 96 = .ok (.aload_n 0, 1) := by decide +kernel
theorem dX6_layDiagonals_97 : decode cX6_layDiagonals 97 = .ok (.getfield 63, 3) := by decide +kernel
theorem dX6_layDiagonals_100 : decode cX6_layDiagonals 100 = .ok (.iastore, 1) := by decide +kernel
theorem dX6_layDiagonals_101 : decode cX6_layDiagonals 101 = .ok (.aload_n 0, 1) := by decide +kernel
theorem dX6_layDiagonals_102 : decode cX6_layDiagonals 102 = .ok (.dup, 1) := by decide +kernel
theorem dX6_layDiagonals_103 : decode cX6_layDiagonals 103 = .ok (.getfield 63, 3) := by decide +kernel
theorem dX6_layDiagonals_106 : decode cX6_layDiagonals 106 = .ok (.iconst 1, 1) := by decide +kernel
theorem dX6_layDiagonals_107 : decode cX6_layDiagonals 107 = .ok (.iadd, 1) := by decide +kernel
theorem dX6_layDiagonals_108 : decode cX6_layDiagonals 108 = .ok (.putfield 63, 3) := by decide +kernel
theorem dX6_layDiagonals_111 : decode cX6_layDiagonals 111 = .ok (.iinc 2 1, 3) := by decide +kernel
theorem dX6_layDiagonals_114 : decode cX6_layDiagonals 114 = .ok (.goto (-72), 3) := by decide +kernel
theorem dX6_layDiagonals_117 : decode cX6_layDiagonals 117 = .ok (.iinc 1 1, 3) := by decide +kernel
theorem dX6_layDiagonals_120 : decode cX6_layDiagonals 120 = .ok (.goto (-92), 3) := by decide +kernel
theorem dX6_layDiagonals_123 : decode cX6_layDiagonals 123 = .ok (.return_, 1) := by decide +kernel
set_option maxRecDepth 100000 in
set_option maxHeartbeats 4000000 in
theorem v_X6_layDiagonals {X : zq_X} (C : zq_C X RX6 cX6_layDiagonals 3 zq_all rm_X6_layDiagonals) {h : zq_H} {t : Nat} (T : zq_T X none) (hn : X.2.2.2.2.2.2.2.2.1.name = yX6_layDiagonals.name) {out : zq_H} (hF : f_X6_layDiagonals h t = some out) (hE : zq_End X cX6_layDiagonals 0 0 none out) : zq_W X 0 0 h 0 [(0, .ref t)] [] := by
  unfold f_X6_layDiagonals at hF
  refine zq_aload_n (pc' := 1) C dX6_layDiagonals_0 rfl rfl rfl ?_
  refine zq_iconst (pc' := 2) C 0 dX6_layDiagonals_1 rfl (by decide) ?_
  replace hF := zq_bd hF; obtain ⟨h_1, e_2, hF⟩ := hF
  refine zq_putI (j := 9) (pc' := 5) C zq_K6 zq_in6w (Or.inl wd_446) (by decide) rfl rfl dX6_layDiagonals_2 rfl (Or.inl rfl) e_2 ?_
  refine zq_iconst (pc' := 6) C 0 dX6_layDiagonals_5 rfl (by decide) ?_
  refine zq_istore_n (lv' := [(1, .int 0), (0, .ref t)]) (pc' := 7) C dX6_layDiagonals_6 rfl rfl (by decide) rfl rfl ?_
  refine zq_sub [1, 0] rfl ?_
  replace hF := zq_bd hF; obtain ⟨r_4, e_5, hF⟩ := hF
  refine zq_lpW (fun s_3 => zq_W X 0 0 s_3.2 7 [(0, .ref t), (1, .int s_3.1)] []) (fun y_6 => zq_W X 0 0 y_6 26 [(0, .ref t)] []) e_5 (fun s_3 q_10 hF hrec_8 hex_9 => ?_) ?_
  · skip
    refine zq_iload_n (pc' := 8) C dX6_layDiagonals_7 rfl rfl rfl ?_
    refine zq_bipush (pc' := 10) C 81 dX6_layDiagonals_8 rfl (by decide) ?_
    refine zq_icmp_ge (pc' := 13) C 26 dX6_layDiagonals_10 (by decide) rfl (fun c_11 => ?_) (fun c_11 => ?_)
    · have hF := (zq_ifp hF c_11)
      skip
      cases hF
      exact zq_sub [0] rfl (hex_9 _ rfl)
    · have hF := (zq_ifn hF c_11)
      refine zq_aload_n (pc' := 14) C dX6_layDiagonals_13 rfl rfl rfl ?_
      replace hF := zq_bd hF; obtain ⟨v_12, e_13, hF⟩ := hF
      refine zq_getR (j := 12) (pc' := 17) C zq_K6 zq_in6w (Or.inl wd_447) (by decide) rfl dX6_layDiagonals_14 rfl e_13 ?_
      refine zq_iload_n (pc' := 18) C dX6_layDiagonals_17 rfl rfl rfl ?_
      refine zq_iconst (pc' := 19) C (-1) dX6_layDiagonals_18 rfl (by decide) ?_
      replace hF := zq_bd hF; obtain ⟨h_14, e_15, hF⟩ := hF
      refine zq_iastore (pc' := 20) C dX6_layDiagonals_19 rfl e_15 ?_
      replace hF := zq_let_e hF; obtain ⟨v_16, e_17, hF⟩ := hF
      refine zq_iinc (lv' := [(1, .int v_16), (0, .ref t)]) (pc' := 23) C dX6_layDiagonals_20 rfl (by decide) 1 rfl e_17 rfl ?_
      refine zq_goto C 7 dX6_layDiagonals_23 (by decide) ?_
      cases hF
      exact zq_sub [1, 0] rfl (hrec_8 _ rfl)
  · skip
    obtain ⟨y_6, rfl⟩ : ∃ z9, z9 = r_4 := ⟨_, rfl⟩
    show zq_W X 0 0 y_6 26 [(0, .ref t)] []
    refine zq_iconst (pc' := 27) C 0 dX6_layDiagonals_26 rfl (by decide) ?_
    refine zq_istore_n (lv' := [(1, .int 0), (0, .ref t)]) (pc' := 28) C dX6_layDiagonals_27 rfl rfl (by decide) rfl rfl ?_
    refine zq_sub [1, 0] rfl ?_
    replace hF := zq_bd hF; obtain ⟨r_19, e_20, hF⟩ := hF
    refine zq_lpW (fun s_18 => zq_W X 0 0 s_18.2 28 [(0, .ref t), (1, .int s_18.1)] []) (fun y_21 => zq_W X 0 0 y_21 123 [] []) e_20 (fun s_18 q_25 hF hrec_23 hex_24 => ?_) ?_
    · skip
      refine zq_iload_n (pc' := 29) C dX6_layDiagonals_28 rfl rfl rfl ?_
      refine zq_aload_n (pc' := 30) C dX6_layDiagonals_29 rfl rfl rfl ?_
      replace hF := zq_bd hF; obtain ⟨v_26, e_27, hF⟩ := hF
      refine zq_getR (j := 0) (pc' := 33) C zq_K6 zq_in6w (Or.inl wd_448) (by decide) rfl dX6_layDiagonals_30 rfl e_27 ?_
      refine zq_iconst (pc' := 34) C 0 dX6_layDiagonals_33 rfl (by decide) ?_
      replace hF := zq_bd hF; obtain ⟨v_28, e_29, hF⟩ := hF
      refine zq_iaload (pc' := 35) C dX6_layDiagonals_34 rfl e_29 ?_
      refine zq_icmp_ge (pc' := 38) C 123 dX6_layDiagonals_35 (by decide) rfl (fun c_30 => ?_) (fun c_30 => ?_)
      · have hF := (zq_ifp hF c_30)
        skip
        cases hF
        exact zq_sub [] rfl (hex_24 _ rfl)
      · have hF := (zq_ifn hF c_30)
        refine zq_iload_n (pc' := 39) C dX6_layDiagonals_38 rfl rfl rfl ?_
        refine zq_iconst (pc' := 40) C 2 dX6_layDiagonals_39 rfl (by decide) ?_
        refine zq_iadd (pc' := 41) C dX6_layDiagonals_40 rfl ?_
        replace hF := zq_let_e hF; obtain ⟨v_31, e_32, hF⟩ := hF
        refine zq_istore_n (lv' := [(2, .int v_31), (0, .ref t), (1, .int s_18.1)]) (pc' := 42) C dX6_layDiagonals_41 rfl rfl (by decide) e_32 rfl ?_
        refine zq_sub [1, 2, 0] rfl ?_
        replace hF := zq_bd hF; obtain ⟨r_34, e_35, hF⟩ := hF
        refine zq_lpW (fun s_33 => zq_W X 0 0 s_33.2 42 [(0, .ref t), (1, .int s_18.1), (2, .int s_33.1)] []) (fun y_36 => zq_W X 0 0 y_36 117 [(0, .ref t), (1, .int s_18.1)] []) e_35 (fun s_33 q_40 hF hrec_38 hex_39 => ?_) ?_
        · skip
          refine zq_iload_n (pc' := 43) C dX6_layDiagonals_42 rfl rfl rfl ?_
          refine zq_aload_n (pc' := 44) C dX6_layDiagonals_43 rfl rfl rfl ?_
          replace hF := zq_bd hF; obtain ⟨v_41, e_42, hF⟩ := hF
          refine zq_getR (j := 0) (pc' := 47) C zq_K6 zq_in6w (Or.inl wd_448) (by decide) rfl dX6_layDiagonals_44 rfl e_42 ?_
          refine zq_iconst (pc' := 48) C 0 dX6_layDiagonals_47 rfl (by decide) ?_
          replace hF := zq_bd hF; obtain ⟨v_43, e_44, hF⟩ := hF
          refine zq_iaload (pc' := 49) C dX6_layDiagonals_48 rfl e_44 ?_
          refine zq_icmp_ge (pc' := 52) C 117 dX6_layDiagonals_49 (by decide) rfl (fun c_45 => ?_) (fun c_45 => ?_)
          · have hF := (zq_ifp hF c_45)
            skip
            cases hF
            exact zq_sub [0, 1] rfl (hex_39 _ rfl)
          · have hF := (zq_ifn hF c_45)
            refine zq_iload_n (pc' := 53) C dX6_layDiagonals_52 rfl rfl rfl ?_
            refine zq_iload_n (pc' := 54) C dX6_layDiagonals_53 rfl rfl rfl ?_
            refine zq_isub (pc' := 55) C dX6_layDiagonals_54 rfl ?_
            refine zq_aload_n (pc' := 56) C dX6_layDiagonals_55 rfl rfl rfl ?_
            replace hF := zq_bd hF; obtain ⟨v_46, e_47, hF⟩ := hF
            refine zq_getR (j := 0) (pc' := 59) C zq_K6 zq_in6w (Or.inl wd_448) (by decide) rfl dX6_layDiagonals_56 rfl e_47 ?_
            refine zq_iconst (pc' := 60) C 0 dX6_layDiagonals_59 rfl (by decide) ?_
            replace hF := zq_bd hF; obtain ⟨v_48, e_49, hF⟩ := hF
            refine zq_iaload (pc' := 61) C dX6_layDiagonals_60 rfl e_49 ?_
            refine zq_iconst (pc' := 62) C 1 dX6_layDiagonals_61 rfl (by decide) ?_
            refine zq_isub (pc' := 63) C dX6_layDiagonals_62 rfl ?_
            refine zq_icmp_ge (pc' := 66) C 111 dX6_layDiagonals_63 (by decide) rfl (fun c_50 => ?_) (fun c_50 => ?_)
            · have hF := (zq_ifp hF c_50)
              skip
              replace hF := zq_let_e hF; obtain ⟨v_51, e_52, hF⟩ := hF
              refine zq_iinc (lv' := [(2, .int v_51), (0, .ref t), (1, .int s_18.1)]) (pc' := 114) C dX6_layDiagonals_111 rfl (by decide) 2 rfl e_52 rfl ?_
              refine zq_goto C 42 dX6_layDiagonals_114 (by decide) ?_
              cases hF
              exact zq_sub [1, 2, 0] rfl (hrec_38 _ rfl)
            · have hF := (zq_ifn hF c_50)
              refine zq_aload_n (pc' := 67) C dX6_layDiagonals_66 rfl rfl rfl ?_
              replace hF := zq_bd hF; obtain ⟨v_53, e_54, hF⟩ := hF
              refine zq_getR (j := 10) (pc' := 70) C zq_K6 zq_in6w (Or.inl wd_449) (by decide) rfl dX6_layDiagonals_67 rfl e_54 ?_
              refine zq_aload_n (pc' := 71) C dX6_layDiagonals_70 rfl rfl rfl ?_
              replace hF := zq_bd hF; obtain ⟨v_55, e_56, hF⟩ := hF
              refine zq_getI (j := 9) (pc' := 74) C zq_K6 zq_in6w (Or.inl wd_446) (by decide) rfl dX6_layDiagonals_71 rfl e_56 ?_
              refine zq_iload_n (pc' := 75) C dX6_layDiagonals_74 rfl rfl rfl ?_
              replace hF := zq_bd hF; obtain ⟨h_57, e_58, hF⟩ := hF
              refine zq_iastore (pc' := 76) C dX6_layDiagonals_75 rfl e_58 ?_
              refine zq_aload_n (pc' := 77) C dX6_layDiagonals_76 rfl rfl rfl ?_
              replace hF := zq_bd hF; obtain ⟨v_59, e_60, hF⟩ := hF
              refine zq_getR (j := 11) (pc' := 80) C zq_K6 zq_in6w (Or.inl wd_450) (by decide) rfl dX6_layDiagonals_77 rfl e_60 ?_
              refine zq_aload_n (pc' := 81) C dX6_layDiagonals_80 rfl rfl rfl ?_
              replace hF := zq_bd hF; obtain ⟨v_61, e_62, hF⟩ := hF
              refine zq_getI (j := 9) (pc' := 84) C zq_K6 zq_in6w (Or.inl wd_446) (by decide) rfl dX6_layDiagonals_81 rfl e_62 ?_
              refine zq_iload_n (pc' := 85) C dX6_layDiagonals_84 rfl rfl rfl ?_
              replace hF := zq_bd hF; obtain ⟨h_63, e_64, hF⟩ := hF
              refine zq_iastore (pc' := 86) C dX6_layDiagonals_85 rfl e_64 ?_
              refine zq_aload_n (pc' := 87) C dX6_layDiagonals_86 rfl rfl rfl ?_
              replace hF := zq_bd hF; obtain ⟨v_65, e_66, hF⟩ := hF
              refine zq_getR (j := 12) (pc' := 90) C zq_K6 zq_in6w (Or.inl wd_447) (by decide) rfl dX6_layDiagonals_87 rfl e_66 ?_
              refine zq_bipush (pc' := 92) C 9 dX6_layDiagonals_90 rfl (by decide) ?_
              refine zq_iload_n (pc' := 93) C dX6_layDiagonals_92 rfl rfl rfl ?_
              refine zq_imul (pc' := 94) C dX6_layDiagonals_93 rfl ?_
              refine zq_iload_n (pc' := 95) C dX6_layDiagonals_94 rfl rfl rfl ?_
              refine zq_iadd (pc' := 96) C dX6_layDiagonals_95 rfl ?_
              refine zq_aload_n (pc' := 97) C dX6_layDiagonals_96 rfl rfl rfl ?_
              replace hF := zq_bd hF; obtain ⟨v_67, e_68, hF⟩ := hF
              refine zq_getI (j := 9) (pc' := 100) C zq_K6 zq_in6w (Or.inl wd_446) (by decide) rfl dX6_layDiagonals_97 rfl e_68 ?_
              replace hF := zq_bd hF; obtain ⟨h_69, e_70, hF⟩ := hF
              refine zq_iastore (pc' := 101) C dX6_layDiagonals_100 rfl e_70 ?_
              refine zq_aload_n (pc' := 102) C dX6_layDiagonals_101 rfl rfl rfl ?_
              refine zq_dup (pc' := 103) C dX6_layDiagonals_102 rfl rfl ?_
              replace hF := zq_bd hF; obtain ⟨v_71, e_72, hF⟩ := hF
              refine zq_getI (j := 9) (pc' := 106) C zq_K6 zq_in6w (Or.inl wd_446) (by decide) rfl dX6_layDiagonals_103 rfl e_72 ?_
              refine zq_iconst (pc' := 107) C 1 dX6_layDiagonals_106 rfl (by decide) ?_
              refine zq_iadd (pc' := 108) C dX6_layDiagonals_107 rfl ?_
              replace hF := zq_bd hF; obtain ⟨h_73, e_74, hF⟩ := hF
              refine zq_putI (j := 9) (pc' := 111) C zq_K6 zq_in6w (Or.inl wd_446) (by decide) rfl rfl dX6_layDiagonals_108 rfl (Or.inl rfl) e_74 ?_
              replace hF := zq_let_e hF; obtain ⟨v_75, e_76, hF⟩ := hF
              refine zq_iinc (lv' := [(2, .int v_75), (0, .ref t), (1, .int s_18.1)]) (pc' := 114) C dX6_layDiagonals_111 rfl (by decide) 2 rfl e_76 rfl ?_
              refine zq_goto C 42 dX6_layDiagonals_114 (by decide) ?_
              cases hF
              exact zq_sub [1, 2, 0] rfl (hrec_38 _ rfl)
        · skip
          obtain ⟨y_36, rfl⟩ : ∃ z9, z9 = r_34 := ⟨_, rfl⟩
          show zq_W X 0 0 y_36 117 [(0, .ref t), (1, .int s_18.1)] []
          replace hF := zq_let_e hF; obtain ⟨v_77, e_78, hF⟩ := hF
          refine zq_iinc (lv' := [(1, .int v_77), (0, .ref t)]) (pc' := 120) C dX6_layDiagonals_117 rfl (by decide) 1 rfl e_78 rfl ?_
          refine zq_goto C 28 dX6_layDiagonals_120 (by decide) ?_
          cases hF
          exact zq_sub [1, 0] rfl (hrec_23 _ rfl)
    · skip
      obtain ⟨y_21, rfl⟩ : ∃ z9, z9 = r_19 := ⟨_, rfl⟩
      show zq_W X 0 0 y_21 123 [] []
      have hF := Option.some.inj hF
      subst hF
      exact hE _ _ _ _ (Nat.le_of_ble_eq_true rfl) (Nat.le_of_ble_eq_true rfl) dX6_layDiagonals_123
theorem c_X6_layDiagonals {h : zq_H} {t : Nat} {out : zq_H} (hF : f_X6_layDiagonals h t = some out) : zq_M none yX6_layDiagonals (Cond.code yX6_layDiagonals cX6_layDiagonals 3 none :: zq_all) rm_X6_layDiagonals [.ref t] h none out := zq_met2 (own := RX6) (by decide +kernel) rfl (Nat.le_of_ble_eq_true rfl) rfl rfl (fun X C T hn hE => v_X6_layDiagonals C T hn hF hE)
theorem yv_X6_layDiagonals : zq_calV yX6_layDiagonals RX6 cX6_layDiagonals 3 none 0 := ⟨by decide +kernel, wd_445, wd_514, wd_515, wd_458⟩
def f_X6_fanOf (h : zq_H) (t : Nat) (x1 : Int32) : Option Int32 := ((zq_lp (σ := Int32 × Int32) (ρ := Int32) (fun s_1 => (Option.bind (zq_gi h t 6 9) fun v_9 => (if v_9 ≤ s_1.2 then some (.inr s_1.1) else (Option.bind (zq_gr h t 6 10) fun v_12 => (Option.bind (zq_ai h v_12 s_1.2) fun v_14 => (if v_14 = x1 then (zq_let (s_1.1 ||| ((1 : Int32) <<< (s_1.2 &&& 31))) fun v_17 => (zq_let (s_1.2 + 1) fun v_19 => some (.inl (v_17, v_19)))) else (Option.bind (zq_gr h t 6 11) fun v_21 => (Option.bind (zq_ai h v_21 s_1.2) fun v_23 => (if v_23 = x1 then (zq_let (s_1.1 ||| ((1 : Int32) <<< (s_1.2 &&& 31))) fun v_30 => (zq_let (s_1.2 + 1) fun v_32 => some (.inl (v_30, v_32)))) else (zq_let (s_1.1 ||| 0) fun v_26 => (zq_let (s_1.2 + 1) fun v_28 => some (.inl (v_26, v_28))))))))))))) zq_N (0, 0)).bind (fun y_4 : Int32 => some (y_4)))
abbrev rm_X6_fanOf : Room := { frames := 0, cells := 0, slots := 0, locals := 0 }
theorem dX6_fanOf_0 : decode cX6_fanOf 0 = .ok (.iconst 0, 1) := by decide +kernel
theorem dX6_fanOf_1 : decode cX6_fanOf 1 = .ok (.istore_n 2, 1) := by decide +kernel
theorem dX6_fanOf_2 : decode cX6_fanOf 2 = .ok (.iconst 0, 1) := by decide +kernel
theorem dX6_fanOf_3 : decode cX6_fanOf 3 = .ok (.istore_n 3, 1) := by decide +kernel
theorem dX6_fanOf_4 : decode cX6_fanOf 4 = .ok (.iload_n 3, 1) := by decide +kernel
theorem dX6_fanOf_5 : decode cX6_fanOf 5 = .ok (.aload_n 0, 1) := by decide +kernel
theorem dX6_fanOf_6 : decode cX6_fanOf 6 = .ok (.getfield 63, 3) := by decide +kernel
theorem dX6_fanOf_9 : decode cX6_fanOf 9 = .ok (.if_icmp .ge 39, 3) := by decide +kernel
theorem dX6_fanOf_12 : decode cX6_fanOf 12 = .ok (.iload_n 2, 1) := by decide +kernel
theorem dX6_fanOf_13 : decode cX6_fanOf 13 = .ok (.aload_n 0, 1) := by decide +kernel
theorem dX6_fanOf_14 : decode cX6_fanOf 14 = .ok (.getfield 25, 3) := by decide +kernel
theorem dX6_fanOf_17 : decode cX6_fanOf 17 = .ok (.iload_n 3, 1) := by decide +kernel
theorem dX6_fanOf_18 : decode cX6_fanOf 18 = .ok (.iaload, 1) := by decide +kernel
theorem dX6_fanOf_19 : decode cX6_fanOf 19 = .ok (.iload_n 1, 1) := by decide +kernel
theorem dX6_fanOf_20 : decode cX6_fanOf 20 = .ok (.if_icmp .eq 13, 3) := by decide +kernel
theorem dX6_fanOf_23 : decode cX6_fanOf 23 = .ok (.aload_n 0, 1) := by decide +kernel
theorem dX6_fanOf_24 : decode cX6_fanOf 24 = .ok (.getfield 28, 3) := by decide +kernel
theorem dX6_fanOf_27 : decode cX6_fanOf 27 = .ok (.iload_n 3, 1) := by decide +kernel
theorem dX6_fanOf_28 : decode cX6_fanOf 28 = .ok (.iaload, 1) := by decide +kernel
theorem dX6_fanOf_29 : decode cX6_fanOf 29 = .ok (.iload_n 1, 1) := by decide +kernel
theorem dX6_fanOf_30 : decode cX6_fanOf 30 = .ok (.if_icmp .ne 9, 3) := by decide +kernel
theorem dX6_fanOf_33 : decode cX6_fanOf 33 = .ok (.iconst 1, 1) := by decide +kernel
theorem dX6_fanOf_34 : decode cX6_fanOf 34 = .ok (.iload_n 3, 1) := by decide +kernel
theorem dX6_fanOf_35 : decode cX6_fanOf 35 = .ok (.ishl, 1) := by decide +kernel
theorem dX6_fanOf_36 : decode cX6_fanOf 36 = .ok (.goto 4, 3) := by decide +kernel
theorem dX6_fanOf_39 : decode cX6_fanOf 39 = .ok (.iconst 0, 1) := by decide +kernel
theorem dX6_fanOf_40 : decode cX6_fanOf 40 = .ok (.ior, 1) := by decide +kernel
theorem dX6_fanOf_41 : decode cX6_fanOf 41 = .ok (.istore_n 2, 1) := by decide +kernel
theorem dX6_fanOf_42 : decode cX6_fanOf 42 = .ok (.iinc 3 1, 3) := by decide +kernel
theorem dX6_fanOf_45 : decode cX6_fanOf 45 = .ok (.goto (-41), 3) := by decide +kernel
theorem dX6_fanOf_48 : decode cX6_fanOf 48 = .ok (.iload_n 2, 1) := by decide +kernel
theorem dX6_fanOf_49 : decode cX6_fanOf 49 = .ok (.ireturn, 1) := by decide +kernel
set_option maxRecDepth 100000 in
set_option maxHeartbeats 4000000 in
theorem v_X6_fanOf {X : zq_X} (C : zq_C X RX6 cX6_fanOf 4 zq_all rm_X6_fanOf) {h : zq_H} {t : Nat} {x1 : Int32} (T : zq_T X none) (hn : X.2.2.2.2.2.2.2.2.1.name = yX6_fanOf.name) {out : Int32} (hF : f_X6_fanOf h t x1 = some out) (hE : zq_End X cX6_fanOf 0 0 (some (.int out)) h) : zq_W X 0 0 h 0 [(0, .ref t), (1, .int x1)] [] := by
  unfold f_X6_fanOf at hF
  refine zq_iconst (pc' := 1) C 0 dX6_fanOf_0 rfl (by decide) ?_
  refine zq_istore_n (lv' := [(2, .int 0), (0, .ref t), (1, .int x1)]) (pc' := 2) C dX6_fanOf_1 rfl rfl (by decide) rfl rfl ?_
  refine zq_iconst (pc' := 3) C 0 dX6_fanOf_2 rfl (by decide) ?_
  refine zq_istore_n (lv' := [(3, .int 0), (2, .int 0), (0, .ref t), (1, .int x1)]) (pc' := 4) C dX6_fanOf_3 rfl rfl (by decide) rfl rfl ?_
  refine zq_sub [2, 3, 1, 0] rfl ?_
  replace hF := zq_bd hF; obtain ⟨r_2, e_3, hF⟩ := hF
  refine zq_lpW (fun s_1 => zq_W X 0 0 h 4 [(0, .ref t), (1, .int x1), (2, .int s_1.1), (3, .int s_1.2)] []) (fun y_4 => zq_W X 0 0 h 48 [(2, .int y_4)] []) e_3 (fun s_1 q_8 hF hrec_6 hex_7 => ?_) ?_
  · skip
    refine zq_iload_n (pc' := 5) C dX6_fanOf_4 rfl rfl rfl ?_
    refine zq_aload_n (pc' := 6) C dX6_fanOf_5 rfl rfl rfl ?_
    replace hF := zq_bd hF; obtain ⟨v_9, e_10, hF⟩ := hF
    refine zq_getI (j := 9) (pc' := 9) C zq_K6 zq_in6w (Or.inl wd_446) (by decide) rfl dX6_fanOf_6 rfl e_10 ?_
    refine zq_icmp_ge (pc' := 12) C 48 dX6_fanOf_9 (by decide) rfl (fun c_11 => ?_) (fun c_11 => ?_)
    · have hF := (zq_ifp hF c_11)
      skip
      cases hF
      exact zq_sub [2] rfl (hex_7 _ rfl)
    · have hF := (zq_ifn hF c_11)
      refine zq_iload_n (pc' := 13) C dX6_fanOf_12 rfl rfl rfl ?_
      refine zq_aload_n (pc' := 14) C dX6_fanOf_13 rfl rfl rfl ?_
      replace hF := zq_bd hF; obtain ⟨v_12, e_13, hF⟩ := hF
      refine zq_getR (j := 10) (pc' := 17) C zq_K6 zq_in6w (Or.inl wd_449) (by decide) rfl dX6_fanOf_14 rfl e_13 ?_
      refine zq_iload_n (pc' := 18) C dX6_fanOf_17 rfl rfl rfl ?_
      replace hF := zq_bd hF; obtain ⟨v_14, e_15, hF⟩ := hF
      refine zq_iaload (pc' := 19) C dX6_fanOf_18 rfl e_15 ?_
      refine zq_iload_n (pc' := 20) C dX6_fanOf_19 rfl rfl rfl ?_
      refine zq_icmp_eq (pc' := 23) C 33 dX6_fanOf_20 (by decide) rfl (fun c_16 => ?_) (fun c_16 => ?_)
      · have hF := (zq_ifp hF c_16)
        skip
        refine zq_iconst (pc' := 34) C 1 dX6_fanOf_33 rfl (by decide) ?_
        refine zq_iload_n (pc' := 35) C dX6_fanOf_34 rfl rfl rfl ?_
        refine zq_ishl (pc' := 36) C dX6_fanOf_35 rfl ?_
        refine zq_goto C 40 dX6_fanOf_36 (by decide) ?_
        refine zq_ior (pc' := 41) C dX6_fanOf_40 rfl ?_
        replace hF := zq_let_e hF; obtain ⟨v_17, e_18, hF⟩ := hF
        refine zq_istore_n (lv' := [(2, .int v_17), (0, .ref t), (1, .int x1), (3, .int s_1.2)]) (pc' := 42) C dX6_fanOf_41 rfl rfl (by decide) e_18 rfl ?_
        replace hF := zq_let_e hF; obtain ⟨v_19, e_20, hF⟩ := hF
        refine zq_iinc (lv' := [(3, .int v_19), (2, .int v_17), (0, .ref t), (1, .int x1)]) (pc' := 45) C dX6_fanOf_42 rfl (by decide) 3 rfl e_20 rfl ?_
        refine zq_goto C 4 dX6_fanOf_45 (by decide) ?_
        cases hF
        exact zq_sub [2, 3, 1, 0] rfl (hrec_6 _ rfl)
      · have hF := (zq_ifn hF c_16)
        refine zq_aload_n (pc' := 24) C dX6_fanOf_23 rfl rfl rfl ?_
        replace hF := zq_bd hF; obtain ⟨v_21, e_22, hF⟩ := hF
        refine zq_getR (j := 11) (pc' := 27) C zq_K6 zq_in6w (Or.inl wd_450) (by decide) rfl dX6_fanOf_24 rfl e_22 ?_
        refine zq_iload_n (pc' := 28) C dX6_fanOf_27 rfl rfl rfl ?_
        replace hF := zq_bd hF; obtain ⟨v_23, e_24, hF⟩ := hF
        refine zq_iaload (pc' := 29) C dX6_fanOf_28 rfl e_24 ?_
        refine zq_iload_n (pc' := 30) C dX6_fanOf_29 rfl rfl rfl ?_
        refine zq_icmp_ne (pc' := 33) C 39 dX6_fanOf_30 (by decide) rfl (fun c_25 => ?_) (fun c_25 => ?_)
        · have hF := (zq_ifn hF c_25)
          skip
          refine zq_iconst (pc' := 40) C 0 dX6_fanOf_39 rfl (by decide) ?_
          refine zq_ior (pc' := 41) C dX6_fanOf_40 rfl ?_
          replace hF := zq_let_e hF; obtain ⟨v_26, e_27, hF⟩ := hF
          refine zq_istore_n (lv' := [(2, .int v_26), (0, .ref t), (1, .int x1), (3, .int s_1.2)]) (pc' := 42) C dX6_fanOf_41 rfl rfl (by decide) e_27 rfl ?_
          replace hF := zq_let_e hF; obtain ⟨v_28, e_29, hF⟩ := hF
          refine zq_iinc (lv' := [(3, .int v_28), (2, .int v_26), (0, .ref t), (1, .int x1)]) (pc' := 45) C dX6_fanOf_42 rfl (by decide) 3 rfl e_29 rfl ?_
          refine zq_goto C 4 dX6_fanOf_45 (by decide) ?_
          cases hF
          exact zq_sub [2, 3, 1, 0] rfl (hrec_6 _ rfl)
        · have hF := (zq_ifp hF c_25)
          refine zq_iconst (pc' := 34) C 1 dX6_fanOf_33 rfl (by decide) ?_
          refine zq_iload_n (pc' := 35) C dX6_fanOf_34 rfl rfl rfl ?_
          refine zq_ishl (pc' := 36) C dX6_fanOf_35 rfl ?_
          refine zq_goto C 40 dX6_fanOf_36 (by decide) ?_
          refine zq_ior (pc' := 41) C dX6_fanOf_40 rfl ?_
          replace hF := zq_let_e hF; obtain ⟨v_30, e_31, hF⟩ := hF
          refine zq_istore_n (lv' := [(2, .int v_30), (0, .ref t), (1, .int x1), (3, .int s_1.2)]) (pc' := 42) C dX6_fanOf_41 rfl rfl (by decide) e_31 rfl ?_
          replace hF := zq_let_e hF; obtain ⟨v_32, e_33, hF⟩ := hF
          refine zq_iinc (lv' := [(3, .int v_32), (2, .int v_30), (0, .ref t), (1, .int x1)]) (pc' := 45) C dX6_fanOf_42 rfl (by decide) 3 rfl e_33 rfl ?_
          refine zq_goto C 4 dX6_fanOf_45 (by decide) ?_
          cases hF
          exact zq_sub [2, 3, 1, 0] rfl (hrec_6 _ rfl)
  · skip
    obtain ⟨y_4, rfl⟩ : ∃ z9, z9 = r_2 := ⟨_, rfl⟩
    show zq_W X 0 0 h 48 [(2, .int y_4)] []
    refine zq_iload_n (pc' := 49) C dX6_fanOf_48 rfl rfl rfl ?_
    have hF := Option.some.inj hF
    subst hF
    exact hE _ _ _ _ (Nat.le_of_ble_eq_true rfl) (Nat.le_of_ble_eq_true rfl) dX6_fanOf_49
theorem c_X6_fanOf {h : zq_H} {t : Nat} {x1 : Int32} {out : Int32} (hF : f_X6_fanOf h t x1 = some out) : zq_M none yX6_fanOf (Cond.code yX6_fanOf cX6_fanOf 4 (some .int) :: zq_all) rm_X6_fanOf [.ref t, .int x1] h (some (.int out)) h := zq_met2 (own := RX6) (by decide +kernel) rfl (Nat.le_of_ble_eq_true rfl) rfl ⟨.int, rfl, rfl⟩ (fun X C T hn hE => v_X6_fanOf C T hn hF hE)
theorem yv_X6_fanOf : zq_calV yX6_fanOf RX6 cX6_fanOf 4 (some .int) 1 := ⟨by decide +kernel, wd_451, wd_477, wd_478, wd_458⟩
def f_X6_has (h : zq_H) (x0 : Int32) (x1 : Int32) : Option Bool := (if ((x0 >>> (x1 &&& 31)) &&& 1) = 1 then some (true) else some (false))
abbrev rm_X6_has : Room := { frames := 0, cells := 0, slots := 0, locals := 0 }
theorem dX6_has_0 : decode cX6_has 0 = .ok (.iload_n 0, 1) := by decide +kernel
theorem dX6_has_1 : decode cX6_has 1 = .ok (.iload_n 1, 1) := by decide +kernel
theorem dX6_has_2 : decode cX6_has 2 = .ok (.ishr, 1) := by decide +kernel
theorem dX6_has_3 : decode cX6_has 3 = .ok (.iconst 1, 1) := by decide +kernel
theorem dX6_has_4 : decode cX6_has 4 = .ok (.iand, 1) := by decide +kernel
theorem dX6_has_5 : decode cX6_has 5 = .ok (.iconst 1, 1) := by decide +kernel
theorem dX6_has_6 : decode cX6_has 6 = .ok (.if_icmp .ne 7, 3) := by decide +kernel
theorem dX6_has_9 : decode cX6_has 9 = .ok (.iconst 1, 1) := by decide +kernel
theorem dX6_has_10 : decode cX6_has 10 = .ok (.goto 4, 3) := by decide +kernel
theorem dX6_has_13 : decode cX6_has 13 = .ok (.iconst 0, 1) := by decide +kernel
theorem dX6_has_14 : decode cX6_has 14 = .ok (.ireturn, 1) := by decide +kernel
set_option maxRecDepth 100000 in
set_option maxHeartbeats 4000000 in
theorem v_X6_has {X : zq_X} (C : zq_C X RX6 cX6_has 2 zq_all rm_X6_has) {h : zq_H} {x0 : Int32} {x1 : Int32} (T : zq_T X none) (hn : X.2.2.2.2.2.2.2.2.1.name = yX6_has.name) {out : Bool} (hF : f_X6_has h x0 x1 = some out) (hE : zq_End X cX6_has 0 0 (some (.int (zq_b out))) h) : zq_W X 0 0 h 0 [(0, .int x0), (1, .int x1)] [] := by
  unfold f_X6_has at hF
  refine zq_iload_n (pc' := 1) C dX6_has_0 rfl rfl rfl ?_
  refine zq_iload_n (pc' := 2) C dX6_has_1 rfl rfl rfl ?_
  refine zq_ishr (pc' := 3) C dX6_has_2 rfl ?_
  refine zq_iconst (pc' := 4) C 1 dX6_has_3 rfl (by decide) ?_
  refine zq_iand (pc' := 5) C dX6_has_4 rfl ?_
  refine zq_iconst (pc' := 6) C 1 dX6_has_5 rfl (by decide) ?_
  refine zq_icmp_ne (pc' := 9) C 13 dX6_has_6 (by decide) rfl (fun c_1 => ?_) (fun c_1 => ?_)
  · have hF := (zq_ifn hF c_1)
    skip
    refine zq_iconst (pc' := 14) C 0 dX6_has_13 rfl (by decide) ?_
    have hF := Option.some.inj hF
    subst hF
    exact hE _ _ _ _ (Nat.le_of_ble_eq_true rfl) (Nat.le_of_ble_eq_true rfl) dX6_has_14
  · have hF := (zq_ifp hF c_1)
    refine zq_iconst (pc' := 10) C 1 dX6_has_9 rfl (by decide) ?_
    refine zq_goto C 14 dX6_has_10 (by decide) ?_
    have hF := Option.some.inj hF
    subst hF
    exact hE _ _ _ _ (Nat.le_of_ble_eq_true rfl) (Nat.le_of_ble_eq_true rfl) dX6_has_14
theorem c_X6_has {h : zq_H} {x0 : Int32} {x1 : Int32} {out : Bool} (hF : f_X6_has h x0 x1 = some out) : zq_M none yX6_has (Cond.code yX6_has cX6_has 2 (some .boolean) :: zq_all) rm_X6_has [.int x0, .int x1] h (some (.int (zq_b out))) h := zq_met2 (own := RX6) (by decide +kernel) rfl (Nat.le_of_ble_eq_true rfl) rfl ⟨.boolean, rfl, by cases out <;> rfl⟩ (fun X C T hn hE => v_X6_has C T hn hF hE)
theorem ys_X6_has : zq_calS yX6_has cX6_has 2 (some .boolean) 2 := ⟨by decide +kernel, wd_452, wd_460, wd_458⟩
def f_X6_numberOf (h : zq_H) (t : Nat) (x1 : Int32) (x2 : Int32) : Option Int32 := (if x2 ≤ x1 then (Option.bind (zq_gr h t 6 12) fun v_2 => (Option.bind (zq_ai h v_2 ((9 * x2) + x1)) fun v_4 => some (v_4))) else (Option.bind (zq_gr h t 6 12) fun v_6 => (Option.bind (zq_ai h v_6 ((9 * x1) + x2)) fun v_8 => some (v_8))))
abbrev rm_X6_numberOf : Room := { frames := 0, cells := 0, slots := 0, locals := 0 }
theorem dX6_numberOf_0 : decode cX6_numberOf 0 = .ok (.iload_n 1, 1) := by decide +kernel
theorem dX6_numberOf_1 : decode cX6_numberOf 1 = .ok (.iload_n 2, 1) := by decide +kernel
theorem dX6_numberOf_2 : decode cX6_numberOf 2 = .ok (.if_icmp .ge 17, 3) := by decide +kernel
theorem dX6_numberOf_5 : decode cX6_numberOf 5 = .ok (.aload_n 0, 1) := by decide +kernel
theorem dX6_numberOf_6 : decode cX6_numberOf 6 = .ok (.getfield 31, 3) := by decide +kernel
theorem dX6_numberOf_9 : decode cX6_numberOf 9 = .ok (.bipush 9, 2) := by decide +kernel
theorem dX6_numberOf_11 : decode cX6_numberOf 11 = .ok (.iload_n 1, 1) := by decide +kernel
theorem dX6_numberOf_12 : decode cX6_numberOf 12 = .ok (.imul, 1) := by decide +kernel
theorem dX6_numberOf_13 : decode cX6_numberOf 13 = .ok (.iload_n 2, 1) := by decide +kernel
theorem dX6_numberOf_14 : decode cX6_numberOf 14 = .ok (.iadd, 1) := by decide +kernel
theorem dX6_numberOf_15 : decode cX6_numberOf 15 = .ok (.iaload, 1) := by decide +kernel
theorem dX6_numberOf_16 : decode cX6_numberOf 16 = .ok (.goto 14, 3) := by decide +kernel
theorem dX6_numberOf_19 : decode cX6_numberOf 19 = .ok (.aload_n 0, 1) := by decide +kernel
theorem dX6_numberOf_20 : decode cX6_numberOf 20 = .ok (.getfield 31, 3) := by decide +kernel
theorem dX6_numberOf_23 : decode cX6_numberOf 23 = .ok (.bipush 9, 2) := by decide +kernel
theorem dX6_numberOf_25 : decode cX6_numberOf 25 = .ok (.iload_n 2, 1) := by decide +kernel
theorem dX6_numberOf_26 : decode cX6_numberOf 26 = .ok (.imul, 1) := by decide +kernel
theorem dX6_numberOf_27 : decode cX6_numberOf 27 = .ok (.iload_n 1, 1) := by decide +kernel
theorem dX6_numberOf_28 : decode cX6_numberOf 28 = .ok (.iadd, 1) := by decide +kernel
theorem dX6_numberOf_29 : decode cX6_numberOf 29 = .ok (.iaload, 1) := by decide +kernel
theorem dX6_numberOf_30 : decode cX6_numberOf 30 = .ok (.ireturn, 1) := by decide +kernel
set_option maxRecDepth 100000 in
set_option maxHeartbeats 4000000 in
theorem v_X6_numberOf {X : zq_X} (C : zq_C X RX6 cX6_numberOf 3 zq_all rm_X6_numberOf) {h : zq_H} {t : Nat} {x1 : Int32} {x2 : Int32} (T : zq_T X none) (hn : X.2.2.2.2.2.2.2.2.1.name = yX6_numberOf.name) {out : Int32} (hF : f_X6_numberOf h t x1 x2 = some out) (hE : zq_End X cX6_numberOf 0 0 (some (.int out)) h) : zq_W X 0 0 h 0 [(0, .ref t), (1, .int x1), (2, .int x2)] [] := by
  unfold f_X6_numberOf at hF
  refine zq_iload_n (pc' := 1) C dX6_numberOf_0 rfl rfl rfl ?_
  refine zq_iload_n (pc' := 2) C dX6_numberOf_1 rfl rfl rfl ?_
  refine zq_icmp_ge (pc' := 5) C 19 dX6_numberOf_2 (by decide) rfl (fun c_1 => ?_) (fun c_1 => ?_)
  · have hF := (zq_ifp hF c_1)
    skip
    refine zq_aload_n (pc' := 20) C dX6_numberOf_19 rfl rfl rfl ?_
    replace hF := zq_bd hF; obtain ⟨v_2, e_3, hF⟩ := hF
    refine zq_getR (j := 12) (pc' := 23) C zq_K6 zq_in6w (Or.inl wd_447) (by decide) rfl dX6_numberOf_20 rfl e_3 ?_
    refine zq_bipush (pc' := 25) C 9 dX6_numberOf_23 rfl (by decide) ?_
    refine zq_iload_n (pc' := 26) C dX6_numberOf_25 rfl rfl rfl ?_
    refine zq_imul (pc' := 27) C dX6_numberOf_26 rfl ?_
    refine zq_iload_n (pc' := 28) C dX6_numberOf_27 rfl rfl rfl ?_
    refine zq_iadd (pc' := 29) C dX6_numberOf_28 rfl ?_
    replace hF := zq_bd hF; obtain ⟨v_4, e_5, hF⟩ := hF
    refine zq_iaload (pc' := 30) C dX6_numberOf_29 rfl e_5 ?_
    have hF := Option.some.inj hF
    subst hF
    exact hE _ _ _ _ (Nat.le_of_ble_eq_true rfl) (Nat.le_of_ble_eq_true rfl) dX6_numberOf_30
  · have hF := (zq_ifn hF c_1)
    refine zq_aload_n (pc' := 6) C dX6_numberOf_5 rfl rfl rfl ?_
    replace hF := zq_bd hF; obtain ⟨v_6, e_7, hF⟩ := hF
    refine zq_getR (j := 12) (pc' := 9) C zq_K6 zq_in6w (Or.inl wd_447) (by decide) rfl dX6_numberOf_6 rfl e_7 ?_
    refine zq_bipush (pc' := 11) C 9 dX6_numberOf_9 rfl (by decide) ?_
    refine zq_iload_n (pc' := 12) C dX6_numberOf_11 rfl rfl rfl ?_
    refine zq_imul (pc' := 13) C dX6_numberOf_12 rfl ?_
    refine zq_iload_n (pc' := 14) C dX6_numberOf_13 rfl rfl rfl ?_
    refine zq_iadd (pc' := 15) C dX6_numberOf_14 rfl ?_
    replace hF := zq_bd hF; obtain ⟨v_8, e_9, hF⟩ := hF
    refine zq_iaload (pc' := 16) C dX6_numberOf_15 rfl e_9 ?_
    refine zq_goto C 30 dX6_numberOf_16 (by decide) ?_
    have hF := Option.some.inj hF
    subst hF
    exact hE _ _ _ _ (Nat.le_of_ble_eq_true rfl) (Nat.le_of_ble_eq_true rfl) dX6_numberOf_30
theorem c_X6_numberOf {h : zq_H} {t : Nat} {x1 : Int32} {x2 : Int32} {out : Int32} (hF : f_X6_numberOf h t x1 x2 = some out) : zq_M none yX6_numberOf (Cond.code yX6_numberOf cX6_numberOf 3 (some .int) :: zq_all) rm_X6_numberOf [.ref t, .int x1, .int x2] h (some (.int out)) h := zq_met2 (own := RX6) (by decide +kernel) rfl (Nat.le_of_ble_eq_true rfl) rfl ⟨.int, rfl, rfl⟩ (fun X C T hn hE => v_X6_numberOf C T hn hF hE)
theorem yv_X6_numberOf : zq_calV yX6_numberOf RX6 cX6_numberOf 3 (some .int) 2 := ⟨by decide +kernel, wd_453, wd_456, wd_457, wd_458⟩
def f_X6_joined (h : zq_H) (t : Nat) (x1 : Int32) (x2 : Int32) (x3 : Int32) : Option Bool := (zq_ck h t 6 fun _ => (Option.bind (f_X6_numberOf h t x2 x3) fun v_1 => (if v_1 = (-1) then some (true) else (Option.bind (f_X6_has h x1 v_1) fun v_5 => (if v_5 = false then some (false) else some (true))))))
abbrev rm_X6_joined : Room := { frames := 1, cells := 0, slots := 0, locals := 22 }
theorem dX6_joined_0 : decode cX6_joined 0 = .ok (.aload_n 0, 1) := by decide +kernel
theorem dX6_joined_1 : decode cX6_joined 1 = .ok (.iload_n 2, 1) := by decide +kernel
theorem dX6_joined_2 : decode cX6_joined 2 = .ok (.iload_n 3, 1) := by decide +kernel
theorem dX6_joined_3 : decode cX6_joined 3 = .ok (.invokevirtual 70, 3) := by decide +kernel
theorem dX6_joined_6 : decode cX6_joined 6 = .ok (.istore 4, 2) := by decide +kernel
theorem dX6_joined_8 : decode cX6_joined 8 = .ok (.iload 4, 2) := by decide +kernel
theorem dX6_joined_10 : decode cX6_joined 10 = .ok (.iconst (-1), 1) := by decide +kernel
theorem dX6_joined_11 : decode cX6_joined 11 = .ok (.if_icmp .eq 12, 3) := by decide +kernel
theorem dX6_joined_14 : decode cX6_joined 14 = .ok (.iload_n 1, 1) := by decide +kernel
theorem dX6_joined_15 : decode cX6_joined 15 = .ok (.iload 4, 2) := by decide +kernel
theorem dX6_joined_17 : decode cX6_joined 17 = .ok (.invokestatic 74, 3) := by decide +kernel
theorem dX6_joined_20 : decode cX6_joined 20 = .ok (.ifCond .eq 7, 3) := by decide +kernel
theorem dX6_joined_23 : decode cX6_joined 23 = .ok (.iconst 1, 1) := by decide +kernel
theorem dX6_joined_24 : decode cX6_joined 24 = .ok (.goto 4, 3) := by decide +kernel
theorem dX6_joined_27 : decode cX6_joined 27 = .ok (.iconst 0, 1) := by decide +kernel
theorem dX6_joined_28 : decode cX6_joined 28 = .ok (.ireturn, 1) := by decide +kernel
set_option maxRecDepth 100000 in
set_option maxHeartbeats 4000000 in
theorem v_X6_joined {X : zq_X} (C : zq_C X RX6 cX6_joined 5 zq_all rm_X6_joined) {h : zq_H} {t : Nat} {x1 : Int32} {x2 : Int32} {x3 : Int32} (T : zq_T X none) (hn : X.2.2.2.2.2.2.2.2.1.name = yX6_joined.name) {out : Bool} (hF : f_X6_joined h t x1 x2 x3 = some out) (hE : zq_End X cX6_joined 0 0 (some (.int (zq_b out))) h) : zq_W X 0 0 h 0 [(0, .ref t), (1, .int x1), (2, .int x2), (3, .int x3)] [] := by
  unfold f_X6_joined at hF
  refine zq_aload_n (pc' := 1) C dX6_joined_0 rfl rfl rfl ?_
  refine zq_iload_n (pc' := 2) C dX6_joined_1 rfl rfl rfl ?_
  refine zq_iload_n (pc' := 3) C dX6_joined_2 rfl rfl rfl ?_
  replace hF := zq_ck_e hF; obtain ⟨e_3, hF⟩ := hF
  replace hF := zq_bd hF; obtain ⟨v_1, e_2, hF⟩ := hF
  refine zq_cV (pc' := 6) C (c_X6_numberOf e_2) yv_X6_numberOf wd_455 zq_K6 e_3 dX6_joined_3 rfl rfl rfl ⟨Nat.le_of_ble_eq_true rfl, Nat.le_of_ble_eq_true rfl⟩ (Nat.le_of_ble_eq_true rfl) ⟨rfl, rfl⟩ ⟨Nat.le_of_ble_eq_true rfl, Nat.le_of_ble_eq_true rfl⟩ rfl ?_
  refine zq_istore (lv' := [(4, .int v_1), (0, .ref t), (1, .int x1), (2, .int x2), (3, .int x3)]) (pc' := 8) C dX6_joined_6 rfl (by decide) rfl rfl ?_
  refine zq_iload (pc' := 10) C dX6_joined_8 rfl rfl ?_
  refine zq_iconst (pc' := 11) C (-1) dX6_joined_10 rfl (by decide) ?_
  refine zq_icmp_eq (pc' := 14) C 23 dX6_joined_11 (by decide) rfl (fun c_4 => ?_) (fun c_4 => ?_)
  · have hF := (zq_ifp hF c_4)
    skip
    refine zq_iconst (pc' := 24) C 1 dX6_joined_23 rfl (by decide) ?_
    refine zq_goto C 28 dX6_joined_24 (by decide) ?_
    have hF := Option.some.inj hF
    subst hF
    exact hE _ _ _ _ (Nat.le_of_ble_eq_true rfl) (Nat.le_of_ble_eq_true rfl) dX6_joined_28
  · have hF := (zq_ifn hF c_4)
    refine zq_iload_n (pc' := 15) C dX6_joined_14 rfl rfl rfl ?_
    refine zq_iload (pc' := 17) C dX6_joined_15 rfl rfl ?_
    replace hF := zq_bd hF; obtain ⟨v_5, e_6, hF⟩ := hF
    refine zq_cS (pc' := 20) C (c_X6_has e_6) ys_X6_has wd_459 dX6_joined_17 rfl rfl rfl ⟨Nat.le_of_ble_eq_true rfl, Nat.le_of_ble_eq_true rfl⟩ (Nat.le_of_ble_eq_true rfl) ⟨rfl, rfl⟩ ⟨Nat.le_of_ble_eq_true rfl, Nat.le_of_ble_eq_true rfl⟩ rfl ?_
    refine zq_if_eq (pc' := 23) C 27 dX6_joined_20 (by decide) rfl (fun c_7 => ?_) (fun c_7 => ?_)
    · have hF := (zq_ifp hF (zq_b0.mp c_7))
      skip
      refine zq_iconst (pc' := 28) C 0 dX6_joined_27 rfl (by decide) ?_
      have hF := Option.some.inj hF
      subst hF
      exact hE _ _ _ _ (Nat.le_of_ble_eq_true rfl) (Nat.le_of_ble_eq_true rfl) dX6_joined_28
    · have hF := (zq_ifn hF (fun q => c_7 (zq_b0.mpr q)))
      refine zq_iconst (pc' := 24) C 1 dX6_joined_23 rfl (by decide) ?_
      refine zq_goto C 28 dX6_joined_24 (by decide) ?_
      have hF := Option.some.inj hF
      subst hF
      exact hE _ _ _ _ (Nat.le_of_ble_eq_true rfl) (Nat.le_of_ble_eq_true rfl) dX6_joined_28
theorem c_X6_joined {h : zq_H} {t : Nat} {x1 : Int32} {x2 : Int32} {x3 : Int32} {out : Bool} (hF : f_X6_joined h t x1 x2 x3 = some out) : zq_M none yX6_joined (Cond.code yX6_joined cX6_joined 5 (some .boolean) :: zq_all) rm_X6_joined [.ref t, .int x1, .int x2, .int x3] h (some (.int (zq_b out))) h := zq_met2 (own := RX6) (by decide +kernel) rfl (Nat.le_of_ble_eq_true rfl) rfl ⟨.boolean, rfl, by cases out <;> rfl⟩ (fun X C T hn hE => v_X6_joined C T hn hF hE)
theorem yv_X6_joined : zq_calV yX6_joined RX6 cX6_joined 5 (some .boolean) 3 := ⟨by decide +kernel, wd_454, wd_463, wd_464, wd_458⟩
def f_X6_apex (h : zq_H) (t : Nat) (x1 : Int32) (x2 : Int32) (x3 : Int32) : Option Int32 := (Option.bind (zq_gr h t 6 0) fun v_1 => (Option.bind (zq_ai h v_1 0) fun v_3 => (zq_nz v_3 fun _ => (zq_let ((x2 + 1) - (x2 + 1) / v_3 * v_3) fun v_6 => ((zq_lp (σ := Int32) (ρ := Int32) (fun s_8 => (zq_ck h t 6 fun _ => (Option.bind (f_X6_joined h t x1 x2 s_8) fun v_16 => (if v_16 = false then (Option.bind (zq_gr h t 6 0) fun v_20 => (Option.bind (zq_ai h v_20 0) fun v_22 => (zq_nz v_22 fun _ => (zq_let ((s_8 + 1) - (s_8 + 1) / v_22 * v_22) fun v_25 => some (.inl v_25))))) else (zq_ck h t 6 fun _ => (Option.bind (f_X6_joined h t x1 s_8 x3) fun v_27 => (if v_27 = false then (Option.bind (zq_gr h t 6 0) fun v_31 => (Option.bind (zq_ai h v_31 0) fun v_33 => (zq_nz v_33 fun _ => (zq_let ((s_8 + 1) - (s_8 + 1) / v_33 * v_33) fun v_36 => some (.inl v_36))))) else some (.inr s_8)))))))) zq_N v_6).bind (fun y_11 : Int32 => some (y_11)))))))
abbrev rm_X6_apex : Room := { frames := 2, cells := 0, slots := 0, locals := 46 }
theorem dX6_apex_0 : decode cX6_apex 0 = .ok (.iload_n 2, 1) := by decide +kernel
theorem dX6_apex_1 : decode cX6_apex 1 = .ok (.iconst 1, 1) := by decide +kernel
theorem dX6_apex_2 : decode cX6_apex 2 = .ok (.iadd, 1) := by decide +kernel
theorem dX6_apex_3 : decode cX6_apex 3 = .ok (.aload_n 0, 1) := by decide +kernel
theorem dX6_apex_4 : decode cX6_apex 4 = .ok (.getfield 7, 3) := by decide +kernel
theorem dX6_apex_7 : decode cX6_apex 7 = .ok (.iconst 0, 1) := by decide +kernel
theorem dX6_apex_8 : decode cX6_apex 8 = .ok (.iaload, 1) := by decide +kernel
theorem dX6_apex_9 : decode cX6_apex 9 = .ok (.irem, 1) := by decide +kernel
theorem dX6_apex_10 : decode cX6_apex 10 = .ok (.istore 4, 2) := by decide +kernel
theorem dX6_apex_12 : decode cX6_apex 12 = .ok (.aload_n 0, 1) := by decide +kernel
theorem dX6_apex_13 : decode cX6_apex 13 = .ok (.iload_n 1, 1) := by decide +kernel
theorem dX6_apex_14 : decode cX6_apex 14 = .ok (.iload_n 2, 1) := by decide +kernel
theorem dX6_apex_15 : decode cX6_apex 15 = .ok (.iload 4, 2) := by decide +kernel
theorem dX6_apex_17 : decode cX6_apex 17 = .ok (.invokevirtual 78, 3) := by decide +kernel
theorem dX6_apex_20 : decode cX6_apex 20 = .ok (.ifCond .eq 14, 3) := by decide +kernel
theorem dX6_apex_23 : decode cX6_apex 23 = .ok (.aload_n 0, 1) := by decide +kernel
theorem dX6_apex_24 : decode cX6_apex 24 = .ok (.iload_n 1, 1) := by decide +kernel
theorem dX6_apex_25 : decode cX6_apex 25 = .ok (.iload 4, 2) := by decide +kernel
theorem dX6_apex_27 : decode cX6_apex 27 = .ok (.iload_n 3, 1) := by decide +kernel
theorem dX6_apex_28 : decode cX6_apex 28 = .ok (.invokevirtual 78, 3) := by decide +kernel
theorem dX6_apex_31 : decode cX6_apex 31 = .ok (.ifCond .ne 19, 3) := by decide +kernel
theorem dX6_apex_34 : decode cX6_apex 34 = .ok (.iload 4, 2) := by decide +kernel
theorem dX6_apex_36 : decode cX6_apex 36 = .ok (.iconst 1, 1) := by decide +kernel
theorem dX6_apex_37 : decode cX6_apex 37 = .ok (.iadd, 1) := by decide +kernel
theorem dX6_apex_38 : decode cX6_apex 38 = .ok (.aload_n 0, 1) := by decide +kernel
theorem dX6_apex_39 : decode cX6_apex 39 = .ok (.getfield 7, 3) := by decide +kernel
theorem dX6_apex_42 : decode cX6_apex 42 = .ok (.iconst 0, 1) := by decide +kernel
theorem dX6_apex_43 : decode cX6_apex 43 = .ok (.iaload, 1) := by decide +kernel
theorem dX6_apex_44 : decode cX6_apex 44 = .ok (.irem, 1) := by decide +kernel
theorem dX6_apex_45 : decode cX6_apex 45 = .ok (.istore 4, 2) := by decide +kernel
theorem dX6_apex_47 : decode cX6_apex 47 = .ok (.goto (-35), 3) := by decide +kernel
theorem dX6_apex_50 : decode cX6_apex 50 = .ok (.iload 4, 2) := by decide +kernel
theorem dX6_apex_52 : decode cX6_apex 52 = .ok (.ireturn, 1) := by decide +kernel
set_option maxRecDepth 100000 in
set_option maxHeartbeats 4000000 in
theorem v_X6_apex {X : zq_X} (C : zq_C X RX6 cX6_apex 5 zq_all rm_X6_apex) {h : zq_H} {t : Nat} {x1 : Int32} {x2 : Int32} {x3 : Int32} (T : zq_T X none) (hn : X.2.2.2.2.2.2.2.2.1.name = yX6_apex.name) {out : Int32} (hF : f_X6_apex h t x1 x2 x3 = some out) (hE : zq_End X cX6_apex 0 0 (some (.int out)) h) : zq_W X 0 0 h 0 [(0, .ref t), (1, .int x1), (2, .int x2), (3, .int x3)] [] := by
  unfold f_X6_apex at hF
  refine zq_iload_n (pc' := 1) C dX6_apex_0 rfl rfl rfl ?_
  refine zq_iconst (pc' := 2) C 1 dX6_apex_1 rfl (by decide) ?_
  refine zq_iadd (pc' := 3) C dX6_apex_2 rfl ?_
  refine zq_aload_n (pc' := 4) C dX6_apex_3 rfl rfl rfl ?_
  replace hF := zq_bd hF; obtain ⟨v_1, e_2, hF⟩ := hF
  refine zq_getR (j := 0) (pc' := 7) C zq_K6 zq_in6w (Or.inl wd_448) (by decide) rfl dX6_apex_4 rfl e_2 ?_
  refine zq_iconst (pc' := 8) C 0 dX6_apex_7 rfl (by decide) ?_
  replace hF := zq_bd hF; obtain ⟨v_3, e_4, hF⟩ := hF
  refine zq_iaload (pc' := 9) C dX6_apex_8 rfl e_4 ?_
  replace hF := zq_nz_e hF; obtain ⟨e_5, hF⟩ := hF
  refine zq_irem (pc' := 10) C dX6_apex_9 rfl e_5 ?_
  replace hF := zq_let_e hF; obtain ⟨v_6, e_7, hF⟩ := hF
  refine zq_istore (lv' := [(4, .int v_6), (0, .ref t), (1, .int x1), (2, .int x2), (3, .int x3)]) (pc' := 12) C dX6_apex_10 rfl (by decide) e_7 rfl ?_
  refine zq_sub [1, 2, 3, 4, 0] rfl ?_
  replace hF := zq_bd hF; obtain ⟨r_9, e_10, hF⟩ := hF
  refine zq_lpW (fun s_8 => zq_W X 0 0 h 12 [(0, .ref t), (1, .int x1), (2, .int x2), (3, .int x3), (4, .int s_8)] []) (fun y_11 => zq_W X 0 0 h 50 [(4, .int y_11)] []) e_10 (fun s_8 q_15 hF hrec_13 hex_14 => ?_) ?_
  · skip
    refine zq_aload_n (pc' := 13) C dX6_apex_12 rfl rfl rfl ?_
    refine zq_iload_n (pc' := 14) C dX6_apex_13 rfl rfl rfl ?_
    refine zq_iload_n (pc' := 15) C dX6_apex_14 rfl rfl rfl ?_
    refine zq_iload (pc' := 17) C dX6_apex_15 rfl rfl ?_
    replace hF := zq_ck_e hF; obtain ⟨e_18, hF⟩ := hF
    replace hF := zq_bd hF; obtain ⟨v_16, e_17, hF⟩ := hF
    refine zq_cV (pc' := 20) C (c_X6_joined e_17) yv_X6_joined wd_462 zq_K6 e_18 dX6_apex_17 rfl rfl rfl ⟨Nat.le_of_ble_eq_true rfl, Nat.le_of_ble_eq_true rfl⟩ (Nat.le_of_ble_eq_true rfl) ⟨rfl, rfl⟩ ⟨Nat.le_of_ble_eq_true rfl, Nat.le_of_ble_eq_true rfl⟩ rfl ?_
    refine zq_if_eq (pc' := 23) C 34 dX6_apex_20 (by decide) rfl (fun c_19 => ?_) (fun c_19 => ?_)
    · have hF := (zq_ifp hF (zq_b0.mp c_19))
      skip
      refine zq_iload (pc' := 36) C dX6_apex_34 rfl rfl ?_
      refine zq_iconst (pc' := 37) C 1 dX6_apex_36 rfl (by decide) ?_
      refine zq_iadd (pc' := 38) C dX6_apex_37 rfl ?_
      refine zq_aload_n (pc' := 39) C dX6_apex_38 rfl rfl rfl ?_
      replace hF := zq_bd hF; obtain ⟨v_20, e_21, hF⟩ := hF
      refine zq_getR (j := 0) (pc' := 42) C zq_K6 zq_in6w (Or.inl wd_448) (by decide) rfl dX6_apex_39 rfl e_21 ?_
      refine zq_iconst (pc' := 43) C 0 dX6_apex_42 rfl (by decide) ?_
      replace hF := zq_bd hF; obtain ⟨v_22, e_23, hF⟩ := hF
      refine zq_iaload (pc' := 44) C dX6_apex_43 rfl e_23 ?_
      replace hF := zq_nz_e hF; obtain ⟨e_24, hF⟩ := hF
      refine zq_irem (pc' := 45) C dX6_apex_44 rfl e_24 ?_
      replace hF := zq_let_e hF; obtain ⟨v_25, e_26, hF⟩ := hF
      refine zq_istore (lv' := [(4, .int v_25), (0, .ref t), (1, .int x1), (2, .int x2), (3, .int x3)]) (pc' := 47) C dX6_apex_45 rfl (by decide) e_26 rfl ?_
      refine zq_goto C 12 dX6_apex_47 (by decide) ?_
      cases hF
      exact zq_sub [1, 2, 3, 4, 0] rfl (hrec_13 _ rfl)
    · have hF := (zq_ifn hF (fun q => c_19 (zq_b0.mpr q)))
      refine zq_aload_n (pc' := 24) C dX6_apex_23 rfl rfl rfl ?_
      refine zq_iload_n (pc' := 25) C dX6_apex_24 rfl rfl rfl ?_
      refine zq_iload (pc' := 27) C dX6_apex_25 rfl rfl ?_
      refine zq_iload_n (pc' := 28) C dX6_apex_27 rfl rfl rfl ?_
      replace hF := zq_ck_e hF; obtain ⟨e_29, hF⟩ := hF
      replace hF := zq_bd hF; obtain ⟨v_27, e_28, hF⟩ := hF
      refine zq_cV (pc' := 31) C (c_X6_joined e_28) yv_X6_joined wd_462 zq_K6 e_29 dX6_apex_28 rfl rfl rfl ⟨Nat.le_of_ble_eq_true rfl, Nat.le_of_ble_eq_true rfl⟩ (Nat.le_of_ble_eq_true rfl) ⟨rfl, rfl⟩ ⟨Nat.le_of_ble_eq_true rfl, Nat.le_of_ble_eq_true rfl⟩ rfl ?_
      refine zq_if_ne (pc' := 34) C 50 dX6_apex_31 (by decide) rfl (fun c_30 => ?_) (fun c_30 => ?_)
      · have hF := (zq_ifn hF (fun q => c_30 (zq_b0.mpr q)))
        skip
        cases hF
        exact zq_sub [4] rfl (hex_14 _ rfl)
      · have hF := (zq_ifp hF (zq_b0.mp c_30))
        refine zq_iload (pc' := 36) C dX6_apex_34 rfl rfl ?_
        refine zq_iconst (pc' := 37) C 1 dX6_apex_36 rfl (by decide) ?_
        refine zq_iadd (pc' := 38) C dX6_apex_37 rfl ?_
        refine zq_aload_n (pc' := 39) C dX6_apex_38 rfl rfl rfl ?_
        replace hF := zq_bd hF; obtain ⟨v_31, e_32, hF⟩ := hF
        refine zq_getR (j := 0) (pc' := 42) C zq_K6 zq_in6w (Or.inl wd_448) (by decide) rfl dX6_apex_39 rfl e_32 ?_
        refine zq_iconst (pc' := 43) C 0 dX6_apex_42 rfl (by decide) ?_
        replace hF := zq_bd hF; obtain ⟨v_33, e_34, hF⟩ := hF
        refine zq_iaload (pc' := 44) C dX6_apex_43 rfl e_34 ?_
        replace hF := zq_nz_e hF; obtain ⟨e_35, hF⟩ := hF
        refine zq_irem (pc' := 45) C dX6_apex_44 rfl e_35 ?_
        replace hF := zq_let_e hF; obtain ⟨v_36, e_37, hF⟩ := hF
        refine zq_istore (lv' := [(4, .int v_36), (0, .ref t), (1, .int x1), (2, .int x2), (3, .int x3)]) (pc' := 47) C dX6_apex_45 rfl (by decide) e_37 rfl ?_
        refine zq_goto C 12 dX6_apex_47 (by decide) ?_
        cases hF
        exact zq_sub [1, 2, 3, 4, 0] rfl (hrec_13 _ rfl)
  · skip
    obtain ⟨y_11, rfl⟩ : ∃ z9, z9 = r_9 := ⟨_, rfl⟩
    show zq_W X 0 0 h 50 [(4, .int y_11)] []
    refine zq_iload (pc' := 52) C dX6_apex_50 rfl rfl ?_
    have hF := Option.some.inj hF
    subst hF
    exact hE _ _ _ _ (Nat.le_of_ble_eq_true rfl) (Nat.le_of_ble_eq_true rfl) dX6_apex_52
theorem c_X6_apex {h : zq_H} {t : Nat} {x1 : Int32} {x2 : Int32} {x3 : Int32} {out : Int32} (hF : f_X6_apex h t x1 x2 x3 = some out) : zq_M none yX6_apex (Cond.code yX6_apex cX6_apex 5 (some .int) :: zq_all) rm_X6_apex [.ref t, .int x1, .int x2, .int x3] h (some (.int out)) h := zq_met2 (own := RX6) (by decide +kernel) rfl (Nat.le_of_ble_eq_true rfl) rfl ⟨.int, rfl, rfl⟩ (fun X C T hn hE => v_X6_apex C T hn hF hE)
theorem yv_X6_apex : zq_calV yX6_apex RX6 cX6_apex 5 (some .int) 3 := ⟨by decide +kernel, wd_461, wd_467, wd_468, wd_458⟩
def f_X6_flipped (h : zq_H) (t : Nat) (x1 : Int32) (x2 : Int32) : Option Int32 := (Option.bind (zq_gr h t 6 10) fun v_1 => (Option.bind (zq_ai h v_1 x2) fun v_3 => (Option.bind (zq_gr h t 6 11) fun v_5 => (Option.bind (zq_ai h v_5 x2) fun v_7 => (zq_ck h t 6 fun _ => (Option.bind (f_X6_apex h t x1 v_3 v_7) fun v_9 => (zq_ck h t 6 fun _ => (Option.bind (f_X6_apex h t x1 v_7 v_3) fun v_12 => (zq_ck h t 6 fun _ => (Option.bind (f_X6_numberOf h t v_9 v_12) fun v_15 => some (v_15)))))))))))
abbrev rm_X6_flipped : Room := { frames := 3, cells := 0, slots := 0, locals := 70 }
theorem dX6_flipped_0 : decode cX6_flipped 0 = .ok (.aload_n 0, 1) := by decide +kernel
theorem dX6_flipped_1 : decode cX6_flipped 1 = .ok (.getfield 25, 3) := by decide +kernel
theorem dX6_flipped_4 : decode cX6_flipped 4 = .ok (.iload_n 2, 1) := by decide +kernel
theorem dX6_flipped_5 : decode cX6_flipped 5 = .ok (.iaload, 1) := by decide +kernel
theorem dX6_flipped_6 : decode cX6_flipped 6 = .ok (.istore_n 3, 1) := by decide +kernel
theorem dX6_flipped_7 : decode cX6_flipped 7 = .ok (.aload_n 0, 1) := by decide +kernel
theorem dX6_flipped_8 : decode cX6_flipped 8 = .ok (.getfield 28, 3) := by decide +kernel
theorem dX6_flipped_11 : decode cX6_flipped 11 = .ok (.iload_n 2, 1) := by decide +kernel
theorem dX6_flipped_12 : decode cX6_flipped 12 = .ok (.iaload, 1) := by decide +kernel
theorem dX6_flipped_13 : decode cX6_flipped 13 = .ok (.istore 4, 2) := by decide +kernel
theorem dX6_flipped_15 : decode cX6_flipped 15 = .ok (.aload_n 0, 1) := by decide +kernel
theorem dX6_flipped_16 : decode cX6_flipped 16 = .ok (.aload_n 0, 1) := by decide +kernel
theorem dX6_flipped_17 : decode cX6_flipped 17 = .ok (.iload_n 1, 1) := by decide +kernel
theorem dX6_flipped_18 : decode cX6_flipped 18 = .ok (.iload_n 3, 1) := by decide +kernel
theorem dX6_flipped_19 : decode cX6_flipped 19 = .ok (.iload 4, 2) := by decide +kernel
theorem dX6_flipped_21 : decode cX6_flipped 21 = .ok (.invokevirtual 81, 3) := by decide +kernel
theorem dX6_flipped_24 : decode cX6_flipped 24 = .ok (.aload_n 0, 1) := by decide +kernel
theorem dX6_flipped_25 : decode cX6_flipped 25 = .ok (.iload_n 1, 1) := by decide +kernel
theorem dX6_flipped_26 : decode cX6_flipped 26 = .ok (.iload 4, 2) := by decide +kernel
theorem dX6_flipped_28 : decode cX6_flipped 28 = .ok (.iload_n 3, 1) := by decide +kernel
theorem dX6_flipped_29 : decode cX6_flipped 29 = .ok (.invokevirtual 81, 3) := by decide +kernel
theorem dX6_flipped_32 : decode cX6_flipped 32 = .ok (.invokevirtual 70, 3) := by decide +kernel
theorem dX6_flipped_35 : decode cX6_flipped 35 = .ok (.ireturn, 1) := by decide +kernel
set_option maxRecDepth 100000 in
set_option maxHeartbeats 4000000 in
theorem v_X6_flipped {X : zq_X} (C : zq_C X RX6 cX6_flipped 5 zq_all rm_X6_flipped) {h : zq_H} {t : Nat} {x1 : Int32} {x2 : Int32} (T : zq_T X none) (hn : X.2.2.2.2.2.2.2.2.1.name = yX6_flipped.name) {out : Int32} (hF : f_X6_flipped h t x1 x2 = some out) (hE : zq_End X cX6_flipped 0 0 (some (.int out)) h) : zq_W X 0 0 h 0 [(0, .ref t), (1, .int x1), (2, .int x2)] [] := by
  unfold f_X6_flipped at hF
  refine zq_aload_n (pc' := 1) C dX6_flipped_0 rfl rfl rfl ?_
  replace hF := zq_bd hF; obtain ⟨v_1, e_2, hF⟩ := hF
  refine zq_getR (j := 10) (pc' := 4) C zq_K6 zq_in6w (Or.inl wd_449) (by decide) rfl dX6_flipped_1 rfl e_2 ?_
  refine zq_iload_n (pc' := 5) C dX6_flipped_4 rfl rfl rfl ?_
  replace hF := zq_bd hF; obtain ⟨v_3, e_4, hF⟩ := hF
  refine zq_iaload (pc' := 6) C dX6_flipped_5 rfl e_4 ?_
  refine zq_istore_n (lv' := [(3, .int v_3), (0, .ref t), (1, .int x1), (2, .int x2)]) (pc' := 7) C dX6_flipped_6 rfl rfl (by decide) rfl rfl ?_
  refine zq_aload_n (pc' := 8) C dX6_flipped_7 rfl rfl rfl ?_
  replace hF := zq_bd hF; obtain ⟨v_5, e_6, hF⟩ := hF
  refine zq_getR (j := 11) (pc' := 11) C zq_K6 zq_in6w (Or.inl wd_450) (by decide) rfl dX6_flipped_8 rfl e_6 ?_
  refine zq_iload_n (pc' := 12) C dX6_flipped_11 rfl rfl rfl ?_
  replace hF := zq_bd hF; obtain ⟨v_7, e_8, hF⟩ := hF
  refine zq_iaload (pc' := 13) C dX6_flipped_12 rfl e_8 ?_
  refine zq_istore (lv' := [(4, .int v_7), (3, .int v_3), (0, .ref t), (1, .int x1), (2, .int x2)]) (pc' := 15) C dX6_flipped_13 rfl (by decide) rfl rfl ?_
  refine zq_aload_n (pc' := 16) C dX6_flipped_15 rfl rfl rfl ?_
  refine zq_aload_n (pc' := 17) C dX6_flipped_16 rfl rfl rfl ?_
  refine zq_iload_n (pc' := 18) C dX6_flipped_17 rfl rfl rfl ?_
  refine zq_iload_n (pc' := 19) C dX6_flipped_18 rfl rfl rfl ?_
  refine zq_iload (pc' := 21) C dX6_flipped_19 rfl rfl ?_
  replace hF := zq_ck_e hF; obtain ⟨e_11, hF⟩ := hF
  replace hF := zq_bd hF; obtain ⟨v_9, e_10, hF⟩ := hF
  refine zq_cV (pc' := 24) C (c_X6_apex e_10) yv_X6_apex wd_466 zq_K6 e_11 dX6_flipped_21 rfl rfl rfl ⟨Nat.le_of_ble_eq_true rfl, Nat.le_of_ble_eq_true rfl⟩ (Nat.le_of_ble_eq_true rfl) ⟨rfl, rfl⟩ ⟨Nat.le_of_ble_eq_true rfl, Nat.le_of_ble_eq_true rfl⟩ rfl ?_
  refine zq_aload_n (pc' := 25) C dX6_flipped_24 rfl rfl rfl ?_
  refine zq_iload_n (pc' := 26) C dX6_flipped_25 rfl rfl rfl ?_
  refine zq_iload (pc' := 28) C dX6_flipped_26 rfl rfl ?_
  refine zq_iload_n (pc' := 29) C dX6_flipped_28 rfl rfl rfl ?_
  replace hF := zq_ck_e hF; obtain ⟨e_14, hF⟩ := hF
  replace hF := zq_bd hF; obtain ⟨v_12, e_13, hF⟩ := hF
  refine zq_cV (pc' := 32) C (c_X6_apex e_13) yv_X6_apex wd_466 zq_K6 e_14 dX6_flipped_29 rfl rfl rfl ⟨Nat.le_of_ble_eq_true rfl, Nat.le_of_ble_eq_true rfl⟩ (Nat.le_of_ble_eq_true rfl) ⟨rfl, rfl⟩ ⟨Nat.le_of_ble_eq_true rfl, Nat.le_of_ble_eq_true rfl⟩ rfl ?_
  replace hF := zq_ck_e hF; obtain ⟨e_17, hF⟩ := hF
  replace hF := zq_bd hF; obtain ⟨v_15, e_16, hF⟩ := hF
  refine zq_cV (pc' := 35) C (c_X6_numberOf e_16) yv_X6_numberOf wd_455 zq_K6 e_17 dX6_flipped_32 rfl rfl rfl ⟨Nat.le_of_ble_eq_true rfl, Nat.le_of_ble_eq_true rfl⟩ (Nat.le_of_ble_eq_true rfl) ⟨rfl, rfl⟩ ⟨Nat.le_of_ble_eq_true rfl, Nat.le_of_ble_eq_true rfl⟩ rfl ?_
  have hF := Option.some.inj hF
  subst hF
  exact hE _ _ _ _ (Nat.le_of_ble_eq_true rfl) (Nat.le_of_ble_eq_true rfl) dX6_flipped_35
theorem c_X6_flipped {h : zq_H} {t : Nat} {x1 : Int32} {x2 : Int32} {out : Int32} (hF : f_X6_flipped h t x1 x2 = some out) : zq_M none yX6_flipped (Cond.code yX6_flipped cX6_flipped 5 (some .int) :: zq_all) rm_X6_flipped [.ref t, .int x1, .int x2] h (some (.int out)) h := zq_met2 (own := RX6) (by decide +kernel) rfl (Nat.le_of_ble_eq_true rfl) rfl ⟨.int, rfl, rfl⟩ (fun X C T hn hE => v_X6_flipped C T hn hF hE)
theorem yv_X6_flipped : zq_calV yX6_flipped RX6 cX6_flipped 5 (some .int) 2 := ⟨by decide +kernel, wd_465, wd_471, wd_472, wd_458⟩
def f_X6_behindFlip (h : zq_H) (t : Nat) (x1 : Int32) (x2 : Int32) : Option Int32 := (zq_ck h t 6 fun _ => (Option.bind (f_X6_flipped h t x1 x2) fun v_1 => some ((x1 &&& (((1 : Int32) <<< (x2 &&& 31)) ^^^ (-1))) ||| ((1 : Int32) <<< (v_1 &&& 31)))))
abbrev rm_X6_behindFlip : Room := { frames := 4, cells := 0, slots := 0, locals := 94 }
theorem dX6_behindFlip_0 : decode cX6_behindFlip 0 = .ok (.iload_n 1, 1) := by decide +kernel
theorem dX6_behindFlip_1 : decode cX6_behindFlip 1 = .ok (.iconst 1, 1) := by decide +kernel
theorem dX6_behindFlip_2 : decode cX6_behindFlip 2 = .ok (.iload_n 2, 1) := by decide +kernel
theorem dX6_behindFlip_3 : decode cX6_behindFlip 3 = .ok (.ishl, 1) := by decide +kernel
theorem dX6_behindFlip_4 : decode cX6_behindFlip 4 = .ok (.iconst (-1), 1) := by decide +kernel
theorem dX6_behindFlip_5 : decode cX6_behindFlip 5 = .ok (.ixor, 1) := by decide +kernel
theorem dX6_behindFlip_6 : decode cX6_behindFlip 6 = .ok (.iand, 1) := by decide +kernel
theorem dX6_behindFlip_7 : decode cX6_behindFlip 7 = .ok (.iconst 1, 1) := by decide +kernel
theorem dX6_behindFlip_8 : decode cX6_behindFlip 8 = .ok (.aload_n 0, 1) := by decide +kernel
theorem dX6_behindFlip_9 : decode cX6_behindFlip 9 = .ok (.iload_n 1, 1) := by decide +kernel
theorem dX6_behindFlip_10 : decode cX6_behindFlip 10 = .ok (.iload_n 2, 1) := by decide +kernel
theorem dX6_behindFlip_11 : decode cX6_behindFlip 11 = .ok (.invokevirtual 85, 3) := by decide +kernel
theorem dX6_behindFlip_14 : decode cX6_behindFlip 14 = .ok (.ishl, 1) := by decide +kernel
theorem dX6_behindFlip_15 : decode cX6_behindFlip 15 = .ok (.ior, 1) := by decide +kernel
theorem dX6_behindFlip_16 : decode cX6_behindFlip 16 = .ok (.ireturn, 1) := by decide +kernel
set_option maxRecDepth 100000 in
set_option maxHeartbeats 4000000 in
theorem v_X6_behindFlip {X : zq_X} (C : zq_C X RX6 cX6_behindFlip 3 zq_all rm_X6_behindFlip) {h : zq_H} {t : Nat} {x1 : Int32} {x2 : Int32} (T : zq_T X none) (hn : X.2.2.2.2.2.2.2.2.1.name = yX6_behindFlip.name) {out : Int32} (hF : f_X6_behindFlip h t x1 x2 = some out) (hE : zq_End X cX6_behindFlip 0 0 (some (.int out)) h) : zq_W X 0 0 h 0 [(0, .ref t), (1, .int x1), (2, .int x2)] [] := by
  unfold f_X6_behindFlip at hF
  refine zq_iload_n (pc' := 1) C dX6_behindFlip_0 rfl rfl rfl ?_
  refine zq_iconst (pc' := 2) C 1 dX6_behindFlip_1 rfl (by decide) ?_
  refine zq_iload_n (pc' := 3) C dX6_behindFlip_2 rfl rfl rfl ?_
  refine zq_ishl (pc' := 4) C dX6_behindFlip_3 rfl ?_
  refine zq_iconst (pc' := 5) C (-1) dX6_behindFlip_4 rfl (by decide) ?_
  refine zq_ixor (pc' := 6) C dX6_behindFlip_5 rfl ?_
  refine zq_iand (pc' := 7) C dX6_behindFlip_6 rfl ?_
  refine zq_iconst (pc' := 8) C 1 dX6_behindFlip_7 rfl (by decide) ?_
  refine zq_aload_n (pc' := 9) C dX6_behindFlip_8 rfl rfl rfl ?_
  refine zq_iload_n (pc' := 10) C dX6_behindFlip_9 rfl rfl rfl ?_
  refine zq_iload_n (pc' := 11) C dX6_behindFlip_10 rfl rfl rfl ?_
  replace hF := zq_ck_e hF; obtain ⟨e_3, hF⟩ := hF
  replace hF := zq_bd hF; obtain ⟨v_1, e_2, hF⟩ := hF
  refine zq_cV (pc' := 14) C (c_X6_flipped e_2) yv_X6_flipped wd_470 zq_K6 e_3 dX6_behindFlip_11 rfl rfl rfl ⟨Nat.le_of_ble_eq_true rfl, Nat.le_of_ble_eq_true rfl⟩ (Nat.le_of_ble_eq_true rfl) ⟨rfl, rfl⟩ ⟨Nat.le_of_ble_eq_true rfl, Nat.le_of_ble_eq_true rfl⟩ rfl ?_
  refine zq_ishl (pc' := 15) C dX6_behindFlip_14 rfl ?_
  refine zq_ior (pc' := 16) C dX6_behindFlip_15 rfl ?_
  have hF := Option.some.inj hF
  subst hF
  exact hE _ _ _ _ (Nat.le_of_ble_eq_true rfl) (Nat.le_of_ble_eq_true rfl) dX6_behindFlip_16
theorem c_X6_behindFlip {h : zq_H} {t : Nat} {x1 : Int32} {x2 : Int32} {out : Int32} (hF : f_X6_behindFlip h t x1 x2 = some out) : zq_M none yX6_behindFlip (Cond.code yX6_behindFlip cX6_behindFlip 3 (some .int) :: zq_all) rm_X6_behindFlip [.ref t, .int x1, .int x2] h (some (.int out)) h := zq_met2 (own := RX6) (by decide +kernel) rfl (Nat.le_of_ble_eq_true rfl) rfl ⟨.int, rfl, rfl⟩ (fun X C T hn hE => v_X6_behindFlip C T hn hF hE)
theorem yv_X6_behindFlip : zq_calV yX6_behindFlip RX6 cX6_behindFlip 3 (some .int) 2 := ⟨by decide +kernel, wd_469, wd_480, wd_481, wd_458⟩
def f_X6_isKnown (h : zq_H) (t : Nat) (x1 : Int32) : Option Bool := ((zq_lp (σ := Int32 × Int32) (ρ := Int32) (fun s_1 => (Option.bind (zq_gi h t 6 13) fun v_9 => (if v_9 ≤ s_1.2 then some (.inr s_1.1) else (if s_1.1 = 0 then (Option.bind (zq_gr h t 6 14) fun v_15 => (Option.bind (zq_ai h v_15 s_1.2) fun v_17 => (if v_17 = x1 then (zq_let (s_1.2 + 1) fun v_22 => some (.inl (1, v_22))) else (zq_let (s_1.2 + 1) fun v_20 => some (.inl (0, v_20)))))) else (zq_let (s_1.2 + 1) fun v_13 => some (.inl (1, v_13))))))) zq_N (0, 0)).bind (fun y_4 : Int32 => (zq_z y_4 fun b_25 => some (b_25))))
abbrev rm_X6_isKnown : Room := { frames := 0, cells := 0, slots := 0, locals := 0 }
theorem dX6_isKnown_0 : decode cX6_isKnown 0 = .ok (.iconst 0, 1) := by decide +kernel
theorem dX6_isKnown_1 : decode cX6_isKnown 1 = .ok (.istore_n 2, 1) := by decide +kernel
theorem dX6_isKnown_2 : decode cX6_isKnown 2 = .ok (.iconst 0, 1) := by decide +kernel
theorem dX6_isKnown_3 : decode cX6_isKnown 3 = .ok (.istore_n 3, 1) := by decide +kernel
theorem dX6_isKnown_4 : decode cX6_isKnown 4 = .ok (.iload_n 3, 1) := by decide +kernel
theorem dX6_isKnown_5 : decode cX6_isKnown 5 = .ok (.aload_n 0, 1) := by decide +kernel
theorem dX6_isKnown_6 : decode cX6_isKnown 6 = .ok (.getfield 88, 3) := by decide +kernel
theorem dX6_isKnown_9 : decode cX6_isKnown 9 = .ok (.if_icmp .ge 29, 3) := by decide +kernel
theorem dX6_isKnown_12 : decode cX6_isKnown 12 = .ok (.iload_n 2, 1) := by decide +kernel
theorem dX6_isKnown_13 : decode cX6_isKnown 13 = .ok (.ifCond .ne 13, 3) := by decide +kernel
theorem dX6_isKnown_16 : decode cX6_isKnown 16 = .ok (.aload_n 0, 1) := by decide +kernel
theorem dX6_isKnown_17 : decode cX6_isKnown 17 = .ok (.getfield 34, 3) := by decide +kernel
theorem dX6_isKnown_20 : decode cX6_isKnown 20 = .ok (.iload_n 3, 1) := by decide +kernel
theorem dX6_isKnown_21 : decode cX6_isKnown 21 = .ok (.iaload, 1) := by decide +kernel
theorem dX6_isKnown_22 : decode cX6_isKnown 22 = .ok (.iload_n 1, 1) := by decide +kernel
theorem dX6_isKnown_23 : decode cX6_isKnown 23 = .ok (.if_icmp .ne 7, 3) := by decide +kernel
theorem dX6_isKnown_26 : decode cX6_isKnown 26 = .ok (.iconst 1, 1) := by decide +kernel
theorem dX6_isKnown_27 : decode cX6_isKnown 27 = .ok (.goto 4, 3) := by decide +kernel
theorem dX6_isKnown_30 : decode cX6_isKnown 30 = .ok (.iconst 0, 1) := by decide +kernel
theorem dX6_isKnown_31 : decode cX6_isKnown 31 = .ok (.istore_n 2, 1) := by decide +kernel
theorem dX6_isKnown_32 : decode cX6_isKnown 32 = .ok (.iinc 3 1, 3) := by decide +kernel
theorem dX6_isKnown_35 : decode cX6_isKnown 35 = .ok (.goto (-31), 3) := by decide +kernel
theorem dX6_isKnown_38 : decode cX6_isKnown 38 = .ok (.iload_n 2, 1) := by decide +kernel
theorem dX6_isKnown_39 : decode cX6_isKnown 39 = .ok (.ireturn, 1) := by decide +kernel
set_option maxRecDepth 100000 in
set_option maxHeartbeats 4000000 in
theorem v_X6_isKnown {X : zq_X} (C : zq_C X RX6 cX6_isKnown 4 zq_all rm_X6_isKnown) {h : zq_H} {t : Nat} {x1 : Int32} (T : zq_T X none) (hn : X.2.2.2.2.2.2.2.2.1.name = yX6_isKnown.name) {out : Bool} (hF : f_X6_isKnown h t x1 = some out) (hE : zq_End X cX6_isKnown 0 0 (some (.int (zq_b out))) h) : zq_W X 0 0 h 0 [(0, .ref t), (1, .int x1)] [] := by
  unfold f_X6_isKnown at hF
  refine zq_iconst (pc' := 1) C 0 dX6_isKnown_0 rfl (by decide) ?_
  refine zq_istore_n (lv' := [(2, .int 0), (0, .ref t), (1, .int x1)]) (pc' := 2) C dX6_isKnown_1 rfl rfl (by decide) rfl rfl ?_
  refine zq_iconst (pc' := 3) C 0 dX6_isKnown_2 rfl (by decide) ?_
  refine zq_istore_n (lv' := [(3, .int 0), (2, .int 0), (0, .ref t), (1, .int x1)]) (pc' := 4) C dX6_isKnown_3 rfl rfl (by decide) rfl rfl ?_
  refine zq_sub [2, 3, 1, 0] rfl ?_
  replace hF := zq_bd hF; obtain ⟨r_2, e_3, hF⟩ := hF
  refine zq_lpW (fun s_1 => zq_W X 0 0 h 4 [(0, .ref t), (1, .int x1), (2, .int s_1.1), (3, .int s_1.2)] []) (fun y_4 => zq_W X 0 0 h 38 [(2, .int y_4)] []) e_3 (fun s_1 q_8 hF hrec_6 hex_7 => ?_) ?_
  · skip
    refine zq_iload_n (pc' := 5) C dX6_isKnown_4 rfl rfl rfl ?_
    refine zq_aload_n (pc' := 6) C dX6_isKnown_5 rfl rfl rfl ?_
    replace hF := zq_bd hF; obtain ⟨v_9, e_10, hF⟩ := hF
    refine zq_getI (j := 13) (pc' := 9) C zq_K6 zq_in6w (Or.inl wd_474) (by decide) rfl dX6_isKnown_6 rfl e_10 ?_
    refine zq_icmp_ge (pc' := 12) C 38 dX6_isKnown_9 (by decide) rfl (fun c_11 => ?_) (fun c_11 => ?_)
    · have hF := (zq_ifp hF c_11)
      skip
      cases hF
      exact zq_sub [2] rfl (hex_7 _ rfl)
    · have hF := (zq_ifn hF c_11)
      refine zq_iload_n (pc' := 13) C dX6_isKnown_12 rfl rfl rfl ?_
      refine zq_if_ne (pc' := 16) C 26 dX6_isKnown_13 (by decide) rfl (fun c_12 => ?_) (fun c_12 => ?_)
      · have hF := (zq_ifn hF c_12)
        skip
        refine zq_iconst (pc' := 27) C 1 dX6_isKnown_26 rfl (by decide) ?_
        refine zq_goto C 31 dX6_isKnown_27 (by decide) ?_
        refine zq_istore_n (lv' := [(2, .int 1), (0, .ref t), (1, .int x1), (3, .int s_1.2)]) (pc' := 32) C dX6_isKnown_31 rfl rfl (by decide) rfl rfl ?_
        replace hF := zq_let_e hF; obtain ⟨v_13, e_14, hF⟩ := hF
        refine zq_iinc (lv' := [(3, .int v_13), (2, .int 1), (0, .ref t), (1, .int x1)]) (pc' := 35) C dX6_isKnown_32 rfl (by decide) 3 rfl e_14 rfl ?_
        refine zq_goto C 4 dX6_isKnown_35 (by decide) ?_
        cases hF
        exact zq_sub [2, 3, 1, 0] rfl (hrec_6 _ rfl)
      · have hF := (zq_ifp hF c_12)
        refine zq_aload_n (pc' := 17) C dX6_isKnown_16 rfl rfl rfl ?_
        replace hF := zq_bd hF; obtain ⟨v_15, e_16, hF⟩ := hF
        refine zq_getR (j := 14) (pc' := 20) C zq_K6 zq_in6w (Or.inl wd_475) (by decide) rfl dX6_isKnown_17 rfl e_16 ?_
        refine zq_iload_n (pc' := 21) C dX6_isKnown_20 rfl rfl rfl ?_
        replace hF := zq_bd hF; obtain ⟨v_17, e_18, hF⟩ := hF
        refine zq_iaload (pc' := 22) C dX6_isKnown_21 rfl e_18 ?_
        refine zq_iload_n (pc' := 23) C dX6_isKnown_22 rfl rfl rfl ?_
        refine zq_icmp_ne (pc' := 26) C 30 dX6_isKnown_23 (by decide) rfl (fun c_19 => ?_) (fun c_19 => ?_)
        · have hF := (zq_ifn hF c_19)
          skip
          refine zq_iconst (pc' := 31) C 0 dX6_isKnown_30 rfl (by decide) ?_
          refine zq_istore_n (lv' := [(2, .int 0), (0, .ref t), (1, .int x1), (3, .int s_1.2)]) (pc' := 32) C dX6_isKnown_31 rfl rfl (by decide) rfl rfl ?_
          replace hF := zq_let_e hF; obtain ⟨v_20, e_21, hF⟩ := hF
          refine zq_iinc (lv' := [(3, .int v_20), (2, .int 0), (0, .ref t), (1, .int x1)]) (pc' := 35) C dX6_isKnown_32 rfl (by decide) 3 rfl e_21 rfl ?_
          refine zq_goto C 4 dX6_isKnown_35 (by decide) ?_
          cases hF
          exact zq_sub [2, 3, 1, 0] rfl (hrec_6 _ rfl)
        · have hF := (zq_ifp hF c_19)
          refine zq_iconst (pc' := 27) C 1 dX6_isKnown_26 rfl (by decide) ?_
          refine zq_goto C 31 dX6_isKnown_27 (by decide) ?_
          refine zq_istore_n (lv' := [(2, .int 1), (0, .ref t), (1, .int x1), (3, .int s_1.2)]) (pc' := 32) C dX6_isKnown_31 rfl rfl (by decide) rfl rfl ?_
          replace hF := zq_let_e hF; obtain ⟨v_22, e_23, hF⟩ := hF
          refine zq_iinc (lv' := [(3, .int v_22), (2, .int 1), (0, .ref t), (1, .int x1)]) (pc' := 35) C dX6_isKnown_32 rfl (by decide) 3 rfl e_23 rfl ?_
          refine zq_goto C 4 dX6_isKnown_35 (by decide) ?_
          cases hF
          exact zq_sub [2, 3, 1, 0] rfl (hrec_6 _ rfl)
  · skip
    obtain ⟨y_4, rfl⟩ : ∃ z9, z9 = r_2 := ⟨_, rfl⟩
    show zq_W X 0 0 h 38 [(2, .int y_4)] []
    refine zq_iload_n (pc' := 39) C dX6_isKnown_38 rfl rfl rfl ?_
    replace hF := zq_z_e hF; obtain ⟨b_25, e_26, hF⟩ := hF
    subst e_26
    have hF := Option.some.inj hF
    subst hF
    exact hE _ _ _ _ (Nat.le_of_ble_eq_true rfl) (Nat.le_of_ble_eq_true rfl) dX6_isKnown_39
theorem c_X6_isKnown {h : zq_H} {t : Nat} {x1 : Int32} {out : Bool} (hF : f_X6_isKnown h t x1 = some out) : zq_M none yX6_isKnown (Cond.code yX6_isKnown cX6_isKnown 4 (some .boolean) :: zq_all) rm_X6_isKnown [.ref t, .int x1] h (some (.int (zq_b out))) h := zq_met2 (own := RX6) (by decide +kernel) rfl (Nat.le_of_ble_eq_true rfl) rfl ⟨.boolean, rfl, by cases out <;> rfl⟩ (fun X C T hn hE => v_X6_isKnown C T hn hF hE)
theorem yv_X6_isKnown : zq_calV yX6_isKnown RX6 cX6_isKnown 4 (some .boolean) 1 := ⟨by decide +kernel, wd_473, wd_483, wd_484, wd_458⟩
def f_X6_findAll (h : zq_H) (t : Nat) : Option zq_H := (Option.bind (zq_gr h t 6 14) fun v_1 => (zq_ck h t 6 fun _ => (Option.bind (f_X6_fanOf h t 0) fun v_3 => (Option.bind (zq_si h v_1 0 v_3) fun h_6 => (Option.bind (zq_pi h_6 t 6 13 1) fun h_8 => ((zq_lp (σ := Int32 × zq_H) (ρ := zq_H) (fun s_10 => (Option.bind (zq_gi s_10.2 t 6 13) fun v_18 => (if v_18 ≤ s_10.1 then some (.inr s_10.2) else ((zq_lp (σ := Int32 × zq_H) (ρ := zq_H) (fun s_21 => (Option.bind (zq_gi s_21.2 t 6 9) fun v_29 => (if v_29 ≤ s_21.1 then some (.inr s_21.2) else (Option.bind (zq_gr s_21.2 t 6 14) fun v_32 => (Option.bind (zq_ai s_21.2 v_32 s_10.1) fun v_34 => (Option.bind (f_X6_has s_21.2 v_34 s_21.1) fun v_36 => (if v_36 = false then (Option.bind (zq_gr s_21.2 t 6 14) fun v_39 => (Option.bind (zq_ai s_21.2 v_39 s_10.1) fun v_41 => (zq_ck s_21.2 t 6 fun _ => (Option.bind (f_X6_isKnown s_21.2 t v_41) fun v_43 => (if v_43 = false then (Option.bind (zq_gr s_21.2 t 6 14) fun v_49 => (Option.bind (zq_gi s_21.2 t 6 13) fun v_51 => (Option.bind (zq_si s_21.2 v_49 v_51 v_41) fun h_53 => (Option.bind (zq_gi h_53 t 6 13) fun v_55 => (Option.bind (zq_pi h_53 t 6 13 (v_55 + 1)) fun h_57 => (zq_let (s_21.1 + 1) fun v_59 => some (.inl (v_59, h_57)))))))) else (zq_let (s_21.1 + 1) fun v_47 => some (.inl (v_47, s_21.2)))))))) else (Option.bind (zq_gr s_21.2 t 6 14) fun v_61 => (Option.bind (zq_ai s_21.2 v_61 s_10.1) fun v_63 => (zq_ck s_21.2 t 6 fun _ => (Option.bind (f_X6_behindFlip s_21.2 t v_63 s_21.1) fun v_65 => (zq_ck s_21.2 t 6 fun _ => (Option.bind (f_X6_isKnown s_21.2 t v_65) fun v_68 => (if v_68 = false then (Option.bind (zq_gr s_21.2 t 6 14) fun v_74 => (Option.bind (zq_gi s_21.2 t 6 13) fun v_76 => (Option.bind (zq_si s_21.2 v_74 v_76 v_65) fun h_78 => (Option.bind (zq_gi h_78 t 6 13) fun v_80 => (Option.bind (zq_pi h_78 t 6 13 (v_80 + 1)) fun h_82 => (zq_let (s_21.1 + 1) fun v_84 => some (.inl (v_84, h_82)))))))) else (zq_let (s_21.1 + 1) fun v_72 => some (.inl (v_72, s_21.2))))))))))))))))) zq_N (0, s_10.2)).bind (fun y_24 : zq_H => (zq_let (s_10.1 + 1) fun v_86 => some (.inl (v_86, y_24)))))))) zq_N (0, h_8)).bind (fun y_13 : zq_H => some (y_13))))))))
abbrev rm_X6_findAll : Room := { frames := 5, cells := 0, slots := 0, locals := 116 }
theorem dX6_findAll_0 : decode cX6_findAll 0 = .ok (.aload_n 0, 1) := by decide +kernel
theorem dX6_findAll_1 : decode cX6_findAll 1 = .ok (.getfield 34, 3) := by decide +kernel
theorem dX6_findAll_4 : decode cX6_findAll 4 = .ok (.iconst 0, 1) := by decide +kernel
theorem dX6_findAll_5 : decode cX6_findAll 5 = .ok (.aload_n 0, 1) := by decide +kernel
theorem dX6_findAll_6 : decode cX6_findAll 6 = .ok (.iconst 0, 1) := by decide +kernel
theorem dX6_findAll_7 : decode cX6_findAll 7 = .ok (.invokevirtual 52, 3) := by decide +kernel
theorem dX6_findAll_10 : decode cX6_findAll 10 = .ok (.iastore, 1) := by decide +kernel
theorem dX6_findAll_11 : decode cX6_findAll 11 = .ok (.aload_n 0, 1) := by decide +kernel
theorem dX6_findAll_12 : decode cX6_findAll 12 = .ok (.iconst 1, 1) := by decide +kernel
theorem dX6_findAll_13 : decode cX6_findAll 13 = .ok (.putfield 88, 3) := by decide +kernel
theorem dX6_findAll_16 : decode cX6_findAll 16 = .ok (.iconst 0, 1) := by decide +kernel
theorem dX6_findAll_17 : decode cX6_findAll 17 = .ok (.istore_n 1, 1) := by decide +kernel
theorem dX6_findAll_18 : decode cX6_findAll 18 = .ok (.iload_n 1, 1) := by decide +kernel
theorem dX6_findAll_19 : decode cX6_findAll 19 = .ok (.aload_n 0, 1) := by decide +kernel
theorem dX6_findAll_20 : decode cX6_findAll 20 = .ok (.getfield 88, 3) := by decide +kernel
theorem dX6_findAll_23 : decode cX6_findAll 23 = .ok (.if_icmp .ge 87, 3) := by decide +kernel
theorem dX6_findAll_26 : decode cX6_findAll 26 = .ok (.iconst 0, 1) := by decide +kernel
theorem dX6_findAll_27 : decode cX6_findAll 27 = .ok (.istore_n 2, 1) := by decide +kernel
theorem dX6_findAll_28 : decode cX6_findAll 28 = .ok (.iload_n 2, 1) := by decide +kernel
theorem dX6_findAll_29 : decode cX6_findAll 29 = .ok (.aload_n 0, 1) := by decide +kernel
theorem dX6_findAll_30 : decode cX6_findAll 30 = .ok (.getfield 63, 3) := by decide +kernel
theorem dX6_findAll_33 : decode cX6_findAll 33 = .ok (.if_icmp .ge 71, 3) := by decide +kernel
theorem dX6_findAll_36 : decode cX6_findAll 36 = .ok (.aload_n 0, 1) := by decide +kernel
theorem dX6_findAll_37 : decode cX6_findAll 37 = .ok (.getfield 34, 3) := by decide +kernel
theorem dX6_findAll_40 : decode cX6_findAll 40 = .ok (.iload_n 1, 1) := by decide +kernel
theorem dX6_findAll_41 : decode cX6_findAll 41 = .ok (.iaload, 1) := by decide +kernel
theorem dX6_findAll_42 : decode cX6_findAll 42 = .ok (.iload_n 2, 1) := by decide +kernel
theorem dX6_findAll_43 : decode cX6_findAll 43 = .ok (.invokestatic 74, 3) := by decide +kernel
theorem dX6_findAll_46 : decode cX6_findAll 46 = .ok (.ifCond .eq 17, 3) := by decide +kernel
theorem dX6_findAll_49 : decode cX6_findAll 49 = .ok (.aload_n 0, 1) := by decide +kernel
theorem dX6_findAll_50 : decode cX6_findAll 50 = .ok (.aload_n 0, 1) := by decide +kernel
theorem dX6_findAll_51 : decode cX6_findAll 51 = .ok (.getfield 34, 3) := by decide +kernel
theorem dX6_findAll_54 : decode cX6_findAll 54 = .ok (.iload_n 1, 1) := by decide +kernel
theorem dX6_findAll_55 : decode cX6_findAll 55 = .ok (.iaload, 1) := by decide +kernel
theorem dX6_findAll_56 : decode cX6_findAll 56 = .ok (.iload_n 2, 1) := by decide +kernel
theorem dX6_findAll_57 : decode cX6_findAll 57 = .ok (.invokevirtual 91, 3) := by decide +kernel
theorem dX6_findAll_60 : decode cX6_findAll 60 = .ok (.goto 9, 3) := by decide +kernel
theorem dX6_findAll_63 : decode cX6_findAll 63 = .ok (.aload_n 0, 1) := by decide +kernel
theorem dX6_findAll_64 : decode cX6_findAll 64 = .ok (.getfield 34, 3) := by decide +kernel
theorem dX6_findAll_67 : decode cX6_findAll 67 = .ok (.iload_n 1, 1) := by decide +kernel
theorem dX6_findAll_68 : decode cX6_findAll 68 = .ok (.iaload, 1) := by decide +kernel
theorem dX6_findAll_69 : decode cX6_findAll 69 = .ok (.istore_n 3, 1) := by decide +kernel
theorem dX6_findAll_70 : decode cX6_findAll 70 = .ok (.aload_n 0, 1) := by decide +kernel
theorem dX6_findAll_71 : decode cX6_findAll 71 = .ok (.iload_n 3, 1) := by decide +kernel
theorem dX6_findAll_72 : decode cX6_findAll 72 = .ok (.invokevirtual 94, 3) := by decide +kernel
theorem dX6_findAll_75 : decode cX6_findAll 75 = .ok (.ifCond .ne 23, 3) := by decide +kernel
theorem dX6_findAll_78 : decode cX6_findAll 78 = .ok (.aload_n 0, 1) := by decide +kernel
theorem dX6_findAll_79 : decode cX6_findAll 79 = .ok (.getfield 34, 3) := by decide +kernel
theorem dX6_findAll_82 : decode cX6_findAll 82 = .ok (.aload_n 0, 1) := by decide +kernel
theorem dX6_findAll_83 : decode cX6_findAll 83 = .ok (.getfield 88, 3) := by decide +kernel
theorem dX6_findAll_86 : decode cX6_findAll 86 = .ok (.iload_n 3, 1) := by decide +kernel
theorem dX6_findAll_87 : decode cX6_findAll 87 = .ok (.iastore, 1) := by decide +kernel
theorem dX6_findAll_88 : decode cX6_findAll 88 = .ok (.aload_n 0, 1) := by decide +kernel
theorem dX6_findAll_89 : decode cX6_findAll 89 = .ok (.dup, 1) := by decide +kernel
theorem dX6_findAll_90 : decode cX6_findAll 90 = .ok (.getfield 88, 3) := by decide +kernel
theorem dX6_findAll_93 : decode cX6_findAll 93 = .ok (.iconst 1, 1) := by decide +kernel
theorem dX6_findAll_94 : decode cX6_findAll 94 = .ok (.iadd, 1) := by decide +kernel
theorem dX6_findAll_95 : decode cX6_findAll 95 = .ok (.putfield 88, 3) := by decide +kernel
theorem dX6_findAll_98 : decode cX6_findAll 98 = .ok (.iinc 2 1, 3) := by decide +kernel
theorem dX6_findAll_101 : decode cX6_findAll 101 = .ok (.goto (-73), 3) := by decide +kernel
theorem dX6_findAll_104 : decode cX6_findAll 104 = .ok (.iinc 1 1, 3) := by decide +kernel
theorem dX6_findAll_107 : decode cX6_findAll 107 = .ok (.goto (-89), 3) := by decide +kernel
theorem dX6_findAll_110 : decode cX6_findAll 110 = .ok (.return_, 1) := by decide +kernel
set_option maxRecDepth 100000 in
set_option maxHeartbeats 4000000 in
theorem v_X6_findAll {X : zq_X} (C : zq_C X RX6 cX6_findAll 4 zq_all rm_X6_findAll) {h : zq_H} {t : Nat} (T : zq_T X none) (hn : X.2.2.2.2.2.2.2.2.1.name = yX6_findAll.name) {out : zq_H} (hF : f_X6_findAll h t = some out) (hE : zq_End X cX6_findAll 0 0 none out) : zq_W X 0 0 h 0 [(0, .ref t)] [] := by
  unfold f_X6_findAll at hF
  refine zq_aload_n (pc' := 1) C dX6_findAll_0 rfl rfl rfl ?_
  replace hF := zq_bd hF; obtain ⟨v_1, e_2, hF⟩ := hF
  refine zq_getR (j := 14) (pc' := 4) C zq_K6 zq_in6w (Or.inl wd_475) (by decide) rfl dX6_findAll_1 rfl e_2 ?_
  refine zq_iconst (pc' := 5) C 0 dX6_findAll_4 rfl (by decide) ?_
  refine zq_aload_n (pc' := 6) C dX6_findAll_5 rfl rfl rfl ?_
  refine zq_iconst (pc' := 7) C 0 dX6_findAll_6 rfl (by decide) ?_
  replace hF := zq_ck_e hF; obtain ⟨e_5, hF⟩ := hF
  replace hF := zq_bd hF; obtain ⟨v_3, e_4, hF⟩ := hF
  refine zq_cV (pc' := 10) C (c_X6_fanOf e_4) yv_X6_fanOf wd_476 zq_K6 e_5 dX6_findAll_7 rfl rfl rfl ⟨Nat.le_of_ble_eq_true rfl, Nat.le_of_ble_eq_true rfl⟩ (Nat.le_of_ble_eq_true rfl) ⟨rfl, rfl⟩ ⟨Nat.le_of_ble_eq_true rfl, Nat.le_of_ble_eq_true rfl⟩ rfl ?_
  replace hF := zq_bd hF; obtain ⟨h_6, e_7, hF⟩ := hF
  refine zq_iastore (pc' := 11) C dX6_findAll_10 rfl e_7 ?_
  refine zq_aload_n (pc' := 12) C dX6_findAll_11 rfl rfl rfl ?_
  refine zq_iconst (pc' := 13) C 1 dX6_findAll_12 rfl (by decide) ?_
  replace hF := zq_bd hF; obtain ⟨h_8, e_9, hF⟩ := hF
  refine zq_putI (j := 13) (pc' := 16) C zq_K6 zq_in6w (Or.inl wd_474) (by decide) rfl rfl dX6_findAll_13 rfl (Or.inl rfl) e_9 ?_
  refine zq_iconst (pc' := 17) C 0 dX6_findAll_16 rfl (by decide) ?_
  refine zq_istore_n (lv' := [(1, .int 0), (0, .ref t)]) (pc' := 18) C dX6_findAll_17 rfl rfl (by decide) rfl rfl ?_
  refine zq_sub [1, 0] rfl ?_
  replace hF := zq_bd hF; obtain ⟨r_11, e_12, hF⟩ := hF
  refine zq_lpW (fun s_10 => zq_W X 0 0 s_10.2 18 [(0, .ref t), (1, .int s_10.1)] []) (fun y_13 => zq_W X 0 0 y_13 110 [] []) e_12 (fun s_10 q_17 hF hrec_15 hex_16 => ?_) ?_
  · skip
    refine zq_iload_n (pc' := 19) C dX6_findAll_18 rfl rfl rfl ?_
    refine zq_aload_n (pc' := 20) C dX6_findAll_19 rfl rfl rfl ?_
    replace hF := zq_bd hF; obtain ⟨v_18, e_19, hF⟩ := hF
    refine zq_getI (j := 13) (pc' := 23) C zq_K6 zq_in6w (Or.inl wd_474) (by decide) rfl dX6_findAll_20 rfl e_19 ?_
    refine zq_icmp_ge (pc' := 26) C 110 dX6_findAll_23 (by decide) rfl (fun c_20 => ?_) (fun c_20 => ?_)
    · have hF := (zq_ifp hF c_20)
      skip
      cases hF
      exact zq_sub [] rfl (hex_16 _ rfl)
    · have hF := (zq_ifn hF c_20)
      refine zq_iconst (pc' := 27) C 0 dX6_findAll_26 rfl (by decide) ?_
      refine zq_istore_n (lv' := [(2, .int 0), (0, .ref t), (1, .int s_10.1)]) (pc' := 28) C dX6_findAll_27 rfl rfl (by decide) rfl rfl ?_
      refine zq_sub [1, 2, 0] rfl ?_
      replace hF := zq_bd hF; obtain ⟨r_22, e_23, hF⟩ := hF
      refine zq_lpW (fun s_21 => zq_W X 0 0 s_21.2 28 [(0, .ref t), (1, .int s_10.1), (2, .int s_21.1)] []) (fun y_24 => zq_W X 0 0 y_24 104 [(0, .ref t), (1, .int s_10.1)] []) e_23 (fun s_21 q_28 hF hrec_26 hex_27 => ?_) ?_
      · skip
        refine zq_iload_n (pc' := 29) C dX6_findAll_28 rfl rfl rfl ?_
        refine zq_aload_n (pc' := 30) C dX6_findAll_29 rfl rfl rfl ?_
        replace hF := zq_bd hF; obtain ⟨v_29, e_30, hF⟩ := hF
        refine zq_getI (j := 9) (pc' := 33) C zq_K6 zq_in6w (Or.inl wd_446) (by decide) rfl dX6_findAll_30 rfl e_30 ?_
        refine zq_icmp_ge (pc' := 36) C 104 dX6_findAll_33 (by decide) rfl (fun c_31 => ?_) (fun c_31 => ?_)
        · have hF := (zq_ifp hF c_31)
          skip
          cases hF
          exact zq_sub [0, 1] rfl (hex_27 _ rfl)
        · have hF := (zq_ifn hF c_31)
          refine zq_aload_n (pc' := 37) C dX6_findAll_36 rfl rfl rfl ?_
          replace hF := zq_bd hF; obtain ⟨v_32, e_33, hF⟩ := hF
          refine zq_getR (j := 14) (pc' := 40) C zq_K6 zq_in6w (Or.inl wd_475) (by decide) rfl dX6_findAll_37 rfl e_33 ?_
          refine zq_iload_n (pc' := 41) C dX6_findAll_40 rfl rfl rfl ?_
          replace hF := zq_bd hF; obtain ⟨v_34, e_35, hF⟩ := hF
          refine zq_iaload (pc' := 42) C dX6_findAll_41 rfl e_35 ?_
          refine zq_iload_n (pc' := 43) C dX6_findAll_42 rfl rfl rfl ?_
          replace hF := zq_bd hF; obtain ⟨v_36, e_37, hF⟩ := hF
          refine zq_cS (pc' := 46) C (c_X6_has e_37) ys_X6_has wd_459 dX6_findAll_43 rfl rfl rfl ⟨Nat.le_of_ble_eq_true rfl, Nat.le_of_ble_eq_true rfl⟩ (Nat.le_of_ble_eq_true rfl) ⟨rfl, rfl⟩ ⟨Nat.le_of_ble_eq_true rfl, Nat.le_of_ble_eq_true rfl⟩ rfl ?_
          refine zq_if_eq (pc' := 49) C 63 dX6_findAll_46 (by decide) rfl (fun c_38 => ?_) (fun c_38 => ?_)
          · have hF := (zq_ifp hF (zq_b0.mp c_38))
            skip
            refine zq_aload_n (pc' := 64) C dX6_findAll_63 rfl rfl rfl ?_
            replace hF := zq_bd hF; obtain ⟨v_39, e_40, hF⟩ := hF
            refine zq_getR (j := 14) (pc' := 67) C zq_K6 zq_in6w (Or.inl wd_475) (by decide) rfl dX6_findAll_64 rfl e_40 ?_
            refine zq_iload_n (pc' := 68) C dX6_findAll_67 rfl rfl rfl ?_
            replace hF := zq_bd hF; obtain ⟨v_41, e_42, hF⟩ := hF
            refine zq_iaload (pc' := 69) C dX6_findAll_68 rfl e_42 ?_
            refine zq_istore_n (lv' := [(3, .int v_41), (0, .ref t), (1, .int s_10.1), (2, .int s_21.1)]) (pc' := 70) C dX6_findAll_69 rfl rfl (by decide) rfl rfl ?_
            refine zq_aload_n (pc' := 71) C dX6_findAll_70 rfl rfl rfl ?_
            refine zq_iload_n (pc' := 72) C dX6_findAll_71 rfl rfl rfl ?_
            replace hF := zq_ck_e hF; obtain ⟨e_45, hF⟩ := hF
            replace hF := zq_bd hF; obtain ⟨v_43, e_44, hF⟩ := hF
            refine zq_cV (pc' := 75) C (c_X6_isKnown e_44) yv_X6_isKnown wd_482 zq_K6 e_45 dX6_findAll_72 rfl rfl rfl ⟨Nat.le_of_ble_eq_true rfl, Nat.le_of_ble_eq_true rfl⟩ (Nat.le_of_ble_eq_true rfl) ⟨rfl, rfl⟩ ⟨Nat.le_of_ble_eq_true rfl, Nat.le_of_ble_eq_true rfl⟩ rfl ?_
            refine zq_if_ne (pc' := 78) C 98 dX6_findAll_75 (by decide) rfl (fun c_46 => ?_) (fun c_46 => ?_)
            · have hF := (zq_ifn hF (fun q => c_46 (zq_b0.mpr q)))
              skip
              replace hF := zq_let_e hF; obtain ⟨v_47, e_48, hF⟩ := hF
              refine zq_iinc (lv' := [(2, .int v_47), (3, .int v_41), (0, .ref t), (1, .int s_10.1)]) (pc' := 101) C dX6_findAll_98 rfl (by decide) 3 rfl e_48 rfl ?_
              refine zq_goto C 28 dX6_findAll_101 (by decide) ?_
              cases hF
              exact zq_sub [2, 3, 0] rfl (hrec_26 _ rfl)
            · have hF := (zq_ifp hF (zq_b0.mp c_46))
              refine zq_aload_n (pc' := 79) C dX6_findAll_78 rfl rfl rfl ?_
              replace hF := zq_bd hF; obtain ⟨v_49, e_50, hF⟩ := hF
              refine zq_getR (j := 14) (pc' := 82) C zq_K6 zq_in6w (Or.inl wd_475) (by decide) rfl dX6_findAll_79 rfl e_50 ?_
              refine zq_aload_n (pc' := 83) C dX6_findAll_82 rfl rfl rfl ?_
              replace hF := zq_bd hF; obtain ⟨v_51, e_52, hF⟩ := hF
              refine zq_getI (j := 13) (pc' := 86) C zq_K6 zq_in6w (Or.inl wd_474) (by decide) rfl dX6_findAll_83 rfl e_52 ?_
              refine zq_iload_n (pc' := 87) C dX6_findAll_86 rfl rfl rfl ?_
              replace hF := zq_bd hF; obtain ⟨h_53, e_54, hF⟩ := hF
              refine zq_iastore (pc' := 88) C dX6_findAll_87 rfl e_54 ?_
              refine zq_aload_n (pc' := 89) C dX6_findAll_88 rfl rfl rfl ?_
              refine zq_dup (pc' := 90) C dX6_findAll_89 rfl rfl ?_
              replace hF := zq_bd hF; obtain ⟨v_55, e_56, hF⟩ := hF
              refine zq_getI (j := 13) (pc' := 93) C zq_K6 zq_in6w (Or.inl wd_474) (by decide) rfl dX6_findAll_90 rfl e_56 ?_
              refine zq_iconst (pc' := 94) C 1 dX6_findAll_93 rfl (by decide) ?_
              refine zq_iadd (pc' := 95) C dX6_findAll_94 rfl ?_
              replace hF := zq_bd hF; obtain ⟨h_57, e_58, hF⟩ := hF
              refine zq_putI (j := 13) (pc' := 98) C zq_K6 zq_in6w (Or.inl wd_474) (by decide) rfl rfl dX6_findAll_95 rfl (Or.inl rfl) e_58 ?_
              replace hF := zq_let_e hF; obtain ⟨v_59, e_60, hF⟩ := hF
              refine zq_iinc (lv' := [(2, .int v_59), (3, .int v_41), (0, .ref t), (1, .int s_10.1)]) (pc' := 101) C dX6_findAll_98 rfl (by decide) 3 rfl e_60 rfl ?_
              refine zq_goto C 28 dX6_findAll_101 (by decide) ?_
              cases hF
              exact zq_sub [2, 3, 0] rfl (hrec_26 _ rfl)
          · have hF := (zq_ifn hF (fun q => c_38 (zq_b0.mpr q)))
            refine zq_aload_n (pc' := 50) C dX6_findAll_49 rfl rfl rfl ?_
            refine zq_aload_n (pc' := 51) C dX6_findAll_50 rfl rfl rfl ?_
            replace hF := zq_bd hF; obtain ⟨v_61, e_62, hF⟩ := hF
            refine zq_getR (j := 14) (pc' := 54) C zq_K6 zq_in6w (Or.inl wd_475) (by decide) rfl dX6_findAll_51 rfl e_62 ?_
            refine zq_iload_n (pc' := 55) C dX6_findAll_54 rfl rfl rfl ?_
            replace hF := zq_bd hF; obtain ⟨v_63, e_64, hF⟩ := hF
            refine zq_iaload (pc' := 56) C dX6_findAll_55 rfl e_64 ?_
            refine zq_iload_n (pc' := 57) C dX6_findAll_56 rfl rfl rfl ?_
            replace hF := zq_ck_e hF; obtain ⟨e_67, hF⟩ := hF
            replace hF := zq_bd hF; obtain ⟨v_65, e_66, hF⟩ := hF
            refine zq_cV (pc' := 60) C (c_X6_behindFlip e_66) yv_X6_behindFlip wd_479 zq_K6 e_67 dX6_findAll_57 rfl rfl rfl ⟨Nat.le_of_ble_eq_true rfl, Nat.le_of_ble_eq_true rfl⟩ (Nat.le_of_ble_eq_true rfl) ⟨rfl, rfl⟩ ⟨Nat.le_of_ble_eq_true rfl, Nat.le_of_ble_eq_true rfl⟩ rfl ?_
            refine zq_goto C 69 dX6_findAll_60 (by decide) ?_
            refine zq_istore_n (lv' := [(3, .int v_65), (0, .ref t), (1, .int s_10.1), (2, .int s_21.1)]) (pc' := 70) C dX6_findAll_69 rfl rfl (by decide) rfl rfl ?_
            refine zq_aload_n (pc' := 71) C dX6_findAll_70 rfl rfl rfl ?_
            refine zq_iload_n (pc' := 72) C dX6_findAll_71 rfl rfl rfl ?_
            replace hF := zq_ck_e hF; obtain ⟨e_70, hF⟩ := hF
            replace hF := zq_bd hF; obtain ⟨v_68, e_69, hF⟩ := hF
            refine zq_cV (pc' := 75) C (c_X6_isKnown e_69) yv_X6_isKnown wd_482 zq_K6 e_70 dX6_findAll_72 rfl rfl rfl ⟨Nat.le_of_ble_eq_true rfl, Nat.le_of_ble_eq_true rfl⟩ (Nat.le_of_ble_eq_true rfl) ⟨rfl, rfl⟩ ⟨Nat.le_of_ble_eq_true rfl, Nat.le_of_ble_eq_true rfl⟩ rfl ?_
            refine zq_if_ne (pc' := 78) C 98 dX6_findAll_75 (by decide) rfl (fun c_71 => ?_) (fun c_71 => ?_)
            · have hF := (zq_ifn hF (fun q => c_71 (zq_b0.mpr q)))
              skip
              replace hF := zq_let_e hF; obtain ⟨v_72, e_73, hF⟩ := hF
              refine zq_iinc (lv' := [(2, .int v_72), (3, .int v_65), (0, .ref t), (1, .int s_10.1)]) (pc' := 101) C dX6_findAll_98 rfl (by decide) 3 rfl e_73 rfl ?_
              refine zq_goto C 28 dX6_findAll_101 (by decide) ?_
              cases hF
              exact zq_sub [2, 3, 0] rfl (hrec_26 _ rfl)
            · have hF := (zq_ifp hF (zq_b0.mp c_71))
              refine zq_aload_n (pc' := 79) C dX6_findAll_78 rfl rfl rfl ?_
              replace hF := zq_bd hF; obtain ⟨v_74, e_75, hF⟩ := hF
              refine zq_getR (j := 14) (pc' := 82) C zq_K6 zq_in6w (Or.inl wd_475) (by decide) rfl dX6_findAll_79 rfl e_75 ?_
              refine zq_aload_n (pc' := 83) C dX6_findAll_82 rfl rfl rfl ?_
              replace hF := zq_bd hF; obtain ⟨v_76, e_77, hF⟩ := hF
              refine zq_getI (j := 13) (pc' := 86) C zq_K6 zq_in6w (Or.inl wd_474) (by decide) rfl dX6_findAll_83 rfl e_77 ?_
              refine zq_iload_n (pc' := 87) C dX6_findAll_86 rfl rfl rfl ?_
              replace hF := zq_bd hF; obtain ⟨h_78, e_79, hF⟩ := hF
              refine zq_iastore (pc' := 88) C dX6_findAll_87 rfl e_79 ?_
              refine zq_aload_n (pc' := 89) C dX6_findAll_88 rfl rfl rfl ?_
              refine zq_dup (pc' := 90) C dX6_findAll_89 rfl rfl ?_
              replace hF := zq_bd hF; obtain ⟨v_80, e_81, hF⟩ := hF
              refine zq_getI (j := 13) (pc' := 93) C zq_K6 zq_in6w (Or.inl wd_474) (by decide) rfl dX6_findAll_90 rfl e_81 ?_
              refine zq_iconst (pc' := 94) C 1 dX6_findAll_93 rfl (by decide) ?_
              refine zq_iadd (pc' := 95) C dX6_findAll_94 rfl ?_
              replace hF := zq_bd hF; obtain ⟨h_82, e_83, hF⟩ := hF
              refine zq_putI (j := 13) (pc' := 98) C zq_K6 zq_in6w (Or.inl wd_474) (by decide) rfl rfl dX6_findAll_95 rfl (Or.inl rfl) e_83 ?_
              replace hF := zq_let_e hF; obtain ⟨v_84, e_85, hF⟩ := hF
              refine zq_iinc (lv' := [(2, .int v_84), (3, .int v_65), (0, .ref t), (1, .int s_10.1)]) (pc' := 101) C dX6_findAll_98 rfl (by decide) 3 rfl e_85 rfl ?_
              refine zq_goto C 28 dX6_findAll_101 (by decide) ?_
              cases hF
              exact zq_sub [2, 3, 0] rfl (hrec_26 _ rfl)
      · skip
        obtain ⟨y_24, rfl⟩ : ∃ z9, z9 = r_22 := ⟨_, rfl⟩
        show zq_W X 0 0 y_24 104 [(0, .ref t), (1, .int s_10.1)] []
        replace hF := zq_let_e hF; obtain ⟨v_86, e_87, hF⟩ := hF
        refine zq_iinc (lv' := [(1, .int v_86), (0, .ref t)]) (pc' := 107) C dX6_findAll_104 rfl (by decide) 1 rfl e_87 rfl ?_
        refine zq_goto C 18 dX6_findAll_107 (by decide) ?_
        cases hF
        exact zq_sub [1, 0] rfl (hrec_15 _ rfl)
  · skip
    obtain ⟨y_13, rfl⟩ : ∃ z9, z9 = r_11 := ⟨_, rfl⟩
    show zq_W X 0 0 y_13 110 [] []
    have hF := Option.some.inj hF
    subst hF
    exact hE _ _ _ _ (Nat.le_of_ble_eq_true rfl) (Nat.le_of_ble_eq_true rfl) dX6_findAll_110
theorem c_X6_findAll {h : zq_H} {t : Nat} {out : zq_H} (hF : f_X6_findAll h t = some out) : zq_M none yX6_findAll (Cond.code yX6_findAll cX6_findAll 4 none :: zq_all) rm_X6_findAll [.ref t] h none out := zq_met2 (own := RX6) (by decide +kernel) rfl (Nat.le_of_ble_eq_true rfl) rfl rfl (fun X C T hn hE => v_X6_findAll C T hn hF hE)
theorem yv_X6_findAll : zq_calV yX6_findAll RX6 cX6_findAll 4 none 0 := ⟨by decide +kernel, wd_485, wd_517, wd_518, wd_458⟩
def f_X6_sortAll (h : zq_H) (t : Nat) : Option zq_H := ((zq_lp (σ := Int32 × zq_H) (ρ := zq_H) (fun s_1 => (Option.bind (zq_gi s_1.2 t 6 13) fun v_9 => (if v_9 ≤ s_1.1 then some (.inr s_1.2) else (Option.bind (zq_gr s_1.2 t 6 14) fun v_12 => (Option.bind (zq_ai s_1.2 v_12 s_1.1) fun v_14 => ((zq_lp (σ := Int32 × zq_H) (ρ := Int32 × zq_H) (fun s_16 => (if s_16.1 ≤ 0 then some (.inr (s_16.1, s_16.2)) else (Option.bind (zq_gr s_16.2 t 6 14) fun v_25 => (Option.bind (zq_ai s_16.2 v_25 (s_16.1 - 1)) fun v_27 => (if v_27 ≤ v_14 then some (.inr (s_16.1, s_16.2)) else (Option.bind (zq_gr s_16.2 t 6 14) fun v_30 => (Option.bind (zq_gr s_16.2 t 6 14) fun v_32 => (Option.bind (zq_ai s_16.2 v_32 (s_16.1 - 1)) fun v_34 => (Option.bind (zq_si s_16.2 v_30 s_16.1 v_34) fun h_36 => (zq_let (s_16.1 + (-1)) fun v_38 => some (.inl (v_38, h_36)))))))))))) zq_N (s_1.1, s_1.2)).bind (fun y_19 : Int32 × zq_H => (Option.bind (zq_gr y_19.2 t 6 14) fun v_40 => (Option.bind (zq_si y_19.2 v_40 y_19.1 v_14) fun h_42 => (zq_let (s_1.1 + 1) fun v_44 => some (.inl (v_44, h_42)))))))))))) zq_N (1, h)).bind (fun y_4 : zq_H => some (y_4)))
abbrev rm_X6_sortAll : Room := { frames := 0, cells := 0, slots := 0, locals := 0 }
theorem dX6_sortAll_0 : decode cX6_sortAll 0 = .ok (.iconst 1, 1) := by decide +kernel
theorem dX6_sortAll_1 : decode cX6_sortAll 1 = .ok (.istore_n 1, 1) := by decide +kernel
theorem dX6_sortAll_2 : decode cX6_sortAll 2 = .ok (.iload_n 1, 1) := by decide +kernel
theorem dX6_sortAll_3 : decode cX6_sortAll 3 = .ok (.aload_n 0, 1) := by decide +kernel
theorem dX6_sortAll_4 : decode cX6_sortAll 4 = .ok (.getfield 88, 3) := by decide +kernel
theorem dX6_sortAll_7 : decode cX6_sortAll 7 = .ok (.if_icmp .ge 61, 3) := by decide +kernel
theorem dX6_sortAll_10 : decode cX6_sortAll 10 = .ok (.aload_n 0, 1) := by decide +kernel
theorem dX6_sortAll_11 : decode cX6_sortAll 11 = .ok (.getfield 34, 3) := by decide +kernel
theorem dX6_sortAll_14 : decode cX6_sortAll 14 = .ok (.iload_n 1, 1) := by decide +kernel
theorem dX6_sortAll_15 : decode cX6_sortAll 15 = .ok (.iaload, 1) := by decide +kernel
theorem dX6_sortAll_16 : decode cX6_sortAll 16 = .ok (.istore_n 2, 1) := by decide +kernel
theorem dX6_sortAll_17 : decode cX6_sortAll 17 = .ok (.iload_n 1, 1) := by decide +kernel
theorem dX6_sortAll_18 : decode cX6_sortAll 18 = .ok (.istore_n 3, 1) := by decide +kernel
theorem dX6_sortAll_19 : decode cX6_sortAll 19 = .ok (.iload_n 3, 1) := by decide +kernel
theorem dX6_sortAll_20 : decode cX6_sortAll 20 = .ok (.ifCond .le 35, 3) := by decide +kernel
theorem dX6_sortAll_23 : decode cX6_sortAll 23 = .ok (.aload_n 0, 1) := by decide +kernel
theorem dX6_sortAll_24 : decode cX6_sortAll 24 = .ok (.getfield 34, 3) := by decide +kernel
theorem dX6_sortAll_27 : decode cX6_sortAll 27 = .ok (.iload_n 3, 1) := by decide +kernel
theorem dX6_sortAll_28 : decode cX6_sortAll 28 = .ok (.iconst 1, 1) := by decide +kernel
theorem dX6_sortAll_29 : decode cX6_sortAll 29 = .ok (.isub, 1) := by decide +kernel
theorem dX6_sortAll_30 : decode cX6_sortAll 30 = .ok (.iaload, 1) := by decide +kernel
theorem dX6_sortAll_31 : decode cX6_sortAll 31 = .ok (.iload_n 2, 1) := by decide +kernel
theorem dX6_sortAll_32 : decode cX6_sortAll 32 = .ok (.if_icmp .le 23, 3) := by decide +kernel
theorem dX6_sortAll_35 : decode cX6_sortAll 35 = .ok (.aload_n 0, 1) := by decide +kernel
theorem dX6_sortAll_36 : decode cX6_sortAll 36 = .ok (.getfield 34, 3) := by decide +kernel
theorem dX6_sortAll_39 : decode cX6_sortAll 39 = .ok (.iload_n 3, 1) := by decide +kernel
theorem dX6_sortAll_40 : decode cX6_sortAll 40 = .ok (.aload_n 0, 1) := by decide +kernel
theorem dX6_sortAll_41 : decode cX6_sortAll 41 = .ok (.getfield 34, 3) := by decide +kernel
theorem dX6_sortAll_44 : decode cX6_sortAll 44 = .ok (.iload_n 3, 1) := by decide +kernel
theorem dX6_sortAll_45 : decode cX6_sortAll 45 = .ok (.iconst 1, 1) := by decide +kernel
theorem dX6_sortAll_46 : decode cX6_sortAll 46 = .ok (.isub, 1) := by decide +kernel
theorem dX6_sortAll_47 : decode cX6_sortAll 47 = .ok (.iaload, 1) := by decide +kernel
theorem dX6_sortAll_48 : decode cX6_sortAll 48 = .ok (.iastore, 1) := by decide +kernel
theorem dX6_sortAll_49 : decode cX6_sortAll 49 = .ok (.iinc 3 (-1), 3) := by decide +kernel
theorem dX6_sortAll_52 : decode cX6_sortAll 52 = .ok (.goto (-33), 3) := by decide +kernel
theorem dX6_sortAll_55 : decode cX6_sortAll 55 = .ok (.aload_n 0, 1) := by decide +kernel
theorem dX6_sortAll_56 : decode cX6_sortAll 56 = .ok (.getfield 34, 3) := by decide +kernel
theorem dX6_sortAll_59 : decode cX6_sortAll 59 = .ok (.iload_n 3, 1) := by decide +kernel
theorem dX6_sortAll_60 : decode cX6_sortAll 60 = .ok (.iload_n 2, 1) := by decide +kernel
theorem dX6_sortAll_61 : decode cX6_sortAll 61 = .ok (.iastore, 1) := by decide +kernel
theorem dX6_sortAll_62 : decode cX6_sortAll 62 = .ok (.iinc 1 1, 3) := by decide +kernel
theorem dX6_sortAll_65 : decode cX6_sortAll 65 = .ok (.goto (-63), 3) := by decide +kernel
theorem dX6_sortAll_68 : decode cX6_sortAll 68 = .ok (.return_, 1) := by decide +kernel
set_option maxRecDepth 100000 in
set_option maxHeartbeats 4000000 in
theorem v_X6_sortAll {X : zq_X} (C : zq_C X RX6 cX6_sortAll 4 zq_all rm_X6_sortAll) {h : zq_H} {t : Nat} (T : zq_T X none) (hn : X.2.2.2.2.2.2.2.2.1.name = yX6_sortAll.name) {out : zq_H} (hF : f_X6_sortAll h t = some out) (hE : zq_End X cX6_sortAll 0 0 none out) : zq_W X 0 0 h 0 [(0, .ref t)] [] := by
  unfold f_X6_sortAll at hF
  refine zq_iconst (pc' := 1) C 1 dX6_sortAll_0 rfl (by decide) ?_
  refine zq_istore_n (lv' := [(1, .int 1), (0, .ref t)]) (pc' := 2) C dX6_sortAll_1 rfl rfl (by decide) rfl rfl ?_
  refine zq_sub [1, 0] rfl ?_
  replace hF := zq_bd hF; obtain ⟨r_2, e_3, hF⟩ := hF
  refine zq_lpW (fun s_1 => zq_W X 0 0 s_1.2 2 [(0, .ref t), (1, .int s_1.1)] []) (fun y_4 => zq_W X 0 0 y_4 68 [] []) e_3 (fun s_1 q_8 hF hrec_6 hex_7 => ?_) ?_
  · skip
    refine zq_iload_n (pc' := 3) C dX6_sortAll_2 rfl rfl rfl ?_
    refine zq_aload_n (pc' := 4) C dX6_sortAll_3 rfl rfl rfl ?_
    replace hF := zq_bd hF; obtain ⟨v_9, e_10, hF⟩ := hF
    refine zq_getI (j := 13) (pc' := 7) C zq_K6 zq_in6w (Or.inl wd_474) (by decide) rfl dX6_sortAll_4 rfl e_10 ?_
    refine zq_icmp_ge (pc' := 10) C 68 dX6_sortAll_7 (by decide) rfl (fun c_11 => ?_) (fun c_11 => ?_)
    · have hF := (zq_ifp hF c_11)
      skip
      cases hF
      exact zq_sub [] rfl (hex_7 _ rfl)
    · have hF := (zq_ifn hF c_11)
      refine zq_aload_n (pc' := 11) C dX6_sortAll_10 rfl rfl rfl ?_
      replace hF := zq_bd hF; obtain ⟨v_12, e_13, hF⟩ := hF
      refine zq_getR (j := 14) (pc' := 14) C zq_K6 zq_in6w (Or.inl wd_475) (by decide) rfl dX6_sortAll_11 rfl e_13 ?_
      refine zq_iload_n (pc' := 15) C dX6_sortAll_14 rfl rfl rfl ?_
      replace hF := zq_bd hF; obtain ⟨v_14, e_15, hF⟩ := hF
      refine zq_iaload (pc' := 16) C dX6_sortAll_15 rfl e_15 ?_
      refine zq_istore_n (lv' := [(2, .int v_14), (0, .ref t), (1, .int s_1.1)]) (pc' := 17) C dX6_sortAll_16 rfl rfl (by decide) rfl rfl ?_
      refine zq_iload_n (pc' := 18) C dX6_sortAll_17 rfl rfl rfl ?_
      refine zq_istore_n (lv' := [(3, .int s_1.1), (2, .int v_14), (0, .ref t), (1, .int s_1.1)]) (pc' := 19) C dX6_sortAll_18 rfl rfl (by decide) rfl rfl ?_
      refine zq_sub [2, 3, 1, 0] rfl ?_
      replace hF := zq_bd hF; obtain ⟨r_17, e_18, hF⟩ := hF
      refine zq_lpW (fun s_16 => zq_W X 0 0 s_16.2 19 [(0, .ref t), (1, .int s_1.1), (2, .int v_14), (3, .int s_16.1)] []) (fun y_19 => zq_W X 0 0 y_19.2 55 [(0, .ref t), (1, .int s_1.1), (2, .int v_14), (3, .int y_19.1)] []) e_18 (fun s_16 q_23 hF hrec_21 hex_22 => ?_) ?_
      · skip
        refine zq_iload_n (pc' := 20) C dX6_sortAll_19 rfl rfl rfl ?_
        refine zq_if_le (pc' := 23) C 55 dX6_sortAll_20 (by decide) rfl (fun c_24 => ?_) (fun c_24 => ?_)
        · have hF := (zq_ifp hF c_24)
          skip
          cases hF
          exact zq_sub [0, 1, 2, 3] rfl (hex_22 _ rfl)
        · have hF := (zq_ifn hF c_24)
          refine zq_aload_n (pc' := 24) C dX6_sortAll_23 rfl rfl rfl ?_
          replace hF := zq_bd hF; obtain ⟨v_25, e_26, hF⟩ := hF
          refine zq_getR (j := 14) (pc' := 27) C zq_K6 zq_in6w (Or.inl wd_475) (by decide) rfl dX6_sortAll_24 rfl e_26 ?_
          refine zq_iload_n (pc' := 28) C dX6_sortAll_27 rfl rfl rfl ?_
          refine zq_iconst (pc' := 29) C 1 dX6_sortAll_28 rfl (by decide) ?_
          refine zq_isub (pc' := 30) C dX6_sortAll_29 rfl ?_
          replace hF := zq_bd hF; obtain ⟨v_27, e_28, hF⟩ := hF
          refine zq_iaload (pc' := 31) C dX6_sortAll_30 rfl e_28 ?_
          refine zq_iload_n (pc' := 32) C dX6_sortAll_31 rfl rfl rfl ?_
          refine zq_icmp_le (pc' := 35) C 55 dX6_sortAll_32 (by decide) rfl (fun c_29 => ?_) (fun c_29 => ?_)
          · have hF := (zq_ifp hF c_29)
            skip
            cases hF
            exact zq_sub [0, 1, 2, 3] rfl (hex_22 _ rfl)
          · have hF := (zq_ifn hF c_29)
            refine zq_aload_n (pc' := 36) C dX6_sortAll_35 rfl rfl rfl ?_
            replace hF := zq_bd hF; obtain ⟨v_30, e_31, hF⟩ := hF
            refine zq_getR (j := 14) (pc' := 39) C zq_K6 zq_in6w (Or.inl wd_475) (by decide) rfl dX6_sortAll_36 rfl e_31 ?_
            refine zq_iload_n (pc' := 40) C dX6_sortAll_39 rfl rfl rfl ?_
            refine zq_aload_n (pc' := 41) C dX6_sortAll_40 rfl rfl rfl ?_
            replace hF := zq_bd hF; obtain ⟨v_32, e_33, hF⟩ := hF
            refine zq_getR (j := 14) (pc' := 44) C zq_K6 zq_in6w (Or.inl wd_475) (by decide) rfl dX6_sortAll_41 rfl e_33 ?_
            refine zq_iload_n (pc' := 45) C dX6_sortAll_44 rfl rfl rfl ?_
            refine zq_iconst (pc' := 46) C 1 dX6_sortAll_45 rfl (by decide) ?_
            refine zq_isub (pc' := 47) C dX6_sortAll_46 rfl ?_
            replace hF := zq_bd hF; obtain ⟨v_34, e_35, hF⟩ := hF
            refine zq_iaload (pc' := 48) C dX6_sortAll_47 rfl e_35 ?_
            replace hF := zq_bd hF; obtain ⟨h_36, e_37, hF⟩ := hF
            refine zq_iastore (pc' := 49) C dX6_sortAll_48 rfl e_37 ?_
            replace hF := zq_let_e hF; obtain ⟨v_38, e_39, hF⟩ := hF
            refine zq_iinc (lv' := [(3, .int v_38), (0, .ref t), (1, .int s_1.1), (2, .int v_14)]) (pc' := 52) C dX6_sortAll_49 rfl (by decide) 3 rfl e_39 rfl ?_
            refine zq_goto C 19 dX6_sortAll_52 (by decide) ?_
            cases hF
            exact zq_sub [1, 2, 3, 0] rfl (hrec_21 _ rfl)
      · skip
        obtain ⟨y_19, rfl⟩ : ∃ z9, z9 = r_17 := ⟨_, rfl⟩
        show zq_W X 0 0 y_19.2 55 [(0, .ref t), (1, .int s_1.1), (2, .int v_14), (3, .int y_19.1)] []
        refine zq_aload_n (pc' := 56) C dX6_sortAll_55 rfl rfl rfl ?_
        replace hF := zq_bd hF; obtain ⟨v_40, e_41, hF⟩ := hF
        refine zq_getR (j := 14) (pc' := 59) C zq_K6 zq_in6w (Or.inl wd_475) (by decide) rfl dX6_sortAll_56 rfl e_41 ?_
        refine zq_iload_n (pc' := 60) C dX6_sortAll_59 rfl rfl rfl ?_
        refine zq_iload_n (pc' := 61) C dX6_sortAll_60 rfl rfl rfl ?_
        replace hF := zq_bd hF; obtain ⟨h_42, e_43, hF⟩ := hF
        refine zq_iastore (pc' := 62) C dX6_sortAll_61 rfl e_43 ?_
        replace hF := zq_let_e hF; obtain ⟨v_44, e_45, hF⟩ := hF
        refine zq_iinc (lv' := [(1, .int v_44), (0, .ref t), (2, .int v_14), (3, .int y_19.1)]) (pc' := 65) C dX6_sortAll_62 rfl (by decide) 1 rfl e_45 rfl ?_
        refine zq_goto C 2 dX6_sortAll_65 (by decide) ?_
        cases hF
        exact zq_sub [1, 0] rfl (hrec_6 _ rfl)
  · skip
    obtain ⟨y_4, rfl⟩ : ∃ z9, z9 = r_2 := ⟨_, rfl⟩
    show zq_W X 0 0 y_4 68 [] []
    have hF := Option.some.inj hF
    subst hF
    exact hE _ _ _ _ (Nat.le_of_ble_eq_true rfl) (Nat.le_of_ble_eq_true rfl) dX6_sortAll_68
theorem c_X6_sortAll {h : zq_H} {t : Nat} {out : zq_H} (hF : f_X6_sortAll h t = some out) : zq_M none yX6_sortAll (Cond.code yX6_sortAll cX6_sortAll 4 none :: zq_all) rm_X6_sortAll [.ref t] h none out := zq_met2 (own := RX6) (by decide +kernel) rfl (Nat.le_of_ble_eq_true rfl) rfl rfl (fun X C T hn hE => v_X6_sortAll C T hn hF hE)
theorem yv_X6_sortAll : zq_calV yX6_sortAll RX6 cX6_sortAll 4 none 0 := ⟨by decide +kernel, wd_486, wd_520, wd_521, wd_458⟩
def f_X6_indexOf (h : zq_H) (t : Nat) (x1 : Int32) : Option Int32 := (Option.bind (zq_gi h t 6 13) fun v_1 => (zq_let (v_1 - 1) fun v_3 => ((zq_lp (σ := Int32 × Int32) (ρ := Int32) (fun s_5 => (if s_5.2 ≤ s_5.1 then some (.inr s_5.1) else (zq_let ((s_5.1 + s_5.2) / 2) fun v_14 => (Option.bind (zq_gr h t 6 14) fun v_16 => (Option.bind (zq_ai h v_16 v_14) fun v_18 => (if x1 ≤ v_18 then some (.inl (s_5.1, v_14)) else (zq_let (v_14 + 1) fun v_21 => some (.inl (v_21, s_5.2))))))))) zq_N (0, v_3)).bind (fun y_8 : Int32 => some (y_8)))))
abbrev rm_X6_indexOf : Room := { frames := 0, cells := 0, slots := 0, locals := 0 }
theorem dX6_indexOf_0 : decode cX6_indexOf 0 = .ok (.iconst 0, 1) := by decide +kernel
theorem dX6_indexOf_1 : decode cX6_indexOf 1 = .ok (.istore_n 2, 1) := by decide +kernel
theorem dX6_indexOf_2 : decode cX6_indexOf 2 = .ok (.aload_n 0, 1) := by decide +kernel
theorem dX6_indexOf_3 : decode cX6_indexOf 3 = .ok (.getfield 88, 3) := by decide +kernel
theorem dX6_indexOf_6 : decode cX6_indexOf 6 = .ok (.iconst 1, 1) := by decide +kernel
theorem dX6_indexOf_7 : decode cX6_indexOf 7 = .ok (.isub, 1) := by decide +kernel
theorem dX6_indexOf_8 : decode cX6_indexOf 8 = .ok (.istore_n 3, 1) := by decide +kernel
theorem dX6_indexOf_9 : decode cX6_indexOf 9 = .ok (.iload_n 2, 1) := by decide +kernel
theorem dX6_indexOf_10 : decode cX6_indexOf 10 = .ok (.iload_n 3, 1) := by decide +kernel
theorem dX6_indexOf_11 : decode cX6_indexOf 11 = .ok (.if_icmp .ge 35, 3) := by decide +kernel
theorem dX6_indexOf_14 : decode cX6_indexOf 14 = .ok (.iload_n 2, 1) := by decide +kernel
theorem dX6_indexOf_15 : decode cX6_indexOf 15 = .ok (.iload_n 3, 1) := by decide +kernel
theorem dX6_indexOf_16 : decode cX6_indexOf 16 = .ok (.iadd, 1) := by decide +kernel
theorem dX6_indexOf_17 : decode cX6_indexOf 17 = .ok (.iconst 2, 1) := by decide +kernel
theorem dX6_indexOf_18 : decode cX6_indexOf 18 = .ok (.idiv, 1) := by decide +kernel
theorem dX6_indexOf_19 : decode cX6_indexOf 19 = .ok (.istore 4, 2) := by decide +kernel
theorem dX6_indexOf_21 : decode cX6_indexOf 21 = .ok (.aload_n 0, 1) := by decide +kernel
theorem dX6_indexOf_22 : decode cX6_indexOf 22 = .ok (.getfield 34, 3) := by decide +kernel
theorem dX6_indexOf_25 : decode cX6_indexOf 25 = .ok (.iload 4, 2) := by decide +kernel
theorem dX6_indexOf_27 : decode cX6_indexOf 27 = .ok (.iaload, 1) := by decide +kernel
theorem dX6_indexOf_28 : decode cX6_indexOf 28 = .ok (.iload_n 1, 1) := by decide +kernel
theorem dX6_indexOf_29 : decode cX6_indexOf 29 = .ok (.if_icmp .ge 11, 3) := by decide +kernel
theorem dX6_indexOf_32 : decode cX6_indexOf 32 = .ok (.iload 4, 2) := by decide +kernel
theorem dX6_indexOf_34 : decode cX6_indexOf 34 = .ok (.iconst 1, 1) := by decide +kernel
theorem dX6_indexOf_35 : decode cX6_indexOf 35 = .ok (.iadd, 1) := by decide +kernel
theorem dX6_indexOf_36 : decode cX6_indexOf 36 = .ok (.istore_n 2, 1) := by decide +kernel
theorem dX6_indexOf_37 : decode cX6_indexOf 37 = .ok (.goto 6, 3) := by decide +kernel
theorem dX6_indexOf_40 : decode cX6_indexOf 40 = .ok (.iload 4, 2) := by decide +kernel
theorem dX6_indexOf_42 : decode cX6_indexOf 42 = .ok (.istore_n 3, 1) := by decide +kernel
theorem dX6_indexOf_43 : decode cX6_indexOf 43 = .ok (.goto (-34), 3) := by decide +kernel
theorem dX6_indexOf_46 : decode cX6_indexOf 46 = .ok (.iload_n 2, 1) := by decide +kernel
theorem dX6_indexOf_47 : decode cX6_indexOf 47 = .ok (.ireturn, 1) := by decide +kernel
set_option maxRecDepth 100000 in
set_option maxHeartbeats 4000000 in
theorem v_X6_indexOf {X : zq_X} (C : zq_C X RX6 cX6_indexOf 5 zq_all rm_X6_indexOf) {h : zq_H} {t : Nat} {x1 : Int32} (T : zq_T X none) (hn : X.2.2.2.2.2.2.2.2.1.name = yX6_indexOf.name) {out : Int32} (hF : f_X6_indexOf h t x1 = some out) (hE : zq_End X cX6_indexOf 0 0 (some (.int out)) h) : zq_W X 0 0 h 0 [(0, .ref t), (1, .int x1)] [] := by
  unfold f_X6_indexOf at hF
  refine zq_iconst (pc' := 1) C 0 dX6_indexOf_0 rfl (by decide) ?_
  refine zq_istore_n (lv' := [(2, .int 0), (0, .ref t), (1, .int x1)]) (pc' := 2) C dX6_indexOf_1 rfl rfl (by decide) rfl rfl ?_
  refine zq_aload_n (pc' := 3) C dX6_indexOf_2 rfl rfl rfl ?_
  replace hF := zq_bd hF; obtain ⟨v_1, e_2, hF⟩ := hF
  refine zq_getI (j := 13) (pc' := 6) C zq_K6 zq_in6w (Or.inl wd_474) (by decide) rfl dX6_indexOf_3 rfl e_2 ?_
  refine zq_iconst (pc' := 7) C 1 dX6_indexOf_6 rfl (by decide) ?_
  refine zq_isub (pc' := 8) C dX6_indexOf_7 rfl ?_
  replace hF := zq_let_e hF; obtain ⟨v_3, e_4, hF⟩ := hF
  refine zq_istore_n (lv' := [(3, .int v_3), (2, .int 0), (0, .ref t), (1, .int x1)]) (pc' := 9) C dX6_indexOf_8 rfl rfl (by decide) e_4 rfl ?_
  refine zq_sub [2, 3, 1, 0] rfl ?_
  replace hF := zq_bd hF; obtain ⟨r_6, e_7, hF⟩ := hF
  refine zq_lpW (fun s_5 => zq_W X 0 0 h 9 [(0, .ref t), (1, .int x1), (2, .int s_5.1), (3, .int s_5.2)] []) (fun y_8 => zq_W X 0 0 h 46 [(2, .int y_8)] []) e_7 (fun s_5 q_12 hF hrec_10 hex_11 => ?_) ?_
  · skip
    refine zq_iload_n (pc' := 10) C dX6_indexOf_9 rfl rfl rfl ?_
    refine zq_iload_n (pc' := 11) C dX6_indexOf_10 rfl rfl rfl ?_
    refine zq_icmp_ge (pc' := 14) C 46 dX6_indexOf_11 (by decide) rfl (fun c_13 => ?_) (fun c_13 => ?_)
    · have hF := (zq_ifp hF c_13)
      skip
      cases hF
      exact zq_sub [2] rfl (hex_11 _ rfl)
    · have hF := (zq_ifn hF c_13)
      refine zq_iload_n (pc' := 15) C dX6_indexOf_14 rfl rfl rfl ?_
      refine zq_iload_n (pc' := 16) C dX6_indexOf_15 rfl rfl rfl ?_
      refine zq_iadd (pc' := 17) C dX6_indexOf_16 rfl ?_
      refine zq_iconst (pc' := 18) C 2 dX6_indexOf_17 rfl (by decide) ?_
      refine zq_idiv (pc' := 19) C dX6_indexOf_18 rfl (by decide) ?_
      replace hF := zq_let_e hF; obtain ⟨v_14, e_15, hF⟩ := hF
      refine zq_istore (lv' := [(4, .int v_14), (0, .ref t), (1, .int x1), (2, .int s_5.1), (3, .int s_5.2)]) (pc' := 21) C dX6_indexOf_19 rfl (by decide) e_15 rfl ?_
      refine zq_aload_n (pc' := 22) C dX6_indexOf_21 rfl rfl rfl ?_
      replace hF := zq_bd hF; obtain ⟨v_16, e_17, hF⟩ := hF
      refine zq_getR (j := 14) (pc' := 25) C zq_K6 zq_in6w (Or.inl wd_475) (by decide) rfl dX6_indexOf_22 rfl e_17 ?_
      refine zq_iload (pc' := 27) C dX6_indexOf_25 rfl rfl ?_
      replace hF := zq_bd hF; obtain ⟨v_18, e_19, hF⟩ := hF
      refine zq_iaload (pc' := 28) C dX6_indexOf_27 rfl e_19 ?_
      refine zq_iload_n (pc' := 29) C dX6_indexOf_28 rfl rfl rfl ?_
      refine zq_icmp_ge (pc' := 32) C 40 dX6_indexOf_29 (by decide) rfl (fun c_20 => ?_) (fun c_20 => ?_)
      · have hF := (zq_ifp hF c_20)
        skip
        refine zq_iload (pc' := 42) C dX6_indexOf_40 rfl rfl ?_
        refine zq_istore_n (lv' := [(3, .int v_14), (4, .int v_14), (0, .ref t), (1, .int x1), (2, .int s_5.1)]) (pc' := 43) C dX6_indexOf_42 rfl rfl (by decide) rfl rfl ?_
        refine zq_goto C 9 dX6_indexOf_43 (by decide) ?_
        cases hF
        exact zq_sub [2, 3, 4, 0] rfl (hrec_10 _ rfl)
      · have hF := (zq_ifn hF c_20)
        refine zq_iload (pc' := 34) C dX6_indexOf_32 rfl rfl ?_
        refine zq_iconst (pc' := 35) C 1 dX6_indexOf_34 rfl (by decide) ?_
        refine zq_iadd (pc' := 36) C dX6_indexOf_35 rfl ?_
        replace hF := zq_let_e hF; obtain ⟨v_21, e_22, hF⟩ := hF
        refine zq_istore_n (lv' := [(2, .int v_21), (4, .int v_14), (0, .ref t), (1, .int x1), (3, .int s_5.2)]) (pc' := 37) C dX6_indexOf_36 rfl rfl (by decide) e_22 rfl ?_
        refine zq_goto C 43 dX6_indexOf_37 (by decide) ?_
        refine zq_goto C 9 dX6_indexOf_43 (by decide) ?_
        cases hF
        exact zq_sub [2, 3, 0, 4] rfl (hrec_10 _ rfl)
  · skip
    obtain ⟨y_8, rfl⟩ : ∃ z9, z9 = r_6 := ⟨_, rfl⟩
    show zq_W X 0 0 h 46 [(2, .int y_8)] []
    refine zq_iload_n (pc' := 47) C dX6_indexOf_46 rfl rfl rfl ?_
    have hF := Option.some.inj hF
    subst hF
    exact hE _ _ _ _ (Nat.le_of_ble_eq_true rfl) (Nat.le_of_ble_eq_true rfl) dX6_indexOf_47
theorem c_X6_indexOf {h : zq_H} {t : Nat} {x1 : Int32} {out : Int32} (hF : f_X6_indexOf h t x1 = some out) : zq_M none yX6_indexOf (Cond.code yX6_indexOf cX6_indexOf 5 (some .int) :: zq_all) rm_X6_indexOf [.ref t, .int x1] h (some (.int out)) h := zq_met2 (own := RX6) (by decide +kernel) rfl (Nat.le_of_ble_eq_true rfl) rfl ⟨.int, rfl, rfl⟩ (fun X C T hn hE => v_X6_indexOf C T hn hF hE)
theorem yv_X6_indexOf : zq_calV yX6_indexOf RX6 cX6_indexOf 5 (some .int) 1 := ⟨by decide +kernel, wd_487, wd_490, wd_491, wd_458⟩
def f_X6_layLeads (h : zq_H) (t : Nat) : Option zq_H := ((zq_lp (σ := Int32 × zq_H) (ρ := zq_H) (fun s_1 => (Option.bind (zq_gi s_1.2 t 6 13) fun v_9 => (if v_9 ≤ s_1.1 then some (.inr s_1.2) else ((zq_lp (σ := Int32 × Int32 × zq_H) (ρ := zq_H) (fun s_12 => (Option.bind (zq_gi s_12.2.2 t 6 9) fun v_20 => (if v_20 ≤ s_12.2.1 then some (.inr s_12.2.2) else (Option.bind (zq_gr s_12.2.2 t 6 14) fun v_23 => (Option.bind (zq_ai s_12.2.2 v_23 s_1.1) fun v_25 => (Option.bind (f_X6_has s_12.2.2 v_25 s_12.2.1) fun v_27 => (if v_27 = false then (zq_let (s_12.2.1 + 1) fun v_30 => some (.inl (s_12.1, v_30, s_12.2.2))) else (Option.bind (zq_gr s_12.2.2 t 6 15) fun v_32 => (Option.bind (zq_gr s_12.2.2 t 6 14) fun v_34 => (Option.bind (zq_ai s_12.2.2 v_34 s_1.1) fun v_36 => (zq_ck s_12.2.2 t 6 fun _ => (Option.bind (f_X6_behindFlip s_12.2.2 t v_36 s_12.2.1) fun v_38 => (zq_ck s_12.2.2 t 6 fun _ => (Option.bind (f_X6_indexOf s_12.2.2 t v_38) fun v_41 => (Option.bind (zq_si s_12.2.2 v_32 ((6 * s_1.1) + s_12.1) v_41) fun h_44 => (zq_let (s_12.1 + 1) fun v_46 => (zq_let (s_12.2.1 + 1) fun v_48 => some (.inl (v_46, v_48, h_44))))))))))))))))))) zq_N (0, 0, s_1.2)).bind (fun y_15 : zq_H => (zq_let (s_1.1 + 1) fun v_50 => some (.inl (v_50, y_15)))))))) zq_N (0, h)).bind (fun y_4 : zq_H => some (y_4)))
abbrev rm_X6_layLeads : Room := { frames := 5, cells := 0, slots := 0, locals := 116 }
theorem dX6_layLeads_0 : decode cX6_layLeads 0 = .ok (.iconst 0, 1) := by decide +kernel
theorem dX6_layLeads_1 : decode cX6_layLeads 1 = .ok (.istore_n 1, 1) := by decide +kernel
theorem dX6_layLeads_2 : decode cX6_layLeads 2 = .ok (.iload_n 1, 1) := by decide +kernel
theorem dX6_layLeads_3 : decode cX6_layLeads 3 = .ok (.aload_n 0, 1) := by decide +kernel
theorem dX6_layLeads_4 : decode cX6_layLeads 4 = .ok (.getfield 88, 3) := by decide +kernel
theorem dX6_layLeads_7 : decode cX6_layLeads 7 = .ok (.if_icmp .ge 69, 3) := by decide +kernel
theorem dX6_layLeads_10 : decode cX6_layLeads 10 = .ok (.iconst 0, 1) := by decide +kernel
theorem dX6_layLeads_11 : decode cX6_layLeads 11 = .ok (.istore_n 2, 1) := by decide +kernel
theorem dX6_layLeads_12 : decode cX6_layLeads 12 = .ok (.iconst 0, 1) := by decide +kernel
theorem dX6_layLeads_13 : decode cX6_layLeads 13 = .ok (.istore_n 3, 1) := by decide +kernel
theorem dX6_layLeads_14 : decode cX6_layLeads 14 = .ok (.iload_n 3, 1) := by decide +kernel
theorem dX6_layLeads_15 : decode cX6_layLeads 15 = .ok (.aload_n 0, 1) := by decide +kernel
theorem dX6_layLeads_16 : decode cX6_layLeads 16 = .ok (.getfield 63, 3) := by decide +kernel
theorem dX6_layLeads_19 : decode cX6_layLeads 19 = .ok (.if_icmp .ge 51, 3) := by decide +kernel
theorem dX6_layLeads_22 : decode cX6_layLeads 22 = .ok (.aload_n 0, 1) := by decide +kernel
theorem dX6_layLeads_23 : decode cX6_layLeads 23 = .ok (.getfield 34, 3) := by decide +kernel
theorem dX6_layLeads_26 : decode cX6_layLeads 26 = .ok (.iload_n 1, 1) := by decide +kernel
theorem dX6_layLeads_27 : decode cX6_layLeads 27 = .ok (.iaload, 1) := by decide +kernel
theorem dX6_layLeads_28 : decode cX6_layLeads 28 = .ok (.iload_n 3, 1) := by decide +kernel
theorem dX6_layLeads_29 : decode cX6_layLeads 29 = .ok (.invokestatic 74, 3) := by decide +kernel
theorem dX6_layLeads_32 : decode cX6_layLeads 32 = .ok (.ifCond .eq 32, 3) := by decide +kernel
theorem dX6_layLeads_35 : decode cX6_layLeads 35 = .ok (.aload_n 0, 1) := by decide +kernel
theorem dX6_layLeads_36 : decode cX6_layLeads 36 = .ok (.getfield 37, 3) := by decide +kernel
theorem dX6_layLeads_39 : decode cX6_layLeads 39 = .ok (.bipush 6, 2) := by decide +kernel
theorem dX6_layLeads_41 : decode cX6_layLeads 41 = .ok (.iload_n 1, 1) := by decide +kernel
theorem dX6_layLeads_42 : decode cX6_layLeads 42 = .ok (.imul, 1) := by decide +kernel
theorem dX6_layLeads_43 : decode cX6_layLeads 43 = .ok (.iload_n 2, 1) := by decide +kernel
theorem dX6_layLeads_44 : decode cX6_layLeads 44 = .ok (.iadd, 1) := by decide +kernel
theorem dX6_layLeads_45 : decode cX6_layLeads 45 = .ok (.aload_n 0, 1) := by decide +kernel
theorem dX6_layLeads_46 : decode cX6_layLeads 46 = .ok (.aload_n 0, 1) := by decide +kernel
theorem dX6_layLeads_47 : decode cX6_layLeads 47 = .ok (.aload_n 0, 1) := by decide +kernel
theorem dX6_layLeads_48 : decode cX6_layLeads 48 = .ok (.getfield 34, 3) := by decide +kernel
theorem dX6_layLeads_51 : decode cX6_layLeads 51 = .ok (.iload_n 1, 1) := by decide +kernel
theorem dX6_layLeads_52 : decode cX6_layLeads 52 = .ok (.iaload, 1) := by decide +kernel
theorem dX6_layLeads_53 : decode cX6_layLeads 53 = .ok (.iload_n 3, 1) := by decide +kernel
theorem dX6_layLeads_54 : decode cX6_layLeads 54 = .ok (.invokevirtual 91, 3) := by decide +kernel
theorem dX6_layLeads_57 : decode cX6_layLeads 57 = .ok (.invokevirtual 98, 3) := by decide +kernel
theorem dX6_layLeads_60 : decode cX6_layLeads 60 = .ok (.iastore, 1) := by decide +kernel
theorem dX6_layLeads_61 : decode cX6_layLeads 61 = .ok (.iinc 2 1, 3) := by decide +kernel
theorem dX6_layLeads_64 : decode cX6_layLeads 64 = .ok (.iinc 3 1, 3) := by decide +kernel
theorem dX6_layLeads_67 : decode cX6_layLeads 67 = .ok (.goto (-53), 3) := by decide +kernel
theorem dX6_layLeads_70 : decode cX6_layLeads 70 = .ok (.iinc 1 1, 3) := by decide +kernel
theorem dX6_layLeads_73 : decode cX6_layLeads 73 = .ok (.goto (-71), 3) := by decide +kernel
theorem dX6_layLeads_76 : decode cX6_layLeads 76 = .ok (.return_, 1) := by decide +kernel
set_option maxRecDepth 100000 in
set_option maxHeartbeats 4000000 in
theorem v_X6_layLeads {X : zq_X} (C : zq_C X RX6 cX6_layLeads 4 zq_all rm_X6_layLeads) {h : zq_H} {t : Nat} (T : zq_T X none) (hn : X.2.2.2.2.2.2.2.2.1.name = yX6_layLeads.name) {out : zq_H} (hF : f_X6_layLeads h t = some out) (hE : zq_End X cX6_layLeads 0 0 none out) : zq_W X 0 0 h 0 [(0, .ref t)] [] := by
  unfold f_X6_layLeads at hF
  refine zq_iconst (pc' := 1) C 0 dX6_layLeads_0 rfl (by decide) ?_
  refine zq_istore_n (lv' := [(1, .int 0), (0, .ref t)]) (pc' := 2) C dX6_layLeads_1 rfl rfl (by decide) rfl rfl ?_
  refine zq_sub [1, 0] rfl ?_
  replace hF := zq_bd hF; obtain ⟨r_2, e_3, hF⟩ := hF
  refine zq_lpW (fun s_1 => zq_W X 0 0 s_1.2 2 [(0, .ref t), (1, .int s_1.1)] []) (fun y_4 => zq_W X 0 0 y_4 76 [] []) e_3 (fun s_1 q_8 hF hrec_6 hex_7 => ?_) ?_
  · skip
    refine zq_iload_n (pc' := 3) C dX6_layLeads_2 rfl rfl rfl ?_
    refine zq_aload_n (pc' := 4) C dX6_layLeads_3 rfl rfl rfl ?_
    replace hF := zq_bd hF; obtain ⟨v_9, e_10, hF⟩ := hF
    refine zq_getI (j := 13) (pc' := 7) C zq_K6 zq_in6w (Or.inl wd_474) (by decide) rfl dX6_layLeads_4 rfl e_10 ?_
    refine zq_icmp_ge (pc' := 10) C 76 dX6_layLeads_7 (by decide) rfl (fun c_11 => ?_) (fun c_11 => ?_)
    · have hF := (zq_ifp hF c_11)
      skip
      cases hF
      exact zq_sub [] rfl (hex_7 _ rfl)
    · have hF := (zq_ifn hF c_11)
      refine zq_iconst (pc' := 11) C 0 dX6_layLeads_10 rfl (by decide) ?_
      refine zq_istore_n (lv' := [(2, .int 0), (0, .ref t), (1, .int s_1.1)]) (pc' := 12) C dX6_layLeads_11 rfl rfl (by decide) rfl rfl ?_
      refine zq_iconst (pc' := 13) C 0 dX6_layLeads_12 rfl (by decide) ?_
      refine zq_istore_n (lv' := [(3, .int 0), (2, .int 0), (0, .ref t), (1, .int s_1.1)]) (pc' := 14) C dX6_layLeads_13 rfl rfl (by decide) rfl rfl ?_
      refine zq_sub [2, 3, 1, 0] rfl ?_
      replace hF := zq_bd hF; obtain ⟨r_13, e_14, hF⟩ := hF
      refine zq_lpW (fun s_12 => zq_W X 0 0 s_12.2.2 14 [(0, .ref t), (1, .int s_1.1), (2, .int s_12.1), (3, .int s_12.2.1)] []) (fun y_15 => zq_W X 0 0 y_15 70 [(0, .ref t), (1, .int s_1.1)] []) e_14 (fun s_12 q_19 hF hrec_17 hex_18 => ?_) ?_
      · skip
        refine zq_iload_n (pc' := 15) C dX6_layLeads_14 rfl rfl rfl ?_
        refine zq_aload_n (pc' := 16) C dX6_layLeads_15 rfl rfl rfl ?_
        replace hF := zq_bd hF; obtain ⟨v_20, e_21, hF⟩ := hF
        refine zq_getI (j := 9) (pc' := 19) C zq_K6 zq_in6w (Or.inl wd_446) (by decide) rfl dX6_layLeads_16 rfl e_21 ?_
        refine zq_icmp_ge (pc' := 22) C 70 dX6_layLeads_19 (by decide) rfl (fun c_22 => ?_) (fun c_22 => ?_)
        · have hF := (zq_ifp hF c_22)
          skip
          cases hF
          exact zq_sub [0, 1] rfl (hex_18 _ rfl)
        · have hF := (zq_ifn hF c_22)
          refine zq_aload_n (pc' := 23) C dX6_layLeads_22 rfl rfl rfl ?_
          replace hF := zq_bd hF; obtain ⟨v_23, e_24, hF⟩ := hF
          refine zq_getR (j := 14) (pc' := 26) C zq_K6 zq_in6w (Or.inl wd_475) (by decide) rfl dX6_layLeads_23 rfl e_24 ?_
          refine zq_iload_n (pc' := 27) C dX6_layLeads_26 rfl rfl rfl ?_
          replace hF := zq_bd hF; obtain ⟨v_25, e_26, hF⟩ := hF
          refine zq_iaload (pc' := 28) C dX6_layLeads_27 rfl e_26 ?_
          refine zq_iload_n (pc' := 29) C dX6_layLeads_28 rfl rfl rfl ?_
          replace hF := zq_bd hF; obtain ⟨v_27, e_28, hF⟩ := hF
          refine zq_cS (pc' := 32) C (c_X6_has e_28) ys_X6_has wd_459 dX6_layLeads_29 rfl rfl rfl ⟨Nat.le_of_ble_eq_true rfl, Nat.le_of_ble_eq_true rfl⟩ (Nat.le_of_ble_eq_true rfl) ⟨rfl, rfl⟩ ⟨Nat.le_of_ble_eq_true rfl, Nat.le_of_ble_eq_true rfl⟩ rfl ?_
          refine zq_if_eq (pc' := 35) C 64 dX6_layLeads_32 (by decide) rfl (fun c_29 => ?_) (fun c_29 => ?_)
          · have hF := (zq_ifp hF (zq_b0.mp c_29))
            skip
            replace hF := zq_let_e hF; obtain ⟨v_30, e_31, hF⟩ := hF
            refine zq_iinc (lv' := [(3, .int v_30), (0, .ref t), (1, .int s_1.1), (2, .int s_12.1)]) (pc' := 67) C dX6_layLeads_64 rfl (by decide) 3 rfl e_31 rfl ?_
            refine zq_goto C 14 dX6_layLeads_67 (by decide) ?_
            cases hF
            exact zq_sub [1, 2, 3, 0] rfl (hrec_17 _ rfl)
          · have hF := (zq_ifn hF (fun q => c_29 (zq_b0.mpr q)))
            refine zq_aload_n (pc' := 36) C dX6_layLeads_35 rfl rfl rfl ?_
            replace hF := zq_bd hF; obtain ⟨v_32, e_33, hF⟩ := hF
            refine zq_getR (j := 15) (pc' := 39) C zq_K6 zq_in6w (Or.inl wd_488) (by decide) rfl dX6_layLeads_36 rfl e_33 ?_
            refine zq_bipush (pc' := 41) C 6 dX6_layLeads_39 rfl (by decide) ?_
            refine zq_iload_n (pc' := 42) C dX6_layLeads_41 rfl rfl rfl ?_
            refine zq_imul (pc' := 43) C dX6_layLeads_42 rfl ?_
            refine zq_iload_n (pc' := 44) C dX6_layLeads_43 rfl rfl rfl ?_
            refine zq_iadd (pc' := 45) C dX6_layLeads_44 rfl ?_
            refine zq_aload_n (pc' := 46) C dX6_layLeads_45 rfl rfl rfl ?_
            refine zq_aload_n (pc' := 47) C dX6_layLeads_46 rfl rfl rfl ?_
            refine zq_aload_n (pc' := 48) C dX6_layLeads_47 rfl rfl rfl ?_
            replace hF := zq_bd hF; obtain ⟨v_34, e_35, hF⟩ := hF
            refine zq_getR (j := 14) (pc' := 51) C zq_K6 zq_in6w (Or.inl wd_475) (by decide) rfl dX6_layLeads_48 rfl e_35 ?_
            refine zq_iload_n (pc' := 52) C dX6_layLeads_51 rfl rfl rfl ?_
            replace hF := zq_bd hF; obtain ⟨v_36, e_37, hF⟩ := hF
            refine zq_iaload (pc' := 53) C dX6_layLeads_52 rfl e_37 ?_
            refine zq_iload_n (pc' := 54) C dX6_layLeads_53 rfl rfl rfl ?_
            replace hF := zq_ck_e hF; obtain ⟨e_40, hF⟩ := hF
            replace hF := zq_bd hF; obtain ⟨v_38, e_39, hF⟩ := hF
            refine zq_cV (pc' := 57) C (c_X6_behindFlip e_39) yv_X6_behindFlip wd_479 zq_K6 e_40 dX6_layLeads_54 rfl rfl rfl ⟨Nat.le_of_ble_eq_true rfl, Nat.le_of_ble_eq_true rfl⟩ (Nat.le_of_ble_eq_true rfl) ⟨rfl, rfl⟩ ⟨Nat.le_of_ble_eq_true rfl, Nat.le_of_ble_eq_true rfl⟩ rfl ?_
            replace hF := zq_ck_e hF; obtain ⟨e_43, hF⟩ := hF
            replace hF := zq_bd hF; obtain ⟨v_41, e_42, hF⟩ := hF
            refine zq_cV (pc' := 60) C (c_X6_indexOf e_42) yv_X6_indexOf wd_489 zq_K6 e_43 dX6_layLeads_57 rfl rfl rfl ⟨Nat.le_of_ble_eq_true rfl, Nat.le_of_ble_eq_true rfl⟩ (Nat.le_of_ble_eq_true rfl) ⟨rfl, rfl⟩ ⟨Nat.le_of_ble_eq_true rfl, Nat.le_of_ble_eq_true rfl⟩ rfl ?_
            replace hF := zq_bd hF; obtain ⟨h_44, e_45, hF⟩ := hF
            refine zq_iastore (pc' := 61) C dX6_layLeads_60 rfl e_45 ?_
            replace hF := zq_let_e hF; obtain ⟨v_46, e_47, hF⟩ := hF
            refine zq_iinc (lv' := [(2, .int v_46), (0, .ref t), (1, .int s_1.1), (3, .int s_12.2.1)]) (pc' := 64) C dX6_layLeads_61 rfl (by decide) 2 rfl e_47 rfl ?_
            replace hF := zq_let_e hF; obtain ⟨v_48, e_49, hF⟩ := hF
            refine zq_iinc (lv' := [(3, .int v_48), (2, .int v_46), (0, .ref t), (1, .int s_1.1)]) (pc' := 67) C dX6_layLeads_64 rfl (by decide) 3 rfl e_49 rfl ?_
            refine zq_goto C 14 dX6_layLeads_67 (by decide) ?_
            cases hF
            exact zq_sub [2, 3, 1, 0] rfl (hrec_17 _ rfl)
      · skip
        obtain ⟨y_15, rfl⟩ : ∃ z9, z9 = r_13 := ⟨_, rfl⟩
        show zq_W X 0 0 y_15 70 [(0, .ref t), (1, .int s_1.1)] []
        replace hF := zq_let_e hF; obtain ⟨v_50, e_51, hF⟩ := hF
        refine zq_iinc (lv' := [(1, .int v_50), (0, .ref t)]) (pc' := 73) C dX6_layLeads_70 rfl (by decide) 1 rfl e_51 rfl ?_
        refine zq_goto C 2 dX6_layLeads_73 (by decide) ?_
        cases hF
        exact zq_sub [1, 0] rfl (hrec_6 _ rfl)
  · skip
    obtain ⟨y_4, rfl⟩ : ∃ z9, z9 = r_2 := ⟨_, rfl⟩
    show zq_W X 0 0 y_4 76 [] []
    have hF := Option.some.inj hF
    subst hF
    exact hE _ _ _ _ (Nat.le_of_ble_eq_true rfl) (Nat.le_of_ble_eq_true rfl) dX6_layLeads_76
theorem c_X6_layLeads {h : zq_H} {t : Nat} {out : zq_H} (hF : f_X6_layLeads h t = some out) : zq_M none yX6_layLeads (Cond.code yX6_layLeads cX6_layLeads 4 none :: zq_all) rm_X6_layLeads [.ref t] h none out := zq_met2 (own := RX6) (by decide +kernel) rfl (Nat.le_of_ble_eq_true rfl) rfl rfl (fun X C T hn hE => v_X6_layLeads C T hn hF hE)
theorem yv_X6_layLeads : zq_calV yX6_layLeads RX6 cX6_layLeads 4 none 0 := ⟨by decide +kernel, wd_492, wd_523, wd_524, wd_458⟩
def f_X6_turned (h : zq_H) (t : Nat) (x1 : Int32) (x2 : Int32) : Option Int32 := ((zq_lp (σ := Int32 × Int32) (ρ := Int32) (fun s_1 => (Option.bind (zq_gi h t 6 9) fun v_9 => (if v_9 ≤ s_1.2 then some (.inr s_1.1) else (Option.bind (zq_gr h t 6 10) fun v_12 => (Option.bind (zq_ai h v_12 s_1.2) fun v_14 => (Option.bind (zq_gr h t 6 0) fun v_16 => (Option.bind (zq_ai h v_16 0) fun v_18 => (zq_nz v_18 fun _ => (Option.bind (zq_gr h t 6 11) fun v_21 => (Option.bind (zq_ai h v_21 s_1.2) fun v_23 => (Option.bind (zq_gr h t 6 0) fun v_25 => (Option.bind (zq_ai h v_25 0) fun v_27 => (zq_nz v_27 fun _ => (zq_ck h t 6 fun _ => (Option.bind (f_X6_numberOf h t ((v_14 + x2) - (v_14 + x2) / v_18 * v_18) ((v_23 + x2) - (v_23 + x2) / v_27 * v_27)) fun v_30 => (Option.bind (f_X6_has h x1 s_1.2) fun v_33 => (if v_33 = false then (zq_let (s_1.1 ||| 0) fun v_36 => (zq_let (s_1.2 + 1) fun v_38 => some (.inl (v_36, v_38)))) else (zq_let (s_1.1 ||| ((1 : Int32) <<< (v_30 &&& 31))) fun v_40 => (zq_let (s_1.2 + 1) fun v_42 => some (.inl (v_40, v_42))))))))))))))))))))) zq_N (0, 0)).bind (fun y_4 : Int32 => some (y_4)))
abbrev rm_X6_turned : Room := { frames := 1, cells := 0, slots := 0, locals := 22 }
theorem dX6_turned_0 : decode cX6_turned 0 = .ok (.iconst 0, 1) := by decide +kernel
theorem dX6_turned_1 : decode cX6_turned 1 = .ok (.istore_n 3, 1) := by decide +kernel
theorem dX6_turned_2 : decode cX6_turned 2 = .ok (.iconst 0, 1) := by decide +kernel
theorem dX6_turned_3 : decode cX6_turned 3 = .ok (.istore 4, 2) := by decide +kernel
theorem dX6_turned_5 : decode cX6_turned 5 = .ok (.iload 4, 2) := by decide +kernel
theorem dX6_turned_7 : decode cX6_turned 7 = .ok (.aload_n 0, 1) := by decide +kernel
theorem dX6_turned_8 : decode cX6_turned 8 = .ok (.getfield 63, 3) := by decide +kernel
theorem dX6_turned_11 : decode cX6_turned 11 = .ok (.if_icmp .ge 67, 3) := by decide +kernel
theorem dX6_turned_14 : decode cX6_turned 14 = .ok (.aload_n 0, 1) := by decide +kernel
theorem dX6_turned_15 : decode cX6_turned 15 = .ok (.aload_n 0, 1) := by decide +kernel
theorem dX6_turned_16 : decode cX6_turned 16 = .ok (.getfield 25, 3) := by decide +kernel
theorem dX6_turned_19 : decode cX6_turned 19 = .ok (.iload 4, 2) := by decide +kernel
theorem dX6_turned_21 : decode cX6_turned 21 = .ok (.iaload, 1) := by decide +kernel
theorem dX6_turned_22 : decode cX6_turned 22 = .ok (.iload_n 2, 1) := by decide +kernel
theorem dX6_turned_23 : decode cX6_turned 23 = .ok (.iadd, 1) := by decide +kernel
theorem dX6_turned_24 : decode cX6_turned 24 = .ok (.aload_n 0, 1) := by decide +kernel
theorem dX6_turned_25 : decode cX6_turned 25 = .ok (.getfield 7, 3) := by decide +kernel
theorem dX6_turned_28 : decode cX6_turned 28 = .ok (.iconst 0, 1) := by decide +kernel
theorem dX6_turned_29 : decode cX6_turned 29 = .ok (.iaload, 1) := by decide +kernel
theorem dX6_turned_30 : decode cX6_turned 30 = .ok (.irem, 1) := by decide +kernel
theorem dX6_turned_31 : decode cX6_turned 31 = .ok (.aload_n 0, 1) := by decide +kernel
theorem dX6_turned_32 : decode cX6_turned 32 = .ok (.getfield 28, 3) := by decide +kernel
theorem dX6_turned_35 : decode cX6_turned 35 = .ok (.iload 4, 2) := by decide +kernel
theorem dX6_turned_37 : decode cX6_turned 37 = .ok (.iaload, 1) := by decide +kernel
theorem dX6_turned_38 : decode cX6_turned 38 = .ok (.iload_n 2, 1) := by decide +kernel
theorem dX6_turned_39 : decode cX6_turned 39 = .ok (.iadd, 1) := by decide +kernel
theorem dX6_turned_40 : decode cX6_turned 40 = .ok (.aload_n 0, 1) := by decide +kernel
theorem dX6_turned_41 : decode cX6_turned 41 = .ok (.getfield 7, 3) := by decide +kernel
theorem dX6_turned_44 : decode cX6_turned 44 = .ok (.iconst 0, 1) := by decide +kernel
theorem dX6_turned_45 : decode cX6_turned 45 = .ok (.iaload, 1) := by decide +kernel
theorem dX6_turned_46 : decode cX6_turned 46 = .ok (.irem, 1) := by decide +kernel
theorem dX6_turned_47 : decode cX6_turned 47 = .ok (.invokevirtual 70, 3) := by decide +kernel
theorem dX6_turned_50 : decode cX6_turned 50 = .ok (.istore 5, 2) := by decide +kernel
theorem dX6_turned_52 : decode cX6_turned 52 = .ok (.iload_n 3, 1) := by decide +kernel
theorem dX6_turned_53 : decode cX6_turned 53 = .ok (.iload_n 1, 1) := by decide +kernel
theorem dX6_turned_54 : decode cX6_turned 54 = .ok (.iload 4, 2) := by decide +kernel
theorem dX6_turned_56 : decode cX6_turned 56 = .ok (.invokestatic 74, 3) := by decide +kernel
theorem dX6_turned_59 : decode cX6_turned 59 = .ok (.ifCond .eq 10, 3) := by decide +kernel
theorem dX6_turned_62 : decode cX6_turned 62 = .ok (.iconst 1, 1) := by decide +kernel
theorem dX6_turned_63 : decode cX6_turned 63 = .ok (.iload 5, 2) := by decide +kernel
theorem dX6_turned_65 : decode cX6_turned 65 = .ok (.ishl, 1) := by decide +kernel
theorem dX6_turned_66 : decode cX6_turned 66 = .ok (.goto 4, 3) := by decide +kernel
theorem dX6_turned_69 : decode cX6_turned 69 = .ok (.iconst 0, 1) := by decide +kernel
theorem dX6_turned_70 : decode cX6_turned 70 = .ok (.ior, 1) := by decide +kernel
theorem dX6_turned_71 : decode cX6_turned 71 = .ok (.istore_n 3, 1) := by decide +kernel
theorem dX6_turned_72 : decode cX6_turned 72 = .ok (.iinc 4 1, 3) := by decide +kernel
theorem dX6_turned_75 : decode cX6_turned 75 = .ok (.goto (-70), 3) := by decide +kernel
theorem dX6_turned_78 : decode cX6_turned 78 = .ok (.iload_n 3, 1) := by decide +kernel
theorem dX6_turned_79 : decode cX6_turned 79 = .ok (.ireturn, 1) := by decide +kernel
set_option maxRecDepth 100000 in
set_option maxHeartbeats 4000000 in
theorem v_X6_turned {X : zq_X} (C : zq_C X RX6 cX6_turned 6 zq_all rm_X6_turned) {h : zq_H} {t : Nat} {x1 : Int32} {x2 : Int32} (T : zq_T X none) (hn : X.2.2.2.2.2.2.2.2.1.name = yX6_turned.name) {out : Int32} (hF : f_X6_turned h t x1 x2 = some out) (hE : zq_End X cX6_turned 0 0 (some (.int out)) h) : zq_W X 0 0 h 0 [(0, .ref t), (1, .int x1), (2, .int x2)] [] := by
  unfold f_X6_turned at hF
  refine zq_iconst (pc' := 1) C 0 dX6_turned_0 rfl (by decide) ?_
  refine zq_istore_n (lv' := [(3, .int 0), (0, .ref t), (1, .int x1), (2, .int x2)]) (pc' := 2) C dX6_turned_1 rfl rfl (by decide) rfl rfl ?_
  refine zq_iconst (pc' := 3) C 0 dX6_turned_2 rfl (by decide) ?_
  refine zq_istore (lv' := [(4, .int 0), (3, .int 0), (0, .ref t), (1, .int x1), (2, .int x2)]) (pc' := 5) C dX6_turned_3 rfl (by decide) rfl rfl ?_
  refine zq_sub [2, 3, 4, 1, 0] rfl ?_
  replace hF := zq_bd hF; obtain ⟨r_2, e_3, hF⟩ := hF
  refine zq_lpW (fun s_1 => zq_W X 0 0 h 5 [(0, .ref t), (1, .int x1), (2, .int x2), (3, .int s_1.1), (4, .int s_1.2)] []) (fun y_4 => zq_W X 0 0 h 78 [(3, .int y_4)] []) e_3 (fun s_1 q_8 hF hrec_6 hex_7 => ?_) ?_
  · skip
    refine zq_iload (pc' := 7) C dX6_turned_5 rfl rfl ?_
    refine zq_aload_n (pc' := 8) C dX6_turned_7 rfl rfl rfl ?_
    replace hF := zq_bd hF; obtain ⟨v_9, e_10, hF⟩ := hF
    refine zq_getI (j := 9) (pc' := 11) C zq_K6 zq_in6w (Or.inl wd_446) (by decide) rfl dX6_turned_8 rfl e_10 ?_
    refine zq_icmp_ge (pc' := 14) C 78 dX6_turned_11 (by decide) rfl (fun c_11 => ?_) (fun c_11 => ?_)
    · have hF := (zq_ifp hF c_11)
      skip
      cases hF
      exact zq_sub [3] rfl (hex_7 _ rfl)
    · have hF := (zq_ifn hF c_11)
      refine zq_aload_n (pc' := 15) C dX6_turned_14 rfl rfl rfl ?_
      refine zq_aload_n (pc' := 16) C dX6_turned_15 rfl rfl rfl ?_
      replace hF := zq_bd hF; obtain ⟨v_12, e_13, hF⟩ := hF
      refine zq_getR (j := 10) (pc' := 19) C zq_K6 zq_in6w (Or.inl wd_449) (by decide) rfl dX6_turned_16 rfl e_13 ?_
      refine zq_iload (pc' := 21) C dX6_turned_19 rfl rfl ?_
      replace hF := zq_bd hF; obtain ⟨v_14, e_15, hF⟩ := hF
      refine zq_iaload (pc' := 22) C dX6_turned_21 rfl e_15 ?_
      refine zq_iload_n (pc' := 23) C dX6_turned_22 rfl rfl rfl ?_
      refine zq_iadd (pc' := 24) C dX6_turned_23 rfl ?_
      refine zq_aload_n (pc' := 25) C dX6_turned_24 rfl rfl rfl ?_
      replace hF := zq_bd hF; obtain ⟨v_16, e_17, hF⟩ := hF
      refine zq_getR (j := 0) (pc' := 28) C zq_K6 zq_in6w (Or.inl wd_448) (by decide) rfl dX6_turned_25 rfl e_17 ?_
      refine zq_iconst (pc' := 29) C 0 dX6_turned_28 rfl (by decide) ?_
      replace hF := zq_bd hF; obtain ⟨v_18, e_19, hF⟩ := hF
      refine zq_iaload (pc' := 30) C dX6_turned_29 rfl e_19 ?_
      replace hF := zq_nz_e hF; obtain ⟨e_20, hF⟩ := hF
      refine zq_irem (pc' := 31) C dX6_turned_30 rfl e_20 ?_
      refine zq_aload_n (pc' := 32) C dX6_turned_31 rfl rfl rfl ?_
      replace hF := zq_bd hF; obtain ⟨v_21, e_22, hF⟩ := hF
      refine zq_getR (j := 11) (pc' := 35) C zq_K6 zq_in6w (Or.inl wd_450) (by decide) rfl dX6_turned_32 rfl e_22 ?_
      refine zq_iload (pc' := 37) C dX6_turned_35 rfl rfl ?_
      replace hF := zq_bd hF; obtain ⟨v_23, e_24, hF⟩ := hF
      refine zq_iaload (pc' := 38) C dX6_turned_37 rfl e_24 ?_
      refine zq_iload_n (pc' := 39) C dX6_turned_38 rfl rfl rfl ?_
      refine zq_iadd (pc' := 40) C dX6_turned_39 rfl ?_
      refine zq_aload_n (pc' := 41) C dX6_turned_40 rfl rfl rfl ?_
      replace hF := zq_bd hF; obtain ⟨v_25, e_26, hF⟩ := hF
      refine zq_getR (j := 0) (pc' := 44) C zq_K6 zq_in6w (Or.inl wd_448) (by decide) rfl dX6_turned_41 rfl e_26 ?_
      refine zq_iconst (pc' := 45) C 0 dX6_turned_44 rfl (by decide) ?_
      replace hF := zq_bd hF; obtain ⟨v_27, e_28, hF⟩ := hF
      refine zq_iaload (pc' := 46) C dX6_turned_45 rfl e_28 ?_
      replace hF := zq_nz_e hF; obtain ⟨e_29, hF⟩ := hF
      refine zq_irem (pc' := 47) C dX6_turned_46 rfl e_29 ?_
      replace hF := zq_ck_e hF; obtain ⟨e_32, hF⟩ := hF
      replace hF := zq_bd hF; obtain ⟨v_30, e_31, hF⟩ := hF
      refine zq_cV (pc' := 50) C (c_X6_numberOf e_31) yv_X6_numberOf wd_455 zq_K6 e_32 dX6_turned_47 rfl rfl rfl ⟨Nat.le_of_ble_eq_true rfl, Nat.le_of_ble_eq_true rfl⟩ (Nat.le_of_ble_eq_true rfl) ⟨rfl, rfl⟩ ⟨Nat.le_of_ble_eq_true rfl, Nat.le_of_ble_eq_true rfl⟩ rfl ?_
      refine zq_istore (lv' := [(5, .int v_30), (0, .ref t), (1, .int x1), (2, .int x2), (3, .int s_1.1), (4, .int s_1.2)]) (pc' := 52) C dX6_turned_50 rfl (by decide) rfl rfl ?_
      refine zq_iload_n (pc' := 53) C dX6_turned_52 rfl rfl rfl ?_
      refine zq_iload_n (pc' := 54) C dX6_turned_53 rfl rfl rfl ?_
      refine zq_iload (pc' := 56) C dX6_turned_54 rfl rfl ?_
      replace hF := zq_bd hF; obtain ⟨v_33, e_34, hF⟩ := hF
      refine zq_cS (pc' := 59) C (c_X6_has e_34) ys_X6_has wd_459 dX6_turned_56 rfl rfl rfl ⟨Nat.le_of_ble_eq_true rfl, Nat.le_of_ble_eq_true rfl⟩ (Nat.le_of_ble_eq_true rfl) ⟨rfl, rfl⟩ ⟨Nat.le_of_ble_eq_true rfl, Nat.le_of_ble_eq_true rfl⟩ rfl ?_
      refine zq_if_eq (pc' := 62) C 69 dX6_turned_59 (by decide) rfl (fun c_35 => ?_) (fun c_35 => ?_)
      · have hF := (zq_ifp hF (zq_b0.mp c_35))
        skip
        refine zq_iconst (pc' := 70) C 0 dX6_turned_69 rfl (by decide) ?_
        refine zq_ior (pc' := 71) C dX6_turned_70 rfl ?_
        replace hF := zq_let_e hF; obtain ⟨v_36, e_37, hF⟩ := hF
        refine zq_istore_n (lv' := [(3, .int v_36), (5, .int v_30), (0, .ref t), (1, .int x1), (2, .int x2), (4, .int s_1.2)]) (pc' := 72) C dX6_turned_71 rfl rfl (by decide) e_37 rfl ?_
        replace hF := zq_let_e hF; obtain ⟨v_38, e_39, hF⟩ := hF
        refine zq_iinc (lv' := [(4, .int v_38), (3, .int v_36), (5, .int v_30), (0, .ref t), (1, .int x1), (2, .int x2)]) (pc' := 75) C dX6_turned_72 rfl (by decide) 5 rfl e_39 rfl ?_
        refine zq_goto C 5 dX6_turned_75 (by decide) ?_
        cases hF
        exact zq_sub [3, 4, 5, 1, 0] rfl (hrec_6 _ rfl)
      · have hF := (zq_ifn hF (fun q => c_35 (zq_b0.mpr q)))
        refine zq_iconst (pc' := 63) C 1 dX6_turned_62 rfl (by decide) ?_
        refine zq_iload (pc' := 65) C dX6_turned_63 rfl rfl ?_
        refine zq_ishl (pc' := 66) C dX6_turned_65 rfl ?_
        refine zq_goto C 70 dX6_turned_66 (by decide) ?_
        refine zq_ior (pc' := 71) C dX6_turned_70 rfl ?_
        replace hF := zq_let_e hF; obtain ⟨v_40, e_41, hF⟩ := hF
        refine zq_istore_n (lv' := [(3, .int v_40), (5, .int v_30), (0, .ref t), (1, .int x1), (2, .int x2), (4, .int s_1.2)]) (pc' := 72) C dX6_turned_71 rfl rfl (by decide) e_41 rfl ?_
        replace hF := zq_let_e hF; obtain ⟨v_42, e_43, hF⟩ := hF
        refine zq_iinc (lv' := [(4, .int v_42), (3, .int v_40), (5, .int v_30), (0, .ref t), (1, .int x1), (2, .int x2)]) (pc' := 75) C dX6_turned_72 rfl (by decide) 5 rfl e_43 rfl ?_
        refine zq_goto C 5 dX6_turned_75 (by decide) ?_
        cases hF
        exact zq_sub [3, 4, 5, 1, 0] rfl (hrec_6 _ rfl)
  · skip
    obtain ⟨y_4, rfl⟩ : ∃ z9, z9 = r_2 := ⟨_, rfl⟩
    show zq_W X 0 0 h 78 [(3, .int y_4)] []
    refine zq_iload_n (pc' := 79) C dX6_turned_78 rfl rfl rfl ?_
    have hF := Option.some.inj hF
    subst hF
    exact hE _ _ _ _ (Nat.le_of_ble_eq_true rfl) (Nat.le_of_ble_eq_true rfl) dX6_turned_79
theorem c_X6_turned {h : zq_H} {t : Nat} {x1 : Int32} {x2 : Int32} {out : Int32} (hF : f_X6_turned h t x1 x2 = some out) : zq_M none yX6_turned (Cond.code yX6_turned cX6_turned 6 (some .int) :: zq_all) rm_X6_turned [.ref t, .int x1, .int x2] h (some (.int out)) h := zq_met2 (own := RX6) (by decide +kernel) rfl (Nat.le_of_ble_eq_true rfl) rfl ⟨.int, rfl, rfl⟩ (fun X C T hn hE => v_X6_turned C T hn hF hE)
theorem yv_X6_turned : zq_calV yX6_turned RX6 cX6_turned 6 (some .int) 2 := ⟨by decide +kernel, wd_493, wd_497, wd_498, wd_458⟩
def f_X6_mirrored (h : zq_H) (t : Nat) (x1 : Int32) : Option Int32 := ((zq_lp (σ := Int32 × Int32) (ρ := Int32) (fun s_1 => (Option.bind (zq_gi h t 6 9) fun v_9 => (if v_9 ≤ s_1.2 then some (.inr s_1.1) else (Option.bind (zq_gr h t 6 0) fun v_12 => (Option.bind (zq_ai h v_12 0) fun v_14 => (Option.bind (zq_gr h t 6 10) fun v_16 => (Option.bind (zq_ai h v_16 s_1.2) fun v_18 => (Option.bind (zq_gr h t 6 0) fun v_20 => (Option.bind (zq_ai h v_20 0) fun v_22 => (Option.bind (zq_gr h t 6 11) fun v_24 => (Option.bind (zq_ai h v_24 s_1.2) fun v_26 => (zq_ck h t 6 fun _ => (Option.bind (f_X6_numberOf h t ((v_14 - 1) - v_18) ((v_22 - 1) - v_26)) fun v_28 => (Option.bind (f_X6_has h x1 s_1.2) fun v_31 => (if v_31 = false then (zq_let (s_1.1 ||| 0) fun v_34 => (zq_let (s_1.2 + 1) fun v_36 => some (.inl (v_34, v_36)))) else (zq_let (s_1.1 ||| ((1 : Int32) <<< (v_28 &&& 31))) fun v_38 => (zq_let (s_1.2 + 1) fun v_40 => some (.inl (v_38, v_40))))))))))))))))))) zq_N (0, 0)).bind (fun y_4 : Int32 => some (y_4)))
abbrev rm_X6_mirrored : Room := { frames := 1, cells := 0, slots := 0, locals := 22 }
theorem dX6_mirrored_0 : decode cX6_mirrored 0 = .ok (.iconst 0, 1) := by decide +kernel
theorem dX6_mirrored_1 : decode cX6_mirrored 1 = .ok (.istore_n 2, 1) := by decide +kernel
theorem dX6_mirrored_2 : decode cX6_mirrored 2 = .ok (.iconst 0, 1) := by decide +kernel
theorem dX6_mirrored_3 : decode cX6_mirrored 3 = .ok (.istore_n 3, 1) := by decide +kernel
theorem dX6_mirrored_4 : decode cX6_mirrored 4 = .ok (.iload_n 3, 1) := by decide +kernel
theorem dX6_mirrored_5 : decode cX6_mirrored 5 = .ok (.aload_n 0, 1) := by decide +kernel
theorem dX6_mirrored_6 : decode cX6_mirrored 6 = .ok (.getfield 63, 3) := by decide +kernel
theorem dX6_mirrored_9 : decode cX6_mirrored 9 = .ok (.if_icmp .ge 64, 3) := by decide +kernel
theorem dX6_mirrored_12 : decode cX6_mirrored 12 = .ok (.aload_n 0, 1) := by decide +kernel
theorem dX6_mirrored_13 : decode cX6_mirrored 13 = .ok (.aload_n 0, 1) := by decide +kernel
theorem dX6_mirrored_14 : decode cX6_mirrored 14 = .ok (.getfield 7, 3) := by decide +kernel
theorem dX6_mirrored_17 : decode cX6_mirrored 17 = .ok (.iconst 0, 1) := by decide +kernel
theorem dX6_mirrored_18 : decode cX6_mirrored 18 = .ok (.iaload, 1) := by decide +kernel
theorem dX6_mirrored_19 : decode cX6_mirrored 19 = .ok (.iconst 1, 1) := by decide +kernel
theorem dX6_mirrored_20 : decode cX6_mirrored 20 = .ok (.isub, 1) := by decide +kernel
theorem dX6_mirrored_21 : decode cX6_mirrored 21 = .ok (.aload_n 0, 1) := by decide +kernel
theorem dX6_mirrored_22 : decode cX6_mirrored 22 = .ok (.getfield 25, 3) := by decide +kernel
theorem dX6_mirrored_25 : decode cX6_mirrored 25 = .ok (.iload_n 3, 1) := by decide +kernel
theorem dX6_mirrored_26 : decode cX6_mirrored 26 = .ok (.iaload, 1) := by decide +kernel
theorem dX6_mirrored_27 : decode cX6_mirrored 27 = .ok (.isub, 1) := by decide +kernel
theorem dX6_mirrored_28 : decode cX6_mirrored 28 = .ok (.aload_n 0, 1) := by decide +kernel
theorem dX6_mirrored_29 : decode cX6_mirrored 29 = .ok (.getfield 7, 3) := by decide +kernel
theorem dX6_mirrored_32 : decode cX6_mirrored 32 = .ok (.iconst 0, 1) := by decide +kernel
theorem dX6_mirrored_33 : decode cX6_mirrored 33 = .ok (.iaload, 1) := by decide +kernel
theorem dX6_mirrored_34 : decode cX6_mirrored 34 = .ok (.iconst 1, 1) := by decide +kernel
theorem dX6_mirrored_35 : decode cX6_mirrored 35 = .ok (.isub, 1) := by decide +kernel
theorem dX6_mirrored_36 : decode cX6_mirrored 36 = .ok (.aload_n 0, 1) := by decide +kernel
theorem dX6_mirrored_37 : decode cX6_mirrored 37 = .ok (.getfield 28, 3) := by decide +kernel
theorem dX6_mirrored_40 : decode cX6_mirrored 40 = .ok (.iload_n 3, 1) := by decide +kernel
theorem dX6_mirrored_41 : decode cX6_mirrored 41 = .ok (.iaload, 1) := by decide +kernel
theorem dX6_mirrored_42 : decode cX6_mirrored 42 = .ok (.isub, 1) := by decide +kernel
theorem dX6_mirrored_43 : decode cX6_mirrored 43 = .ok (.invokevirtual 70, 3) := by decide +kernel
theorem dX6_mirrored_46 : decode cX6_mirrored 46 = .ok (.istore 4, 2) := by decide +kernel
theorem dX6_mirrored_48 : decode cX6_mirrored 48 = .ok (.iload_n 2, 1) := by decide +kernel
theorem dX6_mirrored_49 : decode cX6_mirrored 49 = .ok (.iload_n 1, 1) := by decide +kernel
theorem dX6_mirrored_50 : decode cX6_mirrored 50 = .ok (.iload_n 3, 1) := by decide +kernel
theorem dX6_mirrored_51 : decode cX6_mirrored 51 = .ok (.invokestatic 74, 3) := by decide +kernel
theorem dX6_mirrored_54 : decode cX6_mirrored 54 = .ok (.ifCond .eq 10, 3) := by decide +kernel
theorem dX6_mirrored_57 : decode cX6_mirrored 57 = .ok (.iconst 1, 1) := by decide +kernel
theorem dX6_mirrored_58 : decode cX6_mirrored 58 = .ok (.iload 4, 2) := by decide +kernel
theorem dX6_mirrored_60 : decode cX6_mirrored 60 = .ok (.ishl, 1) := by decide +kernel
theorem dX6_mirrored_61 : decode cX6_mirrored 61 = .ok (.goto 4, 3) := by decide +kernel
theorem dX6_mirrored_64 : decode cX6_mirrored 64 = .ok (.iconst 0, 1) := by decide +kernel
theorem dX6_mirrored_65 : decode cX6_mirrored 65 = .ok (.ior, 1) := by decide +kernel
theorem dX6_mirrored_66 : decode cX6_mirrored 66 = .ok (.istore_n 2, 1) := by decide +kernel
theorem dX6_mirrored_67 : decode cX6_mirrored 67 = .ok (.iinc 3 1, 3) := by decide +kernel
theorem dX6_mirrored_70 : decode cX6_mirrored 70 = .ok (.goto (-66), 3) := by decide +kernel
theorem dX6_mirrored_73 : decode cX6_mirrored 73 = .ok (.iload_n 2, 1) := by decide +kernel
theorem dX6_mirrored_74 : decode cX6_mirrored 74 = .ok (.ireturn, 1) := by decide +kernel
set_option maxRecDepth 100000 in
set_option maxHeartbeats 4000000 in
theorem v_X6_mirrored {X : zq_X} (C : zq_C X RX6 cX6_mirrored 5 zq_all rm_X6_mirrored) {h : zq_H} {t : Nat} {x1 : Int32} (T : zq_T X none) (hn : X.2.2.2.2.2.2.2.2.1.name = yX6_mirrored.name) {out : Int32} (hF : f_X6_mirrored h t x1 = some out) (hE : zq_End X cX6_mirrored 0 0 (some (.int out)) h) : zq_W X 0 0 h 0 [(0, .ref t), (1, .int x1)] [] := by
  unfold f_X6_mirrored at hF
  refine zq_iconst (pc' := 1) C 0 dX6_mirrored_0 rfl (by decide) ?_
  refine zq_istore_n (lv' := [(2, .int 0), (0, .ref t), (1, .int x1)]) (pc' := 2) C dX6_mirrored_1 rfl rfl (by decide) rfl rfl ?_
  refine zq_iconst (pc' := 3) C 0 dX6_mirrored_2 rfl (by decide) ?_
  refine zq_istore_n (lv' := [(3, .int 0), (2, .int 0), (0, .ref t), (1, .int x1)]) (pc' := 4) C dX6_mirrored_3 rfl rfl (by decide) rfl rfl ?_
  refine zq_sub [2, 3, 1, 0] rfl ?_
  replace hF := zq_bd hF; obtain ⟨r_2, e_3, hF⟩ := hF
  refine zq_lpW (fun s_1 => zq_W X 0 0 h 4 [(0, .ref t), (1, .int x1), (2, .int s_1.1), (3, .int s_1.2)] []) (fun y_4 => zq_W X 0 0 h 73 [(2, .int y_4)] []) e_3 (fun s_1 q_8 hF hrec_6 hex_7 => ?_) ?_
  · skip
    refine zq_iload_n (pc' := 5) C dX6_mirrored_4 rfl rfl rfl ?_
    refine zq_aload_n (pc' := 6) C dX6_mirrored_5 rfl rfl rfl ?_
    replace hF := zq_bd hF; obtain ⟨v_9, e_10, hF⟩ := hF
    refine zq_getI (j := 9) (pc' := 9) C zq_K6 zq_in6w (Or.inl wd_446) (by decide) rfl dX6_mirrored_6 rfl e_10 ?_
    refine zq_icmp_ge (pc' := 12) C 73 dX6_mirrored_9 (by decide) rfl (fun c_11 => ?_) (fun c_11 => ?_)
    · have hF := (zq_ifp hF c_11)
      skip
      cases hF
      exact zq_sub [2] rfl (hex_7 _ rfl)
    · have hF := (zq_ifn hF c_11)
      refine zq_aload_n (pc' := 13) C dX6_mirrored_12 rfl rfl rfl ?_
      refine zq_aload_n (pc' := 14) C dX6_mirrored_13 rfl rfl rfl ?_
      replace hF := zq_bd hF; obtain ⟨v_12, e_13, hF⟩ := hF
      refine zq_getR (j := 0) (pc' := 17) C zq_K6 zq_in6w (Or.inl wd_448) (by decide) rfl dX6_mirrored_14 rfl e_13 ?_
      refine zq_iconst (pc' := 18) C 0 dX6_mirrored_17 rfl (by decide) ?_
      replace hF := zq_bd hF; obtain ⟨v_14, e_15, hF⟩ := hF
      refine zq_iaload (pc' := 19) C dX6_mirrored_18 rfl e_15 ?_
      refine zq_iconst (pc' := 20) C 1 dX6_mirrored_19 rfl (by decide) ?_
      refine zq_isub (pc' := 21) C dX6_mirrored_20 rfl ?_
      refine zq_aload_n (pc' := 22) C dX6_mirrored_21 rfl rfl rfl ?_
      replace hF := zq_bd hF; obtain ⟨v_16, e_17, hF⟩ := hF
      refine zq_getR (j := 10) (pc' := 25) C zq_K6 zq_in6w (Or.inl wd_449) (by decide) rfl dX6_mirrored_22 rfl e_17 ?_
      refine zq_iload_n (pc' := 26) C dX6_mirrored_25 rfl rfl rfl ?_
      replace hF := zq_bd hF; obtain ⟨v_18, e_19, hF⟩ := hF
      refine zq_iaload (pc' := 27) C dX6_mirrored_26 rfl e_19 ?_
      refine zq_isub (pc' := 28) C dX6_mirrored_27 rfl ?_
      refine zq_aload_n (pc' := 29) C dX6_mirrored_28 rfl rfl rfl ?_
      replace hF := zq_bd hF; obtain ⟨v_20, e_21, hF⟩ := hF
      refine zq_getR (j := 0) (pc' := 32) C zq_K6 zq_in6w (Or.inl wd_448) (by decide) rfl dX6_mirrored_29 rfl e_21 ?_
      refine zq_iconst (pc' := 33) C 0 dX6_mirrored_32 rfl (by decide) ?_
      replace hF := zq_bd hF; obtain ⟨v_22, e_23, hF⟩ := hF
      refine zq_iaload (pc' := 34) C dX6_mirrored_33 rfl e_23 ?_
      refine zq_iconst (pc' := 35) C 1 dX6_mirrored_34 rfl (by decide) ?_
      refine zq_isub (pc' := 36) C dX6_mirrored_35 rfl ?_
      refine zq_aload_n (pc' := 37) C dX6_mirrored_36 rfl rfl rfl ?_
      replace hF := zq_bd hF; obtain ⟨v_24, e_25, hF⟩ := hF
      refine zq_getR (j := 11) (pc' := 40) C zq_K6 zq_in6w (Or.inl wd_450) (by decide) rfl dX6_mirrored_37 rfl e_25 ?_
      refine zq_iload_n (pc' := 41) C dX6_mirrored_40 rfl rfl rfl ?_
      replace hF := zq_bd hF; obtain ⟨v_26, e_27, hF⟩ := hF
      refine zq_iaload (pc' := 42) C dX6_mirrored_41 rfl e_27 ?_
      refine zq_isub (pc' := 43) C dX6_mirrored_42 rfl ?_
      replace hF := zq_ck_e hF; obtain ⟨e_30, hF⟩ := hF
      replace hF := zq_bd hF; obtain ⟨v_28, e_29, hF⟩ := hF
      refine zq_cV (pc' := 46) C (c_X6_numberOf e_29) yv_X6_numberOf wd_455 zq_K6 e_30 dX6_mirrored_43 rfl rfl rfl ⟨Nat.le_of_ble_eq_true rfl, Nat.le_of_ble_eq_true rfl⟩ (Nat.le_of_ble_eq_true rfl) ⟨rfl, rfl⟩ ⟨Nat.le_of_ble_eq_true rfl, Nat.le_of_ble_eq_true rfl⟩ rfl ?_
      refine zq_istore (lv' := [(4, .int v_28), (0, .ref t), (1, .int x1), (2, .int s_1.1), (3, .int s_1.2)]) (pc' := 48) C dX6_mirrored_46 rfl (by decide) rfl rfl ?_
      refine zq_iload_n (pc' := 49) C dX6_mirrored_48 rfl rfl rfl ?_
      refine zq_iload_n (pc' := 50) C dX6_mirrored_49 rfl rfl rfl ?_
      refine zq_iload_n (pc' := 51) C dX6_mirrored_50 rfl rfl rfl ?_
      replace hF := zq_bd hF; obtain ⟨v_31, e_32, hF⟩ := hF
      refine zq_cS (pc' := 54) C (c_X6_has e_32) ys_X6_has wd_459 dX6_mirrored_51 rfl rfl rfl ⟨Nat.le_of_ble_eq_true rfl, Nat.le_of_ble_eq_true rfl⟩ (Nat.le_of_ble_eq_true rfl) ⟨rfl, rfl⟩ ⟨Nat.le_of_ble_eq_true rfl, Nat.le_of_ble_eq_true rfl⟩ rfl ?_
      refine zq_if_eq (pc' := 57) C 64 dX6_mirrored_54 (by decide) rfl (fun c_33 => ?_) (fun c_33 => ?_)
      · have hF := (zq_ifp hF (zq_b0.mp c_33))
        skip
        refine zq_iconst (pc' := 65) C 0 dX6_mirrored_64 rfl (by decide) ?_
        refine zq_ior (pc' := 66) C dX6_mirrored_65 rfl ?_
        replace hF := zq_let_e hF; obtain ⟨v_34, e_35, hF⟩ := hF
        refine zq_istore_n (lv' := [(2, .int v_34), (4, .int v_28), (0, .ref t), (1, .int x1), (3, .int s_1.2)]) (pc' := 67) C dX6_mirrored_66 rfl rfl (by decide) e_35 rfl ?_
        replace hF := zq_let_e hF; obtain ⟨v_36, e_37, hF⟩ := hF
        refine zq_iinc (lv' := [(3, .int v_36), (2, .int v_34), (4, .int v_28), (0, .ref t), (1, .int x1)]) (pc' := 70) C dX6_mirrored_67 rfl (by decide) 4 rfl e_37 rfl ?_
        refine zq_goto C 4 dX6_mirrored_70 (by decide) ?_
        cases hF
        exact zq_sub [3, 4, 1, 0] rfl (hrec_6 _ rfl)
      · have hF := (zq_ifn hF (fun q => c_33 (zq_b0.mpr q)))
        refine zq_iconst (pc' := 58) C 1 dX6_mirrored_57 rfl (by decide) ?_
        refine zq_iload (pc' := 60) C dX6_mirrored_58 rfl rfl ?_
        refine zq_ishl (pc' := 61) C dX6_mirrored_60 rfl ?_
        refine zq_goto C 65 dX6_mirrored_61 (by decide) ?_
        refine zq_ior (pc' := 66) C dX6_mirrored_65 rfl ?_
        replace hF := zq_let_e hF; obtain ⟨v_38, e_39, hF⟩ := hF
        refine zq_istore_n (lv' := [(2, .int v_38), (4, .int v_28), (0, .ref t), (1, .int x1), (3, .int s_1.2)]) (pc' := 67) C dX6_mirrored_66 rfl rfl (by decide) e_39 rfl ?_
        replace hF := zq_let_e hF; obtain ⟨v_40, e_41, hF⟩ := hF
        refine zq_iinc (lv' := [(3, .int v_40), (2, .int v_38), (4, .int v_28), (0, .ref t), (1, .int x1)]) (pc' := 70) C dX6_mirrored_67 rfl (by decide) 4 rfl e_41 rfl ?_
        refine zq_goto C 4 dX6_mirrored_70 (by decide) ?_
        cases hF
        exact zq_sub [3, 4, 1, 0] rfl (hrec_6 _ rfl)
  · skip
    obtain ⟨y_4, rfl⟩ : ∃ z9, z9 = r_2 := ⟨_, rfl⟩
    show zq_W X 0 0 h 73 [(2, .int y_4)] []
    refine zq_iload_n (pc' := 74) C dX6_mirrored_73 rfl rfl rfl ?_
    have hF := Option.some.inj hF
    subst hF
    exact hE _ _ _ _ (Nat.le_of_ble_eq_true rfl) (Nat.le_of_ble_eq_true rfl) dX6_mirrored_74
theorem c_X6_mirrored {h : zq_H} {t : Nat} {x1 : Int32} {out : Int32} (hF : f_X6_mirrored h t x1 = some out) : zq_M none yX6_mirrored (Cond.code yX6_mirrored cX6_mirrored 5 (some .int) :: zq_all) rm_X6_mirrored [.ref t, .int x1] h (some (.int out)) h := zq_met2 (own := RX6) (by decide +kernel) rfl (Nat.le_of_ble_eq_true rfl) rfl ⟨.int, rfl, rfl⟩ (fun X C T hn hE => v_X6_mirrored C T hn hF hE)
theorem yv_X6_mirrored : zq_calV yX6_mirrored RX6 cX6_mirrored 5 (some .int) 1 := ⟨by decide +kernel, wd_494, wd_500, wd_501, wd_458⟩
def f_X6_codeOf (h : zq_H) (t : Nat) (x1 : Int32) : Option Int32 := ((zq_lp (σ := Int32 × Int32) (ρ := Int32) (fun s_1 => (Option.bind (zq_gr h t 6 0) fun v_9 => (Option.bind (zq_ai h v_9 0) fun v_11 => (if v_11 ≤ s_1.2 then some (.inr s_1.1) else (zq_ck h t 6 fun _ => (Option.bind (f_X6_turned h t x1 s_1.2) fun v_14 => (zq_ck h t 6 fun _ => (Option.bind (f_X6_mirrored h t x1) fun v_17 => (zq_ck h t 6 fun _ => (Option.bind (f_X6_turned h t v_17 s_1.2) fun v_20 => (if s_1.1 ≤ v_14 then (if s_1.1 ≤ v_20 then (zq_let (s_1.2 + 1) fun v_25 => some (.inl (s_1.1, v_25))) else (zq_let (s_1.2 + 1) fun v_27 => some (.inl (v_20, v_27)))) else (if v_14 ≤ v_20 then (zq_let (s_1.2 + 1) fun v_30 => some (.inl (v_14, v_30))) else (zq_let (s_1.2 + 1) fun v_32 => some (.inl (v_20, v_32))))))))))))))) zq_N (x1, 0)).bind (fun y_4 : Int32 => some (y_4)))
abbrev rm_X6_codeOf : Room := { frames := 2, cells := 0, slots := 0, locals := 47 }
theorem dX6_codeOf_0 : decode cX6_codeOf 0 = .ok (.iload_n 1, 1) := by decide +kernel
theorem dX6_codeOf_1 : decode cX6_codeOf 1 = .ok (.istore_n 2, 1) := by decide +kernel
theorem dX6_codeOf_2 : decode cX6_codeOf 2 = .ok (.iconst 0, 1) := by decide +kernel
theorem dX6_codeOf_3 : decode cX6_codeOf 3 = .ok (.istore_n 3, 1) := by decide +kernel
theorem dX6_codeOf_4 : decode cX6_codeOf 4 = .ok (.iload_n 3, 1) := by decide +kernel
theorem dX6_codeOf_5 : decode cX6_codeOf 5 = .ok (.aload_n 0, 1) := by decide +kernel
theorem dX6_codeOf_6 : decode cX6_codeOf 6 = .ok (.getfield 7, 3) := by decide +kernel
theorem dX6_codeOf_9 : decode cX6_codeOf 9 = .ok (.iconst 0, 1) := by decide +kernel
theorem dX6_codeOf_10 : decode cX6_codeOf 10 = .ok (.iaload, 1) := by decide +kernel
theorem dX6_codeOf_11 : decode cX6_codeOf 11 = .ok (.if_icmp .ge 55, 3) := by decide +kernel
theorem dX6_codeOf_14 : decode cX6_codeOf 14 = .ok (.aload_n 0, 1) := by decide +kernel
theorem dX6_codeOf_15 : decode cX6_codeOf 15 = .ok (.iload_n 1, 1) := by decide +kernel
theorem dX6_codeOf_16 : decode cX6_codeOf 16 = .ok (.iload_n 3, 1) := by decide +kernel
theorem dX6_codeOf_17 : decode cX6_codeOf 17 = .ok (.invokevirtual 135, 3) := by decide +kernel
theorem dX6_codeOf_20 : decode cX6_codeOf 20 = .ok (.istore 4, 2) := by decide +kernel
theorem dX6_codeOf_22 : decode cX6_codeOf 22 = .ok (.aload_n 0, 1) := by decide +kernel
theorem dX6_codeOf_23 : decode cX6_codeOf 23 = .ok (.aload_n 0, 1) := by decide +kernel
theorem dX6_codeOf_24 : decode cX6_codeOf 24 = .ok (.iload_n 1, 1) := by decide +kernel
theorem dX6_codeOf_25 : decode cX6_codeOf 25 = .ok (.invokevirtual 138, 3) := by decide +kernel
theorem dX6_codeOf_28 : decode cX6_codeOf 28 = .ok (.iload_n 3, 1) := by decide +kernel
theorem dX6_codeOf_29 : decode cX6_codeOf 29 = .ok (.invokevirtual 135, 3) := by decide +kernel
theorem dX6_codeOf_32 : decode cX6_codeOf 32 = .ok (.istore 5, 2) := by decide +kernel
theorem dX6_codeOf_34 : decode cX6_codeOf 34 = .ok (.iload 4, 2) := by decide +kernel
theorem dX6_codeOf_36 : decode cX6_codeOf 36 = .ok (.iload_n 2, 1) := by decide +kernel
theorem dX6_codeOf_37 : decode cX6_codeOf 37 = .ok (.if_icmp .ge 8, 3) := by decide +kernel
theorem dX6_codeOf_40 : decode cX6_codeOf 40 = .ok (.iload 4, 2) := by decide +kernel
theorem dX6_codeOf_42 : decode cX6_codeOf 42 = .ok (.goto 4, 3) := by decide +kernel
theorem dX6_codeOf_45 : decode cX6_codeOf 45 = .ok (.iload_n 2, 1) := by decide +kernel
theorem dX6_codeOf_46 : decode cX6_codeOf 46 = .ok (.istore_n 2, 1) := by decide +kernel
theorem dX6_codeOf_47 : decode cX6_codeOf 47 = .ok (.iload 5, 2) := by decide +kernel
theorem dX6_codeOf_49 : decode cX6_codeOf 49 = .ok (.iload_n 2, 1) := by decide +kernel
theorem dX6_codeOf_50 : decode cX6_codeOf 50 = .ok (.if_icmp .ge 8, 3) := by decide +kernel
theorem dX6_codeOf_53 : decode cX6_codeOf 53 = .ok (.iload 5, 2) := by decide +kernel
theorem dX6_codeOf_55 : decode cX6_codeOf 55 = .ok (.goto 4, 3) := by decide +kernel
theorem dX6_codeOf_58 : decode cX6_codeOf 58 = .ok (.iload_n 2, 1) := by decide +kernel
theorem dX6_codeOf_59 : decode cX6_codeOf 59 = .ok (.istore_n 2, 1) := by decide +kernel
theorem dX6_codeOf_60 : decode cX6_codeOf 60 = .ok (.iinc 3 1, 3) := by decide +kernel
theorem dX6_codeOf_63 : decode cX6_codeOf 63 = .ok (.goto (-59), 3) := by decide +kernel
theorem dX6_codeOf_66 : decode cX6_codeOf 66 = .ok (.iload_n 2, 1) := by decide +kernel
theorem dX6_codeOf_67 : decode cX6_codeOf 67 = .ok (.ireturn, 1) := by decide +kernel
set_option maxRecDepth 100000 in
set_option maxHeartbeats 4000000 in
theorem v_X6_codeOf {X : zq_X} (C : zq_C X RX6 cX6_codeOf 6 zq_all rm_X6_codeOf) {h : zq_H} {t : Nat} {x1 : Int32} (T : zq_T X none) (hn : X.2.2.2.2.2.2.2.2.1.name = yX6_codeOf.name) {out : Int32} (hF : f_X6_codeOf h t x1 = some out) (hE : zq_End X cX6_codeOf 0 0 (some (.int out)) h) : zq_W X 0 0 h 0 [(0, .ref t), (1, .int x1)] [] := by
  unfold f_X6_codeOf at hF
  refine zq_iload_n (pc' := 1) C dX6_codeOf_0 rfl rfl rfl ?_
  refine zq_istore_n (lv' := [(2, .int x1), (0, .ref t), (1, .int x1)]) (pc' := 2) C dX6_codeOf_1 rfl rfl (by decide) rfl rfl ?_
  refine zq_iconst (pc' := 3) C 0 dX6_codeOf_2 rfl (by decide) ?_
  refine zq_istore_n (lv' := [(3, .int 0), (2, .int x1), (0, .ref t), (1, .int x1)]) (pc' := 4) C dX6_codeOf_3 rfl rfl (by decide) rfl rfl ?_
  refine zq_sub [2, 3, 1, 0] rfl ?_
  replace hF := zq_bd hF; obtain ⟨r_2, e_3, hF⟩ := hF
  refine zq_lpW (fun s_1 => zq_W X 0 0 h 4 [(0, .ref t), (1, .int x1), (2, .int s_1.1), (3, .int s_1.2)] []) (fun y_4 => zq_W X 0 0 h 66 [(2, .int y_4)] []) e_3 (fun s_1 q_8 hF hrec_6 hex_7 => ?_) ?_
  · skip
    refine zq_iload_n (pc' := 5) C dX6_codeOf_4 rfl rfl rfl ?_
    refine zq_aload_n (pc' := 6) C dX6_codeOf_5 rfl rfl rfl ?_
    replace hF := zq_bd hF; obtain ⟨v_9, e_10, hF⟩ := hF
    refine zq_getR (j := 0) (pc' := 9) C zq_K6 zq_in6w (Or.inl wd_448) (by decide) rfl dX6_codeOf_6 rfl e_10 ?_
    refine zq_iconst (pc' := 10) C 0 dX6_codeOf_9 rfl (by decide) ?_
    replace hF := zq_bd hF; obtain ⟨v_11, e_12, hF⟩ := hF
    refine zq_iaload (pc' := 11) C dX6_codeOf_10 rfl e_12 ?_
    refine zq_icmp_ge (pc' := 14) C 66 dX6_codeOf_11 (by decide) rfl (fun c_13 => ?_) (fun c_13 => ?_)
    · have hF := (zq_ifp hF c_13)
      skip
      cases hF
      exact zq_sub [2] rfl (hex_7 _ rfl)
    · have hF := (zq_ifn hF c_13)
      refine zq_aload_n (pc' := 15) C dX6_codeOf_14 rfl rfl rfl ?_
      refine zq_iload_n (pc' := 16) C dX6_codeOf_15 rfl rfl rfl ?_
      refine zq_iload_n (pc' := 17) C dX6_codeOf_16 rfl rfl rfl ?_
      replace hF := zq_ck_e hF; obtain ⟨e_16, hF⟩ := hF
      replace hF := zq_bd hF; obtain ⟨v_14, e_15, hF⟩ := hF
      refine zq_cV (pc' := 20) C (c_X6_turned e_15) yv_X6_turned wd_496 zq_K6 e_16 dX6_codeOf_17 rfl rfl rfl ⟨Nat.le_of_ble_eq_true rfl, Nat.le_of_ble_eq_true rfl⟩ (Nat.le_of_ble_eq_true rfl) ⟨rfl, rfl⟩ ⟨Nat.le_of_ble_eq_true rfl, Nat.le_of_ble_eq_true rfl⟩ rfl ?_
      refine zq_istore (lv' := [(4, .int v_14), (0, .ref t), (1, .int x1), (2, .int s_1.1), (3, .int s_1.2)]) (pc' := 22) C dX6_codeOf_20 rfl (by decide) rfl rfl ?_
      refine zq_aload_n (pc' := 23) C dX6_codeOf_22 rfl rfl rfl ?_
      refine zq_aload_n (pc' := 24) C dX6_codeOf_23 rfl rfl rfl ?_
      refine zq_iload_n (pc' := 25) C dX6_codeOf_24 rfl rfl rfl ?_
      replace hF := zq_ck_e hF; obtain ⟨e_19, hF⟩ := hF
      replace hF := zq_bd hF; obtain ⟨v_17, e_18, hF⟩ := hF
      refine zq_cV (pc' := 28) C (c_X6_mirrored e_18) yv_X6_mirrored wd_499 zq_K6 e_19 dX6_codeOf_25 rfl rfl rfl ⟨Nat.le_of_ble_eq_true rfl, Nat.le_of_ble_eq_true rfl⟩ (Nat.le_of_ble_eq_true rfl) ⟨rfl, rfl⟩ ⟨Nat.le_of_ble_eq_true rfl, Nat.le_of_ble_eq_true rfl⟩ rfl ?_
      refine zq_iload_n (pc' := 29) C dX6_codeOf_28 rfl rfl rfl ?_
      replace hF := zq_ck_e hF; obtain ⟨e_22, hF⟩ := hF
      replace hF := zq_bd hF; obtain ⟨v_20, e_21, hF⟩ := hF
      refine zq_cV (pc' := 32) C (c_X6_turned e_21) yv_X6_turned wd_496 zq_K6 e_22 dX6_codeOf_29 rfl rfl rfl ⟨Nat.le_of_ble_eq_true rfl, Nat.le_of_ble_eq_true rfl⟩ (Nat.le_of_ble_eq_true rfl) ⟨rfl, rfl⟩ ⟨Nat.le_of_ble_eq_true rfl, Nat.le_of_ble_eq_true rfl⟩ rfl ?_
      refine zq_istore (lv' := [(5, .int v_20), (4, .int v_14), (0, .ref t), (1, .int x1), (2, .int s_1.1), (3, .int s_1.2)]) (pc' := 34) C dX6_codeOf_32 rfl (by decide) rfl rfl ?_
      refine zq_iload (pc' := 36) C dX6_codeOf_34 rfl rfl ?_
      refine zq_iload_n (pc' := 37) C dX6_codeOf_36 rfl rfl rfl ?_
      refine zq_icmp_ge (pc' := 40) C 45 dX6_codeOf_37 (by decide) rfl (fun c_23 => ?_) (fun c_23 => ?_)
      · have hF := (zq_ifp hF c_23)
        skip
        refine zq_iload_n (pc' := 46) C dX6_codeOf_45 rfl rfl rfl ?_
        refine zq_istore_n (lv' := [(2, .int s_1.1), (5, .int v_20), (4, .int v_14), (0, .ref t), (1, .int x1), (3, .int s_1.2)]) (pc' := 47) C dX6_codeOf_46 rfl rfl (by decide) rfl rfl ?_
        refine zq_iload (pc' := 49) C dX6_codeOf_47 rfl rfl ?_
        refine zq_iload_n (pc' := 50) C dX6_codeOf_49 rfl rfl rfl ?_
        refine zq_icmp_ge (pc' := 53) C 58 dX6_codeOf_50 (by decide) rfl (fun c_24 => ?_) (fun c_24 => ?_)
        · have hF := (zq_ifp hF c_24)
          skip
          refine zq_iload_n (pc' := 59) C dX6_codeOf_58 rfl rfl rfl ?_
          refine zq_istore_n (lv' := [(2, .int s_1.1), (5, .int v_20), (4, .int v_14), (0, .ref t), (1, .int x1), (3, .int s_1.2)]) (pc' := 60) C dX6_codeOf_59 rfl rfl (by decide) rfl rfl ?_
          replace hF := zq_let_e hF; obtain ⟨v_25, e_26, hF⟩ := hF
          refine zq_iinc (lv' := [(3, .int v_25), (2, .int s_1.1), (5, .int v_20), (4, .int v_14), (0, .ref t), (1, .int x1)]) (pc' := 63) C dX6_codeOf_60 rfl (by decide) 5 rfl e_26 rfl ?_
          refine zq_goto C 4 dX6_codeOf_63 (by decide) ?_
          cases hF
          exact zq_sub [4, 5, 1, 0] rfl (hrec_6 _ rfl)
        · have hF := (zq_ifn hF c_24)
          refine zq_iload (pc' := 55) C dX6_codeOf_53 rfl rfl ?_
          refine zq_goto C 59 dX6_codeOf_55 (by decide) ?_
          refine zq_istore_n (lv' := [(2, .int v_20), (5, .int v_20), (4, .int v_14), (0, .ref t), (1, .int x1), (3, .int s_1.2)]) (pc' := 60) C dX6_codeOf_59 rfl rfl (by decide) rfl rfl ?_
          replace hF := zq_let_e hF; obtain ⟨v_27, e_28, hF⟩ := hF
          refine zq_iinc (lv' := [(3, .int v_27), (2, .int v_20), (5, .int v_20), (4, .int v_14), (0, .ref t), (1, .int x1)]) (pc' := 63) C dX6_codeOf_60 rfl (by decide) 5 rfl e_28 rfl ?_
          refine zq_goto C 4 dX6_codeOf_63 (by decide) ?_
          cases hF
          exact zq_sub [4, 5, 1, 0] rfl (hrec_6 _ rfl)
      · have hF := (zq_ifn hF c_23)
        refine zq_iload (pc' := 42) C dX6_codeOf_40 rfl rfl ?_
        refine zq_goto C 46 dX6_codeOf_42 (by decide) ?_
        refine zq_istore_n (lv' := [(2, .int v_14), (5, .int v_20), (4, .int v_14), (0, .ref t), (1, .int x1), (3, .int s_1.2)]) (pc' := 47) C dX6_codeOf_46 rfl rfl (by decide) rfl rfl ?_
        refine zq_iload (pc' := 49) C dX6_codeOf_47 rfl rfl ?_
        refine zq_iload_n (pc' := 50) C dX6_codeOf_49 rfl rfl rfl ?_
        refine zq_icmp_ge (pc' := 53) C 58 dX6_codeOf_50 (by decide) rfl (fun c_29 => ?_) (fun c_29 => ?_)
        · have hF := (zq_ifp hF c_29)
          skip
          refine zq_iload_n (pc' := 59) C dX6_codeOf_58 rfl rfl rfl ?_
          refine zq_istore_n (lv' := [(2, .int v_14), (5, .int v_20), (4, .int v_14), (0, .ref t), (1, .int x1), (3, .int s_1.2)]) (pc' := 60) C dX6_codeOf_59 rfl rfl (by decide) rfl rfl ?_
          replace hF := zq_let_e hF; obtain ⟨v_30, e_31, hF⟩ := hF
          refine zq_iinc (lv' := [(3, .int v_30), (2, .int v_14), (5, .int v_20), (4, .int v_14), (0, .ref t), (1, .int x1)]) (pc' := 63) C dX6_codeOf_60 rfl (by decide) 5 rfl e_31 rfl ?_
          refine zq_goto C 4 dX6_codeOf_63 (by decide) ?_
          cases hF
          exact zq_sub [4, 5, 1, 0] rfl (hrec_6 _ rfl)
        · have hF := (zq_ifn hF c_29)
          refine zq_iload (pc' := 55) C dX6_codeOf_53 rfl rfl ?_
          refine zq_goto C 59 dX6_codeOf_55 (by decide) ?_
          refine zq_istore_n (lv' := [(2, .int v_20), (5, .int v_20), (4, .int v_14), (0, .ref t), (1, .int x1), (3, .int s_1.2)]) (pc' := 60) C dX6_codeOf_59 rfl rfl (by decide) rfl rfl ?_
          replace hF := zq_let_e hF; obtain ⟨v_32, e_33, hF⟩ := hF
          refine zq_iinc (lv' := [(3, .int v_32), (2, .int v_20), (5, .int v_20), (4, .int v_14), (0, .ref t), (1, .int x1)]) (pc' := 63) C dX6_codeOf_60 rfl (by decide) 5 rfl e_33 rfl ?_
          refine zq_goto C 4 dX6_codeOf_63 (by decide) ?_
          cases hF
          exact zq_sub [4, 5, 1, 0] rfl (hrec_6 _ rfl)
  · skip
    obtain ⟨y_4, rfl⟩ : ∃ z9, z9 = r_2 := ⟨_, rfl⟩
    show zq_W X 0 0 h 66 [(2, .int y_4)] []
    refine zq_iload_n (pc' := 67) C dX6_codeOf_66 rfl rfl rfl ?_
    have hF := Option.some.inj hF
    subst hF
    exact hE _ _ _ _ (Nat.le_of_ble_eq_true rfl) (Nat.le_of_ble_eq_true rfl) dX6_codeOf_67
theorem c_X6_codeOf {h : zq_H} {t : Nat} {x1 : Int32} {out : Int32} (hF : f_X6_codeOf h t x1 = some out) : zq_M none yX6_codeOf (Cond.code yX6_codeOf cX6_codeOf 6 (some .int) :: zq_all) rm_X6_codeOf [.ref t, .int x1] h (some (.int out)) h := zq_met2 (own := RX6) (by decide +kernel) rfl (Nat.le_of_ble_eq_true rfl) rfl ⟨.int, rfl, rfl⟩ (fun X C T hn hE => v_X6_codeOf C T hn hF hE)
theorem yv_X6_codeOf : zq_calV yX6_codeOf RX6 cX6_codeOf 6 (some .int) 1 := ⟨by decide +kernel, wd_495, wd_526, wd_527, wd_458⟩
def f_X6_goFrom (h : zq_H) (t : Nat) (x1 : Int32) (x2 : Int32) : Option zq_H := ((zq_lp (σ := Int32 × zq_H) (ρ := zq_H) (fun s_1 => (Option.bind (zq_gi s_1.2 t 6 13) fun v_9 => (if v_9 ≤ s_1.1 then some (.inr s_1.2) else (Option.bind (zq_gr s_1.2 t 6 18) fun v_12 => (Option.bind (zq_si s_1.2 v_12 s_1.1 (-1)) fun h_14 => (Option.bind (zq_gr h_14 t 6 19) fun v_16 => (Option.bind (zq_si h_14 v_16 s_1.1 0) fun h_18 => (zq_let (s_1.1 + 1) fun v_20 => some (.inl (v_20, h_18)))))))))) zq_N (0, h)).bind (fun y_4 : zq_H => (zq_ck y_4 t 6 fun _ => (Option.bind (f_X6_indexOf y_4 t x1) fun v_22 => (Option.bind (zq_gr y_4 t 6 18) fun v_25 => (Option.bind (zq_si y_4 v_25 v_22 0) fun h_27 => (Option.bind (zq_gr h_27 t 6 19) fun v_29 => (Option.bind (zq_si h_27 v_29 v_22 1) fun h_31 => (Option.bind (zq_gr h_31 t 6 20) fun v_33 => (Option.bind (zq_si h_31 v_33 0 v_22) fun h_35 => ((zq_lp (σ := Int32 × Int32 × zq_H) (ρ := zq_H) (fun s_37 => (if s_37.1 ≤ s_37.2.1 then some (.inr s_37.2.2) else (Option.bind (zq_gr s_37.2.2 t 6 20) fun v_46 => (Option.bind (zq_ai s_37.2.2 v_46 s_37.2.1) fun v_48 => ((zq_lp (σ := Int32 × Int32 × Int32 × zq_H) (ρ := Int32 × zq_H) (fun s_50 => (Option.bind (zq_gi s_50.2.2.2 t 6 9) fun v_58 => (if v_58 ≤ s_50.2.2.1 then some (.inr (s_50.1, s_50.2.2.2)) else (Option.bind (zq_gr s_50.2.2.2 t 6 14) fun v_61 => (Option.bind (zq_ai s_50.2.2.2 v_61 v_48) fun v_63 => (Option.bind (f_X6_has s_50.2.2.2 v_63 s_50.2.2.1) fun v_65 => (if v_65 = false then (zq_let (s_50.2.2.1 + 1) fun v_68 => some (.inl (s_50.1, s_50.2.1, v_68, s_50.2.2.2))) else (Option.bind (zq_gr s_50.2.2.2 t 6 15) fun v_70 => (Option.bind (zq_ai s_50.2.2.2 v_70 ((6 * v_48) + s_50.2.1)) fun v_72 => (zq_let (s_50.2.1 + 1) fun v_74 => (Option.bind (f_X6_has s_50.2.2.2 x2 s_50.2.2.1) fun v_76 => (if v_76 = false then (Option.bind (zq_gr s_50.2.2.2 t 6 18) fun v_90 => (Option.bind (zq_ai s_50.2.2.2 v_90 v_72) fun v_92 => (if v_92 = (-1) then (Option.bind (zq_gr s_50.2.2.2 t 6 18) fun v_121 => (Option.bind (zq_gr s_50.2.2.2 t 6 18) fun v_123 => (Option.bind (zq_ai s_50.2.2.2 v_123 v_48) fun v_125 => (Option.bind (zq_si s_50.2.2.2 v_121 v_72 (v_125 + 1)) fun h_127 => (Option.bind (zq_gr h_127 t 6 20) fun v_129 => (Option.bind (zq_si h_127 v_129 s_50.1 v_72) fun h_131 => (zq_let (s_50.1 + 1) fun v_133 => (Option.bind (zq_gr h_131 t 6 19) fun v_135 => (Option.bind (zq_ai h_131 v_135 v_72) fun v_137 => (Option.bind (zq_gr h_131 t 6 18) fun v_140 => (Option.bind (zq_ai h_131 v_140 v_72) fun v_142 => (Option.bind (zq_gr h_131 t 6 18) fun v_144 => (Option.bind (zq_ai h_131 v_144 v_48) fun v_146 => (if v_142 = (v_146 + 1) then (Option.bind (zq_gr h_131 t 6 19) fun v_153 => (Option.bind (zq_ai h_131 v_153 v_48) fun v_155 => (Option.bind (zq_si h_131 v_135 v_72 (v_137 + v_155)) fun h_157 => (zq_let (s_50.2.2.1 + 1) fun v_159 => some (.inl (v_133, v_74, v_159, h_157)))))) else (Option.bind (zq_si h_131 v_135 v_72 (v_137 + 0)) fun h_149 => (zq_let (s_50.2.2.1 + 1) fun v_151 => some (.inl (v_133, v_74, v_151, h_149)))))))))))))))))) else (Option.bind (zq_gr s_50.2.2.2 t 6 19) fun v_95 => (Option.bind (zq_ai s_50.2.2.2 v_95 v_72) fun v_97 => (Option.bind (zq_gr s_50.2.2.2 t 6 18) fun v_100 => (Option.bind (zq_ai s_50.2.2.2 v_100 v_72) fun v_102 => (Option.bind (zq_gr s_50.2.2.2 t 6 18) fun v_104 => (Option.bind (zq_ai s_50.2.2.2 v_104 v_48) fun v_106 => (if v_102 = (v_106 + 1) then (Option.bind (zq_gr s_50.2.2.2 t 6 19) fun v_113 => (Option.bind (zq_ai s_50.2.2.2 v_113 v_48) fun v_115 => (Option.bind (zq_si s_50.2.2.2 v_95 v_72 (v_97 + v_115)) fun h_117 => (zq_let (s_50.2.2.1 + 1) fun v_119 => some (.inl (s_50.1, v_74, v_119, h_117)))))) else (Option.bind (zq_si s_50.2.2.2 v_95 v_72 (v_97 + 0)) fun h_109 => (zq_let (s_50.2.2.1 + 1) fun v_111 => some (.inl (s_50.1, v_74, v_111, h_109)))))))))))))) else (Option.bind (zq_gr s_50.2.2.2 t 6 19) fun v_80 => (Option.bind (zq_ai s_50.2.2.2 v_80 v_72) fun v_82 => (Option.bind (zq_si s_50.2.2.2 v_80 v_72 (v_82 + 0)) fun h_85 => (zq_let (s_50.2.2.1 + 1) fun v_87 => some (.inl (s_50.1, v_74, v_87, h_85)))))))))))))))))) zq_N (s_37.1, 0, 0, s_37.2.2)).bind (fun y_53 : Int32 × zq_H => (zq_let (s_37.2.1 + 1) fun v_161 => some (.inl (y_53.1, v_161, y_53.2))))))))) zq_N (1, 0, h_35)).bind (fun y_40 : zq_H => some (y_40)))))))))))))
abbrev rm_X6_goFrom : Room := { frames := 1, cells := 0, slots := 0, locals := 24 }
theorem dX6_goFrom_0 : decode cX6_goFrom 0 = .ok (.iconst 0, 1) := by decide +kernel
theorem dX6_goFrom_1 : decode cX6_goFrom 1 = .ok (.istore_n 3, 1) := by decide +kernel
theorem dX6_goFrom_2 : decode cX6_goFrom 2 = .ok (.iload_n 3, 1) := by decide +kernel
theorem dX6_goFrom_3 : decode cX6_goFrom 3 = .ok (.aload_n 0, 1) := by decide +kernel
theorem dX6_goFrom_4 : decode cX6_goFrom 4 = .ok (.getfield 88, 3) := by decide +kernel
theorem dX6_goFrom_7 : decode cX6_goFrom 7 = .ok (.if_icmp .ge 23, 3) := by decide +kernel
theorem dX6_goFrom_10 : decode cX6_goFrom 10 = .ok (.aload_n 0, 1) := by decide +kernel
theorem dX6_goFrom_11 : decode cX6_goFrom 11 = .ok (.getfield 40, 3) := by decide +kernel
theorem dX6_goFrom_14 : decode cX6_goFrom 14 = .ok (.iload_n 3, 1) := by decide +kernel
theorem dX6_goFrom_15 : decode cX6_goFrom 15 = .ok (.iconst (-1), 1) := by decide +kernel
theorem dX6_goFrom_16 : decode cX6_goFrom 16 = .ok (.iastore, 1) := by decide +kernel
theorem dX6_goFrom_17 : decode cX6_goFrom 17 = .ok (.aload_n 0, 1) := by decide +kernel
theorem dX6_goFrom_18 : decode cX6_goFrom 18 = .ok (.getfield 43, 3) := by decide +kernel
theorem dX6_goFrom_21 : decode cX6_goFrom 21 = .ok (.iload_n 3, 1) := by decide +kernel
theorem dX6_goFrom_22 : decode cX6_goFrom 22 = .ok (.iconst 0, 1) := by decide +kernel
theorem dX6_goFrom_23 : decode cX6_goFrom 23 = .ok (.iastore, 1) := by decide +kernel
theorem dX6_goFrom_24 : decode cX6_goFrom 24 = .ok (.iinc 3 1, 3) := by decide +kernel
theorem dX6_goFrom_27 : decode cX6_goFrom 27 = .ok (.goto (-25), 3) := by decide +kernel
theorem dX6_goFrom_30 : decode cX6_goFrom 30 = .ok (.aload_n 0, 1) := by decide +kernel
theorem dX6_goFrom_31 : decode cX6_goFrom 31 = .ok (.iload_n 1, 1) := by decide +kernel
theorem dX6_goFrom_32 : decode cX6_goFrom 32 = .ok (.invokevirtual 98, 3) := by decide +kernel
theorem dX6_goFrom_35 : decode cX6_goFrom 35 = .ok (.istore_n 3, 1) := by decide +kernel
theorem dX6_goFrom_36 : decode cX6_goFrom 36 = .ok (.aload_n 0, 1) := by decide +kernel
theorem dX6_goFrom_37 : decode cX6_goFrom 37 = .ok (.getfield 40, 3) := by decide +kernel
theorem dX6_goFrom_40 : decode cX6_goFrom 40 = .ok (.iload_n 3, 1) := by decide +kernel
theorem dX6_goFrom_41 : decode cX6_goFrom 41 = .ok (.iconst 0, 1) := by decide +kernel
theorem dX6_goFrom_42 : decode cX6_goFrom 42 = .ok (.iastore, 1) := by decide +kernel
theorem dX6_goFrom_43 : decode cX6_goFrom 43 = .ok (.aload_n 0, 1) := by decide +kernel
theorem dX6_goFrom_44 : decode cX6_goFrom 44 = .ok (.getfield 43, 3) := by decide +kernel
theorem dX6_goFrom_47 : decode cX6_goFrom 47 = .ok (.iload_n 3, 1) := by decide +kernel
theorem dX6_goFrom_48 : decode cX6_goFrom 48 = .ok (.iconst 1, 1) := by decide +kernel
theorem dX6_goFrom_49 : decode cX6_goFrom 49 = .ok (.iastore, 1) := by decide +kernel
theorem dX6_goFrom_50 : decode cX6_goFrom 50 = .ok (.aload_n 0, 1) := by decide +kernel
theorem dX6_goFrom_51 : decode cX6_goFrom 51 = .ok (.getfield 46, 3) := by decide +kernel
theorem dX6_goFrom_54 : decode cX6_goFrom 54 = .ok (.iconst 0, 1) := by decide +kernel
theorem dX6_goFrom_55 : decode cX6_goFrom 55 = .ok (.iload_n 3, 1) := by decide +kernel
theorem dX6_goFrom_56 : decode cX6_goFrom 56 = .ok (.iastore, 1) := by decide +kernel
theorem dX6_goFrom_57 : decode cX6_goFrom 57 = .ok (.iconst 1, 1) := by decide +kernel
theorem dX6_goFrom_58 : decode cX6_goFrom 58 = .ok (.istore 4, 2) := by decide +kernel
theorem dX6_goFrom_60 : decode cX6_goFrom 60 = .ok (.iconst 0, 1) := by decide +kernel
theorem dX6_goFrom_61 : decode cX6_goFrom 61 = .ok (.istore 5, 2) := by decide +kernel
theorem dX6_goFrom_63 : decode cX6_goFrom 63 = .ok (.iload 5, 2) := by decide +kernel
theorem dX6_goFrom_65 : decode cX6_goFrom 65 = .ok (.iload 4, 2) := by decide +kernel
theorem dX6_goFrom_67 : decode cX6_goFrom 67 = .ok (.if_icmp .ge 177, 3) := by decide +kernel
theorem dX6_goFrom_70 : decode cX6_goFrom 70 = .ok (.aload_n 0, 1) := by decide +kernel
theorem dX6_goFrom_71 : decode cX6_goFrom 71 = .ok (.getfield 46, 3) := by decide +kernel
theorem dX6_goFrom_74 : decode cX6_goFrom 74 = .ok (.iload 5, 2) := by decide +kernel
theorem dX6_goFrom_76 : decode cX6_goFrom 76 = .ok (.iaload, 1) := by decide +kernel
theorem dX6_goFrom_77 : decode cX6_goFrom 77 = .ok (.istore 6, 2) := by decide +kernel
theorem dX6_goFrom_79 : decode cX6_goFrom 79 = .ok (.iconst 0, 1) := by decide +kernel
theorem dX6_goFrom_80 : decode cX6_goFrom 80 = .ok (.istore 7, 2) := by decide +kernel
theorem dX6_goFrom_82 : decode cX6_goFrom 82 = .ok (.iconst 0, 1) := by decide +kernel
theorem dX6_goFrom_83 : decode cX6_goFrom 83 = .ok (.istore 8, 2) := by decide +kernel
theorem dX6_goFrom_85 : decode cX6_goFrom 85 = .ok (.iload 8, 2) := by decide +kernel
theorem dX6_goFrom_87 : decode cX6_goFrom 87 = .ok (.aload_n 0, 1) := by decide +kernel
theorem dX6_goFrom_88 : decode cX6_goFrom 88 = .ok (.getfield 63, 3) := by decide +kernel
theorem dX6_goFrom_91 : decode cX6_goFrom 91 = .ok (.if_icmp .ge 147, 3) := by decide +kernel
theorem dX6_goFrom_94 : decode cX6_goFrom 94 = .ok (.aload_n 0, 1) := by decide +kernel
theorem dX6_goFrom_95 : decode cX6_goFrom 95 = .ok (.getfield 34, 3) := by decide +kernel
theorem dX6_goFrom_98 : decode cX6_goFrom 98 = .ok (.iload 6, 2) := by decide +kernel
theorem dX6_goFrom_100 : decode cX6_goFrom 100 = .ok (.iaload, 1) := by decide +kernel
theorem dX6_goFrom_101 : decode cX6_goFrom 101 = .ok (.iload 8, 2) := by decide +kernel
theorem dX6_goFrom_103 : decode cX6_goFrom 103 = .ok (.invokestatic 74, 3) := by decide +kernel
theorem dX6_goFrom_106 : decode cX6_goFrom 106 = .ok (.ifCond .eq 126, 3) := by decide +kernel
theorem dX6_goFrom_109 : decode cX6_goFrom 109 = .ok (.aload_n 0, 1) := by decide +kernel
theorem dX6_goFrom_110 : decode cX6_goFrom 110 = .ok (.getfield 37, 3) := by decide +kernel
theorem dX6_goFrom_113 : decode cX6_goFrom 113 = .ok (.bipush 6, 2) := by decide +kernel
theorem dX6_goFrom_115 : decode cX6_goFrom 115 = .ok (.iload 6, 2) := by decide +kernel
theorem dX6_goFrom_117 : decode cX6_goFrom 117 = .ok (.imul, 1) := by decide +kernel
theorem dX6_goFrom_118 : decode cX6_goFrom 118 = .ok (.iload 7, 2) := by decide +kernel
theorem dX6_goFrom_120 : decode cX6_goFrom 120 = .ok (.iadd, 1) := by decide +kernel
theorem dX6_goFrom_121 : decode cX6_goFrom 121 = .ok (.iaload, 1) := by decide +kernel
theorem dX6_goFrom_122 : decode cX6_goFrom 122 = .ok (.istore 9, 2) := by decide +kernel
theorem dX6_goFrom_124 : decode cX6_goFrom 124 = .ok (.iinc 7 1, 3) := by decide +kernel
theorem dX6_goFrom_127 : decode cX6_goFrom 127 = .ok (.iload_n 2, 1) := by decide +kernel
theorem dX6_goFrom_128 : decode cX6_goFrom 128 = .ok (.iload 8, 2) := by decide +kernel
theorem dX6_goFrom_130 : decode cX6_goFrom 130 = .ok (.invokestatic 74, 3) := by decide +kernel
theorem dX6_goFrom_133 : decode cX6_goFrom 133 = .ok (.ifCond .ne 7, 3) := by decide +kernel
theorem dX6_goFrom_136 : decode cX6_goFrom 136 = .ok (.iconst 1, 1) := by decide +kernel
theorem dX6_goFrom_137 : decode cX6_goFrom 137 = .ok (.goto 4, 3) := by decide +kernel
theorem dX6_goFrom_140 : decode cX6_goFrom 140 = .ok (.iconst 0, 1) := by decide +kernel
theorem dX6_goFrom_141 : decode cX6_goFrom 141 = .ok (.istore 10, 2) := by decide +kernel
theorem dX6_goFrom_143 : decode cX6_goFrom 143 = .ok (.iload 10, 2) := by decide +kernel
theorem dX6_goFrom_145 : decode cX6_goFrom 145 = .ok (.ifCond .eq 42, 3) := by decide +kernel
theorem dX6_goFrom_148 : decode cX6_goFrom 148 = .ok (.aload_n 0, 1) := by decide +kernel
theorem dX6_goFrom_149 : decode cX6_goFrom 149 = .ok (.getfield 40, 3) := by decide +kernel
theorem dX6_goFrom_152 : decode cX6_goFrom 152 = .ok (.iload 9, 2) := by decide +kernel
theorem dX6_goFrom_154 : decode cX6_goFrom 154 = .ok (.iaload, 1) := by decide +kernel
theorem dX6_goFrom_155 : decode cX6_goFrom 155 = .ok (.iconst (-1), 1) := by decide +kernel
theorem dX6_goFrom_156 : decode cX6_goFrom 156 = .ok (.if_icmp .ne 31, 3) := by decide +kernel
theorem dX6_goFrom_159 : decode cX6_goFrom 159 = .ok (.aload_n 0, 1) := by decide +kernel
theorem dX6_goFrom_160 : decode cX6_goFrom 160 = .ok (.getfield 40, 3) := by decide +kernel
theorem dX6_goFrom_163 : decode cX6_goFrom 163 = .ok (.iload 9, 2) := by decide +kernel
theorem dX6_goFrom_165 : decode cX6_goFrom 165 = .ok (.aload_n 0, 1) := by decide +kernel
theorem dX6_goFrom_166 : decode cX6_goFrom 166 = .ok (.getfield 40, 3) := by decide +kernel
theorem dX6_goFrom_169 : decode cX6_goFrom 169 = .ok (.iload 6, 2) := by decide +kernel
theorem dX6_goFrom_171 : decode cX6_goFrom 171 = .ok (.iaload, 1) := by decide +kernel
theorem dX6_goFrom_172 : decode cX6_goFrom 172 = .ok (.iconst 1, 1) := by decide +kernel
theorem dX6_goFrom_173 : decode cX6_goFrom 173 = .ok (.iadd, 1) := by decide +kernel
theorem dX6_goFrom_174 : decode cX6_goFrom 174 = .ok (.iastore, 1) := by decide +kernel
theorem dX6_goFrom_175 : decode cX6_goFrom 175 = .ok (.aload_n 0, 1) := by decide +kernel
theorem dX6_goFrom_176 : decode cX6_goFrom 176 = .ok (.getfield 46, 3) := by decide +kernel
theorem dX6_goFrom_179 : decode cX6_goFrom 179 = .ok (.iload 4, 2) := by decide +kernel
theorem dX6_goFrom_181 : decode cX6_goFrom 181 = .ok (.iload 9, 2) := by decide +kernel
theorem dX6_goFrom_183 : decode cX6_goFrom 183 = .ok (.iastore, 1) := by decide +kernel
theorem dX6_goFrom_184 : decode cX6_goFrom 184 = .ok (.iinc 4 1, 3) := by decide +kernel
theorem dX6_goFrom_187 : decode cX6_goFrom 187 = .ok (.aload_n 0, 1) := by decide +kernel
theorem dX6_goFrom_188 : decode cX6_goFrom 188 = .ok (.getfield 43, 3) := by decide +kernel
theorem dX6_goFrom_191 : decode cX6_goFrom 191 = .ok (.iload 9, 2) := by decide +kernel
theorem dX6_goFrom_193 : decode cX6_goFrom 193 = .ok (.dup2, 1) := by decide +kernel
theorem dX6_goFrom_194 : decode cX6_goFrom 194 = .ok (.iaload, 1) := by decide +kernel
theorem dX6_goFrom_195 : decode cX6_goFrom 195 = .ok (.iload 10, 2) := by decide +kernel
theorem dX6_goFrom_197 : decode cX6_goFrom 197 = .ok (.ifCond .eq 32, 3) := by decide +kernel
theorem dX6_goFrom_200 : decode cX6_goFrom 200 = .ok (.aload_n 0, 1) := by decide +kernel
theorem dX6_goFrom_201 : decode cX6_goFrom 201 = .ok (.getfield 40, 3) := by decide +kernel
theorem dX6_goFrom_204 : decode cX6_goFrom 204 = .ok (.iload 9, 2) := by decide +kernel
theorem dX6_goFrom_206 : decode cX6_goFrom 206 = .ok (.iaload, 1) := by decide +kernel
theorem dX6_goFrom_207 : decode cX6_goFrom 207 = .ok (.aload_n 0, 1) := by decide +kernel
theorem dX6_goFrom_208 : decode cX6_goFrom 208 = .ok (.getfield 40, 3) := by decide +kernel
theorem dX6_goFrom_211 : decode cX6_goFrom 211 = .ok (.iload 6, 2) := by decide +kernel
theorem dX6_goFrom_213 : decode cX6_goFrom 213 = .ok (.iaload, 1) := by decide +kernel
theorem dX6_goFrom_214 : decode cX6_goFrom 214 = .ok (.iconst 1, 1) := by decide +kernel
theorem dX6_goFrom_215 : decode cX6_goFrom 215 = .ok (.iadd, 1) := by decide +kernel
theorem dX6_goFrom_216 : decode cX6_goFrom 216 = .ok (.if_icmp .ne 13, 3) := by decide +kernel
theorem dX6_goFrom_219 : decode cX6_goFrom 219 = .ok (.aload_n 0, 1) := by decide +kernel
theorem dX6_goFrom_220 : decode cX6_goFrom 220 = .ok (.getfield 43, 3) := by decide +kernel
theorem dX6_goFrom_223 : decode cX6_goFrom 223 = .ok (.iload 6, 2) := by decide +kernel
theorem dX6_goFrom_225 : decode cX6_goFrom 225 = .ok (.iaload, 1) := by decide +kernel
theorem dX6_goFrom_226 : decode cX6_goFrom 226 = .ok (.goto 4, 3) := by decide +kernel
theorem dX6_goFrom_229 : decode cX6_goFrom 229 = .ok (.iconst 0, 1) := by decide +kernel
theorem dX6_goFrom_230 : decode cX6_goFrom 230 = .ok (.iadd, 1) := by decide +kernel
theorem dX6_goFrom_231 : decode cX6_goFrom 231 = .ok (.iastore, 1) := by decide +kernel
theorem dX6_goFrom_232 : decode cX6_goFrom 232 = .ok (.iinc 8 1, 3) := by decide +kernel
theorem dX6_goFrom_235 : decode cX6_goFrom 235 = .ok (.goto (-150), 3) := by decide +kernel
theorem dX6_goFrom_238 : decode cX6_goFrom 238 = .ok (.iinc 5 1, 3) := by decide +kernel
theorem dX6_goFrom_241 : decode cX6_goFrom 241 = .ok (.goto (-178), 3) := by decide +kernel
theorem dX6_goFrom_244 : decode cX6_goFrom 244 = .ok (.return_, 1) := by decide +kernel
set_option maxRecDepth 100000 in
set_option maxHeartbeats 4000000 in
theorem v_X6_goFrom {X : zq_X} (C : zq_C X RX6 cX6_goFrom 11 zq_all rm_X6_goFrom) {h : zq_H} {t : Nat} {x1 : Int32} {x2 : Int32} (T : zq_T X none) (hn : X.2.2.2.2.2.2.2.2.1.name = yX6_goFrom.name) {out : zq_H} (hF : f_X6_goFrom h t x1 x2 = some out) (hE : zq_End X cX6_goFrom 0 0 none out) : zq_W X 0 0 h 0 [(0, .ref t), (1, .int x1), (2, .int x2)] [] := by
  unfold f_X6_goFrom at hF
  refine zq_iconst (pc' := 1) C 0 dX6_goFrom_0 rfl (by decide) ?_
  refine zq_istore_n (lv' := [(3, .int 0), (0, .ref t), (1, .int x1), (2, .int x2)]) (pc' := 2) C dX6_goFrom_1 rfl rfl (by decide) rfl rfl ?_
  refine zq_sub [1, 2, 3, 0] rfl ?_
  replace hF := zq_bd hF; obtain ⟨r_2, e_3, hF⟩ := hF
  refine zq_lpW (fun s_1 => zq_W X 0 0 s_1.2 2 [(0, .ref t), (1, .int x1), (2, .int x2), (3, .int s_1.1)] []) (fun y_4 => zq_W X 0 0 y_4 30 [(0, .ref t), (1, .int x1), (2, .int x2)] []) e_3 (fun s_1 q_8 hF hrec_6 hex_7 => ?_) ?_
  · skip
    refine zq_iload_n (pc' := 3) C dX6_goFrom_2 rfl rfl rfl ?_
    refine zq_aload_n (pc' := 4) C dX6_goFrom_3 rfl rfl rfl ?_
    replace hF := zq_bd hF; obtain ⟨v_9, e_10, hF⟩ := hF
    refine zq_getI (j := 13) (pc' := 7) C zq_K6 zq_in6w (Or.inl wd_474) (by decide) rfl dX6_goFrom_4 rfl e_10 ?_
    refine zq_icmp_ge (pc' := 10) C 30 dX6_goFrom_7 (by decide) rfl (fun c_11 => ?_) (fun c_11 => ?_)
    · have hF := (zq_ifp hF c_11)
      skip
      cases hF
      exact zq_sub [0, 1, 2] rfl (hex_7 _ rfl)
    · have hF := (zq_ifn hF c_11)
      refine zq_aload_n (pc' := 11) C dX6_goFrom_10 rfl rfl rfl ?_
      replace hF := zq_bd hF; obtain ⟨v_12, e_13, hF⟩ := hF
      refine zq_getR (j := 18) (pc' := 14) C zq_K6 zq_in6w (Or.inl wd_503) (by decide) rfl dX6_goFrom_11 rfl e_13 ?_
      refine zq_iload_n (pc' := 15) C dX6_goFrom_14 rfl rfl rfl ?_
      refine zq_iconst (pc' := 16) C (-1) dX6_goFrom_15 rfl (by decide) ?_
      replace hF := zq_bd hF; obtain ⟨h_14, e_15, hF⟩ := hF
      refine zq_iastore (pc' := 17) C dX6_goFrom_16 rfl e_15 ?_
      refine zq_aload_n (pc' := 18) C dX6_goFrom_17 rfl rfl rfl ?_
      replace hF := zq_bd hF; obtain ⟨v_16, e_17, hF⟩ := hF
      refine zq_getR (j := 19) (pc' := 21) C zq_K6 zq_in6w (Or.inl wd_504) (by decide) rfl dX6_goFrom_18 rfl e_17 ?_
      refine zq_iload_n (pc' := 22) C dX6_goFrom_21 rfl rfl rfl ?_
      refine zq_iconst (pc' := 23) C 0 dX6_goFrom_22 rfl (by decide) ?_
      replace hF := zq_bd hF; obtain ⟨h_18, e_19, hF⟩ := hF
      refine zq_iastore (pc' := 24) C dX6_goFrom_23 rfl e_19 ?_
      replace hF := zq_let_e hF; obtain ⟨v_20, e_21, hF⟩ := hF
      refine zq_iinc (lv' := [(3, .int v_20), (0, .ref t), (1, .int x1), (2, .int x2)]) (pc' := 27) C dX6_goFrom_24 rfl (by decide) 3 rfl e_21 rfl ?_
      refine zq_goto C 2 dX6_goFrom_27 (by decide) ?_
      cases hF
      exact zq_sub [1, 2, 3, 0] rfl (hrec_6 _ rfl)
  · skip
    obtain ⟨y_4, rfl⟩ : ∃ z9, z9 = r_2 := ⟨_, rfl⟩
    show zq_W X 0 0 y_4 30 [(0, .ref t), (1, .int x1), (2, .int x2)] []
    refine zq_aload_n (pc' := 31) C dX6_goFrom_30 rfl rfl rfl ?_
    refine zq_iload_n (pc' := 32) C dX6_goFrom_31 rfl rfl rfl ?_
    replace hF := zq_ck_e hF; obtain ⟨e_24, hF⟩ := hF
    replace hF := zq_bd hF; obtain ⟨v_22, e_23, hF⟩ := hF
    refine zq_cV (pc' := 35) C (c_X6_indexOf e_23) yv_X6_indexOf wd_489 zq_K6 e_24 dX6_goFrom_32 rfl rfl rfl ⟨Nat.le_of_ble_eq_true rfl, Nat.le_of_ble_eq_true rfl⟩ (Nat.le_of_ble_eq_true rfl) ⟨rfl, rfl⟩ ⟨Nat.le_of_ble_eq_true rfl, Nat.le_of_ble_eq_true rfl⟩ rfl ?_
    refine zq_istore_n (lv' := [(3, .int v_22), (0, .ref t), (1, .int x1), (2, .int x2)]) (pc' := 36) C dX6_goFrom_35 rfl rfl (by decide) rfl rfl ?_
    refine zq_aload_n (pc' := 37) C dX6_goFrom_36 rfl rfl rfl ?_
    replace hF := zq_bd hF; obtain ⟨v_25, e_26, hF⟩ := hF
    refine zq_getR (j := 18) (pc' := 40) C zq_K6 zq_in6w (Or.inl wd_503) (by decide) rfl dX6_goFrom_37 rfl e_26 ?_
    refine zq_iload_n (pc' := 41) C dX6_goFrom_40 rfl rfl rfl ?_
    refine zq_iconst (pc' := 42) C 0 dX6_goFrom_41 rfl (by decide) ?_
    replace hF := zq_bd hF; obtain ⟨h_27, e_28, hF⟩ := hF
    refine zq_iastore (pc' := 43) C dX6_goFrom_42 rfl e_28 ?_
    refine zq_aload_n (pc' := 44) C dX6_goFrom_43 rfl rfl rfl ?_
    replace hF := zq_bd hF; obtain ⟨v_29, e_30, hF⟩ := hF
    refine zq_getR (j := 19) (pc' := 47) C zq_K6 zq_in6w (Or.inl wd_504) (by decide) rfl dX6_goFrom_44 rfl e_30 ?_
    refine zq_iload_n (pc' := 48) C dX6_goFrom_47 rfl rfl rfl ?_
    refine zq_iconst (pc' := 49) C 1 dX6_goFrom_48 rfl (by decide) ?_
    replace hF := zq_bd hF; obtain ⟨h_31, e_32, hF⟩ := hF
    refine zq_iastore (pc' := 50) C dX6_goFrom_49 rfl e_32 ?_
    refine zq_aload_n (pc' := 51) C dX6_goFrom_50 rfl rfl rfl ?_
    replace hF := zq_bd hF; obtain ⟨v_33, e_34, hF⟩ := hF
    refine zq_getR (j := 20) (pc' := 54) C zq_K6 zq_in6w (Or.inl wd_505) (by decide) rfl dX6_goFrom_51 rfl e_34 ?_
    refine zq_iconst (pc' := 55) C 0 dX6_goFrom_54 rfl (by decide) ?_
    refine zq_iload_n (pc' := 56) C dX6_goFrom_55 rfl rfl rfl ?_
    replace hF := zq_bd hF; obtain ⟨h_35, e_36, hF⟩ := hF
    refine zq_iastore (pc' := 57) C dX6_goFrom_56 rfl e_36 ?_
    refine zq_iconst (pc' := 58) C 1 dX6_goFrom_57 rfl (by decide) ?_
    refine zq_istore (lv' := [(4, .int 1), (3, .int v_22), (0, .ref t), (1, .int x1), (2, .int x2)]) (pc' := 60) C dX6_goFrom_58 rfl (by decide) rfl rfl ?_
    refine zq_iconst (pc' := 61) C 0 dX6_goFrom_60 rfl (by decide) ?_
    refine zq_istore (lv' := [(5, .int 0), (4, .int 1), (3, .int v_22), (0, .ref t), (1, .int x1), (2, .int x2)]) (pc' := 63) C dX6_goFrom_61 rfl (by decide) rfl rfl ?_
    refine zq_sub [3, 5, 1, 0] rfl ?_
    replace hF := zq_bd hF; obtain ⟨r_38, e_39, hF⟩ := hF
    refine zq_lpW (fun s_37 => zq_W X 0 0 s_37.2.2 63 [(0, .ref t), (2, .int x2), (4, .int s_37.1), (5, .int s_37.2.1)] []) (fun y_40 => zq_W X 0 0 y_40 244 [] []) e_39 (fun s_37 q_44 hF hrec_42 hex_43 => ?_) ?_
    · skip
      refine zq_iload (pc' := 65) C dX6_goFrom_63 rfl rfl ?_
      refine zq_iload (pc' := 67) C dX6_goFrom_65 rfl rfl ?_
      refine zq_icmp_ge (pc' := 70) C 244 dX6_goFrom_67 (by decide) rfl (fun c_45 => ?_) (fun c_45 => ?_)
      · have hF := (zq_ifp hF c_45)
        skip
        cases hF
        exact zq_sub [] rfl (hex_43 _ rfl)
      · have hF := (zq_ifn hF c_45)
        refine zq_aload_n (pc' := 71) C dX6_goFrom_70 rfl rfl rfl ?_
        replace hF := zq_bd hF; obtain ⟨v_46, e_47, hF⟩ := hF
        refine zq_getR (j := 20) (pc' := 74) C zq_K6 zq_in6w (Or.inl wd_505) (by decide) rfl dX6_goFrom_71 rfl e_47 ?_
        refine zq_iload (pc' := 76) C dX6_goFrom_74 rfl rfl ?_
        replace hF := zq_bd hF; obtain ⟨v_48, e_49, hF⟩ := hF
        refine zq_iaload (pc' := 77) C dX6_goFrom_76 rfl e_49 ?_
        refine zq_istore (lv' := [(6, .int v_48), (0, .ref t), (2, .int x2), (4, .int s_37.1), (5, .int s_37.2.1)]) (pc' := 79) C dX6_goFrom_77 rfl (by decide) rfl rfl ?_
        refine zq_iconst (pc' := 80) C 0 dX6_goFrom_79 rfl (by decide) ?_
        refine zq_istore (lv' := [(7, .int 0), (6, .int v_48), (0, .ref t), (2, .int x2), (4, .int s_37.1), (5, .int s_37.2.1)]) (pc' := 82) C dX6_goFrom_80 rfl (by decide) rfl rfl ?_
        refine zq_iconst (pc' := 83) C 0 dX6_goFrom_82 rfl (by decide) ?_
        refine zq_istore (lv' := [(8, .int 0), (7, .int 0), (6, .int v_48), (0, .ref t), (2, .int x2), (4, .int s_37.1), (5, .int s_37.2.1)]) (pc' := 85) C dX6_goFrom_83 rfl (by decide) rfl rfl ?_
        refine zq_sub [3, 4, 5, 6, 2, 1, 0] rfl ?_
        replace hF := zq_bd hF; obtain ⟨r_51, e_52, hF⟩ := hF
        refine zq_lpW (fun s_50 => zq_W X 0 0 s_50.2.2.2 85 [(0, .ref t), (2, .int x2), (4, .int s_50.1), (5, .int s_37.2.1), (6, .int v_48), (7, .int s_50.2.1), (8, .int s_50.2.2.1)] []) (fun y_53 => zq_W X 0 0 y_53.2 238 [(0, .ref t), (2, .int x2), (4, .int y_53.1), (5, .int s_37.2.1)] []) e_52 (fun s_50 q_57 hF hrec_55 hex_56 => ?_) ?_
        · skip
          refine zq_iload (pc' := 87) C dX6_goFrom_85 rfl rfl ?_
          refine zq_aload_n (pc' := 88) C dX6_goFrom_87 rfl rfl rfl ?_
          replace hF := zq_bd hF; obtain ⟨v_58, e_59, hF⟩ := hF
          refine zq_getI (j := 9) (pc' := 91) C zq_K6 zq_in6w (Or.inl wd_446) (by decide) rfl dX6_goFrom_88 rfl e_59 ?_
          refine zq_icmp_ge (pc' := 94) C 238 dX6_goFrom_91 (by decide) rfl (fun c_60 => ?_) (fun c_60 => ?_)
          · have hF := (zq_ifp hF c_60)
            skip
            cases hF
            exact zq_sub [0, 1, 2, 3] rfl (hex_56 _ rfl)
          · have hF := (zq_ifn hF c_60)
            refine zq_aload_n (pc' := 95) C dX6_goFrom_94 rfl rfl rfl ?_
            replace hF := zq_bd hF; obtain ⟨v_61, e_62, hF⟩ := hF
            refine zq_getR (j := 14) (pc' := 98) C zq_K6 zq_in6w (Or.inl wd_475) (by decide) rfl dX6_goFrom_95 rfl e_62 ?_
            refine zq_iload (pc' := 100) C dX6_goFrom_98 rfl rfl ?_
            replace hF := zq_bd hF; obtain ⟨v_63, e_64, hF⟩ := hF
            refine zq_iaload (pc' := 101) C dX6_goFrom_100 rfl e_64 ?_
            refine zq_iload (pc' := 103) C dX6_goFrom_101 rfl rfl ?_
            replace hF := zq_bd hF; obtain ⟨v_65, e_66, hF⟩ := hF
            refine zq_cS (pc' := 106) C (c_X6_has e_66) ys_X6_has wd_459 dX6_goFrom_103 rfl rfl rfl ⟨Nat.le_of_ble_eq_true rfl, Nat.le_of_ble_eq_true rfl⟩ (Nat.le_of_ble_eq_true rfl) ⟨rfl, rfl⟩ ⟨Nat.le_of_ble_eq_true rfl, Nat.le_of_ble_eq_true rfl⟩ rfl ?_
            refine zq_if_eq (pc' := 109) C 232 dX6_goFrom_106 (by decide) rfl (fun c_67 => ?_) (fun c_67 => ?_)
            · have hF := (zq_ifp hF (zq_b0.mp c_67))
              skip
              replace hF := zq_let_e hF; obtain ⟨v_68, e_69, hF⟩ := hF
              refine zq_iinc (lv' := [(8, .int v_68), (0, .ref t), (2, .int x2), (4, .int s_50.1), (5, .int s_37.2.1), (6, .int v_48), (7, .int s_50.2.1)]) (pc' := 235) C dX6_goFrom_232 rfl (by decide) 6 rfl e_69 rfl ?_
              refine zq_goto C 85 dX6_goFrom_235 (by decide) ?_
              cases hF
              exact zq_sub [1, 2, 3, 4, 5, 6, 0] rfl (hrec_55 _ rfl)
            · have hF := (zq_ifn hF (fun q => c_67 (zq_b0.mpr q)))
              refine zq_aload_n (pc' := 110) C dX6_goFrom_109 rfl rfl rfl ?_
              replace hF := zq_bd hF; obtain ⟨v_70, e_71, hF⟩ := hF
              refine zq_getR (j := 15) (pc' := 113) C zq_K6 zq_in6w (Or.inl wd_488) (by decide) rfl dX6_goFrom_110 rfl e_71 ?_
              refine zq_bipush (pc' := 115) C 6 dX6_goFrom_113 rfl (by decide) ?_
              refine zq_iload (pc' := 117) C dX6_goFrom_115 rfl rfl ?_
              refine zq_imul (pc' := 118) C dX6_goFrom_117 rfl ?_
              refine zq_iload (pc' := 120) C dX6_goFrom_118 rfl rfl ?_
              refine zq_iadd (pc' := 121) C dX6_goFrom_120 rfl ?_
              replace hF := zq_bd hF; obtain ⟨v_72, e_73, hF⟩ := hF
              refine zq_iaload (pc' := 122) C dX6_goFrom_121 rfl e_73 ?_
              refine zq_istore (lv' := [(9, .int v_72), (0, .ref t), (2, .int x2), (4, .int s_50.1), (5, .int s_37.2.1), (6, .int v_48), (7, .int s_50.2.1), (8, .int s_50.2.2.1)]) (pc' := 124) C dX6_goFrom_122 rfl (by decide) rfl rfl ?_
              replace hF := zq_let_e hF; obtain ⟨v_74, e_75, hF⟩ := hF
              refine zq_iinc (lv' := [(7, .int v_74), (9, .int v_72), (0, .ref t), (2, .int x2), (4, .int s_50.1), (5, .int s_37.2.1), (6, .int v_48), (8, .int s_50.2.2.1)]) (pc' := 127) C dX6_goFrom_124 rfl (by decide) 6 rfl e_75 rfl ?_
              refine zq_iload_n (pc' := 128) C dX6_goFrom_127 rfl rfl rfl ?_
              refine zq_iload (pc' := 130) C dX6_goFrom_128 rfl rfl ?_
              replace hF := zq_bd hF; obtain ⟨v_76, e_77, hF⟩ := hF
              refine zq_cS (pc' := 133) C (c_X6_has e_77) ys_X6_has wd_459 dX6_goFrom_130 rfl rfl rfl ⟨Nat.le_of_ble_eq_true rfl, Nat.le_of_ble_eq_true rfl⟩ (Nat.le_of_ble_eq_true rfl) ⟨rfl, rfl⟩ ⟨Nat.le_of_ble_eq_true rfl, Nat.le_of_ble_eq_true rfl⟩ rfl ?_
              refine zq_if_ne (pc' := 136) C 140 dX6_goFrom_133 (by decide) rfl (fun c_78 => ?_) (fun c_78 => ?_)
              · have hF := (zq_ifn hF (fun q => c_78 (zq_b0.mpr q)))
                skip
                refine zq_iconst (pc' := 141) C 0 dX6_goFrom_140 rfl (by decide) ?_
                refine zq_istore (lv' := [(10, .int 0), (7, .int v_74), (9, .int v_72), (0, .ref t), (2, .int x2), (4, .int s_50.1), (5, .int s_37.2.1), (6, .int v_48), (8, .int s_50.2.2.1)]) (pc' := 143) C dX6_goFrom_141 rfl (by decide) rfl rfl ?_
                refine zq_iload (pc' := 145) C dX6_goFrom_143 rfl rfl ?_
                refine zq_if_eq (pc' := 148) C 187 dX6_goFrom_145 (by decide) rfl (fun _ => ?_) (fun c_79 => absurd c_79 (by decide))
                refine zq_aload_n (pc' := 188) C dX6_goFrom_187 rfl rfl rfl ?_
                replace hF := zq_bd hF; obtain ⟨v_80, e_81, hF⟩ := hF
                refine zq_getR (j := 19) (pc' := 191) C zq_K6 zq_in6w (Or.inl wd_504) (by decide) rfl dX6_goFrom_188 rfl e_81 ?_
                refine zq_iload (pc' := 193) C dX6_goFrom_191 rfl rfl ?_
                refine zq_dup2 (pc' := 194) C dX6_goFrom_193 rfl rfl rfl ?_
                replace hF := zq_bd hF; obtain ⟨v_82, e_83, hF⟩ := hF
                refine zq_iaload (pc' := 195) C dX6_goFrom_194 rfl e_83 ?_
                refine zq_iload (pc' := 197) C dX6_goFrom_195 rfl rfl ?_
                refine zq_if_eq (pc' := 200) C 229 dX6_goFrom_197 (by decide) rfl (fun _ => ?_) (fun c_84 => absurd c_84 (by decide))
                refine zq_iconst (pc' := 230) C 0 dX6_goFrom_229 rfl (by decide) ?_
                refine zq_iadd (pc' := 231) C dX6_goFrom_230 rfl ?_
                replace hF := zq_bd hF; obtain ⟨h_85, e_86, hF⟩ := hF
                refine zq_iastore (pc' := 232) C dX6_goFrom_231 rfl e_86 ?_
                replace hF := zq_let_e hF; obtain ⟨v_87, e_88, hF⟩ := hF
                refine zq_iinc (lv' := [(8, .int v_87), (10, .int 0), (7, .int v_74), (9, .int v_72), (0, .ref t), (2, .int x2), (4, .int s_50.1), (5, .int s_37.2.1), (6, .int v_48)]) (pc' := 235) C dX6_goFrom_232 rfl (by decide) 8 rfl e_88 rfl ?_
                refine zq_goto C 85 dX6_goFrom_235 (by decide) ?_
                cases hF
                exact zq_sub [4, 5, 6, 7, 8, 2, 0] rfl (hrec_55 _ rfl)
              · have hF := (zq_ifp hF (zq_b0.mp c_78))
                refine zq_iconst (pc' := 137) C 1 dX6_goFrom_136 rfl (by decide) ?_
                refine zq_goto C 141 dX6_goFrom_137 (by decide) ?_
                refine zq_istore (lv' := [(10, .int 1), (7, .int v_74), (9, .int v_72), (0, .ref t), (2, .int x2), (4, .int s_50.1), (5, .int s_37.2.1), (6, .int v_48), (8, .int s_50.2.2.1)]) (pc' := 143) C dX6_goFrom_141 rfl (by decide) rfl rfl ?_
                refine zq_iload (pc' := 145) C dX6_goFrom_143 rfl rfl ?_
                refine zq_if_eq (pc' := 148) C 187 dX6_goFrom_145 (by decide) rfl (fun c_89 => absurd c_89 (by decide)) (fun _ => ?_)
                refine zq_aload_n (pc' := 149) C dX6_goFrom_148 rfl rfl rfl ?_
                replace hF := zq_bd hF; obtain ⟨v_90, e_91, hF⟩ := hF
                refine zq_getR (j := 18) (pc' := 152) C zq_K6 zq_in6w (Or.inl wd_503) (by decide) rfl dX6_goFrom_149 rfl e_91 ?_
                refine zq_iload (pc' := 154) C dX6_goFrom_152 rfl rfl ?_
                replace hF := zq_bd hF; obtain ⟨v_92, e_93, hF⟩ := hF
                refine zq_iaload (pc' := 155) C dX6_goFrom_154 rfl e_93 ?_
                refine zq_iconst (pc' := 156) C (-1) dX6_goFrom_155 rfl (by decide) ?_
                refine zq_icmp_ne (pc' := 159) C 187 dX6_goFrom_156 (by decide) rfl (fun c_94 => ?_) (fun c_94 => ?_)
                · have hF := (zq_ifn hF c_94)
                  skip
                  refine zq_aload_n (pc' := 188) C dX6_goFrom_187 rfl rfl rfl ?_
                  replace hF := zq_bd hF; obtain ⟨v_95, e_96, hF⟩ := hF
                  refine zq_getR (j := 19) (pc' := 191) C zq_K6 zq_in6w (Or.inl wd_504) (by decide) rfl dX6_goFrom_188 rfl e_96 ?_
                  refine zq_iload (pc' := 193) C dX6_goFrom_191 rfl rfl ?_
                  refine zq_dup2 (pc' := 194) C dX6_goFrom_193 rfl rfl rfl ?_
                  replace hF := zq_bd hF; obtain ⟨v_97, e_98, hF⟩ := hF
                  refine zq_iaload (pc' := 195) C dX6_goFrom_194 rfl e_98 ?_
                  refine zq_iload (pc' := 197) C dX6_goFrom_195 rfl rfl ?_
                  refine zq_if_eq (pc' := 200) C 229 dX6_goFrom_197 (by decide) rfl (fun c_99 => absurd c_99 (by decide)) (fun _ => ?_)
                  refine zq_aload_n (pc' := 201) C dX6_goFrom_200 rfl rfl rfl ?_
                  replace hF := zq_bd hF; obtain ⟨v_100, e_101, hF⟩ := hF
                  refine zq_getR (j := 18) (pc' := 204) C zq_K6 zq_in6w (Or.inl wd_503) (by decide) rfl dX6_goFrom_201 rfl e_101 ?_
                  refine zq_iload (pc' := 206) C dX6_goFrom_204 rfl rfl ?_
                  replace hF := zq_bd hF; obtain ⟨v_102, e_103, hF⟩ := hF
                  refine zq_iaload (pc' := 207) C dX6_goFrom_206 rfl e_103 ?_
                  refine zq_aload_n (pc' := 208) C dX6_goFrom_207 rfl rfl rfl ?_
                  replace hF := zq_bd hF; obtain ⟨v_104, e_105, hF⟩ := hF
                  refine zq_getR (j := 18) (pc' := 211) C zq_K6 zq_in6w (Or.inl wd_503) (by decide) rfl dX6_goFrom_208 rfl e_105 ?_
                  refine zq_iload (pc' := 213) C dX6_goFrom_211 rfl rfl ?_
                  replace hF := zq_bd hF; obtain ⟨v_106, e_107, hF⟩ := hF
                  refine zq_iaload (pc' := 214) C dX6_goFrom_213 rfl e_107 ?_
                  refine zq_iconst (pc' := 215) C 1 dX6_goFrom_214 rfl (by decide) ?_
                  refine zq_iadd (pc' := 216) C dX6_goFrom_215 rfl ?_
                  refine zq_icmp_ne (pc' := 219) C 229 dX6_goFrom_216 (by decide) rfl (fun c_108 => ?_) (fun c_108 => ?_)
                  · have hF := (zq_ifn hF c_108)
                    skip
                    refine zq_iconst (pc' := 230) C 0 dX6_goFrom_229 rfl (by decide) ?_
                    refine zq_iadd (pc' := 231) C dX6_goFrom_230 rfl ?_
                    replace hF := zq_bd hF; obtain ⟨h_109, e_110, hF⟩ := hF
                    refine zq_iastore (pc' := 232) C dX6_goFrom_231 rfl e_110 ?_
                    replace hF := zq_let_e hF; obtain ⟨v_111, e_112, hF⟩ := hF
                    refine zq_iinc (lv' := [(8, .int v_111), (10, .int 1), (7, .int v_74), (9, .int v_72), (0, .ref t), (2, .int x2), (4, .int s_50.1), (5, .int s_37.2.1), (6, .int v_48)]) (pc' := 235) C dX6_goFrom_232 rfl (by decide) 8 rfl e_112 rfl ?_
                    refine zq_goto C 85 dX6_goFrom_235 (by decide) ?_
                    cases hF
                    exact zq_sub [4, 5, 6, 7, 8, 2, 0] rfl (hrec_55 _ rfl)
                  · have hF := (zq_ifp hF c_108)
                    refine zq_aload_n (pc' := 220) C dX6_goFrom_219 rfl rfl rfl ?_
                    replace hF := zq_bd hF; obtain ⟨v_113, e_114, hF⟩ := hF
                    refine zq_getR (j := 19) (pc' := 223) C zq_K6 zq_in6w (Or.inl wd_504) (by decide) rfl dX6_goFrom_220 rfl e_114 ?_
                    refine zq_iload (pc' := 225) C dX6_goFrom_223 rfl rfl ?_
                    replace hF := zq_bd hF; obtain ⟨v_115, e_116, hF⟩ := hF
                    refine zq_iaload (pc' := 226) C dX6_goFrom_225 rfl e_116 ?_
                    refine zq_goto C 230 dX6_goFrom_226 (by decide) ?_
                    refine zq_iadd (pc' := 231) C dX6_goFrom_230 rfl ?_
                    replace hF := zq_bd hF; obtain ⟨h_117, e_118, hF⟩ := hF
                    refine zq_iastore (pc' := 232) C dX6_goFrom_231 rfl e_118 ?_
                    replace hF := zq_let_e hF; obtain ⟨v_119, e_120, hF⟩ := hF
                    refine zq_iinc (lv' := [(8, .int v_119), (10, .int 1), (7, .int v_74), (9, .int v_72), (0, .ref t), (2, .int x2), (4, .int s_50.1), (5, .int s_37.2.1), (6, .int v_48)]) (pc' := 235) C dX6_goFrom_232 rfl (by decide) 8 rfl e_120 rfl ?_
                    refine zq_goto C 85 dX6_goFrom_235 (by decide) ?_
                    cases hF
                    exact zq_sub [4, 5, 6, 7, 8, 2, 0] rfl (hrec_55 _ rfl)
                · have hF := (zq_ifp hF c_94)
                  refine zq_aload_n (pc' := 160) C dX6_goFrom_159 rfl rfl rfl ?_
                  replace hF := zq_bd hF; obtain ⟨v_121, e_122, hF⟩ := hF
                  refine zq_getR (j := 18) (pc' := 163) C zq_K6 zq_in6w (Or.inl wd_503) (by decide) rfl dX6_goFrom_160 rfl e_122 ?_
                  refine zq_iload (pc' := 165) C dX6_goFrom_163 rfl rfl ?_
                  refine zq_aload_n (pc' := 166) C dX6_goFrom_165 rfl rfl rfl ?_
                  replace hF := zq_bd hF; obtain ⟨v_123, e_124, hF⟩ := hF
                  refine zq_getR (j := 18) (pc' := 169) C zq_K6 zq_in6w (Or.inl wd_503) (by decide) rfl dX6_goFrom_166 rfl e_124 ?_
                  refine zq_iload (pc' := 171) C dX6_goFrom_169 rfl rfl ?_
                  replace hF := zq_bd hF; obtain ⟨v_125, e_126, hF⟩ := hF
                  refine zq_iaload (pc' := 172) C dX6_goFrom_171 rfl e_126 ?_
                  refine zq_iconst (pc' := 173) C 1 dX6_goFrom_172 rfl (by decide) ?_
                  refine zq_iadd (pc' := 174) C dX6_goFrom_173 rfl ?_
                  replace hF := zq_bd hF; obtain ⟨h_127, e_128, hF⟩ := hF
                  refine zq_iastore (pc' := 175) C dX6_goFrom_174 rfl e_128 ?_
                  refine zq_aload_n (pc' := 176) C dX6_goFrom_175 rfl rfl rfl ?_
                  replace hF := zq_bd hF; obtain ⟨v_129, e_130, hF⟩ := hF
                  refine zq_getR (j := 20) (pc' := 179) C zq_K6 zq_in6w (Or.inl wd_505) (by decide) rfl dX6_goFrom_176 rfl e_130 ?_
                  refine zq_iload (pc' := 181) C dX6_goFrom_179 rfl rfl ?_
                  refine zq_iload (pc' := 183) C dX6_goFrom_181 rfl rfl ?_
                  replace hF := zq_bd hF; obtain ⟨h_131, e_132, hF⟩ := hF
                  refine zq_iastore (pc' := 184) C dX6_goFrom_183 rfl e_132 ?_
                  replace hF := zq_let_e hF; obtain ⟨v_133, e_134, hF⟩ := hF
                  refine zq_iinc (lv' := [(4, .int v_133), (10, .int 1), (7, .int v_74), (9, .int v_72), (0, .ref t), (2, .int x2), (5, .int s_37.2.1), (6, .int v_48), (8, .int s_50.2.2.1)]) (pc' := 187) C dX6_goFrom_184 rfl (by decide) 5 rfl e_134 rfl ?_
                  refine zq_aload_n (pc' := 188) C dX6_goFrom_187 rfl rfl rfl ?_
                  replace hF := zq_bd hF; obtain ⟨v_135, e_136, hF⟩ := hF
                  refine zq_getR (j := 19) (pc' := 191) C zq_K6 zq_in6w (Or.inl wd_504) (by decide) rfl dX6_goFrom_188 rfl e_136 ?_
                  refine zq_iload (pc' := 193) C dX6_goFrom_191 rfl rfl ?_
                  refine zq_dup2 (pc' := 194) C dX6_goFrom_193 rfl rfl rfl ?_
                  replace hF := zq_bd hF; obtain ⟨v_137, e_138, hF⟩ := hF
                  refine zq_iaload (pc' := 195) C dX6_goFrom_194 rfl e_138 ?_
                  refine zq_iload (pc' := 197) C dX6_goFrom_195 rfl rfl ?_
                  refine zq_if_eq (pc' := 200) C 229 dX6_goFrom_197 (by decide) rfl (fun c_139 => absurd c_139 (by decide)) (fun _ => ?_)
                  refine zq_aload_n (pc' := 201) C dX6_goFrom_200 rfl rfl rfl ?_
                  replace hF := zq_bd hF; obtain ⟨v_140, e_141, hF⟩ := hF
                  refine zq_getR (j := 18) (pc' := 204) C zq_K6 zq_in6w (Or.inl wd_503) (by decide) rfl dX6_goFrom_201 rfl e_141 ?_
                  refine zq_iload (pc' := 206) C dX6_goFrom_204 rfl rfl ?_
                  replace hF := zq_bd hF; obtain ⟨v_142, e_143, hF⟩ := hF
                  refine zq_iaload (pc' := 207) C dX6_goFrom_206 rfl e_143 ?_
                  refine zq_aload_n (pc' := 208) C dX6_goFrom_207 rfl rfl rfl ?_
                  replace hF := zq_bd hF; obtain ⟨v_144, e_145, hF⟩ := hF
                  refine zq_getR (j := 18) (pc' := 211) C zq_K6 zq_in6w (Or.inl wd_503) (by decide) rfl dX6_goFrom_208 rfl e_145 ?_
                  refine zq_iload (pc' := 213) C dX6_goFrom_211 rfl rfl ?_
                  replace hF := zq_bd hF; obtain ⟨v_146, e_147, hF⟩ := hF
                  refine zq_iaload (pc' := 214) C dX6_goFrom_213 rfl e_147 ?_
                  refine zq_iconst (pc' := 215) C 1 dX6_goFrom_214 rfl (by decide) ?_
                  refine zq_iadd (pc' := 216) C dX6_goFrom_215 rfl ?_
                  refine zq_icmp_ne (pc' := 219) C 229 dX6_goFrom_216 (by decide) rfl (fun c_148 => ?_) (fun c_148 => ?_)
                  · have hF := (zq_ifn hF c_148)
                    skip
                    refine zq_iconst (pc' := 230) C 0 dX6_goFrom_229 rfl (by decide) ?_
                    refine zq_iadd (pc' := 231) C dX6_goFrom_230 rfl ?_
                    replace hF := zq_bd hF; obtain ⟨h_149, e_150, hF⟩ := hF
                    refine zq_iastore (pc' := 232) C dX6_goFrom_231 rfl e_150 ?_
                    replace hF := zq_let_e hF; obtain ⟨v_151, e_152, hF⟩ := hF
                    refine zq_iinc (lv' := [(8, .int v_151), (4, .int v_133), (10, .int 1), (7, .int v_74), (9, .int v_72), (0, .ref t), (2, .int x2), (5, .int s_37.2.1), (6, .int v_48)]) (pc' := 235) C dX6_goFrom_232 rfl (by decide) 8 rfl e_152 rfl ?_
                    refine zq_goto C 85 dX6_goFrom_235 (by decide) ?_
                    cases hF
                    exact zq_sub [5, 6, 1, 7, 8, 3, 0] rfl (hrec_55 _ rfl)
                  · have hF := (zq_ifp hF c_148)
                    refine zq_aload_n (pc' := 220) C dX6_goFrom_219 rfl rfl rfl ?_
                    replace hF := zq_bd hF; obtain ⟨v_153, e_154, hF⟩ := hF
                    refine zq_getR (j := 19) (pc' := 223) C zq_K6 zq_in6w (Or.inl wd_504) (by decide) rfl dX6_goFrom_220 rfl e_154 ?_
                    refine zq_iload (pc' := 225) C dX6_goFrom_223 rfl rfl ?_
                    replace hF := zq_bd hF; obtain ⟨v_155, e_156, hF⟩ := hF
                    refine zq_iaload (pc' := 226) C dX6_goFrom_225 rfl e_156 ?_
                    refine zq_goto C 230 dX6_goFrom_226 (by decide) ?_
                    refine zq_iadd (pc' := 231) C dX6_goFrom_230 rfl ?_
                    replace hF := zq_bd hF; obtain ⟨h_157, e_158, hF⟩ := hF
                    refine zq_iastore (pc' := 232) C dX6_goFrom_231 rfl e_158 ?_
                    replace hF := zq_let_e hF; obtain ⟨v_159, e_160, hF⟩ := hF
                    refine zq_iinc (lv' := [(8, .int v_159), (4, .int v_133), (10, .int 1), (7, .int v_74), (9, .int v_72), (0, .ref t), (2, .int x2), (5, .int s_37.2.1), (6, .int v_48)]) (pc' := 235) C dX6_goFrom_232 rfl (by decide) 8 rfl e_160 rfl ?_
                    refine zq_goto C 85 dX6_goFrom_235 (by decide) ?_
                    cases hF
                    exact zq_sub [5, 6, 1, 7, 8, 3, 0] rfl (hrec_55 _ rfl)
        · skip
          obtain ⟨y_53, rfl⟩ : ∃ z9, z9 = r_51 := ⟨_, rfl⟩
          show zq_W X 0 0 y_53.2 238 [(0, .ref t), (2, .int x2), (4, .int y_53.1), (5, .int s_37.2.1)] []
          replace hF := zq_let_e hF; obtain ⟨v_161, e_162, hF⟩ := hF
          refine zq_iinc (lv' := [(5, .int v_161), (0, .ref t), (2, .int x2), (4, .int y_53.1)]) (pc' := 241) C dX6_goFrom_238 rfl (by decide) 3 rfl e_162 rfl ?_
          refine zq_goto C 63 dX6_goFrom_241 (by decide) ?_
          cases hF
          exact zq_sub [1, 2, 3, 0] rfl (hrec_42 _ rfl)
    · skip
      obtain ⟨y_40, rfl⟩ : ∃ z9, z9 = r_38 := ⟨_, rfl⟩
      show zq_W X 0 0 y_40 244 [] []
      have hF := Option.some.inj hF
      subst hF
      exact hE _ _ _ _ (Nat.le_of_ble_eq_true rfl) (Nat.le_of_ble_eq_true rfl) dX6_goFrom_244
theorem c_X6_goFrom {h : zq_H} {t : Nat} {x1 : Int32} {x2 : Int32} {out : zq_H} (hF : f_X6_goFrom h t x1 x2 = some out) : zq_M none yX6_goFrom (Cond.code yX6_goFrom cX6_goFrom 11 none :: zq_all) rm_X6_goFrom [.ref t, .int x1, .int x2] h none out := zq_met2 (own := RX6) (by decide +kernel) rfl (Nat.le_of_ble_eq_true rfl) rfl rfl (fun X C T hn hE => v_X6_goFrom C T hn hF hE)
theorem yv_X6_goFrom : zq_calV yX6_goFrom RX6 cX6_goFrom 11 none 2 := ⟨by decide +kernel, wd_502, wd_508, wd_509, wd_458⟩
def f_X6_farthestFrom (h : zq_H) (t : Nat) (x1 : Int32) : Option (Int32 × zq_H) := (zq_ck h t 6 fun _ => (Option.bind (f_X6_goFrom h t x1 0) fun v_1 => ((zq_lp (σ := Int32 × Int32) (ρ := Int32) (fun s_4 => (Option.bind (zq_gi v_1 t 6 13) fun v_12 => (if v_12 ≤ s_4.2 then some (.inr s_4.1) else (Option.bind (zq_gr v_1 t 6 18) fun v_15 => (Option.bind (zq_ai v_1 v_15 s_4.2) fun v_17 => (if v_17 ≤ s_4.1 then (zq_let (s_4.2 + 1) fun v_20 => some (.inl (s_4.1, v_20))) else (Option.bind (zq_gr v_1 t 6 18) fun v_22 => (Option.bind (zq_ai v_1 v_22 s_4.2) fun v_24 => (zq_let (s_4.2 + 1) fun v_26 => some (.inl (v_24, v_26))))))))))) zq_N (0, 0)).bind (fun y_7 : Int32 => some ((y_7, v_1))))))
abbrev rm_X6_farthestFrom : Room := { frames := 2, cells := 0, slots := 0, locals := 54 }
theorem dX6_farthestFrom_0 : decode cX6_farthestFrom 0 = .ok (.aload_n 0, 1) := by decide +kernel
theorem dX6_farthestFrom_1 : decode cX6_farthestFrom 1 = .ok (.iload_n 1, 1) := by decide +kernel
theorem dX6_farthestFrom_2 : decode cX6_farthestFrom 2 = .ok (.iconst 0, 1) := by decide +kernel
theorem dX6_farthestFrom_3 : decode cX6_farthestFrom 3 = .ok (.invokevirtual 128, 3) := by decide +kernel
theorem dX6_farthestFrom_6 : decode cX6_farthestFrom 6 = .ok (.iconst 0, 1) := by decide +kernel
theorem dX6_farthestFrom_7 : decode cX6_farthestFrom 7 = .ok (.istore_n 2, 1) := by decide +kernel
theorem dX6_farthestFrom_8 : decode cX6_farthestFrom 8 = .ok (.iconst 0, 1) := by decide +kernel
theorem dX6_farthestFrom_9 : decode cX6_farthestFrom 9 = .ok (.istore_n 3, 1) := by decide +kernel
theorem dX6_farthestFrom_10 : decode cX6_farthestFrom 10 = .ok (.iload_n 3, 1) := by decide +kernel
theorem dX6_farthestFrom_11 : decode cX6_farthestFrom 11 = .ok (.aload_n 0, 1) := by decide +kernel
theorem dX6_farthestFrom_12 : decode cX6_farthestFrom 12 = .ok (.getfield 88, 3) := by decide +kernel
theorem dX6_farthestFrom_15 : decode cX6_farthestFrom 15 = .ok (.if_icmp .ge 30, 3) := by decide +kernel
theorem dX6_farthestFrom_18 : decode cX6_farthestFrom 18 = .ok (.aload_n 0, 1) := by decide +kernel
theorem dX6_farthestFrom_19 : decode cX6_farthestFrom 19 = .ok (.getfield 40, 3) := by decide +kernel
theorem dX6_farthestFrom_22 : decode cX6_farthestFrom 22 = .ok (.iload_n 3, 1) := by decide +kernel
theorem dX6_farthestFrom_23 : decode cX6_farthestFrom 23 = .ok (.iaload, 1) := by decide +kernel
theorem dX6_farthestFrom_24 : decode cX6_farthestFrom 24 = .ok (.iload_n 2, 1) := by decide +kernel
theorem dX6_farthestFrom_25 : decode cX6_farthestFrom 25 = .ok (.if_icmp .le 12, 3) := by decide +kernel
theorem dX6_farthestFrom_28 : decode cX6_farthestFrom 28 = .ok (.aload_n 0, 1) := by decide +kernel
theorem dX6_farthestFrom_29 : decode cX6_farthestFrom 29 = .ok (.getfield 40, 3) := by decide +kernel
theorem dX6_farthestFrom_32 : decode cX6_farthestFrom 32 = .ok (.iload_n 3, 1) := by decide +kernel
theorem dX6_farthestFrom_33 : decode cX6_farthestFrom 33 = .ok (.iaload, 1) := by decide +kernel
theorem dX6_farthestFrom_34 : decode cX6_farthestFrom 34 = .ok (.goto 4, 3) := by decide +kernel
theorem dX6_farthestFrom_37 : decode cX6_farthestFrom 37 = .ok (.iload_n 2, 1) := by decide +kernel
theorem dX6_farthestFrom_38 : decode cX6_farthestFrom 38 = .ok (.istore_n 2, 1) := by decide +kernel
theorem dX6_farthestFrom_39 : decode cX6_farthestFrom 39 = .ok (.iinc 3 1, 3) := by decide +kernel
theorem dX6_farthestFrom_42 : decode cX6_farthestFrom 42 = .ok (.goto (-32), 3) := by decide +kernel
theorem dX6_farthestFrom_45 : decode cX6_farthestFrom 45 = .ok (.iload_n 2, 1) := by decide +kernel
theorem dX6_farthestFrom_46 : decode cX6_farthestFrom 46 = .ok (.ireturn, 1) := by decide +kernel
set_option maxRecDepth 100000 in
set_option maxHeartbeats 4000000 in
theorem v_X6_farthestFrom {X : zq_X} (C : zq_C X RX6 cX6_farthestFrom 4 zq_all rm_X6_farthestFrom) {h : zq_H} {t : Nat} {x1 : Int32} (T : zq_T X none) (hn : X.2.2.2.2.2.2.2.2.1.name = yX6_farthestFrom.name) {out : (Int32 × zq_H)} (hF : f_X6_farthestFrom h t x1 = some out) (hE : zq_End X cX6_farthestFrom 0 0 (some (.int out.1)) out.2) : zq_W X 0 0 h 0 [(0, .ref t), (1, .int x1)] [] := by
  unfold f_X6_farthestFrom at hF
  refine zq_aload_n (pc' := 1) C dX6_farthestFrom_0 rfl rfl rfl ?_
  refine zq_iload_n (pc' := 2) C dX6_farthestFrom_1 rfl rfl rfl ?_
  refine zq_iconst (pc' := 3) C 0 dX6_farthestFrom_2 rfl (by decide) ?_
  replace hF := zq_ck_e hF; obtain ⟨e_3, hF⟩ := hF
  replace hF := zq_bd hF; obtain ⟨v_1, e_2, hF⟩ := hF
  refine zq_cV (pc' := 6) C (c_X6_goFrom e_2) yv_X6_goFrom wd_507 zq_K6 e_3 dX6_farthestFrom_3 rfl rfl rfl ⟨Nat.le_of_ble_eq_true rfl, Nat.le_of_ble_eq_true rfl⟩ (Nat.le_of_ble_eq_true rfl) ⟨rfl, rfl⟩ ⟨Nat.le_of_ble_eq_true rfl, Nat.le_of_ble_eq_true rfl⟩ rfl ?_
  refine zq_iconst (pc' := 7) C 0 dX6_farthestFrom_6 rfl (by decide) ?_
  refine zq_istore_n (lv' := [(2, .int 0), (0, .ref t), (1, .int x1)]) (pc' := 8) C dX6_farthestFrom_7 rfl rfl (by decide) rfl rfl ?_
  refine zq_iconst (pc' := 9) C 0 dX6_farthestFrom_8 rfl (by decide) ?_
  refine zq_istore_n (lv' := [(3, .int 0), (2, .int 0), (0, .ref t), (1, .int x1)]) (pc' := 10) C dX6_farthestFrom_9 rfl rfl (by decide) rfl rfl ?_
  refine zq_sub [2, 1, 0] rfl ?_
  replace hF := zq_bd hF; obtain ⟨r_5, e_6, hF⟩ := hF
  refine zq_lpW (fun s_4 => zq_W X 0 0 v_1 10 [(0, .ref t), (2, .int s_4.1), (3, .int s_4.2)] []) (fun y_7 => zq_W X 0 0 v_1 45 [(2, .int y_7)] []) e_6 (fun s_4 q_11 hF hrec_9 hex_10 => ?_) ?_
  · skip
    refine zq_iload_n (pc' := 11) C dX6_farthestFrom_10 rfl rfl rfl ?_
    refine zq_aload_n (pc' := 12) C dX6_farthestFrom_11 rfl rfl rfl ?_
    replace hF := zq_bd hF; obtain ⟨v_12, e_13, hF⟩ := hF
    refine zq_getI (j := 13) (pc' := 15) C zq_K6 zq_in6w (Or.inl wd_474) (by decide) rfl dX6_farthestFrom_12 rfl e_13 ?_
    refine zq_icmp_ge (pc' := 18) C 45 dX6_farthestFrom_15 (by decide) rfl (fun c_14 => ?_) (fun c_14 => ?_)
    · have hF := (zq_ifp hF c_14)
      skip
      cases hF
      exact zq_sub [1] rfl (hex_10 _ rfl)
    · have hF := (zq_ifn hF c_14)
      refine zq_aload_n (pc' := 19) C dX6_farthestFrom_18 rfl rfl rfl ?_
      replace hF := zq_bd hF; obtain ⟨v_15, e_16, hF⟩ := hF
      refine zq_getR (j := 18) (pc' := 22) C zq_K6 zq_in6w (Or.inl wd_503) (by decide) rfl dX6_farthestFrom_19 rfl e_16 ?_
      refine zq_iload_n (pc' := 23) C dX6_farthestFrom_22 rfl rfl rfl ?_
      replace hF := zq_bd hF; obtain ⟨v_17, e_18, hF⟩ := hF
      refine zq_iaload (pc' := 24) C dX6_farthestFrom_23 rfl e_18 ?_
      refine zq_iload_n (pc' := 25) C dX6_farthestFrom_24 rfl rfl rfl ?_
      refine zq_icmp_le (pc' := 28) C 37 dX6_farthestFrom_25 (by decide) rfl (fun c_19 => ?_) (fun c_19 => ?_)
      · have hF := (zq_ifp hF c_19)
        skip
        refine zq_iload_n (pc' := 38) C dX6_farthestFrom_37 rfl rfl rfl ?_
        refine zq_istore_n (lv' := [(2, .int s_4.1), (0, .ref t), (3, .int s_4.2)]) (pc' := 39) C dX6_farthestFrom_38 rfl rfl (by decide) rfl rfl ?_
        replace hF := zq_let_e hF; obtain ⟨v_20, e_21, hF⟩ := hF
        refine zq_iinc (lv' := [(3, .int v_20), (2, .int s_4.1), (0, .ref t)]) (pc' := 42) C dX6_farthestFrom_39 rfl (by decide) 2 rfl e_21 rfl ?_
        refine zq_goto C 10 dX6_farthestFrom_42 (by decide) ?_
        cases hF
        exact zq_sub [2, 1, 0] rfl (hrec_9 _ rfl)
      · have hF := (zq_ifn hF c_19)
        refine zq_aload_n (pc' := 29) C dX6_farthestFrom_28 rfl rfl rfl ?_
        replace hF := zq_bd hF; obtain ⟨v_22, e_23, hF⟩ := hF
        refine zq_getR (j := 18) (pc' := 32) C zq_K6 zq_in6w (Or.inl wd_503) (by decide) rfl dX6_farthestFrom_29 rfl e_23 ?_
        refine zq_iload_n (pc' := 33) C dX6_farthestFrom_32 rfl rfl rfl ?_
        replace hF := zq_bd hF; obtain ⟨v_24, e_25, hF⟩ := hF
        refine zq_iaload (pc' := 34) C dX6_farthestFrom_33 rfl e_25 ?_
        refine zq_goto C 38 dX6_farthestFrom_34 (by decide) ?_
        refine zq_istore_n (lv' := [(2, .int v_24), (0, .ref t), (3, .int s_4.2)]) (pc' := 39) C dX6_farthestFrom_38 rfl rfl (by decide) rfl rfl ?_
        replace hF := zq_let_e hF; obtain ⟨v_26, e_27, hF⟩ := hF
        refine zq_iinc (lv' := [(3, .int v_26), (2, .int v_24), (0, .ref t)]) (pc' := 42) C dX6_farthestFrom_39 rfl (by decide) 2 rfl e_27 rfl ?_
        refine zq_goto C 10 dX6_farthestFrom_42 (by decide) ?_
        cases hF
        exact zq_sub [2, 1, 0] rfl (hrec_9 _ rfl)
  · skip
    obtain ⟨y_7, rfl⟩ : ∃ z9, z9 = r_5 := ⟨_, rfl⟩
    show zq_W X 0 0 v_1 45 [(2, .int y_7)] []
    refine zq_iload_n (pc' := 46) C dX6_farthestFrom_45 rfl rfl rfl ?_
    have hF := Option.some.inj hF
    subst hF
    exact hE _ _ _ _ (Nat.le_of_ble_eq_true rfl) (Nat.le_of_ble_eq_true rfl) dX6_farthestFrom_46
theorem c_X6_farthestFrom {h : zq_H} {t : Nat} {x1 : Int32} {out : (Int32 × zq_H)} (hF : f_X6_farthestFrom h t x1 = some out) : zq_M none yX6_farthestFrom (Cond.code yX6_farthestFrom cX6_farthestFrom 4 (some .int) :: zq_all) rm_X6_farthestFrom [.ref t, .int x1] h (some (.int out.1)) out.2 := zq_met2 (own := RX6) (by decide +kernel) rfl (Nat.le_of_ble_eq_true rfl) rfl ⟨.int, rfl, rfl⟩ (fun X C T hn hE => v_X6_farthestFrom C T hn hF hE)
theorem yv_X6_farthestFrom : zq_calV yX6_farthestFrom RX6 cX6_farthestFrom 4 (some .int) 1 := ⟨by decide +kernel, wd_506, wd_529, wd_530, wd_458⟩
