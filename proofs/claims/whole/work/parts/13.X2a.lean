def f_X2_init (h : zq_H) (t : Nat) (r1 : Nat) : Option zq_H := (Option.bind (zq_na h (t + 1) 10 429 429) fun h_1 => (Option.bind (zq_pr h_1 t 2 0 (t + 1)) fun h_3 => (Option.bind (zq_na h_3 (t + 2) 10 429 429) fun h_5 => (Option.bind (zq_pr h_5 t 2 1 (t + 2)) fun h_7 => (Option.bind (zq_na h_7 (t + 3) 10 429 429) fun h_9 => (Option.bind (zq_pr h_9 t 2 2 (t + 3)) fun h_11 => (Option.bind (zq_pr h_11 t 2 3 r1) fun h_13 => (Option.bind (zq_pi h_13 t 2 4 (-1)) fun h_15 => some (h_15)))))))))
abbrev rm_X2_init : Room := { frames := 1, cells := 3, slots := 1287, locals := 20 }
theorem dX2_init_0 : decode cX2_init 0 = .ok (.aload_n 0, 1) := by decide +kernel
theorem dX2_init_1 : decode cX2_init 1 = .ok (.invokespecial 3, 3) := by decide +kernel
theorem dX2_init_4 : decode cX2_init 4 = .ok (.aload_n 0, 1) := by decide +kernel
theorem dX2_init_5 : decode cX2_init 5 = .ok (.sipush 429, 3) := by decide +kernel
theorem dX2_init_8 : decode cX2_init 8 = .ok (.newarray .int, 2) := by decide +kernel
theorem dX2_init_10 : decode cX2_init 10 = .ok (.putfield 9, 3) := by decide +kernel
theorem dX2_init_13 : decode cX2_init 13 = .ok (.aload_n 0, 1) := by decide +kernel
theorem dX2_init_14 : decode cX2_init 14 = .ok (.sipush 429, 3) := by decide +kernel
theorem dX2_init_17 : decode cX2_init 17 = .ok (.newarray .int, 2) := by decide +kernel
theorem dX2_init_19 : decode cX2_init 19 = .ok (.putfield 15, 3) := by decide +kernel
theorem dX2_init_22 : decode cX2_init 22 = .ok (.aload_n 0, 1) := by decide +kernel
theorem dX2_init_23 : decode cX2_init 23 = .ok (.sipush 429, 3) := by decide +kernel
theorem dX2_init_26 : decode cX2_init 26 = .ok (.newarray .int, 2) := by decide +kernel
theorem dX2_init_28 : decode cX2_init 28 = .ok (.putfield 18, 3) := by decide +kernel
theorem dX2_init_31 : decode cX2_init 31 = .ok (.aload_n 0, 1) := by decide +kernel
theorem dX2_init_32 : decode cX2_init 32 = .ok (.aload_n 1, 1) := by decide +kernel
theorem dX2_init_33 : decode cX2_init 33 = .ok (.putfield 21, 3) := by decide +kernel
theorem dX2_init_36 : decode cX2_init 36 = .ok (.aload_n 0, 1) := by decide +kernel
theorem dX2_init_37 : decode cX2_init 37 = .ok (.iconst (-1), 1) := by decide +kernel
theorem dX2_init_38 : decode cX2_init 38 = .ok (.putfield 25, 3) := by decide +kernel
theorem dX2_init_41 : decode cX2_init 41 = .ok (.return_, 1) := by decide +kernel
set_option maxRecDepth 100000 in
set_option maxHeartbeats 4000000 in
theorem v_X2_init {X : zq_X} (C : zq_C X RX2 cX2_init 2 zq_all rm_X2_init) {h : zq_H} {t : Nat} {r1 : Nat} (T : zq_T X (some (t + 1))) (hn : X.2.2.2.2.2.2.2.2.1.name = yX2_init.name) {out : zq_H} (hF : f_X2_init h t r1 = some out) (hE : zq_End X cX2_init 3 1287 none out) : zq_W X 0 0 h 0 [(0, .ref t), (1, .ref r1)] [] := by
  unfold f_X2_init at hF
  refine zq_aload_n (pc' := 1) C dX2_init_0 rfl rfl rfl ?_
  refine zq_objInit (pc' := 4) C wd_123 wd_3 wd_4 dX2_init_1 rfl (by decide) (Nat.le_of_ble_eq_true rfl) (Nat.le_of_ble_eq_true rfl) ?_
  refine zq_aload_n (pc' := 5) C dX2_init_4 rfl rfl rfl ?_
  refine zq_sipush (pc' := 8) C 429 dX2_init_5 rfl (by decide) ?_
  replace hF := zq_bd hF; obtain ⟨h_1, e_2, hF⟩ := hF
  refine zq_newI (n := t + 1) (pc' := 10) C wd_10 T rfl dX2_init_8 rfl e_2 (by decide) ⟨Nat.le_of_ble_eq_true rfl, Nat.le_of_ble_eq_true rfl⟩ ?_
  refine zq_widen 1 429 (Nat.le_of_ble_eq_true rfl) (Nat.le_of_ble_eq_true rfl) ?_
  replace hF := zq_bd hF; obtain ⟨h_3, e_4, hF⟩ := hF
  refine zq_putR (j := 0) (pc' := 13) C zq_K2 zq_in2w (Or.inl wd_124) (by decide) rfl (Or.inr ⟨_, rfl⟩) dX2_init_10 rfl (Or.inr ⟨hn, rfl, rfl, wd_124⟩) e_4 ?_
  refine zq_aload_n (pc' := 14) C dX2_init_13 rfl rfl rfl ?_
  refine zq_sipush (pc' := 17) C 429 dX2_init_14 rfl (by decide) ?_
  replace hF := zq_bd hF; obtain ⟨h_5, e_6, hF⟩ := hF
  refine zq_newI (n := t + 2) (pc' := 19) C wd_10 T rfl dX2_init_17 rfl e_6 (by decide) ⟨Nat.le_of_ble_eq_true rfl, Nat.le_of_ble_eq_true rfl⟩ ?_
  refine zq_widen 2 858 (Nat.le_of_ble_eq_true rfl) (Nat.le_of_ble_eq_true rfl) ?_
  replace hF := zq_bd hF; obtain ⟨h_7, e_8, hF⟩ := hF
  refine zq_putR (j := 1) (pc' := 22) C zq_K2 zq_in2w (Or.inl wd_125) (by decide) rfl (Or.inr ⟨_, rfl⟩) dX2_init_19 rfl (Or.inr ⟨hn, rfl, rfl, wd_125⟩) e_8 ?_
  refine zq_aload_n (pc' := 23) C dX2_init_22 rfl rfl rfl ?_
  refine zq_sipush (pc' := 26) C 429 dX2_init_23 rfl (by decide) ?_
  replace hF := zq_bd hF; obtain ⟨h_9, e_10, hF⟩ := hF
  refine zq_newI (n := t + 3) (pc' := 28) C wd_10 T rfl dX2_init_26 rfl e_10 (by decide) ⟨Nat.le_of_ble_eq_true rfl, Nat.le_of_ble_eq_true rfl⟩ ?_
  refine zq_widen 3 1287 (Nat.le_of_ble_eq_true rfl) (Nat.le_of_ble_eq_true rfl) ?_
  replace hF := zq_bd hF; obtain ⟨h_11, e_12, hF⟩ := hF
  refine zq_putR (j := 2) (pc' := 31) C zq_K2 zq_in2w (Or.inl wd_126) (by decide) rfl (Or.inr ⟨_, rfl⟩) dX2_init_28 rfl (Or.inr ⟨hn, rfl, rfl, wd_126⟩) e_12 ?_
  refine zq_aload_n (pc' := 32) C dX2_init_31 rfl rfl rfl ?_
  refine zq_aload_n (pc' := 33) C dX2_init_32 rfl rfl rfl ?_
  replace hF := zq_bd hF; obtain ⟨h_13, e_14, hF⟩ := hF
  refine zq_putR (j := 3) (pc' := 36) C zq_K2 zq_in2w (Or.inl wd_127) (by decide) rfl (Or.inl ⟨_, rfl⟩) dX2_init_33 rfl (Or.inl rfl) e_14 ?_
  refine zq_aload_n (pc' := 37) C dX2_init_36 rfl rfl rfl ?_
  refine zq_iconst (pc' := 38) C (-1) dX2_init_37 rfl (by decide) ?_
  replace hF := zq_bd hF; obtain ⟨h_15, e_16, hF⟩ := hF
  refine zq_putI (j := 4) (pc' := 41) C zq_K2 zq_in2w (Or.inl wd_128) (by decide) rfl rfl dX2_init_38 rfl (Or.inl rfl) e_16 ?_
  have hF := Option.some.inj hF
  subst hF
  exact hE _ _ _ _ (Nat.le_of_ble_eq_true rfl) (Nat.le_of_ble_eq_true rfl) dX2_init_41
theorem c_X2_init {h : zq_H} {t : Nat} {r1 : Nat} {out : zq_H} (hF : f_X2_init h t r1 = some out) : zq_M (some (t + 1)) yX2_init (Cond.code yX2_init cX2_init 2 none :: zq_all) rm_X2_init [.ref t, .ref r1] h none out := zq_met2 (own := RX2) (by decide +kernel) rfl (Nat.le_of_ble_eq_true rfl) rfl rfl (fun X C T hn hE => v_X2_init C T hn hF hE)
theorem yi_X2_init : zq_Y yX2_init 1 := by decide +kernel
def f_X2_spreadOn (h : zq_H) (t : Nat) (x1 : Int32) (x2 : Int32) : Option (Int32 × zq_H) := (Option.bind (zq_gr h t 2 3) fun v_1 => (zq_ck h v_1 0 fun _ => (Option.bind (f_X0_maskAt h v_1 x1) fun v_3 => ((zq_lp (σ := Int32 × Int32 × Int32 × zq_H) (ρ := Int32 × zq_H) (fun s_6 => (Option.bind (zq_gr s_6.2.2.2 t 2 3) fun v_14 => (Option.bind (zq_gi s_6.2.2.2 v_14 0 4) fun v_16 => (if v_16 ≤ s_6.2.2.1 then some (.inr (s_6.1, s_6.2.2.2)) else (if s_6.2.1 = 0 then some (.inr (s_6.1, s_6.2.2.2)) else (zq_let (s_6.2.1 &&& (-s_6.2.1)) fun v_20 => (zq_let (s_6.2.1 ^^^ v_20) fun v_22 => (Option.bind (zq_gi s_6.2.2.2 t 2 5) fun v_24 => (if (v_20 &&& v_24) = 0 then (Option.bind (zq_gr s_6.2.2.2 t 2 3) fun v_30 => (zq_ck s_6.2.2.2 v_30 0 fun _ => (Option.bind (f_X0_neighborOf s_6.2.2.2 v_30 x1 s_6.2.2.1) fun v_32 => (if v_32 < 0 then (zq_let (s_6.2.2.1 + 1) fun v_36 => some (.inl (s_6.1, v_22, v_36, s_6.2.2.2))) else (Option.bind (zq_gr s_6.2.2.2 t 2 0) fun v_38 => (Option.bind (zq_an s_6.2.2.2 v_38) fun v_40 => (if v_32 < v_40 then (Option.bind (zq_gr s_6.2.2.2 t 2 0) fun v_43 => (Option.bind (zq_ai s_6.2.2.2 v_43 v_32) fun v_45 => (if v_45 = (-1) then (Option.bind (zq_gr s_6.2.2.2 t 2 2) fun v_71 => (Option.bind (zq_an s_6.2.2.2 v_71) fun v_73 => (if v_73 ≤ s_6.1 then (Option.bind (zq_gr s_6.2.2.2 t 2 0) fun v_76 => (Option.bind (zq_ai s_6.2.2.2 v_76 v_32) fun v_78 => (Option.bind (zq_gr s_6.2.2.2 t 2 0) fun v_80 => (Option.bind (zq_ai s_6.2.2.2 v_80 x1) fun v_82 => (if v_78 = (v_82 + 1) then (Option.bind (zq_gr s_6.2.2.2 t 2 1) fun v_87 => (Option.bind (zq_ai s_6.2.2.2 v_87 v_32) fun v_89 => (Option.bind (zq_gr s_6.2.2.2 t 2 1) fun v_91 => (Option.bind (zq_ai s_6.2.2.2 v_91 x1) fun v_93 => (Option.bind (zq_si s_6.2.2.2 v_87 v_32 (v_89 + v_93)) fun h_95 => (zq_let (s_6.2.2.1 + 1) fun v_97 => some (.inl (s_6.1, v_22, v_97, h_95)))))))) else (zq_let (s_6.2.2.1 + 1) fun v_85 => some (.inl (s_6.1, v_22, v_85, s_6.2.2.2)))))))) else (Option.bind (zq_gr s_6.2.2.2 t 2 0) fun v_99 => (Option.bind (zq_gr s_6.2.2.2 t 2 0) fun v_101 => (Option.bind (zq_ai s_6.2.2.2 v_101 x1) fun v_103 => (Option.bind (zq_si s_6.2.2.2 v_99 v_32 (v_103 + 1)) fun h_105 => (Option.bind (zq_gr h_105 t 2 2) fun v_107 => (Option.bind (zq_si h_105 v_107 s_6.1 v_32) fun h_109 => (zq_let (s_6.1 + 1) fun v_111 => (Option.bind (zq_gr h_109 t 2 0) fun v_113 => (Option.bind (zq_ai h_109 v_113 v_32) fun v_115 => (Option.bind (zq_gr h_109 t 2 0) fun v_117 => (Option.bind (zq_ai h_109 v_117 x1) fun v_119 => (if v_115 = (v_119 + 1) then (Option.bind (zq_gr h_109 t 2 1) fun v_124 => (Option.bind (zq_ai h_109 v_124 v_32) fun v_126 => (Option.bind (zq_gr h_109 t 2 1) fun v_128 => (Option.bind (zq_ai h_109 v_128 x1) fun v_130 => (Option.bind (zq_si h_109 v_124 v_32 (v_126 + v_130)) fun h_132 => (zq_let (s_6.2.2.1 + 1) fun v_134 => some (.inl (v_111, v_22, v_134, h_132)))))))) else (zq_let (s_6.2.2.1 + 1) fun v_122 => some (.inl (v_111, v_22, v_122, h_109)))))))))))))))))) else (Option.bind (zq_gr s_6.2.2.2 t 2 0) fun v_48 => (Option.bind (zq_ai s_6.2.2.2 v_48 v_32) fun v_50 => (Option.bind (zq_gr s_6.2.2.2 t 2 0) fun v_52 => (Option.bind (zq_ai s_6.2.2.2 v_52 x1) fun v_54 => (if v_50 = (v_54 + 1) then (Option.bind (zq_gr s_6.2.2.2 t 2 1) fun v_59 => (Option.bind (zq_ai s_6.2.2.2 v_59 v_32) fun v_61 => (Option.bind (zq_gr s_6.2.2.2 t 2 1) fun v_63 => (Option.bind (zq_ai s_6.2.2.2 v_63 x1) fun v_65 => (Option.bind (zq_si s_6.2.2.2 v_59 v_32 (v_61 + v_65)) fun h_67 => (zq_let (s_6.2.2.1 + 1) fun v_69 => some (.inl (s_6.1, v_22, v_69, h_67)))))))) else (zq_let (s_6.2.2.1 + 1) fun v_57 => some (.inl (s_6.1, v_22, v_57, s_6.2.2.2))))))))))) else (zq_let (s_6.2.2.1 + 1) fun v_136 => some (.inl (s_6.1, v_22, v_136, s_6.2.2.2)))))))))) else (zq_let (s_6.2.2.1 + 1) fun v_28 => some (.inl (s_6.1, v_22, v_28, s_6.2.2.2)))))))))))) zq_N (x2, v_3, 0, h)).bind (fun y_9 : Int32 × zq_H => some ((y_9.1, y_9.2)))))))
abbrev rm_X2_spreadOn : Room := { frames := 1, cells := 0, slots := 0, locals := 23 }
theorem dX2_spreadOn_0 : decode cX2_spreadOn 0 = .ok (.iload_n 2, 1) := by decide +kernel
theorem dX2_spreadOn_1 : decode cX2_spreadOn 1 = .ok (.istore_n 3, 1) := by decide +kernel
theorem dX2_spreadOn_2 : decode cX2_spreadOn 2 = .ok (.aload_n 0, 1) := by decide +kernel
theorem dX2_spreadOn_3 : decode cX2_spreadOn 3 = .ok (.getfield 21, 3) := by decide +kernel
theorem dX2_spreadOn_6 : decode cX2_spreadOn 6 = .ok (.iload_n 1, 1) := by decide +kernel
theorem dX2_spreadOn_7 : decode cX2_spreadOn 7 = .ok (.invokevirtual 48, 3) := by decide +kernel
theorem dX2_spreadOn_10 : decode cX2_spreadOn 10 = .ok (.istore 4, 2) := by decide +kernel
theorem dX2_spreadOn_12 : decode cX2_spreadOn 12 = .ok (.iconst 0, 1) := by decide +kernel
theorem dX2_spreadOn_13 : decode cX2_spreadOn 13 = .ok (.istore 5, 2) := by decide +kernel
theorem dX2_spreadOn_15 : decode cX2_spreadOn 15 = .ok (.iload 5, 2) := by decide +kernel
theorem dX2_spreadOn_17 : decode cX2_spreadOn 17 = .ok (.aload_n 0, 1) := by decide +kernel
theorem dX2_spreadOn_18 : decode cX2_spreadOn 18 = .ok (.getfield 21, 3) := by decide +kernel
theorem dX2_spreadOn_21 : decode cX2_spreadOn 21 = .ok (.getfield 51, 3) := by decide +kernel
theorem dX2_spreadOn_24 : decode cX2_spreadOn 24 = .ok (.if_icmp .ge 153, 3) := by decide +kernel
theorem dX2_spreadOn_27 : decode cX2_spreadOn 27 = .ok (.iload 4, 2) := by decide +kernel
theorem dX2_spreadOn_29 : decode cX2_spreadOn 29 = .ok (.ifCond .eq 148, 3) := by decide +kernel
theorem dX2_spreadOn_32 : decode cX2_spreadOn 32 = .ok (.iload 4, 2) := by decide +kernel
theorem dX2_spreadOn_34 : decode cX2_spreadOn 34 = .ok (.iload 4, 2) := by decide +kernel
theorem dX2_spreadOn_36 : decode cX2_spreadOn 36 = .ok (.ineg, 1) := by decide +kernel
theorem dX2_spreadOn_37 : decode cX2_spreadOn 37 = .ok (.iand, 1) := by decide +kernel
theorem dX2_spreadOn_38 : decode cX2_spreadOn 38 = .ok (.istore 6, 2) := by decide +kernel
theorem dX2_spreadOn_40 : decode cX2_spreadOn 40 = .ok (.iload 4, 2) := by decide +kernel
theorem dX2_spreadOn_42 : decode cX2_spreadOn 42 = .ok (.iload 6, 2) := by decide +kernel
theorem dX2_spreadOn_44 : decode cX2_spreadOn 44 = .ok (.ixor, 1) := by decide +kernel
theorem dX2_spreadOn_45 : decode cX2_spreadOn 45 = .ok (.istore 4, 2) := by decide +kernel
theorem dX2_spreadOn_47 : decode cX2_spreadOn 47 = .ok (.iload 6, 2) := by decide +kernel
theorem dX2_spreadOn_49 : decode cX2_spreadOn 49 = .ok (.aload_n 0, 1) := by decide +kernel
theorem dX2_spreadOn_50 : decode cX2_spreadOn 50 = .ok (.getfield 29, 3) := by decide +kernel
theorem dX2_spreadOn_53 : decode cX2_spreadOn 53 = .ok (.iand, 1) := by decide +kernel
theorem dX2_spreadOn_54 : decode cX2_spreadOn 54 = .ok (.ifCond .ne 16, 3) := by decide +kernel
theorem dX2_spreadOn_57 : decode cX2_spreadOn 57 = .ok (.aload_n 0, 1) := by decide +kernel
theorem dX2_spreadOn_58 : decode cX2_spreadOn 58 = .ok (.getfield 21, 3) := by decide +kernel
theorem dX2_spreadOn_61 : decode cX2_spreadOn 61 = .ok (.iload_n 1, 1) := by decide +kernel
theorem dX2_spreadOn_62 : decode cX2_spreadOn 62 = .ok (.iload 5, 2) := by decide +kernel
theorem dX2_spreadOn_64 : decode cX2_spreadOn 64 = .ok (.invokevirtual 54, 3) := by decide +kernel
theorem dX2_spreadOn_67 : decode cX2_spreadOn 67 = .ok (.goto 4, 3) := by decide +kernel
theorem dX2_spreadOn_70 : decode cX2_spreadOn 70 = .ok (.iconst (-1), 1) := by decide +kernel
theorem dX2_spreadOn_71 : decode cX2_spreadOn 71 = .ok (.istore 7, 2) := by decide +kernel
theorem dX2_spreadOn_73 : decode cX2_spreadOn 73 = .ok (.iload 7, 2) := by decide +kernel
theorem dX2_spreadOn_75 : decode cX2_spreadOn 75 = .ok (.ifCond .lt 96, 3) := by decide +kernel
theorem dX2_spreadOn_78 : decode cX2_spreadOn 78 = .ok (.iload 7, 2) := by decide +kernel
theorem dX2_spreadOn_80 : decode cX2_spreadOn 80 = .ok (.aload_n 0, 1) := by decide +kernel
theorem dX2_spreadOn_81 : decode cX2_spreadOn 81 = .ok (.getfield 9, 3) := by decide +kernel
theorem dX2_spreadOn_84 : decode cX2_spreadOn 84 = .ok (.arraylength, 1) := by decide +kernel
theorem dX2_spreadOn_85 : decode cX2_spreadOn 85 = .ok (.if_icmp .lt 6, 3) := by decide +kernel
theorem dX2_spreadOn_88 : decode cX2_spreadOn 88 = .ok (.goto 83, 3) := by decide +kernel
theorem dX2_spreadOn_91 : decode cX2_spreadOn 91 = .ok (.aload_n 0, 1) := by decide +kernel
theorem dX2_spreadOn_92 : decode cX2_spreadOn 92 = .ok (.getfield 9, 3) := by decide +kernel
theorem dX2_spreadOn_95 : decode cX2_spreadOn 95 = .ok (.iload 7, 2) := by decide +kernel
theorem dX2_spreadOn_97 : decode cX2_spreadOn 97 = .ok (.iaload, 1) := by decide +kernel
theorem dX2_spreadOn_98 : decode cX2_spreadOn 98 = .ok (.iconst (-1), 1) := by decide +kernel
theorem dX2_spreadOn_99 : decode cX2_spreadOn 99 = .ok (.if_icmp .ne 38, 3) := by decide +kernel
theorem dX2_spreadOn_102 : decode cX2_spreadOn 102 = .ok (.iload_n 3, 1) := by decide +kernel
theorem dX2_spreadOn_103 : decode cX2_spreadOn 103 = .ok (.aload_n 0, 1) := by decide +kernel
theorem dX2_spreadOn_104 : decode cX2_spreadOn 104 = .ok (.getfield 18, 3) := by decide +kernel
theorem dX2_spreadOn_107 : decode cX2_spreadOn 107 = .ok (.arraylength, 1) := by decide +kernel
theorem dX2_spreadOn_108 : decode cX2_spreadOn 108 = .ok (.if_icmp .ge 29, 3) := by decide +kernel
theorem dX2_spreadOn_111 : decode cX2_spreadOn 111 = .ok (.aload_n 0, 1) := by decide +kernel
theorem dX2_spreadOn_112 : decode cX2_spreadOn 112 = .ok (.getfield 9, 3) := by decide +kernel
theorem dX2_spreadOn_115 : decode cX2_spreadOn 115 = .ok (.iload 7, 2) := by decide +kernel
theorem dX2_spreadOn_117 : decode cX2_spreadOn 117 = .ok (.aload_n 0, 1) := by decide +kernel
theorem dX2_spreadOn_118 : decode cX2_spreadOn 118 = .ok (.getfield 9, 3) := by decide +kernel
theorem dX2_spreadOn_121 : decode cX2_spreadOn 121 = .ok (.iload_n 1, 1) := by decide +kernel
theorem dX2_spreadOn_122 : decode cX2_spreadOn 122 = .ok (.iaload, 1) := by decide +kernel
theorem dX2_spreadOn_123 : decode cX2_spreadOn 123 = .ok (.iconst 1, 1) := by decide +kernel
theorem dX2_spreadOn_124 : decode cX2_spreadOn 124 = .ok (.iadd, 1) := by decide +kernel
theorem dX2_spreadOn_125 : decode cX2_spreadOn 125 = .ok (.iastore, 1) := by decide +kernel
theorem dX2_spreadOn_126 : decode cX2_spreadOn 126 = .ok (.aload_n 0, 1) := by decide +kernel
theorem dX2_spreadOn_127 : decode cX2_spreadOn 127 = .ok (.getfield 18, 3) := by decide +kernel
theorem dX2_spreadOn_130 : decode cX2_spreadOn 130 = .ok (.iload_n 3, 1) := by decide +kernel
theorem dX2_spreadOn_131 : decode cX2_spreadOn 131 = .ok (.iload 7, 2) := by decide +kernel
theorem dX2_spreadOn_133 : decode cX2_spreadOn 133 = .ok (.iastore, 1) := by decide +kernel
theorem dX2_spreadOn_134 : decode cX2_spreadOn 134 = .ok (.iinc 3 1, 3) := by decide +kernel
theorem dX2_spreadOn_137 : decode cX2_spreadOn 137 = .ok (.aload_n 0, 1) := by decide +kernel
theorem dX2_spreadOn_138 : decode cX2_spreadOn 138 = .ok (.getfield 9, 3) := by decide +kernel
theorem dX2_spreadOn_141 : decode cX2_spreadOn 141 = .ok (.iload 7, 2) := by decide +kernel
theorem dX2_spreadOn_143 : decode cX2_spreadOn 143 = .ok (.iaload, 1) := by decide +kernel
theorem dX2_spreadOn_144 : decode cX2_spreadOn 144 = .ok (.aload_n 0, 1) := by decide +kernel
theorem dX2_spreadOn_145 : decode cX2_spreadOn 145 = .ok (.getfield 9, 3) := by decide +kernel
theorem dX2_spreadOn_148 : decode cX2_spreadOn 148 = .ok (.iload_n 1, 1) := by decide +kernel
theorem dX2_spreadOn_149 : decode cX2_spreadOn 149 = .ok (.iaload, 1) := by decide +kernel
theorem dX2_spreadOn_150 : decode cX2_spreadOn 150 = .ok (.iconst 1, 1) := by decide +kernel
theorem dX2_spreadOn_151 : decode cX2_spreadOn 151 = .ok (.iadd, 1) := by decide +kernel
theorem dX2_spreadOn_152 : decode cX2_spreadOn 152 = .ok (.if_icmp .ne 19, 3) := by decide +kernel
theorem dX2_spreadOn_155 : decode cX2_spreadOn 155 = .ok (.aload_n 0, 1) := by decide +kernel
theorem dX2_spreadOn_156 : decode cX2_spreadOn 156 = .ok (.getfield 15, 3) := by decide +kernel
theorem dX2_spreadOn_159 : decode cX2_spreadOn 159 = .ok (.iload 7, 2) := by decide +kernel
theorem dX2_spreadOn_161 : decode cX2_spreadOn 161 = .ok (.dup2, 1) := by decide +kernel
theorem dX2_spreadOn_162 : decode cX2_spreadOn 162 = .ok (.iaload, 1) := by decide +kernel
theorem dX2_spreadOn_163 : decode cX2_spreadOn 163 = .ok (.aload_n 0, 1) := by decide +kernel
theorem dX2_spreadOn_164 : decode cX2_spreadOn 164 = .ok (.getfield 15, 3) := by decide +kernel
theorem dX2_spreadOn_167 : decode cX2_spreadOn 167 = .ok (.iload_n 1, 1) := by decide +kernel
theorem dX2_spreadOn_168 : decode cX2_spreadOn 168 = .ok (.iaload, 1) := by decide +kernel
theorem dX2_spreadOn_169 : decode cX2_spreadOn 169 = .ok (.iadd, 1) := by decide +kernel
theorem dX2_spreadOn_170 : decode cX2_spreadOn 170 = .ok (.iastore, 1) := by decide +kernel
theorem dX2_spreadOn_171 : decode cX2_spreadOn 171 = .ok (.iinc 5 1, 3) := by decide +kernel
theorem dX2_spreadOn_174 : decode cX2_spreadOn 174 = .ok (.goto (-159), 3) := by decide +kernel
theorem dX2_spreadOn_177 : decode cX2_spreadOn 177 = .ok (.iload_n 3, 1) := by decide +kernel
theorem dX2_spreadOn_178 : decode cX2_spreadOn 178 = .ok (.ireturn, 1) := by decide +kernel
set_option maxRecDepth 100000 in
set_option maxHeartbeats 4000000 in
theorem v_X2_spreadOn {X : zq_X} (C : zq_C X RX2 cX2_spreadOn 8 zq_all rm_X2_spreadOn) {h : zq_H} {t : Nat} {x1 : Int32} {x2 : Int32} (T : zq_T X none) (hn : X.2.2.2.2.2.2.2.2.1.name = yX2_spreadOn.name) {out : (Int32 × zq_H)} (hF : f_X2_spreadOn h t x1 x2 = some out) (hE : zq_End X cX2_spreadOn 0 0 (some (.int out.1)) out.2) : zq_W X 0 0 h 0 [(0, .ref t), (1, .int x1), (2, .int x2)] [] := by
  unfold f_X2_spreadOn at hF
  refine zq_iload_n (pc' := 1) C dX2_spreadOn_0 rfl rfl rfl ?_
  refine zq_istore_n (lv' := [(3, .int x2), (0, .ref t), (1, .int x1), (2, .int x2)]) (pc' := 2) C dX2_spreadOn_1 rfl rfl (by decide) rfl rfl ?_
  refine zq_aload_n (pc' := 3) C dX2_spreadOn_2 rfl rfl rfl ?_
  replace hF := zq_bd hF; obtain ⟨v_1, e_2, hF⟩ := hF
  refine zq_getR (j := 3) (pc' := 6) C zq_K2 zq_in2w (Or.inl wd_127) (by decide) rfl dX2_spreadOn_3 rfl e_2 ?_
  refine zq_iload_n (pc' := 7) C dX2_spreadOn_6 rfl rfl rfl ?_
  replace hF := zq_ck_e hF; obtain ⟨e_5, hF⟩ := hF
  replace hF := zq_bd hF; obtain ⟨v_3, e_4, hF⟩ := hF
  refine zq_cV (pc' := 10) C (c_X0_maskAt e_4) yv_X0_maskAt wd_131 zq_K0 e_5 dX2_spreadOn_7 rfl rfl rfl ⟨Nat.le_of_ble_eq_true rfl, Nat.le_of_ble_eq_true rfl⟩ (Nat.le_of_ble_eq_true rfl) ⟨rfl, rfl⟩ ⟨Nat.le_of_ble_eq_true rfl, Nat.le_of_ble_eq_true rfl⟩ rfl ?_
  refine zq_istore (lv' := [(4, .int v_3), (3, .int x2), (0, .ref t), (1, .int x1), (2, .int x2)]) (pc' := 12) C dX2_spreadOn_10 rfl (by decide) rfl rfl ?_
  refine zq_iconst (pc' := 13) C 0 dX2_spreadOn_12 rfl (by decide) ?_
  refine zq_istore (lv' := [(5, .int 0), (4, .int v_3), (3, .int x2), (0, .ref t), (1, .int x1), (2, .int x2)]) (pc' := 15) C dX2_spreadOn_13 rfl (by decide) rfl rfl ?_
  refine zq_sub [3, 4, 2, 1, 0] rfl ?_
  replace hF := zq_bd hF; obtain ⟨r_7, e_8, hF⟩ := hF
  refine zq_lpW (fun s_6 => zq_W X 0 0 s_6.2.2.2 15 [(0, .ref t), (1, .int x1), (3, .int s_6.1), (4, .int s_6.2.1), (5, .int s_6.2.2.1)] []) (fun y_9 => zq_W X 0 0 y_9.2 177 [(3, .int y_9.1)] []) e_8 (fun s_6 q_13 hF hrec_11 hex_12 => ?_) ?_
  · skip
    refine zq_iload (pc' := 17) C dX2_spreadOn_15 rfl rfl ?_
    refine zq_aload_n (pc' := 18) C dX2_spreadOn_17 rfl rfl rfl ?_
    replace hF := zq_bd hF; obtain ⟨v_14, e_15, hF⟩ := hF
    refine zq_getR (j := 3) (pc' := 21) C zq_K2 zq_in2w (Or.inl wd_127) (by decide) rfl dX2_spreadOn_18 rfl e_15 ?_
    replace hF := zq_bd hF; obtain ⟨v_16, e_17, hF⟩ := hF
    refine zq_getI (j := 4) (pc' := 24) C zq_K0 zq_in0w (Or.inr ⟨"FlipPolygons", by decide +kernel⟩) (by decide) rfl dX2_spreadOn_21 rfl e_17 ?_
    refine zq_icmp_ge (pc' := 27) C 177 dX2_spreadOn_24 (by decide) rfl (fun c_18 => ?_) (fun c_18 => ?_)
    · have hF := (zq_ifp hF c_18)
      skip
      cases hF
      exact zq_sub [2] rfl (hex_12 _ rfl)
    · have hF := (zq_ifn hF c_18)
      refine zq_iload (pc' := 29) C dX2_spreadOn_27 rfl rfl ?_
      refine zq_if_eq (pc' := 32) C 177 dX2_spreadOn_29 (by decide) rfl (fun c_19 => ?_) (fun c_19 => ?_)
      · have hF := (zq_ifp hF c_19)
        skip
        cases hF
        exact zq_sub [2] rfl (hex_12 _ rfl)
      · have hF := (zq_ifn hF c_19)
        refine zq_iload (pc' := 34) C dX2_spreadOn_32 rfl rfl ?_
        refine zq_iload (pc' := 36) C dX2_spreadOn_34 rfl rfl ?_
        refine zq_ineg (pc' := 37) C dX2_spreadOn_36 rfl ?_
        refine zq_iand (pc' := 38) C dX2_spreadOn_37 rfl ?_
        replace hF := zq_let_e hF; obtain ⟨v_20, e_21, hF⟩ := hF
        refine zq_istore (lv' := [(6, .int v_20), (0, .ref t), (1, .int x1), (3, .int s_6.1), (4, .int s_6.2.1), (5, .int s_6.2.2.1)]) (pc' := 40) C dX2_spreadOn_38 rfl (by decide) e_21 rfl ?_
        refine zq_iload (pc' := 42) C dX2_spreadOn_40 rfl rfl ?_
        refine zq_iload (pc' := 44) C dX2_spreadOn_42 rfl rfl ?_
        refine zq_ixor (pc' := 45) C dX2_spreadOn_44 rfl ?_
        replace hF := zq_let_e hF; obtain ⟨v_22, e_23, hF⟩ := hF
        refine zq_istore (lv' := [(4, .int v_22), (6, .int v_20), (0, .ref t), (1, .int x1), (3, .int s_6.1), (5, .int s_6.2.2.1)]) (pc' := 47) C dX2_spreadOn_45 rfl (by decide) e_23 rfl ?_
        refine zq_iload (pc' := 49) C dX2_spreadOn_47 rfl rfl ?_
        refine zq_aload_n (pc' := 50) C dX2_spreadOn_49 rfl rfl rfl ?_
        replace hF := zq_bd hF; obtain ⟨v_24, e_25, hF⟩ := hF
        refine zq_getI (j := 5) (pc' := 53) C zq_K2 zq_in2w (Or.inl wd_130) (by decide) rfl dX2_spreadOn_50 rfl e_25 ?_
        refine zq_iand (pc' := 54) C dX2_spreadOn_53 rfl ?_
        refine zq_if_ne (pc' := 57) C 70 dX2_spreadOn_54 (by decide) rfl (fun c_26 => ?_) (fun c_26 => ?_)
        · have hF := (zq_ifn hF c_26)
          skip
          refine zq_iconst (pc' := 71) C (-1) dX2_spreadOn_70 rfl (by decide) ?_
          refine zq_istore (lv' := [(7, .int (-1)), (4, .int v_22), (6, .int v_20), (0, .ref t), (1, .int x1), (3, .int s_6.1), (5, .int s_6.2.2.1)]) (pc' := 73) C dX2_spreadOn_71 rfl (by decide) rfl rfl ?_
          refine zq_iload (pc' := 75) C dX2_spreadOn_73 rfl rfl ?_
          refine zq_if_lt (pc' := 78) C 171 dX2_spreadOn_75 (by decide) rfl (fun _ => ?_) (fun c_27 => absurd c_27 (by decide))
          replace hF := zq_let_e hF; obtain ⟨v_28, e_29, hF⟩ := hF
          refine zq_iinc (lv' := [(5, .int v_28), (7, .int (-1)), (4, .int v_22), (6, .int v_20), (0, .ref t), (1, .int x1), (3, .int s_6.1)]) (pc' := 174) C dX2_spreadOn_171 rfl (by decide) 6 rfl e_29 rfl ?_
          refine zq_goto C 15 dX2_spreadOn_174 (by decide) ?_
          cases hF
          exact zq_sub [4, 5, 6, 2, 0] rfl (hrec_11 _ rfl)
        · have hF := (zq_ifp hF c_26)
          refine zq_aload_n (pc' := 58) C dX2_spreadOn_57 rfl rfl rfl ?_
          replace hF := zq_bd hF; obtain ⟨v_30, e_31, hF⟩ := hF
          refine zq_getR (j := 3) (pc' := 61) C zq_K2 zq_in2w (Or.inl wd_127) (by decide) rfl dX2_spreadOn_58 rfl e_31 ?_
          refine zq_iload_n (pc' := 62) C dX2_spreadOn_61 rfl rfl rfl ?_
          refine zq_iload (pc' := 64) C dX2_spreadOn_62 rfl rfl ?_
          replace hF := zq_ck_e hF; obtain ⟨e_34, hF⟩ := hF
          replace hF := zq_bd hF; obtain ⟨v_32, e_33, hF⟩ := hF
          refine zq_cV (pc' := 67) C (c_X0_neighborOf e_33) yv_X0_neighborOf wd_134 zq_K0 e_34 dX2_spreadOn_64 rfl rfl rfl ⟨Nat.le_of_ble_eq_true rfl, Nat.le_of_ble_eq_true rfl⟩ (Nat.le_of_ble_eq_true rfl) ⟨rfl, rfl⟩ ⟨Nat.le_of_ble_eq_true rfl, Nat.le_of_ble_eq_true rfl⟩ rfl ?_
          refine zq_goto C 71 dX2_spreadOn_67 (by decide) ?_
          refine zq_istore (lv' := [(7, .int v_32), (4, .int v_22), (6, .int v_20), (0, .ref t), (1, .int x1), (3, .int s_6.1), (5, .int s_6.2.2.1)]) (pc' := 73) C dX2_spreadOn_71 rfl (by decide) rfl rfl ?_
          refine zq_iload (pc' := 75) C dX2_spreadOn_73 rfl rfl ?_
          refine zq_if_lt (pc' := 78) C 171 dX2_spreadOn_75 (by decide) rfl (fun c_35 => ?_) (fun c_35 => ?_)
          · have hF := (zq_ifp hF c_35)
            skip
            replace hF := zq_let_e hF; obtain ⟨v_36, e_37, hF⟩ := hF
            refine zq_iinc (lv' := [(5, .int v_36), (7, .int v_32), (4, .int v_22), (6, .int v_20), (0, .ref t), (1, .int x1), (3, .int s_6.1)]) (pc' := 174) C dX2_spreadOn_171 rfl (by decide) 6 rfl e_37 rfl ?_
            refine zq_goto C 15 dX2_spreadOn_174 (by decide) ?_
            cases hF
            exact zq_sub [4, 5, 6, 2, 0] rfl (hrec_11 _ rfl)
          · have hF := (zq_ifn hF c_35)
            refine zq_iload (pc' := 80) C dX2_spreadOn_78 rfl rfl ?_
            refine zq_aload_n (pc' := 81) C dX2_spreadOn_80 rfl rfl rfl ?_
            replace hF := zq_bd hF; obtain ⟨v_38, e_39, hF⟩ := hF
            refine zq_getR (j := 0) (pc' := 84) C zq_K2 zq_in2w (Or.inl wd_124) (by decide) rfl dX2_spreadOn_81 rfl e_39 ?_
            replace hF := zq_bd hF; obtain ⟨v_40, e_41, hF⟩ := hF
            refine zq_alen (pc' := 85) C dX2_spreadOn_84 rfl e_41 ?_
            refine zq_icmp_lt (pc' := 88) C 91 dX2_spreadOn_85 (by decide) rfl (fun c_42 => ?_) (fun c_42 => ?_)
            · have hF := (zq_ifp hF c_42)
              skip
              refine zq_aload_n (pc' := 92) C dX2_spreadOn_91 rfl rfl rfl ?_
              replace hF := zq_bd hF; obtain ⟨v_43, e_44, hF⟩ := hF
              refine zq_getR (j := 0) (pc' := 95) C zq_K2 zq_in2w (Or.inl wd_124) (by decide) rfl dX2_spreadOn_92 rfl e_44 ?_
              refine zq_iload (pc' := 97) C dX2_spreadOn_95 rfl rfl ?_
              replace hF := zq_bd hF; obtain ⟨v_45, e_46, hF⟩ := hF
              refine zq_iaload (pc' := 98) C dX2_spreadOn_97 rfl e_46 ?_
              refine zq_iconst (pc' := 99) C (-1) dX2_spreadOn_98 rfl (by decide) ?_
              refine zq_icmp_ne (pc' := 102) C 137 dX2_spreadOn_99 (by decide) rfl (fun c_47 => ?_) (fun c_47 => ?_)
              · have hF := (zq_ifn hF c_47)
                skip
                refine zq_aload_n (pc' := 138) C dX2_spreadOn_137 rfl rfl rfl ?_
                replace hF := zq_bd hF; obtain ⟨v_48, e_49, hF⟩ := hF
                refine zq_getR (j := 0) (pc' := 141) C zq_K2 zq_in2w (Or.inl wd_124) (by decide) rfl dX2_spreadOn_138 rfl e_49 ?_
                refine zq_iload (pc' := 143) C dX2_spreadOn_141 rfl rfl ?_
                replace hF := zq_bd hF; obtain ⟨v_50, e_51, hF⟩ := hF
                refine zq_iaload (pc' := 144) C dX2_spreadOn_143 rfl e_51 ?_
                refine zq_aload_n (pc' := 145) C dX2_spreadOn_144 rfl rfl rfl ?_
                replace hF := zq_bd hF; obtain ⟨v_52, e_53, hF⟩ := hF
                refine zq_getR (j := 0) (pc' := 148) C zq_K2 zq_in2w (Or.inl wd_124) (by decide) rfl dX2_spreadOn_145 rfl e_53 ?_
                refine zq_iload_n (pc' := 149) C dX2_spreadOn_148 rfl rfl rfl ?_
                replace hF := zq_bd hF; obtain ⟨v_54, e_55, hF⟩ := hF
                refine zq_iaload (pc' := 150) C dX2_spreadOn_149 rfl e_55 ?_
                refine zq_iconst (pc' := 151) C 1 dX2_spreadOn_150 rfl (by decide) ?_
                refine zq_iadd (pc' := 152) C dX2_spreadOn_151 rfl ?_
                refine zq_icmp_ne (pc' := 155) C 171 dX2_spreadOn_152 (by decide) rfl (fun c_56 => ?_) (fun c_56 => ?_)
                · have hF := (zq_ifn hF c_56)
                  skip
                  replace hF := zq_let_e hF; obtain ⟨v_57, e_58, hF⟩ := hF
                  refine zq_iinc (lv' := [(5, .int v_57), (7, .int v_32), (4, .int v_22), (6, .int v_20), (0, .ref t), (1, .int x1), (3, .int s_6.1)]) (pc' := 174) C dX2_spreadOn_171 rfl (by decide) 6 rfl e_58 rfl ?_
                  refine zq_goto C 15 dX2_spreadOn_174 (by decide) ?_
                  cases hF
                  exact zq_sub [4, 5, 6, 2, 0] rfl (hrec_11 _ rfl)
                · have hF := (zq_ifp hF c_56)
                  refine zq_aload_n (pc' := 156) C dX2_spreadOn_155 rfl rfl rfl ?_
                  replace hF := zq_bd hF; obtain ⟨v_59, e_60, hF⟩ := hF
                  refine zq_getR (j := 1) (pc' := 159) C zq_K2 zq_in2w (Or.inl wd_125) (by decide) rfl dX2_spreadOn_156 rfl e_60 ?_
                  refine zq_iload (pc' := 161) C dX2_spreadOn_159 rfl rfl ?_
                  refine zq_dup2 (pc' := 162) C dX2_spreadOn_161 rfl rfl rfl ?_
                  replace hF := zq_bd hF; obtain ⟨v_61, e_62, hF⟩ := hF
                  refine zq_iaload (pc' := 163) C dX2_spreadOn_162 rfl e_62 ?_
                  refine zq_aload_n (pc' := 164) C dX2_spreadOn_163 rfl rfl rfl ?_
                  replace hF := zq_bd hF; obtain ⟨v_63, e_64, hF⟩ := hF
                  refine zq_getR (j := 1) (pc' := 167) C zq_K2 zq_in2w (Or.inl wd_125) (by decide) rfl dX2_spreadOn_164 rfl e_64 ?_
                  refine zq_iload_n (pc' := 168) C dX2_spreadOn_167 rfl rfl rfl ?_
                  replace hF := zq_bd hF; obtain ⟨v_65, e_66, hF⟩ := hF
                  refine zq_iaload (pc' := 169) C dX2_spreadOn_168 rfl e_66 ?_
                  refine zq_iadd (pc' := 170) C dX2_spreadOn_169 rfl ?_
                  replace hF := zq_bd hF; obtain ⟨h_67, e_68, hF⟩ := hF
                  refine zq_iastore (pc' := 171) C dX2_spreadOn_170 rfl e_68 ?_
                  replace hF := zq_let_e hF; obtain ⟨v_69, e_70, hF⟩ := hF
                  refine zq_iinc (lv' := [(5, .int v_69), (7, .int v_32), (4, .int v_22), (6, .int v_20), (0, .ref t), (1, .int x1), (3, .int s_6.1)]) (pc' := 174) C dX2_spreadOn_171 rfl (by decide) 6 rfl e_70 rfl ?_
                  refine zq_goto C 15 dX2_spreadOn_174 (by decide) ?_
                  cases hF
                  exact zq_sub [4, 5, 6, 2, 0] rfl (hrec_11 _ rfl)
              · have hF := (zq_ifp hF c_47)
                refine zq_iload_n (pc' := 103) C dX2_spreadOn_102 rfl rfl rfl ?_
                refine zq_aload_n (pc' := 104) C dX2_spreadOn_103 rfl rfl rfl ?_
                replace hF := zq_bd hF; obtain ⟨v_71, e_72, hF⟩ := hF
                refine zq_getR (j := 2) (pc' := 107) C zq_K2 zq_in2w (Or.inl wd_126) (by decide) rfl dX2_spreadOn_104 rfl e_72 ?_
                replace hF := zq_bd hF; obtain ⟨v_73, e_74, hF⟩ := hF
                refine zq_alen (pc' := 108) C dX2_spreadOn_107 rfl e_74 ?_
                refine zq_icmp_ge (pc' := 111) C 137 dX2_spreadOn_108 (by decide) rfl (fun c_75 => ?_) (fun c_75 => ?_)
                · have hF := (zq_ifp hF c_75)
                  skip
                  refine zq_aload_n (pc' := 138) C dX2_spreadOn_137 rfl rfl rfl ?_
                  replace hF := zq_bd hF; obtain ⟨v_76, e_77, hF⟩ := hF
                  refine zq_getR (j := 0) (pc' := 141) C zq_K2 zq_in2w (Or.inl wd_124) (by decide) rfl dX2_spreadOn_138 rfl e_77 ?_
                  refine zq_iload (pc' := 143) C dX2_spreadOn_141 rfl rfl ?_
                  replace hF := zq_bd hF; obtain ⟨v_78, e_79, hF⟩ := hF
                  refine zq_iaload (pc' := 144) C dX2_spreadOn_143 rfl e_79 ?_
                  refine zq_aload_n (pc' := 145) C dX2_spreadOn_144 rfl rfl rfl ?_
                  replace hF := zq_bd hF; obtain ⟨v_80, e_81, hF⟩ := hF
                  refine zq_getR (j := 0) (pc' := 148) C zq_K2 zq_in2w (Or.inl wd_124) (by decide) rfl dX2_spreadOn_145 rfl e_81 ?_
                  refine zq_iload_n (pc' := 149) C dX2_spreadOn_148 rfl rfl rfl ?_
                  replace hF := zq_bd hF; obtain ⟨v_82, e_83, hF⟩ := hF
                  refine zq_iaload (pc' := 150) C dX2_spreadOn_149 rfl e_83 ?_
                  refine zq_iconst (pc' := 151) C 1 dX2_spreadOn_150 rfl (by decide) ?_
                  refine zq_iadd (pc' := 152) C dX2_spreadOn_151 rfl ?_
                  refine zq_icmp_ne (pc' := 155) C 171 dX2_spreadOn_152 (by decide) rfl (fun c_84 => ?_) (fun c_84 => ?_)
                  · have hF := (zq_ifn hF c_84)
                    skip
                    replace hF := zq_let_e hF; obtain ⟨v_85, e_86, hF⟩ := hF
                    refine zq_iinc (lv' := [(5, .int v_85), (7, .int v_32), (4, .int v_22), (6, .int v_20), (0, .ref t), (1, .int x1), (3, .int s_6.1)]) (pc' := 174) C dX2_spreadOn_171 rfl (by decide) 6 rfl e_86 rfl ?_
                    refine zq_goto C 15 dX2_spreadOn_174 (by decide) ?_
                    cases hF
                    exact zq_sub [4, 5, 6, 2, 0] rfl (hrec_11 _ rfl)
                  · have hF := (zq_ifp hF c_84)
                    refine zq_aload_n (pc' := 156) C dX2_spreadOn_155 rfl rfl rfl ?_
                    replace hF := zq_bd hF; obtain ⟨v_87, e_88, hF⟩ := hF
                    refine zq_getR (j := 1) (pc' := 159) C zq_K2 zq_in2w (Or.inl wd_125) (by decide) rfl dX2_spreadOn_156 rfl e_88 ?_
                    refine zq_iload (pc' := 161) C dX2_spreadOn_159 rfl rfl ?_
                    refine zq_dup2 (pc' := 162) C dX2_spreadOn_161 rfl rfl rfl ?_
                    replace hF := zq_bd hF; obtain ⟨v_89, e_90, hF⟩ := hF
                    refine zq_iaload (pc' := 163) C dX2_spreadOn_162 rfl e_90 ?_
                    refine zq_aload_n (pc' := 164) C dX2_spreadOn_163 rfl rfl rfl ?_
                    replace hF := zq_bd hF; obtain ⟨v_91, e_92, hF⟩ := hF
                    refine zq_getR (j := 1) (pc' := 167) C zq_K2 zq_in2w (Or.inl wd_125) (by decide) rfl dX2_spreadOn_164 rfl e_92 ?_
                    refine zq_iload_n (pc' := 168) C dX2_spreadOn_167 rfl rfl rfl ?_
                    replace hF := zq_bd hF; obtain ⟨v_93, e_94, hF⟩ := hF
                    refine zq_iaload (pc' := 169) C dX2_spreadOn_168 rfl e_94 ?_
                    refine zq_iadd (pc' := 170) C dX2_spreadOn_169 rfl ?_
                    replace hF := zq_bd hF; obtain ⟨h_95, e_96, hF⟩ := hF
                    refine zq_iastore (pc' := 171) C dX2_spreadOn_170 rfl e_96 ?_
                    replace hF := zq_let_e hF; obtain ⟨v_97, e_98, hF⟩ := hF
                    refine zq_iinc (lv' := [(5, .int v_97), (7, .int v_32), (4, .int v_22), (6, .int v_20), (0, .ref t), (1, .int x1), (3, .int s_6.1)]) (pc' := 174) C dX2_spreadOn_171 rfl (by decide) 6 rfl e_98 rfl ?_
                    refine zq_goto C 15 dX2_spreadOn_174 (by decide) ?_
                    cases hF
                    exact zq_sub [4, 5, 6, 2, 0] rfl (hrec_11 _ rfl)
                · have hF := (zq_ifn hF c_75)
                  refine zq_aload_n (pc' := 112) C dX2_spreadOn_111 rfl rfl rfl ?_
                  replace hF := zq_bd hF; obtain ⟨v_99, e_100, hF⟩ := hF
                  refine zq_getR (j := 0) (pc' := 115) C zq_K2 zq_in2w (Or.inl wd_124) (by decide) rfl dX2_spreadOn_112 rfl e_100 ?_
                  refine zq_iload (pc' := 117) C dX2_spreadOn_115 rfl rfl ?_
                  refine zq_aload_n (pc' := 118) C dX2_spreadOn_117 rfl rfl rfl ?_
                  replace hF := zq_bd hF; obtain ⟨v_101, e_102, hF⟩ := hF
                  refine zq_getR (j := 0) (pc' := 121) C zq_K2 zq_in2w (Or.inl wd_124) (by decide) rfl dX2_spreadOn_118 rfl e_102 ?_
                  refine zq_iload_n (pc' := 122) C dX2_spreadOn_121 rfl rfl rfl ?_
                  replace hF := zq_bd hF; obtain ⟨v_103, e_104, hF⟩ := hF
                  refine zq_iaload (pc' := 123) C dX2_spreadOn_122 rfl e_104 ?_
                  refine zq_iconst (pc' := 124) C 1 dX2_spreadOn_123 rfl (by decide) ?_
                  refine zq_iadd (pc' := 125) C dX2_spreadOn_124 rfl ?_
                  replace hF := zq_bd hF; obtain ⟨h_105, e_106, hF⟩ := hF
                  refine zq_iastore (pc' := 126) C dX2_spreadOn_125 rfl e_106 ?_
                  refine zq_aload_n (pc' := 127) C dX2_spreadOn_126 rfl rfl rfl ?_
                  replace hF := zq_bd hF; obtain ⟨v_107, e_108, hF⟩ := hF
                  refine zq_getR (j := 2) (pc' := 130) C zq_K2 zq_in2w (Or.inl wd_126) (by decide) rfl dX2_spreadOn_127 rfl e_108 ?_
                  refine zq_iload_n (pc' := 131) C dX2_spreadOn_130 rfl rfl rfl ?_
                  refine zq_iload (pc' := 133) C dX2_spreadOn_131 rfl rfl ?_
                  replace hF := zq_bd hF; obtain ⟨h_109, e_110, hF⟩ := hF
                  refine zq_iastore (pc' := 134) C dX2_spreadOn_133 rfl e_110 ?_
                  replace hF := zq_let_e hF; obtain ⟨v_111, e_112, hF⟩ := hF
                  refine zq_iinc (lv' := [(3, .int v_111), (7, .int v_32), (4, .int v_22), (6, .int v_20), (0, .ref t), (1, .int x1), (5, .int s_6.2.2.1)]) (pc' := 137) C dX2_spreadOn_134 rfl (by decide) 5 rfl e_112 rfl ?_
                  refine zq_aload_n (pc' := 138) C dX2_spreadOn_137 rfl rfl rfl ?_
                  replace hF := zq_bd hF; obtain ⟨v_113, e_114, hF⟩ := hF
                  refine zq_getR (j := 0) (pc' := 141) C zq_K2 zq_in2w (Or.inl wd_124) (by decide) rfl dX2_spreadOn_138 rfl e_114 ?_
                  refine zq_iload (pc' := 143) C dX2_spreadOn_141 rfl rfl ?_
                  replace hF := zq_bd hF; obtain ⟨v_115, e_116, hF⟩ := hF
                  refine zq_iaload (pc' := 144) C dX2_spreadOn_143 rfl e_116 ?_
                  refine zq_aload_n (pc' := 145) C dX2_spreadOn_144 rfl rfl rfl ?_
                  replace hF := zq_bd hF; obtain ⟨v_117, e_118, hF⟩ := hF
                  refine zq_getR (j := 0) (pc' := 148) C zq_K2 zq_in2w (Or.inl wd_124) (by decide) rfl dX2_spreadOn_145 rfl e_118 ?_
                  refine zq_iload_n (pc' := 149) C dX2_spreadOn_148 rfl rfl rfl ?_
                  replace hF := zq_bd hF; obtain ⟨v_119, e_120, hF⟩ := hF
                  refine zq_iaload (pc' := 150) C dX2_spreadOn_149 rfl e_120 ?_
                  refine zq_iconst (pc' := 151) C 1 dX2_spreadOn_150 rfl (by decide) ?_
                  refine zq_iadd (pc' := 152) C dX2_spreadOn_151 rfl ?_
                  refine zq_icmp_ne (pc' := 155) C 171 dX2_spreadOn_152 (by decide) rfl (fun c_121 => ?_) (fun c_121 => ?_)
                  · have hF := (zq_ifn hF c_121)
                    skip
                    replace hF := zq_let_e hF; obtain ⟨v_122, e_123, hF⟩ := hF
                    refine zq_iinc (lv' := [(5, .int v_122), (3, .int v_111), (7, .int v_32), (4, .int v_22), (6, .int v_20), (0, .ref t), (1, .int x1)]) (pc' := 174) C dX2_spreadOn_171 rfl (by decide) 6 rfl e_123 rfl ?_
                    refine zq_goto C 15 dX2_spreadOn_174 (by decide) ?_
                    cases hF
                    exact zq_sub [5, 6, 1, 3, 0] rfl (hrec_11 _ rfl)
                  · have hF := (zq_ifp hF c_121)
                    refine zq_aload_n (pc' := 156) C dX2_spreadOn_155 rfl rfl rfl ?_
                    replace hF := zq_bd hF; obtain ⟨v_124, e_125, hF⟩ := hF
                    refine zq_getR (j := 1) (pc' := 159) C zq_K2 zq_in2w (Or.inl wd_125) (by decide) rfl dX2_spreadOn_156 rfl e_125 ?_
                    refine zq_iload (pc' := 161) C dX2_spreadOn_159 rfl rfl ?_
                    refine zq_dup2 (pc' := 162) C dX2_spreadOn_161 rfl rfl rfl ?_
                    replace hF := zq_bd hF; obtain ⟨v_126, e_127, hF⟩ := hF
                    refine zq_iaload (pc' := 163) C dX2_spreadOn_162 rfl e_127 ?_
                    refine zq_aload_n (pc' := 164) C dX2_spreadOn_163 rfl rfl rfl ?_
                    replace hF := zq_bd hF; obtain ⟨v_128, e_129, hF⟩ := hF
                    refine zq_getR (j := 1) (pc' := 167) C zq_K2 zq_in2w (Or.inl wd_125) (by decide) rfl dX2_spreadOn_164 rfl e_129 ?_
                    refine zq_iload_n (pc' := 168) C dX2_spreadOn_167 rfl rfl rfl ?_
                    replace hF := zq_bd hF; obtain ⟨v_130, e_131, hF⟩ := hF
                    refine zq_iaload (pc' := 169) C dX2_spreadOn_168 rfl e_131 ?_
                    refine zq_iadd (pc' := 170) C dX2_spreadOn_169 rfl ?_
                    replace hF := zq_bd hF; obtain ⟨h_132, e_133, hF⟩ := hF
                    refine zq_iastore (pc' := 171) C dX2_spreadOn_170 rfl e_133 ?_
                    replace hF := zq_let_e hF; obtain ⟨v_134, e_135, hF⟩ := hF
                    refine zq_iinc (lv' := [(5, .int v_134), (3, .int v_111), (7, .int v_32), (4, .int v_22), (6, .int v_20), (0, .ref t), (1, .int x1)]) (pc' := 174) C dX2_spreadOn_171 rfl (by decide) 6 rfl e_135 rfl ?_
                    refine zq_goto C 15 dX2_spreadOn_174 (by decide) ?_
                    cases hF
                    exact zq_sub [5, 6, 1, 3, 0] rfl (hrec_11 _ rfl)
            · have hF := (zq_ifn hF c_42)
              refine zq_goto C 171 dX2_spreadOn_88 (by decide) ?_
              replace hF := zq_let_e hF; obtain ⟨v_136, e_137, hF⟩ := hF
              refine zq_iinc (lv' := [(5, .int v_136), (7, .int v_32), (4, .int v_22), (6, .int v_20), (0, .ref t), (1, .int x1), (3, .int s_6.1)]) (pc' := 174) C dX2_spreadOn_171 rfl (by decide) 6 rfl e_137 rfl ?_
              refine zq_goto C 15 dX2_spreadOn_174 (by decide) ?_
              cases hF
              exact zq_sub [4, 5, 6, 2, 0] rfl (hrec_11 _ rfl)
  · skip
    obtain ⟨y_9, rfl⟩ : ∃ z9, z9 = r_7 := ⟨_, rfl⟩
    show zq_W X 0 0 y_9.2 177 [(3, .int y_9.1)] []
    refine zq_iload_n (pc' := 178) C dX2_spreadOn_177 rfl rfl rfl ?_
    have hF := Option.some.inj hF
    subst hF
    exact hE _ _ _ _ (Nat.le_of_ble_eq_true rfl) (Nat.le_of_ble_eq_true rfl) dX2_spreadOn_178
theorem c_X2_spreadOn {h : zq_H} {t : Nat} {x1 : Int32} {x2 : Int32} {out : (Int32 × zq_H)} (hF : f_X2_spreadOn h t x1 x2 = some out) : zq_M none yX2_spreadOn (Cond.code yX2_spreadOn cX2_spreadOn 8 (some .int) :: zq_all) rm_X2_spreadOn [.ref t, .int x1, .int x2] h (some (.int out.1)) out.2 := zq_met2 (own := RX2) (by decide +kernel) rfl (Nat.le_of_ble_eq_true rfl) rfl ⟨.int, rfl, rfl⟩ (fun X C T hn hE => v_X2_spreadOn C T hn hF hE)
theorem yv_X2_spreadOn : zq_calV yX2_spreadOn RX2 cX2_spreadOn 8 (some .int) 2 := ⟨by decide +kernel, wd_129, wd_142, wd_143, wd_144⟩
def f_X2_measure (h : zq_H) (t : Nat) (r1 : Nat) (x2 : Int32) (x3 : Int32) : Option zq_H := (Option.bind (zq_gr h t 2 3) fun v_1 => (if v_1 = r1 then (Option.bind (zq_gi h t 2 4) fun v_64 => (if v_64 = x2 then (Option.bind (zq_gi h t 2 5) fun v_127 => (if v_127 = x3 then some (h) else (Option.bind (zq_pr h t 2 3 r1) fun h_130 => (Option.bind (zq_pi h_130 t 2 4 x2) fun h_132 => (Option.bind (zq_pi h_132 t 2 5 x3) fun h_134 => (Option.bind (zq_gr h_134 t 2 0) fun v_136 => (Option.bind (f_J7_fill_53178 h_134 v_136 (-1)) fun v_138 => (Option.bind (zq_gr v_138 t 2 1) fun v_140 => (Option.bind (f_J7_fill_53178 v_138 v_140 0) fun v_142 => (Option.bind (zq_gr v_142 t 2 3) fun v_144 => (zq_ck v_142 v_144 0 fun _ => (Option.bind (f_X0_indexOf v_142 v_144 x2) fun v_146 => (if v_146 < 0 then some (v_142) else (Option.bind (zq_gr v_142 t 2 0) fun v_150 => (Option.bind (zq_an v_142 v_150) fun v_152 => (if v_146 < v_152 then (Option.bind (zq_gr v_142 t 2 0) fun v_155 => (Option.bind (zq_si v_142 v_155 v_146 0) fun h_157 => (Option.bind (zq_gr h_157 t 2 1) fun v_159 => (Option.bind (zq_si h_157 v_159 v_146 1) fun h_161 => (Option.bind (zq_gr h_161 t 2 2) fun v_163 => (Option.bind (zq_si h_161 v_163 0 v_146) fun h_165 => ((zq_lp (σ := Int32 × Int32 × zq_H) (ρ := zq_H) (fun s_167 => (if s_167.1 ≤ s_167.2.1 then some (.inr s_167.2.2) else (Option.bind (zq_gr s_167.2.2 t 2 2) fun v_176 => (Option.bind (zq_an s_167.2.2 v_176) fun v_178 => (if v_178 ≤ s_167.2.1 then some (.inr s_167.2.2) else (Option.bind (zq_gr s_167.2.2 t 2 2) fun v_181 => (Option.bind (zq_ai s_167.2.2 v_181 s_167.2.1) fun v_183 => (zq_ck s_167.2.2 t 2 fun _ => (Option.bind (f_X2_spreadOn s_167.2.2 t v_183 s_167.1) fun v_185 => (zq_let (s_167.2.1 + 1) fun v_188 => some (.inl (v_185.1, v_188, v_185.2)))))))))))) zq_N (1, 0, h_165)).bind (fun y_170 : zq_H => some (y_170))))))))) else some (v_142))))))))))))))))) else (Option.bind (zq_pr h t 2 3 r1) fun h_67 => (Option.bind (zq_pi h_67 t 2 4 x2) fun h_69 => (Option.bind (zq_pi h_69 t 2 5 x3) fun h_71 => (Option.bind (zq_gr h_71 t 2 0) fun v_73 => (Option.bind (f_J7_fill_53178 h_71 v_73 (-1)) fun v_75 => (Option.bind (zq_gr v_75 t 2 1) fun v_77 => (Option.bind (f_J7_fill_53178 v_75 v_77 0) fun v_79 => (Option.bind (zq_gr v_79 t 2 3) fun v_81 => (zq_ck v_79 v_81 0 fun _ => (Option.bind (f_X0_indexOf v_79 v_81 x2) fun v_83 => (if v_83 < 0 then some (v_79) else (Option.bind (zq_gr v_79 t 2 0) fun v_87 => (Option.bind (zq_an v_79 v_87) fun v_89 => (if v_83 < v_89 then (Option.bind (zq_gr v_79 t 2 0) fun v_92 => (Option.bind (zq_si v_79 v_92 v_83 0) fun h_94 => (Option.bind (zq_gr h_94 t 2 1) fun v_96 => (Option.bind (zq_si h_94 v_96 v_83 1) fun h_98 => (Option.bind (zq_gr h_98 t 2 2) fun v_100 => (Option.bind (zq_si h_98 v_100 0 v_83) fun h_102 => ((zq_lp (σ := Int32 × Int32 × zq_H) (ρ := zq_H) (fun s_104 => (if s_104.1 ≤ s_104.2.1 then some (.inr s_104.2.2) else (Option.bind (zq_gr s_104.2.2 t 2 2) fun v_113 => (Option.bind (zq_an s_104.2.2 v_113) fun v_115 => (if v_115 ≤ s_104.2.1 then some (.inr s_104.2.2) else (Option.bind (zq_gr s_104.2.2 t 2 2) fun v_118 => (Option.bind (zq_ai s_104.2.2 v_118 s_104.2.1) fun v_120 => (zq_ck s_104.2.2 t 2 fun _ => (Option.bind (f_X2_spreadOn s_104.2.2 t v_120 s_104.1) fun v_122 => (zq_let (s_104.2.1 + 1) fun v_125 => some (.inl (v_122.1, v_125, v_122.2)))))))))))) zq_N (1, 0, h_102)).bind (fun y_107 : zq_H => some (y_107))))))))) else some (v_79))))))))))))))))) else (Option.bind (zq_pr h t 2 3 r1) fun h_4 => (Option.bind (zq_pi h_4 t 2 4 x2) fun h_6 => (Option.bind (zq_pi h_6 t 2 5 x3) fun h_8 => (Option.bind (zq_gr h_8 t 2 0) fun v_10 => (Option.bind (f_J7_fill_53178 h_8 v_10 (-1)) fun v_12 => (Option.bind (zq_gr v_12 t 2 1) fun v_14 => (Option.bind (f_J7_fill_53178 v_12 v_14 0) fun v_16 => (Option.bind (zq_gr v_16 t 2 3) fun v_18 => (zq_ck v_16 v_18 0 fun _ => (Option.bind (f_X0_indexOf v_16 v_18 x2) fun v_20 => (if v_20 < 0 then some (v_16) else (Option.bind (zq_gr v_16 t 2 0) fun v_24 => (Option.bind (zq_an v_16 v_24) fun v_26 => (if v_20 < v_26 then (Option.bind (zq_gr v_16 t 2 0) fun v_29 => (Option.bind (zq_si v_16 v_29 v_20 0) fun h_31 => (Option.bind (zq_gr h_31 t 2 1) fun v_33 => (Option.bind (zq_si h_31 v_33 v_20 1) fun h_35 => (Option.bind (zq_gr h_35 t 2 2) fun v_37 => (Option.bind (zq_si h_35 v_37 0 v_20) fun h_39 => ((zq_lp (σ := Int32 × Int32 × zq_H) (ρ := zq_H) (fun s_41 => (if s_41.1 ≤ s_41.2.1 then some (.inr s_41.2.2) else (Option.bind (zq_gr s_41.2.2 t 2 2) fun v_50 => (Option.bind (zq_an s_41.2.2 v_50) fun v_52 => (if v_52 ≤ s_41.2.1 then some (.inr s_41.2.2) else (Option.bind (zq_gr s_41.2.2 t 2 2) fun v_55 => (Option.bind (zq_ai s_41.2.2 v_55 s_41.2.1) fun v_57 => (zq_ck s_41.2.2 t 2 fun _ => (Option.bind (f_X2_spreadOn s_41.2.2 t v_57 s_41.1) fun v_59 => (zq_let (s_41.2.1 + 1) fun v_62 => some (.inl (v_59.1, v_62, v_59.2)))))))))))) zq_N (1, 0, h_39)).bind (fun y_44 : zq_H => some (y_44))))))))) else some (v_16)))))))))))))))))
abbrev rm_X2_measure : Room := { frames := 2, cells := 0, slots := 0, locals := 50 }
theorem dX2_measure_0 : decode cX2_measure 0 = .ok (.aload_n 0, 1) := by decide +kernel
theorem dX2_measure_1 : decode cX2_measure 1 = .ok (.getfield 21, 3) := by decide +kernel
theorem dX2_measure_4 : decode cX2_measure 4 = .ok (.aload_n 1, 1) := by decide +kernel
theorem dX2_measure_5 : decode cX2_measure 5 = .ok (.if_acmp .ne 20, 3) := by decide +kernel
theorem dX2_measure_8 : decode cX2_measure 8 = .ok (.aload_n 0, 1) := by decide +kernel
theorem dX2_measure_9 : decode cX2_measure 9 = .ok (.getfield 25, 3) := by decide +kernel
theorem dX2_measure_12 : decode cX2_measure 12 = .ok (.iload_n 2, 1) := by decide +kernel
theorem dX2_measure_13 : decode cX2_measure 13 = .ok (.if_icmp .ne 12, 3) := by decide +kernel
theorem dX2_measure_16 : decode cX2_measure 16 = .ok (.aload_n 0, 1) := by decide +kernel
theorem dX2_measure_17 : decode cX2_measure 17 = .ok (.getfield 29, 3) := by decide +kernel
theorem dX2_measure_20 : decode cX2_measure 20 = .ok (.iload_n 3, 1) := by decide +kernel
theorem dX2_measure_21 : decode cX2_measure 21 = .ok (.if_icmp .ne 4, 3) := by decide +kernel
theorem dX2_measure_24 : decode cX2_measure 24 = .ok (.return_, 1) := by decide +kernel
theorem dX2_measure_25 : decode cX2_measure 25 = .ok (.aload_n 0, 1) := by decide +kernel
theorem dX2_measure_26 : decode cX2_measure 26 = .ok (.aload_n 1, 1) := by decide +kernel
theorem dX2_measure_27 : decode cX2_measure 27 = .ok (.putfield 21, 3) := by decide +kernel
theorem dX2_measure_30 : decode cX2_measure 30 = .ok (.aload_n 0, 1) := by decide +kernel
theorem dX2_measure_31 : decode cX2_measure 31 = .ok (.iload_n 2, 1) := by decide +kernel
theorem dX2_measure_32 : decode cX2_measure 32 = .ok (.putfield 25, 3) := by decide +kernel
theorem dX2_measure_35 : decode cX2_measure 35 = .ok (.aload_n 0, 1) := by decide +kernel
theorem dX2_measure_36 : decode cX2_measure 36 = .ok (.iload_n 3, 1) := by decide +kernel
theorem dX2_measure_37 : decode cX2_measure 37 = .ok (.putfield 29, 3) := by decide +kernel
theorem dX2_measure_40 : decode cX2_measure 40 = .ok (.aload_n 0, 1) := by decide +kernel
theorem dX2_measure_41 : decode cX2_measure 41 = .ok (.getfield 9, 3) := by decide +kernel
theorem dX2_measure_44 : decode cX2_measure 44 = .ok (.iconst (-1), 1) := by decide +kernel
theorem dX2_measure_45 : decode cX2_measure 45 = .ok (.invokestatic 32, 3) := by decide +kernel
theorem dX2_measure_48 : decode cX2_measure 48 = .ok (.aload_n 0, 1) := by decide +kernel
theorem dX2_measure_49 : decode cX2_measure 49 = .ok (.getfield 15, 3) := by decide +kernel
theorem dX2_measure_52 : decode cX2_measure 52 = .ok (.iconst 0, 1) := by decide +kernel
theorem dX2_measure_53 : decode cX2_measure 53 = .ok (.invokestatic 32, 3) := by decide +kernel
theorem dX2_measure_56 : decode cX2_measure 56 = .ok (.aload_n 0, 1) := by decide +kernel
theorem dX2_measure_57 : decode cX2_measure 57 = .ok (.getfield 21, 3) := by decide +kernel
theorem dX2_measure_60 : decode cX2_measure 60 = .ok (.iload_n 2, 1) := by decide +kernel
theorem dX2_measure_61 : decode cX2_measure 61 = .ok (.invokevirtual 38, 3) := by decide +kernel
theorem dX2_measure_64 : decode cX2_measure 64 = .ok (.istore 4, 2) := by decide +kernel
theorem dX2_measure_66 : decode cX2_measure 66 = .ok (.iload 4, 2) := by decide +kernel
theorem dX2_measure_68 : decode cX2_measure 68 = .ok (.ifCond .lt 13, 3) := by decide +kernel
theorem dX2_measure_71 : decode cX2_measure 71 = .ok (.iload 4, 2) := by decide +kernel
theorem dX2_measure_73 : decode cX2_measure 73 = .ok (.aload_n 0, 1) := by decide +kernel
theorem dX2_measure_74 : decode cX2_measure 74 = .ok (.getfield 9, 3) := by decide +kernel
theorem dX2_measure_77 : decode cX2_measure 77 = .ok (.arraylength, 1) := by decide +kernel
theorem dX2_measure_78 : decode cX2_measure 78 = .ok (.if_icmp .lt 4, 3) := by decide +kernel
theorem dX2_measure_81 : decode cX2_measure 81 = .ok (.return_, 1) := by decide +kernel
theorem dX2_measure_82 : decode cX2_measure 82 = .ok (.aload_n 0, 1) := by decide +kernel
theorem dX2_measure_83 : decode cX2_measure 83 = .ok (.getfield 9, 3) := by decide +kernel
theorem dX2_measure_86 : decode cX2_measure 86 = .ok (.iload 4, 2) := by decide +kernel
theorem dX2_measure_88 : decode cX2_measure 88 = .ok (.iconst 0, 1) := by decide +kernel
theorem dX2_measure_89 : decode cX2_measure 89 = .ok (.iastore, 1) := by decide +kernel
theorem dX2_measure_90 : decode cX2_measure 90 = .ok (.aload_n 0, 1) := by decide +kernel
theorem dX2_measure_91 : decode cX2_measure 91 = .ok (.getfield 15, 3) := by decide +kernel
theorem dX2_measure_94 : decode cX2_measure 94 = .ok (.iload 4, 2) := by decide +kernel
theorem dX2_measure_96 : decode cX2_measure 96 = .ok (.iconst 1, 1) := by decide +kernel
theorem dX2_measure_97 : decode cX2_measure 97 = .ok (.iastore, 1) := by decide +kernel
theorem dX2_measure_98 : decode cX2_measure 98 = .ok (.aload_n 0, 1) := by decide +kernel
theorem dX2_measure_99 : decode cX2_measure 99 = .ok (.getfield 18, 3) := by decide +kernel
theorem dX2_measure_102 : decode cX2_measure 102 = .ok (.iconst 0, 1) := by decide +kernel
theorem dX2_measure_103 : decode cX2_measure 103 = .ok (.iload 4, 2) := by decide +kernel
theorem dX2_measure_105 : decode cX2_measure 105 = .ok (.iastore, 1) := by decide +kernel
theorem dX2_measure_106 : decode cX2_measure 106 = .ok (.iconst 1, 1) := by decide +kernel
theorem dX2_measure_107 : decode cX2_measure 107 = .ok (.istore 5, 2) := by decide +kernel
theorem dX2_measure_109 : decode cX2_measure 109 = .ok (.iconst 0, 1) := by decide +kernel
theorem dX2_measure_110 : decode cX2_measure 110 = .ok (.istore 6, 2) := by decide +kernel
theorem dX2_measure_112 : decode cX2_measure 112 = .ok (.iload 6, 2) := by decide +kernel
theorem dX2_measure_114 : decode cX2_measure 114 = .ok (.iload 5, 2) := by decide +kernel
theorem dX2_measure_116 : decode cX2_measure 116 = .ok (.if_icmp .ge 34, 3) := by decide +kernel
theorem dX2_measure_119 : decode cX2_measure 119 = .ok (.iload 6, 2) := by decide +kernel
theorem dX2_measure_121 : decode cX2_measure 121 = .ok (.aload_n 0, 1) := by decide +kernel
theorem dX2_measure_122 : decode cX2_measure 122 = .ok (.getfield 18, 3) := by decide +kernel
theorem dX2_measure_125 : decode cX2_measure 125 = .ok (.arraylength, 1) := by decide +kernel
theorem dX2_measure_126 : decode cX2_measure 126 = .ok (.if_icmp .ge 24, 3) := by decide +kernel
theorem dX2_measure_129 : decode cX2_measure 129 = .ok (.aload_n 0, 1) := by decide +kernel
theorem dX2_measure_130 : decode cX2_measure 130 = .ok (.aload_n 0, 1) := by decide +kernel
theorem dX2_measure_131 : decode cX2_measure 131 = .ok (.getfield 18, 3) := by decide +kernel
theorem dX2_measure_134 : decode cX2_measure 134 = .ok (.iload 6, 2) := by decide +kernel
theorem dX2_measure_136 : decode cX2_measure 136 = .ok (.iaload, 1) := by decide +kernel
theorem dX2_measure_137 : decode cX2_measure 137 = .ok (.iload 5, 2) := by decide +kernel
theorem dX2_measure_139 : decode cX2_measure 139 = .ok (.invokevirtual 44, 3) := by decide +kernel
theorem dX2_measure_142 : decode cX2_measure 142 = .ok (.istore 5, 2) := by decide +kernel
theorem dX2_measure_144 : decode cX2_measure 144 = .ok (.iinc 6 1, 3) := by decide +kernel
theorem dX2_measure_147 : decode cX2_measure 147 = .ok (.goto (-35), 3) := by decide +kernel
theorem dX2_measure_150 : decode cX2_measure 150 = .ok (.return_, 1) := by decide +kernel
set_option maxRecDepth 100000 in
set_option maxHeartbeats 4000000 in
theorem v_X2_measure {X : zq_X} (C : zq_C X RX2 cX2_measure 7 zq_all rm_X2_measure) {h : zq_H} {t : Nat} {r1 : Nat} {x2 : Int32} {x3 : Int32} (T : zq_T X none) (hn : X.2.2.2.2.2.2.2.2.1.name = yX2_measure.name) {out : zq_H} (hF : f_X2_measure h t r1 x2 x3 = some out) (hE : zq_End X cX2_measure 0 0 none out) : zq_W X 0 0 h 0 [(0, .ref t), (1, .ref r1), (2, .int x2), (3, .int x3)] [] := by
  unfold f_X2_measure at hF
  refine zq_aload_n (pc' := 1) C dX2_measure_0 rfl rfl rfl ?_
  replace hF := zq_bd hF; obtain ⟨v_1, e_2, hF⟩ := hF
  refine zq_getR (j := 3) (pc' := 4) C zq_K2 zq_in2w (Or.inl wd_127) (by decide) rfl dX2_measure_1 rfl e_2 ?_
  refine zq_aload_n (pc' := 5) C dX2_measure_4 rfl rfl rfl ?_
  refine zq_acmp_ne (pc' := 8) C 25 dX2_measure_5 (by decide) rfl (fun c_3 => ?_) (fun c_3 => ?_)
  · have hF := (zq_ifn hF c_3)
    skip
    refine zq_aload_n (pc' := 26) C dX2_measure_25 rfl rfl rfl ?_
    refine zq_aload_n (pc' := 27) C dX2_measure_26 rfl rfl rfl ?_
    replace hF := zq_bd hF; obtain ⟨h_4, e_5, hF⟩ := hF
    refine zq_putR (j := 3) (pc' := 30) C zq_K2 zq_in2w (Or.inl wd_127) (by decide) rfl (Or.inl ⟨_, rfl⟩) dX2_measure_27 rfl (Or.inl rfl) e_5 ?_
    refine zq_aload_n (pc' := 31) C dX2_measure_30 rfl rfl rfl ?_
    refine zq_iload_n (pc' := 32) C dX2_measure_31 rfl rfl rfl ?_
    replace hF := zq_bd hF; obtain ⟨h_6, e_7, hF⟩ := hF
    refine zq_putI (j := 4) (pc' := 35) C zq_K2 zq_in2w (Or.inl wd_128) (by decide) rfl rfl dX2_measure_32 rfl (Or.inl rfl) e_7 ?_
    refine zq_aload_n (pc' := 36) C dX2_measure_35 rfl rfl rfl ?_
    refine zq_iload_n (pc' := 37) C dX2_measure_36 rfl rfl rfl ?_
    replace hF := zq_bd hF; obtain ⟨h_8, e_9, hF⟩ := hF
    refine zq_putI (j := 5) (pc' := 40) C zq_K2 zq_in2w (Or.inl wd_130) (by decide) rfl rfl dX2_measure_37 rfl (Or.inl rfl) e_9 ?_
    refine zq_aload_n (pc' := 41) C dX2_measure_40 rfl rfl rfl ?_
    replace hF := zq_bd hF; obtain ⟨v_10, e_11, hF⟩ := hF
    refine zq_getR (j := 0) (pc' := 44) C zq_K2 zq_in2w (Or.inl wd_124) (by decide) rfl dX2_measure_41 rfl e_11 ?_
    refine zq_iconst (pc' := 45) C (-1) dX2_measure_44 rfl (by decide) ?_
    replace hF := zq_bd hF; obtain ⟨v_12, e_13, hF⟩ := hF
    refine zq_cS (pc' := 48) C (c_J7_fill_53178 e_13) ys_J7_fill_53178 wd_137 dX2_measure_45 rfl rfl rfl ⟨Nat.le_of_ble_eq_true rfl, Nat.le_of_ble_eq_true rfl⟩ (Nat.le_of_ble_eq_true rfl) ⟨rfl, rfl⟩ ⟨Nat.le_of_ble_eq_true rfl, Nat.le_of_ble_eq_true rfl⟩ rfl ?_
    refine zq_aload_n (pc' := 49) C dX2_measure_48 rfl rfl rfl ?_
    replace hF := zq_bd hF; obtain ⟨v_14, e_15, hF⟩ := hF
    refine zq_getR (j := 1) (pc' := 52) C zq_K2 zq_in2w (Or.inl wd_125) (by decide) rfl dX2_measure_49 rfl e_15 ?_
    refine zq_iconst (pc' := 53) C 0 dX2_measure_52 rfl (by decide) ?_
    replace hF := zq_bd hF; obtain ⟨v_16, e_17, hF⟩ := hF
    refine zq_cS (pc' := 56) C (c_J7_fill_53178 e_17) ys_J7_fill_53178 wd_137 dX2_measure_53 rfl rfl rfl ⟨Nat.le_of_ble_eq_true rfl, Nat.le_of_ble_eq_true rfl⟩ (Nat.le_of_ble_eq_true rfl) ⟨rfl, rfl⟩ ⟨Nat.le_of_ble_eq_true rfl, Nat.le_of_ble_eq_true rfl⟩ rfl ?_
    refine zq_aload_n (pc' := 57) C dX2_measure_56 rfl rfl rfl ?_
    replace hF := zq_bd hF; obtain ⟨v_18, e_19, hF⟩ := hF
    refine zq_getR (j := 3) (pc' := 60) C zq_K2 zq_in2w (Or.inl wd_127) (by decide) rfl dX2_measure_57 rfl e_19 ?_
    refine zq_iload_n (pc' := 61) C dX2_measure_60 rfl rfl rfl ?_
    replace hF := zq_ck_e hF; obtain ⟨e_22, hF⟩ := hF
    replace hF := zq_bd hF; obtain ⟨v_20, e_21, hF⟩ := hF
    refine zq_cV (pc' := 64) C (c_X0_indexOf e_21) yv_X0_indexOf wd_138 zq_K0 e_22 dX2_measure_61 rfl rfl rfl ⟨Nat.le_of_ble_eq_true rfl, Nat.le_of_ble_eq_true rfl⟩ (Nat.le_of_ble_eq_true rfl) ⟨rfl, rfl⟩ ⟨Nat.le_of_ble_eq_true rfl, Nat.le_of_ble_eq_true rfl⟩ rfl ?_
    refine zq_istore (lv' := [(4, .int v_20), (0, .ref t), (1, .ref r1), (2, .int x2), (3, .int x3)]) (pc' := 66) C dX2_measure_64 rfl (by decide) rfl rfl ?_
    refine zq_iload (pc' := 68) C dX2_measure_66 rfl rfl ?_
    refine zq_if_lt (pc' := 71) C 81 dX2_measure_68 (by decide) rfl (fun c_23 => ?_) (fun c_23 => ?_)
    · have hF := (zq_ifp hF c_23)
      skip
      have hF := Option.some.inj hF
      subst hF
      exact hE _ _ _ _ (Nat.le_of_ble_eq_true rfl) (Nat.le_of_ble_eq_true rfl) dX2_measure_81
    · have hF := (zq_ifn hF c_23)
      refine zq_iload (pc' := 73) C dX2_measure_71 rfl rfl ?_
      refine zq_aload_n (pc' := 74) C dX2_measure_73 rfl rfl rfl ?_
      replace hF := zq_bd hF; obtain ⟨v_24, e_25, hF⟩ := hF
      refine zq_getR (j := 0) (pc' := 77) C zq_K2 zq_in2w (Or.inl wd_124) (by decide) rfl dX2_measure_74 rfl e_25 ?_
      replace hF := zq_bd hF; obtain ⟨v_26, e_27, hF⟩ := hF
      refine zq_alen (pc' := 78) C dX2_measure_77 rfl e_27 ?_
      refine zq_icmp_lt (pc' := 81) C 82 dX2_measure_78 (by decide) rfl (fun c_28 => ?_) (fun c_28 => ?_)
      · have hF := (zq_ifp hF c_28)
        skip
        refine zq_aload_n (pc' := 83) C dX2_measure_82 rfl rfl rfl ?_
        replace hF := zq_bd hF; obtain ⟨v_29, e_30, hF⟩ := hF
        refine zq_getR (j := 0) (pc' := 86) C zq_K2 zq_in2w (Or.inl wd_124) (by decide) rfl dX2_measure_83 rfl e_30 ?_
        refine zq_iload (pc' := 88) C dX2_measure_86 rfl rfl ?_
        refine zq_iconst (pc' := 89) C 0 dX2_measure_88 rfl (by decide) ?_
        replace hF := zq_bd hF; obtain ⟨h_31, e_32, hF⟩ := hF
        refine zq_iastore (pc' := 90) C dX2_measure_89 rfl e_32 ?_
        refine zq_aload_n (pc' := 91) C dX2_measure_90 rfl rfl rfl ?_
        replace hF := zq_bd hF; obtain ⟨v_33, e_34, hF⟩ := hF
        refine zq_getR (j := 1) (pc' := 94) C zq_K2 zq_in2w (Or.inl wd_125) (by decide) rfl dX2_measure_91 rfl e_34 ?_
        refine zq_iload (pc' := 96) C dX2_measure_94 rfl rfl ?_
        refine zq_iconst (pc' := 97) C 1 dX2_measure_96 rfl (by decide) ?_
        replace hF := zq_bd hF; obtain ⟨h_35, e_36, hF⟩ := hF
        refine zq_iastore (pc' := 98) C dX2_measure_97 rfl e_36 ?_
        refine zq_aload_n (pc' := 99) C dX2_measure_98 rfl rfl rfl ?_
        replace hF := zq_bd hF; obtain ⟨v_37, e_38, hF⟩ := hF
        refine zq_getR (j := 2) (pc' := 102) C zq_K2 zq_in2w (Or.inl wd_126) (by decide) rfl dX2_measure_99 rfl e_38 ?_
        refine zq_iconst (pc' := 103) C 0 dX2_measure_102 rfl (by decide) ?_
        refine zq_iload (pc' := 105) C dX2_measure_103 rfl rfl ?_
        replace hF := zq_bd hF; obtain ⟨h_39, e_40, hF⟩ := hF
        refine zq_iastore (pc' := 106) C dX2_measure_105 rfl e_40 ?_
        refine zq_iconst (pc' := 107) C 1 dX2_measure_106 rfl (by decide) ?_
        refine zq_istore (lv' := [(5, .int 1), (4, .int v_20), (0, .ref t), (1, .ref r1), (2, .int x2), (3, .int x3)]) (pc' := 109) C dX2_measure_107 rfl (by decide) rfl rfl ?_
        refine zq_iconst (pc' := 110) C 0 dX2_measure_109 rfl (by decide) ?_
        refine zq_istore (lv' := [(6, .int 0), (5, .int 1), (4, .int v_20), (0, .ref t), (1, .ref r1), (2, .int x2), (3, .int x3)]) (pc' := 112) C dX2_measure_110 rfl (by decide) rfl rfl ?_
        refine zq_sub [3, 1, 0] rfl ?_
        replace hF := zq_bd hF; obtain ⟨r_42, e_43, hF⟩ := hF
        refine zq_lpW (fun s_41 => zq_W X 0 0 s_41.2.2 112 [(0, .ref t), (5, .int s_41.1), (6, .int s_41.2.1)] []) (fun y_44 => zq_W X 0 0 y_44 150 [] []) e_43 (fun s_41 q_48 hF hrec_46 hex_47 => ?_) ?_
        · skip
          refine zq_iload (pc' := 114) C dX2_measure_112 rfl rfl ?_
          refine zq_iload (pc' := 116) C dX2_measure_114 rfl rfl ?_
          refine zq_icmp_ge (pc' := 119) C 150 dX2_measure_116 (by decide) rfl (fun c_49 => ?_) (fun c_49 => ?_)
          · have hF := (zq_ifp hF c_49)
            skip
            cases hF
            exact zq_sub [] rfl (hex_47 _ rfl)
          · have hF := (zq_ifn hF c_49)
            refine zq_iload (pc' := 121) C dX2_measure_119 rfl rfl ?_
            refine zq_aload_n (pc' := 122) C dX2_measure_121 rfl rfl rfl ?_
            replace hF := zq_bd hF; obtain ⟨v_50, e_51, hF⟩ := hF
            refine zq_getR (j := 2) (pc' := 125) C zq_K2 zq_in2w (Or.inl wd_126) (by decide) rfl dX2_measure_122 rfl e_51 ?_
            replace hF := zq_bd hF; obtain ⟨v_52, e_53, hF⟩ := hF
            refine zq_alen (pc' := 126) C dX2_measure_125 rfl e_53 ?_
            refine zq_icmp_ge (pc' := 129) C 150 dX2_measure_126 (by decide) rfl (fun c_54 => ?_) (fun c_54 => ?_)
            · have hF := (zq_ifp hF c_54)
              skip
              cases hF
              exact zq_sub [] rfl (hex_47 _ rfl)
            · have hF := (zq_ifn hF c_54)
              refine zq_aload_n (pc' := 130) C dX2_measure_129 rfl rfl rfl ?_
              refine zq_aload_n (pc' := 131) C dX2_measure_130 rfl rfl rfl ?_
              replace hF := zq_bd hF; obtain ⟨v_55, e_56, hF⟩ := hF
              refine zq_getR (j := 2) (pc' := 134) C zq_K2 zq_in2w (Or.inl wd_126) (by decide) rfl dX2_measure_131 rfl e_56 ?_
              refine zq_iload (pc' := 136) C dX2_measure_134 rfl rfl ?_
              replace hF := zq_bd hF; obtain ⟨v_57, e_58, hF⟩ := hF
              refine zq_iaload (pc' := 137) C dX2_measure_136 rfl e_58 ?_
              refine zq_iload (pc' := 139) C dX2_measure_137 rfl rfl ?_
              replace hF := zq_ck_e hF; obtain ⟨e_61, hF⟩ := hF
              replace hF := zq_bd hF; obtain ⟨v_59, e_60, hF⟩ := hF
              refine zq_cV (pc' := 142) C (c_X2_spreadOn e_60) yv_X2_spreadOn wd_141 zq_K2 e_61 dX2_measure_139 rfl rfl rfl ⟨Nat.le_of_ble_eq_true rfl, Nat.le_of_ble_eq_true rfl⟩ (Nat.le_of_ble_eq_true rfl) ⟨rfl, rfl⟩ ⟨Nat.le_of_ble_eq_true rfl, Nat.le_of_ble_eq_true rfl⟩ rfl ?_
              refine zq_istore (lv' := [(5, .int v_59.1), (0, .ref t), (6, .int s_41.2.1)]) (pc' := 144) C dX2_measure_142 rfl (by decide) rfl rfl ?_
              replace hF := zq_let_e hF; obtain ⟨v_62, e_63, hF⟩ := hF
              refine zq_iinc (lv' := [(6, .int v_62), (5, .int v_59.1), (0, .ref t)]) (pc' := 147) C dX2_measure_144 rfl (by decide) 2 rfl e_63 rfl ?_
              refine zq_goto C 112 dX2_measure_147 (by decide) ?_
              cases hF
              exact zq_sub [2, 1, 0] rfl (hrec_46 _ rfl)
        · skip
          obtain ⟨y_44, rfl⟩ : ∃ z9, z9 = r_42 := ⟨_, rfl⟩
          show zq_W X 0 0 y_44 150 [] []
          have hF := Option.some.inj hF
          subst hF
          exact hE _ _ _ _ (Nat.le_of_ble_eq_true rfl) (Nat.le_of_ble_eq_true rfl) dX2_measure_150
      · have hF := (zq_ifn hF c_28)
        have hF := Option.some.inj hF
        subst hF
        exact hE _ _ _ _ (Nat.le_of_ble_eq_true rfl) (Nat.le_of_ble_eq_true rfl) dX2_measure_81
  · have hF := (zq_ifp hF c_3)
    refine zq_aload_n (pc' := 9) C dX2_measure_8 rfl rfl rfl ?_
    replace hF := zq_bd hF; obtain ⟨v_64, e_65, hF⟩ := hF
    refine zq_getI (j := 4) (pc' := 12) C zq_K2 zq_in2w (Or.inl wd_128) (by decide) rfl dX2_measure_9 rfl e_65 ?_
    refine zq_iload_n (pc' := 13) C dX2_measure_12 rfl rfl rfl ?_
    refine zq_icmp_ne (pc' := 16) C 25 dX2_measure_13 (by decide) rfl (fun c_66 => ?_) (fun c_66 => ?_)
    · have hF := (zq_ifn hF c_66)
      skip
      refine zq_aload_n (pc' := 26) C dX2_measure_25 rfl rfl rfl ?_
      refine zq_aload_n (pc' := 27) C dX2_measure_26 rfl rfl rfl ?_
      replace hF := zq_bd hF; obtain ⟨h_67, e_68, hF⟩ := hF
      refine zq_putR (j := 3) (pc' := 30) C zq_K2 zq_in2w (Or.inl wd_127) (by decide) rfl (Or.inl ⟨_, rfl⟩) dX2_measure_27 rfl (Or.inl rfl) e_68 ?_
      refine zq_aload_n (pc' := 31) C dX2_measure_30 rfl rfl rfl ?_
      refine zq_iload_n (pc' := 32) C dX2_measure_31 rfl rfl rfl ?_
      replace hF := zq_bd hF; obtain ⟨h_69, e_70, hF⟩ := hF
      refine zq_putI (j := 4) (pc' := 35) C zq_K2 zq_in2w (Or.inl wd_128) (by decide) rfl rfl dX2_measure_32 rfl (Or.inl rfl) e_70 ?_
      refine zq_aload_n (pc' := 36) C dX2_measure_35 rfl rfl rfl ?_
      refine zq_iload_n (pc' := 37) C dX2_measure_36 rfl rfl rfl ?_
      replace hF := zq_bd hF; obtain ⟨h_71, e_72, hF⟩ := hF
      refine zq_putI (j := 5) (pc' := 40) C zq_K2 zq_in2w (Or.inl wd_130) (by decide) rfl rfl dX2_measure_37 rfl (Or.inl rfl) e_72 ?_
      refine zq_aload_n (pc' := 41) C dX2_measure_40 rfl rfl rfl ?_
      replace hF := zq_bd hF; obtain ⟨v_73, e_74, hF⟩ := hF
      refine zq_getR (j := 0) (pc' := 44) C zq_K2 zq_in2w (Or.inl wd_124) (by decide) rfl dX2_measure_41 rfl e_74 ?_
      refine zq_iconst (pc' := 45) C (-1) dX2_measure_44 rfl (by decide) ?_
      replace hF := zq_bd hF; obtain ⟨v_75, e_76, hF⟩ := hF
      refine zq_cS (pc' := 48) C (c_J7_fill_53178 e_76) ys_J7_fill_53178 wd_137 dX2_measure_45 rfl rfl rfl ⟨Nat.le_of_ble_eq_true rfl, Nat.le_of_ble_eq_true rfl⟩ (Nat.le_of_ble_eq_true rfl) ⟨rfl, rfl⟩ ⟨Nat.le_of_ble_eq_true rfl, Nat.le_of_ble_eq_true rfl⟩ rfl ?_
      refine zq_aload_n (pc' := 49) C dX2_measure_48 rfl rfl rfl ?_
      replace hF := zq_bd hF; obtain ⟨v_77, e_78, hF⟩ := hF
      refine zq_getR (j := 1) (pc' := 52) C zq_K2 zq_in2w (Or.inl wd_125) (by decide) rfl dX2_measure_49 rfl e_78 ?_
      refine zq_iconst (pc' := 53) C 0 dX2_measure_52 rfl (by decide) ?_
      replace hF := zq_bd hF; obtain ⟨v_79, e_80, hF⟩ := hF
      refine zq_cS (pc' := 56) C (c_J7_fill_53178 e_80) ys_J7_fill_53178 wd_137 dX2_measure_53 rfl rfl rfl ⟨Nat.le_of_ble_eq_true rfl, Nat.le_of_ble_eq_true rfl⟩ (Nat.le_of_ble_eq_true rfl) ⟨rfl, rfl⟩ ⟨Nat.le_of_ble_eq_true rfl, Nat.le_of_ble_eq_true rfl⟩ rfl ?_
      refine zq_aload_n (pc' := 57) C dX2_measure_56 rfl rfl rfl ?_
      replace hF := zq_bd hF; obtain ⟨v_81, e_82, hF⟩ := hF
      refine zq_getR (j := 3) (pc' := 60) C zq_K2 zq_in2w (Or.inl wd_127) (by decide) rfl dX2_measure_57 rfl e_82 ?_
      refine zq_iload_n (pc' := 61) C dX2_measure_60 rfl rfl rfl ?_
      replace hF := zq_ck_e hF; obtain ⟨e_85, hF⟩ := hF
      replace hF := zq_bd hF; obtain ⟨v_83, e_84, hF⟩ := hF
      refine zq_cV (pc' := 64) C (c_X0_indexOf e_84) yv_X0_indexOf wd_138 zq_K0 e_85 dX2_measure_61 rfl rfl rfl ⟨Nat.le_of_ble_eq_true rfl, Nat.le_of_ble_eq_true rfl⟩ (Nat.le_of_ble_eq_true rfl) ⟨rfl, rfl⟩ ⟨Nat.le_of_ble_eq_true rfl, Nat.le_of_ble_eq_true rfl⟩ rfl ?_
      refine zq_istore (lv' := [(4, .int v_83), (0, .ref t), (1, .ref r1), (2, .int x2), (3, .int x3)]) (pc' := 66) C dX2_measure_64 rfl (by decide) rfl rfl ?_
      refine zq_iload (pc' := 68) C dX2_measure_66 rfl rfl ?_
      refine zq_if_lt (pc' := 71) C 81 dX2_measure_68 (by decide) rfl (fun c_86 => ?_) (fun c_86 => ?_)
      · have hF := (zq_ifp hF c_86)
        skip
        have hF := Option.some.inj hF
        subst hF
        exact hE _ _ _ _ (Nat.le_of_ble_eq_true rfl) (Nat.le_of_ble_eq_true rfl) dX2_measure_81
      · have hF := (zq_ifn hF c_86)
        refine zq_iload (pc' := 73) C dX2_measure_71 rfl rfl ?_
        refine zq_aload_n (pc' := 74) C dX2_measure_73 rfl rfl rfl ?_
        replace hF := zq_bd hF; obtain ⟨v_87, e_88, hF⟩ := hF
        refine zq_getR (j := 0) (pc' := 77) C zq_K2 zq_in2w (Or.inl wd_124) (by decide) rfl dX2_measure_74 rfl e_88 ?_
        replace hF := zq_bd hF; obtain ⟨v_89, e_90, hF⟩ := hF
        refine zq_alen (pc' := 78) C dX2_measure_77 rfl e_90 ?_
        refine zq_icmp_lt (pc' := 81) C 82 dX2_measure_78 (by decide) rfl (fun c_91 => ?_) (fun c_91 => ?_)
        · have hF := (zq_ifp hF c_91)
          skip
          refine zq_aload_n (pc' := 83) C dX2_measure_82 rfl rfl rfl ?_
          replace hF := zq_bd hF; obtain ⟨v_92, e_93, hF⟩ := hF
          refine zq_getR (j := 0) (pc' := 86) C zq_K2 zq_in2w (Or.inl wd_124) (by decide) rfl dX2_measure_83 rfl e_93 ?_
          refine zq_iload (pc' := 88) C dX2_measure_86 rfl rfl ?_
          refine zq_iconst (pc' := 89) C 0 dX2_measure_88 rfl (by decide) ?_
          replace hF := zq_bd hF; obtain ⟨h_94, e_95, hF⟩ := hF
          refine zq_iastore (pc' := 90) C dX2_measure_89 rfl e_95 ?_
          refine zq_aload_n (pc' := 91) C dX2_measure_90 rfl rfl rfl ?_
          replace hF := zq_bd hF; obtain ⟨v_96, e_97, hF⟩ := hF
          refine zq_getR (j := 1) (pc' := 94) C zq_K2 zq_in2w (Or.inl wd_125) (by decide) rfl dX2_measure_91 rfl e_97 ?_
          refine zq_iload (pc' := 96) C dX2_measure_94 rfl rfl ?_
          refine zq_iconst (pc' := 97) C 1 dX2_measure_96 rfl (by decide) ?_
          replace hF := zq_bd hF; obtain ⟨h_98, e_99, hF⟩ := hF
          refine zq_iastore (pc' := 98) C dX2_measure_97 rfl e_99 ?_
          refine zq_aload_n (pc' := 99) C dX2_measure_98 rfl rfl rfl ?_
          replace hF := zq_bd hF; obtain ⟨v_100, e_101, hF⟩ := hF
          refine zq_getR (j := 2) (pc' := 102) C zq_K2 zq_in2w (Or.inl wd_126) (by decide) rfl dX2_measure_99 rfl e_101 ?_
          refine zq_iconst (pc' := 103) C 0 dX2_measure_102 rfl (by decide) ?_
          refine zq_iload (pc' := 105) C dX2_measure_103 rfl rfl ?_
          replace hF := zq_bd hF; obtain ⟨h_102, e_103, hF⟩ := hF
          refine zq_iastore (pc' := 106) C dX2_measure_105 rfl e_103 ?_
          refine zq_iconst (pc' := 107) C 1 dX2_measure_106 rfl (by decide) ?_
          refine zq_istore (lv' := [(5, .int 1), (4, .int v_83), (0, .ref t), (1, .ref r1), (2, .int x2), (3, .int x3)]) (pc' := 109) C dX2_measure_107 rfl (by decide) rfl rfl ?_
          refine zq_iconst (pc' := 110) C 0 dX2_measure_109 rfl (by decide) ?_
          refine zq_istore (lv' := [(6, .int 0), (5, .int 1), (4, .int v_83), (0, .ref t), (1, .ref r1), (2, .int x2), (3, .int x3)]) (pc' := 112) C dX2_measure_110 rfl (by decide) rfl rfl ?_
          refine zq_sub [3, 1, 0] rfl ?_
          replace hF := zq_bd hF; obtain ⟨r_105, e_106, hF⟩ := hF
          refine zq_lpW (fun s_104 => zq_W X 0 0 s_104.2.2 112 [(0, .ref t), (5, .int s_104.1), (6, .int s_104.2.1)] []) (fun y_107 => zq_W X 0 0 y_107 150 [] []) e_106 (fun s_104 q_111 hF hrec_109 hex_110 => ?_) ?_
          · skip
            refine zq_iload (pc' := 114) C dX2_measure_112 rfl rfl ?_
            refine zq_iload (pc' := 116) C dX2_measure_114 rfl rfl ?_
            refine zq_icmp_ge (pc' := 119) C 150 dX2_measure_116 (by decide) rfl (fun c_112 => ?_) (fun c_112 => ?_)
            · have hF := (zq_ifp hF c_112)
              skip
              cases hF
              exact zq_sub [] rfl (hex_110 _ rfl)
            · have hF := (zq_ifn hF c_112)
              refine zq_iload (pc' := 121) C dX2_measure_119 rfl rfl ?_
              refine zq_aload_n (pc' := 122) C dX2_measure_121 rfl rfl rfl ?_
              replace hF := zq_bd hF; obtain ⟨v_113, e_114, hF⟩ := hF
              refine zq_getR (j := 2) (pc' := 125) C zq_K2 zq_in2w (Or.inl wd_126) (by decide) rfl dX2_measure_122 rfl e_114 ?_
              replace hF := zq_bd hF; obtain ⟨v_115, e_116, hF⟩ := hF
              refine zq_alen (pc' := 126) C dX2_measure_125 rfl e_116 ?_
              refine zq_icmp_ge (pc' := 129) C 150 dX2_measure_126 (by decide) rfl (fun c_117 => ?_) (fun c_117 => ?_)
              · have hF := (zq_ifp hF c_117)
                skip
                cases hF
                exact zq_sub [] rfl (hex_110 _ rfl)
              · have hF := (zq_ifn hF c_117)
                refine zq_aload_n (pc' := 130) C dX2_measure_129 rfl rfl rfl ?_
                refine zq_aload_n (pc' := 131) C dX2_measure_130 rfl rfl rfl ?_
                replace hF := zq_bd hF; obtain ⟨v_118, e_119, hF⟩ := hF
                refine zq_getR (j := 2) (pc' := 134) C zq_K2 zq_in2w (Or.inl wd_126) (by decide) rfl dX2_measure_131 rfl e_119 ?_
                refine zq_iload (pc' := 136) C dX2_measure_134 rfl rfl ?_
                replace hF := zq_bd hF; obtain ⟨v_120, e_121, hF⟩ := hF
                refine zq_iaload (pc' := 137) C dX2_measure_136 rfl e_121 ?_
                refine zq_iload (pc' := 139) C dX2_measure_137 rfl rfl ?_
                replace hF := zq_ck_e hF; obtain ⟨e_124, hF⟩ := hF
                replace hF := zq_bd hF; obtain ⟨v_122, e_123, hF⟩ := hF
                refine zq_cV (pc' := 142) C (c_X2_spreadOn e_123) yv_X2_spreadOn wd_141 zq_K2 e_124 dX2_measure_139 rfl rfl rfl ⟨Nat.le_of_ble_eq_true rfl, Nat.le_of_ble_eq_true rfl⟩ (Nat.le_of_ble_eq_true rfl) ⟨rfl, rfl⟩ ⟨Nat.le_of_ble_eq_true rfl, Nat.le_of_ble_eq_true rfl⟩ rfl ?_
                refine zq_istore (lv' := [(5, .int v_122.1), (0, .ref t), (6, .int s_104.2.1)]) (pc' := 144) C dX2_measure_142 rfl (by decide) rfl rfl ?_
                replace hF := zq_let_e hF; obtain ⟨v_125, e_126, hF⟩ := hF
                refine zq_iinc (lv' := [(6, .int v_125), (5, .int v_122.1), (0, .ref t)]) (pc' := 147) C dX2_measure_144 rfl (by decide) 2 rfl e_126 rfl ?_
                refine zq_goto C 112 dX2_measure_147 (by decide) ?_
                cases hF
                exact zq_sub [2, 1, 0] rfl (hrec_109 _ rfl)
          · skip
            obtain ⟨y_107, rfl⟩ : ∃ z9, z9 = r_105 := ⟨_, rfl⟩
            show zq_W X 0 0 y_107 150 [] []
            have hF := Option.some.inj hF
            subst hF
            exact hE _ _ _ _ (Nat.le_of_ble_eq_true rfl) (Nat.le_of_ble_eq_true rfl) dX2_measure_150
        · have hF := (zq_ifn hF c_91)
          have hF := Option.some.inj hF
          subst hF
          exact hE _ _ _ _ (Nat.le_of_ble_eq_true rfl) (Nat.le_of_ble_eq_true rfl) dX2_measure_81
    · have hF := (zq_ifp hF c_66)
      refine zq_aload_n (pc' := 17) C dX2_measure_16 rfl rfl rfl ?_
      replace hF := zq_bd hF; obtain ⟨v_127, e_128, hF⟩ := hF
      refine zq_getI (j := 5) (pc' := 20) C zq_K2 zq_in2w (Or.inl wd_130) (by decide) rfl dX2_measure_17 rfl e_128 ?_
      refine zq_iload_n (pc' := 21) C dX2_measure_20 rfl rfl rfl ?_
      refine zq_icmp_ne (pc' := 24) C 25 dX2_measure_21 (by decide) rfl (fun c_129 => ?_) (fun c_129 => ?_)
      · have hF := (zq_ifn hF c_129)
        skip
        refine zq_aload_n (pc' := 26) C dX2_measure_25 rfl rfl rfl ?_
        refine zq_aload_n (pc' := 27) C dX2_measure_26 rfl rfl rfl ?_
        replace hF := zq_bd hF; obtain ⟨h_130, e_131, hF⟩ := hF
        refine zq_putR (j := 3) (pc' := 30) C zq_K2 zq_in2w (Or.inl wd_127) (by decide) rfl (Or.inl ⟨_, rfl⟩) dX2_measure_27 rfl (Or.inl rfl) e_131 ?_
        refine zq_aload_n (pc' := 31) C dX2_measure_30 rfl rfl rfl ?_
        refine zq_iload_n (pc' := 32) C dX2_measure_31 rfl rfl rfl ?_
        replace hF := zq_bd hF; obtain ⟨h_132, e_133, hF⟩ := hF
        refine zq_putI (j := 4) (pc' := 35) C zq_K2 zq_in2w (Or.inl wd_128) (by decide) rfl rfl dX2_measure_32 rfl (Or.inl rfl) e_133 ?_
        refine zq_aload_n (pc' := 36) C dX2_measure_35 rfl rfl rfl ?_
        refine zq_iload_n (pc' := 37) C dX2_measure_36 rfl rfl rfl ?_
        replace hF := zq_bd hF; obtain ⟨h_134, e_135, hF⟩ := hF
        refine zq_putI (j := 5) (pc' := 40) C zq_K2 zq_in2w (Or.inl wd_130) (by decide) rfl rfl dX2_measure_37 rfl (Or.inl rfl) e_135 ?_
        refine zq_aload_n (pc' := 41) C dX2_measure_40 rfl rfl rfl ?_
        replace hF := zq_bd hF; obtain ⟨v_136, e_137, hF⟩ := hF
        refine zq_getR (j := 0) (pc' := 44) C zq_K2 zq_in2w (Or.inl wd_124) (by decide) rfl dX2_measure_41 rfl e_137 ?_
        refine zq_iconst (pc' := 45) C (-1) dX2_measure_44 rfl (by decide) ?_
        replace hF := zq_bd hF; obtain ⟨v_138, e_139, hF⟩ := hF
        refine zq_cS (pc' := 48) C (c_J7_fill_53178 e_139) ys_J7_fill_53178 wd_137 dX2_measure_45 rfl rfl rfl ⟨Nat.le_of_ble_eq_true rfl, Nat.le_of_ble_eq_true rfl⟩ (Nat.le_of_ble_eq_true rfl) ⟨rfl, rfl⟩ ⟨Nat.le_of_ble_eq_true rfl, Nat.le_of_ble_eq_true rfl⟩ rfl ?_
        refine zq_aload_n (pc' := 49) C dX2_measure_48 rfl rfl rfl ?_
        replace hF := zq_bd hF; obtain ⟨v_140, e_141, hF⟩ := hF
        refine zq_getR (j := 1) (pc' := 52) C zq_K2 zq_in2w (Or.inl wd_125) (by decide) rfl dX2_measure_49 rfl e_141 ?_
        refine zq_iconst (pc' := 53) C 0 dX2_measure_52 rfl (by decide) ?_
        replace hF := zq_bd hF; obtain ⟨v_142, e_143, hF⟩ := hF
        refine zq_cS (pc' := 56) C (c_J7_fill_53178 e_143) ys_J7_fill_53178 wd_137 dX2_measure_53 rfl rfl rfl ⟨Nat.le_of_ble_eq_true rfl, Nat.le_of_ble_eq_true rfl⟩ (Nat.le_of_ble_eq_true rfl) ⟨rfl, rfl⟩ ⟨Nat.le_of_ble_eq_true rfl, Nat.le_of_ble_eq_true rfl⟩ rfl ?_
        refine zq_aload_n (pc' := 57) C dX2_measure_56 rfl rfl rfl ?_
        replace hF := zq_bd hF; obtain ⟨v_144, e_145, hF⟩ := hF
        refine zq_getR (j := 3) (pc' := 60) C zq_K2 zq_in2w (Or.inl wd_127) (by decide) rfl dX2_measure_57 rfl e_145 ?_
        refine zq_iload_n (pc' := 61) C dX2_measure_60 rfl rfl rfl ?_
        replace hF := zq_ck_e hF; obtain ⟨e_148, hF⟩ := hF
        replace hF := zq_bd hF; obtain ⟨v_146, e_147, hF⟩ := hF
        refine zq_cV (pc' := 64) C (c_X0_indexOf e_147) yv_X0_indexOf wd_138 zq_K0 e_148 dX2_measure_61 rfl rfl rfl ⟨Nat.le_of_ble_eq_true rfl, Nat.le_of_ble_eq_true rfl⟩ (Nat.le_of_ble_eq_true rfl) ⟨rfl, rfl⟩ ⟨Nat.le_of_ble_eq_true rfl, Nat.le_of_ble_eq_true rfl⟩ rfl ?_
        refine zq_istore (lv' := [(4, .int v_146), (0, .ref t), (1, .ref r1), (2, .int x2), (3, .int x3)]) (pc' := 66) C dX2_measure_64 rfl (by decide) rfl rfl ?_
        refine zq_iload (pc' := 68) C dX2_measure_66 rfl rfl ?_
        refine zq_if_lt (pc' := 71) C 81 dX2_measure_68 (by decide) rfl (fun c_149 => ?_) (fun c_149 => ?_)
        · have hF := (zq_ifp hF c_149)
          skip
          have hF := Option.some.inj hF
          subst hF
          exact hE _ _ _ _ (Nat.le_of_ble_eq_true rfl) (Nat.le_of_ble_eq_true rfl) dX2_measure_81
        · have hF := (zq_ifn hF c_149)
          refine zq_iload (pc' := 73) C dX2_measure_71 rfl rfl ?_
          refine zq_aload_n (pc' := 74) C dX2_measure_73 rfl rfl rfl ?_
          replace hF := zq_bd hF; obtain ⟨v_150, e_151, hF⟩ := hF
          refine zq_getR (j := 0) (pc' := 77) C zq_K2 zq_in2w (Or.inl wd_124) (by decide) rfl dX2_measure_74 rfl e_151 ?_
          replace hF := zq_bd hF; obtain ⟨v_152, e_153, hF⟩ := hF
          refine zq_alen (pc' := 78) C dX2_measure_77 rfl e_153 ?_
          refine zq_icmp_lt (pc' := 81) C 82 dX2_measure_78 (by decide) rfl (fun c_154 => ?_) (fun c_154 => ?_)
          · have hF := (zq_ifp hF c_154)
            skip
            refine zq_aload_n (pc' := 83) C dX2_measure_82 rfl rfl rfl ?_
            replace hF := zq_bd hF; obtain ⟨v_155, e_156, hF⟩ := hF
            refine zq_getR (j := 0) (pc' := 86) C zq_K2 zq_in2w (Or.inl wd_124) (by decide) rfl dX2_measure_83 rfl e_156 ?_
            refine zq_iload (pc' := 88) C dX2_measure_86 rfl rfl ?_
            refine zq_iconst (pc' := 89) C 0 dX2_measure_88 rfl (by decide) ?_
            replace hF := zq_bd hF; obtain ⟨h_157, e_158, hF⟩ := hF
            refine zq_iastore (pc' := 90) C dX2_measure_89 rfl e_158 ?_
            refine zq_aload_n (pc' := 91) C dX2_measure_90 rfl rfl rfl ?_
            replace hF := zq_bd hF; obtain ⟨v_159, e_160, hF⟩ := hF
            refine zq_getR (j := 1) (pc' := 94) C zq_K2 zq_in2w (Or.inl wd_125) (by decide) rfl dX2_measure_91 rfl e_160 ?_
            refine zq_iload (pc' := 96) C dX2_measure_94 rfl rfl ?_
            refine zq_iconst (pc' := 97) C 1 dX2_measure_96 rfl (by decide) ?_
            replace hF := zq_bd hF; obtain ⟨h_161, e_162, hF⟩ := hF
            refine zq_iastore (pc' := 98) C dX2_measure_97 rfl e_162 ?_
            refine zq_aload_n (pc' := 99) C dX2_measure_98 rfl rfl rfl ?_
            replace hF := zq_bd hF; obtain ⟨v_163, e_164, hF⟩ := hF
            refine zq_getR (j := 2) (pc' := 102) C zq_K2 zq_in2w (Or.inl wd_126) (by decide) rfl dX2_measure_99 rfl e_164 ?_
            refine zq_iconst (pc' := 103) C 0 dX2_measure_102 rfl (by decide) ?_
            refine zq_iload (pc' := 105) C dX2_measure_103 rfl rfl ?_
            replace hF := zq_bd hF; obtain ⟨h_165, e_166, hF⟩ := hF
            refine zq_iastore (pc' := 106) C dX2_measure_105 rfl e_166 ?_
            refine zq_iconst (pc' := 107) C 1 dX2_measure_106 rfl (by decide) ?_
            refine zq_istore (lv' := [(5, .int 1), (4, .int v_146), (0, .ref t), (1, .ref r1), (2, .int x2), (3, .int x3)]) (pc' := 109) C dX2_measure_107 rfl (by decide) rfl rfl ?_
            refine zq_iconst (pc' := 110) C 0 dX2_measure_109 rfl (by decide) ?_
            refine zq_istore (lv' := [(6, .int 0), (5, .int 1), (4, .int v_146), (0, .ref t), (1, .ref r1), (2, .int x2), (3, .int x3)]) (pc' := 112) C dX2_measure_110 rfl (by decide) rfl rfl ?_
            refine zq_sub [3, 1, 0] rfl ?_
            replace hF := zq_bd hF; obtain ⟨r_168, e_169, hF⟩ := hF
            refine zq_lpW (fun s_167 => zq_W X 0 0 s_167.2.2 112 [(0, .ref t), (5, .int s_167.1), (6, .int s_167.2.1)] []) (fun y_170 => zq_W X 0 0 y_170 150 [] []) e_169 (fun s_167 q_174 hF hrec_172 hex_173 => ?_) ?_
            · skip
              refine zq_iload (pc' := 114) C dX2_measure_112 rfl rfl ?_
              refine zq_iload (pc' := 116) C dX2_measure_114 rfl rfl ?_
              refine zq_icmp_ge (pc' := 119) C 150 dX2_measure_116 (by decide) rfl (fun c_175 => ?_) (fun c_175 => ?_)
              · have hF := (zq_ifp hF c_175)
                skip
                cases hF
                exact zq_sub [] rfl (hex_173 _ rfl)
              · have hF := (zq_ifn hF c_175)
                refine zq_iload (pc' := 121) C dX2_measure_119 rfl rfl ?_
                refine zq_aload_n (pc' := 122) C dX2_measure_121 rfl rfl rfl ?_
                replace hF := zq_bd hF; obtain ⟨v_176, e_177, hF⟩ := hF
                refine zq_getR (j := 2) (pc' := 125) C zq_K2 zq_in2w (Or.inl wd_126) (by decide) rfl dX2_measure_122 rfl e_177 ?_
                replace hF := zq_bd hF; obtain ⟨v_178, e_179, hF⟩ := hF
                refine zq_alen (pc' := 126) C dX2_measure_125 rfl e_179 ?_
                refine zq_icmp_ge (pc' := 129) C 150 dX2_measure_126 (by decide) rfl (fun c_180 => ?_) (fun c_180 => ?_)
                · have hF := (zq_ifp hF c_180)
                  skip
                  cases hF
                  exact zq_sub [] rfl (hex_173 _ rfl)
                · have hF := (zq_ifn hF c_180)
                  refine zq_aload_n (pc' := 130) C dX2_measure_129 rfl rfl rfl ?_
                  refine zq_aload_n (pc' := 131) C dX2_measure_130 rfl rfl rfl ?_
                  replace hF := zq_bd hF; obtain ⟨v_181, e_182, hF⟩ := hF
                  refine zq_getR (j := 2) (pc' := 134) C zq_K2 zq_in2w (Or.inl wd_126) (by decide) rfl dX2_measure_131 rfl e_182 ?_
                  refine zq_iload (pc' := 136) C dX2_measure_134 rfl rfl ?_
                  replace hF := zq_bd hF; obtain ⟨v_183, e_184, hF⟩ := hF
                  refine zq_iaload (pc' := 137) C dX2_measure_136 rfl e_184 ?_
                  refine zq_iload (pc' := 139) C dX2_measure_137 rfl rfl ?_
                  replace hF := zq_ck_e hF; obtain ⟨e_187, hF⟩ := hF
                  replace hF := zq_bd hF; obtain ⟨v_185, e_186, hF⟩ := hF
                  refine zq_cV (pc' := 142) C (c_X2_spreadOn e_186) yv_X2_spreadOn wd_141 zq_K2 e_187 dX2_measure_139 rfl rfl rfl ⟨Nat.le_of_ble_eq_true rfl, Nat.le_of_ble_eq_true rfl⟩ (Nat.le_of_ble_eq_true rfl) ⟨rfl, rfl⟩ ⟨Nat.le_of_ble_eq_true rfl, Nat.le_of_ble_eq_true rfl⟩ rfl ?_
                  refine zq_istore (lv' := [(5, .int v_185.1), (0, .ref t), (6, .int s_167.2.1)]) (pc' := 144) C dX2_measure_142 rfl (by decide) rfl rfl ?_
                  replace hF := zq_let_e hF; obtain ⟨v_188, e_189, hF⟩ := hF
                  refine zq_iinc (lv' := [(6, .int v_188), (5, .int v_185.1), (0, .ref t)]) (pc' := 147) C dX2_measure_144 rfl (by decide) 2 rfl e_189 rfl ?_
                  refine zq_goto C 112 dX2_measure_147 (by decide) ?_
                  cases hF
                  exact zq_sub [2, 1, 0] rfl (hrec_172 _ rfl)
            · skip
              obtain ⟨y_170, rfl⟩ : ∃ z9, z9 = r_168 := ⟨_, rfl⟩
              show zq_W X 0 0 y_170 150 [] []
              have hF := Option.some.inj hF
              subst hF
              exact hE _ _ _ _ (Nat.le_of_ble_eq_true rfl) (Nat.le_of_ble_eq_true rfl) dX2_measure_150
          · have hF := (zq_ifn hF c_154)
            have hF := Option.some.inj hF
            subst hF
            exact hE _ _ _ _ (Nat.le_of_ble_eq_true rfl) (Nat.le_of_ble_eq_true rfl) dX2_measure_81
      · have hF := (zq_ifp hF c_129)
        have hF := Option.some.inj hF
        subst hF
        exact hE _ _ _ _ (Nat.le_of_ble_eq_true rfl) (Nat.le_of_ble_eq_true rfl) dX2_measure_24
theorem c_X2_measure {h : zq_H} {t : Nat} {r1 : Nat} {x2 : Int32} {x3 : Int32} {out : zq_H} (hF : f_X2_measure h t r1 x2 x3 = some out) : zq_M none yX2_measure (Cond.code yX2_measure cX2_measure 7 none :: zq_all) rm_X2_measure [.ref t, .ref r1, .int x2, .int x3] h none out := zq_met2 (own := RX2) (by decide +kernel) rfl (Nat.le_of_ble_eq_true rfl) rfl rfl (fun X C T hn hE => v_X2_measure C T hn hF hE)
theorem yv_X2_measure : zq_calV yX2_measure RX2 cX2_measure 7 none 3 := ⟨by decide +kernel, wd_145, wd_289, wd_290, wd_144⟩
def f_X2_flipsTo (h : zq_H) (t : Nat) (x1 : Int32) : Option Int32 := (Option.bind (zq_gr h t 2 3) fun v_1 => (zq_ck h v_1 0 fun _ => (Option.bind (f_X0_indexOf h v_1 x1) fun v_3 => (if v_3 < 0 then some ((-1)) else (Option.bind (zq_gr h t 2 0) fun v_7 => (Option.bind (zq_an h v_7) fun v_9 => (if v_9 ≤ v_3 then some ((-1)) else (Option.bind (zq_gr h t 2 0) fun v_12 => (Option.bind (zq_ai h v_12 v_3) fun v_14 => some (v_14))))))))))
abbrev rm_X2_flipsTo : Room := { frames := 2, cells := 0, slots := 0, locals := 45 }
theorem dX2_flipsTo_0 : decode cX2_flipsTo 0 = .ok (.aload_n 0, 1) := by decide +kernel
theorem dX2_flipsTo_1 : decode cX2_flipsTo 1 = .ok (.getfield 21, 3) := by decide +kernel
theorem dX2_flipsTo_4 : decode cX2_flipsTo 4 = .ok (.iload_n 1, 1) := by decide +kernel
theorem dX2_flipsTo_5 : decode cX2_flipsTo 5 = .ok (.invokevirtual 38, 3) := by decide +kernel
theorem dX2_flipsTo_8 : decode cX2_flipsTo 8 = .ok (.istore_n 2, 1) := by decide +kernel
theorem dX2_flipsTo_9 : decode cX2_flipsTo 9 = .ok (.iload_n 2, 1) := by decide +kernel
theorem dX2_flipsTo_10 : decode cX2_flipsTo 10 = .ok (.ifCond .lt 21, 3) := by decide +kernel
theorem dX2_flipsTo_13 : decode cX2_flipsTo 13 = .ok (.iload_n 2, 1) := by decide +kernel
theorem dX2_flipsTo_14 : decode cX2_flipsTo 14 = .ok (.aload_n 0, 1) := by decide +kernel
theorem dX2_flipsTo_15 : decode cX2_flipsTo 15 = .ok (.getfield 9, 3) := by decide +kernel
theorem dX2_flipsTo_18 : decode cX2_flipsTo 18 = .ok (.arraylength, 1) := by decide +kernel
theorem dX2_flipsTo_19 : decode cX2_flipsTo 19 = .ok (.if_icmp .ge 12, 3) := by decide +kernel
theorem dX2_flipsTo_22 : decode cX2_flipsTo 22 = .ok (.aload_n 0, 1) := by decide +kernel
theorem dX2_flipsTo_23 : decode cX2_flipsTo 23 = .ok (.getfield 9, 3) := by decide +kernel
theorem dX2_flipsTo_26 : decode cX2_flipsTo 26 = .ok (.iload_n 2, 1) := by decide +kernel
theorem dX2_flipsTo_27 : decode cX2_flipsTo 27 = .ok (.iaload, 1) := by decide +kernel
theorem dX2_flipsTo_28 : decode cX2_flipsTo 28 = .ok (.goto 4, 3) := by decide +kernel
theorem dX2_flipsTo_31 : decode cX2_flipsTo 31 = .ok (.iconst (-1), 1) := by decide +kernel
theorem dX2_flipsTo_32 : decode cX2_flipsTo 32 = .ok (.ireturn, 1) := by decide +kernel
set_option maxRecDepth 100000 in
set_option maxHeartbeats 4000000 in
theorem v_X2_flipsTo {X : zq_X} (C : zq_C X RX2 cX2_flipsTo 3 zq_all rm_X2_flipsTo) {h : zq_H} {t : Nat} {x1 : Int32} (T : zq_T X none) (hn : X.2.2.2.2.2.2.2.2.1.name = yX2_flipsTo.name) {out : Int32} (hF : f_X2_flipsTo h t x1 = some out) (hE : zq_End X cX2_flipsTo 0 0 (some (.int out)) h) : zq_W X 0 0 h 0 [(0, .ref t), (1, .int x1)] [] := by
  unfold f_X2_flipsTo at hF
  refine zq_aload_n (pc' := 1) C dX2_flipsTo_0 rfl rfl rfl ?_
  replace hF := zq_bd hF; obtain ⟨v_1, e_2, hF⟩ := hF
  refine zq_getR (j := 3) (pc' := 4) C zq_K2 zq_in2w (Or.inl wd_127) (by decide) rfl dX2_flipsTo_1 rfl e_2 ?_
  refine zq_iload_n (pc' := 5) C dX2_flipsTo_4 rfl rfl rfl ?_
  replace hF := zq_ck_e hF; obtain ⟨e_5, hF⟩ := hF
  replace hF := zq_bd hF; obtain ⟨v_3, e_4, hF⟩ := hF
  refine zq_cV (pc' := 8) C (c_X0_indexOf e_4) yv_X0_indexOf wd_138 zq_K0 e_5 dX2_flipsTo_5 rfl rfl rfl ⟨Nat.le_of_ble_eq_true rfl, Nat.le_of_ble_eq_true rfl⟩ (Nat.le_of_ble_eq_true rfl) ⟨rfl, rfl⟩ ⟨Nat.le_of_ble_eq_true rfl, Nat.le_of_ble_eq_true rfl⟩ rfl ?_
  refine zq_istore_n (lv' := [(2, .int v_3), (0, .ref t), (1, .int x1)]) (pc' := 9) C dX2_flipsTo_8 rfl rfl (by decide) rfl rfl ?_
  refine zq_iload_n (pc' := 10) C dX2_flipsTo_9 rfl rfl rfl ?_
  refine zq_if_lt (pc' := 13) C 31 dX2_flipsTo_10 (by decide) rfl (fun c_6 => ?_) (fun c_6 => ?_)
  · have hF := (zq_ifp hF c_6)
    skip
    refine zq_iconst (pc' := 32) C (-1) dX2_flipsTo_31 rfl (by decide) ?_
    have hF := Option.some.inj hF
    subst hF
    exact hE _ _ _ _ (Nat.le_of_ble_eq_true rfl) (Nat.le_of_ble_eq_true rfl) dX2_flipsTo_32
  · have hF := (zq_ifn hF c_6)
    refine zq_iload_n (pc' := 14) C dX2_flipsTo_13 rfl rfl rfl ?_
    refine zq_aload_n (pc' := 15) C dX2_flipsTo_14 rfl rfl rfl ?_
    replace hF := zq_bd hF; obtain ⟨v_7, e_8, hF⟩ := hF
    refine zq_getR (j := 0) (pc' := 18) C zq_K2 zq_in2w (Or.inl wd_124) (by decide) rfl dX2_flipsTo_15 rfl e_8 ?_
    replace hF := zq_bd hF; obtain ⟨v_9, e_10, hF⟩ := hF
    refine zq_alen (pc' := 19) C dX2_flipsTo_18 rfl e_10 ?_
    refine zq_icmp_ge (pc' := 22) C 31 dX2_flipsTo_19 (by decide) rfl (fun c_11 => ?_) (fun c_11 => ?_)
    · have hF := (zq_ifp hF c_11)
      skip
      refine zq_iconst (pc' := 32) C (-1) dX2_flipsTo_31 rfl (by decide) ?_
      have hF := Option.some.inj hF
      subst hF
      exact hE _ _ _ _ (Nat.le_of_ble_eq_true rfl) (Nat.le_of_ble_eq_true rfl) dX2_flipsTo_32
    · have hF := (zq_ifn hF c_11)
      refine zq_aload_n (pc' := 23) C dX2_flipsTo_22 rfl rfl rfl ?_
      replace hF := zq_bd hF; obtain ⟨v_12, e_13, hF⟩ := hF
      refine zq_getR (j := 0) (pc' := 26) C zq_K2 zq_in2w (Or.inl wd_124) (by decide) rfl dX2_flipsTo_23 rfl e_13 ?_
      refine zq_iload_n (pc' := 27) C dX2_flipsTo_26 rfl rfl rfl ?_
      replace hF := zq_bd hF; obtain ⟨v_14, e_15, hF⟩ := hF
      refine zq_iaload (pc' := 28) C dX2_flipsTo_27 rfl e_15 ?_
      refine zq_goto C 32 dX2_flipsTo_28 (by decide) ?_
      have hF := Option.some.inj hF
      subst hF
      exact hE _ _ _ _ (Nat.le_of_ble_eq_true rfl) (Nat.le_of_ble_eq_true rfl) dX2_flipsTo_32
theorem c_X2_flipsTo {h : zq_H} {t : Nat} {x1 : Int32} {out : Int32} (hF : f_X2_flipsTo h t x1 = some out) : zq_M none yX2_flipsTo (Cond.code yX2_flipsTo cX2_flipsTo 3 (some .int) :: zq_all) rm_X2_flipsTo [.ref t, .int x1] h (some (.int out)) h := zq_met2 (own := RX2) (by decide +kernel) rfl (Nat.le_of_ble_eq_true rfl) rfl ⟨.int, rfl, rfl⟩ (fun X C T hn hE => v_X2_flipsTo C T hn hF hE)
theorem yv_X2_flipsTo : zq_calV yX2_flipsTo RX2 cX2_flipsTo 3 (some .int) 1 := ⟨by decide +kernel, wd_146, wd_299, wd_300, wd_144⟩
def f_X2_waysTo (h : zq_H) (t : Nat) (x1 : Int32) : Option Int32 := (Option.bind (zq_gr h t 2 3) fun v_1 => (zq_ck h v_1 0 fun _ => (Option.bind (f_X0_indexOf h v_1 x1) fun v_3 => (if v_3 < 0 then some (0) else (Option.bind (zq_gr h t 2 1) fun v_7 => (Option.bind (zq_an h v_7) fun v_9 => (if v_9 ≤ v_3 then some (0) else (Option.bind (zq_gr h t 2 1) fun v_12 => (Option.bind (zq_ai h v_12 v_3) fun v_14 => some (v_14))))))))))
abbrev rm_X2_waysTo : Room := { frames := 2, cells := 0, slots := 0, locals := 45 }
theorem dX2_waysTo_0 : decode cX2_waysTo 0 = .ok (.aload_n 0, 1) := by decide +kernel
theorem dX2_waysTo_1 : decode cX2_waysTo 1 = .ok (.getfield 21, 3) := by decide +kernel
theorem dX2_waysTo_4 : decode cX2_waysTo 4 = .ok (.iload_n 1, 1) := by decide +kernel
theorem dX2_waysTo_5 : decode cX2_waysTo 5 = .ok (.invokevirtual 38, 3) := by decide +kernel
theorem dX2_waysTo_8 : decode cX2_waysTo 8 = .ok (.istore_n 2, 1) := by decide +kernel
theorem dX2_waysTo_9 : decode cX2_waysTo 9 = .ok (.iload_n 2, 1) := by decide +kernel
theorem dX2_waysTo_10 : decode cX2_waysTo 10 = .ok (.ifCond .lt 21, 3) := by decide +kernel
theorem dX2_waysTo_13 : decode cX2_waysTo 13 = .ok (.iload_n 2, 1) := by decide +kernel
theorem dX2_waysTo_14 : decode cX2_waysTo 14 = .ok (.aload_n 0, 1) := by decide +kernel
theorem dX2_waysTo_15 : decode cX2_waysTo 15 = .ok (.getfield 15, 3) := by decide +kernel
theorem dX2_waysTo_18 : decode cX2_waysTo 18 = .ok (.arraylength, 1) := by decide +kernel
theorem dX2_waysTo_19 : decode cX2_waysTo 19 = .ok (.if_icmp .ge 12, 3) := by decide +kernel
theorem dX2_waysTo_22 : decode cX2_waysTo 22 = .ok (.aload_n 0, 1) := by decide +kernel
theorem dX2_waysTo_23 : decode cX2_waysTo 23 = .ok (.getfield 15, 3) := by decide +kernel
theorem dX2_waysTo_26 : decode cX2_waysTo 26 = .ok (.iload_n 2, 1) := by decide +kernel
theorem dX2_waysTo_27 : decode cX2_waysTo 27 = .ok (.iaload, 1) := by decide +kernel
theorem dX2_waysTo_28 : decode cX2_waysTo 28 = .ok (.goto 4, 3) := by decide +kernel
theorem dX2_waysTo_31 : decode cX2_waysTo 31 = .ok (.iconst 0, 1) := by decide +kernel
theorem dX2_waysTo_32 : decode cX2_waysTo 32 = .ok (.ireturn, 1) := by decide +kernel
set_option maxRecDepth 100000 in
set_option maxHeartbeats 4000000 in
theorem v_X2_waysTo {X : zq_X} (C : zq_C X RX2 cX2_waysTo 3 zq_all rm_X2_waysTo) {h : zq_H} {t : Nat} {x1 : Int32} (T : zq_T X none) (hn : X.2.2.2.2.2.2.2.2.1.name = yX2_waysTo.name) {out : Int32} (hF : f_X2_waysTo h t x1 = some out) (hE : zq_End X cX2_waysTo 0 0 (some (.int out)) h) : zq_W X 0 0 h 0 [(0, .ref t), (1, .int x1)] [] := by
  unfold f_X2_waysTo at hF
  refine zq_aload_n (pc' := 1) C dX2_waysTo_0 rfl rfl rfl ?_
  replace hF := zq_bd hF; obtain ⟨v_1, e_2, hF⟩ := hF
  refine zq_getR (j := 3) (pc' := 4) C zq_K2 zq_in2w (Or.inl wd_127) (by decide) rfl dX2_waysTo_1 rfl e_2 ?_
  refine zq_iload_n (pc' := 5) C dX2_waysTo_4 rfl rfl rfl ?_
  replace hF := zq_ck_e hF; obtain ⟨e_5, hF⟩ := hF
  replace hF := zq_bd hF; obtain ⟨v_3, e_4, hF⟩ := hF
  refine zq_cV (pc' := 8) C (c_X0_indexOf e_4) yv_X0_indexOf wd_138 zq_K0 e_5 dX2_waysTo_5 rfl rfl rfl ⟨Nat.le_of_ble_eq_true rfl, Nat.le_of_ble_eq_true rfl⟩ (Nat.le_of_ble_eq_true rfl) ⟨rfl, rfl⟩ ⟨Nat.le_of_ble_eq_true rfl, Nat.le_of_ble_eq_true rfl⟩ rfl ?_
  refine zq_istore_n (lv' := [(2, .int v_3), (0, .ref t), (1, .int x1)]) (pc' := 9) C dX2_waysTo_8 rfl rfl (by decide) rfl rfl ?_
  refine zq_iload_n (pc' := 10) C dX2_waysTo_9 rfl rfl rfl ?_
  refine zq_if_lt (pc' := 13) C 31 dX2_waysTo_10 (by decide) rfl (fun c_6 => ?_) (fun c_6 => ?_)
  · have hF := (zq_ifp hF c_6)
    skip
    refine zq_iconst (pc' := 32) C 0 dX2_waysTo_31 rfl (by decide) ?_
    have hF := Option.some.inj hF
    subst hF
    exact hE _ _ _ _ (Nat.le_of_ble_eq_true rfl) (Nat.le_of_ble_eq_true rfl) dX2_waysTo_32
  · have hF := (zq_ifn hF c_6)
    refine zq_iload_n (pc' := 14) C dX2_waysTo_13 rfl rfl rfl ?_
    refine zq_aload_n (pc' := 15) C dX2_waysTo_14 rfl rfl rfl ?_
    replace hF := zq_bd hF; obtain ⟨v_7, e_8, hF⟩ := hF
    refine zq_getR (j := 1) (pc' := 18) C zq_K2 zq_in2w (Or.inl wd_125) (by decide) rfl dX2_waysTo_15 rfl e_8 ?_
    replace hF := zq_bd hF; obtain ⟨v_9, e_10, hF⟩ := hF
    refine zq_alen (pc' := 19) C dX2_waysTo_18 rfl e_10 ?_
    refine zq_icmp_ge (pc' := 22) C 31 dX2_waysTo_19 (by decide) rfl (fun c_11 => ?_) (fun c_11 => ?_)
    · have hF := (zq_ifp hF c_11)
      skip
      refine zq_iconst (pc' := 32) C 0 dX2_waysTo_31 rfl (by decide) ?_
      have hF := Option.some.inj hF
      subst hF
      exact hE _ _ _ _ (Nat.le_of_ble_eq_true rfl) (Nat.le_of_ble_eq_true rfl) dX2_waysTo_32
    · have hF := (zq_ifn hF c_11)
      refine zq_aload_n (pc' := 23) C dX2_waysTo_22 rfl rfl rfl ?_
      replace hF := zq_bd hF; obtain ⟨v_12, e_13, hF⟩ := hF
      refine zq_getR (j := 1) (pc' := 26) C zq_K2 zq_in2w (Or.inl wd_125) (by decide) rfl dX2_waysTo_23 rfl e_13 ?_
      refine zq_iload_n (pc' := 27) C dX2_waysTo_26 rfl rfl rfl ?_
      replace hF := zq_bd hF; obtain ⟨v_14, e_15, hF⟩ := hF
      refine zq_iaload (pc' := 28) C dX2_waysTo_27 rfl e_15 ?_
      refine zq_goto C 32 dX2_waysTo_28 (by decide) ?_
      have hF := Option.some.inj hF
      subst hF
      exact hE _ _ _ _ (Nat.le_of_ble_eq_true rfl) (Nat.le_of_ble_eq_true rfl) dX2_waysTo_32
theorem c_X2_waysTo {h : zq_H} {t : Nat} {x1 : Int32} {out : Int32} (hF : f_X2_waysTo h t x1 = some out) : zq_M none yX2_waysTo (Cond.code yX2_waysTo cX2_waysTo 3 (some .int) :: zq_all) rm_X2_waysTo [.ref t, .int x1] h (some (.int out)) h := zq_met2 (own := RX2) (by decide +kernel) rfl (Nat.le_of_ble_eq_true rfl) rfl ⟨.int, rfl, rfl⟩ (fun X C T hn hE => v_X2_waysTo C T hn hF hE)
theorem yv_X2_waysTo : zq_calV yX2_waysTo RX2 cX2_waysTo 3 (some .int) 1 := ⟨by decide +kernel, wd_147, wd_389, wd_390, wd_144⟩
def f_X2_farthest (h : zq_H) (t : Nat) : Option Int32 := ((zq_lp (σ := Int32 × Int32) (ρ := Int32) (fun s_1 => (Option.bind (zq_gr h t 2 0) fun v_9 => (Option.bind (zq_an h v_9) fun v_11 => (if v_11 ≤ s_1.2 then some (.inr s_1.1) else (Option.bind (zq_gr h t 2 0) fun v_14 => (Option.bind (zq_ai h v_14 s_1.2) fun v_16 => (zq_let (if s_1.1 < v_16 then v_16 else s_1.1) fun v_18 => (zq_let (s_1.2 + 1) fun v_20 => some (.inl (v_18, v_20)))))))))) zq_N (0, 0)).bind (fun y_4 : Int32 => some (y_4)))
abbrev rm_X2_farthest : Room := { frames := 1, cells := 0, slots := 0, locals := 24 }
theorem dX2_farthest_0 : decode cX2_farthest 0 = .ok (.iconst 0, 1) := by decide +kernel
theorem dX2_farthest_1 : decode cX2_farthest 1 = .ok (.istore_n 1, 1) := by decide +kernel
theorem dX2_farthest_2 : decode cX2_farthest 2 = .ok (.iconst 0, 1) := by decide +kernel
theorem dX2_farthest_3 : decode cX2_farthest 3 = .ok (.istore_n 2, 1) := by decide +kernel
theorem dX2_farthest_4 : decode cX2_farthest 4 = .ok (.iload_n 2, 1) := by decide +kernel
theorem dX2_farthest_5 : decode cX2_farthest 5 = .ok (.aload_n 0, 1) := by decide +kernel
theorem dX2_farthest_6 : decode cX2_farthest 6 = .ok (.getfield 9, 3) := by decide +kernel
theorem dX2_farthest_9 : decode cX2_farthest 9 = .ok (.arraylength, 1) := by decide +kernel
theorem dX2_farthest_10 : decode cX2_farthest 10 = .ok (.if_icmp .ge 20, 3) := by decide +kernel
theorem dX2_farthest_13 : decode cX2_farthest 13 = .ok (.iload_n 1, 1) := by decide +kernel
theorem dX2_farthest_14 : decode cX2_farthest 14 = .ok (.aload_n 0, 1) := by decide +kernel
theorem dX2_farthest_15 : decode cX2_farthest 15 = .ok (.getfield 9, 3) := by decide +kernel
theorem dX2_farthest_18 : decode cX2_farthest 18 = .ok (.iload_n 2, 1) := by decide +kernel
theorem dX2_farthest_19 : decode cX2_farthest 19 = .ok (.iaload, 1) := by decide +kernel
theorem dX2_farthest_20 : decode cX2_farthest 20 = .ok (.invokestatic 57, 3) := by decide +kernel
theorem dX2_farthest_23 : decode cX2_farthest 23 = .ok (.istore_n 1, 1) := by decide +kernel
theorem dX2_farthest_24 : decode cX2_farthest 24 = .ok (.iinc 2 1, 3) := by decide +kernel
theorem dX2_farthest_27 : decode cX2_farthest 27 = .ok (.goto (-23), 3) := by decide +kernel
theorem dX2_farthest_30 : decode cX2_farthest 30 = .ok (.iload_n 1, 1) := by decide +kernel
theorem dX2_farthest_31 : decode cX2_farthest 31 = .ok (.ireturn, 1) := by decide +kernel
set_option maxRecDepth 100000 in
set_option maxHeartbeats 4000000 in
theorem v_X2_farthest {X : zq_X} (C : zq_C X RX2 cX2_farthest 3 zq_all rm_X2_farthest) {h : zq_H} {t : Nat} (T : zq_T X none) (hn : X.2.2.2.2.2.2.2.2.1.name = yX2_farthest.name) {out : Int32} (hF : f_X2_farthest h t = some out) (hE : zq_End X cX2_farthest 0 0 (some (.int out)) h) : zq_W X 0 0 h 0 [(0, .ref t)] [] := by
  unfold f_X2_farthest at hF
  refine zq_iconst (pc' := 1) C 0 dX2_farthest_0 rfl (by decide) ?_
  refine zq_istore_n (lv' := [(1, .int 0), (0, .ref t)]) (pc' := 2) C dX2_farthest_1 rfl rfl (by decide) rfl rfl ?_
  refine zq_iconst (pc' := 3) C 0 dX2_farthest_2 rfl (by decide) ?_
  refine zq_istore_n (lv' := [(2, .int 0), (1, .int 0), (0, .ref t)]) (pc' := 4) C dX2_farthest_3 rfl rfl (by decide) rfl rfl ?_
  refine zq_sub [2, 1, 0] rfl ?_
  replace hF := zq_bd hF; obtain ⟨r_2, e_3, hF⟩ := hF
  refine zq_lpW (fun s_1 => zq_W X 0 0 h 4 [(0, .ref t), (1, .int s_1.1), (2, .int s_1.2)] []) (fun y_4 => zq_W X 0 0 h 30 [(1, .int y_4)] []) e_3 (fun s_1 q_8 hF hrec_6 hex_7 => ?_) ?_
  · skip
    refine zq_iload_n (pc' := 5) C dX2_farthest_4 rfl rfl rfl ?_
    refine zq_aload_n (pc' := 6) C dX2_farthest_5 rfl rfl rfl ?_
    replace hF := zq_bd hF; obtain ⟨v_9, e_10, hF⟩ := hF
    refine zq_getR (j := 0) (pc' := 9) C zq_K2 zq_in2w (Or.inl wd_124) (by decide) rfl dX2_farthest_6 rfl e_10 ?_
    replace hF := zq_bd hF; obtain ⟨v_11, e_12, hF⟩ := hF
    refine zq_alen (pc' := 10) C dX2_farthest_9 rfl e_12 ?_
    refine zq_icmp_ge (pc' := 13) C 30 dX2_farthest_10 (by decide) rfl (fun c_13 => ?_) (fun c_13 => ?_)
    · have hF := (zq_ifp hF c_13)
      skip
      cases hF
      exact zq_sub [1] rfl (hex_7 _ rfl)
    · have hF := (zq_ifn hF c_13)
      refine zq_iload_n (pc' := 14) C dX2_farthest_13 rfl rfl rfl ?_
      refine zq_aload_n (pc' := 15) C dX2_farthest_14 rfl rfl rfl ?_
      replace hF := zq_bd hF; obtain ⟨v_14, e_15, hF⟩ := hF
      refine zq_getR (j := 0) (pc' := 18) C zq_K2 zq_in2w (Or.inl wd_124) (by decide) rfl dX2_farthest_15 rfl e_15 ?_
      refine zq_iload_n (pc' := 19) C dX2_farthest_18 rfl rfl rfl ?_
      replace hF := zq_bd hF; obtain ⟨v_16, e_17, hF⟩ := hF
      refine zq_iaload (pc' := 20) C dX2_farthest_19 rfl e_17 ?_
      refine zq_mmax (pc' := 23) C wd_149 wd_118 wd_107 wd_119 dX2_farthest_20 rfl (by decide) (Nat.le_of_ble_eq_true rfl) ⟨Nat.le_of_ble_eq_true rfl, Nat.le_of_ble_eq_true rfl⟩ ?_
      replace hF := zq_let_e hF; obtain ⟨v_18, e_19, hF⟩ := hF
      refine zq_istore_n (lv' := [(1, .int v_18), (0, .ref t), (2, .int s_1.2)]) (pc' := 24) C dX2_farthest_23 rfl rfl (by decide) e_19 rfl ?_
      replace hF := zq_let_e hF; obtain ⟨v_20, e_21, hF⟩ := hF
      refine zq_iinc (lv' := [(2, .int v_20), (1, .int v_18), (0, .ref t)]) (pc' := 27) C dX2_farthest_24 rfl (by decide) 2 rfl e_21 rfl ?_
      refine zq_goto C 4 dX2_farthest_27 (by decide) ?_
      cases hF
      exact zq_sub [2, 1, 0] rfl (hrec_6 _ rfl)
  · skip
    obtain ⟨y_4, rfl⟩ : ∃ z9, z9 = r_2 := ⟨_, rfl⟩
    show zq_W X 0 0 h 30 [(1, .int y_4)] []
    refine zq_iload_n (pc' := 31) C dX2_farthest_30 rfl rfl rfl ?_
    have hF := Option.some.inj hF
    subst hF
    exact hE _ _ _ _ (Nat.le_of_ble_eq_true rfl) (Nat.le_of_ble_eq_true rfl) dX2_farthest_31
theorem c_X2_farthest {h : zq_H} {t : Nat} {out : Int32} (hF : f_X2_farthest h t = some out) : zq_M none yX2_farthest (Cond.code yX2_farthest cX2_farthest 3 (some .int) :: zq_all) rm_X2_farthest [.ref t] h (some (.int out)) h := zq_met2 (own := RX2) (by decide +kernel) rfl (Nat.le_of_ble_eq_true rfl) rfl ⟨.int, rfl, rfl⟩ (fun X C T hn hE => v_X2_farthest C T hn hF hE)
theorem yv_X2_farthest : zq_calV yX2_farthest RX2 cX2_farthest 3 (some .int) 0 := ⟨by decide +kernel, wd_148, wd_152, wd_153, wd_144⟩
def f_X2_leastFarthest (h : zq_H) (t : Nat) : Option Int32 := (zq_ck h t 2 fun _ => (Option.bind (f_X2_farthest h t) fun v_1 => ((zq_lp (σ := Int32 × Int32) (ρ := Int32) (fun s_4 => (Option.bind (zq_gr h t 2 0) fun v_12 => (Option.bind (zq_an h v_12) fun v_14 => (if v_14 ≤ s_4.2 then some (.inr s_4.1) else (Option.bind (zq_gr h t 2 3) fun v_17 => (zq_ck h v_17 0 fun _ => (Option.bind (f_X0_maskAt h v_17 s_4.2) fun v_19 => (Option.bind (zq_gr h t 2 0) fun v_22 => (Option.bind (zq_ai h v_22 s_4.2) fun v_24 => (if v_24 = v_1 then (if s_4.1 = (-1) then (zq_let (s_4.2 + 1) fun v_30 => some (.inl (v_19, v_30))) else (if s_4.1 ≤ v_19 then (zq_let (s_4.2 + 1) fun v_33 => some (.inl (s_4.1, v_33))) else (zq_let (s_4.2 + 1) fun v_35 => some (.inl (v_19, v_35))))) else (zq_let (s_4.2 + 1) fun v_27 => some (.inl (s_4.1, v_27))))))))))))) zq_N ((-1), 0)).bind (fun y_7 : Int32 => some (y_7)))))
abbrev rm_X2_leastFarthest : Room := { frames := 2, cells := 0, slots := 0, locals := 46 }
theorem dX2_leastFarthest_0 : decode cX2_leastFarthest 0 = .ok (.aload_n 0, 1) := by decide +kernel
theorem dX2_leastFarthest_1 : decode cX2_leastFarthest 1 = .ok (.invokevirtual 62, 3) := by decide +kernel
theorem dX2_leastFarthest_4 : decode cX2_leastFarthest 4 = .ok (.istore_n 1, 1) := by decide +kernel
theorem dX2_leastFarthest_5 : decode cX2_leastFarthest 5 = .ok (.iconst (-1), 1) := by decide +kernel
theorem dX2_leastFarthest_6 : decode cX2_leastFarthest 6 = .ok (.istore_n 2, 1) := by decide +kernel
theorem dX2_leastFarthest_7 : decode cX2_leastFarthest 7 = .ok (.iconst 0, 1) := by decide +kernel
theorem dX2_leastFarthest_8 : decode cX2_leastFarthest 8 = .ok (.istore_n 3, 1) := by decide +kernel
theorem dX2_leastFarthest_9 : decode cX2_leastFarthest 9 = .ok (.iload_n 3, 1) := by decide +kernel
theorem dX2_leastFarthest_10 : decode cX2_leastFarthest 10 = .ok (.aload_n 0, 1) := by decide +kernel
theorem dX2_leastFarthest_11 : decode cX2_leastFarthest 11 = .ok (.getfield 9, 3) := by decide +kernel
theorem dX2_leastFarthest_14 : decode cX2_leastFarthest 14 = .ok (.arraylength, 1) := by decide +kernel
theorem dX2_leastFarthest_15 : decode cX2_leastFarthest 15 = .ok (.if_icmp .ge 43, 3) := by decide +kernel
theorem dX2_leastFarthest_18 : decode cX2_leastFarthest 18 = .ok (.aload_n 0, 1) := by decide +kernel
theorem dX2_leastFarthest_19 : decode cX2_leastFarthest 19 = .ok (.getfield 21, 3) := by decide +kernel
theorem dX2_leastFarthest_22 : decode cX2_leastFarthest 22 = .ok (.iload_n 3, 1) := by decide +kernel
theorem dX2_leastFarthest_23 : decode cX2_leastFarthest 23 = .ok (.invokevirtual 48, 3) := by decide +kernel
theorem dX2_leastFarthest_26 : decode cX2_leastFarthest 26 = .ok (.istore 4, 2) := by decide +kernel
theorem dX2_leastFarthest_28 : decode cX2_leastFarthest 28 = .ok (.aload_n 0, 1) := by decide +kernel
theorem dX2_leastFarthest_29 : decode cX2_leastFarthest 29 = .ok (.getfield 9, 3) := by decide +kernel
theorem dX2_leastFarthest_32 : decode cX2_leastFarthest 32 = .ok (.iload_n 3, 1) := by decide +kernel
theorem dX2_leastFarthest_33 : decode cX2_leastFarthest 33 = .ok (.iaload, 1) := by decide +kernel
theorem dX2_leastFarthest_34 : decode cX2_leastFarthest 34 = .ok (.iload_n 1, 1) := by decide +kernel
theorem dX2_leastFarthest_35 : decode cX2_leastFarthest 35 = .ok (.if_icmp .ne 17, 3) := by decide +kernel
theorem dX2_leastFarthest_38 : decode cX2_leastFarthest 38 = .ok (.iload_n 2, 1) := by decide +kernel
theorem dX2_leastFarthest_39 : decode cX2_leastFarthest 39 = .ok (.iconst (-1), 1) := by decide +kernel
theorem dX2_leastFarthest_40 : decode cX2_leastFarthest 40 = .ok (.if_icmp .eq 9, 3) := by decide +kernel
theorem dX2_leastFarthest_43 : decode cX2_leastFarthest 43 = .ok (.iload 4, 2) := by decide +kernel
theorem dX2_leastFarthest_45 : decode cX2_leastFarthest 45 = .ok (.iload_n 2, 1) := by decide +kernel
theorem dX2_leastFarthest_46 : decode cX2_leastFarthest 46 = .ok (.if_icmp .ge 6, 3) := by decide +kernel
theorem dX2_leastFarthest_49 : decode cX2_leastFarthest 49 = .ok (.iload 4, 2) := by decide +kernel
theorem dX2_leastFarthest_51 : decode cX2_leastFarthest 51 = .ok (.istore_n 2, 1) := by decide +kernel
theorem dX2_leastFarthest_52 : decode cX2_leastFarthest 52 = .ok (.iinc 3 1, 3) := by decide +kernel
theorem dX2_leastFarthest_55 : decode cX2_leastFarthest 55 = .ok (.goto (-46), 3) := by decide +kernel
theorem dX2_leastFarthest_58 : decode cX2_leastFarthest 58 = .ok (.iload_n 2, 1) := by decide +kernel
theorem dX2_leastFarthest_59 : decode cX2_leastFarthest 59 = .ok (.ireturn, 1) := by decide +kernel
set_option maxRecDepth 100000 in
set_option maxHeartbeats 4000000 in
theorem v_X2_leastFarthest {X : zq_X} (C : zq_C X RX2 cX2_leastFarthest 5 zq_all rm_X2_leastFarthest) {h : zq_H} {t : Nat} (T : zq_T X none) (hn : X.2.2.2.2.2.2.2.2.1.name = yX2_leastFarthest.name) {out : Int32} (hF : f_X2_leastFarthest h t = some out) (hE : zq_End X cX2_leastFarthest 0 0 (some (.int out)) h) : zq_W X 0 0 h 0 [(0, .ref t)] [] := by
  unfold f_X2_leastFarthest at hF
  refine zq_aload_n (pc' := 1) C dX2_leastFarthest_0 rfl rfl rfl ?_
  replace hF := zq_ck_e hF; obtain ⟨e_3, hF⟩ := hF
  replace hF := zq_bd hF; obtain ⟨v_1, e_2, hF⟩ := hF
  refine zq_cV (pc' := 4) C (c_X2_farthest e_2) yv_X2_farthest wd_151 zq_K2 e_3 dX2_leastFarthest_1 rfl rfl rfl ⟨Nat.le_of_ble_eq_true rfl, Nat.le_of_ble_eq_true rfl⟩ (Nat.le_of_ble_eq_true rfl) ⟨rfl, rfl⟩ ⟨Nat.le_of_ble_eq_true rfl, Nat.le_of_ble_eq_true rfl⟩ rfl ?_
  refine zq_istore_n (lv' := [(1, .int v_1), (0, .ref t)]) (pc' := 5) C dX2_leastFarthest_4 rfl rfl (by decide) rfl rfl ?_
  refine zq_iconst (pc' := 6) C (-1) dX2_leastFarthest_5 rfl (by decide) ?_
  refine zq_istore_n (lv' := [(2, .int (-1)), (1, .int v_1), (0, .ref t)]) (pc' := 7) C dX2_leastFarthest_6 rfl rfl (by decide) rfl rfl ?_
  refine zq_iconst (pc' := 8) C 0 dX2_leastFarthest_7 rfl (by decide) ?_
  refine zq_istore_n (lv' := [(3, .int 0), (2, .int (-1)), (1, .int v_1), (0, .ref t)]) (pc' := 9) C dX2_leastFarthest_8 rfl rfl (by decide) rfl rfl ?_
  refine zq_sub [3, 2, 1, 0] rfl ?_
  replace hF := zq_bd hF; obtain ⟨r_5, e_6, hF⟩ := hF
  refine zq_lpW (fun s_4 => zq_W X 0 0 h 9 [(0, .ref t), (1, .int v_1), (2, .int s_4.1), (3, .int s_4.2)] []) (fun y_7 => zq_W X 0 0 h 58 [(2, .int y_7)] []) e_6 (fun s_4 q_11 hF hrec_9 hex_10 => ?_) ?_
  · skip
    refine zq_iload_n (pc' := 10) C dX2_leastFarthest_9 rfl rfl rfl ?_
    refine zq_aload_n (pc' := 11) C dX2_leastFarthest_10 rfl rfl rfl ?_
    replace hF := zq_bd hF; obtain ⟨v_12, e_13, hF⟩ := hF
    refine zq_getR (j := 0) (pc' := 14) C zq_K2 zq_in2w (Or.inl wd_124) (by decide) rfl dX2_leastFarthest_11 rfl e_13 ?_
    replace hF := zq_bd hF; obtain ⟨v_14, e_15, hF⟩ := hF
    refine zq_alen (pc' := 15) C dX2_leastFarthest_14 rfl e_15 ?_
    refine zq_icmp_ge (pc' := 18) C 58 dX2_leastFarthest_15 (by decide) rfl (fun c_16 => ?_) (fun c_16 => ?_)
    · have hF := (zq_ifp hF c_16)
      skip
      cases hF
      exact zq_sub [2] rfl (hex_10 _ rfl)
    · have hF := (zq_ifn hF c_16)
      refine zq_aload_n (pc' := 19) C dX2_leastFarthest_18 rfl rfl rfl ?_
      replace hF := zq_bd hF; obtain ⟨v_17, e_18, hF⟩ := hF
      refine zq_getR (j := 3) (pc' := 22) C zq_K2 zq_in2w (Or.inl wd_127) (by decide) rfl dX2_leastFarthest_19 rfl e_18 ?_
      refine zq_iload_n (pc' := 23) C dX2_leastFarthest_22 rfl rfl rfl ?_
      replace hF := zq_ck_e hF; obtain ⟨e_21, hF⟩ := hF
      replace hF := zq_bd hF; obtain ⟨v_19, e_20, hF⟩ := hF
      refine zq_cV (pc' := 26) C (c_X0_maskAt e_20) yv_X0_maskAt wd_131 zq_K0 e_21 dX2_leastFarthest_23 rfl rfl rfl ⟨Nat.le_of_ble_eq_true rfl, Nat.le_of_ble_eq_true rfl⟩ (Nat.le_of_ble_eq_true rfl) ⟨rfl, rfl⟩ ⟨Nat.le_of_ble_eq_true rfl, Nat.le_of_ble_eq_true rfl⟩ rfl ?_
      refine zq_istore (lv' := [(4, .int v_19), (0, .ref t), (1, .int v_1), (2, .int s_4.1), (3, .int s_4.2)]) (pc' := 28) C dX2_leastFarthest_26 rfl (by decide) rfl rfl ?_
      refine zq_aload_n (pc' := 29) C dX2_leastFarthest_28 rfl rfl rfl ?_
      replace hF := zq_bd hF; obtain ⟨v_22, e_23, hF⟩ := hF
      refine zq_getR (j := 0) (pc' := 32) C zq_K2 zq_in2w (Or.inl wd_124) (by decide) rfl dX2_leastFarthest_29 rfl e_23 ?_
      refine zq_iload_n (pc' := 33) C dX2_leastFarthest_32 rfl rfl rfl ?_
      replace hF := zq_bd hF; obtain ⟨v_24, e_25, hF⟩ := hF
      refine zq_iaload (pc' := 34) C dX2_leastFarthest_33 rfl e_25 ?_
      refine zq_iload_n (pc' := 35) C dX2_leastFarthest_34 rfl rfl rfl ?_
      refine zq_icmp_ne (pc' := 38) C 52 dX2_leastFarthest_35 (by decide) rfl (fun c_26 => ?_) (fun c_26 => ?_)
      · have hF := (zq_ifn hF c_26)
        skip
        replace hF := zq_let_e hF; obtain ⟨v_27, e_28, hF⟩ := hF
        refine zq_iinc (lv' := [(3, .int v_27), (4, .int v_19), (0, .ref t), (1, .int v_1), (2, .int s_4.1)]) (pc' := 55) C dX2_leastFarthest_52 rfl (by decide) 4 rfl e_28 rfl ?_
        refine zq_goto C 9 dX2_leastFarthest_55 (by decide) ?_
        cases hF
        exact zq_sub [2, 3, 4, 0] rfl (hrec_9 _ rfl)
      · have hF := (zq_ifp hF c_26)
        refine zq_iload_n (pc' := 39) C dX2_leastFarthest_38 rfl rfl rfl ?_
        refine zq_iconst (pc' := 40) C (-1) dX2_leastFarthest_39 rfl (by decide) ?_
        refine zq_icmp_eq (pc' := 43) C 49 dX2_leastFarthest_40 (by decide) rfl (fun c_29 => ?_) (fun c_29 => ?_)
        · have hF := (zq_ifp hF c_29)
          skip
          refine zq_iload (pc' := 51) C dX2_leastFarthest_49 rfl rfl ?_
          refine zq_istore_n (lv' := [(2, .int v_19), (4, .int v_19), (0, .ref t), (1, .int v_1), (3, .int s_4.2)]) (pc' := 52) C dX2_leastFarthest_51 rfl rfl (by decide) rfl rfl ?_
          replace hF := zq_let_e hF; obtain ⟨v_30, e_31, hF⟩ := hF
          refine zq_iinc (lv' := [(3, .int v_30), (2, .int v_19), (4, .int v_19), (0, .ref t), (1, .int v_1)]) (pc' := 55) C dX2_leastFarthest_52 rfl (by decide) 4 rfl e_31 rfl ?_
          refine zq_goto C 9 dX2_leastFarthest_55 (by decide) ?_
          cases hF
          exact zq_sub [3, 4, 1, 0] rfl (hrec_9 _ rfl)
        · have hF := (zq_ifn hF c_29)
          refine zq_iload (pc' := 45) C dX2_leastFarthest_43 rfl rfl ?_
          refine zq_iload_n (pc' := 46) C dX2_leastFarthest_45 rfl rfl rfl ?_
          refine zq_icmp_ge (pc' := 49) C 52 dX2_leastFarthest_46 (by decide) rfl (fun c_32 => ?_) (fun c_32 => ?_)
          · have hF := (zq_ifp hF c_32)
            skip
            replace hF := zq_let_e hF; obtain ⟨v_33, e_34, hF⟩ := hF
            refine zq_iinc (lv' := [(3, .int v_33), (4, .int v_19), (0, .ref t), (1, .int v_1), (2, .int s_4.1)]) (pc' := 55) C dX2_leastFarthest_52 rfl (by decide) 4 rfl e_34 rfl ?_
            refine zq_goto C 9 dX2_leastFarthest_55 (by decide) ?_
            cases hF
            exact zq_sub [2, 3, 4, 0] rfl (hrec_9 _ rfl)
          · have hF := (zq_ifn hF c_32)
            refine zq_iload (pc' := 51) C dX2_leastFarthest_49 rfl rfl ?_
            refine zq_istore_n (lv' := [(2, .int v_19), (4, .int v_19), (0, .ref t), (1, .int v_1), (3, .int s_4.2)]) (pc' := 52) C dX2_leastFarthest_51 rfl rfl (by decide) rfl rfl ?_
            replace hF := zq_let_e hF; obtain ⟨v_35, e_36, hF⟩ := hF
            refine zq_iinc (lv' := [(3, .int v_35), (2, .int v_19), (4, .int v_19), (0, .ref t), (1, .int v_1)]) (pc' := 55) C dX2_leastFarthest_52 rfl (by decide) 4 rfl e_36 rfl ?_
            refine zq_goto C 9 dX2_leastFarthest_55 (by decide) ?_
            cases hF
            exact zq_sub [3, 4, 1, 0] rfl (hrec_9 _ rfl)
  · skip
    obtain ⟨y_7, rfl⟩ : ∃ z9, z9 = r_5 := ⟨_, rfl⟩
    show zq_W X 0 0 h 58 [(2, .int y_7)] []
    refine zq_iload_n (pc' := 59) C dX2_leastFarthest_58 rfl rfl rfl ?_
    have hF := Option.some.inj hF
    subst hF
    exact hE _ _ _ _ (Nat.le_of_ble_eq_true rfl) (Nat.le_of_ble_eq_true rfl) dX2_leastFarthest_59
theorem c_X2_leastFarthest {h : zq_H} {t : Nat} {out : Int32} (hF : f_X2_leastFarthest h t = some out) : zq_M none yX2_leastFarthest (Cond.code yX2_leastFarthest cX2_leastFarthest 5 (some .int) :: zq_all) rm_X2_leastFarthest [.ref t] h (some (.int out)) h := zq_met2 (own := RX2) (by decide +kernel) rfl (Nat.le_of_ble_eq_true rfl) rfl ⟨.int, rfl, rfl⟩ (fun X C T hn hE => v_X2_leastFarthest C T hn hF hE)
theorem yv_X2_leastFarthest : zq_calV yX2_leastFarthest RX2 cX2_leastFarthest 5 (some .int) 0 := ⟨by decide +kernel, wd_150, wd_356, wd_357, wd_144⟩
