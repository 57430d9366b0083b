def f_X0_ofCorners (h : zq_H) (i : Nat) (x1 : Int32) : Option Int32 := (zq_let (x1 - 4) fun v_1 => (if v_1 < 0 then some (0) else (if 6 ≤ v_1 then some (0) else (Option.bind (zq_st i v_1) fun v_7 => some (v_7)))))
abbrev rm_X0_ofCorners : Room := { frames := 0, cells := 0, slots := 0, locals := 0 }
theorem dX0_ofCorners_0 : decode cX0_ofCorners 0 = .ok (.iload_n 1, 1) := by decide +kernel
theorem dX0_ofCorners_1 : decode cX0_ofCorners 1 = .ok (.iconst 4, 1) := by decide +kernel
theorem dX0_ofCorners_2 : decode cX0_ofCorners 2 = .ok (.isub, 1) := by decide +kernel
theorem dX0_ofCorners_3 : decode cX0_ofCorners 3 = .ok (.istore_n 2, 1) := by decide +kernel
theorem dX0_ofCorners_4 : decode cX0_ofCorners 4 = .ok (.iload_n 2, 1) := by decide +kernel
theorem dX0_ofCorners_5 : decode cX0_ofCorners 5 = .ok (.ifCond .lt 15, 3) := by decide +kernel
theorem dX0_ofCorners_8 : decode cX0_ofCorners 8 = .ok (.iload_n 2, 1) := by decide +kernel
theorem dX0_ofCorners_9 : decode cX0_ofCorners 9 = .ok (.aload_n 0, 1) := by decide +kernel
theorem dX0_ofCorners_10 : decode cX0_ofCorners 10 = .ok (.arraylength, 1) := by decide +kernel
theorem dX0_ofCorners_11 : decode cX0_ofCorners 11 = .ok (.if_icmp .ge 9, 3) := by decide +kernel
theorem dX0_ofCorners_14 : decode cX0_ofCorners 14 = .ok (.aload_n 0, 1) := by decide +kernel
theorem dX0_ofCorners_15 : decode cX0_ofCorners 15 = .ok (.iload_n 2, 1) := by decide +kernel
theorem dX0_ofCorners_16 : decode cX0_ofCorners 16 = .ok (.iaload, 1) := by decide +kernel
theorem dX0_ofCorners_17 : decode cX0_ofCorners 17 = .ok (.goto 4, 3) := by decide +kernel
theorem dX0_ofCorners_20 : decode cX0_ofCorners 20 = .ok (.iconst 0, 1) := by decide +kernel
theorem dX0_ofCorners_21 : decode cX0_ofCorners 21 = .ok (.ireturn, 1) := by decide +kernel
set_option maxRecDepth 100000 in
set_option maxHeartbeats 4000000 in
theorem v_X0_ofCorners {X : zq_X} (C : zq_C X RX0 cX0_ofCorners 3 zq_all rm_X0_ofCorners) {h : zq_H} {i a : Nat} {x1 : Int32} (G : zq_Ga X i a) {out : Int32} (hF : f_X0_ofCorners h i x1 = some out) (hE : zq_End X cX0_ofCorners 0 0 (some (.int out)) h) : zq_W X 0 0 h 0 [(0, .retAddr a), (1, .int x1)] [] := by
  unfold f_X0_ofCorners at hF
  refine zq_iload_n (pc' := 1) C dX0_ofCorners_0 rfl rfl rfl ?_
  refine zq_iconst (pc' := 2) C 4 dX0_ofCorners_1 rfl (by decide) ?_
  refine zq_isub (pc' := 3) C dX0_ofCorners_2 rfl ?_
  replace hF := zq_let_e hF; obtain ⟨v_1, e_2, hF⟩ := hF
  refine zq_istore_n (lv' := [(2, .int v_1), (0, .retAddr a), (1, .int x1)]) (pc' := 4) C dX0_ofCorners_3 rfl rfl (by decide) e_2 rfl ?_
  refine zq_iload_n (pc' := 5) C dX0_ofCorners_4 rfl rfl rfl ?_
  refine zq_if_lt (pc' := 8) C 20 dX0_ofCorners_5 (by decide) rfl (fun c_3 => ?_) (fun c_3 => ?_)
  · have hF := (zq_ifp hF c_3)
    skip
    refine zq_iconst (pc' := 21) C 0 dX0_ofCorners_20 rfl (by decide) ?_
    have hF := Option.some.inj hF
    subst hF
    exact hE _ _ _ _ (Nat.le_of_ble_eq_true rfl) (Nat.le_of_ble_eq_true rfl) dX0_ofCorners_21
  · have hF := (zq_ifn hF c_3)
    refine zq_iload_n (pc' := 9) C dX0_ofCorners_8 rfl rfl rfl ?_
    refine zq_aloadR_n (pc' := 10) C dX0_ofCorners_9 rfl rfl rfl ?_
    refine zq_stlen (pc' := 11) C G dX0_ofCorners_10 rfl ?_
    refine zq_icmp_ge (pc' := 14) C 20 dX0_ofCorners_11 (by decide) rfl (fun c_6 => ?_) (fun c_6 => ?_)
    · have hF := (zq_ifp hF c_6)
      skip
      refine zq_iconst (pc' := 21) C 0 dX0_ofCorners_20 rfl (by decide) ?_
      have hF := Option.some.inj hF
      subst hF
      exact hE _ _ _ _ (Nat.le_of_ble_eq_true rfl) (Nat.le_of_ble_eq_true rfl) dX0_ofCorners_21
    · have hF := (zq_ifn hF c_6)
      refine zq_aloadR_n (pc' := 15) C dX0_ofCorners_14 rfl rfl rfl ?_
      refine zq_iload_n (pc' := 16) C dX0_ofCorners_15 rfl rfl rfl ?_
      replace hF := zq_bd hF; obtain ⟨v_7, e_8, hF⟩ := hF
      refine zq_stld (pc' := 17) C G dX0_ofCorners_16 rfl e_8 ?_
      refine zq_goto C 21 dX0_ofCorners_17 (by decide) ?_
      have hF := Option.some.inj hF
      subst hF
      exact hE _ _ _ _ (Nat.le_of_ble_eq_true rfl) (Nat.le_of_ble_eq_true rfl) dX0_ofCorners_21
theorem c_X0_ofCorners {h : zq_H} {i a : Nat} {x1 : Int32} {out : Int32} (hF : f_X0_ofCorners h i x1 = some out) : zq_Ma i a yX0_ofCorners (Cond.code yX0_ofCorners cX0_ofCorners 3 (some .int) :: zq_all) rm_X0_ofCorners [.retAddr a, .int x1] h (some (.int out)) h := zq_metA (own := RX0) (by decide +kernel) rfl (Nat.le_of_ble_eq_true rfl) rfl ⟨.int, rfl, rfl⟩ (fun X C G hE => v_X0_ofCorners C G hF hE)
theorem ys_X0_ofCorners : zq_calS yX0_ofCorners cX0_ofCorners 3 (some .int) 2 := ⟨by decide +kernel, wd_17, wd_15, wd_16⟩
def f_X0_slotsFor (h : zq_H) (x0 : Int32) : Option Int32 := ((zq_lp (σ := Int32 × Int32) (ρ := Int32) (fun s_1 => (if 16 ≤ s_1.2 then some (.inr s_1.1) else (if (2 * x0) ≤ s_1.1 then some (.inr s_1.1) else (zq_let (2 * s_1.1) fun v_11 => (zq_let (s_1.2 + 1) fun v_13 => some (.inl (v_11, v_13))))))) zq_N (4, 0)).bind (fun y_4 : Int32 => some (y_4)))
abbrev rm_X0_slotsFor : Room := { frames := 0, cells := 0, slots := 0, locals := 0 }
theorem dX0_slotsFor_0 : decode cX0_slotsFor 0 = .ok (.iconst 4, 1) := by decide +kernel
theorem dX0_slotsFor_1 : decode cX0_slotsFor 1 = .ok (.istore_n 1, 1) := by decide +kernel
theorem dX0_slotsFor_2 : decode cX0_slotsFor 2 = .ok (.iconst 0, 1) := by decide +kernel
theorem dX0_slotsFor_3 : decode cX0_slotsFor 3 = .ok (.istore_n 2, 1) := by decide +kernel
theorem dX0_slotsFor_4 : decode cX0_slotsFor 4 = .ok (.iload_n 2, 1) := by decide +kernel
theorem dX0_slotsFor_5 : decode cX0_slotsFor 5 = .ok (.bipush 16, 2) := by decide +kernel
theorem dX0_slotsFor_7 : decode cX0_slotsFor 7 = .ok (.if_icmp .ge 20, 3) := by decide +kernel
theorem dX0_slotsFor_10 : decode cX0_slotsFor 10 = .ok (.iload_n 1, 1) := by decide +kernel
theorem dX0_slotsFor_11 : decode cX0_slotsFor 11 = .ok (.iconst 2, 1) := by decide +kernel
theorem dX0_slotsFor_12 : decode cX0_slotsFor 12 = .ok (.iload_n 0, 1) := by decide +kernel
theorem dX0_slotsFor_13 : decode cX0_slotsFor 13 = .ok (.imul, 1) := by decide +kernel
theorem dX0_slotsFor_14 : decode cX0_slotsFor 14 = .ok (.if_icmp .ge 13, 3) := by decide +kernel
theorem dX0_slotsFor_17 : decode cX0_slotsFor 17 = .ok (.iconst 2, 1) := by decide +kernel
theorem dX0_slotsFor_18 : decode cX0_slotsFor 18 = .ok (.iload_n 1, 1) := by decide +kernel
theorem dX0_slotsFor_19 : decode cX0_slotsFor 19 = .ok (.imul, 1) := by decide +kernel
theorem dX0_slotsFor_20 : decode cX0_slotsFor 20 = .ok (.istore_n 1, 1) := by decide +kernel
theorem dX0_slotsFor_21 : decode cX0_slotsFor 21 = .ok (.iinc 2 1, 3) := by decide +kernel
theorem dX0_slotsFor_24 : decode cX0_slotsFor 24 = .ok (.goto (-20), 3) := by decide +kernel
theorem dX0_slotsFor_27 : decode cX0_slotsFor 27 = .ok (.iload_n 1, 1) := by decide +kernel
theorem dX0_slotsFor_28 : decode cX0_slotsFor 28 = .ok (.ireturn, 1) := by decide +kernel
set_option maxRecDepth 100000 in
set_option maxHeartbeats 4000000 in
theorem v_X0_slotsFor {X : zq_X} (C : zq_C X RX0 cX0_slotsFor 3 zq_all rm_X0_slotsFor) {h : zq_H} {x0 : Int32} (T : zq_T X none) (hn : X.2.2.2.2.2.2.2.2.1.name = yX0_slotsFor.name) {out : Int32} (hF : f_X0_slotsFor h x0 = some out) (hE : zq_End X cX0_slotsFor 0 0 (some (.int out)) h) : zq_W X 0 0 h 0 [(0, .int x0)] [] := by
  unfold f_X0_slotsFor at hF
  refine zq_iconst (pc' := 1) C 4 dX0_slotsFor_0 rfl (by decide) ?_
  refine zq_istore_n (lv' := [(1, .int 4), (0, .int x0)]) (pc' := 2) C dX0_slotsFor_1 rfl rfl (by decide) rfl rfl ?_
  refine zq_iconst (pc' := 3) C 0 dX0_slotsFor_2 rfl (by decide) ?_
  refine zq_istore_n (lv' := [(2, .int 0), (1, .int 4), (0, .int x0)]) (pc' := 4) C dX0_slotsFor_3 rfl rfl (by decide) rfl rfl ?_
  refine zq_sub [2, 1, 0] rfl ?_
  replace hF := zq_bd hF; obtain ⟨r_2, e_3, hF⟩ := hF
  refine zq_lpW (fun s_1 => zq_W X 0 0 h 4 [(0, .int x0), (1, .int s_1.1), (2, .int s_1.2)] []) (fun y_4 => zq_W X 0 0 h 27 [(1, .int y_4)] []) e_3 (fun s_1 q_8 hF hrec_6 hex_7 => ?_) ?_
  · skip
    refine zq_iload_n (pc' := 5) C dX0_slotsFor_4 rfl rfl rfl ?_
    refine zq_bipush (pc' := 7) C 16 dX0_slotsFor_5 rfl (by decide) ?_
    refine zq_icmp_ge (pc' := 10) C 27 dX0_slotsFor_7 (by decide) rfl (fun c_9 => ?_) (fun c_9 => ?_)
    · have hF := (zq_ifp hF c_9)
      skip
      cases hF
      exact zq_sub [1] rfl (hex_7 _ rfl)
    · have hF := (zq_ifn hF c_9)
      refine zq_iload_n (pc' := 11) C dX0_slotsFor_10 rfl rfl rfl ?_
      refine zq_iconst (pc' := 12) C 2 dX0_slotsFor_11 rfl (by decide) ?_
      refine zq_iload_n (pc' := 13) C dX0_slotsFor_12 rfl rfl rfl ?_
      refine zq_imul (pc' := 14) C dX0_slotsFor_13 rfl ?_
      refine zq_icmp_ge (pc' := 17) C 27 dX0_slotsFor_14 (by decide) rfl (fun c_10 => ?_) (fun c_10 => ?_)
      · have hF := (zq_ifp hF c_10)
        skip
        cases hF
        exact zq_sub [1] rfl (hex_7 _ rfl)
      · have hF := (zq_ifn hF c_10)
        refine zq_iconst (pc' := 18) C 2 dX0_slotsFor_17 rfl (by decide) ?_
        refine zq_iload_n (pc' := 19) C dX0_slotsFor_18 rfl rfl rfl ?_
        refine zq_imul (pc' := 20) C dX0_slotsFor_19 rfl ?_
        replace hF := zq_let_e hF; obtain ⟨v_11, e_12, hF⟩ := hF
        refine zq_istore_n (lv' := [(1, .int v_11), (0, .int x0), (2, .int s_1.2)]) (pc' := 21) C dX0_slotsFor_20 rfl rfl (by decide) e_12 rfl ?_
        replace hF := zq_let_e hF; obtain ⟨v_13, e_14, hF⟩ := hF
        refine zq_iinc (lv' := [(2, .int v_13), (1, .int v_11), (0, .int x0)]) (pc' := 24) C dX0_slotsFor_21 rfl (by decide) 2 rfl e_14 rfl ?_
        refine zq_goto C 4 dX0_slotsFor_24 (by decide) ?_
        cases hF
        exact zq_sub [2, 1, 0] rfl (hrec_6 _ rfl)
  · skip
    obtain ⟨y_4, rfl⟩ : ∃ z9, z9 = r_2 := ⟨_, rfl⟩
    show zq_W X 0 0 h 27 [(1, .int y_4)] []
    refine zq_iload_n (pc' := 28) C dX0_slotsFor_27 rfl rfl rfl ?_
    have hF := Option.some.inj hF
    subst hF
    exact hE _ _ _ _ (Nat.le_of_ble_eq_true rfl) (Nat.le_of_ble_eq_true rfl) dX0_slotsFor_28
theorem c_X0_slotsFor {h : zq_H} {x0 : Int32} {out : Int32} (hF : f_X0_slotsFor h x0 = some out) : zq_M none yX0_slotsFor (Cond.code yX0_slotsFor cX0_slotsFor 3 (some .int) :: zq_all) rm_X0_slotsFor [.int x0] h (some (.int out)) h := zq_met2 (own := RX0) (by decide +kernel) rfl (Nat.le_of_ble_eq_true rfl) rfl ⟨.int, rfl, rfl⟩ (fun X C T hn hE => v_X0_slotsFor C T hn hF hE)
theorem ys_X0_slotsFor : zq_calS yX0_slotsFor cX0_slotsFor 3 (some .int) 1 := ⟨by decide +kernel, wd_0, wd_19, wd_16⟩
def f_X0_init (h : zq_H) (t : Nat) (r1 : Nat) : Option zq_H := (Option.bind (zq_pr h t 0 0 r1) fun h_1 => (Option.bind (zq_gi h_1 r1 1 0) fun v_5 => (Option.bind (f_X0_ofCorners h_1 0 v_5) fun v_7 => (Option.bind (zq_pi h_1 t 0 1 v_7) fun h_9 => (Option.bind (zq_gi h_9 r1 1 0) fun v_13 => (Option.bind (f_X0_ofCorners h_9 1 v_13) fun v_15 => (Option.bind (zq_pi h_9 t 0 2 v_15) fun h_17 => (Option.bind (zq_gi h_17 r1 1 0) fun v_21 => (Option.bind (f_X0_ofCorners h_17 2 v_21) fun v_23 => (Option.bind (zq_pi h_17 t 0 3 v_23) fun h_25 => (Option.bind (zq_gi h_25 r1 1 0) fun v_27 => (Option.bind (zq_pi h_25 t 0 4 (v_27 - 3)) fun h_29 => (Option.bind (zq_gi h_29 t 0 1) fun v_31 => (Option.bind (zq_na h_29 (t + 9) 10 429 v_31) fun h_33 => (Option.bind (zq_pr h_33 t 0 5 (t + 9)) fun h_35 => (Option.bind (zq_gi h_35 t 0 1) fun v_37 => (Option.bind (zq_gi h_35 t 0 4) fun v_39 => (Option.bind (zq_na h_35 (t + 10) 10 2574 (v_37 * v_39)) fun h_41 => (Option.bind (zq_pr h_41 t 0 6 (t + 10)) fun h_43 => (Option.bind (zq_gi h_43 t 0 1) fun v_45 => (Option.bind (f_X0_slotsFor h_43 v_45) fun v_47 => (Option.bind (zq_na h_43 (t + 11) 10 1024 v_47) fun h_49 => (Option.bind (zq_pr h_49 t 0 7 (t + 11)) fun h_51 => some (h_51))))))))))))))))))))))))
abbrev rm_X0_init : Room := { frames := 1, cells := 3, slots := 4027, locals := 22 }
theorem dX0_init_0 : decode cX0_init 0 = .ok (.aload_n 0, 1) := by decide +kernel
theorem dX0_init_1 : decode cX0_init 1 = .ok (.invokespecial 3, 3) := by decide +kernel
theorem dX0_init_4 : decode cX0_init 4 = .ok (.aload_n 0, 1) := by decide +kernel
theorem dX0_init_5 : decode cX0_init 5 = .ok (.aload_n 1, 1) := by decide +kernel
theorem dX0_init_6 : decode cX0_init 6 = .ok (.putfield 9, 3) := by decide +kernel
theorem dX0_init_9 : decode cX0_init 9 = .ok (.aload_n 0, 1) := by decide +kernel
theorem dX0_init_10 : decode cX0_init 10 = .ok (.getstatic 15, 3) := by decide +kernel
theorem dX0_init_13 : decode cX0_init 13 = .ok (.aload_n 1, 1) := by decide +kernel
theorem dX0_init_14 : decode cX0_init 14 = .ok (.getfield 19, 3) := by decide +kernel
theorem dX0_init_17 : decode cX0_init 17 = .ok (.invokestatic 25, 3) := by decide +kernel
theorem dX0_init_20 : decode cX0_init 20 = .ok (.putfield 29, 3) := by decide +kernel
theorem dX0_init_23 : decode cX0_init 23 = .ok (.aload_n 0, 1) := by decide +kernel
theorem dX0_init_24 : decode cX0_init 24 = .ok (.getstatic 32, 3) := by decide +kernel
theorem dX0_init_27 : decode cX0_init 27 = .ok (.aload_n 1, 1) := by decide +kernel
theorem dX0_init_28 : decode cX0_init 28 = .ok (.getfield 19, 3) := by decide +kernel
theorem dX0_init_31 : decode cX0_init 31 = .ok (.invokestatic 25, 3) := by decide +kernel
theorem dX0_init_34 : decode cX0_init 34 = .ok (.putfield 35, 3) := by decide +kernel
theorem dX0_init_37 : decode cX0_init 37 = .ok (.aload_n 0, 1) := by decide +kernel
theorem dX0_init_38 : decode cX0_init 38 = .ok (.getstatic 38, 3) := by decide +kernel
theorem dX0_init_41 : decode cX0_init 41 = .ok (.aload_n 1, 1) := by decide +kernel
theorem dX0_init_42 : decode cX0_init 42 = .ok (.getfield 19, 3) := by decide +kernel
theorem dX0_init_45 : decode cX0_init 45 = .ok (.invokestatic 25, 3) := by decide +kernel
theorem dX0_init_48 : decode cX0_init 48 = .ok (.putfield 41, 3) := by decide +kernel
theorem dX0_init_51 : decode cX0_init 51 = .ok (.aload_n 0, 1) := by decide +kernel
theorem dX0_init_52 : decode cX0_init 52 = .ok (.aload_n 1, 1) := by decide +kernel
theorem dX0_init_53 : decode cX0_init 53 = .ok (.getfield 19, 3) := by decide +kernel
theorem dX0_init_56 : decode cX0_init 56 = .ok (.iconst 3, 1) := by decide +kernel
theorem dX0_init_57 : decode cX0_init 57 = .ok (.isub, 1) := by decide +kernel
theorem dX0_init_58 : decode cX0_init 58 = .ok (.putfield 44, 3) := by decide +kernel
theorem dX0_init_61 : decode cX0_init 61 = .ok (.aload_n 0, 1) := by decide +kernel
theorem dX0_init_62 : decode cX0_init 62 = .ok (.aload_n 0, 1) := by decide +kernel
theorem dX0_init_63 : decode cX0_init 63 = .ok (.getfield 29, 3) := by decide +kernel
theorem dX0_init_66 : decode cX0_init 66 = .ok (.newarray .int, 2) := by decide +kernel
theorem dX0_init_68 : decode cX0_init 68 = .ok (.putfield 47, 3) := by decide +kernel
theorem dX0_init_71 : decode cX0_init 71 = .ok (.aload_n 0, 1) := by decide +kernel
theorem dX0_init_72 : decode cX0_init 72 = .ok (.aload_n 0, 1) := by decide +kernel
theorem dX0_init_73 : decode cX0_init 73 = .ok (.getfield 29, 3) := by decide +kernel
theorem dX0_init_76 : decode cX0_init 76 = .ok (.aload_n 0, 1) := by decide +kernel
theorem dX0_init_77 : decode cX0_init 77 = .ok (.getfield 44, 3) := by decide +kernel
theorem dX0_init_80 : decode cX0_init 80 = .ok (.imul, 1) := by decide +kernel
theorem dX0_init_81 : decode cX0_init 81 = .ok (.newarray .int, 2) := by decide +kernel
theorem dX0_init_83 : decode cX0_init 83 = .ok (.putfield 50, 3) := by decide +kernel
theorem dX0_init_86 : decode cX0_init 86 = .ok (.aload_n 0, 1) := by decide +kernel
theorem dX0_init_87 : decode cX0_init 87 = .ok (.aload_n 0, 1) := by decide +kernel
theorem dX0_init_88 : decode cX0_init 88 = .ok (.getfield 29, 3) := by decide +kernel
theorem dX0_init_91 : decode cX0_init 91 = .ok (.invokestatic 53, 3) := by decide +kernel
theorem dX0_init_94 : decode cX0_init 94 = .ok (.newarray .int, 2) := by decide +kernel
theorem dX0_init_96 : decode cX0_init 96 = .ok (.putfield 57, 3) := by decide +kernel
theorem dX0_init_99 : decode cX0_init 99 = .ok (.return_, 1) := by decide +kernel
set_option maxRecDepth 100000 in
set_option maxHeartbeats 4000000 in
theorem v_X0_init {X : zq_X} (C : zq_C X RX0 cX0_init 2 zq_all rm_X0_init) {h : zq_H} {t : Nat} {r1 : Nat} (T : zq_T X (some (t + 9))) (hn : X.2.2.2.2.2.2.2.2.1.name = yX0_init.name) {out : zq_H} (hF : f_X0_init h t r1 = some out) (hE : zq_End X cX0_init 3 4027 none out) : zq_W X 0 0 h 0 [(0, .ref t), (1, .ref r1)] [] := by
  unfold f_X0_init at hF
  refine zq_aload_n (pc' := 1) C dX0_init_0 rfl rfl rfl ?_
  refine zq_objInit (pc' := 4) C wd_2 wd_3 wd_4 dX0_init_1 rfl (by decide) (Nat.le_of_ble_eq_true rfl) (Nat.le_of_ble_eq_true rfl) ?_
  refine zq_aload_n (pc' := 5) C dX0_init_4 rfl rfl rfl ?_
  refine zq_aload_n (pc' := 6) C dX0_init_5 rfl rfl rfl ?_
  replace hF := zq_bd hF; obtain ⟨h_1, e_2, hF⟩ := hF
  refine zq_putR (j := 0) (pc' := 9) C zq_K0 zq_in0w (Or.inl wd_5) (by decide) rfl (Or.inl ⟨_, rfl⟩) dX0_init_6 rfl (Or.inr ⟨hn, rfl, rfl, wd_5⟩) e_2 ?_
  refine zq_aload_n (pc' := 10) C dX0_init_9 rfl rfl rfl ?_
  refine zq_getstA (i := 0) (host := "FlipPolygons") (pc' := 13) C (by decide) (by decide +kernel) dX0_init_10 rfl (fun a_3 rd_4 => ?_)
  refine zq_aload_n (pc' := 14) C dX0_init_13 rfl rfl rfl ?_
  replace hF := zq_bd hF; obtain ⟨v_5, e_6, hF⟩ := hF
  refine zq_getI (j := 0) (pc' := 17) C zq_K1 zq_in1w (Or.inr ⟨"FlipPolygons", by decide +kernel⟩) (by decide) rfl dX0_init_14 rfl e_6 ?_
  replace hF := zq_bd hF; obtain ⟨v_7, e_8, hF⟩ := hF
  refine zq_cSA (pc' := 20) C rd_4 (c_X0_ofCorners e_8) ys_X0_ofCorners wd_14 dX0_init_17 rfl rfl rfl ⟨Nat.le_of_ble_eq_true rfl, Nat.le_of_ble_eq_true rfl⟩ (Nat.le_of_ble_eq_true rfl) ⟨rfl, rfl⟩ ⟨Nat.le_of_ble_eq_true rfl, Nat.le_of_ble_eq_true rfl⟩ rfl ?_
  replace hF := zq_bd hF; obtain ⟨h_9, e_10, hF⟩ := hF
  refine zq_putI (j := 1) (pc' := 23) C zq_K0 zq_in0w (Or.inl wd_6) (by decide) rfl rfl dX0_init_20 rfl (Or.inr ⟨hn, rfl, rfl, wd_6⟩) e_10 ?_
  refine zq_aload_n (pc' := 24) C dX0_init_23 rfl rfl rfl ?_
  refine zq_getstA (i := 1) (host := "FlipPolygons") (pc' := 27) C (by decide) (by decide +kernel) dX0_init_24 rfl (fun a_11 rd_12 => ?_)
  refine zq_aload_n (pc' := 28) C dX0_init_27 rfl rfl rfl ?_
  replace hF := zq_bd hF; obtain ⟨v_13, e_14, hF⟩ := hF
  refine zq_getI (j := 0) (pc' := 31) C zq_K1 zq_in1w (Or.inr ⟨"FlipPolygons", by decide +kernel⟩) (by decide) rfl dX0_init_28 rfl e_14 ?_
  replace hF := zq_bd hF; obtain ⟨v_15, e_16, hF⟩ := hF
  refine zq_cSA (pc' := 34) C rd_12 (c_X0_ofCorners e_16) ys_X0_ofCorners wd_14 dX0_init_31 rfl rfl rfl ⟨Nat.le_of_ble_eq_true rfl, Nat.le_of_ble_eq_true rfl⟩ (Nat.le_of_ble_eq_true rfl) ⟨rfl, rfl⟩ ⟨Nat.le_of_ble_eq_true rfl, Nat.le_of_ble_eq_true rfl⟩ rfl ?_
  replace hF := zq_bd hF; obtain ⟨h_17, e_18, hF⟩ := hF
  refine zq_putI (j := 2) (pc' := 37) C zq_K0 zq_in0w (Or.inl wd_7) (by decide) rfl rfl dX0_init_34 rfl (Or.inr ⟨hn, rfl, rfl, wd_7⟩) e_18 ?_
  refine zq_aload_n (pc' := 38) C dX0_init_37 rfl rfl rfl ?_
  refine zq_getstA (i := 2) (host := "FlipPolygons") (pc' := 41) C (by decide) (by decide +kernel) dX0_init_38 rfl (fun a_19 rd_20 => ?_)
  refine zq_aload_n (pc' := 42) C dX0_init_41 rfl rfl rfl ?_
  replace hF := zq_bd hF; obtain ⟨v_21, e_22, hF⟩ := hF
  refine zq_getI (j := 0) (pc' := 45) C zq_K1 zq_in1w (Or.inr ⟨"FlipPolygons", by decide +kernel⟩) (by decide) rfl dX0_init_42 rfl e_22 ?_
  replace hF := zq_bd hF; obtain ⟨v_23, e_24, hF⟩ := hF
  refine zq_cSA (pc' := 48) C rd_20 (c_X0_ofCorners e_24) ys_X0_ofCorners wd_14 dX0_init_45 rfl rfl rfl ⟨Nat.le_of_ble_eq_true rfl, Nat.le_of_ble_eq_true rfl⟩ (Nat.le_of_ble_eq_true rfl) ⟨rfl, rfl⟩ ⟨Nat.le_of_ble_eq_true rfl, Nat.le_of_ble_eq_true rfl⟩ rfl ?_
  replace hF := zq_bd hF; obtain ⟨h_25, e_26, hF⟩ := hF
  refine zq_putI (j := 3) (pc' := 51) C zq_K0 zq_in0w (Or.inl wd_8) (by decide) rfl rfl dX0_init_48 rfl (Or.inr ⟨hn, rfl, rfl, wd_8⟩) e_26 ?_
  refine zq_aload_n (pc' := 52) C dX0_init_51 rfl rfl rfl ?_
  refine zq_aload_n (pc' := 53) C dX0_init_52 rfl rfl rfl ?_
  replace hF := zq_bd hF; obtain ⟨v_27, e_28, hF⟩ := hF
  refine zq_getI (j := 0) (pc' := 56) C zq_K1 zq_in1w (Or.inr ⟨"FlipPolygons", by decide +kernel⟩) (by decide) rfl dX0_init_53 rfl e_28 ?_
  refine zq_iconst (pc' := 57) C 3 dX0_init_56 rfl (by decide) ?_
  refine zq_isub (pc' := 58) C dX0_init_57 rfl ?_
  replace hF := zq_bd hF; obtain ⟨h_29, e_30, hF⟩ := hF
  refine zq_putI (j := 4) (pc' := 61) C zq_K0 zq_in0w (Or.inl wd_9) (by decide) rfl rfl dX0_init_58 rfl (Or.inr ⟨hn, rfl, rfl, wd_9⟩) e_30 ?_
  refine zq_aload_n (pc' := 62) C dX0_init_61 rfl rfl rfl ?_
  refine zq_aload_n (pc' := 63) C dX0_init_62 rfl rfl rfl ?_
  replace hF := zq_bd hF; obtain ⟨v_31, e_32, hF⟩ := hF
  refine zq_getI (j := 1) (pc' := 66) C zq_K0 zq_in0w (Or.inl wd_6) (by decide) rfl dX0_init_63 rfl e_32 ?_
  replace hF := zq_bd hF; obtain ⟨h_33, e_34, hF⟩ := hF
  refine zq_newI (n := t + 9) (pc' := 68) C wd_10 T rfl dX0_init_66 rfl e_34 (by decide) ⟨Nat.le_of_ble_eq_true rfl, Nat.le_of_ble_eq_true rfl⟩ ?_
  refine zq_widen 1 429 (Nat.le_of_ble_eq_true rfl) (Nat.le_of_ble_eq_true rfl) ?_
  replace hF := zq_bd hF; obtain ⟨h_35, e_36, hF⟩ := hF
  refine zq_putR (j := 5) (pc' := 71) C zq_K0 zq_in0w (Or.inl wd_11) (by decide) rfl (Or.inr ⟨_, rfl⟩) dX0_init_68 rfl (Or.inr ⟨hn, rfl, rfl, wd_11⟩) e_36 ?_
  refine zq_aload_n (pc' := 72) C dX0_init_71 rfl rfl rfl ?_
  refine zq_aload_n (pc' := 73) C dX0_init_72 rfl rfl rfl ?_
  replace hF := zq_bd hF; obtain ⟨v_37, e_38, hF⟩ := hF
  refine zq_getI (j := 1) (pc' := 76) C zq_K0 zq_in0w (Or.inl wd_6) (by decide) rfl dX0_init_73 rfl e_38 ?_
  refine zq_aload_n (pc' := 77) C dX0_init_76 rfl rfl rfl ?_
  replace hF := zq_bd hF; obtain ⟨v_39, e_40, hF⟩ := hF
  refine zq_getI (j := 4) (pc' := 80) C zq_K0 zq_in0w (Or.inl wd_9) (by decide) rfl dX0_init_77 rfl e_40 ?_
  refine zq_imul (pc' := 81) C dX0_init_80 rfl ?_
  replace hF := zq_bd hF; obtain ⟨h_41, e_42, hF⟩ := hF
  refine zq_newI (n := t + 10) (pc' := 83) C wd_10 T rfl dX0_init_81 rfl e_42 (by decide) ⟨Nat.le_of_ble_eq_true rfl, Nat.le_of_ble_eq_true rfl⟩ ?_
  refine zq_widen 2 3003 (Nat.le_of_ble_eq_true rfl) (Nat.le_of_ble_eq_true rfl) ?_
  replace hF := zq_bd hF; obtain ⟨h_43, e_44, hF⟩ := hF
  refine zq_putR (j := 6) (pc' := 86) C zq_K0 zq_in0w (Or.inl wd_12) (by decide) rfl (Or.inr ⟨_, rfl⟩) dX0_init_83 rfl (Or.inr ⟨hn, rfl, rfl, wd_12⟩) e_44 ?_
  refine zq_aload_n (pc' := 87) C dX0_init_86 rfl rfl rfl ?_
  refine zq_aload_n (pc' := 88) C dX0_init_87 rfl rfl rfl ?_
  replace hF := zq_bd hF; obtain ⟨v_45, e_46, hF⟩ := hF
  refine zq_getI (j := 1) (pc' := 91) C zq_K0 zq_in0w (Or.inl wd_6) (by decide) rfl dX0_init_88 rfl e_46 ?_
  replace hF := zq_bd hF; obtain ⟨v_47, e_48, hF⟩ := hF
  refine zq_cS (pc' := 94) C (c_X0_slotsFor e_48) ys_X0_slotsFor wd_18 dX0_init_91 rfl rfl rfl ⟨Nat.le_of_ble_eq_true rfl, Nat.le_of_ble_eq_true rfl⟩ (Nat.le_of_ble_eq_true rfl) ⟨rfl, rfl⟩ ⟨Nat.le_of_ble_eq_true rfl, Nat.le_of_ble_eq_true rfl⟩ rfl ?_
  replace hF := zq_bd hF; obtain ⟨h_49, e_50, hF⟩ := hF
  refine zq_newI (n := t + 11) (pc' := 96) C wd_10 T rfl dX0_init_94 rfl e_50 (by decide) ⟨Nat.le_of_ble_eq_true rfl, Nat.le_of_ble_eq_true rfl⟩ ?_
  refine zq_widen 3 4027 (Nat.le_of_ble_eq_true rfl) (Nat.le_of_ble_eq_true rfl) ?_
  replace hF := zq_bd hF; obtain ⟨h_51, e_52, hF⟩ := hF
  refine zq_putR (j := 7) (pc' := 99) C zq_K0 zq_in0w (Or.inl wd_13) (by decide) rfl (Or.inr ⟨_, rfl⟩) dX0_init_96 rfl (Or.inr ⟨hn, rfl, rfl, wd_13⟩) e_52 ?_
  have hF := Option.some.inj hF
  subst hF
  exact hE _ _ _ _ (Nat.le_of_ble_eq_true rfl) (Nat.le_of_ble_eq_true rfl) dX0_init_99
theorem c_X0_init {h : zq_H} {t : Nat} {r1 : Nat} {out : zq_H} (hF : f_X0_init h t r1 = some out) : zq_M (some (t + 9)) yX0_init (Cond.code yX0_init cX0_init 2 none :: zq_all) rm_X0_init [.ref t, .ref r1] h none out := zq_met2 (own := RX0) (by decide +kernel) rfl (Nat.le_of_ble_eq_true rfl) rfl rfl (fun X C T hn hE => v_X0_init C T hn hF hE)
theorem yi_X0_init : zq_Y yX0_init 1 := by decide +kernel
def f_X0_slotOf (h : zq_H) (t : Nat) (x1 : Int32) : Option Int32 := (Option.bind (zq_gr h t 0 7) fun v_1 => (Option.bind (zq_an h v_1) fun v_3 => (zq_let (v_3 - 1) fun v_5 => (zq_let (((x1 * (-1640531535) : Int32).toUInt32 >>> ((16 : Int32).toUInt32 &&& Int32.toUInt32 31)).toInt32 &&& v_5) fun v_7 => ((zq_lp (σ := Int32 × Int32) (ρ := (Int32) ⊕ Int32) (fun s_9 => (if v_5 ≤ s_9.2 then some (.inr (.inl s_9.1)) else (Option.bind (zq_gr h t 0 7) fun v_18 => (Option.bind (zq_ai h v_18 s_9.1) fun v_20 => (if v_20 = 0 then some (.inr (.inr (s_9.1))) else (Option.bind (zq_gr h t 0 5) fun v_23 => (Option.bind (zq_gr h t 0 7) fun v_25 => (Option.bind (zq_ai h v_25 s_9.1) fun v_27 => (Option.bind (zq_ai h v_23 (v_27 - 1)) fun v_29 => (if v_29 = x1 then some (.inr (.inr (s_9.1))) else (zq_let ((s_9.1 + 1) &&& v_5) fun v_32 => (zq_let (s_9.2 + 1) fun v_34 => some (.inl (v_32, v_34)))))))))))))) zq_N (v_7, 0)).bind (Sum.elim (fun y_12 : Int32 => some (y_12)) (fun z_13 => some z_13)))))))
abbrev rm_X0_slotOf : Room := { frames := 0, cells := 0, slots := 0, locals := 0 }
theorem dX0_slotOf_0 : decode cX0_slotOf 0 = .ok (.aload_n 0, 1) := by decide +kernel
theorem dX0_slotOf_1 : decode cX0_slotOf 1 = .ok (.getfield 57, 3) := by decide +kernel
theorem dX0_slotOf_4 : decode cX0_slotOf 4 = .ok (.arraylength, 1) := by decide +kernel
theorem dX0_slotOf_5 : decode cX0_slotOf 5 = .ok (.iconst 1, 1) := by decide +kernel
theorem dX0_slotOf_6 : decode cX0_slotOf 6 = .ok (.isub, 1) := by decide +kernel
theorem dX0_slotOf_7 : decode cX0_slotOf 7 = .ok (.istore_n 2, 1) := by decide +kernel
theorem dX0_slotOf_8 : decode cX0_slotOf 8 = .ok (.iload_n 1, 1) := by decide +kernel
theorem dX0_slotOf_9 : decode cX0_slotOf 9 = .ok (.ldc 81, 2) := by decide +kernel
theorem dX0_slotOf_11 : decode cX0_slotOf 11 = .ok (.imul, 1) := by decide +kernel
theorem dX0_slotOf_12 : decode cX0_slotOf 12 = .ok (.bipush 16, 2) := by decide +kernel
theorem dX0_slotOf_14 : decode cX0_slotOf 14 = .ok (.iushr, 1) := by decide +kernel
theorem dX0_slotOf_15 : decode cX0_slotOf 15 = .ok (.iload_n 2, 1) := by decide +kernel
theorem dX0_slotOf_16 : decode cX0_slotOf 16 = .ok (.iand, 1) := by decide +kernel
theorem dX0_slotOf_17 : decode cX0_slotOf 17 = .ok (.istore_n 3, 1) := by decide +kernel
theorem dX0_slotOf_18 : decode cX0_slotOf 18 = .ok (.iconst 0, 1) := by decide +kernel
theorem dX0_slotOf_19 : decode cX0_slotOf 19 = .ok (.istore 4, 2) := by decide +kernel
theorem dX0_slotOf_21 : decode cX0_slotOf 21 = .ok (.iload 4, 2) := by decide +kernel
theorem dX0_slotOf_23 : decode cX0_slotOf 23 = .ok (.iload_n 2, 1) := by decide +kernel
theorem dX0_slotOf_24 : decode cX0_slotOf 24 = .ok (.if_icmp .ge 43, 3) := by decide +kernel
theorem dX0_slotOf_27 : decode cX0_slotOf 27 = .ok (.aload_n 0, 1) := by decide +kernel
theorem dX0_slotOf_28 : decode cX0_slotOf 28 = .ok (.getfield 57, 3) := by decide +kernel
theorem dX0_slotOf_31 : decode cX0_slotOf 31 = .ok (.iload_n 3, 1) := by decide +kernel
theorem dX0_slotOf_32 : decode cX0_slotOf 32 = .ok (.iaload, 1) := by decide +kernel
theorem dX0_slotOf_33 : decode cX0_slotOf 33 = .ok (.ifCond .eq 20, 3) := by decide +kernel
theorem dX0_slotOf_36 : decode cX0_slotOf 36 = .ok (.aload_n 0, 1) := by decide +kernel
theorem dX0_slotOf_37 : decode cX0_slotOf 37 = .ok (.getfield 47, 3) := by decide +kernel
theorem dX0_slotOf_40 : decode cX0_slotOf 40 = .ok (.aload_n 0, 1) := by decide +kernel
theorem dX0_slotOf_41 : decode cX0_slotOf 41 = .ok (.getfield 57, 3) := by decide +kernel
theorem dX0_slotOf_44 : decode cX0_slotOf 44 = .ok (.iload_n 3, 1) := by decide +kernel
theorem dX0_slotOf_45 : decode cX0_slotOf 45 = .ok (.iaload, 1) := by decide +kernel
theorem dX0_slotOf_46 : decode cX0_slotOf 46 = .ok (.iconst 1, 1) := by decide +kernel
theorem dX0_slotOf_47 : decode cX0_slotOf 47 = .ok (.isub, 1) := by decide +kernel
theorem dX0_slotOf_48 : decode cX0_slotOf 48 = .ok (.iaload, 1) := by decide +kernel
theorem dX0_slotOf_49 : decode cX0_slotOf 49 = .ok (.iload_n 1, 1) := by decide +kernel
theorem dX0_slotOf_50 : decode cX0_slotOf 50 = .ok (.if_icmp .ne 5, 3) := by decide +kernel
theorem dX0_slotOf_53 : decode cX0_slotOf 53 = .ok (.iload_n 3, 1) := by decide +kernel
theorem dX0_slotOf_54 : decode cX0_slotOf 54 = .ok (.ireturn, 1) := by decide +kernel
theorem dX0_slotOf_55 : decode cX0_slotOf 55 = .ok (.iload_n 3, 1) := by decide +kernel
theorem dX0_slotOf_56 : decode cX0_slotOf 56 = .ok (.iconst 1, 1) := by decide +kernel
theorem dX0_slotOf_57 : decode cX0_slotOf 57 = .ok (.iadd, 1) := by decide +kernel
theorem dX0_slotOf_58 : decode cX0_slotOf 58 = .ok (.iload_n 2, 1) := by decide +kernel
theorem dX0_slotOf_59 : decode cX0_slotOf 59 = .ok (.iand, 1) := by decide +kernel
theorem dX0_slotOf_60 : decode cX0_slotOf 60 = .ok (.istore_n 3, 1) := by decide +kernel
theorem dX0_slotOf_61 : decode cX0_slotOf 61 = .ok (.iinc 4 1, 3) := by decide +kernel
theorem dX0_slotOf_64 : decode cX0_slotOf 64 = .ok (.goto (-43), 3) := by decide +kernel
theorem dX0_slotOf_67 : decode cX0_slotOf 67 = .ok (.iload_n 3, 1) := by decide +kernel
theorem dX0_slotOf_68 : decode cX0_slotOf 68 = .ok (.ireturn, 1) := by decide +kernel
set_option maxRecDepth 100000 in
set_option maxHeartbeats 4000000 in
theorem v_X0_slotOf {X : zq_X} (C : zq_C X RX0 cX0_slotOf 5 zq_all rm_X0_slotOf) {h : zq_H} {t : Nat} {x1 : Int32} (T : zq_T X none) (hn : X.2.2.2.2.2.2.2.2.1.name = yX0_slotOf.name) {out : Int32} (hF : f_X0_slotOf h t x1 = some out) (hE : zq_End X cX0_slotOf 0 0 (some (.int out)) h) : zq_W X 0 0 h 0 [(0, .ref t), (1, .int x1)] [] := by
  unfold f_X0_slotOf at hF
  refine zq_aload_n (pc' := 1) C dX0_slotOf_0 rfl rfl rfl ?_
  replace hF := zq_bd hF; obtain ⟨v_1, e_2, hF⟩ := hF
  refine zq_getR (j := 7) (pc' := 4) C zq_K0 zq_in0w (Or.inl wd_13) (by decide) rfl dX0_slotOf_1 rfl e_2 ?_
  replace hF := zq_bd hF; obtain ⟨v_3, e_4, hF⟩ := hF
  refine zq_alen (pc' := 5) C dX0_slotOf_4 rfl e_4 ?_
  refine zq_iconst (pc' := 6) C 1 dX0_slotOf_5 rfl (by decide) ?_
  refine zq_isub (pc' := 7) C dX0_slotOf_6 rfl ?_
  replace hF := zq_let_e hF; obtain ⟨v_5, e_6, hF⟩ := hF
  refine zq_istore_n (lv' := [(2, .int v_5), (0, .ref t), (1, .int x1)]) (pc' := 8) C dX0_slotOf_7 rfl rfl (by decide) e_6 rfl ?_
  refine zq_iload_n (pc' := 9) C dX0_slotOf_8 rfl rfl rfl ?_
  refine zq_ldc (pc' := 11) C (-1640531535) dX0_slotOf_9 rfl wd_29 ?_
  refine zq_imul (pc' := 12) C dX0_slotOf_11 rfl ?_
  refine zq_bipush (pc' := 14) C 16 dX0_slotOf_12 rfl (by decide) ?_
  refine zq_iushr (pc' := 15) C dX0_slotOf_14 rfl ?_
  refine zq_iload_n (pc' := 16) C dX0_slotOf_15 rfl rfl rfl ?_
  refine zq_iand (pc' := 17) C dX0_slotOf_16 rfl ?_
  replace hF := zq_let_e hF; obtain ⟨v_7, e_8, hF⟩ := hF
  refine zq_istore_n (lv' := [(3, .int v_7), (2, .int v_5), (0, .ref t), (1, .int x1)]) (pc' := 18) C dX0_slotOf_17 rfl rfl (by decide) e_8 rfl ?_
  refine zq_iconst (pc' := 19) C 0 dX0_slotOf_18 rfl (by decide) ?_
  refine zq_istore (lv' := [(4, .int 0), (3, .int v_7), (2, .int v_5), (0, .ref t), (1, .int x1)]) (pc' := 21) C dX0_slotOf_19 rfl (by decide) rfl rfl ?_
  refine zq_sub [3, 4, 2, 1, 0] rfl ?_
  replace hF := zq_bd hF; obtain ⟨r_10, e_11, hF⟩ := hF
  refine zq_lpW (fun s_9 => zq_W X 0 0 h 21 [(0, .ref t), (1, .int x1), (2, .int v_5), (3, .int s_9.1), (4, .int s_9.2)] []) (Sum.elim (fun y_12 => zq_W X 0 0 h 67 [(3, .int y_12)] []) (fun z_13 => out = z_13)) e_11 (fun s_9 q_16 hF hrec_14 hex_15 => ?_) ?_
  · skip
    refine zq_iload (pc' := 23) C dX0_slotOf_21 rfl rfl ?_
    refine zq_iload_n (pc' := 24) C dX0_slotOf_23 rfl rfl rfl ?_
    refine zq_icmp_ge (pc' := 27) C 67 dX0_slotOf_24 (by decide) rfl (fun c_17 => ?_) (fun c_17 => ?_)
    · have hF := (zq_ifp hF c_17)
      skip
      cases hF
      exact zq_sub [3] rfl (hex_15 _ rfl)
    · have hF := (zq_ifn hF c_17)
      refine zq_aload_n (pc' := 28) C dX0_slotOf_27 rfl rfl rfl ?_
      replace hF := zq_bd hF; obtain ⟨v_18, e_19, hF⟩ := hF
      refine zq_getR (j := 7) (pc' := 31) C zq_K0 zq_in0w (Or.inl wd_13) (by decide) rfl dX0_slotOf_28 rfl e_19 ?_
      refine zq_iload_n (pc' := 32) C dX0_slotOf_31 rfl rfl rfl ?_
      replace hF := zq_bd hF; obtain ⟨v_20, e_21, hF⟩ := hF
      refine zq_iaload (pc' := 33) C dX0_slotOf_32 rfl e_21 ?_
      refine zq_if_eq (pc' := 36) C 53 dX0_slotOf_33 (by decide) rfl (fun c_22 => ?_) (fun c_22 => ?_)
      · have hF := (zq_ifp hF c_22)
        skip
        refine zq_iload_n (pc' := 54) C dX0_slotOf_53 rfl rfl rfl ?_
        cases hF
        have q9 : out = s_9.1 := hex_15 _ rfl
        subst q9
        exact hE _ _ _ _ (Nat.le_of_ble_eq_true rfl) (Nat.le_of_ble_eq_true rfl) dX0_slotOf_54
      · have hF := (zq_ifn hF c_22)
        refine zq_aload_n (pc' := 37) C dX0_slotOf_36 rfl rfl rfl ?_
        replace hF := zq_bd hF; obtain ⟨v_23, e_24, hF⟩ := hF
        refine zq_getR (j := 5) (pc' := 40) C zq_K0 zq_in0w (Or.inl wd_11) (by decide) rfl dX0_slotOf_37 rfl e_24 ?_
        refine zq_aload_n (pc' := 41) C dX0_slotOf_40 rfl rfl rfl ?_
        replace hF := zq_bd hF; obtain ⟨v_25, e_26, hF⟩ := hF
        refine zq_getR (j := 7) (pc' := 44) C zq_K0 zq_in0w (Or.inl wd_13) (by decide) rfl dX0_slotOf_41 rfl e_26 ?_
        refine zq_iload_n (pc' := 45) C dX0_slotOf_44 rfl rfl rfl ?_
        replace hF := zq_bd hF; obtain ⟨v_27, e_28, hF⟩ := hF
        refine zq_iaload (pc' := 46) C dX0_slotOf_45 rfl e_28 ?_
        refine zq_iconst (pc' := 47) C 1 dX0_slotOf_46 rfl (by decide) ?_
        refine zq_isub (pc' := 48) C dX0_slotOf_47 rfl ?_
        replace hF := zq_bd hF; obtain ⟨v_29, e_30, hF⟩ := hF
        refine zq_iaload (pc' := 49) C dX0_slotOf_48 rfl e_30 ?_
        refine zq_iload_n (pc' := 50) C dX0_slotOf_49 rfl rfl rfl ?_
        refine zq_icmp_ne (pc' := 53) C 55 dX0_slotOf_50 (by decide) rfl (fun c_31 => ?_) (fun c_31 => ?_)
        · have hF := (zq_ifn hF c_31)
          skip
          refine zq_iload_n (pc' := 56) C dX0_slotOf_55 rfl rfl rfl ?_
          refine zq_iconst (pc' := 57) C 1 dX0_slotOf_56 rfl (by decide) ?_
          refine zq_iadd (pc' := 58) C dX0_slotOf_57 rfl ?_
          refine zq_iload_n (pc' := 59) C dX0_slotOf_58 rfl rfl rfl ?_
          refine zq_iand (pc' := 60) C dX0_slotOf_59 rfl ?_
          replace hF := zq_let_e hF; obtain ⟨v_32, e_33, hF⟩ := hF
          refine zq_istore_n (lv' := [(3, .int v_32), (0, .ref t), (1, .int x1), (2, .int v_5), (4, .int s_9.2)]) (pc' := 61) C dX0_slotOf_60 rfl rfl (by decide) e_33 rfl ?_
          replace hF := zq_let_e hF; obtain ⟨v_34, e_35, hF⟩ := hF
          refine zq_iinc (lv' := [(4, .int v_34), (3, .int v_32), (0, .ref t), (1, .int x1), (2, .int v_5)]) (pc' := 64) C dX0_slotOf_61 rfl (by decide) 4 rfl e_35 rfl ?_
          refine zq_goto C 21 dX0_slotOf_64 (by decide) ?_
          cases hF
          exact zq_sub [2, 3, 4, 1, 0] rfl (hrec_14 _ rfl)
        · have hF := (zq_ifp hF c_31)
          refine zq_iload_n (pc' := 54) C dX0_slotOf_53 rfl rfl rfl ?_
          cases hF
          have q9 : out = s_9.1 := hex_15 _ rfl
          subst q9
          exact hE _ _ _ _ (Nat.le_of_ble_eq_true rfl) (Nat.le_of_ble_eq_true rfl) dX0_slotOf_54
  · rcases r_10 with y_12 | z_13
    · dsimp only [Sum.elim_inl] at hF
      show zq_W X 0 0 h 67 [(3, .int y_12)] []
      refine zq_iload_n (pc' := 68) C dX0_slotOf_67 rfl rfl rfl ?_
      have hF := Option.some.inj hF
      subst hF
      exact hE _ _ _ _ (Nat.le_of_ble_eq_true rfl) (Nat.le_of_ble_eq_true rfl) dX0_slotOf_68
    · cases hF; rfl
theorem c_X0_slotOf {h : zq_H} {t : Nat} {x1 : Int32} {out : Int32} (hF : f_X0_slotOf h t x1 = some out) : zq_M none yX0_slotOf (Cond.code yX0_slotOf cX0_slotOf 5 (some .int) :: zq_all) rm_X0_slotOf [.ref t, .int x1] h (some (.int out)) h := zq_met2 (own := RX0) (by decide +kernel) rfl (Nat.le_of_ble_eq_true rfl) rfl ⟨.int, rfl, rfl⟩ (fun X C T hn hE => v_X0_slotOf C T hn hF hE)
theorem yv_X0_slotOf : zq_calV yX0_slotOf RX0 cX0_slotOf 5 (some .int) 1 := ⟨by decide +kernel, wd_28, wd_33, wd_34, wd_16⟩
def f_X0_indexOrNew (h : zq_H) (t : Nat) (x1 : Int32) : Option (Int32 × zq_H) := (zq_ck h t 0 fun _ => (Option.bind (f_X0_slotOf h t x1) fun v_1 => (Option.bind (zq_gr h t 0 7) fun v_4 => (Option.bind (zq_ai h v_4 v_1) fun v_6 => (if v_6 = 0 then (Option.bind (zq_gi h t 0 8) fun v_13 => (Option.bind (zq_gr h t 0 5) fun v_15 => (Option.bind (zq_an h v_15) fun v_17 => (if v_17 ≤ v_13 then (Option.bind (zq_gr h t 0 7) fun v_20 => (Option.bind (zq_ai h v_20 v_1) fun v_22 => some ((v_22 - 1, h)))) else (Option.bind (zq_gr h t 0 5) fun v_24 => (Option.bind (zq_gi h t 0 8) fun v_26 => (Option.bind (zq_si h v_24 v_26 x1) fun h_28 => (Option.bind (zq_gi h_28 t 0 8) fun v_30 => (Option.bind (zq_pi h_28 t 0 8 (v_30 + 1)) fun h_32 => (Option.bind (zq_gr h_32 t 0 7) fun v_34 => (Option.bind (zq_gi h_32 t 0 8) fun v_36 => (Option.bind (zq_si h_32 v_34 v_1 v_36) fun h_38 => (Option.bind (zq_gr h_38 t 0 7) fun v_40 => (Option.bind (zq_ai h_38 v_40 v_1) fun v_42 => some ((v_42 - 1, h_38)))))))))))))))) else (Option.bind (zq_gr h t 0 7) fun v_9 => (Option.bind (zq_ai h v_9 v_1) fun v_11 => some ((v_11 - 1, h)))))))))
abbrev rm_X0_indexOrNew : Room := { frames := 1, cells := 0, slots := 0, locals := 24 }
theorem dX0_indexOrNew_0 : decode cX0_indexOrNew 0 = .ok (.aload_n 0, 1) := by decide +kernel
theorem dX0_indexOrNew_1 : decode cX0_indexOrNew 1 = .ok (.iload_n 1, 1) := by decide +kernel
theorem dX0_indexOrNew_2 : decode cX0_indexOrNew 2 = .ok (.invokevirtual 78, 3) := by decide +kernel
theorem dX0_indexOrNew_5 : decode cX0_indexOrNew 5 = .ok (.istore_n 2, 1) := by decide +kernel
theorem dX0_indexOrNew_6 : decode cX0_indexOrNew 6 = .ok (.aload_n 0, 1) := by decide +kernel
theorem dX0_indexOrNew_7 : decode cX0_indexOrNew 7 = .ok (.getfield 57, 3) := by decide +kernel
theorem dX0_indexOrNew_10 : decode cX0_indexOrNew 10 = .ok (.iload_n 2, 1) := by decide +kernel
theorem dX0_indexOrNew_11 : decode cX0_indexOrNew 11 = .ok (.iaload, 1) := by decide +kernel
theorem dX0_indexOrNew_12 : decode cX0_indexOrNew 12 = .ok (.ifCond .ne 45, 3) := by decide +kernel
theorem dX0_indexOrNew_15 : decode cX0_indexOrNew 15 = .ok (.aload_n 0, 1) := by decide +kernel
theorem dX0_indexOrNew_16 : decode cX0_indexOrNew 16 = .ok (.getfield 60, 3) := by decide +kernel
theorem dX0_indexOrNew_19 : decode cX0_indexOrNew 19 = .ok (.aload_n 0, 1) := by decide +kernel
theorem dX0_indexOrNew_20 : decode cX0_indexOrNew 20 = .ok (.getfield 47, 3) := by decide +kernel
theorem dX0_indexOrNew_23 : decode cX0_indexOrNew 23 = .ok (.arraylength, 1) := by decide +kernel
theorem dX0_indexOrNew_24 : decode cX0_indexOrNew 24 = .ok (.if_icmp .ge 33, 3) := by decide +kernel
theorem dX0_indexOrNew_27 : decode cX0_indexOrNew 27 = .ok (.aload_n 0, 1) := by decide +kernel
theorem dX0_indexOrNew_28 : decode cX0_indexOrNew 28 = .ok (.getfield 47, 3) := by decide +kernel
theorem dX0_indexOrNew_31 : decode cX0_indexOrNew 31 = .ok (.aload_n 0, 1) := by decide +kernel
theorem dX0_indexOrNew_32 : decode cX0_indexOrNew 32 = .ok (.getfield 60, 3) := by decide +kernel
theorem dX0_indexOrNew_35 : decode cX0_indexOrNew 35 = .ok (.iload_n 1, 1) := by decide +kernel
theorem dX0_indexOrNew_36 : decode cX0_indexOrNew 36 = .ok (.iastore, 1) := by decide +kernel
theorem dX0_indexOrNew_37 : decode cX0_indexOrNew 37 = .ok (.aload_n 0, 1) := by decide +kernel
theorem dX0_indexOrNew_38 : decode cX0_indexOrNew 38 = .ok (.dup, 1) := by decide +kernel
theorem dX0_indexOrNew_39 : decode cX0_indexOrNew 39 = .ok (.getfield 60, 3) := by decide +kernel
theorem dX0_indexOrNew_42 : decode cX0_indexOrNew 42 = .ok (.iconst 1, 1) := by decide +kernel
theorem dX0_indexOrNew_43 : decode cX0_indexOrNew 43 = .ok (.iadd, 1) := by decide +kernel
theorem dX0_indexOrNew_44 : decode cX0_indexOrNew 44 = .ok (.putfield 60, 3) := by decide +kernel
theorem dX0_indexOrNew_47 : decode cX0_indexOrNew 47 = .ok (.aload_n 0, 1) := by decide +kernel
theorem dX0_indexOrNew_48 : decode cX0_indexOrNew 48 = .ok (.getfield 57, 3) := by decide +kernel
theorem dX0_indexOrNew_51 : decode cX0_indexOrNew 51 = .ok (.iload_n 2, 1) := by decide +kernel
theorem dX0_indexOrNew_52 : decode cX0_indexOrNew 52 = .ok (.aload_n 0, 1) := by decide +kernel
theorem dX0_indexOrNew_53 : decode cX0_indexOrNew 53 = .ok (.getfield 60, 3) := by decide +kernel
theorem dX0_indexOrNew_56 : decode cX0_indexOrNew 56 = .ok (.iastore, 1) := by decide +kernel
theorem dX0_indexOrNew_57 : decode cX0_indexOrNew 57 = .ok (.aload_n 0, 1) := by decide +kernel
theorem dX0_indexOrNew_58 : decode cX0_indexOrNew 58 = .ok (.getfield 57, 3) := by decide +kernel
theorem dX0_indexOrNew_61 : decode cX0_indexOrNew 61 = .ok (.iload_n 2, 1) := by decide +kernel
theorem dX0_indexOrNew_62 : decode cX0_indexOrNew 62 = .ok (.iaload, 1) := by decide +kernel
theorem dX0_indexOrNew_63 : decode cX0_indexOrNew 63 = .ok (.iconst 1, 1) := by decide +kernel
theorem dX0_indexOrNew_64 : decode cX0_indexOrNew 64 = .ok (.isub, 1) := by decide +kernel
theorem dX0_indexOrNew_65 : decode cX0_indexOrNew 65 = .ok (.ireturn, 1) := by decide +kernel
set_option maxRecDepth 100000 in
set_option maxHeartbeats 4000000 in
theorem v_X0_indexOrNew {X : zq_X} (C : zq_C X RX0 cX0_indexOrNew 3 zq_all rm_X0_indexOrNew) {h : zq_H} {t : Nat} {x1 : Int32} (T : zq_T X none) (hn : X.2.2.2.2.2.2.2.2.1.name = yX0_indexOrNew.name) {out : (Int32 × zq_H)} (hF : f_X0_indexOrNew h t x1 = some out) (hE : zq_End X cX0_indexOrNew 0 0 (some (.int out.1)) out.2) : zq_W X 0 0 h 0 [(0, .ref t), (1, .int x1)] [] := by
  unfold f_X0_indexOrNew at hF
  refine zq_aload_n (pc' := 1) C dX0_indexOrNew_0 rfl rfl rfl ?_
  refine zq_iload_n (pc' := 2) C dX0_indexOrNew_1 rfl rfl rfl ?_
  replace hF := zq_ck_e hF; obtain ⟨e_3, hF⟩ := hF
  replace hF := zq_bd hF; obtain ⟨v_1, e_2, hF⟩ := hF
  refine zq_cV (pc' := 5) C (c_X0_slotOf e_2) yv_X0_slotOf wd_32 zq_K0 e_3 dX0_indexOrNew_2 rfl rfl rfl ⟨Nat.le_of_ble_eq_true rfl, Nat.le_of_ble_eq_true rfl⟩ (Nat.le_of_ble_eq_true rfl) ⟨rfl, rfl⟩ ⟨Nat.le_of_ble_eq_true rfl, Nat.le_of_ble_eq_true rfl⟩ rfl ?_
  refine zq_istore_n (lv' := [(2, .int v_1), (0, .ref t), (1, .int x1)]) (pc' := 6) C dX0_indexOrNew_5 rfl rfl (by decide) rfl rfl ?_
  refine zq_aload_n (pc' := 7) C dX0_indexOrNew_6 rfl rfl rfl ?_
  replace hF := zq_bd hF; obtain ⟨v_4, e_5, hF⟩ := hF
  refine zq_getR (j := 7) (pc' := 10) C zq_K0 zq_in0w (Or.inl wd_13) (by decide) rfl dX0_indexOrNew_7 rfl e_5 ?_
  refine zq_iload_n (pc' := 11) C dX0_indexOrNew_10 rfl rfl rfl ?_
  replace hF := zq_bd hF; obtain ⟨v_6, e_7, hF⟩ := hF
  refine zq_iaload (pc' := 12) C dX0_indexOrNew_11 rfl e_7 ?_
  refine zq_if_ne (pc' := 15) C 57 dX0_indexOrNew_12 (by decide) rfl (fun c_8 => ?_) (fun c_8 => ?_)
  · have hF := (zq_ifn hF c_8)
    skip
    refine zq_aload_n (pc' := 58) C dX0_indexOrNew_57 rfl rfl rfl ?_
    replace hF := zq_bd hF; obtain ⟨v_9, e_10, hF⟩ := hF
    refine zq_getR (j := 7) (pc' := 61) C zq_K0 zq_in0w (Or.inl wd_13) (by decide) rfl dX0_indexOrNew_58 rfl e_10 ?_
    refine zq_iload_n (pc' := 62) C dX0_indexOrNew_61 rfl rfl rfl ?_
    replace hF := zq_bd hF; obtain ⟨v_11, e_12, hF⟩ := hF
    refine zq_iaload (pc' := 63) C dX0_indexOrNew_62 rfl e_12 ?_
    refine zq_iconst (pc' := 64) C 1 dX0_indexOrNew_63 rfl (by decide) ?_
    refine zq_isub (pc' := 65) C dX0_indexOrNew_64 rfl ?_
    have hF := Option.some.inj hF
    subst hF
    exact hE _ _ _ _ (Nat.le_of_ble_eq_true rfl) (Nat.le_of_ble_eq_true rfl) dX0_indexOrNew_65
  · have hF := (zq_ifp hF c_8)
    refine zq_aload_n (pc' := 16) C dX0_indexOrNew_15 rfl rfl rfl ?_
    replace hF := zq_bd hF; obtain ⟨v_13, e_14, hF⟩ := hF
    refine zq_getI (j := 8) (pc' := 19) C zq_K0 zq_in0w (Or.inl wd_31) (by decide) rfl dX0_indexOrNew_16 rfl e_14 ?_
    refine zq_aload_n (pc' := 20) C dX0_indexOrNew_19 rfl rfl rfl ?_
    replace hF := zq_bd hF; obtain ⟨v_15, e_16, hF⟩ := hF
    refine zq_getR (j := 5) (pc' := 23) C zq_K0 zq_in0w (Or.inl wd_11) (by decide) rfl dX0_indexOrNew_20 rfl e_16 ?_
    replace hF := zq_bd hF; obtain ⟨v_17, e_18, hF⟩ := hF
    refine zq_alen (pc' := 24) C dX0_indexOrNew_23 rfl e_18 ?_
    refine zq_icmp_ge (pc' := 27) C 57 dX0_indexOrNew_24 (by decide) rfl (fun c_19 => ?_) (fun c_19 => ?_)
    · have hF := (zq_ifp hF c_19)
      skip
      refine zq_aload_n (pc' := 58) C dX0_indexOrNew_57 rfl rfl rfl ?_
      replace hF := zq_bd hF; obtain ⟨v_20, e_21, hF⟩ := hF
      refine zq_getR (j := 7) (pc' := 61) C zq_K0 zq_in0w (Or.inl wd_13) (by decide) rfl dX0_indexOrNew_58 rfl e_21 ?_
      refine zq_iload_n (pc' := 62) C dX0_indexOrNew_61 rfl rfl rfl ?_
      replace hF := zq_bd hF; obtain ⟨v_22, e_23, hF⟩ := hF
      refine zq_iaload (pc' := 63) C dX0_indexOrNew_62 rfl e_23 ?_
      refine zq_iconst (pc' := 64) C 1 dX0_indexOrNew_63 rfl (by decide) ?_
      refine zq_isub (pc' := 65) C dX0_indexOrNew_64 rfl ?_
      have hF := Option.some.inj hF
      subst hF
      exact hE _ _ _ _ (Nat.le_of_ble_eq_true rfl) (Nat.le_of_ble_eq_true rfl) dX0_indexOrNew_65
    · have hF := (zq_ifn hF c_19)
      refine zq_aload_n (pc' := 28) C dX0_indexOrNew_27 rfl rfl rfl ?_
      replace hF := zq_bd hF; obtain ⟨v_24, e_25, hF⟩ := hF
      refine zq_getR (j := 5) (pc' := 31) C zq_K0 zq_in0w (Or.inl wd_11) (by decide) rfl dX0_indexOrNew_28 rfl e_25 ?_
      refine zq_aload_n (pc' := 32) C dX0_indexOrNew_31 rfl rfl rfl ?_
      replace hF := zq_bd hF; obtain ⟨v_26, e_27, hF⟩ := hF
      refine zq_getI (j := 8) (pc' := 35) C zq_K0 zq_in0w (Or.inl wd_31) (by decide) rfl dX0_indexOrNew_32 rfl e_27 ?_
      refine zq_iload_n (pc' := 36) C dX0_indexOrNew_35 rfl rfl rfl ?_
      replace hF := zq_bd hF; obtain ⟨h_28, e_29, hF⟩ := hF
      refine zq_iastore (pc' := 37) C dX0_indexOrNew_36 rfl e_29 ?_
      refine zq_aload_n (pc' := 38) C dX0_indexOrNew_37 rfl rfl rfl ?_
      refine zq_dup (pc' := 39) C dX0_indexOrNew_38 rfl rfl ?_
      replace hF := zq_bd hF; obtain ⟨v_30, e_31, hF⟩ := hF
      refine zq_getI (j := 8) (pc' := 42) C zq_K0 zq_in0w (Or.inl wd_31) (by decide) rfl dX0_indexOrNew_39 rfl e_31 ?_
      refine zq_iconst (pc' := 43) C 1 dX0_indexOrNew_42 rfl (by decide) ?_
      refine zq_iadd (pc' := 44) C dX0_indexOrNew_43 rfl ?_
      replace hF := zq_bd hF; obtain ⟨h_32, e_33, hF⟩ := hF
      refine zq_putI (j := 8) (pc' := 47) C zq_K0 zq_in0w (Or.inl wd_31) (by decide) rfl rfl dX0_indexOrNew_44 rfl (Or.inl rfl) e_33 ?_
      refine zq_aload_n (pc' := 48) C dX0_indexOrNew_47 rfl rfl rfl ?_
      replace hF := zq_bd hF; obtain ⟨v_34, e_35, hF⟩ := hF
      refine zq_getR (j := 7) (pc' := 51) C zq_K0 zq_in0w (Or.inl wd_13) (by decide) rfl dX0_indexOrNew_48 rfl e_35 ?_
      refine zq_iload_n (pc' := 52) C dX0_indexOrNew_51 rfl rfl rfl ?_
      refine zq_aload_n (pc' := 53) C dX0_indexOrNew_52 rfl rfl rfl ?_
      replace hF := zq_bd hF; obtain ⟨v_36, e_37, hF⟩ := hF
      refine zq_getI (j := 8) (pc' := 56) C zq_K0 zq_in0w (Or.inl wd_31) (by decide) rfl dX0_indexOrNew_53 rfl e_37 ?_
      replace hF := zq_bd hF; obtain ⟨h_38, e_39, hF⟩ := hF
      refine zq_iastore (pc' := 57) C dX0_indexOrNew_56 rfl e_39 ?_
      refine zq_aload_n (pc' := 58) C dX0_indexOrNew_57 rfl rfl rfl ?_
      replace hF := zq_bd hF; obtain ⟨v_40, e_41, hF⟩ := hF
      refine zq_getR (j := 7) (pc' := 61) C zq_K0 zq_in0w (Or.inl wd_13) (by decide) rfl dX0_indexOrNew_58 rfl e_41 ?_
      refine zq_iload_n (pc' := 62) C dX0_indexOrNew_61 rfl rfl rfl ?_
      replace hF := zq_bd hF; obtain ⟨v_42, e_43, hF⟩ := hF
      refine zq_iaload (pc' := 63) C dX0_indexOrNew_62 rfl e_43 ?_
      refine zq_iconst (pc' := 64) C 1 dX0_indexOrNew_63 rfl (by decide) ?_
      refine zq_isub (pc' := 65) C dX0_indexOrNew_64 rfl ?_
      have hF := Option.some.inj hF
      subst hF
      exact hE _ _ _ _ (Nat.le_of_ble_eq_true rfl) (Nat.le_of_ble_eq_true rfl) dX0_indexOrNew_65
theorem c_X0_indexOrNew {h : zq_H} {t : Nat} {x1 : Int32} {out : (Int32 × zq_H)} (hF : f_X0_indexOrNew h t x1 = some out) : zq_M none yX0_indexOrNew (Cond.code yX0_indexOrNew cX0_indexOrNew 3 (some .int) :: zq_all) rm_X0_indexOrNew [.ref t, .int x1] h (some (.int out.1)) out.2 := zq_met2 (own := RX0) (by decide +kernel) rfl (Nat.le_of_ble_eq_true rfl) rfl ⟨.int, rfl, rfl⟩ (fun X C T hn hE => v_X0_indexOrNew C T hn hF hE)
theorem yv_X0_indexOrNew : zq_calV yX0_indexOrNew RX0 cX0_indexOrNew 3 (some .int) 1 := ⟨by decide +kernel, wd_30, wd_50, wd_51, wd_16⟩
def f_X0_build (h : zq_H) (t : Nat) : Option zq_H := (Option.bind (zq_gi h t 0 8) fun v_1 => (if v_1 ≤ 0 then (Option.bind (zq_gr h t 0 0) fun v_4 => (zq_ck h v_4 1 fun _ => (Option.bind (f_X1_fanOf h v_4 0) fun v_6 => (zq_ck h t 0 fun _ => (Option.bind (f_X0_indexOrNew h t v_6) fun v_9 => ((zq_lp (σ := Int32 × zq_H) (ρ := zq_H) (fun s_12 => (Option.bind (zq_gi s_12.2 t 0 8) fun v_20 => (if v_20 ≤ s_12.1 then some (.inr s_12.2) else (Option.bind (zq_gr s_12.2 t 0 5) fun v_23 => (Option.bind (zq_an s_12.2 v_23) fun v_25 => (if v_25 ≤ s_12.1 then some (.inr s_12.2) else (Option.bind (zq_gr s_12.2 t 0 5) fun v_28 => (Option.bind (zq_ai s_12.2 v_28 s_12.1) fun v_30 => ((zq_lp (σ := Int32 × Int32 × zq_H) (ρ := zq_H) (fun s_32 => (Option.bind (zq_gi s_32.2.2 t 0 4) fun v_40 => (if v_40 ≤ s_32.2.1 then some (.inr s_32.2.2) else (if s_32.1 = 0 then some (.inr s_32.2.2) else (Option.bind (f_J6_bitCount_0f7a4 s_32.2.2 ((s_32.1 &&& (-s_32.1)) - 1)) fun v_44 => (Option.bind (zq_gr s_32.2.2 t 0 6) fun v_46 => (Option.bind (zq_gi s_32.2.2 t 0 4) fun v_48 => (Option.bind (zq_gr s_32.2.2 t 0 0) fun v_50 => (Option.bind (zq_gr s_32.2.2 t 0 5) fun v_52 => (Option.bind (zq_ai s_32.2.2 v_52 s_12.1) fun v_54 => (zq_ck s_32.2.2 v_50 1 fun _ => (Option.bind (f_X1_flipped s_32.2.2 v_50 v_54 v_44) fun v_56 => (zq_ck s_32.2.2 t 0 fun _ => (Option.bind (f_X0_indexOrNew s_32.2.2 t v_56) fun v_59 => (Option.bind (zq_si v_59.2 v_46 ((s_12.1 * v_48) + s_32.2.1) v_59.1) fun h_62 => (zq_let (s_32.1 &&& (s_32.1 - 1)) fun v_64 => (zq_let (s_32.2.1 + 1) fun v_66 => some (.inl (v_64, v_66, h_62))))))))))))))))))) zq_N (v_30, 0, s_12.2)).bind (fun y_35 : zq_H => (zq_let (s_12.1 + 1) fun v_68 => some (.inl (v_68, y_35))))))))))))) zq_N (0, v_9.2)).bind (fun y_15 : zq_H => some (y_15)))))))) else some (h)))
abbrev rm_X0_build : Room := { frames := 2, cells := 0, slots := 0, locals := 47 }
theorem dX0_build_0 : decode cX0_build 0 = .ok (.aload_n 0, 1) := by decide +kernel
theorem dX0_build_1 : decode cX0_build 1 = .ok (.getfield 60, 3) := by decide +kernel
theorem dX0_build_4 : decode cX0_build 4 = .ok (.ifCond .le 4, 3) := by decide +kernel
theorem dX0_build_7 : decode cX0_build 7 = .ok (.return_, 1) := by decide +kernel
theorem dX0_build_8 : decode cX0_build 8 = .ok (.aload_n 0, 1) := by decide +kernel
theorem dX0_build_9 : decode cX0_build 9 = .ok (.aload_n 0, 1) := by decide +kernel
theorem dX0_build_10 : decode cX0_build 10 = .ok (.getfield 9, 3) := by decide +kernel
theorem dX0_build_13 : decode cX0_build 13 = .ok (.iconst 0, 1) := by decide +kernel
theorem dX0_build_14 : decode cX0_build 14 = .ok (.invokevirtual 63, 3) := by decide +kernel
theorem dX0_build_17 : decode cX0_build 17 = .ok (.invokevirtual 66, 3) := by decide +kernel
theorem dX0_build_20 : decode cX0_build 20 = .ok (.pop, 1) := by decide +kernel
theorem dX0_build_21 : decode cX0_build 21 = .ok (.iconst 0, 1) := by decide +kernel
theorem dX0_build_22 : decode cX0_build 22 = .ok (.istore_n 1, 1) := by decide +kernel
theorem dX0_build_23 : decode cX0_build 23 = .ok (.iload_n 1, 1) := by decide +kernel
theorem dX0_build_24 : decode cX0_build 24 = .ok (.aload_n 0, 1) := by decide +kernel
theorem dX0_build_25 : decode cX0_build 25 = .ok (.getfield 60, 3) := by decide +kernel
theorem dX0_build_28 : decode cX0_build 28 = .ok (.if_icmp .ge 94, 3) := by decide +kernel
theorem dX0_build_31 : decode cX0_build 31 = .ok (.iload_n 1, 1) := by decide +kernel
theorem dX0_build_32 : decode cX0_build 32 = .ok (.aload_n 0, 1) := by decide +kernel
theorem dX0_build_33 : decode cX0_build 33 = .ok (.getfield 47, 3) := by decide +kernel
theorem dX0_build_36 : decode cX0_build 36 = .ok (.arraylength, 1) := by decide +kernel
theorem dX0_build_37 : decode cX0_build 37 = .ok (.if_icmp .ge 85, 3) := by decide +kernel
theorem dX0_build_40 : decode cX0_build 40 = .ok (.aload_n 0, 1) := by decide +kernel
theorem dX0_build_41 : decode cX0_build 41 = .ok (.getfield 47, 3) := by decide +kernel
theorem dX0_build_44 : decode cX0_build 44 = .ok (.iload_n 1, 1) := by decide +kernel
theorem dX0_build_45 : decode cX0_build 45 = .ok (.iaload, 1) := by decide +kernel
theorem dX0_build_46 : decode cX0_build 46 = .ok (.istore_n 2, 1) := by decide +kernel
theorem dX0_build_47 : decode cX0_build 47 = .ok (.iconst 0, 1) := by decide +kernel
theorem dX0_build_48 : decode cX0_build 48 = .ok (.istore_n 3, 1) := by decide +kernel
theorem dX0_build_49 : decode cX0_build 49 = .ok (.iload_n 3, 1) := by decide +kernel
theorem dX0_build_50 : decode cX0_build 50 = .ok (.aload_n 0, 1) := by decide +kernel
theorem dX0_build_51 : decode cX0_build 51 = .ok (.getfield 44, 3) := by decide +kernel
theorem dX0_build_54 : decode cX0_build 54 = .ok (.if_icmp .ge 62, 3) := by decide +kernel
theorem dX0_build_57 : decode cX0_build 57 = .ok (.iload_n 2, 1) := by decide +kernel
theorem dX0_build_58 : decode cX0_build 58 = .ok (.ifCond .eq 58, 3) := by decide +kernel
theorem dX0_build_61 : decode cX0_build 61 = .ok (.iload_n 2, 1) := by decide +kernel
theorem dX0_build_62 : decode cX0_build 62 = .ok (.iload_n 2, 1) := by decide +kernel
theorem dX0_build_63 : decode cX0_build 63 = .ok (.ineg, 1) := by decide +kernel
theorem dX0_build_64 : decode cX0_build 64 = .ok (.iand, 1) := by decide +kernel
theorem dX0_build_65 : decode cX0_build 65 = .ok (.iconst 1, 1) := by decide +kernel
theorem dX0_build_66 : decode cX0_build 66 = .ok (.isub, 1) := by decide +kernel
theorem dX0_build_67 : decode cX0_build 67 = .ok (.invokestatic 69, 3) := by decide +kernel
theorem dX0_build_70 : decode cX0_build 70 = .ok (.istore 4, 2) := by decide +kernel
theorem dX0_build_72 : decode cX0_build 72 = .ok (.aload_n 0, 1) := by decide +kernel
theorem dX0_build_73 : decode cX0_build 73 = .ok (.getfield 50, 3) := by decide +kernel
theorem dX0_build_76 : decode cX0_build 76 = .ok (.iload_n 1, 1) := by decide +kernel
theorem dX0_build_77 : decode cX0_build 77 = .ok (.aload_n 0, 1) := by decide +kernel
theorem dX0_build_78 : decode cX0_build 78 = .ok (.getfield 44, 3) := by decide +kernel
theorem dX0_build_81 : decode cX0_build 81 = .ok (.imul, 1) := by decide +kernel
theorem dX0_build_82 : decode cX0_build 82 = .ok (.iload_n 3, 1) := by decide +kernel
theorem dX0_build_83 : decode cX0_build 83 = .ok (.iadd, 1) := by decide +kernel
theorem dX0_build_84 : decode cX0_build 84 = .ok (.aload_n 0, 1) := by decide +kernel
theorem dX0_build_85 : decode cX0_build 85 = .ok (.aload_n 0, 1) := by decide +kernel
theorem dX0_build_86 : decode cX0_build 86 = .ok (.getfield 9, 3) := by decide +kernel
theorem dX0_build_89 : decode cX0_build 89 = .ok (.aload_n 0, 1) := by decide +kernel
theorem dX0_build_90 : decode cX0_build 90 = .ok (.getfield 47, 3) := by decide +kernel
theorem dX0_build_93 : decode cX0_build 93 = .ok (.iload_n 1, 1) := by decide +kernel
theorem dX0_build_94 : decode cX0_build 94 = .ok (.iaload, 1) := by decide +kernel
theorem dX0_build_95 : decode cX0_build 95 = .ok (.iload 4, 2) := by decide +kernel
theorem dX0_build_97 : decode cX0_build 97 = .ok (.invokevirtual 74, 3) := by decide +kernel
theorem dX0_build_100 : decode cX0_build 100 = .ok (.invokevirtual 66, 3) := by decide +kernel
theorem dX0_build_103 : decode cX0_build 103 = .ok (.iastore, 1) := by decide +kernel
theorem dX0_build_104 : decode cX0_build 104 = .ok (.iload_n 2, 1) := by decide +kernel
theorem dX0_build_105 : decode cX0_build 105 = .ok (.iload_n 2, 1) := by decide +kernel
theorem dX0_build_106 : decode cX0_build 106 = .ok (.iconst 1, 1) := by decide +kernel
theorem dX0_build_107 : decode cX0_build 107 = .ok (.isub, 1) := by decide +kernel
theorem dX0_build_108 : decode cX0_build 108 = .ok (.iand, 1) := by decide +kernel
theorem dX0_build_109 : decode cX0_build 109 = .ok (.istore_n 2, 1) := by decide +kernel
theorem dX0_build_110 : decode cX0_build 110 = .ok (.iinc 3 1, 3) := by decide +kernel
theorem dX0_build_113 : decode cX0_build 113 = .ok (.goto (-64), 3) := by decide +kernel
theorem dX0_build_116 : decode cX0_build 116 = .ok (.iinc 1 1, 3) := by decide +kernel
theorem dX0_build_119 : decode cX0_build 119 = .ok (.goto (-96), 3) := by decide +kernel
theorem dX0_build_122 : decode cX0_build 122 = .ok (.return_, 1) := by decide +kernel
set_option maxRecDepth 100000 in
set_option maxHeartbeats 4000000 in
theorem v_X0_build {X : zq_X} (C : zq_C X RX0 cX0_build 5 zq_all rm_X0_build) {h : zq_H} {t : Nat} (T : zq_T X none) (hn : X.2.2.2.2.2.2.2.2.1.name = yX0_build.name) {out : zq_H} (hF : f_X0_build h t = some out) (hE : zq_End X cX0_build 0 0 none out) : zq_W X 0 0 h 0 [(0, .ref t)] [] := by
  unfold f_X0_build at hF
  refine zq_aload_n (pc' := 1) C dX0_build_0 rfl rfl rfl ?_
  replace hF := zq_bd hF; obtain ⟨v_1, e_2, hF⟩ := hF
  refine zq_getI (j := 8) (pc' := 4) C zq_K0 zq_in0w (Or.inl wd_31) (by decide) rfl dX0_build_1 rfl e_2 ?_
  refine zq_if_le (pc' := 7) C 8 dX0_build_4 (by decide) rfl (fun c_3 => ?_) (fun c_3 => ?_)
  · have hF := (zq_ifp hF c_3)
    skip
    refine zq_aload_n (pc' := 9) C dX0_build_8 rfl rfl rfl ?_
    refine zq_aload_n (pc' := 10) C dX0_build_9 rfl rfl rfl ?_
    replace hF := zq_bd hF; obtain ⟨v_4, e_5, hF⟩ := hF
    refine zq_getR (j := 0) (pc' := 13) C zq_K0 zq_in0w (Or.inl wd_5) (by decide) rfl dX0_build_10 rfl e_5 ?_
    refine zq_iconst (pc' := 14) C 0 dX0_build_13 rfl (by decide) ?_
    replace hF := zq_ck_e hF; obtain ⟨e_8, hF⟩ := hF
    replace hF := zq_bd hF; obtain ⟨v_6, e_7, hF⟩ := hF
    refine zq_cV (pc' := 17) C (c_X1_fanOf e_7) yv_X1_fanOf wd_46 zq_K1 e_8 dX0_build_14 rfl rfl rfl ⟨Nat.le_of_ble_eq_true rfl, Nat.le_of_ble_eq_true rfl⟩ (Nat.le_of_ble_eq_true rfl) ⟨rfl, rfl⟩ ⟨Nat.le_of_ble_eq_true rfl, Nat.le_of_ble_eq_true rfl⟩ rfl ?_
    replace hF := zq_ck_e hF; obtain ⟨e_11, hF⟩ := hF
    replace hF := zq_bd hF; obtain ⟨v_9, e_10, hF⟩ := hF
    refine zq_cV (pc' := 20) C (c_X0_indexOrNew e_10) yv_X0_indexOrNew wd_49 zq_K0 e_11 dX0_build_17 rfl rfl rfl ⟨Nat.le_of_ble_eq_true rfl, Nat.le_of_ble_eq_true rfl⟩ (Nat.le_of_ble_eq_true rfl) ⟨rfl, rfl⟩ ⟨Nat.le_of_ble_eq_true rfl, Nat.le_of_ble_eq_true rfl⟩ rfl ?_
    refine zq_pop (pc' := 21) C dX0_build_20 rfl rfl ?_
    refine zq_iconst (pc' := 22) C 0 dX0_build_21 rfl (by decide) ?_
    refine zq_istore_n (lv' := [(1, .int 0), (0, .ref t)]) (pc' := 23) C dX0_build_22 rfl rfl (by decide) rfl rfl ?_
    refine zq_sub [1, 0] rfl ?_
    replace hF := zq_bd hF; obtain ⟨r_13, e_14, hF⟩ := hF
    refine zq_lpW (fun s_12 => zq_W X 0 0 s_12.2 23 [(0, .ref t), (1, .int s_12.1)] []) (fun y_15 => zq_W X 0 0 y_15 122 [] []) e_14 (fun s_12 q_19 hF hrec_17 hex_18 => ?_) ?_
    · skip
      refine zq_iload_n (pc' := 24) C dX0_build_23 rfl rfl rfl ?_
      refine zq_aload_n (pc' := 25) C dX0_build_24 rfl rfl rfl ?_
      replace hF := zq_bd hF; obtain ⟨v_20, e_21, hF⟩ := hF
      refine zq_getI (j := 8) (pc' := 28) C zq_K0 zq_in0w (Or.inl wd_31) (by decide) rfl dX0_build_25 rfl e_21 ?_
      refine zq_icmp_ge (pc' := 31) C 122 dX0_build_28 (by decide) rfl (fun c_22 => ?_) (fun c_22 => ?_)
      · have hF := (zq_ifp hF c_22)
        skip
        cases hF
        exact zq_sub [] rfl (hex_18 _ rfl)
      · have hF := (zq_ifn hF c_22)
        refine zq_iload_n (pc' := 32) C dX0_build_31 rfl rfl rfl ?_
        refine zq_aload_n (pc' := 33) C dX0_build_32 rfl rfl rfl ?_
        replace hF := zq_bd hF; obtain ⟨v_23, e_24, hF⟩ := hF
        refine zq_getR (j := 5) (pc' := 36) C zq_K0 zq_in0w (Or.inl wd_11) (by decide) rfl dX0_build_33 rfl e_24 ?_
        replace hF := zq_bd hF; obtain ⟨v_25, e_26, hF⟩ := hF
        refine zq_alen (pc' := 37) C dX0_build_36 rfl e_26 ?_
        refine zq_icmp_ge (pc' := 40) C 122 dX0_build_37 (by decide) rfl (fun c_27 => ?_) (fun c_27 => ?_)
        · have hF := (zq_ifp hF c_27)
          skip
          cases hF
          exact zq_sub [] rfl (hex_18 _ rfl)
        · have hF := (zq_ifn hF c_27)
          refine zq_aload_n (pc' := 41) C dX0_build_40 rfl rfl rfl ?_
          replace hF := zq_bd hF; obtain ⟨v_28, e_29, hF⟩ := hF
          refine zq_getR (j := 5) (pc' := 44) C zq_K0 zq_in0w (Or.inl wd_11) (by decide) rfl dX0_build_41 rfl e_29 ?_
          refine zq_iload_n (pc' := 45) C dX0_build_44 rfl rfl rfl ?_
          replace hF := zq_bd hF; obtain ⟨v_30, e_31, hF⟩ := hF
          refine zq_iaload (pc' := 46) C dX0_build_45 rfl e_31 ?_
          refine zq_istore_n (lv' := [(2, .int v_30), (0, .ref t), (1, .int s_12.1)]) (pc' := 47) C dX0_build_46 rfl rfl (by decide) rfl rfl ?_
          refine zq_iconst (pc' := 48) C 0 dX0_build_47 rfl (by decide) ?_
          refine zq_istore_n (lv' := [(3, .int 0), (2, .int v_30), (0, .ref t), (1, .int s_12.1)]) (pc' := 49) C dX0_build_48 rfl rfl (by decide) rfl rfl ?_
          refine zq_sub [2, 3, 1, 0] rfl ?_
          replace hF := zq_bd hF; obtain ⟨r_33, e_34, hF⟩ := hF
          refine zq_lpW (fun s_32 => zq_W X 0 0 s_32.2.2 49 [(0, .ref t), (1, .int s_12.1), (2, .int s_32.1), (3, .int s_32.2.1)] []) (fun y_35 => zq_W X 0 0 y_35 116 [(0, .ref t), (1, .int s_12.1)] []) e_34 (fun s_32 q_39 hF hrec_37 hex_38 => ?_) ?_
          · skip
            refine zq_iload_n (pc' := 50) C dX0_build_49 rfl rfl rfl ?_
            refine zq_aload_n (pc' := 51) C dX0_build_50 rfl rfl rfl ?_
            replace hF := zq_bd hF; obtain ⟨v_40, e_41, hF⟩ := hF
            refine zq_getI (j := 4) (pc' := 54) C zq_K0 zq_in0w (Or.inl wd_9) (by decide) rfl dX0_build_51 rfl e_41 ?_
            refine zq_icmp_ge (pc' := 57) C 116 dX0_build_54 (by decide) rfl (fun c_42 => ?_) (fun c_42 => ?_)
            · have hF := (zq_ifp hF c_42)
              skip
              cases hF
              exact zq_sub [0, 1] rfl (hex_38 _ rfl)
            · have hF := (zq_ifn hF c_42)
              refine zq_iload_n (pc' := 58) C dX0_build_57 rfl rfl rfl ?_
              refine zq_if_eq (pc' := 61) C 116 dX0_build_58 (by decide) rfl (fun c_43 => ?_) (fun c_43 => ?_)
              · have hF := (zq_ifp hF c_43)
                skip
                cases hF
                exact zq_sub [0, 1] rfl (hex_38 _ rfl)
              · have hF := (zq_ifn hF c_43)
                refine zq_iload_n (pc' := 62) C dX0_build_61 rfl rfl rfl ?_
                refine zq_iload_n (pc' := 63) C dX0_build_62 rfl rfl rfl ?_
                refine zq_ineg (pc' := 64) C dX0_build_63 rfl ?_
                refine zq_iand (pc' := 65) C dX0_build_64 rfl ?_
                refine zq_iconst (pc' := 66) C 1 dX0_build_65 rfl (by decide) ?_
                refine zq_isub (pc' := 67) C dX0_build_66 rfl ?_
                replace hF := zq_bd hF; obtain ⟨v_44, e_45, hF⟩ := hF
                refine zq_cS (pc' := 70) C (c_J6_bitCount_0f7a4 e_45) ys_J6_bitCount_0f7a4 wd_52 dX0_build_67 rfl rfl rfl ⟨Nat.le_of_ble_eq_true rfl, Nat.le_of_ble_eq_true rfl⟩ (Nat.le_of_ble_eq_true rfl) ⟨rfl, rfl⟩ ⟨Nat.le_of_ble_eq_true rfl, Nat.le_of_ble_eq_true rfl⟩ rfl ?_
                refine zq_istore (lv' := [(4, .int v_44), (0, .ref t), (1, .int s_12.1), (2, .int s_32.1), (3, .int s_32.2.1)]) (pc' := 72) C dX0_build_70 rfl (by decide) rfl rfl ?_
                refine zq_aload_n (pc' := 73) C dX0_build_72 rfl rfl rfl ?_
                replace hF := zq_bd hF; obtain ⟨v_46, e_47, hF⟩ := hF
                refine zq_getR (j := 6) (pc' := 76) C zq_K0 zq_in0w (Or.inl wd_12) (by decide) rfl dX0_build_73 rfl e_47 ?_
                refine zq_iload_n (pc' := 77) C dX0_build_76 rfl rfl rfl ?_
                refine zq_aload_n (pc' := 78) C dX0_build_77 rfl rfl rfl ?_
                replace hF := zq_bd hF; obtain ⟨v_48, e_49, hF⟩ := hF
                refine zq_getI (j := 4) (pc' := 81) C zq_K0 zq_in0w (Or.inl wd_9) (by decide) rfl dX0_build_78 rfl e_49 ?_
                refine zq_imul (pc' := 82) C dX0_build_81 rfl ?_
                refine zq_iload_n (pc' := 83) C dX0_build_82 rfl rfl rfl ?_
                refine zq_iadd (pc' := 84) C dX0_build_83 rfl ?_
                refine zq_aload_n (pc' := 85) C dX0_build_84 rfl rfl rfl ?_
                refine zq_aload_n (pc' := 86) C dX0_build_85 rfl rfl rfl ?_
                replace hF := zq_bd hF; obtain ⟨v_50, e_51, hF⟩ := hF
                refine zq_getR (j := 0) (pc' := 89) C zq_K0 zq_in0w (Or.inl wd_5) (by decide) rfl dX0_build_86 rfl e_51 ?_
                refine zq_aload_n (pc' := 90) C dX0_build_89 rfl rfl rfl ?_
                replace hF := zq_bd hF; obtain ⟨v_52, e_53, hF⟩ := hF
                refine zq_getR (j := 5) (pc' := 93) C zq_K0 zq_in0w (Or.inl wd_11) (by decide) rfl dX0_build_90 rfl e_53 ?_
                refine zq_iload_n (pc' := 94) C dX0_build_93 rfl rfl rfl ?_
                replace hF := zq_bd hF; obtain ⟨v_54, e_55, hF⟩ := hF
                refine zq_iaload (pc' := 95) C dX0_build_94 rfl e_55 ?_
                refine zq_iload (pc' := 97) C dX0_build_95 rfl rfl ?_
                replace hF := zq_ck_e hF; obtain ⟨e_58, hF⟩ := hF
                replace hF := zq_bd hF; obtain ⟨v_56, e_57, hF⟩ := hF
                refine zq_cV (pc' := 100) C (c_X1_flipped e_57) yv_X1_flipped wd_55 zq_K1 e_58 dX0_build_97 rfl rfl rfl ⟨Nat.le_of_ble_eq_true rfl, Nat.le_of_ble_eq_true rfl⟩ (Nat.le_of_ble_eq_true rfl) ⟨rfl, rfl⟩ ⟨Nat.le_of_ble_eq_true rfl, Nat.le_of_ble_eq_true rfl⟩ rfl ?_
                replace hF := zq_ck_e hF; obtain ⟨e_61, hF⟩ := hF
                replace hF := zq_bd hF; obtain ⟨v_59, e_60, hF⟩ := hF
                refine zq_cV (pc' := 103) C (c_X0_indexOrNew e_60) yv_X0_indexOrNew wd_49 zq_K0 e_61 dX0_build_100 rfl rfl rfl ⟨Nat.le_of_ble_eq_true rfl, Nat.le_of_ble_eq_true rfl⟩ (Nat.le_of_ble_eq_true rfl) ⟨rfl, rfl⟩ ⟨Nat.le_of_ble_eq_true rfl, Nat.le_of_ble_eq_true rfl⟩ rfl ?_
                replace hF := zq_bd hF; obtain ⟨h_62, e_63, hF⟩ := hF
                refine zq_iastore (pc' := 104) C dX0_build_103 rfl e_63 ?_
                refine zq_iload_n (pc' := 105) C dX0_build_104 rfl rfl rfl ?_
                refine zq_iload_n (pc' := 106) C dX0_build_105 rfl rfl rfl ?_
                refine zq_iconst (pc' := 107) C 1 dX0_build_106 rfl (by decide) ?_
                refine zq_isub (pc' := 108) C dX0_build_107 rfl ?_
                refine zq_iand (pc' := 109) C dX0_build_108 rfl ?_
                replace hF := zq_let_e hF; obtain ⟨v_64, e_65, hF⟩ := hF
                refine zq_istore_n (lv' := [(2, .int v_64), (4, .int v_44), (0, .ref t), (1, .int s_12.1), (3, .int s_32.2.1)]) (pc' := 110) C dX0_build_109 rfl rfl (by decide) e_65 rfl ?_
                replace hF := zq_let_e hF; obtain ⟨v_66, e_67, hF⟩ := hF
                refine zq_iinc (lv' := [(3, .int v_66), (2, .int v_64), (4, .int v_44), (0, .ref t), (1, .int s_12.1)]) (pc' := 113) C dX0_build_110 rfl (by decide) 4 rfl e_67 rfl ?_
                refine zq_goto C 49 dX0_build_113 (by decide) ?_
                cases hF
                exact zq_sub [3, 4, 1, 0] rfl (hrec_37 _ rfl)
          · skip
            obtain ⟨y_35, rfl⟩ : ∃ z9, z9 = r_33 := ⟨_, rfl⟩
            show zq_W X 0 0 y_35 116 [(0, .ref t), (1, .int s_12.1)] []
            replace hF := zq_let_e hF; obtain ⟨v_68, e_69, hF⟩ := hF
            refine zq_iinc (lv' := [(1, .int v_68), (0, .ref t)]) (pc' := 119) C dX0_build_116 rfl (by decide) 1 rfl e_69 rfl ?_
            refine zq_goto C 23 dX0_build_119 (by decide) ?_
            cases hF
            exact zq_sub [1, 0] rfl (hrec_17 _ rfl)
    · skip
      obtain ⟨y_15, rfl⟩ : ∃ z9, z9 = r_13 := ⟨_, rfl⟩
      show zq_W X 0 0 y_15 122 [] []
      have hF := Option.some.inj hF
      subst hF
      exact hE _ _ _ _ (Nat.le_of_ble_eq_true rfl) (Nat.le_of_ble_eq_true rfl) dX0_build_122
  · have hF := (zq_ifn hF c_3)
    have hF := Option.some.inj hF
    subst hF
    exact hE _ _ _ _ (Nat.le_of_ble_eq_true rfl) (Nat.le_of_ble_eq_true rfl) dX0_build_7
theorem c_X0_build {h : zq_H} {t : Nat} {out : zq_H} (hF : f_X0_build h t = some out) : zq_M none yX0_build (Cond.code yX0_build cX0_build 5 none :: zq_all) rm_X0_build [.ref t] h none out := zq_met2 (own := RX0) (by decide +kernel) rfl (Nat.le_of_ble_eq_true rfl) rfl rfl (fun X C T hn hE => v_X0_build C T hn hF hE)
theorem yv_X0_build : zq_calV yX0_build RX0 cX0_build 5 none 0 := ⟨by decide +kernel, wd_58, wd_198, wd_199, wd_16⟩
def f_X0_neighborOf (h : zq_H) (t : Nat) (x1 : Int32) (x2 : Int32) : Option Int32 := (Option.bind (zq_gi h t 0 4) fun v_1 => (zq_let ((x1 * v_1) + x2) fun v_3 => (if v_3 < 0 then some ((-1)) else (Option.bind (zq_gr h t 0 6) fun v_6 => (Option.bind (zq_an h v_6) fun v_8 => (if v_8 ≤ v_3 then some ((-1)) else (Option.bind (zq_gr h t 0 6) fun v_11 => (Option.bind (zq_ai h v_11 v_3) fun v_13 => some (v_13)))))))))
abbrev rm_X0_neighborOf : Room := { frames := 0, cells := 0, slots := 0, locals := 0 }
theorem dX0_neighborOf_0 : decode cX0_neighborOf 0 = .ok (.iload_n 1, 1) := by decide +kernel
theorem dX0_neighborOf_1 : decode cX0_neighborOf 1 = .ok (.aload_n 0, 1) := by decide +kernel
theorem dX0_neighborOf_2 : decode cX0_neighborOf 2 = .ok (.getfield 44, 3) := by decide +kernel
theorem dX0_neighborOf_5 : decode cX0_neighborOf 5 = .ok (.imul, 1) := by decide +kernel
theorem dX0_neighborOf_6 : decode cX0_neighborOf 6 = .ok (.iload_n 2, 1) := by decide +kernel
theorem dX0_neighborOf_7 : decode cX0_neighborOf 7 = .ok (.iadd, 1) := by decide +kernel
theorem dX0_neighborOf_8 : decode cX0_neighborOf 8 = .ok (.istore_n 3, 1) := by decide +kernel
theorem dX0_neighborOf_9 : decode cX0_neighborOf 9 = .ok (.iload_n 3, 1) := by decide +kernel
theorem dX0_neighborOf_10 : decode cX0_neighborOf 10 = .ok (.ifCond .lt 21, 3) := by decide +kernel
theorem dX0_neighborOf_13 : decode cX0_neighborOf 13 = .ok (.iload_n 3, 1) := by decide +kernel
theorem dX0_neighborOf_14 : decode cX0_neighborOf 14 = .ok (.aload_n 0, 1) := by decide +kernel
theorem dX0_neighborOf_15 : decode cX0_neighborOf 15 = .ok (.getfield 50, 3) := by decide +kernel
theorem dX0_neighborOf_18 : decode cX0_neighborOf 18 = .ok (.arraylength, 1) := by decide +kernel
theorem dX0_neighborOf_19 : decode cX0_neighborOf 19 = .ok (.if_icmp .ge 12, 3) := by decide +kernel
theorem dX0_neighborOf_22 : decode cX0_neighborOf 22 = .ok (.aload_n 0, 1) := by decide +kernel
theorem dX0_neighborOf_23 : decode cX0_neighborOf 23 = .ok (.getfield 50, 3) := by decide +kernel
theorem dX0_neighborOf_26 : decode cX0_neighborOf 26 = .ok (.iload_n 3, 1) := by decide +kernel
theorem dX0_neighborOf_27 : decode cX0_neighborOf 27 = .ok (.iaload, 1) := by decide +kernel
theorem dX0_neighborOf_28 : decode cX0_neighborOf 28 = .ok (.goto 4, 3) := by decide +kernel
theorem dX0_neighborOf_31 : decode cX0_neighborOf 31 = .ok (.iconst (-1), 1) := by decide +kernel
theorem dX0_neighborOf_32 : decode cX0_neighborOf 32 = .ok (.ireturn, 1) := by decide +kernel
set_option maxRecDepth 100000 in
set_option maxHeartbeats 4000000 in
theorem v_X0_neighborOf {X : zq_X} (C : zq_C X RX0 cX0_neighborOf 4 zq_all rm_X0_neighborOf) {h : zq_H} {t : Nat} {x1 : Int32} {x2 : Int32} (T : zq_T X none) (hn : X.2.2.2.2.2.2.2.2.1.name = yX0_neighborOf.name) {out : Int32} (hF : f_X0_neighborOf h t x1 x2 = some out) (hE : zq_End X cX0_neighborOf 0 0 (some (.int out)) h) : zq_W X 0 0 h 0 [(0, .ref t), (1, .int x1), (2, .int x2)] [] := by
  unfold f_X0_neighborOf at hF
  refine zq_iload_n (pc' := 1) C dX0_neighborOf_0 rfl rfl rfl ?_
  refine zq_aload_n (pc' := 2) C dX0_neighborOf_1 rfl rfl rfl ?_
  replace hF := zq_bd hF; obtain ⟨v_1, e_2, hF⟩ := hF
  refine zq_getI (j := 4) (pc' := 5) C zq_K0 zq_in0w (Or.inl wd_9) (by decide) rfl dX0_neighborOf_2 rfl e_2 ?_
  refine zq_imul (pc' := 6) C dX0_neighborOf_5 rfl ?_
  refine zq_iload_n (pc' := 7) C dX0_neighborOf_6 rfl rfl rfl ?_
  refine zq_iadd (pc' := 8) C dX0_neighborOf_7 rfl ?_
  replace hF := zq_let_e hF; obtain ⟨v_3, e_4, hF⟩ := hF
  refine zq_istore_n (lv' := [(3, .int v_3), (0, .ref t), (1, .int x1), (2, .int x2)]) (pc' := 9) C dX0_neighborOf_8 rfl rfl (by decide) e_4 rfl ?_
  refine zq_iload_n (pc' := 10) C dX0_neighborOf_9 rfl rfl rfl ?_
  refine zq_if_lt (pc' := 13) C 31 dX0_neighborOf_10 (by decide) rfl (fun c_5 => ?_) (fun c_5 => ?_)
  · have hF := (zq_ifp hF c_5)
    skip
    refine zq_iconst (pc' := 32) C (-1) dX0_neighborOf_31 rfl (by decide) ?_
    have hF := Option.some.inj hF
    subst hF
    exact hE _ _ _ _ (Nat.le_of_ble_eq_true rfl) (Nat.le_of_ble_eq_true rfl) dX0_neighborOf_32
  · have hF := (zq_ifn hF c_5)
    refine zq_iload_n (pc' := 14) C dX0_neighborOf_13 rfl rfl rfl ?_
    refine zq_aload_n (pc' := 15) C dX0_neighborOf_14 rfl rfl rfl ?_
    replace hF := zq_bd hF; obtain ⟨v_6, e_7, hF⟩ := hF
    refine zq_getR (j := 6) (pc' := 18) C zq_K0 zq_in0w (Or.inl wd_12) (by decide) rfl dX0_neighborOf_15 rfl e_7 ?_
    replace hF := zq_bd hF; obtain ⟨v_8, e_9, hF⟩ := hF
    refine zq_alen (pc' := 19) C dX0_neighborOf_18 rfl e_9 ?_
    refine zq_icmp_ge (pc' := 22) C 31 dX0_neighborOf_19 (by decide) rfl (fun c_10 => ?_) (fun c_10 => ?_)
    · have hF := (zq_ifp hF c_10)
      skip
      refine zq_iconst (pc' := 32) C (-1) dX0_neighborOf_31 rfl (by decide) ?_
      have hF := Option.some.inj hF
      subst hF
      exact hE _ _ _ _ (Nat.le_of_ble_eq_true rfl) (Nat.le_of_ble_eq_true rfl) dX0_neighborOf_32
    · have hF := (zq_ifn hF c_10)
      refine zq_aload_n (pc' := 23) C dX0_neighborOf_22 rfl rfl rfl ?_
      replace hF := zq_bd hF; obtain ⟨v_11, e_12, hF⟩ := hF
      refine zq_getR (j := 6) (pc' := 26) C zq_K0 zq_in0w (Or.inl wd_12) (by decide) rfl dX0_neighborOf_23 rfl e_12 ?_
      refine zq_iload_n (pc' := 27) C dX0_neighborOf_26 rfl rfl rfl ?_
      replace hF := zq_bd hF; obtain ⟨v_13, e_14, hF⟩ := hF
      refine zq_iaload (pc' := 28) C dX0_neighborOf_27 rfl e_14 ?_
      refine zq_goto C 32 dX0_neighborOf_28 (by decide) ?_
      have hF := Option.some.inj hF
      subst hF
      exact hE _ _ _ _ (Nat.le_of_ble_eq_true rfl) (Nat.le_of_ble_eq_true rfl) dX0_neighborOf_32
theorem c_X0_neighborOf {h : zq_H} {t : Nat} {x1 : Int32} {x2 : Int32} {out : Int32} (hF : f_X0_neighborOf h t x1 x2 = some out) : zq_M none yX0_neighborOf (Cond.code yX0_neighborOf cX0_neighborOf 4 (some .int) :: zq_all) rm_X0_neighborOf [.ref t, .int x1, .int x2] h (some (.int out)) h := zq_met2 (own := RX0) (by decide +kernel) rfl (Nat.le_of_ble_eq_true rfl) rfl ⟨.int, rfl, rfl⟩ (fun X C T hn hE => v_X0_neighborOf C T hn hF hE)
theorem yv_X0_neighborOf : zq_calV yX0_neighborOf RX0 cX0_neighborOf 4 (some .int) 2 := ⟨by decide +kernel, wd_59, wd_135, wd_136, wd_16⟩
def f_X0_maskAt (h : zq_H) (t : Nat) (x1 : Int32) : Option Int32 := (if x1 < 0 then some (0) else (Option.bind (zq_gr h t 0 5) fun v_2 => (Option.bind (zq_an h v_2) fun v_4 => (if v_4 ≤ x1 then some (0) else (Option.bind (zq_gr h t 0 5) fun v_7 => (Option.bind (zq_ai h v_7 x1) fun v_9 => some (v_9)))))))
abbrev rm_X0_maskAt : Room := { frames := 0, cells := 0, slots := 0, locals := 0 }
theorem dX0_maskAt_0 : decode cX0_maskAt 0 = .ok (.iload_n 1, 1) := by decide +kernel
theorem dX0_maskAt_1 : decode cX0_maskAt 1 = .ok (.ifCond .lt 21, 3) := by decide +kernel
theorem dX0_maskAt_4 : decode cX0_maskAt 4 = .ok (.iload_n 1, 1) := by decide +kernel
theorem dX0_maskAt_5 : decode cX0_maskAt 5 = .ok (.aload_n 0, 1) := by decide +kernel
theorem dX0_maskAt_6 : decode cX0_maskAt 6 = .ok (.getfield 47, 3) := by decide +kernel
theorem dX0_maskAt_9 : decode cX0_maskAt 9 = .ok (.arraylength, 1) := by decide +kernel
theorem dX0_maskAt_10 : decode cX0_maskAt 10 = .ok (.if_icmp .ge 12, 3) := by decide +kernel
theorem dX0_maskAt_13 : decode cX0_maskAt 13 = .ok (.aload_n 0, 1) := by decide +kernel
theorem dX0_maskAt_14 : decode cX0_maskAt 14 = .ok (.getfield 47, 3) := by decide +kernel
theorem dX0_maskAt_17 : decode cX0_maskAt 17 = .ok (.iload_n 1, 1) := by decide +kernel
theorem dX0_maskAt_18 : decode cX0_maskAt 18 = .ok (.iaload, 1) := by decide +kernel
theorem dX0_maskAt_19 : decode cX0_maskAt 19 = .ok (.goto 4, 3) := by decide +kernel
theorem dX0_maskAt_22 : decode cX0_maskAt 22 = .ok (.iconst 0, 1) := by decide +kernel
theorem dX0_maskAt_23 : decode cX0_maskAt 23 = .ok (.ireturn, 1) := by decide +kernel
set_option maxRecDepth 100000 in
set_option maxHeartbeats 4000000 in
theorem v_X0_maskAt {X : zq_X} (C : zq_C X RX0 cX0_maskAt 2 zq_all rm_X0_maskAt) {h : zq_H} {t : Nat} {x1 : Int32} (T : zq_T X none) (hn : X.2.2.2.2.2.2.2.2.1.name = yX0_maskAt.name) {out : Int32} (hF : f_X0_maskAt h t x1 = some out) (hE : zq_End X cX0_maskAt 0 0 (some (.int out)) h) : zq_W X 0 0 h 0 [(0, .ref t), (1, .int x1)] [] := by
  unfold f_X0_maskAt at hF
  refine zq_iload_n (pc' := 1) C dX0_maskAt_0 rfl rfl rfl ?_
  refine zq_if_lt (pc' := 4) C 22 dX0_maskAt_1 (by decide) rfl (fun c_1 => ?_) (fun c_1 => ?_)
  · have hF := (zq_ifp hF c_1)
    skip
    refine zq_iconst (pc' := 23) C 0 dX0_maskAt_22 rfl (by decide) ?_
    have hF := Option.some.inj hF
    subst hF
    exact hE _ _ _ _ (Nat.le_of_ble_eq_true rfl) (Nat.le_of_ble_eq_true rfl) dX0_maskAt_23
  · have hF := (zq_ifn hF c_1)
    refine zq_iload_n (pc' := 5) C dX0_maskAt_4 rfl rfl rfl ?_
    refine zq_aload_n (pc' := 6) C dX0_maskAt_5 rfl rfl rfl ?_
    replace hF := zq_bd hF; obtain ⟨v_2, e_3, hF⟩ := hF
    refine zq_getR (j := 5) (pc' := 9) C zq_K0 zq_in0w (Or.inl wd_11) (by decide) rfl dX0_maskAt_6 rfl e_3 ?_
    replace hF := zq_bd hF; obtain ⟨v_4, e_5, hF⟩ := hF
    refine zq_alen (pc' := 10) C dX0_maskAt_9 rfl e_5 ?_
    refine zq_icmp_ge (pc' := 13) C 22 dX0_maskAt_10 (by decide) rfl (fun c_6 => ?_) (fun c_6 => ?_)
    · have hF := (zq_ifp hF c_6)
      skip
      refine zq_iconst (pc' := 23) C 0 dX0_maskAt_22 rfl (by decide) ?_
      have hF := Option.some.inj hF
      subst hF
      exact hE _ _ _ _ (Nat.le_of_ble_eq_true rfl) (Nat.le_of_ble_eq_true rfl) dX0_maskAt_23
    · have hF := (zq_ifn hF c_6)
      refine zq_aload_n (pc' := 14) C dX0_maskAt_13 rfl rfl rfl ?_
      replace hF := zq_bd hF; obtain ⟨v_7, e_8, hF⟩ := hF
      refine zq_getR (j := 5) (pc' := 17) C zq_K0 zq_in0w (Or.inl wd_11) (by decide) rfl dX0_maskAt_14 rfl e_8 ?_
      refine zq_iload_n (pc' := 18) C dX0_maskAt_17 rfl rfl rfl ?_
      replace hF := zq_bd hF; obtain ⟨v_9, e_10, hF⟩ := hF
      refine zq_iaload (pc' := 19) C dX0_maskAt_18 rfl e_10 ?_
      refine zq_goto C 23 dX0_maskAt_19 (by decide) ?_
      have hF := Option.some.inj hF
      subst hF
      exact hE _ _ _ _ (Nat.le_of_ble_eq_true rfl) (Nat.le_of_ble_eq_true rfl) dX0_maskAt_23
theorem c_X0_maskAt {h : zq_H} {t : Nat} {x1 : Int32} {out : Int32} (hF : f_X0_maskAt h t x1 = some out) : zq_M none yX0_maskAt (Cond.code yX0_maskAt cX0_maskAt 2 (some .int) :: zq_all) rm_X0_maskAt [.ref t, .int x1] h (some (.int out)) h := zq_met2 (own := RX0) (by decide +kernel) rfl (Nat.le_of_ble_eq_true rfl) rfl ⟨.int, rfl, rfl⟩ (fun X C T hn hE => v_X0_maskAt C T hn hF hE)
theorem yv_X0_maskAt : zq_calV yX0_maskAt RX0 cX0_maskAt 2 (some .int) 1 := ⟨by decide +kernel, wd_60, wd_132, wd_133, wd_16⟩
def f_X0_indexOf (h : zq_H) (t : Nat) (x1 : Int32) : Option Int32 := (Option.bind (zq_gr h t 0 7) fun v_1 => (zq_ck h t 0 fun _ => (Option.bind (f_X0_slotOf h t x1) fun v_3 => (Option.bind (zq_ai h v_1 v_3) fun v_6 => some (v_6 - 1)))))
abbrev rm_X0_indexOf : Room := { frames := 1, cells := 0, slots := 0, locals := 24 }
theorem dX0_indexOf_0 : decode cX0_indexOf 0 = .ok (.aload_n 0, 1) := by decide +kernel
theorem dX0_indexOf_1 : decode cX0_indexOf 1 = .ok (.getfield 57, 3) := by decide +kernel
theorem dX0_indexOf_4 : decode cX0_indexOf 4 = .ok (.aload_n 0, 1) := by decide +kernel
theorem dX0_indexOf_5 : decode cX0_indexOf 5 = .ok (.iload_n 1, 1) := by decide +kernel
theorem dX0_indexOf_6 : decode cX0_indexOf 6 = .ok (.invokevirtual 78, 3) := by decide +kernel
theorem dX0_indexOf_9 : decode cX0_indexOf 9 = .ok (.iaload, 1) := by decide +kernel
theorem dX0_indexOf_10 : decode cX0_indexOf 10 = .ok (.iconst 1, 1) := by decide +kernel
theorem dX0_indexOf_11 : decode cX0_indexOf 11 = .ok (.isub, 1) := by decide +kernel
theorem dX0_indexOf_12 : decode cX0_indexOf 12 = .ok (.ireturn, 1) := by decide +kernel
set_option maxRecDepth 100000 in
set_option maxHeartbeats 4000000 in
theorem v_X0_indexOf {X : zq_X} (C : zq_C X RX0 cX0_indexOf 2 zq_all rm_X0_indexOf) {h : zq_H} {t : Nat} {x1 : Int32} (T : zq_T X none) (hn : X.2.2.2.2.2.2.2.2.1.name = yX0_indexOf.name) {out : Int32} (hF : f_X0_indexOf h t x1 = some out) (hE : zq_End X cX0_indexOf 0 0 (some (.int out)) h) : zq_W X 0 0 h 0 [(0, .ref t), (1, .int x1)] [] := by
  unfold f_X0_indexOf at hF
  refine zq_aload_n (pc' := 1) C dX0_indexOf_0 rfl rfl rfl ?_
  replace hF := zq_bd hF; obtain ⟨v_1, e_2, hF⟩ := hF
  refine zq_getR (j := 7) (pc' := 4) C zq_K0 zq_in0w (Or.inl wd_13) (by decide) rfl dX0_indexOf_1 rfl e_2 ?_
  refine zq_aload_n (pc' := 5) C dX0_indexOf_4 rfl rfl rfl ?_
  refine zq_iload_n (pc' := 6) C dX0_indexOf_5 rfl rfl rfl ?_
  replace hF := zq_ck_e hF; obtain ⟨e_5, hF⟩ := hF
  replace hF := zq_bd hF; obtain ⟨v_3, e_4, hF⟩ := hF
  refine zq_cV (pc' := 9) C (c_X0_slotOf e_4) yv_X0_slotOf wd_32 zq_K0 e_5 dX0_indexOf_6 rfl rfl rfl ⟨Nat.le_of_ble_eq_true rfl, Nat.le_of_ble_eq_true rfl⟩ (Nat.le_of_ble_eq_true rfl) ⟨rfl, rfl⟩ ⟨Nat.le_of_ble_eq_true rfl, Nat.le_of_ble_eq_true rfl⟩ rfl ?_
  replace hF := zq_bd hF; obtain ⟨v_6, e_7, hF⟩ := hF
  refine zq_iaload (pc' := 10) C dX0_indexOf_9 rfl e_7 ?_
  refine zq_iconst (pc' := 11) C 1 dX0_indexOf_10 rfl (by decide) ?_
  refine zq_isub (pc' := 12) C dX0_indexOf_11 rfl ?_
  have hF := Option.some.inj hF
  subst hF
  exact hE _ _ _ _ (Nat.le_of_ble_eq_true rfl) (Nat.le_of_ble_eq_true rfl) dX0_indexOf_12
theorem c_X0_indexOf {h : zq_H} {t : Nat} {x1 : Int32} {out : Int32} (hF : f_X0_indexOf h t x1 = some out) : zq_M none yX0_indexOf (Cond.code yX0_indexOf cX0_indexOf 2 (some .int) :: zq_all) rm_X0_indexOf [.ref t, .int x1] h (some (.int out)) h := zq_met2 (own := RX0) (by decide +kernel) rfl (Nat.le_of_ble_eq_true rfl) rfl ⟨.int, rfl, rfl⟩ (fun X C T hn hE => v_X0_indexOf C T hn hF hE)
theorem yv_X0_indexOf : zq_calV yX0_indexOf RX0 cX0_indexOf 2 (some .int) 1 := ⟨by decide +kernel, wd_61, wd_139, wd_140, wd_16⟩
