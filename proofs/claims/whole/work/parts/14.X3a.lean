def f_X3_init (h : zq_H) (t : Nat) : Option Unit := some (())
abbrev rm_X3_init : Room := { frames := 1, cells := 0, slots := 0, locals := 20 }
theorem dX3_init_0 : decode cX3_init 0 = .ok (.aload_n 0, 1) := by decide +kernel
theorem dX3_init_1 : decode cX3_init 1 = .ok (.invokespecial 3, 3) := by decide +kernel
theorem dX3_init_4 : decode cX3_init 4 = .ok (.return_, 1) := by decide +kernel
set_option maxRecDepth 100000 in
set_option maxHeartbeats 4000000 in
theorem v_X3_init {X : zq_X} (C : zq_C X RX3 cX3_init 1 zq_all rm_X3_init) {h : zq_H} {t : Nat} (T : zq_T X none) (hn : X.2.2.2.2.2.2.2.2.1.name = yX3_init.name) {out : Unit} (hF : f_X3_init h t = some out) (hE : zq_End X cX3_init 0 0 none h) : zq_W X 0 0 h 0 [(0, .ref t)] [] := by
  unfold f_X3_init at hF
  refine zq_aload_n (pc' := 1) C dX3_init_0 rfl rfl rfl ?_
  refine zq_objInit (pc' := 4) C wd_155 wd_3 wd_4 dX3_init_1 rfl (by decide) (Nat.le_of_ble_eq_true rfl) (Nat.le_of_ble_eq_true rfl) ?_
  have hF := Option.some.inj hF
  subst hF
  exact hE _ _ _ _ (Nat.le_of_ble_eq_true rfl) (Nat.le_of_ble_eq_true rfl) dX3_init_4
theorem c_X3_init {h : zq_H} {t : Nat} {out : Unit} (hF : f_X3_init h t = some out) : zq_M none yX3_init (Cond.code yX3_init cX3_init 1 none :: zq_all) rm_X3_init [.ref t] h none h := zq_met2 (own := RX3) (by decide +kernel) rfl (Nat.le_of_ble_eq_true rfl) rfl rfl (fun X C T hn hE => v_X3_init C T hn hF hE)
theorem yi_X3_init : zq_Y yX3_init 0 := by decide +kernel
def f_X3_startWith (h : zq_H) (t : Nat) (r1 : Nat) : Option zq_H := (Option.bind (zq_pr h t 3 0 r1) fun h_1 => (Option.bind (zq_gr h_1 r1 0 0) fun v_3 => (zq_ck h_1 v_3 1 fun _ => (Option.bind (f_X1_fanOf h_1 v_3 0) fun v_5 => (Option.bind (zq_pi h_1 t 3 1 v_5) fun h_8 => (Option.bind (zq_gi h_8 t 3 1) fun v_10 => (Option.bind (zq_pi h_8 t 3 2 v_10) fun h_12 => (Option.bind (zq_pi h_12 t 3 3 0) fun h_14 => some (h_14)))))))))
abbrev rm_X3_startWith : Room := { frames := 2, cells := 0, slots := 0, locals := 42 }
theorem dX3_startWith_0 : decode cX3_startWith 0 = .ok (.aload_n 0, 1) := by decide +kernel
theorem dX3_startWith_1 : decode cX3_startWith 1 = .ok (.aload_n 1, 1) := by decide +kernel
theorem dX3_startWith_2 : decode cX3_startWith 2 = .ok (.putfield 9, 3) := by decide +kernel
theorem dX3_startWith_5 : decode cX3_startWith 5 = .ok (.aload_n 0, 1) := by decide +kernel
theorem dX3_startWith_6 : decode cX3_startWith 6 = .ok (.aload_n 1, 1) := by decide +kernel
theorem dX3_startWith_7 : decode cX3_startWith 7 = .ok (.getfield 15, 3) := by decide +kernel
theorem dX3_startWith_10 : decode cX3_startWith 10 = .ok (.iconst 0, 1) := by decide +kernel
theorem dX3_startWith_11 : decode cX3_startWith 11 = .ok (.invokevirtual 21, 3) := by decide +kernel
theorem dX3_startWith_14 : decode cX3_startWith 14 = .ok (.putfield 27, 3) := by decide +kernel
theorem dX3_startWith_17 : decode cX3_startWith 17 = .ok (.aload_n 0, 1) := by decide +kernel
theorem dX3_startWith_18 : decode cX3_startWith 18 = .ok (.aload_n 0, 1) := by decide +kernel
theorem dX3_startWith_19 : decode cX3_startWith 19 = .ok (.getfield 27, 3) := by decide +kernel
theorem dX3_startWith_22 : decode cX3_startWith 22 = .ok (.putfield 31, 3) := by decide +kernel
theorem dX3_startWith_25 : decode cX3_startWith 25 = .ok (.aload_n 0, 1) := by decide +kernel
theorem dX3_startWith_26 : decode cX3_startWith 26 = .ok (.iconst 0, 1) := by decide +kernel
theorem dX3_startWith_27 : decode cX3_startWith 27 = .ok (.putfield 34, 3) := by decide +kernel
theorem dX3_startWith_30 : decode cX3_startWith 30 = .ok (.return_, 1) := by decide +kernel
set_option maxRecDepth 100000 in
set_option maxHeartbeats 4000000 in
theorem v_X3_startWith {X : zq_X} (C : zq_C X RX3 cX3_startWith 2 zq_all rm_X3_startWith) {h : zq_H} {t : Nat} {r1 : Nat} (T : zq_T X none) (hn : X.2.2.2.2.2.2.2.2.1.name = yX3_startWith.name) {out : zq_H} (hF : f_X3_startWith h t r1 = some out) (hE : zq_End X cX3_startWith 0 0 none out) : zq_W X 0 0 h 0 [(0, .ref t), (1, .ref r1)] [] := by
  unfold f_X3_startWith at hF
  refine zq_aload_n (pc' := 1) C dX3_startWith_0 rfl rfl rfl ?_
  refine zq_aload_n (pc' := 2) C dX3_startWith_1 rfl rfl rfl ?_
  replace hF := zq_bd hF; obtain ⟨h_1, e_2, hF⟩ := hF
  refine zq_putR (j := 0) (pc' := 5) C zq_K3 zq_in3w (Or.inl wd_157) (by decide) rfl (Or.inl ⟨_, rfl⟩) dX3_startWith_2 rfl (Or.inl rfl) e_2 ?_
  refine zq_aload_n (pc' := 6) C dX3_startWith_5 rfl rfl rfl ?_
  refine zq_aload_n (pc' := 7) C dX3_startWith_6 rfl rfl rfl ?_
  replace hF := zq_bd hF; obtain ⟨v_3, e_4, hF⟩ := hF
  refine zq_getR (j := 0) (pc' := 10) C zq_K0 zq_in0w (Or.inr ⟨"FlipPolygons", by decide +kernel⟩) (by decide) rfl dX3_startWith_7 rfl e_4 ?_
  refine zq_iconst (pc' := 11) C 0 dX3_startWith_10 rfl (by decide) ?_
  replace hF := zq_ck_e hF; obtain ⟨e_7, hF⟩ := hF
  replace hF := zq_bd hF; obtain ⟨v_5, e_6, hF⟩ := hF
  refine zq_cV (pc' := 14) C (c_X1_fanOf e_6) yv_X1_fanOf wd_161 zq_K1 e_7 dX3_startWith_11 rfl rfl rfl ⟨Nat.le_of_ble_eq_true rfl, Nat.le_of_ble_eq_true rfl⟩ (Nat.le_of_ble_eq_true rfl) ⟨rfl, rfl⟩ ⟨Nat.le_of_ble_eq_true rfl, Nat.le_of_ble_eq_true rfl⟩ rfl ?_
  replace hF := zq_bd hF; obtain ⟨h_8, e_9, hF⟩ := hF
  refine zq_putI (j := 1) (pc' := 17) C zq_K3 zq_in3w (Or.inl wd_158) (by decide) rfl rfl dX3_startWith_14 rfl (Or.inl rfl) e_9 ?_
  refine zq_aload_n (pc' := 18) C dX3_startWith_17 rfl rfl rfl ?_
  refine zq_aload_n (pc' := 19) C dX3_startWith_18 rfl rfl rfl ?_
  replace hF := zq_bd hF; obtain ⟨v_10, e_11, hF⟩ := hF
  refine zq_getI (j := 1) (pc' := 22) C zq_K3 zq_in3w (Or.inl wd_158) (by decide) rfl dX3_startWith_19 rfl e_11 ?_
  replace hF := zq_bd hF; obtain ⟨h_12, e_13, hF⟩ := hF
  refine zq_putI (j := 2) (pc' := 25) C zq_K3 zq_in3w (Or.inl wd_159) (by decide) rfl rfl dX3_startWith_22 rfl (Or.inl rfl) e_13 ?_
  refine zq_aload_n (pc' := 26) C dX3_startWith_25 rfl rfl rfl ?_
  refine zq_iconst (pc' := 27) C 0 dX3_startWith_26 rfl (by decide) ?_
  replace hF := zq_bd hF; obtain ⟨h_14, e_15, hF⟩ := hF
  refine zq_putI (j := 3) (pc' := 30) C zq_K3 zq_in3w (Or.inl wd_160) (by decide) rfl rfl dX3_startWith_27 rfl (Or.inl rfl) e_15 ?_
  have hF := Option.some.inj hF
  subst hF
  exact hE _ _ _ _ (Nat.le_of_ble_eq_true rfl) (Nat.le_of_ble_eq_true rfl) dX3_startWith_30
theorem c_X3_startWith {h : zq_H} {t : Nat} {r1 : Nat} {out : zq_H} (hF : f_X3_startWith h t r1 = some out) : zq_M none yX3_startWith (Cond.code yX3_startWith cX3_startWith 2 none :: zq_all) rm_X3_startWith [.ref t, .ref r1] h none out := zq_met2 (own := RX3) (by decide +kernel) rfl (Nat.le_of_ble_eq_true rfl) rfl rfl (fun X C T hn hE => v_X3_startWith C T hn hF hE)
theorem yv_X3_startWith : zq_calV yX3_startWith RX3 cX3_startWith 2 none 1 := ⟨by decide +kernel, wd_156, wd_231, wd_232, wd_209⟩
def f_X3_copy (h : zq_H) (t : Nat) (r1 : Nat) : Option zq_H := (Option.bind (zq_gr h r1 3 0) fun v_1 => (Option.bind (zq_pr h t 3 0 v_1) fun h_3 => (Option.bind (zq_gi h_3 r1 3 1) fun v_5 => (Option.bind (zq_pi h_3 t 3 1 v_5) fun h_7 => (Option.bind (zq_gi h_7 r1 3 2) fun v_9 => (Option.bind (zq_pi h_7 t 3 2 v_9) fun h_11 => (Option.bind (zq_gi h_11 r1 3 3) fun v_13 => (Option.bind (zq_pi h_11 t 3 3 v_13) fun h_15 => (Option.bind (zq_gi h_15 r1 3 4) fun v_17 => (Option.bind (zq_pi h_15 t 3 4 v_17) fun h_19 => some (h_19)))))))))))
abbrev rm_X3_copy : Room := { frames := 0, cells := 0, slots := 0, locals := 0 }
theorem dX3_copy_0 : decode cX3_copy 0 = .ok (.aload_n 0, 1) := by decide +kernel
theorem dX3_copy_1 : decode cX3_copy 1 = .ok (.aload_n 1, 1) := by decide +kernel
theorem dX3_copy_2 : decode cX3_copy 2 = .ok (.getfield 9, 3) := by decide +kernel
theorem dX3_copy_5 : decode cX3_copy 5 = .ok (.putfield 9, 3) := by decide +kernel
theorem dX3_copy_8 : decode cX3_copy 8 = .ok (.aload_n 0, 1) := by decide +kernel
theorem dX3_copy_9 : decode cX3_copy 9 = .ok (.aload_n 1, 1) := by decide +kernel
theorem dX3_copy_10 : decode cX3_copy 10 = .ok (.getfield 27, 3) := by decide +kernel
theorem dX3_copy_13 : decode cX3_copy 13 = .ok (.putfield 27, 3) := by decide +kernel
theorem dX3_copy_16 : decode cX3_copy 16 = .ok (.aload_n 0, 1) := by decide +kernel
theorem dX3_copy_17 : decode cX3_copy 17 = .ok (.aload_n 1, 1) := by decide +kernel
theorem dX3_copy_18 : decode cX3_copy 18 = .ok (.getfield 31, 3) := by decide +kernel
theorem dX3_copy_21 : decode cX3_copy 21 = .ok (.putfield 31, 3) := by decide +kernel
theorem dX3_copy_24 : decode cX3_copy 24 = .ok (.aload_n 0, 1) := by decide +kernel
theorem dX3_copy_25 : decode cX3_copy 25 = .ok (.aload_n 1, 1) := by decide +kernel
theorem dX3_copy_26 : decode cX3_copy 26 = .ok (.getfield 34, 3) := by decide +kernel
theorem dX3_copy_29 : decode cX3_copy 29 = .ok (.putfield 34, 3) := by decide +kernel
theorem dX3_copy_32 : decode cX3_copy 32 = .ok (.aload_n 0, 1) := by decide +kernel
theorem dX3_copy_33 : decode cX3_copy 33 = .ok (.aload_n 1, 1) := by decide +kernel
theorem dX3_copy_34 : decode cX3_copy 34 = .ok (.getfield 37, 3) := by decide +kernel
theorem dX3_copy_37 : decode cX3_copy 37 = .ok (.putfield 37, 3) := by decide +kernel
theorem dX3_copy_40 : decode cX3_copy 40 = .ok (.return_, 1) := by decide +kernel
set_option maxRecDepth 100000 in
set_option maxHeartbeats 4000000 in
theorem v_X3_copy {X : zq_X} (C : zq_C X RX3 cX3_copy 2 zq_all rm_X3_copy) {h : zq_H} {t : Nat} {r1 : Nat} (T : zq_T X none) (hn : X.2.2.2.2.2.2.2.2.1.name = yX3_copy.name) {out : zq_H} (hF : f_X3_copy h t r1 = some out) (hE : zq_End X cX3_copy 0 0 none out) : zq_W X 0 0 h 0 [(0, .ref t), (1, .ref r1)] [] := by
  unfold f_X3_copy at hF
  refine zq_aload_n (pc' := 1) C dX3_copy_0 rfl rfl rfl ?_
  refine zq_aload_n (pc' := 2) C dX3_copy_1 rfl rfl rfl ?_
  replace hF := zq_bd hF; obtain ⟨v_1, e_2, hF⟩ := hF
  refine zq_getR (j := 0) (pc' := 5) C zq_K3 zq_in3w (Or.inl wd_157) (by decide) rfl dX3_copy_2 rfl e_2 ?_
  replace hF := zq_bd hF; obtain ⟨h_3, e_4, hF⟩ := hF
  refine zq_putR (j := 0) (pc' := 8) C zq_K3 zq_in3w (Or.inl wd_157) (by decide) rfl (Or.inl ⟨_, rfl⟩) dX3_copy_5 rfl (Or.inl rfl) e_4 ?_
  refine zq_aload_n (pc' := 9) C dX3_copy_8 rfl rfl rfl ?_
  refine zq_aload_n (pc' := 10) C dX3_copy_9 rfl rfl rfl ?_
  replace hF := zq_bd hF; obtain ⟨v_5, e_6, hF⟩ := hF
  refine zq_getI (j := 1) (pc' := 13) C zq_K3 zq_in3w (Or.inl wd_158) (by decide) rfl dX3_copy_10 rfl e_6 ?_
  replace hF := zq_bd hF; obtain ⟨h_7, e_8, hF⟩ := hF
  refine zq_putI (j := 1) (pc' := 16) C zq_K3 zq_in3w (Or.inl wd_158) (by decide) rfl rfl dX3_copy_13 rfl (Or.inl rfl) e_8 ?_
  refine zq_aload_n (pc' := 17) C dX3_copy_16 rfl rfl rfl ?_
  refine zq_aload_n (pc' := 18) C dX3_copy_17 rfl rfl rfl ?_
  replace hF := zq_bd hF; obtain ⟨v_9, e_10, hF⟩ := hF
  refine zq_getI (j := 2) (pc' := 21) C zq_K3 zq_in3w (Or.inl wd_159) (by decide) rfl dX3_copy_18 rfl e_10 ?_
  replace hF := zq_bd hF; obtain ⟨h_11, e_12, hF⟩ := hF
  refine zq_putI (j := 2) (pc' := 24) C zq_K3 zq_in3w (Or.inl wd_159) (by decide) rfl rfl dX3_copy_21 rfl (Or.inl rfl) e_12 ?_
  refine zq_aload_n (pc' := 25) C dX3_copy_24 rfl rfl rfl ?_
  refine zq_aload_n (pc' := 26) C dX3_copy_25 rfl rfl rfl ?_
  replace hF := zq_bd hF; obtain ⟨v_13, e_14, hF⟩ := hF
  refine zq_getI (j := 3) (pc' := 29) C zq_K3 zq_in3w (Or.inl wd_160) (by decide) rfl dX3_copy_26 rfl e_14 ?_
  replace hF := zq_bd hF; obtain ⟨h_15, e_16, hF⟩ := hF
  refine zq_putI (j := 3) (pc' := 32) C zq_K3 zq_in3w (Or.inl wd_160) (by decide) rfl rfl dX3_copy_29 rfl (Or.inl rfl) e_16 ?_
  refine zq_aload_n (pc' := 33) C dX3_copy_32 rfl rfl rfl ?_
  refine zq_aload_n (pc' := 34) C dX3_copy_33 rfl rfl rfl ?_
  replace hF := zq_bd hF; obtain ⟨v_17, e_18, hF⟩ := hF
  refine zq_getI (j := 4) (pc' := 37) C zq_K3 zq_in3w (Or.inl wd_163) (by decide) rfl dX3_copy_34 rfl e_18 ?_
  replace hF := zq_bd hF; obtain ⟨h_19, e_20, hF⟩ := hF
  refine zq_putI (j := 4) (pc' := 40) C zq_K3 zq_in3w (Or.inl wd_163) (by decide) rfl rfl dX3_copy_37 rfl (Or.inl rfl) e_20 ?_
  have hF := Option.some.inj hF
  subst hF
  exact hE _ _ _ _ (Nat.le_of_ble_eq_true rfl) (Nat.le_of_ble_eq_true rfl) dX3_copy_40
theorem c_X3_copy {h : zq_H} {t : Nat} {r1 : Nat} {out : zq_H} (hF : f_X3_copy h t r1 = some out) : zq_M none yX3_copy (Cond.code yX3_copy cX3_copy 2 none :: zq_all) rm_X3_copy [.ref t, .ref r1] h none out := zq_met2 (own := RX3) (by decide +kernel) rfl (Nat.le_of_ble_eq_true rfl) rfl rfl (fun X C T hn hE => v_X3_copy C T hn hF hE)
theorem yv_X3_copy : zq_calV yX3_copy RX3 cX3_copy 2 none 1 := ⟨by decide +kernel, wd_162, wd_241, wd_242, wd_209⟩
def f_X3_mask (h : zq_H) (t : Nat) (x1 : Int32) : Option Int32 := (if x1 = 0 then (Option.bind (zq_gi h t 3 1) fun v_4 => some (v_4)) else (Option.bind (zq_gi h t 3 2) fun v_2 => some (v_2)))
abbrev rm_X3_mask : Room := { frames := 0, cells := 0, slots := 0, locals := 0 }
theorem dX3_mask_0 : decode cX3_mask 0 = .ok (.iload_n 1, 1) := by decide +kernel
theorem dX3_mask_1 : decode cX3_mask 1 = .ok (.ifCond .ne 10, 3) := by decide +kernel
theorem dX3_mask_4 : decode cX3_mask 4 = .ok (.aload_n 0, 1) := by decide +kernel
theorem dX3_mask_5 : decode cX3_mask 5 = .ok (.getfield 27, 3) := by decide +kernel
theorem dX3_mask_8 : decode cX3_mask 8 = .ok (.goto 7, 3) := by decide +kernel
theorem dX3_mask_11 : decode cX3_mask 11 = .ok (.aload_n 0, 1) := by decide +kernel
theorem dX3_mask_12 : decode cX3_mask 12 = .ok (.getfield 31, 3) := by decide +kernel
theorem dX3_mask_15 : decode cX3_mask 15 = .ok (.ireturn, 1) := by decide +kernel
set_option maxRecDepth 100000 in
set_option maxHeartbeats 4000000 in
theorem v_X3_mask {X : zq_X} (C : zq_C X RX3 cX3_mask 2 zq_all rm_X3_mask) {h : zq_H} {t : Nat} {x1 : Int32} (T : zq_T X none) (hn : X.2.2.2.2.2.2.2.2.1.name = yX3_mask.name) {out : Int32} (hF : f_X3_mask h t x1 = some out) (hE : zq_End X cX3_mask 0 0 (some (.int out)) h) : zq_W X 0 0 h 0 [(0, .ref t), (1, .int x1)] [] := by
  unfold f_X3_mask at hF
  refine zq_iload_n (pc' := 1) C dX3_mask_0 rfl rfl rfl ?_
  refine zq_if_ne (pc' := 4) C 11 dX3_mask_1 (by decide) rfl (fun c_1 => ?_) (fun c_1 => ?_)
  · have hF := (zq_ifn hF c_1)
    skip
    refine zq_aload_n (pc' := 12) C dX3_mask_11 rfl rfl rfl ?_
    replace hF := zq_bd hF; obtain ⟨v_2, e_3, hF⟩ := hF
    refine zq_getI (j := 2) (pc' := 15) C zq_K3 zq_in3w (Or.inl wd_159) (by decide) rfl dX3_mask_12 rfl e_3 ?_
    have hF := Option.some.inj hF
    subst hF
    exact hE _ _ _ _ (Nat.le_of_ble_eq_true rfl) (Nat.le_of_ble_eq_true rfl) dX3_mask_15
  · have hF := (zq_ifp hF c_1)
    refine zq_aload_n (pc' := 5) C dX3_mask_4 rfl rfl rfl ?_
    replace hF := zq_bd hF; obtain ⟨v_4, e_5, hF⟩ := hF
    refine zq_getI (j := 1) (pc' := 8) C zq_K3 zq_in3w (Or.inl wd_158) (by decide) rfl dX3_mask_5 rfl e_5 ?_
    refine zq_goto C 15 dX3_mask_8 (by decide) ?_
    have hF := Option.some.inj hF
    subst hF
    exact hE _ _ _ _ (Nat.le_of_ble_eq_true rfl) (Nat.le_of_ble_eq_true rfl) dX3_mask_15
theorem c_X3_mask {h : zq_H} {t : Nat} {x1 : Int32} {out : Int32} (hF : f_X3_mask h t x1 = some out) : zq_M none yX3_mask (Cond.code yX3_mask cX3_mask 2 (some .int) :: zq_all) rm_X3_mask [.ref t, .int x1] h (some (.int out)) h := zq_met2 (own := RX3) (by decide +kernel) rfl (Nat.le_of_ble_eq_true rfl) rfl ⟨.int, rfl, rfl⟩ (fun X C T hn hE => v_X3_mask C T hn hF hE)
theorem yv_X3_mask : zq_calV yX3_mask RX3 cX3_mask 2 (some .int) 1 := ⟨by decide +kernel, wd_164, wd_252, wd_253, wd_209⟩
def f_X3_put (h : zq_H) (t : Nat) (x1 : Int32) (x2 : Int32) : Option zq_H := (if x1 = 0 then (Option.bind (zq_pi h t 3 1 x2) fun h_4 => some (h_4)) else (Option.bind (zq_pi h t 3 2 x2) fun h_2 => some (h_2)))
abbrev rm_X3_put : Room := { frames := 0, cells := 0, slots := 0, locals := 0 }
theorem dX3_put_0 : decode cX3_put 0 = .ok (.iload_n 1, 1) := by decide +kernel
theorem dX3_put_1 : decode cX3_put 1 = .ok (.ifCond .ne 11, 3) := by decide +kernel
theorem dX3_put_4 : decode cX3_put 4 = .ok (.aload_n 0, 1) := by decide +kernel
theorem dX3_put_5 : decode cX3_put 5 = .ok (.iload_n 2, 1) := by decide +kernel
theorem dX3_put_6 : decode cX3_put 6 = .ok (.putfield 27, 3) := by decide +kernel
theorem dX3_put_9 : decode cX3_put 9 = .ok (.goto 8, 3) := by decide +kernel
theorem dX3_put_12 : decode cX3_put 12 = .ok (.aload_n 0, 1) := by decide +kernel
theorem dX3_put_13 : decode cX3_put 13 = .ok (.iload_n 2, 1) := by decide +kernel
theorem dX3_put_14 : decode cX3_put 14 = .ok (.putfield 31, 3) := by decide +kernel
theorem dX3_put_17 : decode cX3_put 17 = .ok (.return_, 1) := by decide +kernel
set_option maxRecDepth 100000 in
set_option maxHeartbeats 4000000 in
theorem v_X3_put {X : zq_X} (C : zq_C X RX3 cX3_put 3 zq_all rm_X3_put) {h : zq_H} {t : Nat} {x1 : Int32} {x2 : Int32} (T : zq_T X none) (hn : X.2.2.2.2.2.2.2.2.1.name = yX3_put.name) {out : zq_H} (hF : f_X3_put h t x1 x2 = some out) (hE : zq_End X cX3_put 0 0 none out) : zq_W X 0 0 h 0 [(0, .ref t), (1, .int x1), (2, .int x2)] [] := by
  unfold f_X3_put at hF
  refine zq_iload_n (pc' := 1) C dX3_put_0 rfl rfl rfl ?_
  refine zq_if_ne (pc' := 4) C 12 dX3_put_1 (by decide) rfl (fun c_1 => ?_) (fun c_1 => ?_)
  · have hF := (zq_ifn hF c_1)
    skip
    refine zq_aload_n (pc' := 13) C dX3_put_12 rfl rfl rfl ?_
    refine zq_iload_n (pc' := 14) C dX3_put_13 rfl rfl rfl ?_
    replace hF := zq_bd hF; obtain ⟨h_2, e_3, hF⟩ := hF
    refine zq_putI (j := 2) (pc' := 17) C zq_K3 zq_in3w (Or.inl wd_159) (by decide) rfl rfl dX3_put_14 rfl (Or.inl rfl) e_3 ?_
    have hF := Option.some.inj hF
    subst hF
    exact hE _ _ _ _ (Nat.le_of_ble_eq_true rfl) (Nat.le_of_ble_eq_true rfl) dX3_put_17
  · have hF := (zq_ifp hF c_1)
    refine zq_aload_n (pc' := 5) C dX3_put_4 rfl rfl rfl ?_
    refine zq_iload_n (pc' := 6) C dX3_put_5 rfl rfl rfl ?_
    replace hF := zq_bd hF; obtain ⟨h_4, e_5, hF⟩ := hF
    refine zq_putI (j := 1) (pc' := 9) C zq_K3 zq_in3w (Or.inl wd_158) (by decide) rfl rfl dX3_put_6 rfl (Or.inl rfl) e_5 ?_
    refine zq_goto C 17 dX3_put_9 (by decide) ?_
    have hF := Option.some.inj hF
    subst hF
    exact hE _ _ _ _ (Nat.le_of_ble_eq_true rfl) (Nat.le_of_ble_eq_true rfl) dX3_put_17
theorem c_X3_put {h : zq_H} {t : Nat} {x1 : Int32} {x2 : Int32} {out : zq_H} (hF : f_X3_put h t x1 x2 = some out) : zq_M none yX3_put (Cond.code yX3_put cX3_put 3 none :: zq_all) rm_X3_put [.ref t, .int x1, .int x2] h none out := zq_met2 (own := RX3) (by decide +kernel) rfl (Nat.le_of_ble_eq_true rfl) rfl rfl (fun X C T hn hE => v_X3_put C T hn hF hE)
theorem yv_X3_put : zq_calV yX3_put RX3 cX3_put 3 none 2 := ⟨by decide +kernel, wd_165, wd_257, wd_258, wd_209⟩
