def f_X4_init (h : zq_H) (t : Nat) : Option zq_H := (Option.bind (zq_na h (t + 1) 10 60 60) fun h_1 => (Option.bind (zq_pr h_1 t 4 0 (t + 1)) fun h_3 => some (h_3)))
abbrev rm_X4_init : Room := { frames := 1, cells := 1, slots := 60, locals := 20 }
theorem dX4_init_0 : decode cX4_init 0 = .ok (.aload_n 0, 1) := by decide +kernel
theorem dX4_init_1 : decode cX4_init 1 = .ok (.invokespecial 3, 3) := by decide +kernel
theorem dX4_init_4 : decode cX4_init 4 = .ok (.aload_n 0, 1) := by decide +kernel
theorem dX4_init_5 : decode cX4_init 5 = .ok (.bipush 60, 2) := by decide +kernel
theorem dX4_init_7 : decode cX4_init 7 = .ok (.newarray .int, 2) := by decide +kernel
theorem dX4_init_9 : decode cX4_init 9 = .ok (.putfield 11, 3) := by decide +kernel
theorem dX4_init_12 : decode cX4_init 12 = .ok (.return_, 1) := by decide +kernel
set_option maxRecDepth 100000 in
set_option maxHeartbeats 4000000 in
theorem v_X4_init {X : zq_X} (C : zq_C X RX4 cX4_init 1 zq_all rm_X4_init) {h : zq_H} {t : Nat} (T : zq_T X (some (t + 1))) (hn : X.2.2.2.2.2.2.2.2.1.name = yX4_init.name) {out : zq_H} (hF : f_X4_init h t = some out) (hE : zq_End X cX4_init 1 60 none out) : zq_W X 0 0 h 0 [(0, .ref t)] [] := by
  unfold f_X4_init at hF
  refine zq_aload_n (pc' := 1) C dX4_init_0 rfl rfl rfl ?_
  refine zq_objInit (pc' := 4) C wd_167 wd_3 wd_4 dX4_init_1 rfl (by decide) (Nat.le_of_ble_eq_true rfl) (Nat.le_of_ble_eq_true rfl) ?_
  refine zq_aload_n (pc' := 5) C dX4_init_4 rfl rfl rfl ?_
  refine zq_bipush (pc' := 7) C 60 dX4_init_5 rfl (by decide) ?_
  replace hF := zq_bd hF; obtain ⟨h_1, e_2, hF⟩ := hF
  refine zq_newI (n := t + 1) (pc' := 9) C wd_10 T rfl dX4_init_7 rfl e_2 (by decide) ⟨Nat.le_of_ble_eq_true rfl, Nat.le_of_ble_eq_true rfl⟩ ?_
  refine zq_widen 1 60 (Nat.le_of_ble_eq_true rfl) (Nat.le_of_ble_eq_true rfl) ?_
  replace hF := zq_bd hF; obtain ⟨h_3, e_4, hF⟩ := hF
  refine zq_putR (j := 0) (pc' := 12) C zq_K4 zq_in4w (Or.inl wd_168) (by decide) rfl (Or.inr ⟨_, rfl⟩) dX4_init_9 rfl (Or.inr ⟨hn, rfl, rfl, wd_168⟩) e_4 ?_
  have hF := Option.some.inj hF
  subst hF
  exact hE _ _ _ _ (Nat.le_of_ble_eq_true rfl) (Nat.le_of_ble_eq_true rfl) dX4_init_12
theorem c_X4_init {h : zq_H} {t : Nat} {out : zq_H} (hF : f_X4_init h t = some out) : zq_M (some (t + 1)) yX4_init (Cond.code yX4_init cX4_init 1 none :: zq_all) rm_X4_init [.ref t] h none out := zq_met2 (own := RX4) (by decide +kernel) rfl (Nat.le_of_ble_eq_true rfl) rfl rfl (fun X C T hn hE => v_X4_init C T hn hF hE)
theorem yi_X4_init : zq_Y yX4_init 0 := by decide +kernel
def f_X4_isFull (h : zq_H) (t : Nat) : Option Bool := (Option.bind (zq_gi h t 4 1) fun v_1 => (Option.bind (zq_gr h t 4 0) fun v_3 => (Option.bind (zq_an h v_3) fun v_5 => (if v_1 < v_5 then some (false) else some (true)))))
abbrev rm_X4_isFull : Room := { frames := 0, cells := 0, slots := 0, locals := 0 }
theorem dX4_isFull_0 : decode cX4_isFull 0 = .ok (.aload_n 0, 1) := by decide +kernel
theorem dX4_isFull_1 : decode cX4_isFull 1 = .ok (.getfield 15, 3) := by decide +kernel
theorem dX4_isFull_4 : decode cX4_isFull 4 = .ok (.aload_n 0, 1) := by decide +kernel
theorem dX4_isFull_5 : decode cX4_isFull 5 = .ok (.getfield 11, 3) := by decide +kernel
theorem dX4_isFull_8 : decode cX4_isFull 8 = .ok (.arraylength, 1) := by decide +kernel
theorem dX4_isFull_9 : decode cX4_isFull 9 = .ok (.if_icmp .lt 7, 3) := by decide +kernel
theorem dX4_isFull_12 : decode cX4_isFull 12 = .ok (.iconst 1, 1) := by decide +kernel
theorem dX4_isFull_13 : decode cX4_isFull 13 = .ok (.goto 4, 3) := by decide +kernel
theorem dX4_isFull_16 : decode cX4_isFull 16 = .ok (.iconst 0, 1) := by decide +kernel
theorem dX4_isFull_17 : decode cX4_isFull 17 = .ok (.ireturn, 1) := by decide +kernel
set_option maxRecDepth 100000 in
set_option maxHeartbeats 4000000 in
theorem v_X4_isFull {X : zq_X} (C : zq_C X RX4 cX4_isFull 1 zq_all rm_X4_isFull) {h : zq_H} {t : Nat} (T : zq_T X none) (hn : X.2.2.2.2.2.2.2.2.1.name = yX4_isFull.name) {out : Bool} (hF : f_X4_isFull h t = some out) (hE : zq_End X cX4_isFull 0 0 (some (.int (zq_b out))) h) : zq_W X 0 0 h 0 [(0, .ref t)] [] := by
  unfold f_X4_isFull at hF
  refine zq_aload_n (pc' := 1) C dX4_isFull_0 rfl rfl rfl ?_
  replace hF := zq_bd hF; obtain ⟨v_1, e_2, hF⟩ := hF
  refine zq_getI (j := 1) (pc' := 4) C zq_K4 zq_in4w (Or.inl wd_170) (by decide) rfl dX4_isFull_1 rfl e_2 ?_
  refine zq_aload_n (pc' := 5) C dX4_isFull_4 rfl rfl rfl ?_
  replace hF := zq_bd hF; obtain ⟨v_3, e_4, hF⟩ := hF
  refine zq_getR (j := 0) (pc' := 8) C zq_K4 zq_in4w (Or.inl wd_168) (by decide) rfl dX4_isFull_5 rfl e_4 ?_
  replace hF := zq_bd hF; obtain ⟨v_5, e_6, hF⟩ := hF
  refine zq_alen (pc' := 9) C dX4_isFull_8 rfl e_6 ?_
  refine zq_icmp_lt (pc' := 12) C 16 dX4_isFull_9 (by decide) rfl (fun c_7 => ?_) (fun c_7 => ?_)
  · have hF := (zq_ifp hF c_7)
    skip
    refine zq_iconst (pc' := 17) C 0 dX4_isFull_16 rfl (by decide) ?_
    have hF := Option.some.inj hF
    subst hF
    exact hE _ _ _ _ (Nat.le_of_ble_eq_true rfl) (Nat.le_of_ble_eq_true rfl) dX4_isFull_17
  · have hF := (zq_ifn hF c_7)
    refine zq_iconst (pc' := 13) C 1 dX4_isFull_12 rfl (by decide) ?_
    refine zq_goto C 17 dX4_isFull_13 (by decide) ?_
    have hF := Option.some.inj hF
    subst hF
    exact hE _ _ _ _ (Nat.le_of_ble_eq_true rfl) (Nat.le_of_ble_eq_true rfl) dX4_isFull_17
theorem c_X4_isFull {h : zq_H} {t : Nat} {out : Bool} (hF : f_X4_isFull h t = some out) : zq_M none yX4_isFull (Cond.code yX4_isFull cX4_isFull 1 (some .boolean) :: zq_all) rm_X4_isFull [.ref t] h (some (.int (zq_b out))) h := zq_met2 (own := RX4) (by decide +kernel) rfl (Nat.le_of_ble_eq_true rfl) rfl ⟨.boolean, rfl, by cases out <;> rfl⟩ (fun X C T hn hE => v_X4_isFull C T hn hF hE)
theorem yv_X4_isFull : zq_calV yX4_isFull RX4 cX4_isFull 1 (some .boolean) 0 := ⟨by decide +kernel, wd_169, wd_312, wd_313, wd_180⟩
def f_X4_add (h : zq_H) (t : Nat) (x1 : Int32) : Option zq_H := (Option.bind (zq_gi h t 4 1) fun v_1 => (Option.bind (zq_gr h t 4 0) fun v_3 => (Option.bind (zq_an h v_3) fun v_5 => (if v_5 ≤ v_1 then some (h) else (Option.bind (zq_gr h t 4 0) fun v_8 => (Option.bind (zq_gi h t 4 1) fun v_10 => (Option.bind (zq_si h v_8 v_10 x1) fun h_12 => (Option.bind (zq_gi h_12 t 4 1) fun v_14 => (Option.bind (zq_pi h_12 t 4 1 (v_14 + 1)) fun h_16 => some (h_16))))))))))
abbrev rm_X4_add : Room := { frames := 0, cells := 0, slots := 0, locals := 0 }
theorem dX4_add_0 : decode cX4_add 0 = .ok (.aload_n 0, 1) := by decide +kernel
theorem dX4_add_1 : decode cX4_add 1 = .ok (.getfield 15, 3) := by decide +kernel
theorem dX4_add_4 : decode cX4_add 4 = .ok (.aload_n 0, 1) := by decide +kernel
theorem dX4_add_5 : decode cX4_add 5 = .ok (.getfield 11, 3) := by decide +kernel
theorem dX4_add_8 : decode cX4_add 8 = .ok (.arraylength, 1) := by decide +kernel
theorem dX4_add_9 : decode cX4_add 9 = .ok (.if_icmp .ge 23, 3) := by decide +kernel
theorem dX4_add_12 : decode cX4_add 12 = .ok (.aload_n 0, 1) := by decide +kernel
theorem dX4_add_13 : decode cX4_add 13 = .ok (.getfield 11, 3) := by decide +kernel
theorem dX4_add_16 : decode cX4_add 16 = .ok (.aload_n 0, 1) := by decide +kernel
theorem dX4_add_17 : decode cX4_add 17 = .ok (.getfield 15, 3) := by decide +kernel
theorem dX4_add_20 : decode cX4_add 20 = .ok (.iload_n 1, 1) := by decide +kernel
theorem dX4_add_21 : decode cX4_add 21 = .ok (.iastore, 1) := by decide +kernel
theorem dX4_add_22 : decode cX4_add 22 = .ok (.aload_n 0, 1) := by decide +kernel
theorem dX4_add_23 : decode cX4_add 23 = .ok (.dup, 1) := by decide +kernel
theorem dX4_add_24 : decode cX4_add 24 = .ok (.getfield 15, 3) := by decide +kernel
theorem dX4_add_27 : decode cX4_add 27 = .ok (.iconst 1, 1) := by decide +kernel
theorem dX4_add_28 : decode cX4_add 28 = .ok (.iadd, 1) := by decide +kernel
theorem dX4_add_29 : decode cX4_add 29 = .ok (.putfield 15, 3) := by decide +kernel
theorem dX4_add_32 : decode cX4_add 32 = .ok (.return_, 1) := by decide +kernel
set_option maxRecDepth 100000 in
set_option maxHeartbeats 4000000 in
theorem v_X4_add {X : zq_X} (C : zq_C X RX4 cX4_add 2 zq_all rm_X4_add) {h : zq_H} {t : Nat} {x1 : Int32} (T : zq_T X none) (hn : X.2.2.2.2.2.2.2.2.1.name = yX4_add.name) {out : zq_H} (hF : f_X4_add h t x1 = some out) (hE : zq_End X cX4_add 0 0 none out) : zq_W X 0 0 h 0 [(0, .ref t), (1, .int x1)] [] := by
  unfold f_X4_add at hF
  refine zq_aload_n (pc' := 1) C dX4_add_0 rfl rfl rfl ?_
  replace hF := zq_bd hF; obtain ⟨v_1, e_2, hF⟩ := hF
  refine zq_getI (j := 1) (pc' := 4) C zq_K4 zq_in4w (Or.inl wd_170) (by decide) rfl dX4_add_1 rfl e_2 ?_
  refine zq_aload_n (pc' := 5) C dX4_add_4 rfl rfl rfl ?_
  replace hF := zq_bd hF; obtain ⟨v_3, e_4, hF⟩ := hF
  refine zq_getR (j := 0) (pc' := 8) C zq_K4 zq_in4w (Or.inl wd_168) (by decide) rfl dX4_add_5 rfl e_4 ?_
  replace hF := zq_bd hF; obtain ⟨v_5, e_6, hF⟩ := hF
  refine zq_alen (pc' := 9) C dX4_add_8 rfl e_6 ?_
  refine zq_icmp_ge (pc' := 12) C 32 dX4_add_9 (by decide) rfl (fun c_7 => ?_) (fun c_7 => ?_)
  · have hF := (zq_ifp hF c_7)
    skip
    have hF := Option.some.inj hF
    subst hF
    exact hE _ _ _ _ (Nat.le_of_ble_eq_true rfl) (Nat.le_of_ble_eq_true rfl) dX4_add_32
  · have hF := (zq_ifn hF c_7)
    refine zq_aload_n (pc' := 13) C dX4_add_12 rfl rfl rfl ?_
    replace hF := zq_bd hF; obtain ⟨v_8, e_9, hF⟩ := hF
    refine zq_getR (j := 0) (pc' := 16) C zq_K4 zq_in4w (Or.inl wd_168) (by decide) rfl dX4_add_13 rfl e_9 ?_
    refine zq_aload_n (pc' := 17) C dX4_add_16 rfl rfl rfl ?_
    replace hF := zq_bd hF; obtain ⟨v_10, e_11, hF⟩ := hF
    refine zq_getI (j := 1) (pc' := 20) C zq_K4 zq_in4w (Or.inl wd_170) (by decide) rfl dX4_add_17 rfl e_11 ?_
    refine zq_iload_n (pc' := 21) C dX4_add_20 rfl rfl rfl ?_
    replace hF := zq_bd hF; obtain ⟨h_12, e_13, hF⟩ := hF
    refine zq_iastore (pc' := 22) C dX4_add_21 rfl e_13 ?_
    refine zq_aload_n (pc' := 23) C dX4_add_22 rfl rfl rfl ?_
    refine zq_dup (pc' := 24) C dX4_add_23 rfl rfl ?_
    replace hF := zq_bd hF; obtain ⟨v_14, e_15, hF⟩ := hF
    refine zq_getI (j := 1) (pc' := 27) C zq_K4 zq_in4w (Or.inl wd_170) (by decide) rfl dX4_add_24 rfl e_15 ?_
    refine zq_iconst (pc' := 28) C 1 dX4_add_27 rfl (by decide) ?_
    refine zq_iadd (pc' := 29) C dX4_add_28 rfl ?_
    replace hF := zq_bd hF; obtain ⟨h_16, e_17, hF⟩ := hF
    refine zq_putI (j := 1) (pc' := 32) C zq_K4 zq_in4w (Or.inl wd_170) (by decide) rfl rfl dX4_add_29 rfl (Or.inl rfl) e_17 ?_
    have hF := Option.some.inj hF
    subst hF
    exact hE _ _ _ _ (Nat.le_of_ble_eq_true rfl) (Nat.le_of_ble_eq_true rfl) dX4_add_32
theorem c_X4_add {h : zq_H} {t : Nat} {x1 : Int32} {out : zq_H} (hF : f_X4_add h t x1 = some out) : zq_M none yX4_add (Cond.code yX4_add cX4_add 2 none :: zq_all) rm_X4_add [.ref t, .int x1] h none out := zq_met2 (own := RX4) (by decide +kernel) rfl (Nat.le_of_ble_eq_true rfl) rfl rfl (fun X C T hn hE => v_X4_add C T hn hF hE)
theorem yv_X4_add : zq_calV yX4_add RX4 cX4_add 2 none 1 := ⟨by decide +kernel, wd_171, wd_315, wd_316, wd_180⟩
def f_X4_clear (h : zq_H) (t : Nat) : Option zq_H := (Option.bind (zq_pi h t 4 1 0) fun h_1 => some (h_1))
abbrev rm_X4_clear : Room := { frames := 0, cells := 0, slots := 0, locals := 0 }
theorem dX4_clear_0 : decode cX4_clear 0 = .ok (.aload_n 0, 1) := by decide +kernel
theorem dX4_clear_1 : decode cX4_clear 1 = .ok (.iconst 0, 1) := by decide +kernel
theorem dX4_clear_2 : decode cX4_clear 2 = .ok (.putfield 15, 3) := by decide +kernel
theorem dX4_clear_5 : decode cX4_clear 5 = .ok (.return_, 1) := by decide +kernel
set_option maxRecDepth 100000 in
set_option maxHeartbeats 4000000 in
theorem v_X4_clear {X : zq_X} (C : zq_C X RX4 cX4_clear 1 zq_all rm_X4_clear) {h : zq_H} {t : Nat} (T : zq_T X none) (hn : X.2.2.2.2.2.2.2.2.1.name = yX4_clear.name) {out : zq_H} (hF : f_X4_clear h t = some out) (hE : zq_End X cX4_clear 0 0 none out) : zq_W X 0 0 h 0 [(0, .ref t)] [] := by
  unfold f_X4_clear at hF
  refine zq_aload_n (pc' := 1) C dX4_clear_0 rfl rfl rfl ?_
  refine zq_iconst (pc' := 2) C 0 dX4_clear_1 rfl (by decide) ?_
  replace hF := zq_bd hF; obtain ⟨h_1, e_2, hF⟩ := hF
  refine zq_putI (j := 1) (pc' := 5) C zq_K4 zq_in4w (Or.inl wd_170) (by decide) rfl rfl dX4_clear_2 rfl (Or.inl rfl) e_2 ?_
  have hF := Option.some.inj hF
  subst hF
  exact hE _ _ _ _ (Nat.le_of_ble_eq_true rfl) (Nat.le_of_ble_eq_true rfl) dX4_clear_5
theorem c_X4_clear {h : zq_H} {t : Nat} {out : zq_H} (hF : f_X4_clear h t = some out) : zq_M none yX4_clear (Cond.code yX4_clear cX4_clear 1 none :: zq_all) rm_X4_clear [.ref t] h none out := zq_met2 (own := RX4) (by decide +kernel) rfl (Nat.le_of_ble_eq_true rfl) rfl rfl (fun X C T hn hE => v_X4_clear C T hn hF hE)
theorem yv_X4_clear : zq_calV yX4_clear RX4 cX4_clear 1 none 0 := ⟨by decide +kernel, wd_172, wd_319, wd_320, wd_180⟩
def f_X4_fullLength (h : zq_H) (r0 : Nat) : Option Int32 := (Option.bind (zq_gi h r0 1 0) fun v_1 => some ((3 * (v_1 - 3)) - 1))
abbrev rm_X4_fullLength : Room := { frames := 0, cells := 0, slots := 0, locals := 0 }
theorem dX4_fullLength_0 : decode cX4_fullLength 0 = .ok (.iconst 3, 1) := by decide +kernel
theorem dX4_fullLength_1 : decode cX4_fullLength 1 = .ok (.aload_n 0, 1) := by decide +kernel
theorem dX4_fullLength_2 : decode cX4_fullLength 2 = .ok (.getfield 19, 3) := by decide +kernel
theorem dX4_fullLength_5 : decode cX4_fullLength 5 = .ok (.iconst 3, 1) := by decide +kernel
theorem dX4_fullLength_6 : decode cX4_fullLength 6 = .ok (.isub, 1) := by decide +kernel
theorem dX4_fullLength_7 : decode cX4_fullLength 7 = .ok (.imul, 1) := by decide +kernel
theorem dX4_fullLength_8 : decode cX4_fullLength 8 = .ok (.iconst 1, 1) := by decide +kernel
theorem dX4_fullLength_9 : decode cX4_fullLength 9 = .ok (.isub, 1) := by decide +kernel
theorem dX4_fullLength_10 : decode cX4_fullLength 10 = .ok (.ireturn, 1) := by decide +kernel
set_option maxRecDepth 100000 in
set_option maxHeartbeats 4000000 in
theorem v_X4_fullLength {X : zq_X} (C : zq_C X RX4 cX4_fullLength 1 zq_all rm_X4_fullLength) {h : zq_H} {r0 : Nat} (T : zq_T X none) (hn : X.2.2.2.2.2.2.2.2.1.name = yX4_fullLength.name) {out : Int32} (hF : f_X4_fullLength h r0 = some out) (hE : zq_End X cX4_fullLength 0 0 (some (.int out)) h) : zq_W X 0 0 h 0 [(0, .ref r0)] [] := by
  unfold f_X4_fullLength at hF
  refine zq_iconst (pc' := 1) C 3 dX4_fullLength_0 rfl (by decide) ?_
  refine zq_aload_n (pc' := 2) C dX4_fullLength_1 rfl rfl rfl ?_
  replace hF := zq_bd hF; obtain ⟨v_1, e_2, hF⟩ := hF
  refine zq_getI (j := 0) (pc' := 5) C zq_K1 zq_in1w (Or.inr ⟨"FlipPolygons", by decide +kernel⟩) (by decide) rfl dX4_fullLength_2 rfl e_2 ?_
  refine zq_iconst (pc' := 6) C 3 dX4_fullLength_5 rfl (by decide) ?_
  refine zq_isub (pc' := 7) C dX4_fullLength_6 rfl ?_
  refine zq_imul (pc' := 8) C dX4_fullLength_7 rfl ?_
  refine zq_iconst (pc' := 9) C 1 dX4_fullLength_8 rfl (by decide) ?_
  refine zq_isub (pc' := 10) C dX4_fullLength_9 rfl ?_
  have hF := Option.some.inj hF
  subst hF
  exact hE _ _ _ _ (Nat.le_of_ble_eq_true rfl) (Nat.le_of_ble_eq_true rfl) dX4_fullLength_10
theorem c_X4_fullLength {h : zq_H} {r0 : Nat} {out : Int32} (hF : f_X4_fullLength h r0 = some out) : zq_M none yX4_fullLength (Cond.code yX4_fullLength cX4_fullLength 1 (some .int) :: zq_all) rm_X4_fullLength [.ref r0] h (some (.int out)) h := zq_met2 (own := RX4) (by decide +kernel) rfl (Nat.le_of_ble_eq_true rfl) rfl ⟨.int, rfl, rfl⟩ (fun X C T hn hE => v_X4_fullLength C T hn hF hE)
theorem ys_X4_fullLength : zq_calS yX4_fullLength cX4_fullLength 1 (some .int) 1 := ⟨by decide +kernel, wd_173, wd_185, wd_180⟩
def f_X4_cornerAt (h : zq_H) (t : Nat) (x1 : Int32) : Option Int32 := (if x1 < 0 then some ((-1)) else (Option.bind (zq_gi h t 4 1) fun v_2 => (if v_2 ≤ x1 then some ((-1)) else (Option.bind (zq_gr h t 4 0) fun v_5 => (Option.bind (zq_ai h v_5 x1) fun v_7 => some (v_7 - 48))))))
abbrev rm_X4_cornerAt : Room := { frames := 0, cells := 0, slots := 0, locals := 0 }
theorem dX4_cornerAt_0 : decode cX4_cornerAt 0 = .ok (.iload_n 1, 1) := by decide +kernel
theorem dX4_cornerAt_1 : decode cX4_cornerAt 1 = .ok (.ifCond .lt 23, 3) := by decide +kernel
theorem dX4_cornerAt_4 : decode cX4_cornerAt 4 = .ok (.iload_n 1, 1) := by decide +kernel
theorem dX4_cornerAt_5 : decode cX4_cornerAt 5 = .ok (.aload_n 0, 1) := by decide +kernel
theorem dX4_cornerAt_6 : decode cX4_cornerAt 6 = .ok (.getfield 15, 3) := by decide +kernel
theorem dX4_cornerAt_9 : decode cX4_cornerAt 9 = .ok (.if_icmp .ge 15, 3) := by decide +kernel
theorem dX4_cornerAt_12 : decode cX4_cornerAt 12 = .ok (.aload_n 0, 1) := by decide +kernel
theorem dX4_cornerAt_13 : decode cX4_cornerAt 13 = .ok (.getfield 11, 3) := by decide +kernel
theorem dX4_cornerAt_16 : decode cX4_cornerAt 16 = .ok (.iload_n 1, 1) := by decide +kernel
theorem dX4_cornerAt_17 : decode cX4_cornerAt 17 = .ok (.iaload, 1) := by decide +kernel
theorem dX4_cornerAt_18 : decode cX4_cornerAt 18 = .ok (.bipush 48, 2) := by decide +kernel
theorem dX4_cornerAt_20 : decode cX4_cornerAt 20 = .ok (.isub, 1) := by decide +kernel
theorem dX4_cornerAt_21 : decode cX4_cornerAt 21 = .ok (.goto 4, 3) := by decide +kernel
theorem dX4_cornerAt_24 : decode cX4_cornerAt 24 = .ok (.iconst (-1), 1) := by decide +kernel
theorem dX4_cornerAt_25 : decode cX4_cornerAt 25 = .ok (.ireturn, 1) := by decide +kernel
set_option maxRecDepth 100000 in
set_option maxHeartbeats 4000000 in
theorem v_X4_cornerAt {X : zq_X} (C : zq_C X RX4 cX4_cornerAt 2 zq_all rm_X4_cornerAt) {h : zq_H} {t : Nat} {x1 : Int32} (T : zq_T X none) (hn : X.2.2.2.2.2.2.2.2.1.name = yX4_cornerAt.name) {out : Int32} (hF : f_X4_cornerAt h t x1 = some out) (hE : zq_End X cX4_cornerAt 0 0 (some (.int out)) h) : zq_W X 0 0 h 0 [(0, .ref t), (1, .int x1)] [] := by
  unfold f_X4_cornerAt at hF
  refine zq_iload_n (pc' := 1) C dX4_cornerAt_0 rfl rfl rfl ?_
  refine zq_if_lt (pc' := 4) C 24 dX4_cornerAt_1 (by decide) rfl (fun c_1 => ?_) (fun c_1 => ?_)
  · have hF := (zq_ifp hF c_1)
    skip
    refine zq_iconst (pc' := 25) C (-1) dX4_cornerAt_24 rfl (by decide) ?_
    have hF := Option.some.inj hF
    subst hF
    exact hE _ _ _ _ (Nat.le_of_ble_eq_true rfl) (Nat.le_of_ble_eq_true rfl) dX4_cornerAt_25
  · have hF := (zq_ifn hF c_1)
    refine zq_iload_n (pc' := 5) C dX4_cornerAt_4 rfl rfl rfl ?_
    refine zq_aload_n (pc' := 6) C dX4_cornerAt_5 rfl rfl rfl ?_
    replace hF := zq_bd hF; obtain ⟨v_2, e_3, hF⟩ := hF
    refine zq_getI (j := 1) (pc' := 9) C zq_K4 zq_in4w (Or.inl wd_170) (by decide) rfl dX4_cornerAt_6 rfl e_3 ?_
    refine zq_icmp_ge (pc' := 12) C 24 dX4_cornerAt_9 (by decide) rfl (fun c_4 => ?_) (fun c_4 => ?_)
    · have hF := (zq_ifp hF c_4)
      skip
      refine zq_iconst (pc' := 25) C (-1) dX4_cornerAt_24 rfl (by decide) ?_
      have hF := Option.some.inj hF
      subst hF
      exact hE _ _ _ _ (Nat.le_of_ble_eq_true rfl) (Nat.le_of_ble_eq_true rfl) dX4_cornerAt_25
    · have hF := (zq_ifn hF c_4)
      refine zq_aload_n (pc' := 13) C dX4_cornerAt_12 rfl rfl rfl ?_
      replace hF := zq_bd hF; obtain ⟨v_5, e_6, hF⟩ := hF
      refine zq_getR (j := 0) (pc' := 16) C zq_K4 zq_in4w (Or.inl wd_168) (by decide) rfl dX4_cornerAt_13 rfl e_6 ?_
      refine zq_iload_n (pc' := 17) C dX4_cornerAt_16 rfl rfl rfl ?_
      replace hF := zq_bd hF; obtain ⟨v_7, e_8, hF⟩ := hF
      refine zq_iaload (pc' := 18) C dX4_cornerAt_17 rfl e_8 ?_
      refine zq_bipush (pc' := 20) C 48 dX4_cornerAt_18 rfl (by decide) ?_
      refine zq_isub (pc' := 21) C dX4_cornerAt_20 rfl ?_
      refine zq_goto C 25 dX4_cornerAt_21 (by decide) ?_
      have hF := Option.some.inj hF
      subst hF
      exact hE _ _ _ _ (Nat.le_of_ble_eq_true rfl) (Nat.le_of_ble_eq_true rfl) dX4_cornerAt_25
theorem c_X4_cornerAt {h : zq_H} {t : Nat} {x1 : Int32} {out : Int32} (hF : f_X4_cornerAt h t x1 = some out) : zq_M none yX4_cornerAt (Cond.code yX4_cornerAt cX4_cornerAt 2 (some .int) :: zq_all) rm_X4_cornerAt [.ref t, .int x1] h (some (.int out)) h := zq_met2 (own := RX4) (by decide +kernel) rfl (Nat.le_of_ble_eq_true rfl) rfl ⟨.int, rfl, rfl⟩ (fun X C T hn hE => v_X4_cornerAt C T hn hF hE)
theorem yv_X4_cornerAt : zq_calV yX4_cornerAt RX4 cX4_cornerAt 2 (some .int) 1 := ⟨by decide +kernel, wd_174, wd_178, wd_179, wd_180⟩
def f_X4_beginsDiagonal (h : zq_H) (r0 : Nat) (x1 : Int32) : Option Bool := (if x1 < 0 then some (false) else (Option.bind (zq_gi h r0 1 0) fun v_2 => (if (v_2 - 2) ≤ x1 then some (false) else some (true))))
abbrev rm_X4_beginsDiagonal : Room := { frames := 0, cells := 0, slots := 0, locals := 0 }
theorem dX4_beginsDiagonal_0 : decode cX4_beginsDiagonal 0 = .ok (.iload_n 1, 1) := by decide +kernel
theorem dX4_beginsDiagonal_1 : decode cX4_beginsDiagonal 1 = .ok (.ifCond .lt 17, 3) := by decide +kernel
theorem dX4_beginsDiagonal_4 : decode cX4_beginsDiagonal 4 = .ok (.iload_n 1, 1) := by decide +kernel
theorem dX4_beginsDiagonal_5 : decode cX4_beginsDiagonal 5 = .ok (.aload_n 0, 1) := by decide +kernel
theorem dX4_beginsDiagonal_6 : decode cX4_beginsDiagonal 6 = .ok (.getfield 19, 3) := by decide +kernel
theorem dX4_beginsDiagonal_9 : decode cX4_beginsDiagonal 9 = .ok (.iconst 2, 1) := by decide +kernel
theorem dX4_beginsDiagonal_10 : decode cX4_beginsDiagonal 10 = .ok (.isub, 1) := by decide +kernel
theorem dX4_beginsDiagonal_11 : decode cX4_beginsDiagonal 11 = .ok (.if_icmp .ge 7, 3) := by decide +kernel
theorem dX4_beginsDiagonal_14 : decode cX4_beginsDiagonal 14 = .ok (.iconst 1, 1) := by decide +kernel
theorem dX4_beginsDiagonal_15 : decode cX4_beginsDiagonal 15 = .ok (.goto 4, 3) := by decide +kernel
theorem dX4_beginsDiagonal_18 : decode cX4_beginsDiagonal 18 = .ok (.iconst 0, 1) := by decide +kernel
theorem dX4_beginsDiagonal_19 : decode cX4_beginsDiagonal 19 = .ok (.ireturn, 1) := by decide +kernel
set_option maxRecDepth 100000 in
set_option maxHeartbeats 4000000 in
theorem v_X4_beginsDiagonal {X : zq_X} (C : zq_C X RX4 cX4_beginsDiagonal 2 zq_all rm_X4_beginsDiagonal) {h : zq_H} {r0 : Nat} {x1 : Int32} (T : zq_T X none) (hn : X.2.2.2.2.2.2.2.2.1.name = yX4_beginsDiagonal.name) {out : Bool} (hF : f_X4_beginsDiagonal h r0 x1 = some out) (hE : zq_End X cX4_beginsDiagonal 0 0 (some (.int (zq_b out))) h) : zq_W X 0 0 h 0 [(0, .ref r0), (1, .int x1)] [] := by
  unfold f_X4_beginsDiagonal at hF
  refine zq_iload_n (pc' := 1) C dX4_beginsDiagonal_0 rfl rfl rfl ?_
  refine zq_if_lt (pc' := 4) C 18 dX4_beginsDiagonal_1 (by decide) rfl (fun c_1 => ?_) (fun c_1 => ?_)
  · have hF := (zq_ifp hF c_1)
    skip
    refine zq_iconst (pc' := 19) C 0 dX4_beginsDiagonal_18 rfl (by decide) ?_
    have hF := Option.some.inj hF
    subst hF
    exact hE _ _ _ _ (Nat.le_of_ble_eq_true rfl) (Nat.le_of_ble_eq_true rfl) dX4_beginsDiagonal_19
  · have hF := (zq_ifn hF c_1)
    refine zq_iload_n (pc' := 5) C dX4_beginsDiagonal_4 rfl rfl rfl ?_
    refine zq_aload_n (pc' := 6) C dX4_beginsDiagonal_5 rfl rfl rfl ?_
    replace hF := zq_bd hF; obtain ⟨v_2, e_3, hF⟩ := hF
    refine zq_getI (j := 0) (pc' := 9) C zq_K1 zq_in1w (Or.inr ⟨"FlipPolygons", by decide +kernel⟩) (by decide) rfl dX4_beginsDiagonal_6 rfl e_3 ?_
    refine zq_iconst (pc' := 10) C 2 dX4_beginsDiagonal_9 rfl (by decide) ?_
    refine zq_isub (pc' := 11) C dX4_beginsDiagonal_10 rfl ?_
    refine zq_icmp_ge (pc' := 14) C 18 dX4_beginsDiagonal_11 (by decide) rfl (fun c_4 => ?_) (fun c_4 => ?_)
    · have hF := (zq_ifp hF c_4)
      skip
      refine zq_iconst (pc' := 19) C 0 dX4_beginsDiagonal_18 rfl (by decide) ?_
      have hF := Option.some.inj hF
      subst hF
      exact hE _ _ _ _ (Nat.le_of_ble_eq_true rfl) (Nat.le_of_ble_eq_true rfl) dX4_beginsDiagonal_19
    · have hF := (zq_ifn hF c_4)
      refine zq_iconst (pc' := 15) C 1 dX4_beginsDiagonal_14 rfl (by decide) ?_
      refine zq_goto C 19 dX4_beginsDiagonal_15 (by decide) ?_
      have hF := Option.some.inj hF
      subst hF
      exact hE _ _ _ _ (Nat.le_of_ble_eq_true rfl) (Nat.le_of_ble_eq_true rfl) dX4_beginsDiagonal_19
theorem c_X4_beginsDiagonal {h : zq_H} {r0 : Nat} {x1 : Int32} {out : Bool} (hF : f_X4_beginsDiagonal h r0 x1 = some out) : zq_M none yX4_beginsDiagonal (Cond.code yX4_beginsDiagonal cX4_beginsDiagonal 2 (some .boolean) :: zq_all) rm_X4_beginsDiagonal [.ref r0, .int x1] h (some (.int (zq_b out))) h := zq_met2 (own := RX4) (by decide +kernel) rfl (Nat.le_of_ble_eq_true rfl) rfl ⟨.boolean, rfl, by cases out <;> rfl⟩ (fun X C T hn hE => v_X4_beginsDiagonal C T hn hF hE)
theorem ys_X4_beginsDiagonal : zq_calS yX4_beginsDiagonal cX4_beginsDiagonal 2 (some .boolean) 2 := ⟨by decide +kernel, wd_175, wd_182, wd_180⟩
def f_X4_fits (h : zq_H) (t : Nat) (r1 : Nat) (x2 : Int32) : Option Bool := (if (x2 - x2 / 3 * 3) = 0 then (zq_ck h t 4 fun _ => (Option.bind (f_X4_cornerAt h t x2) fun v_2 => (Option.bind (f_X4_beginsDiagonal h r1 v_2) fun v_5 => some (v_5)))) else (if (x2 - x2 / 3 * 3) = 1 then (zq_ck h t 4 fun _ => (Option.bind (f_X4_cornerAt h t (x2 - 1)) fun v_8 => (zq_ck h t 4 fun _ => (Option.bind (f_X4_cornerAt h t x2) fun v_11 => (zq_ck h r1 1 fun _ => (Option.bind (f_X1_numberOf h r1 v_8 v_11) fun v_14 => (if v_14 = (-1) then some (false) else some (true)))))))) else (Option.bind (zq_gr h t 4 0) fun v_18 => (Option.bind (zq_ai h v_18 x2) fun v_20 => (if v_20 = 44 then some (true) else some (false))))))
abbrev rm_X4_fits : Room := { frames := 2, cells := 0, slots := 0, locals := 43 }
theorem dX4_fits_0 : decode cX4_fits 0 = .ok (.iload_n 2, 1) := by decide +kernel
theorem dX4_fits_1 : decode cX4_fits 1 = .ok (.iconst 3, 1) := by decide +kernel
theorem dX4_fits_2 : decode cX4_fits 2 = .ok (.irem, 1) := by decide +kernel
theorem dX4_fits_3 : decode cX4_fits 3 = .ok (.lookupswitch 61 #[(0, 25), (1, 35)], 25) := by decide +kernel
theorem dX4_fits_28 : decode cX4_fits 28 = .ok (.aload_n 1, 1) := by decide +kernel
theorem dX4_fits_29 : decode cX4_fits 29 = .ok (.aload_n 0, 1) := by decide +kernel
theorem dX4_fits_30 : decode cX4_fits 30 = .ok (.iload_n 2, 1) := by decide +kernel
theorem dX4_fits_31 : decode cX4_fits 31 = .ok (.invokevirtual 32, 3) := by decide +kernel
theorem dX4_fits_34 : decode cX4_fits 34 = .ok (.invokestatic 36, 3) := by decide +kernel
theorem dX4_fits_37 : decode cX4_fits 37 = .ok (.ireturn, 1) := by decide +kernel
theorem dX4_fits_38 : decode cX4_fits 38 = .ok (.aload_n 1, 1) := by decide +kernel
theorem dX4_fits_39 : decode cX4_fits 39 = .ok (.aload_n 0, 1) := by decide +kernel
theorem dX4_fits_40 : decode cX4_fits 40 = .ok (.iload_n 2, 1) := by decide +kernel
theorem dX4_fits_41 : decode cX4_fits 41 = .ok (.iconst 1, 1) := by decide +kernel
theorem dX4_fits_42 : decode cX4_fits 42 = .ok (.isub, 1) := by decide +kernel
theorem dX4_fits_43 : decode cX4_fits 43 = .ok (.invokevirtual 32, 3) := by decide +kernel
theorem dX4_fits_46 : decode cX4_fits 46 = .ok (.aload_n 0, 1) := by decide +kernel
theorem dX4_fits_47 : decode cX4_fits 47 = .ok (.iload_n 2, 1) := by decide +kernel
theorem dX4_fits_48 : decode cX4_fits 48 = .ok (.invokevirtual 32, 3) := by decide +kernel
theorem dX4_fits_51 : decode cX4_fits 51 = .ok (.invokevirtual 39, 3) := by decide +kernel
theorem dX4_fits_54 : decode cX4_fits 54 = .ok (.iconst (-1), 1) := by decide +kernel
theorem dX4_fits_55 : decode cX4_fits 55 = .ok (.if_icmp .eq 7, 3) := by decide +kernel
theorem dX4_fits_58 : decode cX4_fits 58 = .ok (.iconst 1, 1) := by decide +kernel
theorem dX4_fits_59 : decode cX4_fits 59 = .ok (.goto 4, 3) := by decide +kernel
theorem dX4_fits_62 : decode cX4_fits 62 = .ok (.iconst 0, 1) := by decide +kernel
theorem dX4_fits_63 : decode cX4_fits 63 = .ok (.ireturn, 1) := by decide +kernel
theorem dX4_fits_64 : decode cX4_fits 64 = .ok (.aload_n 0, 1) := by decide +kernel
theorem dX4_fits_65 : decode cX4_fits 65 = .ok (.getfield 11, 3) := by decide +kernel
theorem dX4_fits_68 : decode cX4_fits 68 = .ok (.iload_n 2, 1) := by decide +kernel
theorem dX4_fits_69 : decode cX4_fits 69 = .ok (.iaload, 1) := by decide +kernel
theorem dX4_fits_70 : decode cX4_fits 70 = .ok (.bipush 44, 2) := by decide +kernel
theorem dX4_fits_72 : decode cX4_fits 72 = .ok (.if_icmp .ne 7, 3) := by decide +kernel
theorem dX4_fits_75 : decode cX4_fits 75 = .ok (.iconst 1, 1) := by decide +kernel
theorem dX4_fits_76 : decode cX4_fits 76 = .ok (.goto 4, 3) := by decide +kernel
theorem dX4_fits_79 : decode cX4_fits 79 = .ok (.iconst 0, 1) := by decide +kernel
theorem dX4_fits_80 : decode cX4_fits 80 = .ok (.ireturn, 1) := by decide +kernel
set_option maxRecDepth 100000 in
set_option maxHeartbeats 4000000 in
theorem v_X4_fits {X : zq_X} (C : zq_C X RX4 cX4_fits 3 zq_all rm_X4_fits) {h : zq_H} {t : Nat} {r1 : Nat} {x2 : Int32} (T : zq_T X none) (hn : X.2.2.2.2.2.2.2.2.1.name = yX4_fits.name) {out : Bool} (hF : f_X4_fits h t r1 x2 = some out) (hE : zq_End X cX4_fits 0 0 (some (.int (zq_b out))) h) : zq_W X 0 0 h 0 [(0, .ref t), (1, .ref r1), (2, .int x2)] [] := by
  unfold f_X4_fits at hF
  refine zq_iload_n (pc' := 1) C dX4_fits_0 rfl rfl rfl ?_
  refine zq_iconst (pc' := 2) C 3 dX4_fits_1 rfl (by decide) ?_
  refine zq_irem (pc' := 3) C dX4_fits_2 rfl (by decide) ?_
  by_cases c_1 : (x2 - x2 / 3 * 3) = 0
  · have hF := zq_ifp hF c_1
    refine zq_lookup C 28 dX4_fits_3 (by decide) (by rw [c_1]) (by decide) ?_
    refine zq_aload_n (pc' := 29) C dX4_fits_28 rfl rfl rfl ?_
    refine zq_aload_n (pc' := 30) C dX4_fits_29 rfl rfl rfl ?_
    refine zq_iload_n (pc' := 31) C dX4_fits_30 rfl rfl rfl ?_
    replace hF := zq_ck_e hF; obtain ⟨e_4, hF⟩ := hF
    replace hF := zq_bd hF; obtain ⟨v_2, e_3, hF⟩ := hF
    refine zq_cV (pc' := 34) C (c_X4_cornerAt e_3) yv_X4_cornerAt wd_177 zq_K4 e_4 dX4_fits_31 rfl rfl rfl ⟨Nat.le_of_ble_eq_true rfl, Nat.le_of_ble_eq_true rfl⟩ (Nat.le_of_ble_eq_true rfl) ⟨rfl, rfl⟩ ⟨Nat.le_of_ble_eq_true rfl, Nat.le_of_ble_eq_true rfl⟩ rfl ?_
    replace hF := zq_bd hF; obtain ⟨v_5, e_6, hF⟩ := hF
    refine zq_cS (pc' := 37) C (c_X4_beginsDiagonal e_6) ys_X4_beginsDiagonal wd_181 dX4_fits_34 rfl rfl rfl ⟨Nat.le_of_ble_eq_true rfl, Nat.le_of_ble_eq_true rfl⟩ (Nat.le_of_ble_eq_true rfl) ⟨rfl, rfl⟩ ⟨Nat.le_of_ble_eq_true rfl, Nat.le_of_ble_eq_true rfl⟩ rfl ?_
    have hF := Option.some.inj hF
    subst hF
    exact hE _ _ _ _ (Nat.le_of_ble_eq_true rfl) (Nat.le_of_ble_eq_true rfl) dX4_fits_37
  have hF := zq_ifn hF c_1
  by_cases c_7 : (x2 - x2 / 3 * 3) = 1
  · have hF := zq_ifp hF c_7
    refine zq_lookup C 38 dX4_fits_3 (by decide) (by rw [c_7]) (by decide) ?_
    refine zq_aload_n (pc' := 39) C dX4_fits_38 rfl rfl rfl ?_
    refine zq_aload_n (pc' := 40) C dX4_fits_39 rfl rfl rfl ?_
    refine zq_iload_n (pc' := 41) C dX4_fits_40 rfl rfl rfl ?_
    refine zq_iconst (pc' := 42) C 1 dX4_fits_41 rfl (by decide) ?_
    refine zq_isub (pc' := 43) C dX4_fits_42 rfl ?_
    replace hF := zq_ck_e hF; obtain ⟨e_10, hF⟩ := hF
    replace hF := zq_bd hF; obtain ⟨v_8, e_9, hF⟩ := hF
    refine zq_cV (pc' := 46) C (c_X4_cornerAt e_9) yv_X4_cornerAt wd_177 zq_K4 e_10 dX4_fits_43 rfl rfl rfl ⟨Nat.le_of_ble_eq_true rfl, Nat.le_of_ble_eq_true rfl⟩ (Nat.le_of_ble_eq_true rfl) ⟨rfl, rfl⟩ ⟨Nat.le_of_ble_eq_true rfl, Nat.le_of_ble_eq_true rfl⟩ rfl ?_
    refine zq_aload_n (pc' := 47) C dX4_fits_46 rfl rfl rfl ?_
    refine zq_iload_n (pc' := 48) C dX4_fits_47 rfl rfl rfl ?_
    replace hF := zq_ck_e hF; obtain ⟨e_13, hF⟩ := hF
    replace hF := zq_bd hF; obtain ⟨v_11, e_12, hF⟩ := hF
    refine zq_cV (pc' := 51) C (c_X4_cornerAt e_12) yv_X4_cornerAt wd_177 zq_K4 e_13 dX4_fits_48 rfl rfl rfl ⟨Nat.le_of_ble_eq_true rfl, Nat.le_of_ble_eq_true rfl⟩ (Nat.le_of_ble_eq_true rfl) ⟨rfl, rfl⟩ ⟨Nat.le_of_ble_eq_true rfl, Nat.le_of_ble_eq_true rfl⟩ rfl ?_
    replace hF := zq_ck_e hF; obtain ⟨e_16, hF⟩ := hF
    replace hF := zq_bd hF; obtain ⟨v_14, e_15, hF⟩ := hF
    refine zq_cV (pc' := 54) C (c_X1_numberOf e_15) yv_X1_numberOf wd_183 zq_K1 e_16 dX4_fits_51 rfl rfl rfl ⟨Nat.le_of_ble_eq_true rfl, Nat.le_of_ble_eq_true rfl⟩ (Nat.le_of_ble_eq_true rfl) ⟨rfl, rfl⟩ ⟨Nat.le_of_ble_eq_true rfl, Nat.le_of_ble_eq_true rfl⟩ rfl ?_
    refine zq_iconst (pc' := 55) C (-1) dX4_fits_54 rfl (by decide) ?_
    refine zq_icmp_eq (pc' := 58) C 62 dX4_fits_55 (by decide) rfl (fun c_17 => ?_) (fun c_17 => ?_)
    · have hF := (zq_ifp hF c_17)
      skip
      refine zq_iconst (pc' := 63) C 0 dX4_fits_62 rfl (by decide) ?_
      have hF := Option.some.inj hF
      subst hF
      exact hE _ _ _ _ (Nat.le_of_ble_eq_true rfl) (Nat.le_of_ble_eq_true rfl) dX4_fits_63
    · have hF := (zq_ifn hF c_17)
      refine zq_iconst (pc' := 59) C 1 dX4_fits_58 rfl (by decide) ?_
      refine zq_goto C 63 dX4_fits_59 (by decide) ?_
      have hF := Option.some.inj hF
      subst hF
      exact hE _ _ _ _ (Nat.le_of_ble_eq_true rfl) (Nat.le_of_ble_eq_true rfl) dX4_fits_63
  have hF := zq_ifn hF c_7
  refine zq_lookup (off := 61) C 64 dX4_fits_3 (by decide) (by simp only [Op.lookupswitch.offset]; rw [if_neg (fun q => c_1 ((fa_eq9 _ 0).mpr q.symm)), if_neg (fun q => c_7 ((fa_eq9 _ 1).mpr q.symm))]) (by decide) ?_
  refine zq_aload_n (pc' := 65) C dX4_fits_64 rfl rfl rfl ?_
  replace hF := zq_bd hF; obtain ⟨v_18, e_19, hF⟩ := hF
  refine zq_getR (j := 0) (pc' := 68) C zq_K4 zq_in4w (Or.inl wd_168) (by decide) rfl dX4_fits_65 rfl e_19 ?_
  refine zq_iload_n (pc' := 69) C dX4_fits_68 rfl rfl rfl ?_
  replace hF := zq_bd hF; obtain ⟨v_20, e_21, hF⟩ := hF
  refine zq_iaload (pc' := 70) C dX4_fits_69 rfl e_21 ?_
  refine zq_bipush (pc' := 72) C 44 dX4_fits_70 rfl (by decide) ?_
  refine zq_icmp_ne (pc' := 75) C 79 dX4_fits_72 (by decide) rfl (fun c_22 => ?_) (fun c_22 => ?_)
  · have hF := (zq_ifn hF c_22)
    skip
    refine zq_iconst (pc' := 80) C 0 dX4_fits_79 rfl (by decide) ?_
    have hF := Option.some.inj hF
    subst hF
    exact hE _ _ _ _ (Nat.le_of_ble_eq_true rfl) (Nat.le_of_ble_eq_true rfl) dX4_fits_80
  · have hF := (zq_ifp hF c_22)
    refine zq_iconst (pc' := 76) C 1 dX4_fits_75 rfl (by decide) ?_
    refine zq_goto C 80 dX4_fits_76 (by decide) ?_
    have hF := Option.some.inj hF
    subst hF
    exact hE _ _ _ _ (Nat.le_of_ble_eq_true rfl) (Nat.le_of_ble_eq_true rfl) dX4_fits_80
theorem c_X4_fits {h : zq_H} {t : Nat} {r1 : Nat} {x2 : Int32} {out : Bool} (hF : f_X4_fits h t r1 x2 = some out) : zq_M none yX4_fits (Cond.code yX4_fits cX4_fits 3 (some .boolean) :: zq_all) rm_X4_fits [.ref t, .ref r1, .int x2] h (some (.int (zq_b out))) h := zq_met2 (own := RX4) (by decide +kernel) rfl (Nat.le_of_ble_eq_true rfl) rfl ⟨.boolean, rfl, by cases out <;> rfl⟩ (fun X C T hn hE => v_X4_fits C T hn hF hE)
theorem yv_X4_fits : zq_calV yX4_fits RX4 cX4_fits 3 (some .boolean) 2 := ⟨by decide +kernel, wd_176, wd_187, wd_188, wd_180⟩
def f_X4_firstWrong (h : zq_H) (t : Nat) (r1 : Nat) : Option Int32 := (Option.bind (f_X4_fullLength h r1) fun v_1 => ((zq_lp (σ := Int32) (ρ := (Unit) ⊕ Int32) (fun s_3 => (Option.bind (zq_gi h t 4 1) fun v_11 => (if v_11 ≤ s_3 then some (.inr (.inl ())) else (if v_1 ≤ s_3 then some (.inr (.inr (s_3))) else (zq_ck h t 4 fun _ => (Option.bind (f_X4_fits h t r1 s_3) fun v_15 => (if v_15 = false then some (.inr (.inr (s_3))) else (zq_let (s_3 + 1) fun v_19 => some (.inl v_19))))))))) zq_N 0).bind (Sum.elim (fun y_6 : Unit => (Option.bind (zq_gi h t 4 1) fun v_21 => some (v_21))) (fun z_7 => some z_7))))
abbrev rm_X4_firstWrong : Room := { frames := 3, cells := 0, slots := 0, locals := 65 }
theorem dX4_firstWrong_0 : decode cX4_firstWrong 0 = .ok (.aload_n 1, 1) := by decide +kernel
theorem dX4_firstWrong_1 : decode cX4_firstWrong 1 = .ok (.invokestatic 24, 3) := by decide +kernel
theorem dX4_firstWrong_4 : decode cX4_firstWrong 4 = .ok (.istore_n 2, 1) := by decide +kernel
theorem dX4_firstWrong_5 : decode cX4_firstWrong 5 = .ok (.iconst 0, 1) := by decide +kernel
theorem dX4_firstWrong_6 : decode cX4_firstWrong 6 = .ok (.istore_n 3, 1) := by decide +kernel
theorem dX4_firstWrong_7 : decode cX4_firstWrong 7 = .ok (.iload_n 3, 1) := by decide +kernel
theorem dX4_firstWrong_8 : decode cX4_firstWrong 8 = .ok (.aload_n 0, 1) := by decide +kernel
theorem dX4_firstWrong_9 : decode cX4_firstWrong 9 = .ok (.getfield 15, 3) := by decide +kernel
theorem dX4_firstWrong_12 : decode cX4_firstWrong 12 = .ok (.if_icmp .ge 25, 3) := by decide +kernel
theorem dX4_firstWrong_15 : decode cX4_firstWrong 15 = .ok (.iload_n 3, 1) := by decide +kernel
theorem dX4_firstWrong_16 : decode cX4_firstWrong 16 = .ok (.iload_n 2, 1) := by decide +kernel
theorem dX4_firstWrong_17 : decode cX4_firstWrong 17 = .ok (.if_icmp .ge 12, 3) := by decide +kernel
theorem dX4_firstWrong_20 : decode cX4_firstWrong 20 = .ok (.aload_n 0, 1) := by decide +kernel
theorem dX4_firstWrong_21 : decode cX4_firstWrong 21 = .ok (.aload_n 1, 1) := by decide +kernel
theorem dX4_firstWrong_22 : decode cX4_firstWrong 22 = .ok (.iload_n 3, 1) := by decide +kernel
theorem dX4_firstWrong_23 : decode cX4_firstWrong 23 = .ok (.invokevirtual 28, 3) := by decide +kernel
theorem dX4_firstWrong_26 : decode cX4_firstWrong 26 = .ok (.ifCond .ne 5, 3) := by decide +kernel
theorem dX4_firstWrong_29 : decode cX4_firstWrong 29 = .ok (.iload_n 3, 1) := by decide +kernel
theorem dX4_firstWrong_30 : decode cX4_firstWrong 30 = .ok (.ireturn, 1) := by decide +kernel
theorem dX4_firstWrong_31 : decode cX4_firstWrong 31 = .ok (.iinc 3 1, 3) := by decide +kernel
theorem dX4_firstWrong_34 : decode cX4_firstWrong 34 = .ok (.goto (-27), 3) := by decide +kernel
theorem dX4_firstWrong_37 : decode cX4_firstWrong 37 = .ok (.aload_n 0, 1) := by decide +kernel
theorem dX4_firstWrong_38 : decode cX4_firstWrong 38 = .ok (.getfield 15, 3) := by decide +kernel
theorem dX4_firstWrong_41 : decode cX4_firstWrong 41 = .ok (.ireturn, 1) := by decide +kernel
set_option maxRecDepth 100000 in
set_option maxHeartbeats 4000000 in
theorem v_X4_firstWrong {X : zq_X} (C : zq_C X RX4 cX4_firstWrong 4 zq_all rm_X4_firstWrong) {h : zq_H} {t : Nat} {r1 : Nat} (T : zq_T X none) (hn : X.2.2.2.2.2.2.2.2.1.name = yX4_firstWrong.name) {out : Int32} (hF : f_X4_firstWrong h t r1 = some out) (hE : zq_End X cX4_firstWrong 0 0 (some (.int out)) h) : zq_W X 0 0 h 0 [(0, .ref t), (1, .ref r1)] [] := by
  unfold f_X4_firstWrong at hF
  refine zq_aload_n (pc' := 1) C dX4_firstWrong_0 rfl rfl rfl ?_
  replace hF := zq_bd hF; obtain ⟨v_1, e_2, hF⟩ := hF
  refine zq_cS (pc' := 4) C (c_X4_fullLength e_2) ys_X4_fullLength wd_184 dX4_firstWrong_1 rfl rfl rfl ⟨Nat.le_of_ble_eq_true rfl, Nat.le_of_ble_eq_true rfl⟩ (Nat.le_of_ble_eq_true rfl) ⟨rfl, rfl⟩ ⟨Nat.le_of_ble_eq_true rfl, Nat.le_of_ble_eq_true rfl⟩ rfl ?_
  refine zq_istore_n (lv' := [(2, .int v_1), (0, .ref t), (1, .ref r1)]) (pc' := 5) C dX4_firstWrong_4 rfl rfl (by decide) rfl rfl ?_
  refine zq_iconst (pc' := 6) C 0 dX4_firstWrong_5 rfl (by decide) ?_
  refine zq_istore_n (lv' := [(3, .int 0), (2, .int v_1), (0, .ref t), (1, .ref r1)]) (pc' := 7) C dX4_firstWrong_6 rfl rfl (by decide) rfl rfl ?_
  refine zq_sub [2, 3, 1, 0] rfl ?_
  replace hF := zq_bd hF; obtain ⟨r_4, e_5, hF⟩ := hF
  refine zq_lpW (fun s_3 => zq_W X 0 0 h 7 [(0, .ref t), (1, .ref r1), (2, .int v_1), (3, .int s_3)] []) (Sum.elim (fun y_6 => zq_W X 0 0 h 37 [(0, .ref t)] []) (fun z_7 => out = z_7)) e_5 (fun s_3 q_10 hF hrec_8 hex_9 => ?_) ?_
  · skip
    refine zq_iload_n (pc' := 8) C dX4_firstWrong_7 rfl rfl rfl ?_
    refine zq_aload_n (pc' := 9) C dX4_firstWrong_8 rfl rfl rfl ?_
    replace hF := zq_bd hF; obtain ⟨v_11, e_12, hF⟩ := hF
    refine zq_getI (j := 1) (pc' := 12) C zq_K4 zq_in4w (Or.inl wd_170) (by decide) rfl dX4_firstWrong_9 rfl e_12 ?_
    refine zq_icmp_ge (pc' := 15) C 37 dX4_firstWrong_12 (by decide) rfl (fun c_13 => ?_) (fun c_13 => ?_)
    · have hF := (zq_ifp hF c_13)
      skip
      cases hF
      exact zq_sub [0] rfl (hex_9 _ rfl)
    · have hF := (zq_ifn hF c_13)
      refine zq_iload_n (pc' := 16) C dX4_firstWrong_15 rfl rfl rfl ?_
      refine zq_iload_n (pc' := 17) C dX4_firstWrong_16 rfl rfl rfl ?_
      refine zq_icmp_ge (pc' := 20) C 29 dX4_firstWrong_17 (by decide) rfl (fun c_14 => ?_) (fun c_14 => ?_)
      · have hF := (zq_ifp hF c_14)
        skip
        refine zq_iload_n (pc' := 30) C dX4_firstWrong_29 rfl rfl rfl ?_
        cases hF
        have q9 : out = s_3 := hex_9 _ rfl
        subst q9
        exact hE _ _ _ _ (Nat.le_of_ble_eq_true rfl) (Nat.le_of_ble_eq_true rfl) dX4_firstWrong_30
      · have hF := (zq_ifn hF c_14)
        refine zq_aload_n (pc' := 21) C dX4_firstWrong_20 rfl rfl rfl ?_
        refine zq_aload_n (pc' := 22) C dX4_firstWrong_21 rfl rfl rfl ?_
        refine zq_iload_n (pc' := 23) C dX4_firstWrong_22 rfl rfl rfl ?_
        replace hF := zq_ck_e hF; obtain ⟨e_17, hF⟩ := hF
        replace hF := zq_bd hF; obtain ⟨v_15, e_16, hF⟩ := hF
        refine zq_cV (pc' := 26) C (c_X4_fits e_16) yv_X4_fits wd_186 zq_K4 e_17 dX4_firstWrong_23 rfl rfl rfl ⟨Nat.le_of_ble_eq_true rfl, Nat.le_of_ble_eq_true rfl⟩ (Nat.le_of_ble_eq_true rfl) ⟨rfl, rfl⟩ ⟨Nat.le_of_ble_eq_true rfl, Nat.le_of_ble_eq_true rfl⟩ rfl ?_
        refine zq_if_ne (pc' := 29) C 31 dX4_firstWrong_26 (by decide) rfl (fun c_18 => ?_) (fun c_18 => ?_)
        · have hF := (zq_ifn hF (fun q => c_18 (zq_b0.mpr q)))
          skip
          replace hF := zq_let_e hF; obtain ⟨v_19, e_20, hF⟩ := hF
          refine zq_iinc (lv' := [(3, .int v_19), (0, .ref t), (1, .ref r1), (2, .int v_1)]) (pc' := 34) C dX4_firstWrong_31 rfl (by decide) 3 rfl e_20 rfl ?_
          refine zq_goto C 7 dX4_firstWrong_34 (by decide) ?_
          cases hF
          exact zq_sub [1, 2, 3, 0] rfl (hrec_8 _ rfl)
        · have hF := (zq_ifp hF (zq_b0.mp c_18))
          refine zq_iload_n (pc' := 30) C dX4_firstWrong_29 rfl rfl rfl ?_
          cases hF
          have q9 : out = s_3 := hex_9 _ rfl
          subst q9
          exact hE _ _ _ _ (Nat.le_of_ble_eq_true rfl) (Nat.le_of_ble_eq_true rfl) dX4_firstWrong_30
  · rcases r_4 with y_6 | z_7
    · dsimp only [Sum.elim_inl] at hF
      show zq_W X 0 0 h 37 [(0, .ref t)] []
      refine zq_aload_n (pc' := 38) C dX4_firstWrong_37 rfl rfl rfl ?_
      replace hF := zq_bd hF; obtain ⟨v_21, e_22, hF⟩ := hF
      refine zq_getI (j := 1) (pc' := 41) C zq_K4 zq_in4w (Or.inl wd_170) (by decide) rfl dX4_firstWrong_38 rfl e_22 ?_
      have hF := Option.some.inj hF
      subst hF
      exact hE _ _ _ _ (Nat.le_of_ble_eq_true rfl) (Nat.le_of_ble_eq_true rfl) dX4_firstWrong_41
    · cases hF; rfl
theorem c_X4_firstWrong {h : zq_H} {t : Nat} {r1 : Nat} {out : Int32} (hF : f_X4_firstWrong h t r1 = some out) : zq_M none yX4_firstWrong (Cond.code yX4_firstWrong cX4_firstWrong 4 (some .int) :: zq_all) rm_X4_firstWrong [.ref t, .ref r1] h (some (.int out)) h := zq_met2 (own := RX4) (by decide +kernel) rfl (Nat.le_of_ble_eq_true rfl) rfl ⟨.int, rfl, rfl⟩ (fun X C T hn hE => v_X4_firstWrong C T hn hF hE)
theorem yv_X4_firstWrong : zq_calV yX4_firstWrong RX4 cX4_firstWrong 4 (some .int) 1 := ⟨by decide +kernel, wd_189, wd_191, wd_192, wd_180⟩
def f_X4_isComplete (h : zq_H) (t : Nat) (r1 : Nat) : Option Bool := (Option.bind (zq_gi h t 4 1) fun v_1 => (Option.bind (f_X4_fullLength h r1) fun v_3 => (if v_1 = v_3 then (zq_ck h t 4 fun _ => (Option.bind (f_X4_firstWrong h t r1) fun v_6 => (Option.bind (zq_gi h t 4 1) fun v_9 => (if v_6 = v_9 then some (true) else some (false))))) else some (false))))
abbrev rm_X4_isComplete : Room := { frames := 4, cells := 0, slots := 0, locals := 88 }
theorem dX4_isComplete_0 : decode cX4_isComplete 0 = .ok (.aload_n 0, 1) := by decide +kernel
theorem dX4_isComplete_1 : decode cX4_isComplete 1 = .ok (.getfield 15, 3) := by decide +kernel
theorem dX4_isComplete_4 : decode cX4_isComplete 4 = .ok (.aload_n 1, 1) := by decide +kernel
theorem dX4_isComplete_5 : decode cX4_isComplete 5 = .ok (.invokestatic 24, 3) := by decide +kernel
theorem dX4_isComplete_8 : decode cX4_isComplete 8 = .ok (.if_icmp .ne 19, 3) := by decide +kernel
theorem dX4_isComplete_11 : decode cX4_isComplete 11 = .ok (.aload_n 0, 1) := by decide +kernel
theorem dX4_isComplete_12 : decode cX4_isComplete 12 = .ok (.aload_n 1, 1) := by decide +kernel
theorem dX4_isComplete_13 : decode cX4_isComplete 13 = .ok (.invokevirtual 43, 3) := by decide +kernel
theorem dX4_isComplete_16 : decode cX4_isComplete 16 = .ok (.aload_n 0, 1) := by decide +kernel
theorem dX4_isComplete_17 : decode cX4_isComplete 17 = .ok (.getfield 15, 3) := by decide +kernel
theorem dX4_isComplete_20 : decode cX4_isComplete 20 = .ok (.if_icmp .ne 7, 3) := by decide +kernel
theorem dX4_isComplete_23 : decode cX4_isComplete 23 = .ok (.iconst 1, 1) := by decide +kernel
theorem dX4_isComplete_24 : decode cX4_isComplete 24 = .ok (.goto 4, 3) := by decide +kernel
theorem dX4_isComplete_27 : decode cX4_isComplete 27 = .ok (.iconst 0, 1) := by decide +kernel
theorem dX4_isComplete_28 : decode cX4_isComplete 28 = .ok (.ireturn, 1) := by decide +kernel
set_option maxRecDepth 100000 in
set_option maxHeartbeats 4000000 in
theorem v_X4_isComplete {X : zq_X} (C : zq_C X RX4 cX4_isComplete 2 zq_all rm_X4_isComplete) {h : zq_H} {t : Nat} {r1 : Nat} (T : zq_T X none) (hn : X.2.2.2.2.2.2.2.2.1.name = yX4_isComplete.name) {out : Bool} (hF : f_X4_isComplete h t r1 = some out) (hE : zq_End X cX4_isComplete 0 0 (some (.int (zq_b out))) h) : zq_W X 0 0 h 0 [(0, .ref t), (1, .ref r1)] [] := by
  unfold f_X4_isComplete at hF
  refine zq_aload_n (pc' := 1) C dX4_isComplete_0 rfl rfl rfl ?_
  replace hF := zq_bd hF; obtain ⟨v_1, e_2, hF⟩ := hF
  refine zq_getI (j := 1) (pc' := 4) C zq_K4 zq_in4w (Or.inl wd_170) (by decide) rfl dX4_isComplete_1 rfl e_2 ?_
  refine zq_aload_n (pc' := 5) C dX4_isComplete_4 rfl rfl rfl ?_
  replace hF := zq_bd hF; obtain ⟨v_3, e_4, hF⟩ := hF
  refine zq_cS (pc' := 8) C (c_X4_fullLength e_4) ys_X4_fullLength wd_184 dX4_isComplete_5 rfl rfl rfl ⟨Nat.le_of_ble_eq_true rfl, Nat.le_of_ble_eq_true rfl⟩ (Nat.le_of_ble_eq_true rfl) ⟨rfl, rfl⟩ ⟨Nat.le_of_ble_eq_true rfl, Nat.le_of_ble_eq_true rfl⟩ rfl ?_
  refine zq_icmp_ne (pc' := 11) C 27 dX4_isComplete_8 (by decide) rfl (fun c_5 => ?_) (fun c_5 => ?_)
  · have hF := (zq_ifn hF c_5)
    skip
    refine zq_iconst (pc' := 28) C 0 dX4_isComplete_27 rfl (by decide) ?_
    have hF := Option.some.inj hF
    subst hF
    exact hE _ _ _ _ (Nat.le_of_ble_eq_true rfl) (Nat.le_of_ble_eq_true rfl) dX4_isComplete_28
  · have hF := (zq_ifp hF c_5)
    refine zq_aload_n (pc' := 12) C dX4_isComplete_11 rfl rfl rfl ?_
    refine zq_aload_n (pc' := 13) C dX4_isComplete_12 rfl rfl rfl ?_
    replace hF := zq_ck_e hF; obtain ⟨e_8, hF⟩ := hF
    replace hF := zq_bd hF; obtain ⟨v_6, e_7, hF⟩ := hF
    refine zq_cV (pc' := 16) C (c_X4_firstWrong e_7) yv_X4_firstWrong wd_190 zq_K4 e_8 dX4_isComplete_13 rfl rfl rfl ⟨Nat.le_of_ble_eq_true rfl, Nat.le_of_ble_eq_true rfl⟩ (Nat.le_of_ble_eq_true rfl) ⟨rfl, rfl⟩ ⟨Nat.le_of_ble_eq_true rfl, Nat.le_of_ble_eq_true rfl⟩ rfl ?_
    refine zq_aload_n (pc' := 17) C dX4_isComplete_16 rfl rfl rfl ?_
    replace hF := zq_bd hF; obtain ⟨v_9, e_10, hF⟩ := hF
    refine zq_getI (j := 1) (pc' := 20) C zq_K4 zq_in4w (Or.inl wd_170) (by decide) rfl dX4_isComplete_17 rfl e_10 ?_
    refine zq_icmp_ne (pc' := 23) C 27 dX4_isComplete_20 (by decide) rfl (fun c_11 => ?_) (fun c_11 => ?_)
    · have hF := (zq_ifn hF c_11)
      skip
      refine zq_iconst (pc' := 28) C 0 dX4_isComplete_27 rfl (by decide) ?_
      have hF := Option.some.inj hF
      subst hF
      exact hE _ _ _ _ (Nat.le_of_ble_eq_true rfl) (Nat.le_of_ble_eq_true rfl) dX4_isComplete_28
    · have hF := (zq_ifp hF c_11)
      refine zq_iconst (pc' := 24) C 1 dX4_isComplete_23 rfl (by decide) ?_
      refine zq_goto C 28 dX4_isComplete_24 (by decide) ?_
      have hF := Option.some.inj hF
      subst hF
      exact hE _ _ _ _ (Nat.le_of_ble_eq_true rfl) (Nat.le_of_ble_eq_true rfl) dX4_isComplete_28
theorem c_X4_isComplete {h : zq_H} {t : Nat} {r1 : Nat} {out : Bool} (hF : f_X4_isComplete h t r1 = some out) : zq_M none yX4_isComplete (Cond.code yX4_isComplete cX4_isComplete 2 (some .boolean) :: zq_all) rm_X4_isComplete [.ref t, .ref r1] h (some (.int (zq_b out))) h := zq_met2 (own := RX4) (by decide +kernel) rfl (Nat.le_of_ble_eq_true rfl) rfl ⟨.boolean, rfl, by cases out <;> rfl⟩ (fun X C T hn hE => v_X4_isComplete C T hn hF hE)
theorem yv_X4_isComplete : zq_calV yX4_isComplete RX4 cX4_isComplete 2 (some .boolean) 1 := ⟨by decide +kernel, wd_193, wd_324, wd_325, wd_180⟩
def f_X4_maskIn (h : zq_H) (t : Nat) (r1 : Nat) : Option Int32 := ((zq_lp (σ := Int32 × Int32) (ρ := (Int32) ⊕ Int32) (fun s_1 => (Option.bind (zq_gi h t 4 1) fun v_9 => (if v_9 ≤ (s_1.2 + 1) then some (.inr (.inl s_1.1)) else (zq_ck h t 4 fun _ => (Option.bind (f_X4_cornerAt h t s_1.2) fun v_12 => (zq_ck h t 4 fun _ => (Option.bind (f_X4_cornerAt h t (s_1.2 + 1)) fun v_15 => (zq_ck h r1 1 fun _ => (Option.bind (f_X1_numberOf h r1 v_12 v_15) fun v_18 => (if v_18 = (-1) then some (.inr (.inr ((-1)))) else (Option.bind (f_X5_isIn h s_1.1 v_18) fun v_22 => (if v_22 = false then (Option.bind (zq_gr h r1 1 6) fun v_25 => (Option.bind (zq_ai h v_25 v_18) fun v_27 => (if (v_27 &&& s_1.1) = 0 then (zq_let (s_1.1 ||| ((1 : Int32) <<< (v_18 &&& 31))) fun v_30 => (zq_let (s_1.2 + 3) fun v_32 => some (.inl (v_30, v_32)))) else some (.inr (.inr ((-1))))))) else some (.inr (.inr ((-1)))))))))))))))) zq_N (0, 0)).bind (Sum.elim (fun y_4 : Int32 => some (y_4)) (fun z_5 => some z_5)))
abbrev rm_X4_maskIn : Room := { frames := 2, cells := 0, slots := 0, locals := 43 }
theorem dX4_maskIn_0 : decode cX4_maskIn 0 = .ok (.iconst 0, 1) := by decide +kernel
theorem dX4_maskIn_1 : decode cX4_maskIn 1 = .ok (.istore_n 2, 1) := by decide +kernel
theorem dX4_maskIn_2 : decode cX4_maskIn 2 = .ok (.iconst 0, 1) := by decide +kernel
theorem dX4_maskIn_3 : decode cX4_maskIn 3 = .ok (.istore_n 3, 1) := by decide +kernel
theorem dX4_maskIn_4 : decode cX4_maskIn 4 = .ok (.iload_n 3, 1) := by decide +kernel
theorem dX4_maskIn_5 : decode cX4_maskIn 5 = .ok (.iconst 1, 1) := by decide +kernel
theorem dX4_maskIn_6 : decode cX4_maskIn 6 = .ok (.iadd, 1) := by decide +kernel
theorem dX4_maskIn_7 : decode cX4_maskIn 7 = .ok (.aload_n 0, 1) := by decide +kernel
theorem dX4_maskIn_8 : decode cX4_maskIn 8 = .ok (.getfield 15, 3) := by decide +kernel
theorem dX4_maskIn_11 : decode cX4_maskIn 11 = .ok (.if_icmp .ge 63, 3) := by decide +kernel
theorem dX4_maskIn_14 : decode cX4_maskIn 14 = .ok (.aload_n 1, 1) := by decide +kernel
theorem dX4_maskIn_15 : decode cX4_maskIn 15 = .ok (.aload_n 0, 1) := by decide +kernel
theorem dX4_maskIn_16 : decode cX4_maskIn 16 = .ok (.iload_n 3, 1) := by decide +kernel
theorem dX4_maskIn_17 : decode cX4_maskIn 17 = .ok (.invokevirtual 32, 3) := by decide +kernel
theorem dX4_maskIn_20 : decode cX4_maskIn 20 = .ok (.aload_n 0, 1) := by decide +kernel
theorem dX4_maskIn_21 : decode cX4_maskIn 21 = .ok (.iload_n 3, 1) := by decide +kernel
theorem dX4_maskIn_22 : decode cX4_maskIn 22 = .ok (.iconst 1, 1) := by decide +kernel
theorem dX4_maskIn_23 : decode cX4_maskIn 23 = .ok (.iadd, 1) := by decide +kernel
theorem dX4_maskIn_24 : decode cX4_maskIn 24 = .ok (.invokevirtual 32, 3) := by decide +kernel
theorem dX4_maskIn_27 : decode cX4_maskIn 27 = .ok (.invokevirtual 39, 3) := by decide +kernel
theorem dX4_maskIn_30 : decode cX4_maskIn 30 = .ok (.istore 4, 2) := by decide +kernel
theorem dX4_maskIn_32 : decode cX4_maskIn 32 = .ok (.iload 4, 2) := by decide +kernel
theorem dX4_maskIn_34 : decode cX4_maskIn 34 = .ok (.iconst (-1), 1) := by decide +kernel
theorem dX4_maskIn_35 : decode cX4_maskIn 35 = .ok (.if_icmp .eq 24, 3) := by decide +kernel
theorem dX4_maskIn_38 : decode cX4_maskIn 38 = .ok (.iload_n 2, 1) := by decide +kernel
theorem dX4_maskIn_39 : decode cX4_maskIn 39 = .ok (.iload 4, 2) := by decide +kernel
theorem dX4_maskIn_41 : decode cX4_maskIn 41 = .ok (.invokestatic 46, 3) := by decide +kernel
theorem dX4_maskIn_44 : decode cX4_maskIn 44 = .ok (.ifCond .ne 15, 3) := by decide +kernel
theorem dX4_maskIn_47 : decode cX4_maskIn 47 = .ok (.aload_n 1, 1) := by decide +kernel
theorem dX4_maskIn_48 : decode cX4_maskIn 48 = .ok (.getfield 50, 3) := by decide +kernel
theorem dX4_maskIn_51 : decode cX4_maskIn 51 = .ok (.iload 4, 2) := by decide +kernel
theorem dX4_maskIn_53 : decode cX4_maskIn 53 = .ok (.iaload, 1) := by decide +kernel
theorem dX4_maskIn_54 : decode cX4_maskIn 54 = .ok (.iload_n 2, 1) := by decide +kernel
theorem dX4_maskIn_55 : decode cX4_maskIn 55 = .ok (.iand, 1) := by decide +kernel
theorem dX4_maskIn_56 : decode cX4_maskIn 56 = .ok (.ifCond .eq 5, 3) := by decide +kernel
theorem dX4_maskIn_59 : decode cX4_maskIn 59 = .ok (.iconst (-1), 1) := by decide +kernel
theorem dX4_maskIn_60 : decode cX4_maskIn 60 = .ok (.ireturn, 1) := by decide +kernel
theorem dX4_maskIn_61 : decode cX4_maskIn 61 = .ok (.iload_n 2, 1) := by decide +kernel
theorem dX4_maskIn_62 : decode cX4_maskIn 62 = .ok (.iconst 1, 1) := by decide +kernel
theorem dX4_maskIn_63 : decode cX4_maskIn 63 = .ok (.iload 4, 2) := by decide +kernel
theorem dX4_maskIn_65 : decode cX4_maskIn 65 = .ok (.ishl, 1) := by decide +kernel
theorem dX4_maskIn_66 : decode cX4_maskIn 66 = .ok (.ior, 1) := by decide +kernel
theorem dX4_maskIn_67 : decode cX4_maskIn 67 = .ok (.istore_n 2, 1) := by decide +kernel
theorem dX4_maskIn_68 : decode cX4_maskIn 68 = .ok (.iinc 3 3, 3) := by decide +kernel
theorem dX4_maskIn_71 : decode cX4_maskIn 71 = .ok (.goto (-67), 3) := by decide +kernel
theorem dX4_maskIn_74 : decode cX4_maskIn 74 = .ok (.iload_n 2, 1) := by decide +kernel
theorem dX4_maskIn_75 : decode cX4_maskIn 75 = .ok (.ireturn, 1) := by decide +kernel
set_option maxRecDepth 100000 in
set_option maxHeartbeats 4000000 in
theorem v_X4_maskIn {X : zq_X} (C : zq_C X RX4 cX4_maskIn 5 zq_all rm_X4_maskIn) {h : zq_H} {t : Nat} {r1 : Nat} (T : zq_T X none) (hn : X.2.2.2.2.2.2.2.2.1.name = yX4_maskIn.name) {out : Int32} (hF : f_X4_maskIn h t r1 = some out) (hE : zq_End X cX4_maskIn 0 0 (some (.int out)) h) : zq_W X 0 0 h 0 [(0, .ref t), (1, .ref r1)] [] := by
  unfold f_X4_maskIn at hF
  refine zq_iconst (pc' := 1) C 0 dX4_maskIn_0 rfl (by decide) ?_
  refine zq_istore_n (lv' := [(2, .int 0), (0, .ref t), (1, .ref r1)]) (pc' := 2) C dX4_maskIn_1 rfl rfl (by decide) rfl rfl ?_
  refine zq_iconst (pc' := 3) C 0 dX4_maskIn_2 rfl (by decide) ?_
  refine zq_istore_n (lv' := [(3, .int 0), (2, .int 0), (0, .ref t), (1, .ref r1)]) (pc' := 4) C dX4_maskIn_3 rfl rfl (by decide) rfl rfl ?_
  refine zq_sub [2, 3, 1, 0] rfl ?_
  replace hF := zq_bd hF; obtain ⟨r_2, e_3, hF⟩ := hF
  refine zq_lpW (fun s_1 => zq_W X 0 0 h 4 [(0, .ref t), (1, .ref r1), (2, .int s_1.1), (3, .int s_1.2)] []) (Sum.elim (fun y_4 => zq_W X 0 0 h 74 [(2, .int y_4)] []) (fun z_5 => out = z_5)) e_3 (fun s_1 q_8 hF hrec_6 hex_7 => ?_) ?_
  · skip
    refine zq_iload_n (pc' := 5) C dX4_maskIn_4 rfl rfl rfl ?_
    refine zq_iconst (pc' := 6) C 1 dX4_maskIn_5 rfl (by decide) ?_
    refine zq_iadd (pc' := 7) C dX4_maskIn_6 rfl ?_
    refine zq_aload_n (pc' := 8) C dX4_maskIn_7 rfl rfl rfl ?_
    replace hF := zq_bd hF; obtain ⟨v_9, e_10, hF⟩ := hF
    refine zq_getI (j := 1) (pc' := 11) C zq_K4 zq_in4w (Or.inl wd_170) (by decide) rfl dX4_maskIn_8 rfl e_10 ?_
    refine zq_icmp_ge (pc' := 14) C 74 dX4_maskIn_11 (by decide) rfl (fun c_11 => ?_) (fun c_11 => ?_)
    · have hF := (zq_ifp hF c_11)
      skip
      cases hF
      exact zq_sub [2] rfl (hex_7 _ rfl)
    · have hF := (zq_ifn hF c_11)
      refine zq_aload_n (pc' := 15) C dX4_maskIn_14 rfl rfl rfl ?_
      refine zq_aload_n (pc' := 16) C dX4_maskIn_15 rfl rfl rfl ?_
      refine zq_iload_n (pc' := 17) C dX4_maskIn_16 rfl rfl rfl ?_
      replace hF := zq_ck_e hF; obtain ⟨e_14, hF⟩ := hF
      replace hF := zq_bd hF; obtain ⟨v_12, e_13, hF⟩ := hF
      refine zq_cV (pc' := 20) C (c_X4_cornerAt e_13) yv_X4_cornerAt wd_177 zq_K4 e_14 dX4_maskIn_17 rfl rfl rfl ⟨Nat.le_of_ble_eq_true rfl, Nat.le_of_ble_eq_true rfl⟩ (Nat.le_of_ble_eq_true rfl) ⟨rfl, rfl⟩ ⟨Nat.le_of_ble_eq_true rfl, Nat.le_of_ble_eq_true rfl⟩ rfl ?_
      refine zq_aload_n (pc' := 21) C dX4_maskIn_20 rfl rfl rfl ?_
      refine zq_iload_n (pc' := 22) C dX4_maskIn_21 rfl rfl rfl ?_
      refine zq_iconst (pc' := 23) C 1 dX4_maskIn_22 rfl (by decide) ?_
      refine zq_iadd (pc' := 24) C dX4_maskIn_23 rfl ?_
      replace hF := zq_ck_e hF; obtain ⟨e_17, hF⟩ := hF
      replace hF := zq_bd hF; obtain ⟨v_15, e_16, hF⟩ := hF
      refine zq_cV (pc' := 27) C (c_X4_cornerAt e_16) yv_X4_cornerAt wd_177 zq_K4 e_17 dX4_maskIn_24 rfl rfl rfl ⟨Nat.le_of_ble_eq_true rfl, Nat.le_of_ble_eq_true rfl⟩ (Nat.le_of_ble_eq_true rfl) ⟨rfl, rfl⟩ ⟨Nat.le_of_ble_eq_true rfl, Nat.le_of_ble_eq_true rfl⟩ rfl ?_
      replace hF := zq_ck_e hF; obtain ⟨e_20, hF⟩ := hF
      replace hF := zq_bd hF; obtain ⟨v_18, e_19, hF⟩ := hF
      refine zq_cV (pc' := 30) C (c_X1_numberOf e_19) yv_X1_numberOf wd_183 zq_K1 e_20 dX4_maskIn_27 rfl rfl rfl ⟨Nat.le_of_ble_eq_true rfl, Nat.le_of_ble_eq_true rfl⟩ (Nat.le_of_ble_eq_true rfl) ⟨rfl, rfl⟩ ⟨Nat.le_of_ble_eq_true rfl, Nat.le_of_ble_eq_true rfl⟩ rfl ?_
      refine zq_istore (lv' := [(4, .int v_18), (0, .ref t), (1, .ref r1), (2, .int s_1.1), (3, .int s_1.2)]) (pc' := 32) C dX4_maskIn_30 rfl (by decide) rfl rfl ?_
      refine zq_iload (pc' := 34) C dX4_maskIn_32 rfl rfl ?_
      refine zq_iconst (pc' := 35) C (-1) dX4_maskIn_34 rfl (by decide) ?_
      refine zq_icmp_eq (pc' := 38) C 59 dX4_maskIn_35 (by decide) rfl (fun c_21 => ?_) (fun c_21 => ?_)
      · have hF := (zq_ifp hF c_21)
        skip
        refine zq_iconst (pc' := 60) C (-1) dX4_maskIn_59 rfl (by decide) ?_
        cases hF
        have q9 : out = (-1) := hex_7 _ rfl
        subst q9
        exact hE _ _ _ _ (Nat.le_of_ble_eq_true rfl) (Nat.le_of_ble_eq_true rfl) dX4_maskIn_60
      · have hF := (zq_ifn hF c_21)
        refine zq_iload_n (pc' := 39) C dX4_maskIn_38 rfl rfl rfl ?_
        refine zq_iload (pc' := 41) C dX4_maskIn_39 rfl rfl ?_
        replace hF := zq_bd hF; obtain ⟨v_22, e_23, hF⟩ := hF
        refine zq_cSN (host := "FlipPolygons") (pc' := 44) C (c_X5_isIn e_23) ys_X5_isIn (by decide +kernel) dX4_maskIn_41 rfl rfl rfl ⟨Nat.le_of_ble_eq_true rfl, Nat.le_of_ble_eq_true rfl⟩ (Nat.le_of_ble_eq_true rfl) ⟨rfl, rfl⟩ ⟨Nat.le_of_ble_eq_true rfl, Nat.le_of_ble_eq_true rfl⟩ rfl ?_
        refine zq_if_ne (pc' := 47) C 59 dX4_maskIn_44 (by decide) rfl (fun c_24 => ?_) (fun c_24 => ?_)
        · have hF := (zq_ifn hF (fun q => c_24 (zq_b0.mpr q)))
          skip
          refine zq_iconst (pc' := 60) C (-1) dX4_maskIn_59 rfl (by decide) ?_
          cases hF
          have q9 : out = (-1) := hex_7 _ rfl
          subst q9
          exact hE _ _ _ _ (Nat.le_of_ble_eq_true rfl) (Nat.le_of_ble_eq_true rfl) dX4_maskIn_60
        · have hF := (zq_ifp hF (zq_b0.mp c_24))
          refine zq_aload_n (pc' := 48) C dX4_maskIn_47 rfl rfl rfl ?_
          replace hF := zq_bd hF; obtain ⟨v_25, e_26, hF⟩ := hF
          refine zq_getR (j := 6) (pc' := 51) C zq_K1 zq_in1w (Or.inr ⟨"FlipPolygons", by decide +kernel⟩) (by decide) rfl dX4_maskIn_48 rfl e_26 ?_
          refine zq_iload (pc' := 53) C dX4_maskIn_51 rfl rfl ?_
          replace hF := zq_bd hF; obtain ⟨v_27, e_28, hF⟩ := hF
          refine zq_iaload (pc' := 54) C dX4_maskIn_53 rfl e_28 ?_
          refine zq_iload_n (pc' := 55) C dX4_maskIn_54 rfl rfl rfl ?_
          refine zq_iand (pc' := 56) C dX4_maskIn_55 rfl ?_
          refine zq_if_eq (pc' := 59) C 61 dX4_maskIn_56 (by decide) rfl (fun c_29 => ?_) (fun c_29 => ?_)
          · have hF := (zq_ifp hF c_29)
            skip
            refine zq_iload_n (pc' := 62) C dX4_maskIn_61 rfl rfl rfl ?_
            refine zq_iconst (pc' := 63) C 1 dX4_maskIn_62 rfl (by decide) ?_
            refine zq_iload (pc' := 65) C dX4_maskIn_63 rfl rfl ?_
            refine zq_ishl (pc' := 66) C dX4_maskIn_65 rfl ?_
            refine zq_ior (pc' := 67) C dX4_maskIn_66 rfl ?_
            replace hF := zq_let_e hF; obtain ⟨v_30, e_31, hF⟩ := hF
            refine zq_istore_n (lv' := [(2, .int v_30), (4, .int v_18), (0, .ref t), (1, .ref r1), (3, .int s_1.2)]) (pc' := 68) C dX4_maskIn_67 rfl rfl (by decide) e_31 rfl ?_
            replace hF := zq_let_e hF; obtain ⟨v_32, e_33, hF⟩ := hF
            refine zq_iinc (lv' := [(3, .int v_32), (2, .int v_30), (4, .int v_18), (0, .ref t), (1, .ref r1)]) (pc' := 71) C dX4_maskIn_68 rfl (by decide) 4 rfl e_33 rfl ?_
            refine zq_goto C 4 dX4_maskIn_71 (by decide) ?_
            cases hF
            exact zq_sub [3, 4, 1, 0] rfl (hrec_6 _ rfl)
          · have hF := (zq_ifn hF c_29)
            refine zq_iconst (pc' := 60) C (-1) dX4_maskIn_59 rfl (by decide) ?_
            cases hF
            have q9 : out = (-1) := hex_7 _ rfl
            subst q9
            exact hE _ _ _ _ (Nat.le_of_ble_eq_true rfl) (Nat.le_of_ble_eq_true rfl) dX4_maskIn_60
  · rcases r_2 with y_4 | z_5
    · dsimp only [Sum.elim_inl] at hF
      show zq_W X 0 0 h 74 [(2, .int y_4)] []
      refine zq_iload_n (pc' := 75) C dX4_maskIn_74 rfl rfl rfl ?_
      have hF := Option.some.inj hF
      subst hF
      exact hE _ _ _ _ (Nat.le_of_ble_eq_true rfl) (Nat.le_of_ble_eq_true rfl) dX4_maskIn_75
    · cases hF; rfl
theorem c_X4_maskIn {h : zq_H} {t : Nat} {r1 : Nat} {out : Int32} (hF : f_X4_maskIn h t r1 = some out) : zq_M none yX4_maskIn (Cond.code yX4_maskIn cX4_maskIn 5 (some .int) :: zq_all) rm_X4_maskIn [.ref t, .ref r1] h (some (.int out)) h := zq_met2 (own := RX4) (by decide +kernel) rfl (Nat.le_of_ble_eq_true rfl) rfl ⟨.int, rfl, rfl⟩ (fun X C T hn hE => v_X4_maskIn C T hn hF hE)
theorem yv_X4_maskIn : zq_calV yX4_maskIn RX4 cX4_maskIn 5 (some .int) 1 := ⟨by decide +kernel, wd_194, wd_327, wd_328, wd_180⟩
def f_X4_mixInto (h : zq_H) (t : Nat) (x1 : Int64) : Option Int64 := (Option.bind (zq_gi h t 4 1) fun v_1 => (zq_let ((31 * x1) + (v_1 : Int32).toInt64) fun v_3 => ((zq_lp (σ := Int64 × Int32) (ρ := Int64) (fun s_5 => (Option.bind (zq_gi h t 4 1) fun v_13 => (if v_13 ≤ s_5.2 then some (.inr s_5.1) else (Option.bind (zq_gr h t 4 0) fun v_16 => (Option.bind (zq_ai h v_16 s_5.2) fun v_18 => (zq_let ((31 * s_5.1) + (v_18 : Int32).toInt64) fun v_20 => (zq_let (s_5.2 + 1) fun v_22 => some (.inl (v_20, v_22))))))))) zq_N (v_3, 0)).bind (fun y_8 : Int64 => some (y_8)))))
abbrev rm_X4_mixInto : Room := { frames := 0, cells := 0, slots := 0, locals := 0 }
theorem dX4_mixInto_0 : decode cX4_mixInto 0 = .ok (.ldc2_w 53, 3) := by decide +kernel
theorem dX4_mixInto_3 : decode cX4_mixInto 3 = .ok (.lload_n 1, 1) := by decide +kernel
theorem dX4_mixInto_4 : decode cX4_mixInto 4 = .ok (.lmul, 1) := by decide +kernel
theorem dX4_mixInto_5 : decode cX4_mixInto 5 = .ok (.aload_n 0, 1) := by decide +kernel
theorem dX4_mixInto_6 : decode cX4_mixInto 6 = .ok (.getfield 15, 3) := by decide +kernel
theorem dX4_mixInto_9 : decode cX4_mixInto 9 = .ok (.i2l, 1) := by decide +kernel
theorem dX4_mixInto_10 : decode cX4_mixInto 10 = .ok (.ladd, 1) := by decide +kernel
theorem dX4_mixInto_11 : decode cX4_mixInto 11 = .ok (.lstore_n 3, 1) := by decide +kernel
theorem dX4_mixInto_12 : decode cX4_mixInto 12 = .ok (.iconst 0, 1) := by decide +kernel
theorem dX4_mixInto_13 : decode cX4_mixInto 13 = .ok (.istore 5, 2) := by decide +kernel
theorem dX4_mixInto_15 : decode cX4_mixInto 15 = .ok (.iload 5, 2) := by decide +kernel
theorem dX4_mixInto_17 : decode cX4_mixInto 17 = .ok (.aload_n 0, 1) := by decide +kernel
theorem dX4_mixInto_18 : decode cX4_mixInto 18 = .ok (.getfield 15, 3) := by decide +kernel
theorem dX4_mixInto_21 : decode cX4_mixInto 21 = .ok (.if_icmp .ge 24, 3) := by decide +kernel
theorem dX4_mixInto_24 : decode cX4_mixInto 24 = .ok (.ldc2_w 53, 3) := by decide +kernel
theorem dX4_mixInto_27 : decode cX4_mixInto 27 = .ok (.lload_n 3, 1) := by decide +kernel
theorem dX4_mixInto_28 : decode cX4_mixInto 28 = .ok (.lmul, 1) := by decide +kernel
theorem dX4_mixInto_29 : decode cX4_mixInto 29 = .ok (.aload_n 0, 1) := by decide +kernel
theorem dX4_mixInto_30 : decode cX4_mixInto 30 = .ok (.getfield 11, 3) := by decide +kernel
theorem dX4_mixInto_33 : decode cX4_mixInto 33 = .ok (.iload 5, 2) := by decide +kernel
theorem dX4_mixInto_35 : decode cX4_mixInto 35 = .ok (.iaload, 1) := by decide +kernel
theorem dX4_mixInto_36 : decode cX4_mixInto 36 = .ok (.i2l, 1) := by decide +kernel
theorem dX4_mixInto_37 : decode cX4_mixInto 37 = .ok (.ladd, 1) := by decide +kernel
theorem dX4_mixInto_38 : decode cX4_mixInto 38 = .ok (.lstore_n 3, 1) := by decide +kernel
theorem dX4_mixInto_39 : decode cX4_mixInto 39 = .ok (.iinc 5 1, 3) := by decide +kernel
theorem dX4_mixInto_42 : decode cX4_mixInto 42 = .ok (.goto (-27), 3) := by decide +kernel
theorem dX4_mixInto_45 : decode cX4_mixInto 45 = .ok (.lload_n 3, 1) := by decide +kernel
theorem dX4_mixInto_46 : decode cX4_mixInto 46 = .ok (.lreturn, 1) := by decide +kernel
set_option maxRecDepth 100000 in
set_option maxHeartbeats 4000000 in
theorem v_X4_mixInto {X : zq_X} (C : zq_C X RX4 cX4_mixInto 6 zq_all rm_X4_mixInto) {h : zq_H} {t : Nat} {x1 : Int64} (T : zq_T X none) (hn : X.2.2.2.2.2.2.2.2.1.name = yX4_mixInto.name) {out : Int64} (hF : f_X4_mixInto h t x1 = some out) (hE : zq_End X cX4_mixInto 0 0 (some (.long out)) h) : zq_W X 0 0 h 0 [(0, .ref t), (1, .long x1)] [] := by
  unfold f_X4_mixInto at hF
  refine zq_ldc2l (pc' := 3) C 31 dX4_mixInto_0 rfl wd_196 ?_
  refine zq_lload_n (pc' := 4) C dX4_mixInto_3 rfl rfl rfl ?_
  refine zq_lmul (pc' := 5) C dX4_mixInto_4 rfl ?_
  refine zq_aload_n (pc' := 6) C dX4_mixInto_5 rfl rfl rfl ?_
  replace hF := zq_bd hF; obtain ⟨v_1, e_2, hF⟩ := hF
  refine zq_getI (j := 1) (pc' := 9) C zq_K4 zq_in4w (Or.inl wd_170) (by decide) rfl dX4_mixInto_6 rfl e_2 ?_
  refine zq_i2l (pc' := 10) C dX4_mixInto_9 rfl ?_
  refine zq_ladd (pc' := 11) C dX4_mixInto_10 rfl ?_
  replace hF := zq_let_e hF; obtain ⟨v_3, e_4, hF⟩ := hF
  refine zq_lstore_n (lv' := [(3, .long v_3), (0, .ref t), (1, .long x1)]) (pc' := 12) C dX4_mixInto_11 rfl rfl (by decide) e_4 rfl ?_
  refine zq_iconst (pc' := 13) C 0 dX4_mixInto_12 rfl (by decide) ?_
  refine zq_istore (lv' := [(5, .int 0), (3, .long v_3), (0, .ref t), (1, .long x1)]) (pc' := 15) C dX4_mixInto_13 rfl (by decide) rfl rfl ?_
  refine zq_sub [2, 1, 0] rfl ?_
  replace hF := zq_bd hF; obtain ⟨r_6, e_7, hF⟩ := hF
  refine zq_lpW (fun s_5 => zq_W X 0 0 h 15 [(0, .ref t), (3, .long s_5.1), (5, .int s_5.2)] []) (fun y_8 => zq_W X 0 0 h 45 [(3, .long y_8)] []) e_7 (fun s_5 q_12 hF hrec_10 hex_11 => ?_) ?_
  · skip
    refine zq_iload (pc' := 17) C dX4_mixInto_15 rfl rfl ?_
    refine zq_aload_n (pc' := 18) C dX4_mixInto_17 rfl rfl rfl ?_
    replace hF := zq_bd hF; obtain ⟨v_13, e_14, hF⟩ := hF
    refine zq_getI (j := 1) (pc' := 21) C zq_K4 zq_in4w (Or.inl wd_170) (by decide) rfl dX4_mixInto_18 rfl e_14 ?_
    refine zq_icmp_ge (pc' := 24) C 45 dX4_mixInto_21 (by decide) rfl (fun c_15 => ?_) (fun c_15 => ?_)
    · have hF := (zq_ifp hF c_15)
      skip
      cases hF
      exact zq_sub [1] rfl (hex_11 _ rfl)
    · have hF := (zq_ifn hF c_15)
      refine zq_ldc2l (pc' := 27) C 31 dX4_mixInto_24 rfl wd_196 ?_
      refine zq_lload_n (pc' := 28) C dX4_mixInto_27 rfl rfl rfl ?_
      refine zq_lmul (pc' := 29) C dX4_mixInto_28 rfl ?_
      refine zq_aload_n (pc' := 30) C dX4_mixInto_29 rfl rfl rfl ?_
      replace hF := zq_bd hF; obtain ⟨v_16, e_17, hF⟩ := hF
      refine zq_getR (j := 0) (pc' := 33) C zq_K4 zq_in4w (Or.inl wd_168) (by decide) rfl dX4_mixInto_30 rfl e_17 ?_
      refine zq_iload (pc' := 35) C dX4_mixInto_33 rfl rfl ?_
      replace hF := zq_bd hF; obtain ⟨v_18, e_19, hF⟩ := hF
      refine zq_iaload (pc' := 36) C dX4_mixInto_35 rfl e_19 ?_
      refine zq_i2l (pc' := 37) C dX4_mixInto_36 rfl ?_
      refine zq_ladd (pc' := 38) C dX4_mixInto_37 rfl ?_
      replace hF := zq_let_e hF; obtain ⟨v_20, e_21, hF⟩ := hF
      refine zq_lstore_n (lv' := [(3, .long v_20), (0, .ref t), (5, .int s_5.2)]) (pc' := 39) C dX4_mixInto_38 rfl rfl (by decide) e_21 rfl ?_
      replace hF := zq_let_e hF; obtain ⟨v_22, e_23, hF⟩ := hF
      refine zq_iinc (lv' := [(5, .int v_22), (3, .long v_20), (0, .ref t)]) (pc' := 42) C dX4_mixInto_39 rfl (by decide) 2 rfl e_23 rfl ?_
      refine zq_goto C 15 dX4_mixInto_42 (by decide) ?_
      cases hF
      exact zq_sub [2, 1, 0] rfl (hrec_10 _ rfl)
  · skip
    obtain ⟨y_8, rfl⟩ : ∃ z9, z9 = r_6 := ⟨_, rfl⟩
    show zq_W X 0 0 h 45 [(3, .long y_8)] []
    refine zq_lload_n (pc' := 46) C dX4_mixInto_45 rfl rfl rfl ?_
    have hF := Option.some.inj hF
    subst hF
    exact hE _ _ _ _ (Nat.le_of_ble_eq_true rfl) (Nat.le_of_ble_eq_true rfl) dX4_mixInto_46
theorem c_X4_mixInto {h : zq_H} {t : Nat} {x1 : Int64} {out : Int64} (hF : f_X4_mixInto h t x1 = some out) : zq_M none yX4_mixInto (Cond.code yX4_mixInto cX4_mixInto 6 (some .long) :: zq_all) rm_X4_mixInto [.ref t, .long x1] h (some (.long out)) h := zq_met2 (own := RX4) (by decide +kernel) rfl (Nat.le_of_ble_eq_true rfl) rfl rfl (fun X C T hn hE => v_X4_mixInto C T hn hF hE)
theorem yv_X4_mixInto : zq_calV yX4_mixInto RX4 cX4_mixInto 6 (some .long) 1 := ⟨by decide +kernel, wd_195, wd_442, wd_443, wd_180⟩
