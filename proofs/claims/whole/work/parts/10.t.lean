def f_J6_bitCount_0f7a4 (h : zq_H) (x0 : Int32) : Option Int32 := (zq_let (x0 - ((x0.toUInt32 >>> ((1 : Int32).toUInt32 &&& Int32.toUInt32 31)).toInt32 &&& 1431655765)) fun v_1 => (zq_let ((v_1 &&& 858993459) + ((v_1.toUInt32 >>> ((2 : Int32).toUInt32 &&& Int32.toUInt32 31)).toInt32 &&& 858993459)) fun v_3 => (zq_let ((v_3 + (v_3.toUInt32 >>> ((4 : Int32).toUInt32 &&& Int32.toUInt32 31)).toInt32) &&& 252645135) fun v_5 => (zq_let (v_5 + (v_5.toUInt32 >>> ((8 : Int32).toUInt32 &&& Int32.toUInt32 31)).toInt32) fun v_7 => (zq_let (v_7 + (v_7.toUInt32 >>> ((16 : Int32).toUInt32 &&& Int32.toUInt32 31)).toInt32) fun v_9 => some (v_9 &&& 63))))))
abbrev rm_J6_bitCount_0f7a4 : Room := { frames := 0, cells := 0, slots := 0, locals := 0 }
theorem dJ6_bitCount_0f7a4_0 : decode cJ6_bitCount_0f7a4 0 = .ok (.iload_n 0, 1) := by decide +kernel
theorem dJ6_bitCount_0f7a4_1 : decode cJ6_bitCount_0f7a4 1 = .ok (.iload_n 0, 1) := by decide +kernel
theorem dJ6_bitCount_0f7a4_2 : decode cJ6_bitCount_0f7a4 2 = .ok (.iconst 1, 1) := by decide +kernel
theorem dJ6_bitCount_0f7a4_3 : decode cJ6_bitCount_0f7a4 3 = .ok (.iushr, 1) := by decide +kernel
theorem dJ6_bitCount_0f7a4_4 : decode cJ6_bitCount_0f7a4 4 = .ok (.ldc_w 265, 3) := by decide +kernel
theorem dJ6_bitCount_0f7a4_7 : decode cJ6_bitCount_0f7a4 7 = .ok (.iand, 1) := by decide +kernel
theorem dJ6_bitCount_0f7a4_8 : decode cJ6_bitCount_0f7a4 8 = .ok (.isub, 1) := by decide +kernel
theorem dJ6_bitCount_0f7a4_9 : decode cJ6_bitCount_0f7a4 9 = .ok (.istore_n 0, 1) := by decide +kernel
theorem dJ6_bitCount_0f7a4_10 : decode cJ6_bitCount_0f7a4 10 = .ok (.iload_n 0, 1) := by decide +kernel
theorem dJ6_bitCount_0f7a4_11 : decode cJ6_bitCount_0f7a4 11 = .ok (.ldc_w 266, 3) := by decide +kernel
theorem dJ6_bitCount_0f7a4_14 : decode cJ6_bitCount_0f7a4 14 = .ok (.iand, 1) := by decide +kernel
theorem dJ6_bitCount_0f7a4_15 : decode cJ6_bitCount_0f7a4 15 = .ok (.iload_n 0, 1) := by decide +kernel
theorem dJ6_bitCount_0f7a4_16 : decode cJ6_bitCount_0f7a4 16 = .ok (.iconst 2, 1) := by decide +kernel
theorem dJ6_bitCount_0f7a4_17 : decode cJ6_bitCount_0f7a4 17 = .ok (.iushr, 1) := by decide +kernel
theorem dJ6_bitCount_0f7a4_18 : decode cJ6_bitCount_0f7a4 18 = .ok (.ldc_w 266, 3) := by decide +kernel
theorem dJ6_bitCount_0f7a4_21 : decode cJ6_bitCount_0f7a4 21 = .ok (.iand, 1) := by decide +kernel
theorem dJ6_bitCount_0f7a4_22 : decode cJ6_bitCount_0f7a4 22 = .ok (.iadd, 1) := by decide +kernel
theorem dJ6_bitCount_0f7a4_23 : decode cJ6_bitCount_0f7a4 23 = .ok (.istore_n 0, 1) := by decide +kernel
theorem dJ6_bitCount_0f7a4_24 : decode cJ6_bitCount_0f7a4 24 = .ok (.iload_n 0, 1) := by decide +kernel
theorem dJ6_bitCount_0f7a4_25 : decode cJ6_bitCount_0f7a4 25 = .ok (.iload_n 0, 1) := by decide +kernel
theorem dJ6_bitCount_0f7a4_26 : decode cJ6_bitCount_0f7a4 26 = .ok (.iconst 4, 1) := by decide +kernel
theorem dJ6_bitCount_0f7a4_27 : decode cJ6_bitCount_0f7a4 27 = .ok (.iushr, 1) := by decide +kernel
theorem dJ6_bitCount_0f7a4_28 : decode cJ6_bitCount_0f7a4 28 = .ok (.iadd, 1) := by decide +kernel
theorem dJ6_bitCount_0f7a4_29 : decode cJ6_bitCount_0f7a4 29 = .ok (.ldc_w 267, 3) := by decide +kernel
theorem dJ6_bitCount_0f7a4_32 : decode cJ6_bitCount_0f7a4 32 = .ok (.iand, 1) := by decide +kernel
theorem dJ6_bitCount_0f7a4_33 : decode cJ6_bitCount_0f7a4 33 = .ok (.istore_n 0, 1) := by decide +kernel
theorem dJ6_bitCount_0f7a4_34 : decode cJ6_bitCount_0f7a4 34 = .ok (.iload_n 0, 1) := by decide +kernel
theorem dJ6_bitCount_0f7a4_35 : decode cJ6_bitCount_0f7a4 35 = .ok (.iload_n 0, 1) := by decide +kernel
theorem dJ6_bitCount_0f7a4_36 : decode cJ6_bitCount_0f7a4 36 = .ok (.bipush 8, 2) := by decide +kernel
theorem dJ6_bitCount_0f7a4_38 : decode cJ6_bitCount_0f7a4 38 = .ok (.iushr, 1) := by decide +kernel
theorem dJ6_bitCount_0f7a4_39 : decode cJ6_bitCount_0f7a4 39 = .ok (.iadd, 1) := by decide +kernel
theorem dJ6_bitCount_0f7a4_40 : decode cJ6_bitCount_0f7a4 40 = .ok (.istore_n 0, 1) := by decide +kernel
theorem dJ6_bitCount_0f7a4_41 : decode cJ6_bitCount_0f7a4 41 = .ok (.iload_n 0, 1) := by decide +kernel
theorem dJ6_bitCount_0f7a4_42 : decode cJ6_bitCount_0f7a4 42 = .ok (.iload_n 0, 1) := by decide +kernel
theorem dJ6_bitCount_0f7a4_43 : decode cJ6_bitCount_0f7a4 43 = .ok (.bipush 16, 2) := by decide +kernel
theorem dJ6_bitCount_0f7a4_45 : decode cJ6_bitCount_0f7a4 45 = .ok (.iushr, 1) := by decide +kernel
theorem dJ6_bitCount_0f7a4_46 : decode cJ6_bitCount_0f7a4 46 = .ok (.iadd, 1) := by decide +kernel
theorem dJ6_bitCount_0f7a4_47 : decode cJ6_bitCount_0f7a4 47 = .ok (.istore_n 0, 1) := by decide +kernel
theorem dJ6_bitCount_0f7a4_48 : decode cJ6_bitCount_0f7a4 48 = .ok (.iload_n 0, 1) := by decide +kernel
theorem dJ6_bitCount_0f7a4_49 : decode cJ6_bitCount_0f7a4 49 = .ok (.bipush 63, 2) := by decide +kernel
theorem dJ6_bitCount_0f7a4_51 : decode cJ6_bitCount_0f7a4 51 = .ok (.iand, 1) := by decide +kernel
theorem dJ6_bitCount_0f7a4_52 : decode cJ6_bitCount_0f7a4 52 = .ok (.ireturn, 1) := by decide +kernel
set_option maxRecDepth 100000 in
set_option maxHeartbeats 4000000 in
theorem v_J6_bitCount_0f7a4 {X : zq_X} (C : zq_C X RJ6 cJ6_bitCount_0f7a4 1 zq_all rm_J6_bitCount_0f7a4) (T : zq_T X none) (hn : X.2.2.2.2.2.2.2.2.1.name = yJ6_bitCount_0f7a4.name) {h : zq_H} {x0 : Int32} {out : Int32} (hF : f_J6_bitCount_0f7a4 h x0 = some out) (hE : zq_End X cJ6_bitCount_0f7a4 0 0 (some (.int out)) h) : zq_W X 0 0 h 0 [(0, .int x0)] [] := by
  unfold f_J6_bitCount_0f7a4 at hF
  refine zq_iload_n (pc' := 1) C dJ6_bitCount_0f7a4_0 rfl rfl rfl ?_
  refine zq_iload_n (pc' := 2) C dJ6_bitCount_0f7a4_1 rfl rfl rfl ?_
  refine zq_iconst (pc' := 3) C 1 dJ6_bitCount_0f7a4_2 rfl (by decide) ?_
  refine zq_iushr (pc' := 4) C dJ6_bitCount_0f7a4_3 rfl ?_
  refine zq_ldcw (pc' := 7) C 1431655765 dJ6_bitCount_0f7a4_4 rfl wd_33 ?_
  refine zq_iand (pc' := 8) C dJ6_bitCount_0f7a4_7 rfl ?_
  refine zq_isub (pc' := 9) C dJ6_bitCount_0f7a4_8 rfl ?_
  obtain ⟨v_1, e_2, hF⟩ := zq_let_e hF
  refine zq_istore_n (lv' := [(0, .int v_1)]) (pc' := 10) C dJ6_bitCount_0f7a4_9 rfl rfl (by decide) e_2 rfl ?_
  refine zq_iload_n (pc' := 11) C dJ6_bitCount_0f7a4_10 rfl rfl rfl ?_
  refine zq_ldcw (pc' := 14) C 858993459 dJ6_bitCount_0f7a4_11 rfl wd_34 ?_
  refine zq_iand (pc' := 15) C dJ6_bitCount_0f7a4_14 rfl ?_
  refine zq_iload_n (pc' := 16) C dJ6_bitCount_0f7a4_15 rfl rfl rfl ?_
  refine zq_iconst (pc' := 17) C 2 dJ6_bitCount_0f7a4_16 rfl (by decide) ?_
  refine zq_iushr (pc' := 18) C dJ6_bitCount_0f7a4_17 rfl ?_
  refine zq_ldcw (pc' := 21) C 858993459 dJ6_bitCount_0f7a4_18 rfl wd_34 ?_
  refine zq_iand (pc' := 22) C dJ6_bitCount_0f7a4_21 rfl ?_
  refine zq_iadd (pc' := 23) C dJ6_bitCount_0f7a4_22 rfl ?_
  obtain ⟨v_3, e_4, hF⟩ := zq_let_e hF
  refine zq_istore_n (lv' := [(0, .int v_3)]) (pc' := 24) C dJ6_bitCount_0f7a4_23 rfl rfl (by decide) e_4 rfl ?_
  refine zq_iload_n (pc' := 25) C dJ6_bitCount_0f7a4_24 rfl rfl rfl ?_
  refine zq_iload_n (pc' := 26) C dJ6_bitCount_0f7a4_25 rfl rfl rfl ?_
  refine zq_iconst (pc' := 27) C 4 dJ6_bitCount_0f7a4_26 rfl (by decide) ?_
  refine zq_iushr (pc' := 28) C dJ6_bitCount_0f7a4_27 rfl ?_
  refine zq_iadd (pc' := 29) C dJ6_bitCount_0f7a4_28 rfl ?_
  refine zq_ldcw (pc' := 32) C 252645135 dJ6_bitCount_0f7a4_29 rfl wd_35 ?_
  refine zq_iand (pc' := 33) C dJ6_bitCount_0f7a4_32 rfl ?_
  obtain ⟨v_5, e_6, hF⟩ := zq_let_e hF
  refine zq_istore_n (lv' := [(0, .int v_5)]) (pc' := 34) C dJ6_bitCount_0f7a4_33 rfl rfl (by decide) e_6 rfl ?_
  refine zq_iload_n (pc' := 35) C dJ6_bitCount_0f7a4_34 rfl rfl rfl ?_
  refine zq_iload_n (pc' := 36) C dJ6_bitCount_0f7a4_35 rfl rfl rfl ?_
  refine zq_bipush (pc' := 38) C 8 dJ6_bitCount_0f7a4_36 rfl (by decide) ?_
  refine zq_iushr (pc' := 39) C dJ6_bitCount_0f7a4_38 rfl ?_
  refine zq_iadd (pc' := 40) C dJ6_bitCount_0f7a4_39 rfl ?_
  obtain ⟨v_7, e_8, hF⟩ := zq_let_e hF
  refine zq_istore_n (lv' := [(0, .int v_7)]) (pc' := 41) C dJ6_bitCount_0f7a4_40 rfl rfl (by decide) e_8 rfl ?_
  refine zq_iload_n (pc' := 42) C dJ6_bitCount_0f7a4_41 rfl rfl rfl ?_
  refine zq_iload_n (pc' := 43) C dJ6_bitCount_0f7a4_42 rfl rfl rfl ?_
  refine zq_bipush (pc' := 45) C 16 dJ6_bitCount_0f7a4_43 rfl (by decide) ?_
  refine zq_iushr (pc' := 46) C dJ6_bitCount_0f7a4_45 rfl ?_
  refine zq_iadd (pc' := 47) C dJ6_bitCount_0f7a4_46 rfl ?_
  obtain ⟨v_9, e_10, hF⟩ := zq_let_e hF
  refine zq_istore_n (lv' := [(0, .int v_9)]) (pc' := 48) C dJ6_bitCount_0f7a4_47 rfl rfl (by decide) e_10 rfl ?_
  refine zq_iload_n (pc' := 49) C dJ6_bitCount_0f7a4_48 rfl rfl rfl ?_
  refine zq_bipush (pc' := 51) C 63 dJ6_bitCount_0f7a4_49 rfl (by decide) ?_
  refine zq_iand (pc' := 52) C dJ6_bitCount_0f7a4_51 rfl ?_
  cases hF
  exact hE _ _ _ _ (Nat.le_of_ble_eq_true rfl) (Nat.le_of_ble_eq_true rfl) dJ6_bitCount_0f7a4_52
theorem c_J6_bitCount_0f7a4 {h : zq_H} {x0 : Int32} {out : Int32} (hF : f_J6_bitCount_0f7a4 h x0 = some out) : zq_M none yJ6_bitCount_0f7a4 (Cond.code yJ6_bitCount_0f7a4 cJ6_bitCount_0f7a4 1 (some .int) :: zq_all) rm_J6_bitCount_0f7a4 [.int x0] h (some (.int out)) h := zq_met2 (own := RJ6) (by decide +kernel) rfl (Nat.le_of_ble_eq_true rfl) rfl ⟨.int, rfl, rfl⟩ (fun X C T hn hE => v_J6_bitCount_0f7a4 C T hn hF hE)
theorem ys_J6_bitCount_0f7a4 : zq_calS yJ6_bitCount_0f7a4 cJ6_bitCount_0f7a4 1 (some .int) 1 := ⟨by decide +kernel, wd_32, wd_50, wd_51⟩
def f_X1_isCorner (h : zq_H) (t : Nat) (x1 : Int32) : Option Bool := (if x1 < 0 then some false else (Option.bind (zq_gi h t 1 0) fun v_2 => (if v_2 ≤ x1 then some false else some true)))
abbrev rm_X1_isCorner : Room := { frames := 0, cells := 0, slots := 0, locals := 0 }
theorem dX1_isCorner_0 : decode cX1_isCorner 0 = .ok (.iload_n 1, 1) := by decide +kernel
theorem dX1_isCorner_1 : decode cX1_isCorner 1 = .ok (.ifCond .lt 15, 3) := by decide +kernel
theorem dX1_isCorner_4 : decode cX1_isCorner 4 = .ok (.iload_n 1, 1) := by decide +kernel
theorem dX1_isCorner_5 : decode cX1_isCorner 5 = .ok (.aload_n 0, 1) := by decide +kernel
theorem dX1_isCorner_6 : decode cX1_isCorner 6 = .ok (.getfield 9, 3) := by decide +kernel
theorem dX1_isCorner_9 : decode cX1_isCorner 9 = .ok (.if_icmp .ge 7, 3) := by decide +kernel
theorem dX1_isCorner_12 : decode cX1_isCorner 12 = .ok (.iconst 1, 1) := by decide +kernel
theorem dX1_isCorner_13 : decode cX1_isCorner 13 = .ok (.goto 4, 3) := by decide +kernel
theorem dX1_isCorner_16 : decode cX1_isCorner 16 = .ok (.iconst 0, 1) := by decide +kernel
theorem dX1_isCorner_17 : decode cX1_isCorner 17 = .ok (.ireturn, 1) := by decide +kernel
set_option maxRecDepth 100000 in
set_option maxHeartbeats 4000000 in
theorem v_X1_isCorner {X : zq_X} (C : zq_C X RX1 cX1_isCorner 2 zq_all rm_X1_isCorner) (T : zq_T X none) (hn : X.2.2.2.2.2.2.2.2.1.name = yX1_isCorner.name) {h : zq_H} {t : Nat} {x1 : Int32} {out : Bool} (hF : f_X1_isCorner h t x1 = some out) (hE : zq_End X cX1_isCorner 0 0 (some (.int (zq_b out))) h) : zq_W X 0 0 h 0 [(0, .ref t), (1, .int x1)] [] := by
  unfold f_X1_isCorner at hF
  refine zq_iload_n (pc' := 1) C dX1_isCorner_0 rfl rfl rfl ?_
  refine zq_if_lt (pc' := 4) C 16 dX1_isCorner_1 (by decide) rfl (fun c_1 => ?_) (fun c_1 => ?_)
  · have hF := (zq_ifp hF c_1)
    skip
    refine zq_iconst (pc' := 17) C 0 dX1_isCorner_16 rfl (by decide) ?_
    cases hF
    exact hE _ _ _ _ (Nat.le_of_ble_eq_true rfl) (Nat.le_of_ble_eq_true rfl) dX1_isCorner_17
  · have hF := (zq_ifn hF c_1)
    refine zq_iload_n (pc' := 5) C dX1_isCorner_4 rfl rfl rfl ?_
    refine zq_aload_n (pc' := 6) C dX1_isCorner_5 rfl rfl rfl ?_
    obtain ⟨v_2, e_3, hF⟩ := zq_bd hF
    refine zq_getI (j := 0) (pc' := 9) C zq_K1 zq_in1w (Or.inl wd_18) (by decide) rfl dX1_isCorner_6 rfl e_3 ?_
    refine zq_icmp_ge (pc' := 12) C 16 dX1_isCorner_9 (by decide) rfl (fun c_4 => ?_) (fun c_4 => ?_)
    · have hF := (zq_ifp hF c_4)
      skip
      refine zq_iconst (pc' := 17) C 0 dX1_isCorner_16 rfl (by decide) ?_
      cases hF
      exact hE _ _ _ _ (Nat.le_of_ble_eq_true rfl) (Nat.le_of_ble_eq_true rfl) dX1_isCorner_17
    · have hF := (zq_ifn hF c_4)
      refine zq_iconst (pc' := 13) C 1 dX1_isCorner_12 rfl (by decide) ?_
      refine zq_goto C 17 dX1_isCorner_13 (by decide) ?_
      cases hF
      exact hE _ _ _ _ (Nat.le_of_ble_eq_true rfl) (Nat.le_of_ble_eq_true rfl) dX1_isCorner_17
theorem c_X1_isCorner {h : zq_H} {t : Nat} {x1 : Int32} {out : Bool} (hF : f_X1_isCorner h t x1 = some out) : zq_M none yX1_isCorner (Cond.code yX1_isCorner cX1_isCorner 2 (some .boolean) :: zq_all) rm_X1_isCorner [.ref t, .int x1] h (some (.int (zq_b out))) h := zq_met2 (own := RX1) (by decide +kernel) rfl (Nat.le_of_ble_eq_true rfl) rfl ⟨.boolean, rfl, by cases out <;> rfl⟩ (fun X C T hn hE => v_X1_isCorner C T hn hF hE)
theorem yv_X1_isCorner : zq_calV yX1_isCorner RX1 cX1_isCorner 2 (some .boolean) 1 := ⟨by decide +kernel, wd_17, wd_22, wd_23, wd_24⟩
def f_X1_numberOf (h : zq_H) (t : Nat) (x1 : Int32) (x2 : Int32) : Option Int32 := (zq_ck h t 1 fun _ => (Option.bind (f_X1_isCorner h t x1) fun v_1 => (if v_1 = false then some (-1) else (zq_ck h t 1 fun _ => (Option.bind (f_X1_isCorner h t x2) fun v_5 => (if v_5 = false then some (-1) else (Option.bind (zq_gr h t 1 4) fun v_9 => (Option.bind (zq_gi h t 1 0) fun v_11 => (Option.bind (zq_ai h v_9 ((x1 * v_11) + x2)) fun v_13 => some v_13)))))))))
abbrev rm_X1_numberOf : Room := { frames := 1, cells := 0, slots := 0, locals := 21 }
theorem dX1_numberOf_0 : decode cX1_numberOf 0 = .ok (.aload_n 0, 1) := by decide +kernel
theorem dX1_numberOf_1 : decode cX1_numberOf 1 = .ok (.iload_n 1, 1) := by decide +kernel
theorem dX1_numberOf_2 : decode cX1_numberOf 2 = .ok (.invokevirtual 59, 3) := by decide +kernel
theorem dX1_numberOf_5 : decode cX1_numberOf 5 = .ok (.ifCond .eq 27, 3) := by decide +kernel
theorem dX1_numberOf_8 : decode cX1_numberOf 8 = .ok (.aload_n 0, 1) := by decide +kernel
theorem dX1_numberOf_9 : decode cX1_numberOf 9 = .ok (.iload_n 2, 1) := by decide +kernel
theorem dX1_numberOf_10 : decode cX1_numberOf 10 = .ok (.invokevirtual 59, 3) := by decide +kernel
theorem dX1_numberOf_13 : decode cX1_numberOf 13 = .ok (.ifCond .eq 19, 3) := by decide +kernel
theorem dX1_numberOf_16 : decode cX1_numberOf 16 = .ok (.aload_n 0, 1) := by decide +kernel
theorem dX1_numberOf_17 : decode cX1_numberOf 17 = .ok (.getfield 25, 3) := by decide +kernel
theorem dX1_numberOf_20 : decode cX1_numberOf 20 = .ok (.iload_n 1, 1) := by decide +kernel
theorem dX1_numberOf_21 : decode cX1_numberOf 21 = .ok (.aload_n 0, 1) := by decide +kernel
theorem dX1_numberOf_22 : decode cX1_numberOf 22 = .ok (.getfield 9, 3) := by decide +kernel
theorem dX1_numberOf_25 : decode cX1_numberOf 25 = .ok (.imul, 1) := by decide +kernel
theorem dX1_numberOf_26 : decode cX1_numberOf 26 = .ok (.iload_n 2, 1) := by decide +kernel
theorem dX1_numberOf_27 : decode cX1_numberOf 27 = .ok (.iadd, 1) := by decide +kernel
theorem dX1_numberOf_28 : decode cX1_numberOf 28 = .ok (.iaload, 1) := by decide +kernel
theorem dX1_numberOf_29 : decode cX1_numberOf 29 = .ok (.goto 4, 3) := by decide +kernel
theorem dX1_numberOf_32 : decode cX1_numberOf 32 = .ok (.iconst (-1), 1) := by decide +kernel
theorem dX1_numberOf_33 : decode cX1_numberOf 33 = .ok (.ireturn, 1) := by decide +kernel
set_option maxRecDepth 100000 in
set_option maxHeartbeats 4000000 in
theorem v_X1_numberOf {X : zq_X} (C : zq_C X RX1 cX1_numberOf 3 zq_all rm_X1_numberOf) (T : zq_T X none) (hn : X.2.2.2.2.2.2.2.2.1.name = yX1_numberOf.name) {h : zq_H} {t : Nat} {x1 : Int32} {x2 : Int32} {out : Int32} (hF : f_X1_numberOf h t x1 x2 = some out) (hE : zq_End X cX1_numberOf 0 0 (some (.int out)) h) : zq_W X 0 0 h 0 [(0, .ref t), (1, .int x1), (2, .int x2)] [] := by
  unfold f_X1_numberOf at hF
  refine zq_aload_n (pc' := 1) C dX1_numberOf_0 rfl rfl rfl ?_
  refine zq_iload_n (pc' := 2) C dX1_numberOf_1 rfl rfl rfl ?_
  obtain ⟨e_3, hF⟩ := zq_ck_e hF
  obtain ⟨v_1, e_2, hF⟩ := zq_bd hF
  refine zq_cV (pc' := 5) C (c_X1_isCorner e_2) yv_X1_isCorner wd_21 zq_K1 e_3 dX1_numberOf_2 rfl rfl rfl ⟨Nat.le_of_ble_eq_true rfl, Nat.le_of_ble_eq_true rfl⟩ (Nat.le_of_ble_eq_true rfl) ⟨rfl, rfl⟩ ⟨Nat.le_of_ble_eq_true rfl, Nat.le_of_ble_eq_true rfl⟩ rfl ?_
  refine zq_if_eq (pc' := 8) C 32 dX1_numberOf_5 (by decide) rfl (fun c_4 => ?_) (fun c_4 => ?_)
  · have hF := (zq_ifp hF (zq_b0.mp c_4))
    skip
    refine zq_iconst (pc' := 33) C (-1) dX1_numberOf_32 rfl (by decide) ?_
    cases hF
    exact hE _ _ _ _ (Nat.le_of_ble_eq_true rfl) (Nat.le_of_ble_eq_true rfl) dX1_numberOf_33
  · have hF := (zq_ifn hF (fun q => c_4 (zq_b0.mpr q)))
    refine zq_aload_n (pc' := 9) C dX1_numberOf_8 rfl rfl rfl ?_
    refine zq_iload_n (pc' := 10) C dX1_numberOf_9 rfl rfl rfl ?_
    obtain ⟨e_7, hF⟩ := zq_ck_e hF
    obtain ⟨v_5, e_6, hF⟩ := zq_bd hF
    refine zq_cV (pc' := 13) C (c_X1_isCorner e_6) yv_X1_isCorner wd_21 zq_K1 e_7 dX1_numberOf_10 rfl rfl rfl ⟨Nat.le_of_ble_eq_true rfl, Nat.le_of_ble_eq_true rfl⟩ (Nat.le_of_ble_eq_true rfl) ⟨rfl, rfl⟩ ⟨Nat.le_of_ble_eq_true rfl, Nat.le_of_ble_eq_true rfl⟩ rfl ?_
    refine zq_if_eq (pc' := 16) C 32 dX1_numberOf_13 (by decide) rfl (fun c_8 => ?_) (fun c_8 => ?_)
    · have hF := (zq_ifp hF (zq_b0.mp c_8))
      skip
      refine zq_iconst (pc' := 33) C (-1) dX1_numberOf_32 rfl (by decide) ?_
      cases hF
      exact hE _ _ _ _ (Nat.le_of_ble_eq_true rfl) (Nat.le_of_ble_eq_true rfl) dX1_numberOf_33
    · have hF := (zq_ifn hF (fun q => c_8 (zq_b0.mpr q)))
      refine zq_aload_n (pc' := 17) C dX1_numberOf_16 rfl rfl rfl ?_
      obtain ⟨v_9, e_10, hF⟩ := zq_bd hF
      refine zq_getR (j := 4) (pc' := 20) C zq_K1 zq_in1w (Or.inl wd_60) (by decide) rfl dX1_numberOf_17 rfl e_10 ?_
      refine zq_iload_n (pc' := 21) C dX1_numberOf_20 rfl rfl rfl ?_
      refine zq_aload_n (pc' := 22) C dX1_numberOf_21 rfl rfl rfl ?_
      obtain ⟨v_11, e_12, hF⟩ := zq_bd hF
      refine zq_getI (j := 0) (pc' := 25) C zq_K1 zq_in1w (Or.inl wd_18) (by decide) rfl dX1_numberOf_22 rfl e_12 ?_
      refine zq_imul (pc' := 26) C dX1_numberOf_25 rfl ?_
      refine zq_iload_n (pc' := 27) C dX1_numberOf_26 rfl rfl rfl ?_
      refine zq_iadd (pc' := 28) C dX1_numberOf_27 rfl ?_
      obtain ⟨v_13, e_14, hF⟩ := zq_bd hF
      refine zq_iaload (pc' := 29) C dX1_numberOf_28 rfl e_14 ?_
      refine zq_goto C 33 dX1_numberOf_29 (by decide) ?_
      cases hF
      exact hE _ _ _ _ (Nat.le_of_ble_eq_true rfl) (Nat.le_of_ble_eq_true rfl) dX1_numberOf_33
theorem c_X1_numberOf {h : zq_H} {t : Nat} {x1 : Int32} {x2 : Int32} {out : Int32} (hF : f_X1_numberOf h t x1 x2 = some out) : zq_M none yX1_numberOf (Cond.code yX1_numberOf cX1_numberOf 3 (some .int) :: zq_all) rm_X1_numberOf [.ref t, .int x1, .int x2] h (some (.int out)) h := zq_met2 (own := RX1) (by decide +kernel) rfl (Nat.le_of_ble_eq_true rfl) rfl ⟨.int, rfl, rfl⟩ (fun X C T hn hE => v_X1_numberOf C T hn hF hE)
theorem yv_X1_numberOf : zq_calV yX1_numberOf RX1 cX1_numberOf 3 (some .int) 2 := ⟨by decide +kernel, wd_67, wd_72, wd_73, wd_24⟩
def f_X1_fanOf (h : zq_H) (t : Nat) (x1 : Int32) : Option Int32 := (zq_ck h t 1 fun _ => (Option.bind (f_X1_isCorner h t x1) fun v_1 => (if v_1 = false then some 0 else (Option.bind (zq_gr h t 1 5) fun v_5 => (Option.bind (zq_ai h v_5 x1) fun v_7 => some v_7)))))
abbrev rm_X1_fanOf : Room := { frames := 1, cells := 0, slots := 0, locals := 21 }
theorem dX1_fanOf_0 : decode cX1_fanOf 0 = .ok (.aload_n 0, 1) := by decide +kernel
theorem dX1_fanOf_1 : decode cX1_fanOf 1 = .ok (.iload_n 1, 1) := by decide +kernel
theorem dX1_fanOf_2 : decode cX1_fanOf 2 = .ok (.invokevirtual 59, 3) := by decide +kernel
theorem dX1_fanOf_5 : decode cX1_fanOf 5 = .ok (.ifCond .eq 12, 3) := by decide +kernel
theorem dX1_fanOf_8 : decode cX1_fanOf 8 = .ok (.aload_n 0, 1) := by decide +kernel
theorem dX1_fanOf_9 : decode cX1_fanOf 9 = .ok (.getfield 28, 3) := by decide +kernel
theorem dX1_fanOf_12 : decode cX1_fanOf 12 = .ok (.iload_n 1, 1) := by decide +kernel
theorem dX1_fanOf_13 : decode cX1_fanOf 13 = .ok (.iaload, 1) := by decide +kernel
theorem dX1_fanOf_14 : decode cX1_fanOf 14 = .ok (.goto 4, 3) := by decide +kernel
theorem dX1_fanOf_17 : decode cX1_fanOf 17 = .ok (.iconst 0, 1) := by decide +kernel
theorem dX1_fanOf_18 : decode cX1_fanOf 18 = .ok (.ireturn, 1) := by decide +kernel
set_option maxRecDepth 100000 in
set_option maxHeartbeats 4000000 in
theorem v_X1_fanOf {X : zq_X} (C : zq_C X RX1 cX1_fanOf 2 zq_all rm_X1_fanOf) (T : zq_T X none) (hn : X.2.2.2.2.2.2.2.2.1.name = yX1_fanOf.name) {h : zq_H} {t : Nat} {x1 : Int32} {out : Int32} (hF : f_X1_fanOf h t x1 = some out) (hE : zq_End X cX1_fanOf 0 0 (some (.int out)) h) : zq_W X 0 0 h 0 [(0, .ref t), (1, .int x1)] [] := by
  unfold f_X1_fanOf at hF
  refine zq_aload_n (pc' := 1) C dX1_fanOf_0 rfl rfl rfl ?_
  refine zq_iload_n (pc' := 2) C dX1_fanOf_1 rfl rfl rfl ?_
  obtain ⟨e_3, hF⟩ := zq_ck_e hF
  obtain ⟨v_1, e_2, hF⟩ := zq_bd hF
  refine zq_cV (pc' := 5) C (c_X1_isCorner e_2) yv_X1_isCorner wd_21 zq_K1 e_3 dX1_fanOf_2 rfl rfl rfl ⟨Nat.le_of_ble_eq_true rfl, Nat.le_of_ble_eq_true rfl⟩ (Nat.le_of_ble_eq_true rfl) ⟨rfl, rfl⟩ ⟨Nat.le_of_ble_eq_true rfl, Nat.le_of_ble_eq_true rfl⟩ rfl ?_
  refine zq_if_eq (pc' := 8) C 17 dX1_fanOf_5 (by decide) rfl (fun c_4 => ?_) (fun c_4 => ?_)
  · have hF := (zq_ifp hF (zq_b0.mp c_4))
    skip
    refine zq_iconst (pc' := 18) C 0 dX1_fanOf_17 rfl (by decide) ?_
    cases hF
    exact hE _ _ _ _ (Nat.le_of_ble_eq_true rfl) (Nat.le_of_ble_eq_true rfl) dX1_fanOf_18
  · have hF := (zq_ifn hF (fun q => c_4 (zq_b0.mpr q)))
    refine zq_aload_n (pc' := 9) C dX1_fanOf_8 rfl rfl rfl ?_
    obtain ⟨v_5, e_6, hF⟩ := zq_bd hF
    refine zq_getR (j := 5) (pc' := 12) C zq_K1 zq_in1w (Or.inl wd_20) (by decide) rfl dX1_fanOf_9 rfl e_6 ?_
    refine zq_iload_n (pc' := 13) C dX1_fanOf_12 rfl rfl rfl ?_
    obtain ⟨v_7, e_8, hF⟩ := zq_bd hF
    refine zq_iaload (pc' := 14) C dX1_fanOf_13 rfl e_8 ?_
    refine zq_goto C 18 dX1_fanOf_14 (by decide) ?_
    cases hF
    exact hE _ _ _ _ (Nat.le_of_ble_eq_true rfl) (Nat.le_of_ble_eq_true rfl) dX1_fanOf_18
theorem c_X1_fanOf {h : zq_H} {t : Nat} {x1 : Int32} {out : Int32} (hF : f_X1_fanOf h t x1 = some out) : zq_M none yX1_fanOf (Cond.code yX1_fanOf cX1_fanOf 2 (some .int) :: zq_all) rm_X1_fanOf [.ref t, .int x1] h (some (.int out)) h := zq_met2 (own := RX1) (by decide +kernel) rfl (Nat.le_of_ble_eq_true rfl) rfl ⟨.int, rfl, rfl⟩ (fun X C T hn hE => v_X1_fanOf C T hn hF hE)
theorem yv_X1_fanOf : zq_calV yX1_fanOf RX1 cX1_fanOf 2 (some .int) 1 := ⟨by decide +kernel, wd_19, wd_44, wd_45, wd_24⟩
def f_X1_degreeIn (h : zq_H) (t : Nat) (x1 : Int32) (x2 : Int32) : Option Int32 := (zq_ck h t 1 fun _ => (Option.bind (f_X1_fanOf h t x2) fun v_1 => (Option.bind (f_J6_bitCount_0f7a4 h (x1 &&& v_1)) fun v_4 => some v_4)))
abbrev rm_X1_degreeIn : Room := { frames := 2, cells := 0, slots := 0, locals := 42 }
theorem dX1_degreeIn_0 : decode cX1_degreeIn 0 = .ok (.iload_n 1, 1) := by decide +kernel
theorem dX1_degreeIn_1 : decode cX1_degreeIn 1 = .ok (.aload_n 0, 1) := by decide +kernel
theorem dX1_degreeIn_2 : decode cX1_degreeIn 2 = .ok (.iload_n 2, 1) := by decide +kernel
theorem dX1_degreeIn_3 : decode cX1_degreeIn 3 = .ok (.invokevirtual 63, 3) := by decide +kernel
theorem dX1_degreeIn_6 : decode cX1_degreeIn 6 = .ok (.iand, 1) := by decide +kernel
theorem dX1_degreeIn_7 : decode cX1_degreeIn 7 = .ok (.invokestatic 67, 3) := by decide +kernel
theorem dX1_degreeIn_10 : decode cX1_degreeIn 10 = .ok (.ireturn, 1) := by decide +kernel
set_option maxRecDepth 100000 in
set_option maxHeartbeats 4000000 in
theorem v_X1_degreeIn {X : zq_X} (C : zq_C X RX1 cX1_degreeIn 3 zq_all rm_X1_degreeIn) (T : zq_T X none) (hn : X.2.2.2.2.2.2.2.2.1.name = yX1_degreeIn.name) {h : zq_H} {t : Nat} {x1 : Int32} {x2 : Int32} {out : Int32} (hF : f_X1_degreeIn h t x1 x2 = some out) (hE : zq_End X cX1_degreeIn 0 0 (some (.int out)) h) : zq_W X 0 0 h 0 [(0, .ref t), (1, .int x1), (2, .int x2)] [] := by
  unfold f_X1_degreeIn at hF
  refine zq_iload_n (pc' := 1) C dX1_degreeIn_0 rfl rfl rfl ?_
  refine zq_aload_n (pc' := 2) C dX1_degreeIn_1 rfl rfl rfl ?_
  refine zq_iload_n (pc' := 3) C dX1_degreeIn_2 rfl rfl rfl ?_
  obtain ⟨e_3, hF⟩ := zq_ck_e hF
  obtain ⟨v_1, e_2, hF⟩ := zq_bd hF
  refine zq_cV (pc' := 6) C (c_X1_fanOf e_2) yv_X1_fanOf wd_86 zq_K1 e_3 dX1_degreeIn_3 rfl rfl rfl ⟨Nat.le_of_ble_eq_true rfl, Nat.le_of_ble_eq_true rfl⟩ (Nat.le_of_ble_eq_true rfl) ⟨rfl, rfl⟩ ⟨Nat.le_of_ble_eq_true rfl, Nat.le_of_ble_eq_true rfl⟩ rfl ?_
  refine zq_iand (pc' := 7) C dX1_degreeIn_6 rfl ?_
  obtain ⟨v_4, e_5, hF⟩ := zq_bd hF
  refine zq_cS (pc' := 10) C (c_J6_bitCount_0f7a4 e_5) ys_J6_bitCount_0f7a4 wd_87 dX1_degreeIn_7 rfl rfl rfl ⟨Nat.le_of_ble_eq_true rfl, Nat.le_of_ble_eq_true rfl⟩ (Nat.le_of_ble_eq_true rfl) ⟨rfl, rfl⟩ ⟨Nat.le_of_ble_eq_true rfl, Nat.le_of_ble_eq_true rfl⟩ rfl ?_
  cases hF
  exact hE _ _ _ _ (Nat.le_of_ble_eq_true rfl) (Nat.le_of_ble_eq_true rfl) dX1_degreeIn_10
theorem c_X1_degreeIn {h : zq_H} {t : Nat} {x1 : Int32} {x2 : Int32} {out : Int32} (hF : f_X1_degreeIn h t x1 x2 = some out) : zq_M none yX1_degreeIn (Cond.code yX1_degreeIn cX1_degreeIn 3 (some .int) :: zq_all) rm_X1_degreeIn [.ref t, .int x1, .int x2] h (some (.int out)) h := zq_met2 (own := RX1) (by decide +kernel) rfl (Nat.le_of_ble_eq_true rfl) rfl ⟨.int, rfl, rfl⟩ (fun X C T hn hE => v_X1_degreeIn C T hn hF hE)
theorem yv_X1_degreeIn : zq_calV yX1_degreeIn RX1 cX1_degreeIn 3 (some .int) 2 := ⟨by decide +kernel, wd_85, wd_111, wd_112, wd_24⟩
def f_X1_otherOf (h : zq_H) (t : Nat) (x1 : Int32) (x2 : Int32) : Option Int32 := (zq_let (1 <<< (x2 &&& 31)) fun v_1 => (if (x1 &&& v_1) = 0 then some (-1) else ((zq_lp (σ := Int32) (ρ := (Unit) ⊕ Int32) (fun s_4 => (Option.bind (zq_gi h t 1 1) fun v_12 => (if v_12 ≤ s_4 then some (.inr (.inl ())) else (Option.bind (zq_gr h t 1 6) fun v_15 => (Option.bind (zq_ai h v_15 s_4) fun v_17 => (if (v_17 &&& x1) = v_1 then some (.inr (.inr (s_4))) else (zq_let (s_4 + 1) fun v_20 => some (.inl v_20)))))))) zq_N 0).bind (Sum.elim (fun y_7 : Unit => some (-1)) (fun z_8 => some z_8)))))
abbrev rm_X1_otherOf : Room := { frames := 0, cells := 0, slots := 0, locals := 0 }
theorem dX1_otherOf_0 : decode cX1_otherOf 0 = .ok (.iconst 1, 1) := by decide +kernel
theorem dX1_otherOf_1 : decode cX1_otherOf 1 = .ok (.iload_n 2, 1) := by decide +kernel
theorem dX1_otherOf_2 : decode cX1_otherOf 2 = .ok (.ishl, 1) := by decide +kernel
theorem dX1_otherOf_3 : decode cX1_otherOf 3 = .ok (.istore_n 3, 1) := by decide +kernel
theorem dX1_otherOf_4 : decode cX1_otherOf 4 = .ok (.iload_n 1, 1) := by decide +kernel
theorem dX1_otherOf_5 : decode cX1_otherOf 5 = .ok (.iload_n 3, 1) := by decide +kernel
theorem dX1_otherOf_6 : decode cX1_otherOf 6 = .ok (.iand, 1) := by decide +kernel
theorem dX1_otherOf_7 : decode cX1_otherOf 7 = .ok (.ifCond .ne 5, 3) := by decide +kernel
theorem dX1_otherOf_10 : decode cX1_otherOf 10 = .ok (.iconst (-1), 1) := by decide +kernel
theorem dX1_otherOf_11 : decode cX1_otherOf 11 = .ok (.ireturn, 1) := by decide +kernel
theorem dX1_otherOf_12 : decode cX1_otherOf 12 = .ok (.iconst 0, 1) := by decide +kernel
theorem dX1_otherOf_13 : decode cX1_otherOf 13 = .ok (.istore 4, 2) := by decide +kernel
theorem dX1_otherOf_15 : decode cX1_otherOf 15 = .ok (.iload 4, 2) := by decide +kernel
theorem dX1_otherOf_17 : decode cX1_otherOf 17 = .ok (.aload_n 0, 1) := by decide +kernel
theorem dX1_otherOf_18 : decode cX1_otherOf 18 = .ok (.getfield 15, 3) := by decide +kernel
theorem dX1_otherOf_21 : decode cX1_otherOf 21 = .ok (.if_icmp .ge 25, 3) := by decide +kernel
theorem dX1_otherOf_24 : decode cX1_otherOf 24 = .ok (.aload_n 0, 1) := by decide +kernel
theorem dX1_otherOf_25 : decode cX1_otherOf 25 = .ok (.getfield 31, 3) := by decide +kernel
theorem dX1_otherOf_28 : decode cX1_otherOf 28 = .ok (.iload 4, 2) := by decide +kernel
theorem dX1_otherOf_30 : decode cX1_otherOf 30 = .ok (.iaload, 1) := by decide +kernel
theorem dX1_otherOf_31 : decode cX1_otherOf 31 = .ok (.iload_n 1, 1) := by decide +kernel
theorem dX1_otherOf_32 : decode cX1_otherOf 32 = .ok (.iand, 1) := by decide +kernel
theorem dX1_otherOf_33 : decode cX1_otherOf 33 = .ok (.iload_n 3, 1) := by decide +kernel
theorem dX1_otherOf_34 : decode cX1_otherOf 34 = .ok (.if_icmp .ne 6, 3) := by decide +kernel
theorem dX1_otherOf_37 : decode cX1_otherOf 37 = .ok (.iload 4, 2) := by decide +kernel
theorem dX1_otherOf_39 : decode cX1_otherOf 39 = .ok (.ireturn, 1) := by decide +kernel
theorem dX1_otherOf_40 : decode cX1_otherOf 40 = .ok (.iinc 4 1, 3) := by decide +kernel
theorem dX1_otherOf_43 : decode cX1_otherOf 43 = .ok (.goto (-28), 3) := by decide +kernel
theorem dX1_otherOf_46 : decode cX1_otherOf 46 = .ok (.iconst (-1), 1) := by decide +kernel
theorem dX1_otherOf_47 : decode cX1_otherOf 47 = .ok (.ireturn, 1) := by decide +kernel
set_option maxRecDepth 100000 in
set_option maxHeartbeats 4000000 in
theorem v_X1_otherOf {X : zq_X} (C : zq_C X RX1 cX1_otherOf 5 zq_all rm_X1_otherOf) (T : zq_T X none) (hn : X.2.2.2.2.2.2.2.2.1.name = yX1_otherOf.name) {h : zq_H} {t : Nat} {x1 : Int32} {x2 : Int32} {out : Int32} (hF : f_X1_otherOf h t x1 x2 = some out) (hE : zq_End X cX1_otherOf 0 0 (some (.int out)) h) : zq_W X 0 0 h 0 [(0, .ref t), (1, .int x1), (2, .int x2)] [] := by
  unfold f_X1_otherOf at hF
  refine zq_iconst (pc' := 1) C 1 dX1_otherOf_0 rfl (by decide) ?_
  refine zq_iload_n (pc' := 2) C dX1_otherOf_1 rfl rfl rfl ?_
  refine zq_ishl (pc' := 3) C dX1_otherOf_2 rfl ?_
  obtain ⟨v_1, e_2, hF⟩ := zq_let_e hF
  refine zq_istore_n (lv' := [(3, .int v_1), (0, .ref t), (1, .int x1), (2, .int x2)]) (pc' := 4) C dX1_otherOf_3 rfl rfl (by decide) e_2 rfl ?_
  refine zq_iload_n (pc' := 5) C dX1_otherOf_4 rfl rfl rfl ?_
  refine zq_iload_n (pc' := 6) C dX1_otherOf_5 rfl rfl rfl ?_
  refine zq_iand (pc' := 7) C dX1_otherOf_6 rfl ?_
  refine zq_if_ne (pc' := 10) C 12 dX1_otherOf_7 (by decide) rfl (fun c_3 => ?_) (fun c_3 => ?_)
  · have hF := (zq_ifn hF c_3)
    skip
    refine zq_iconst (pc' := 13) C 0 dX1_otherOf_12 rfl (by decide) ?_
    refine zq_istore (lv' := [(4, .int 0), (3, .int v_1), (0, .ref t), (1, .int x1), (2, .int x2)]) (pc' := 15) C dX1_otherOf_13 rfl (by decide) rfl rfl ?_
    refine zq_sub [2, 3, 1, 0] rfl ?_
    obtain ⟨r_5, e_6, hF⟩ := zq_bd hF
    refine zq_lpW (fun s_4 => zq_W X 0 0 h 15 [(0, .ref t), (1, .int x1), (3, .int v_1), (4, .int s_4)] []) (Sum.elim (fun y_7 => zq_W X 0 0 h 46 [] []) (fun z_8 => out = z_8)) e_6 (fun s_4 q_11 hF hrec_9 hex_10 => ?_) ?_
    · skip
      refine zq_iload (pc' := 17) C dX1_otherOf_15 rfl rfl ?_
      refine zq_aload_n (pc' := 18) C dX1_otherOf_17 rfl rfl rfl ?_
      obtain ⟨v_12, e_13, hF⟩ := zq_bd hF
      refine zq_getI (j := 1) (pc' := 21) C zq_K1 zq_in1w (Or.inl wd_37) (by decide) rfl dX1_otherOf_18 rfl e_13 ?_
      refine zq_icmp_ge (pc' := 24) C 46 dX1_otherOf_21 (by decide) rfl (fun c_14 => ?_) (fun c_14 => ?_)
      · have hF := (zq_ifp hF c_14)
        skip
        cases hF
        exact zq_sub [] rfl (hex_10 _ rfl)
      · have hF := (zq_ifn hF c_14)
        refine zq_aload_n (pc' := 25) C dX1_otherOf_24 rfl rfl rfl ?_
        obtain ⟨v_15, e_16, hF⟩ := zq_bd hF
        refine zq_getR (j := 6) (pc' := 28) C zq_K1 zq_in1w (Or.inl wd_38) (by decide) rfl dX1_otherOf_25 rfl e_16 ?_
        refine zq_iload (pc' := 30) C dX1_otherOf_28 rfl rfl ?_
        obtain ⟨v_17, e_18, hF⟩ := zq_bd hF
        refine zq_iaload (pc' := 31) C dX1_otherOf_30 rfl e_18 ?_
        refine zq_iload_n (pc' := 32) C dX1_otherOf_31 rfl rfl rfl ?_
        refine zq_iand (pc' := 33) C dX1_otherOf_32 rfl ?_
        refine zq_iload_n (pc' := 34) C dX1_otherOf_33 rfl rfl rfl ?_
        refine zq_icmp_ne (pc' := 37) C 40 dX1_otherOf_34 (by decide) rfl (fun c_19 => ?_) (fun c_19 => ?_)
        · have hF := (zq_ifn hF c_19)
          skip
          obtain ⟨v_20, e_21, hF⟩ := zq_let_e hF
          refine zq_iinc (lv' := [(4, .int v_20), (0, .ref t), (1, .int x1), (3, .int v_1)]) (pc' := 43) C dX1_otherOf_40 rfl (by decide) 3 rfl e_21 rfl ?_
          refine zq_goto C 15 dX1_otherOf_43 (by decide) ?_
          cases hF
          exact zq_sub [1, 2, 3, 0] rfl (hrec_9 _ rfl)
        · have hF := (zq_ifp hF c_19)
          refine zq_iload (pc' := 39) C dX1_otherOf_37 rfl rfl ?_
          cases hF
          have q9 : out = s_4 := hex_10 _ rfl
          subst q9
          exact hE _ _ _ _ (Nat.le_of_ble_eq_true rfl) (Nat.le_of_ble_eq_true rfl) dX1_otherOf_39
    · rcases r_5 with y_7 | z_8
      · dsimp only [Sum.elim_inl] at hF
        show zq_W X 0 0 h 46 [] []
        refine zq_iconst (pc' := 47) C (-1) dX1_otherOf_46 rfl (by decide) ?_
        cases hF
        exact hE _ _ _ _ (Nat.le_of_ble_eq_true rfl) (Nat.le_of_ble_eq_true rfl) dX1_otherOf_47
      · cases hF; rfl
  · have hF := (zq_ifp hF c_3)
    refine zq_iconst (pc' := 11) C (-1) dX1_otherOf_10 rfl (by decide) ?_
    cases hF
    exact hE _ _ _ _ (Nat.le_of_ble_eq_true rfl) (Nat.le_of_ble_eq_true rfl) dX1_otherOf_11
theorem c_X1_otherOf {h : zq_H} {t : Nat} {x1 : Int32} {x2 : Int32} {out : Int32} (hF : f_X1_otherOf h t x1 x2 = some out) : zq_M none yX1_otherOf (Cond.code yX1_otherOf cX1_otherOf 5 (some .int) :: zq_all) rm_X1_otherOf [.ref t, .int x1, .int x2] h (some (.int out)) h := zq_met2 (own := RX1) (by decide +kernel) rfl (Nat.le_of_ble_eq_true rfl) rfl ⟨.int, rfl, rfl⟩ (fun X C T hn hE => v_X1_otherOf C T hn hF hE)
theorem yv_X1_otherOf : zq_calV yX1_otherOf RX1 cX1_otherOf 5 (some .int) 2 := ⟨by decide +kernel, wd_36, wd_41, wd_42, wd_24⟩
def f_X1_ears (h : zq_H) (t : Nat) (x1 : Int32) : Option Int32 := ((zq_lp (σ := Int32 × Int32) (ρ := Int32) (fun s_1 => (Option.bind (zq_gi h t 1 0) fun v_9 => (if v_9 ≤ s_1.2 then some (.inr s_1.1) else (zq_ck h t 1 fun _ => (Option.bind (f_X1_degreeIn h t x1 s_1.2) fun v_12 => (if v_12 = 0 then (zq_let (s_1.1 + 1) fun v_20 => (zq_let (s_1.2 + 1) fun v_22 => some (.inl (v_20, v_22)))) else (zq_let (s_1.1 + 0) fun v_16 => (zq_let (s_1.2 + 1) fun v_18 => some (.inl (v_16, v_18)))))))))) zq_N (0, 0)).bind (fun y_4 : Int32 => some y_4))
abbrev rm_X1_ears : Room := { frames := 3, cells := 0, slots := 0, locals := 64 }
theorem dX1_ears_0 : decode cX1_ears 0 = .ok (.iconst 0, 1) := by decide +kernel
theorem dX1_ears_1 : decode cX1_ears 1 = .ok (.istore_n 2, 1) := by decide +kernel
theorem dX1_ears_2 : decode cX1_ears 2 = .ok (.iconst 0, 1) := by decide +kernel
theorem dX1_ears_3 : decode cX1_ears 3 = .ok (.istore_n 3, 1) := by decide +kernel
theorem dX1_ears_4 : decode cX1_ears 4 = .ok (.iload_n 3, 1) := by decide +kernel
theorem dX1_ears_5 : decode cX1_ears 5 = .ok (.aload_n 0, 1) := by decide +kernel
theorem dX1_ears_6 : decode cX1_ears 6 = .ok (.getfield 9, 3) := by decide +kernel
theorem dX1_ears_9 : decode cX1_ears 9 = .ok (.if_icmp .ge 26, 3) := by decide +kernel
theorem dX1_ears_12 : decode cX1_ears 12 = .ok (.iload_n 2, 1) := by decide +kernel
theorem dX1_ears_13 : decode cX1_ears 13 = .ok (.aload_n 0, 1) := by decide +kernel
theorem dX1_ears_14 : decode cX1_ears 14 = .ok (.iload_n 1, 1) := by decide +kernel
theorem dX1_ears_15 : decode cX1_ears 15 = .ok (.iload_n 3, 1) := by decide +kernel
theorem dX1_ears_16 : decode cX1_ears 16 = .ok (.invokevirtual 94, 3) := by decide +kernel
theorem dX1_ears_19 : decode cX1_ears 19 = .ok (.ifCond .ne 7, 3) := by decide +kernel
theorem dX1_ears_22 : decode cX1_ears 22 = .ok (.iconst 1, 1) := by decide +kernel
theorem dX1_ears_23 : decode cX1_ears 23 = .ok (.goto 4, 3) := by decide +kernel
theorem dX1_ears_26 : decode cX1_ears 26 = .ok (.iconst 0, 1) := by decide +kernel
theorem dX1_ears_27 : decode cX1_ears 27 = .ok (.iadd, 1) := by decide +kernel
theorem dX1_ears_28 : decode cX1_ears 28 = .ok (.istore_n 2, 1) := by decide +kernel
theorem dX1_ears_29 : decode cX1_ears 29 = .ok (.iinc 3 1, 3) := by decide +kernel
theorem dX1_ears_32 : decode cX1_ears 32 = .ok (.goto (-28), 3) := by decide +kernel
theorem dX1_ears_35 : decode cX1_ears 35 = .ok (.iload_n 2, 1) := by decide +kernel
theorem dX1_ears_36 : decode cX1_ears 36 = .ok (.ireturn, 1) := by decide +kernel
set_option maxRecDepth 100000 in
set_option maxHeartbeats 4000000 in
theorem v_X1_ears {X : zq_X} (C : zq_C X RX1 cX1_ears 4 zq_all rm_X1_ears) (T : zq_T X none) (hn : X.2.2.2.2.2.2.2.2.1.name = yX1_ears.name) {h : zq_H} {t : Nat} {x1 : Int32} {out : Int32} (hF : f_X1_ears h t x1 = some out) (hE : zq_End X cX1_ears 0 0 (some (.int out)) h) : zq_W X 0 0 h 0 [(0, .ref t), (1, .int x1)] [] := by
  unfold f_X1_ears at hF
  refine zq_iconst (pc' := 1) C 0 dX1_ears_0 rfl (by decide) ?_
  refine zq_istore_n (lv' := [(2, .int 0), (0, .ref t), (1, .int x1)]) (pc' := 2) C dX1_ears_1 rfl rfl (by decide) rfl rfl ?_
  refine zq_iconst (pc' := 3) C 0 dX1_ears_2 rfl (by decide) ?_
  refine zq_istore_n (lv' := [(3, .int 0), (2, .int 0), (0, .ref t), (1, .int x1)]) (pc' := 4) C dX1_ears_3 rfl rfl (by decide) rfl rfl ?_
  refine zq_sub [2, 3, 1, 0] rfl ?_
  obtain ⟨r_2, e_3, hF⟩ := zq_bd hF
  refine zq_lpW (fun s_1 => zq_W X 0 0 h 4 [(0, .ref t), (1, .int x1), (2, .int s_1.1), (3, .int s_1.2)] []) (fun y_4 => zq_W X 0 0 h 35 [(2, .int y_4)] []) e_3 (fun s_1 q_8 hF hrec_6 hex_7 => ?_) ?_
  · skip
    refine zq_iload_n (pc' := 5) C dX1_ears_4 rfl rfl rfl ?_
    refine zq_aload_n (pc' := 6) C dX1_ears_5 rfl rfl rfl ?_
    obtain ⟨v_9, e_10, hF⟩ := zq_bd hF
    refine zq_getI (j := 0) (pc' := 9) C zq_K1 zq_in1w (Or.inl wd_18) (by decide) rfl dX1_ears_6 rfl e_10 ?_
    refine zq_icmp_ge (pc' := 12) C 35 dX1_ears_9 (by decide) rfl (fun c_11 => ?_) (fun c_11 => ?_)
    · have hF := (zq_ifp hF c_11)
      skip
      cases hF
      exact zq_sub [2] rfl (hex_7 _ rfl)
    · have hF := (zq_ifn hF c_11)
      refine zq_iload_n (pc' := 13) C dX1_ears_12 rfl rfl rfl ?_
      refine zq_aload_n (pc' := 14) C dX1_ears_13 rfl rfl rfl ?_
      refine zq_iload_n (pc' := 15) C dX1_ears_14 rfl rfl rfl ?_
      refine zq_iload_n (pc' := 16) C dX1_ears_15 rfl rfl rfl ?_
      obtain ⟨e_14, hF⟩ := zq_ck_e hF
      obtain ⟨v_12, e_13, hF⟩ := zq_bd hF
      refine zq_cV (pc' := 19) C (c_X1_degreeIn e_13) yv_X1_degreeIn wd_110 zq_K1 e_14 dX1_ears_16 rfl rfl rfl ⟨Nat.le_of_ble_eq_true rfl, Nat.le_of_ble_eq_true rfl⟩ (Nat.le_of_ble_eq_true rfl) ⟨rfl, rfl⟩ ⟨Nat.le_of_ble_eq_true rfl, Nat.le_of_ble_eq_true rfl⟩ rfl ?_
      refine zq_if_ne (pc' := 22) C 26 dX1_ears_19 (by decide) rfl (fun c_15 => ?_) (fun c_15 => ?_)
      · have hF := (zq_ifn hF c_15)
        skip
        refine zq_iconst (pc' := 27) C 0 dX1_ears_26 rfl (by decide) ?_
        refine zq_iadd (pc' := 28) C dX1_ears_27 rfl ?_
        obtain ⟨v_16, e_17, hF⟩ := zq_let_e hF
        refine zq_istore_n (lv' := [(2, .int v_16), (0, .ref t), (1, .int x1), (3, .int s_1.2)]) (pc' := 29) C dX1_ears_28 rfl rfl (by decide) e_17 rfl ?_
        obtain ⟨v_18, e_19, hF⟩ := zq_let_e hF
        refine zq_iinc (lv' := [(3, .int v_18), (2, .int v_16), (0, .ref t), (1, .int x1)]) (pc' := 32) C dX1_ears_29 rfl (by decide) 3 rfl e_19 rfl ?_
        refine zq_goto C 4 dX1_ears_32 (by decide) ?_
        cases hF
        exact zq_sub [2, 3, 1, 0] rfl (hrec_6 _ rfl)
      · have hF := (zq_ifp hF c_15)
        refine zq_iconst (pc' := 23) C 1 dX1_ears_22 rfl (by decide) ?_
        refine zq_goto C 27 dX1_ears_23 (by decide) ?_
        refine zq_iadd (pc' := 28) C dX1_ears_27 rfl ?_
        obtain ⟨v_20, e_21, hF⟩ := zq_let_e hF
        refine zq_istore_n (lv' := [(2, .int v_20), (0, .ref t), (1, .int x1), (3, .int s_1.2)]) (pc' := 29) C dX1_ears_28 rfl rfl (by decide) e_21 rfl ?_
        obtain ⟨v_22, e_23, hF⟩ := zq_let_e hF
        refine zq_iinc (lv' := [(3, .int v_22), (2, .int v_20), (0, .ref t), (1, .int x1)]) (pc' := 32) C dX1_ears_29 rfl (by decide) 3 rfl e_23 rfl ?_
        refine zq_goto C 4 dX1_ears_32 (by decide) ?_
        cases hF
        exact zq_sub [2, 3, 1, 0] rfl (hrec_6 _ rfl)
  · skip
    obtain ⟨y_4, rfl⟩ : ∃ z9, z9 = r_2 := ⟨_, rfl⟩
    show zq_W X 0 0 h 35 [(2, .int y_4)] []
    refine zq_iload_n (pc' := 36) C dX1_ears_35 rfl rfl rfl ?_
    cases hF
    exact hE _ _ _ _ (Nat.le_of_ble_eq_true rfl) (Nat.le_of_ble_eq_true rfl) dX1_ears_36
theorem c_X1_ears {h : zq_H} {t : Nat} {x1 : Int32} {out : Int32} (hF : f_X1_ears h t x1 = some out) : zq_M none yX1_ears (Cond.code yX1_ears cX1_ears 4 (some .int) :: zq_all) rm_X1_ears [.ref t, .int x1] h (some (.int out)) h := zq_met2 (own := RX1) (by decide +kernel) rfl (Nat.le_of_ble_eq_true rfl) rfl ⟨.int, rfl, rfl⟩ (fun X C T hn hE => v_X1_ears C T hn hF hE)
theorem yv_X1_ears : zq_calV yX1_ears RX1 cX1_ears 4 (some .int) 1 := ⟨by decide +kernel, wd_109, wd_339, wd_340, wd_24⟩
