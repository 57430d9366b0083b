def f_X5_begin (h : zq_H) (t : Nat) (x1 : Int32) : Option ((Int32 × zq_H) ⊕ (Nat × zq_H)) := (zq_let (x1 - 4) fun v_1 => (if x1 < 4 then some (.inr (0, h)) else (if 9 < x1 then some (.inr (0, h)) else (Option.bind (zq_gr h t 5 0) fun v_5 => (Option.bind (zq_an h v_5) fun v_7 => (if v_1 < v_7 then (zq_ck h t 5 fun _ => (Option.bind (f_X5_saveState h t) fun v_10 => (Option.bind (zq_gr v_10 t 5 1) fun v_13 => (Option.bind (zq_gr v_10 v_13 3 0) fun v_15 => (Option.bind (zq_gr v_10 v_15 0 0) fun v_17 => (Option.bind (zq_gi v_10 v_17 1 0) fun v_19 => (Option.bind (zq_gr v_10 t 5 0) fun v_21 => (Option.bind (f_X5_buildUpTo v_10 v_21 v_1) fun v_23 => (Option.bind (zq_gr v_23 t 5 1) fun v_25 => (Option.bind (zq_gr v_23 t 5 0) fun v_27 => (Option.bind (zq_aq v_23 v_27 12 v_1) fun v_29 => (zq_ck v_23 v_25 3 fun _ => (Option.bind (f_X3_startWith v_23 v_25 v_29) fun v_31 => some ((.inl (v_19, v_31)))))))))))))))) else some (.inr (0, h))))))))
abbrev rm_X5_begin : Room := { frames := 6, cells := 1, slots := 6, locals := 98 }
theorem dX5_begin_0 : decode cX5_begin 0 = .ok (.iload_n 1, 1) := by decide +kernel
theorem dX5_begin_1 : decode cX5_begin 1 = .ok (.iconst 4, 1) := by decide +kernel
theorem dX5_begin_2 : decode cX5_begin 2 = .ok (.isub, 1) := by decide +kernel
theorem dX5_begin_3 : decode cX5_begin 3 = .ok (.istore_n 2, 1) := by decide +kernel
theorem dX5_begin_4 : decode cX5_begin 4 = .ok (.iload_n 1, 1) := by decide +kernel
theorem dX5_begin_5 : decode cX5_begin 5 = .ok (.iconst 4, 1) := by decide +kernel
theorem dX5_begin_6 : decode cX5_begin 6 = .ok (.if_icmp .lt 18, 3) := by decide +kernel
theorem dX5_begin_9 : decode cX5_begin 9 = .ok (.iload_n 1, 1) := by decide +kernel
theorem dX5_begin_10 : decode cX5_begin 10 = .ok (.bipush 9, 2) := by decide +kernel
theorem dX5_begin_12 : decode cX5_begin 12 = .ok (.if_icmp .gt 12, 3) := by decide +kernel
theorem dX5_begin_15 : decode cX5_begin 15 = .ok (.iload_n 2, 1) := by decide +kernel
theorem dX5_begin_16 : decode cX5_begin 16 = .ok (.aload_n 0, 1) := by decide +kernel
theorem dX5_begin_17 : decode cX5_begin 17 = .ok (.getfield 11, 3) := by decide +kernel
theorem dX5_begin_20 : decode cX5_begin 20 = .ok (.arraylength, 1) := by decide +kernel
theorem dX5_begin_21 : decode cX5_begin 21 = .ok (.if_icmp .lt 13, 3) := by decide +kernel
theorem dX5_begin_24 : decode cX5_begin 24 = .ok (.new 73, 3) := by decide +kernel
theorem dX5_begin_27 : decode cX5_begin 27 = .ok (.dup, 1) := by decide +kernel
theorem dX5_begin_28 : decode cX5_begin 28 = .ok (.ldc 75, 2) := by decide +kernel
theorem dX5_begin_30 : decode cX5_begin 30 = .ok (.invokespecial 77, 3) := by decide +kernel
theorem dX5_begin_33 : decode cX5_begin 33 = .ok (.athrow, 1) := by decide +kernel
theorem dX5_begin_34 : decode cX5_begin 34 = .ok (.aload_n 0, 1) := by decide +kernel
theorem dX5_begin_35 : decode cX5_begin 35 = .ok (.invokevirtual 80, 3) := by decide +kernel
theorem dX5_begin_38 : decode cX5_begin 38 = .ok (.aload_n 0, 1) := by decide +kernel
theorem dX5_begin_39 : decode cX5_begin 39 = .ok (.getfield 30, 3) := by decide +kernel
theorem dX5_begin_42 : decode cX5_begin 42 = .ok (.getfield 83, 3) := by decide +kernel
theorem dX5_begin_45 : decode cX5_begin 45 = .ok (.getfield 87, 3) := by decide +kernel
theorem dX5_begin_48 : decode cX5_begin 48 = .ok (.getfield 91, 3) := by decide +kernel
theorem dX5_begin_51 : decode cX5_begin 51 = .ok (.istore_n 3, 1) := by decide +kernel
theorem dX5_begin_52 : decode cX5_begin 52 = .ok (.aload_n 0, 1) := by decide +kernel
theorem dX5_begin_53 : decode cX5_begin 53 = .ok (.getfield 11, 3) := by decide +kernel
theorem dX5_begin_56 : decode cX5_begin 56 = .ok (.iload_n 2, 1) := by decide +kernel
theorem dX5_begin_57 : decode cX5_begin 57 = .ok (.invokestatic 23, 3) := by decide +kernel
theorem dX5_begin_60 : decode cX5_begin 60 = .ok (.aload_n 0, 1) := by decide +kernel
theorem dX5_begin_61 : decode cX5_begin 61 = .ok (.getfield 30, 3) := by decide +kernel
theorem dX5_begin_64 : decode cX5_begin 64 = .ok (.aload_n 0, 1) := by decide +kernel
theorem dX5_begin_65 : decode cX5_begin 65 = .ok (.getfield 11, 3) := by decide +kernel
theorem dX5_begin_68 : decode cX5_begin 68 = .ok (.iload_n 2, 1) := by decide +kernel
theorem dX5_begin_69 : decode cX5_begin 69 = .ok (.aaload, 1) := by decide +kernel
theorem dX5_begin_70 : decode cX5_begin 70 = .ok (.invokevirtual 34, 3) := by decide +kernel
theorem dX5_begin_73 : decode cX5_begin 73 = .ok (.iload_n 3, 1) := by decide +kernel
theorem dX5_begin_74 : decode cX5_begin 74 = .ok (.ireturn, 1) := by decide +kernel
set_option maxRecDepth 100000 in
set_option maxHeartbeats 4000000 in
theorem v_X5_begin {X : zq_X} (C : zq_C X RX5 cX5_begin 4 zq_all rm_X5_begin) {h : zq_H} {t : Nat} {x1 : Int32} {out : ((Int32 × zq_H) ⊕ (Nat × zq_H))} (hF : f_X5_begin h t x1 = some out) (hE : ∀ q, out = .inl q → zq_End X cX5_begin 1 6 (some (.int q.1)) q.2) (hX : ∀ q, out = .inr q → zq_Thr X 1 6 q.1 q.2) : zq_W X 0 0 h 0 [(0, .ref t), (1, .int x1)] [] := by
  unfold f_X5_begin at hF
  refine zq_iload_n (pc' := 1) C dX5_begin_0 rfl rfl rfl ?_
  refine zq_iconst (pc' := 2) C 4 dX5_begin_1 rfl (by decide) ?_
  refine zq_isub (pc' := 3) C dX5_begin_2 rfl ?_
  replace hF := zq_let_e hF; obtain ⟨v_1, e_2, hF⟩ := hF
  refine zq_istore_n (lv' := [(2, .int v_1), (0, .ref t), (1, .int x1)]) (pc' := 4) C dX5_begin_3 rfl rfl (by decide) e_2 rfl ?_
  refine zq_iload_n (pc' := 5) C dX5_begin_4 rfl rfl rfl ?_
  refine zq_iconst (pc' := 6) C 4 dX5_begin_5 rfl (by decide) ?_
  refine zq_icmp_lt (pc' := 9) C 24 dX5_begin_6 (by decide) rfl (fun c_3 => ?_) (fun c_3 => ?_)
  · have hF := (zq_ifp hF c_3)
    skip
    have hF := Option.some.inj hF
    subst hF
    exact zq_throwS C 0 "n is out of range" (by decide) (by decide +kernel) dX5_begin_24 dX5_begin_27 dX5_begin_28 dX5_begin_30 dX5_begin_33 (by decide) (Nat.le_of_ble_eq_true rfl) ⟨Nat.le_of_ble_eq_true rfl, Nat.le_of_ble_eq_true rfl⟩ ⟨Nat.le_of_ble_eq_true rfl, Nat.le_of_ble_eq_true rfl⟩ (hX _ rfl)
  · have hF := (zq_ifn hF c_3)
    refine zq_iload_n (pc' := 10) C dX5_begin_9 rfl rfl rfl ?_
    refine zq_bipush (pc' := 12) C 9 dX5_begin_10 rfl (by decide) ?_
    refine zq_icmp_gt (pc' := 15) C 24 dX5_begin_12 (by decide) rfl (fun c_4 => ?_) (fun c_4 => ?_)
    · have hF := (zq_ifp hF c_4)
      skip
      have hF := Option.some.inj hF
      subst hF
      exact zq_throwS C 0 "n is out of range" (by decide) (by decide +kernel) dX5_begin_24 dX5_begin_27 dX5_begin_28 dX5_begin_30 dX5_begin_33 (by decide) (Nat.le_of_ble_eq_true rfl) ⟨Nat.le_of_ble_eq_true rfl, Nat.le_of_ble_eq_true rfl⟩ ⟨Nat.le_of_ble_eq_true rfl, Nat.le_of_ble_eq_true rfl⟩ (hX _ rfl)
    · have hF := (zq_ifn hF c_4)
      refine zq_iload_n (pc' := 16) C dX5_begin_15 rfl rfl rfl ?_
      refine zq_aload_n (pc' := 17) C dX5_begin_16 rfl rfl rfl ?_
      replace hF := zq_bd hF; obtain ⟨v_5, e_6, hF⟩ := hF
      refine zq_getR (j := 0) (pc' := 20) C zq_K5 zq_in5w (Or.inl wd_203) (by decide) rfl dX5_begin_17 rfl e_6 ?_
      replace hF := zq_bd hF; obtain ⟨v_7, e_8, hF⟩ := hF
      refine zq_alen (pc' := 21) C dX5_begin_20 rfl e_8 ?_
      refine zq_icmp_lt (pc' := 24) C 34 dX5_begin_21 (by decide) rfl (fun c_9 => ?_) (fun c_9 => ?_)
      · have hF := (zq_ifp hF c_9)
        skip
        refine zq_aload_n (pc' := 35) C dX5_begin_34 rfl rfl rfl ?_
        replace hF := zq_ck_e hF; obtain ⟨e_12, hF⟩ := hF
        replace hF := zq_bd hF; obtain ⟨v_10, e_11, hF⟩ := hF
        refine zq_cV (pc' := 38) C (c_X5_saveState e_11) yv_X5_saveState wd_245 zq_K5 e_12 dX5_begin_35 rfl rfl rfl ⟨Nat.le_of_ble_eq_true rfl, Nat.le_of_ble_eq_true rfl⟩ (Nat.le_of_ble_eq_true rfl) ⟨rfl, rfl⟩ ⟨Nat.le_of_ble_eq_true rfl, Nat.le_of_ble_eq_true rfl⟩ rfl ?_
        refine zq_aload_n (pc' := 39) C dX5_begin_38 rfl rfl rfl ?_
        replace hF := zq_bd hF; obtain ⟨v_13, e_14, hF⟩ := hF
        refine zq_getR (j := 1) (pc' := 42) C zq_K5 zq_in5w (Or.inl wd_210) (by decide) rfl dX5_begin_39 rfl e_14 ?_
        replace hF := zq_bd hF; obtain ⟨v_15, e_16, hF⟩ := hF
        refine zq_getR (j := 0) (pc' := 45) C zq_K3 zq_in3w (Or.inr ⟨"FlipPolygons", by decide +kernel⟩) (by decide) rfl dX5_begin_42 rfl e_16 ?_
        replace hF := zq_bd hF; obtain ⟨v_17, e_18, hF⟩ := hF
        refine zq_getR (j := 0) (pc' := 48) C zq_K0 zq_in0w (Or.inr ⟨"FlipPolygons", by decide +kernel⟩) (by decide) rfl dX5_begin_45 rfl e_18 ?_
        replace hF := zq_bd hF; obtain ⟨v_19, e_20, hF⟩ := hF
        refine zq_getI (j := 0) (pc' := 51) C zq_K1 zq_in1w (Or.inr ⟨"FlipPolygons", by decide +kernel⟩) (by decide) rfl dX5_begin_48 rfl e_20 ?_
        refine zq_istore_n (lv' := [(3, .int v_19), (2, .int v_1), (0, .ref t), (1, .int x1)]) (pc' := 52) C dX5_begin_51 rfl rfl (by decide) rfl rfl ?_
        refine zq_aload_n (pc' := 53) C dX5_begin_52 rfl rfl rfl ?_
        replace hF := zq_bd hF; obtain ⟨v_21, e_22, hF⟩ := hF
        refine zq_getR (j := 0) (pc' := 56) C zq_K5 zq_in5w (Or.inl wd_203) (by decide) rfl dX5_begin_53 rfl e_22 ?_
        refine zq_iload_n (pc' := 57) C dX5_begin_56 rfl rfl rfl ?_
        replace hF := zq_bd hF; obtain ⟨v_23, e_24, hF⟩ := hF
        refine zq_cS (pc' := 60) C (c_X5_buildUpTo e_24) ys_X5_buildUpTo wd_227 dX5_begin_57 rfl rfl rfl ⟨Nat.le_of_ble_eq_true rfl, Nat.le_of_ble_eq_true rfl⟩ (Nat.le_of_ble_eq_true rfl) ⟨rfl, rfl⟩ ⟨Nat.le_of_ble_eq_true rfl, Nat.le_of_ble_eq_true rfl⟩ rfl ?_
        refine zq_aload_n (pc' := 61) C dX5_begin_60 rfl rfl rfl ?_
        replace hF := zq_bd hF; obtain ⟨v_25, e_26, hF⟩ := hF
        refine zq_getR (j := 1) (pc' := 64) C zq_K5 zq_in5w (Or.inl wd_210) (by decide) rfl dX5_begin_61 rfl e_26 ?_
        refine zq_aload_n (pc' := 65) C dX5_begin_64 rfl rfl rfl ?_
        replace hF := zq_bd hF; obtain ⟨v_27, e_28, hF⟩ := hF
        refine zq_getR (j := 0) (pc' := 68) C zq_K5 zq_in5w (Or.inl wd_203) (by decide) rfl dX5_begin_65 rfl e_28 ?_
        refine zq_iload_n (pc' := 69) C dX5_begin_68 rfl rfl rfl ?_
        replace hF := zq_bd hF; obtain ⟨v_29, e_30, hF⟩ := hF
        refine zq_aaload (pc' := 70) C 12 (by decide) dX5_begin_69 rfl e_30 ?_
        replace hF := zq_ck_e hF; obtain ⟨e_33, hF⟩ := hF
        replace hF := zq_bd hF; obtain ⟨v_31, e_32, hF⟩ := hF
        refine zq_cV (pc' := 73) C (c_X3_startWith e_32) yv_X3_startWith wd_230 zq_K3 e_33 dX5_begin_70 rfl rfl rfl ⟨Nat.le_of_ble_eq_true rfl, Nat.le_of_ble_eq_true rfl⟩ (Nat.le_of_ble_eq_true rfl) ⟨rfl, rfl⟩ ⟨Nat.le_of_ble_eq_true rfl, Nat.le_of_ble_eq_true rfl⟩ rfl ?_
        refine zq_iload_n (pc' := 74) C dX5_begin_73 rfl rfl rfl ?_
        have hF := Option.some.inj hF
        subst hF
        exact hE _ rfl _ _ _ _ (Nat.le_of_ble_eq_true rfl) (Nat.le_of_ble_eq_true rfl) dX5_begin_74
      · have hF := (zq_ifn hF c_9)
        have hF := Option.some.inj hF
        subst hF
        exact zq_throwS C 0 "n is out of range" (by decide) (by decide +kernel) dX5_begin_24 dX5_begin_27 dX5_begin_28 dX5_begin_30 dX5_begin_33 (by decide) (Nat.le_of_ble_eq_true rfl) ⟨Nat.le_of_ble_eq_true rfl, Nat.le_of_ble_eq_true rfl⟩ ⟨Nat.le_of_ble_eq_true rfl, Nat.le_of_ble_eq_true rfl⟩ (hX _ rfl)
theorem c_X5_begin {h : zq_H} {t : Nat} {x1 : Int32} {out : ((Int32 × zq_H) ⊕ (Nat × zq_H))} (hF : f_X5_begin h t x1 = some out) : zq_Mx yX5_begin (Cond.code yX5_begin cX5_begin 4 (some .int) :: zq_all) rm_X5_begin [.ref t, .int x1] h (zq_ox out) := zq_metx (own := RX5) (by decide +kernel) rfl (Nat.le_of_ble_eq_true rfl) rfl (fun X C _ _ hE hX => v_X5_begin C hF hE hX)
theorem yv_X5_begin : zq_calV yX5_begin RX5 cX5_begin 4 (some .int) 1 := ⟨by decide +kernel, wd_248, wd_697, wd_698, wd_95⟩
def f_X5_flip (h : zq_H) (t : Nat) (x1 : Int32) (x2 : Int32) (x3 : Int32) : Option ((Int32 × zq_H) ⊕ (Nat × zq_H)) := (Option.bind (zq_gr h t 5 1) fun v_1 => (Option.bind (zq_gr h v_1 3 0) fun v_3 => (Option.bind (zq_gr h v_3 0 0) fun v_5 => (zq_ck h v_5 1 fun _ => (Option.bind (f_X1_numberOf h v_5 x2 x3) fun v_7 => (Option.bind (f_X5_isWhich h x1) fun v_10 => (if v_10 = false then some (.inr (1, h)) else (if v_7 = (-1) then some (.inr (1, h)) else (Option.bind (zq_gr h t 5 1) fun v_14 => (zq_ck h v_14 3 fun _ => (Option.bind (f_X3_mask h v_14 x1) fun v_16 => (Option.bind (f_X5_isIn h v_16 v_7) fun v_19 => (if v_19 = false then some (.inr (2, h)) else (if x1 = 0 then (Option.bind (zq_gr h t 5 1) fun v_29 => (Option.bind (zq_gi h v_29 3 3) fun v_31 => (Option.bind (f_X5_isIn h v_31 v_7) fun v_33 => (if v_33 = false then (zq_ck h t 5 fun _ => (Option.bind (f_X5_saveState h t) fun v_36 => (zq_ck v_36 t 5 fun _ => (Option.bind (f_X5_makeFlip v_36 t x1 v_7) fun v_39 => some ((.inl (v_39.1, v_39.2))))))) else some (.inr (2, h)))))) else (zq_ck h t 5 fun _ => (Option.bind (f_X5_saveState h t) fun v_23 => (zq_ck v_23 t 5 fun _ => (Option.bind (f_X5_makeFlip v_23 t x1 v_7) fun v_26 => some ((.inl (v_26.1, v_26.2)))))))))))))))))))))
abbrev rm_X5_flip : Room := { frames := 6, cells := 1, slots := 6, locals := 98 }
theorem dX5_flip_0 : decode cX5_flip 0 = .ok (.aload_n 0, 1) := by decide +kernel
theorem dX5_flip_1 : decode cX5_flip 1 = .ok (.getfield 30, 3) := by decide +kernel
theorem dX5_flip_4 : decode cX5_flip 4 = .ok (.getfield 83, 3) := by decide +kernel
theorem dX5_flip_7 : decode cX5_flip 7 = .ok (.getfield 87, 3) := by decide +kernel
theorem dX5_flip_10 : decode cX5_flip 10 = .ok (.iload_n 2, 1) := by decide +kernel
theorem dX5_flip_11 : decode cX5_flip 11 = .ok (.iload_n 3, 1) := by decide +kernel
theorem dX5_flip_12 : decode cX5_flip 12 = .ok (.invokevirtual 95, 3) := by decide +kernel
theorem dX5_flip_15 : decode cX5_flip 15 = .ok (.istore 4, 2) := by decide +kernel
theorem dX5_flip_17 : decode cX5_flip 17 = .ok (.iload_n 1, 1) := by decide +kernel
theorem dX5_flip_18 : decode cX5_flip 18 = .ok (.invokestatic 99, 3) := by decide +kernel
theorem dX5_flip_21 : decode cX5_flip 21 = .ok (.ifCond .eq 9, 3) := by decide +kernel
theorem dX5_flip_24 : decode cX5_flip 24 = .ok (.iload 4, 2) := by decide +kernel
theorem dX5_flip_26 : decode cX5_flip 26 = .ok (.iconst (-1), 1) := by decide +kernel
theorem dX5_flip_27 : decode cX5_flip 27 = .ok (.if_icmp .ne 13, 3) := by decide +kernel
theorem dX5_flip_30 : decode cX5_flip 30 = .ok (.new 103, 3) := by decide +kernel
theorem dX5_flip_33 : decode cX5_flip 33 = .ok (.dup, 1) := by decide +kernel
theorem dX5_flip_34 : decode cX5_flip 34 = .ok (.ldc 105, 2) := by decide +kernel
theorem dX5_flip_36 : decode cX5_flip 36 = .ok (.invokespecial 107, 3) := by decide +kernel
theorem dX5_flip_39 : decode cX5_flip 39 = .ok (.athrow, 1) := by decide +kernel
theorem dX5_flip_40 : decode cX5_flip 40 = .ok (.aload_n 0, 1) := by decide +kernel
theorem dX5_flip_41 : decode cX5_flip 41 = .ok (.getfield 30, 3) := by decide +kernel
theorem dX5_flip_44 : decode cX5_flip 44 = .ok (.iload_n 1, 1) := by decide +kernel
theorem dX5_flip_45 : decode cX5_flip 45 = .ok (.invokevirtual 108, 3) := by decide +kernel
theorem dX5_flip_48 : decode cX5_flip 48 = .ok (.iload 4, 2) := by decide +kernel
theorem dX5_flip_50 : decode cX5_flip 50 = .ok (.invokestatic 112, 3) := by decide +kernel
theorem dX5_flip_53 : decode cX5_flip 53 = .ok (.ifCond .eq 22, 3) := by decide +kernel
theorem dX5_flip_56 : decode cX5_flip 56 = .ok (.iload_n 1, 1) := by decide +kernel
theorem dX5_flip_57 : decode cX5_flip 57 = .ok (.ifCond .ne 28, 3) := by decide +kernel
theorem dX5_flip_60 : decode cX5_flip 60 = .ok (.aload_n 0, 1) := by decide +kernel
theorem dX5_flip_61 : decode cX5_flip 61 = .ok (.getfield 30, 3) := by decide +kernel
theorem dX5_flip_64 : decode cX5_flip 64 = .ok (.getfield 116, 3) := by decide +kernel
theorem dX5_flip_67 : decode cX5_flip 67 = .ok (.iload 4, 2) := by decide +kernel
theorem dX5_flip_69 : decode cX5_flip 69 = .ok (.invokestatic 112, 3) := by decide +kernel
theorem dX5_flip_72 : decode cX5_flip 72 = .ok (.ifCond .eq 13, 3) := by decide +kernel
theorem dX5_flip_75 : decode cX5_flip 75 = .ok (.new 119, 3) := by decide +kernel
theorem dX5_flip_78 : decode cX5_flip 78 = .ok (.dup, 1) := by decide +kernel
theorem dX5_flip_79 : decode cX5_flip 79 = .ok (.ldc 121, 2) := by decide +kernel
theorem dX5_flip_81 : decode cX5_flip 81 = .ok (.invokespecial 123, 3) := by decide +kernel
theorem dX5_flip_84 : decode cX5_flip 84 = .ok (.athrow, 1) := by decide +kernel
theorem dX5_flip_85 : decode cX5_flip 85 = .ok (.aload_n 0, 1) := by decide +kernel
theorem dX5_flip_86 : decode cX5_flip 86 = .ok (.invokevirtual 80, 3) := by decide +kernel
theorem dX5_flip_89 : decode cX5_flip 89 = .ok (.aload_n 0, 1) := by decide +kernel
theorem dX5_flip_90 : decode cX5_flip 90 = .ok (.iload_n 1, 1) := by decide +kernel
theorem dX5_flip_91 : decode cX5_flip 91 = .ok (.iload 4, 2) := by decide +kernel
theorem dX5_flip_93 : decode cX5_flip 93 = .ok (.invokevirtual 124, 3) := by decide +kernel
theorem dX5_flip_96 : decode cX5_flip 96 = .ok (.ireturn, 1) := by decide +kernel
set_option maxRecDepth 100000 in
set_option maxHeartbeats 4000000 in
theorem v_X5_flip {X : zq_X} (C : zq_C X RX5 cX5_flip 5 zq_all rm_X5_flip) {h : zq_H} {t : Nat} {x1 : Int32} {x2 : Int32} {x3 : Int32} {out : ((Int32 × zq_H) ⊕ (Nat × zq_H))} (hF : f_X5_flip h t x1 x2 x3 = some out) (hE : ∀ q, out = .inl q → zq_End X cX5_flip 1 6 (some (.int q.1)) q.2) (hX : ∀ q, out = .inr q → zq_Thr X 1 6 q.1 q.2) : zq_W X 0 0 h 0 [(0, .ref t), (1, .int x1), (2, .int x2), (3, .int x3)] [] := by
  unfold f_X5_flip at hF
  refine zq_aload_n (pc' := 1) C dX5_flip_0 rfl rfl rfl ?_
  replace hF := zq_bd hF; obtain ⟨v_1, e_2, hF⟩ := hF
  refine zq_getR (j := 1) (pc' := 4) C zq_K5 zq_in5w (Or.inl wd_210) (by decide) rfl dX5_flip_1 rfl e_2 ?_
  replace hF := zq_bd hF; obtain ⟨v_3, e_4, hF⟩ := hF
  refine zq_getR (j := 0) (pc' := 7) C zq_K3 zq_in3w (Or.inr ⟨"FlipPolygons", by decide +kernel⟩) (by decide) rfl dX5_flip_4 rfl e_4 ?_
  replace hF := zq_bd hF; obtain ⟨v_5, e_6, hF⟩ := hF
  refine zq_getR (j := 0) (pc' := 10) C zq_K0 zq_in0w (Or.inr ⟨"FlipPolygons", by decide +kernel⟩) (by decide) rfl dX5_flip_7 rfl e_6 ?_
  refine zq_iload_n (pc' := 11) C dX5_flip_10 rfl rfl rfl ?_
  refine zq_iload_n (pc' := 12) C dX5_flip_11 rfl rfl rfl ?_
  replace hF := zq_ck_e hF; obtain ⟨e_9, hF⟩ := hF
  replace hF := zq_bd hF; obtain ⟨v_7, e_8, hF⟩ := hF
  refine zq_cV (pc' := 15) C (c_X1_numberOf e_8) yv_X1_numberOf wd_263 zq_K1 e_9 dX5_flip_12 rfl rfl rfl ⟨Nat.le_of_ble_eq_true rfl, Nat.le_of_ble_eq_true rfl⟩ (Nat.le_of_ble_eq_true rfl) ⟨rfl, rfl⟩ ⟨Nat.le_of_ble_eq_true rfl, Nat.le_of_ble_eq_true rfl⟩ rfl ?_
  refine zq_istore (lv' := [(4, .int v_7), (0, .ref t), (1, .int x1), (2, .int x2), (3, .int x3)]) (pc' := 17) C dX5_flip_15 rfl (by decide) rfl rfl ?_
  refine zq_iload_n (pc' := 18) C dX5_flip_17 rfl rfl rfl ?_
  replace hF := zq_bd hF; obtain ⟨v_10, e_11, hF⟩ := hF
  refine zq_cS (pc' := 21) C (c_X5_isWhich e_11) ys_X5_isWhich wd_264 dX5_flip_18 rfl rfl rfl ⟨Nat.le_of_ble_eq_true rfl, Nat.le_of_ble_eq_true rfl⟩ (Nat.le_of_ble_eq_true rfl) ⟨rfl, rfl⟩ ⟨Nat.le_of_ble_eq_true rfl, Nat.le_of_ble_eq_true rfl⟩ rfl ?_
  refine zq_if_eq (pc' := 24) C 30 dX5_flip_21 (by decide) rfl (fun c_12 => ?_) (fun c_12 => ?_)
  · have hF := (zq_ifp hF (zq_b0.mp c_12))
    skip
    have hF := Option.some.inj hF
    subst hF
    exact zq_throwS C 1 "no such triangulation or diagonal" (by decide) (by decide +kernel) dX5_flip_30 dX5_flip_33 dX5_flip_34 dX5_flip_36 dX5_flip_39 (by decide) (Nat.le_of_ble_eq_true rfl) ⟨Nat.le_of_ble_eq_true rfl, Nat.le_of_ble_eq_true rfl⟩ ⟨Nat.le_of_ble_eq_true rfl, Nat.le_of_ble_eq_true rfl⟩ (hX _ rfl)
  · have hF := (zq_ifn hF (fun q => c_12 (zq_b0.mpr q)))
    refine zq_iload (pc' := 26) C dX5_flip_24 rfl rfl ?_
    refine zq_iconst (pc' := 27) C (-1) dX5_flip_26 rfl (by decide) ?_
    refine zq_icmp_ne (pc' := 30) C 40 dX5_flip_27 (by decide) rfl (fun c_13 => ?_) (fun c_13 => ?_)
    · have hF := (zq_ifn hF c_13)
      skip
      refine zq_aload_n (pc' := 41) C dX5_flip_40 rfl rfl rfl ?_
      replace hF := zq_bd hF; obtain ⟨v_14, e_15, hF⟩ := hF
      refine zq_getR (j := 1) (pc' := 44) C zq_K5 zq_in5w (Or.inl wd_210) (by decide) rfl dX5_flip_41 rfl e_15 ?_
      refine zq_iload_n (pc' := 45) C dX5_flip_44 rfl rfl rfl ?_
      replace hF := zq_ck_e hF; obtain ⟨e_18, hF⟩ := hF
      replace hF := zq_bd hF; obtain ⟨v_16, e_17, hF⟩ := hF
      refine zq_cV (pc' := 48) C (c_X3_mask e_17) yv_X3_mask wd_251 zq_K3 e_18 dX5_flip_45 rfl rfl rfl ⟨Nat.le_of_ble_eq_true rfl, Nat.le_of_ble_eq_true rfl⟩ (Nat.le_of_ble_eq_true rfl) ⟨rfl, rfl⟩ ⟨Nat.le_of_ble_eq_true rfl, Nat.le_of_ble_eq_true rfl⟩ rfl ?_
      refine zq_iload (pc' := 50) C dX5_flip_48 rfl rfl ?_
      replace hF := zq_bd hF; obtain ⟨v_19, e_20, hF⟩ := hF
      refine zq_cS (pc' := 53) C (c_X5_isIn e_20) ys_X5_isIn wd_266 dX5_flip_50 rfl rfl rfl ⟨Nat.le_of_ble_eq_true rfl, Nat.le_of_ble_eq_true rfl⟩ (Nat.le_of_ble_eq_true rfl) ⟨rfl, rfl⟩ ⟨Nat.le_of_ble_eq_true rfl, Nat.le_of_ble_eq_true rfl⟩ rfl ?_
      refine zq_if_eq (pc' := 56) C 75 dX5_flip_53 (by decide) rfl (fun c_21 => ?_) (fun c_21 => ?_)
      · have hF := (zq_ifp hF (zq_b0.mp c_21))
        skip
        have hF := Option.some.inj hF
        subst hF
        exact zq_throwS C 2 "the diagonal is not there, or is locked" (by decide) (by decide +kernel) dX5_flip_75 dX5_flip_78 dX5_flip_79 dX5_flip_81 dX5_flip_84 (by decide) (Nat.le_of_ble_eq_true rfl) ⟨Nat.le_of_ble_eq_true rfl, Nat.le_of_ble_eq_true rfl⟩ ⟨Nat.le_of_ble_eq_true rfl, Nat.le_of_ble_eq_true rfl⟩ (hX _ rfl)
      · have hF := (zq_ifn hF (fun q => c_21 (zq_b0.mpr q)))
        refine zq_iload_n (pc' := 57) C dX5_flip_56 rfl rfl rfl ?_
        refine zq_if_ne (pc' := 60) C 85 dX5_flip_57 (by decide) rfl (fun c_22 => ?_) (fun c_22 => ?_)
        · have hF := (zq_ifn hF c_22)
          skip
          refine zq_aload_n (pc' := 86) C dX5_flip_85 rfl rfl rfl ?_
          replace hF := zq_ck_e hF; obtain ⟨e_25, hF⟩ := hF
          replace hF := zq_bd hF; obtain ⟨v_23, e_24, hF⟩ := hF
          refine zq_cV (pc' := 89) C (c_X5_saveState e_24) yv_X5_saveState wd_245 zq_K5 e_25 dX5_flip_86 rfl rfl rfl ⟨Nat.le_of_ble_eq_true rfl, Nat.le_of_ble_eq_true rfl⟩ (Nat.le_of_ble_eq_true rfl) ⟨rfl, rfl⟩ ⟨Nat.le_of_ble_eq_true rfl, Nat.le_of_ble_eq_true rfl⟩ rfl ?_
          refine zq_aload_n (pc' := 90) C dX5_flip_89 rfl rfl rfl ?_
          refine zq_iload_n (pc' := 91) C dX5_flip_90 rfl rfl rfl ?_
          refine zq_iload (pc' := 93) C dX5_flip_91 rfl rfl ?_
          replace hF := zq_ck_e hF; obtain ⟨e_28, hF⟩ := hF
          replace hF := zq_bd hF; obtain ⟨v_26, e_27, hF⟩ := hF
          refine zq_cV (pc' := 96) C (c_X5_makeFlip e_27) yv_X5_makeFlip wd_267 zq_K5 e_28 dX5_flip_93 rfl rfl rfl ⟨Nat.le_of_ble_eq_true rfl, Nat.le_of_ble_eq_true rfl⟩ (Nat.le_of_ble_eq_true rfl) ⟨rfl, rfl⟩ ⟨Nat.le_of_ble_eq_true rfl, Nat.le_of_ble_eq_true rfl⟩ rfl ?_
          have hF := Option.some.inj hF
          subst hF
          exact hE _ rfl _ _ _ _ (Nat.le_of_ble_eq_true rfl) (Nat.le_of_ble_eq_true rfl) dX5_flip_96
        · have hF := (zq_ifp hF c_22)
          refine zq_aload_n (pc' := 61) C dX5_flip_60 rfl rfl rfl ?_
          replace hF := zq_bd hF; obtain ⟨v_29, e_30, hF⟩ := hF
          refine zq_getR (j := 1) (pc' := 64) C zq_K5 zq_in5w (Or.inl wd_210) (by decide) rfl dX5_flip_61 rfl e_30 ?_
          replace hF := zq_bd hF; obtain ⟨v_31, e_32, hF⟩ := hF
          refine zq_getI (j := 3) (pc' := 67) C zq_K3 zq_in3w (Or.inr ⟨"FlipPolygons", by decide +kernel⟩) (by decide) rfl dX5_flip_64 rfl e_32 ?_
          refine zq_iload (pc' := 69) C dX5_flip_67 rfl rfl ?_
          replace hF := zq_bd hF; obtain ⟨v_33, e_34, hF⟩ := hF
          refine zq_cS (pc' := 72) C (c_X5_isIn e_34) ys_X5_isIn wd_266 dX5_flip_69 rfl rfl rfl ⟨Nat.le_of_ble_eq_true rfl, Nat.le_of_ble_eq_true rfl⟩ (Nat.le_of_ble_eq_true rfl) ⟨rfl, rfl⟩ ⟨Nat.le_of_ble_eq_true rfl, Nat.le_of_ble_eq_true rfl⟩ rfl ?_
          refine zq_if_eq (pc' := 75) C 85 dX5_flip_72 (by decide) rfl (fun c_35 => ?_) (fun c_35 => ?_)
          · have hF := (zq_ifp hF (zq_b0.mp c_35))
            skip
            refine zq_aload_n (pc' := 86) C dX5_flip_85 rfl rfl rfl ?_
            replace hF := zq_ck_e hF; obtain ⟨e_38, hF⟩ := hF
            replace hF := zq_bd hF; obtain ⟨v_36, e_37, hF⟩ := hF
            refine zq_cV (pc' := 89) C (c_X5_saveState e_37) yv_X5_saveState wd_245 zq_K5 e_38 dX5_flip_86 rfl rfl rfl ⟨Nat.le_of_ble_eq_true rfl, Nat.le_of_ble_eq_true rfl⟩ (Nat.le_of_ble_eq_true rfl) ⟨rfl, rfl⟩ ⟨Nat.le_of_ble_eq_true rfl, Nat.le_of_ble_eq_true rfl⟩ rfl ?_
            refine zq_aload_n (pc' := 90) C dX5_flip_89 rfl rfl rfl ?_
            refine zq_iload_n (pc' := 91) C dX5_flip_90 rfl rfl rfl ?_
            refine zq_iload (pc' := 93) C dX5_flip_91 rfl rfl ?_
            replace hF := zq_ck_e hF; obtain ⟨e_41, hF⟩ := hF
            replace hF := zq_bd hF; obtain ⟨v_39, e_40, hF⟩ := hF
            refine zq_cV (pc' := 96) C (c_X5_makeFlip e_40) yv_X5_makeFlip wd_267 zq_K5 e_41 dX5_flip_93 rfl rfl rfl ⟨Nat.le_of_ble_eq_true rfl, Nat.le_of_ble_eq_true rfl⟩ (Nat.le_of_ble_eq_true rfl) ⟨rfl, rfl⟩ ⟨Nat.le_of_ble_eq_true rfl, Nat.le_of_ble_eq_true rfl⟩ rfl ?_
            have hF := Option.some.inj hF
            subst hF
            exact hE _ rfl _ _ _ _ (Nat.le_of_ble_eq_true rfl) (Nat.le_of_ble_eq_true rfl) dX5_flip_96
          · have hF := (zq_ifn hF (fun q => c_35 (zq_b0.mpr q)))
            have hF := Option.some.inj hF
            subst hF
            exact zq_throwS C 2 "the diagonal is not there, or is locked" (by decide) (by decide +kernel) dX5_flip_75 dX5_flip_78 dX5_flip_79 dX5_flip_81 dX5_flip_84 (by decide) (Nat.le_of_ble_eq_true rfl) ⟨Nat.le_of_ble_eq_true rfl, Nat.le_of_ble_eq_true rfl⟩ ⟨Nat.le_of_ble_eq_true rfl, Nat.le_of_ble_eq_true rfl⟩ (hX _ rfl)
    · have hF := (zq_ifp hF c_13)
      have hF := Option.some.inj hF
      subst hF
      exact zq_throwS C 1 "no such triangulation or diagonal" (by decide) (by decide +kernel) dX5_flip_30 dX5_flip_33 dX5_flip_34 dX5_flip_36 dX5_flip_39 (by decide) (Nat.le_of_ble_eq_true rfl) ⟨Nat.le_of_ble_eq_true rfl, Nat.le_of_ble_eq_true rfl⟩ ⟨Nat.le_of_ble_eq_true rfl, Nat.le_of_ble_eq_true rfl⟩ (hX _ rfl)
theorem c_X5_flip {h : zq_H} {t : Nat} {x1 : Int32} {x2 : Int32} {x3 : Int32} {out : ((Int32 × zq_H) ⊕ (Nat × zq_H))} (hF : f_X5_flip h t x1 x2 x3 = some out) : zq_Mx yX5_flip (Cond.code yX5_flip cX5_flip 5 (some .int) :: zq_all) rm_X5_flip [.ref t, .int x1, .int x2, .int x3] h (zq_ox out) := zq_metx (own := RX5) (by decide +kernel) rfl (Nat.le_of_ble_eq_true rfl) rfl (fun X C _ _ hE hX => v_X5_flip C hF hE hX)
theorem yv_X5_flip : zq_calV yX5_flip RX5 cX5_flip 5 (some .int) 3 := ⟨by decide +kernel, wd_270, wd_703, wd_704, wd_95⟩
def f_X5_fan (h : zq_H) (t : Nat) (x1 : Int32) (x2 : Int32) : Option ((Int32 × zq_H) ⊕ (Nat × zq_H)) := (Option.bind (f_X5_isWhich h x1) fun v_1 => (if v_1 = false then some (.inr (1, h)) else (Option.bind (zq_gr h t 5 1) fun v_4 => (Option.bind (zq_gr h v_4 3 0) fun v_6 => (Option.bind (zq_gr h v_6 0 0) fun v_8 => (zq_ck h v_8 1 fun _ => (Option.bind (f_X1_isCorner h v_8 x2) fun v_10 => (if v_10 = false then some (.inr (1, h)) else (zq_ck h t 5 fun _ => (Option.bind (f_X5_saveState h t) fun v_14 => (Option.bind (zq_gr v_14 t 5 1) fun v_17 => (Option.bind (zq_gr v_14 v_17 3 0) fun v_19 => (Option.bind (zq_gr v_14 v_19 0 0) fun v_21 => (zq_ck v_14 v_21 1 fun _ => (Option.bind (f_X1_fanOf v_14 v_21 x2) fun v_23 => (Option.bind (zq_gr v_14 t 5 1) fun v_26 => (zq_ck v_14 v_26 3 fun _ => (Option.bind (f_X3_mask v_14 v_26 x1) fun v_28 => (Option.bind (f_J6_bitCount_0f7a4 v_14 (v_28 &&& v_23)) fun v_31 => (zq_ck v_14 t 5 fun _ => (Option.bind (f_X5_putNew v_14 t x1 v_23) fun v_33 => some ((.inl (v_31, v_33))))))))))))))))))))))))
abbrev rm_X5_fan : Room := { frames := 6, cells := 1, slots := 6, locals := 98 }
theorem dX5_fan_0 : decode cX5_fan 0 = .ok (.iload_n 1, 1) := by decide +kernel
theorem dX5_fan_1 : decode cX5_fan 1 = .ok (.invokestatic 99, 3) := by decide +kernel
theorem dX5_fan_4 : decode cX5_fan 4 = .ok (.ifCond .eq 20, 3) := by decide +kernel
theorem dX5_fan_7 : decode cX5_fan 7 = .ok (.aload_n 0, 1) := by decide +kernel
theorem dX5_fan_8 : decode cX5_fan 8 = .ok (.getfield 30, 3) := by decide +kernel
theorem dX5_fan_11 : decode cX5_fan 11 = .ok (.getfield 83, 3) := by decide +kernel
theorem dX5_fan_14 : decode cX5_fan 14 = .ok (.getfield 87, 3) := by decide +kernel
theorem dX5_fan_17 : decode cX5_fan 17 = .ok (.iload_n 2, 1) := by decide +kernel
theorem dX5_fan_18 : decode cX5_fan 18 = .ok (.invokevirtual 127, 3) := by decide +kernel
theorem dX5_fan_21 : decode cX5_fan 21 = .ok (.ifCond .ne 13, 3) := by decide +kernel
theorem dX5_fan_24 : decode cX5_fan 24 = .ok (.new 103, 3) := by decide +kernel
theorem dX5_fan_27 : decode cX5_fan 27 = .ok (.dup, 1) := by decide +kernel
theorem dX5_fan_28 : decode cX5_fan 28 = .ok (.ldc 130, 2) := by decide +kernel
theorem dX5_fan_30 : decode cX5_fan 30 = .ok (.invokespecial 107, 3) := by decide +kernel
theorem dX5_fan_33 : decode cX5_fan 33 = .ok (.athrow, 1) := by decide +kernel
theorem dX5_fan_34 : decode cX5_fan 34 = .ok (.aload_n 0, 1) := by decide +kernel
theorem dX5_fan_35 : decode cX5_fan 35 = .ok (.invokevirtual 80, 3) := by decide +kernel
theorem dX5_fan_38 : decode cX5_fan 38 = .ok (.aload_n 0, 1) := by decide +kernel
theorem dX5_fan_39 : decode cX5_fan 39 = .ok (.getfield 30, 3) := by decide +kernel
theorem dX5_fan_42 : decode cX5_fan 42 = .ok (.getfield 83, 3) := by decide +kernel
theorem dX5_fan_45 : decode cX5_fan 45 = .ok (.getfield 87, 3) := by decide +kernel
theorem dX5_fan_48 : decode cX5_fan 48 = .ok (.iload_n 2, 1) := by decide +kernel
theorem dX5_fan_49 : decode cX5_fan 49 = .ok (.invokevirtual 132, 3) := by decide +kernel
theorem dX5_fan_52 : decode cX5_fan 52 = .ok (.istore_n 3, 1) := by decide +kernel
theorem dX5_fan_53 : decode cX5_fan 53 = .ok (.aload_n 0, 1) := by decide +kernel
theorem dX5_fan_54 : decode cX5_fan 54 = .ok (.getfield 30, 3) := by decide +kernel
theorem dX5_fan_57 : decode cX5_fan 57 = .ok (.iload_n 1, 1) := by decide +kernel
theorem dX5_fan_58 : decode cX5_fan 58 = .ok (.invokevirtual 108, 3) := by decide +kernel
theorem dX5_fan_61 : decode cX5_fan 61 = .ok (.iload_n 3, 1) := by decide +kernel
theorem dX5_fan_62 : decode cX5_fan 62 = .ok (.iand, 1) := by decide +kernel
theorem dX5_fan_63 : decode cX5_fan 63 = .ok (.invokestatic 135, 3) := by decide +kernel
theorem dX5_fan_66 : decode cX5_fan 66 = .ok (.istore 4, 2) := by decide +kernel
theorem dX5_fan_68 : decode cX5_fan 68 = .ok (.aload_n 0, 1) := by decide +kernel
theorem dX5_fan_69 : decode cX5_fan 69 = .ok (.iload_n 1, 1) := by decide +kernel
theorem dX5_fan_70 : decode cX5_fan 70 = .ok (.iload_n 3, 1) := by decide +kernel
theorem dX5_fan_71 : decode cX5_fan 71 = .ok (.invokevirtual 140, 3) := by decide +kernel
theorem dX5_fan_74 : decode cX5_fan 74 = .ok (.iload 4, 2) := by decide +kernel
theorem dX5_fan_76 : decode cX5_fan 76 = .ok (.ireturn, 1) := by decide +kernel
set_option maxRecDepth 100000 in
set_option maxHeartbeats 4000000 in
theorem v_X5_fan {X : zq_X} (C : zq_C X RX5 cX5_fan 5 zq_all rm_X5_fan) {h : zq_H} {t : Nat} {x1 : Int32} {x2 : Int32} {out : ((Int32 × zq_H) ⊕ (Nat × zq_H))} (hF : f_X5_fan h t x1 x2 = some out) (hE : ∀ q, out = .inl q → zq_End X cX5_fan 1 6 (some (.int q.1)) q.2) (hX : ∀ q, out = .inr q → zq_Thr X 1 6 q.1 q.2) : zq_W X 0 0 h 0 [(0, .ref t), (1, .int x1), (2, .int x2)] [] := by
  unfold f_X5_fan at hF
  refine zq_iload_n (pc' := 1) C dX5_fan_0 rfl rfl rfl ?_
  replace hF := zq_bd hF; obtain ⟨v_1, e_2, hF⟩ := hF
  refine zq_cS (pc' := 4) C (c_X5_isWhich e_2) ys_X5_isWhich wd_264 dX5_fan_1 rfl rfl rfl ⟨Nat.le_of_ble_eq_true rfl, Nat.le_of_ble_eq_true rfl⟩ (Nat.le_of_ble_eq_true rfl) ⟨rfl, rfl⟩ ⟨Nat.le_of_ble_eq_true rfl, Nat.le_of_ble_eq_true rfl⟩ rfl ?_
  refine zq_if_eq (pc' := 7) C 24 dX5_fan_4 (by decide) rfl (fun c_3 => ?_) (fun c_3 => ?_)
  · have hF := (zq_ifp hF (zq_b0.mp c_3))
    skip
    have hF := Option.some.inj hF
    subst hF
    exact zq_throwS C 1 "no such triangulation or corner" (by decide) (by decide +kernel) dX5_fan_24 dX5_fan_27 dX5_fan_28 dX5_fan_30 dX5_fan_33 (by decide) (Nat.le_of_ble_eq_true rfl) ⟨Nat.le_of_ble_eq_true rfl, Nat.le_of_ble_eq_true rfl⟩ ⟨Nat.le_of_ble_eq_true rfl, Nat.le_of_ble_eq_true rfl⟩ (hX _ rfl)
  · have hF := (zq_ifn hF (fun q => c_3 (zq_b0.mpr q)))
    refine zq_aload_n (pc' := 8) C dX5_fan_7 rfl rfl rfl ?_
    replace hF := zq_bd hF; obtain ⟨v_4, e_5, hF⟩ := hF
    refine zq_getR (j := 1) (pc' := 11) C zq_K5 zq_in5w (Or.inl wd_210) (by decide) rfl dX5_fan_8 rfl e_5 ?_
    replace hF := zq_bd hF; obtain ⟨v_6, e_7, hF⟩ := hF
    refine zq_getR (j := 0) (pc' := 14) C zq_K3 zq_in3w (Or.inr ⟨"FlipPolygons", by decide +kernel⟩) (by decide) rfl dX5_fan_11 rfl e_7 ?_
    replace hF := zq_bd hF; obtain ⟨v_8, e_9, hF⟩ := hF
    refine zq_getR (j := 0) (pc' := 17) C zq_K0 zq_in0w (Or.inr ⟨"FlipPolygons", by decide +kernel⟩) (by decide) rfl dX5_fan_14 rfl e_9 ?_
    refine zq_iload_n (pc' := 18) C dX5_fan_17 rfl rfl rfl ?_
    replace hF := zq_ck_e hF; obtain ⟨e_12, hF⟩ := hF
    replace hF := zq_bd hF; obtain ⟨v_10, e_11, hF⟩ := hF
    refine zq_cV (pc' := 21) C (c_X1_isCorner e_11) yv_X1_isCorner wd_272 zq_K1 e_12 dX5_fan_18 rfl rfl rfl ⟨Nat.le_of_ble_eq_true rfl, Nat.le_of_ble_eq_true rfl⟩ (Nat.le_of_ble_eq_true rfl) ⟨rfl, rfl⟩ ⟨Nat.le_of_ble_eq_true rfl, Nat.le_of_ble_eq_true rfl⟩ rfl ?_
    refine zq_if_ne (pc' := 24) C 34 dX5_fan_21 (by decide) rfl (fun c_13 => ?_) (fun c_13 => ?_)
    · have hF := (zq_ifn hF (fun q => c_13 (zq_b0.mpr q)))
      skip
      refine zq_aload_n (pc' := 35) C dX5_fan_34 rfl rfl rfl ?_
      replace hF := zq_ck_e hF; obtain ⟨e_16, hF⟩ := hF
      replace hF := zq_bd hF; obtain ⟨v_14, e_15, hF⟩ := hF
      refine zq_cV (pc' := 38) C (c_X5_saveState e_15) yv_X5_saveState wd_245 zq_K5 e_16 dX5_fan_35 rfl rfl rfl ⟨Nat.le_of_ble_eq_true rfl, Nat.le_of_ble_eq_true rfl⟩ (Nat.le_of_ble_eq_true rfl) ⟨rfl, rfl⟩ ⟨Nat.le_of_ble_eq_true rfl, Nat.le_of_ble_eq_true rfl⟩ rfl ?_
      refine zq_aload_n (pc' := 39) C dX5_fan_38 rfl rfl rfl ?_
      replace hF := zq_bd hF; obtain ⟨v_17, e_18, hF⟩ := hF
      refine zq_getR (j := 1) (pc' := 42) C zq_K5 zq_in5w (Or.inl wd_210) (by decide) rfl dX5_fan_39 rfl e_18 ?_
      replace hF := zq_bd hF; obtain ⟨v_19, e_20, hF⟩ := hF
      refine zq_getR (j := 0) (pc' := 45) C zq_K3 zq_in3w (Or.inr ⟨"FlipPolygons", by decide +kernel⟩) (by decide) rfl dX5_fan_42 rfl e_20 ?_
      replace hF := zq_bd hF; obtain ⟨v_21, e_22, hF⟩ := hF
      refine zq_getR (j := 0) (pc' := 48) C zq_K0 zq_in0w (Or.inr ⟨"FlipPolygons", by decide +kernel⟩) (by decide) rfl dX5_fan_45 rfl e_22 ?_
      refine zq_iload_n (pc' := 49) C dX5_fan_48 rfl rfl rfl ?_
      replace hF := zq_ck_e hF; obtain ⟨e_25, hF⟩ := hF
      replace hF := zq_bd hF; obtain ⟨v_23, e_24, hF⟩ := hF
      refine zq_cV (pc' := 52) C (c_X1_fanOf e_24) yv_X1_fanOf wd_273 zq_K1 e_25 dX5_fan_49 rfl rfl rfl ⟨Nat.le_of_ble_eq_true rfl, Nat.le_of_ble_eq_true rfl⟩ (Nat.le_of_ble_eq_true rfl) ⟨rfl, rfl⟩ ⟨Nat.le_of_ble_eq_true rfl, Nat.le_of_ble_eq_true rfl⟩ rfl ?_
      refine zq_istore_n (lv' := [(3, .int v_23), (0, .ref t), (1, .int x1), (2, .int x2)]) (pc' := 53) C dX5_fan_52 rfl rfl (by decide) rfl rfl ?_
      refine zq_aload_n (pc' := 54) C dX5_fan_53 rfl rfl rfl ?_
      replace hF := zq_bd hF; obtain ⟨v_26, e_27, hF⟩ := hF
      refine zq_getR (j := 1) (pc' := 57) C zq_K5 zq_in5w (Or.inl wd_210) (by decide) rfl dX5_fan_54 rfl e_27 ?_
      refine zq_iload_n (pc' := 58) C dX5_fan_57 rfl rfl rfl ?_
      replace hF := zq_ck_e hF; obtain ⟨e_30, hF⟩ := hF
      replace hF := zq_bd hF; obtain ⟨v_28, e_29, hF⟩ := hF
      refine zq_cV (pc' := 61) C (c_X3_mask e_29) yv_X3_mask wd_251 zq_K3 e_30 dX5_fan_58 rfl rfl rfl ⟨Nat.le_of_ble_eq_true rfl, Nat.le_of_ble_eq_true rfl⟩ (Nat.le_of_ble_eq_true rfl) ⟨rfl, rfl⟩ ⟨Nat.le_of_ble_eq_true rfl, Nat.le_of_ble_eq_true rfl⟩ rfl ?_
      refine zq_iload_n (pc' := 62) C dX5_fan_61 rfl rfl rfl ?_
      refine zq_iand (pc' := 63) C dX5_fan_62 rfl ?_
      replace hF := zq_bd hF; obtain ⟨v_31, e_32, hF⟩ := hF
      refine zq_cS (pc' := 66) C (c_J6_bitCount_0f7a4 e_32) ys_J6_bitCount_0f7a4 wd_274 dX5_fan_63 rfl rfl rfl ⟨Nat.le_of_ble_eq_true rfl, Nat.le_of_ble_eq_true rfl⟩ (Nat.le_of_ble_eq_true rfl) ⟨rfl, rfl⟩ ⟨Nat.le_of_ble_eq_true rfl, Nat.le_of_ble_eq_true rfl⟩ rfl ?_
      refine zq_istore (lv' := [(4, .int v_31), (3, .int v_23), (0, .ref t), (1, .int x1), (2, .int x2)]) (pc' := 68) C dX5_fan_66 rfl (by decide) rfl rfl ?_
      refine zq_aload_n (pc' := 69) C dX5_fan_68 rfl rfl rfl ?_
      refine zq_iload_n (pc' := 70) C dX5_fan_69 rfl rfl rfl ?_
      refine zq_iload_n (pc' := 71) C dX5_fan_70 rfl rfl rfl ?_
      replace hF := zq_ck_e hF; obtain ⟨e_35, hF⟩ := hF
      replace hF := zq_bd hF; obtain ⟨v_33, e_34, hF⟩ := hF
      refine zq_cV (pc' := 74) C (c_X5_putNew e_34) yv_X5_putNew wd_275 zq_K5 e_35 dX5_fan_71 rfl rfl rfl ⟨Nat.le_of_ble_eq_true rfl, Nat.le_of_ble_eq_true rfl⟩ (Nat.le_of_ble_eq_true rfl) ⟨rfl, rfl⟩ ⟨Nat.le_of_ble_eq_true rfl, Nat.le_of_ble_eq_true rfl⟩ rfl ?_
      refine zq_iload (pc' := 76) C dX5_fan_74 rfl rfl ?_
      have hF := Option.some.inj hF
      subst hF
      exact hE _ rfl _ _ _ _ (Nat.le_of_ble_eq_true rfl) (Nat.le_of_ble_eq_true rfl) dX5_fan_76
    · have hF := (zq_ifp hF (zq_b0.mp c_13))
      have hF := Option.some.inj hF
      subst hF
      exact zq_throwS C 1 "no such triangulation or corner" (by decide) (by decide +kernel) dX5_fan_24 dX5_fan_27 dX5_fan_28 dX5_fan_30 dX5_fan_33 (by decide) (Nat.le_of_ble_eq_true rfl) ⟨Nat.le_of_ble_eq_true rfl, Nat.le_of_ble_eq_true rfl⟩ ⟨Nat.le_of_ble_eq_true rfl, Nat.le_of_ble_eq_true rfl⟩ (hX _ rfl)
theorem c_X5_fan {h : zq_H} {t : Nat} {x1 : Int32} {x2 : Int32} {out : ((Int32 × zq_H) ⊕ (Nat × zq_H))} (hF : f_X5_fan h t x1 x2 = some out) : zq_Mx yX5_fan (Cond.code yX5_fan cX5_fan 5 (some .int) :: zq_all) rm_X5_fan [.ref t, .int x1, .int x2] h (zq_ox out) := zq_metx (own := RX5) (by decide +kernel) rfl (Nat.le_of_ble_eq_true rfl) rfl (fun X C _ _ hE hX => v_X5_fan C hF hE hX)
theorem yv_X5_fan : zq_calV yX5_fan RX5 cX5_fan 5 (some .int) 2 := ⟨by decide +kernel, wd_278, wd_707, wd_708, wd_95⟩
def f_X5_turn (h : zq_H) (t : Nat) (x1 : Int32) (x2 : Int32) : Option ((Int32 × zq_H) ⊕ (Nat × zq_H)) := (Option.bind (f_X5_isWhich h x1) fun v_1 => (if v_1 = false then some (.inr (1, h)) else (if x2 < 0 then some (.inr (0, h)) else (if x2 ≤ 8 then (zq_ck h t 5 fun _ => (Option.bind (f_X5_saveState h t) fun v_6 => (Option.bind (zq_gr v_6 t 5 1) fun v_9 => (Option.bind (zq_gr v_6 v_9 3 0) fun v_11 => (Option.bind (zq_gr v_6 v_11 0 0) fun v_13 => (Option.bind (zq_gr v_6 t 5 1) fun v_15 => (Option.bind (zq_gr v_6 t 5 1) fun v_17 => (zq_ck v_6 v_17 3 fun _ => (Option.bind (f_X3_mask v_6 v_17 x1) fun v_19 => (zq_ck v_6 v_13 1 fun _ => (Option.bind (f_X1_turnedBy v_6 v_13 v_19 x2) fun v_22 => (zq_ck v_6 v_15 3 fun _ => (Option.bind (f_X3_put v_6 v_15 x1 v_22) fun v_25 => (if x1 = 0 then (Option.bind (zq_gr v_25 t 5 1) fun v_34 => (Option.bind (zq_gr v_25 t 5 1) fun v_36 => (Option.bind (zq_gi v_25 v_36 3 3) fun v_38 => (zq_ck v_25 v_13 1 fun _ => (Option.bind (f_X1_turnedBy v_25 v_13 v_38 x2) fun v_40 => (Option.bind (zq_pi v_25 v_34 3 3 v_40) fun h_43 => (Option.bind (zq_gr h_43 t 5 1) fun v_45 => (zq_ck h_43 v_45 3 fun _ => (Option.bind (f_X3_mask h_43 v_45 x1) fun v_47 => some ((.inl (v_47, h_43)))))))))))) else (Option.bind (zq_gr v_25 t 5 1) fun v_29 => (zq_ck v_25 v_29 3 fun _ => (Option.bind (f_X3_mask v_25 v_29 x1) fun v_31 => some ((.inl (v_31, v_25)))))))))))))))))))) else some (.inr (0, h))))))
abbrev rm_X5_turn : Room := { frames := 6, cells := 1, slots := 6, locals := 98 }
theorem dX5_turn_0 : decode cX5_turn 0 = .ok (.iload_n 1, 1) := by decide +kernel
theorem dX5_turn_1 : decode cX5_turn 1 = .ok (.invokestatic 99, 3) := by decide +kernel
theorem dX5_turn_4 : decode cX5_turn 4 = .ok (.ifCond .ne 13, 3) := by decide +kernel
theorem dX5_turn_7 : decode cX5_turn 7 = .ok (.new 103, 3) := by decide +kernel
theorem dX5_turn_10 : decode cX5_turn 10 = .ok (.dup, 1) := by decide +kernel
theorem dX5_turn_11 : decode cX5_turn 11 = .ok (.ldc 144, 2) := by decide +kernel
theorem dX5_turn_13 : decode cX5_turn 13 = .ok (.invokespecial 107, 3) := by decide +kernel
theorem dX5_turn_16 : decode cX5_turn 16 = .ok (.athrow, 1) := by decide +kernel
theorem dX5_turn_17 : decode cX5_turn 17 = .ok (.iload_n 2, 1) := by decide +kernel
theorem dX5_turn_18 : decode cX5_turn 18 = .ok (.ifCond .lt 9, 3) := by decide +kernel
theorem dX5_turn_21 : decode cX5_turn 21 = .ok (.iload_n 2, 1) := by decide +kernel
theorem dX5_turn_22 : decode cX5_turn 22 = .ok (.bipush 8, 2) := by decide +kernel
theorem dX5_turn_24 : decode cX5_turn 24 = .ok (.if_icmp .le 13, 3) := by decide +kernel
theorem dX5_turn_27 : decode cX5_turn 27 = .ok (.new 73, 3) := by decide +kernel
theorem dX5_turn_30 : decode cX5_turn 30 = .ok (.dup, 1) := by decide +kernel
theorem dX5_turn_31 : decode cX5_turn 31 = .ok (.ldc 146, 2) := by decide +kernel
theorem dX5_turn_33 : decode cX5_turn 33 = .ok (.invokespecial 77, 3) := by decide +kernel
theorem dX5_turn_36 : decode cX5_turn 36 = .ok (.athrow, 1) := by decide +kernel
theorem dX5_turn_37 : decode cX5_turn 37 = .ok (.aload_n 0, 1) := by decide +kernel
theorem dX5_turn_38 : decode cX5_turn 38 = .ok (.invokevirtual 80, 3) := by decide +kernel
theorem dX5_turn_41 : decode cX5_turn 41 = .ok (.aload_n 0, 1) := by decide +kernel
theorem dX5_turn_42 : decode cX5_turn 42 = .ok (.getfield 30, 3) := by decide +kernel
theorem dX5_turn_45 : decode cX5_turn 45 = .ok (.getfield 83, 3) := by decide +kernel
theorem dX5_turn_48 : decode cX5_turn 48 = .ok (.getfield 87, 3) := by decide +kernel
theorem dX5_turn_51 : decode cX5_turn 51 = .ok (.astore_n 3, 1) := by decide +kernel
theorem dX5_turn_52 : decode cX5_turn 52 = .ok (.aload_n 0, 1) := by decide +kernel
theorem dX5_turn_53 : decode cX5_turn 53 = .ok (.getfield 30, 3) := by decide +kernel
theorem dX5_turn_56 : decode cX5_turn 56 = .ok (.iload_n 1, 1) := by decide +kernel
theorem dX5_turn_57 : decode cX5_turn 57 = .ok (.aload_n 3, 1) := by decide +kernel
theorem dX5_turn_58 : decode cX5_turn 58 = .ok (.aload_n 0, 1) := by decide +kernel
theorem dX5_turn_59 : decode cX5_turn 59 = .ok (.getfield 30, 3) := by decide +kernel
theorem dX5_turn_62 : decode cX5_turn 62 = .ok (.iload_n 1, 1) := by decide +kernel
theorem dX5_turn_63 : decode cX5_turn 63 = .ok (.invokevirtual 108, 3) := by decide +kernel
theorem dX5_turn_66 : decode cX5_turn 66 = .ok (.iload_n 2, 1) := by decide +kernel
theorem dX5_turn_67 : decode cX5_turn 67 = .ok (.invokevirtual 148, 3) := by decide +kernel
theorem dX5_turn_70 : decode cX5_turn 70 = .ok (.invokevirtual 151, 3) := by decide +kernel
theorem dX5_turn_73 : decode cX5_turn 73 = .ok (.iload_n 1, 1) := by decide +kernel
theorem dX5_turn_74 : decode cX5_turn 74 = .ok (.ifCond .ne 22, 3) := by decide +kernel
theorem dX5_turn_77 : decode cX5_turn 77 = .ok (.aload_n 0, 1) := by decide +kernel
theorem dX5_turn_78 : decode cX5_turn 78 = .ok (.getfield 30, 3) := by decide +kernel
theorem dX5_turn_81 : decode cX5_turn 81 = .ok (.aload_n 3, 1) := by decide +kernel
theorem dX5_turn_82 : decode cX5_turn 82 = .ok (.aload_n 0, 1) := by decide +kernel
theorem dX5_turn_83 : decode cX5_turn 83 = .ok (.getfield 30, 3) := by decide +kernel
theorem dX5_turn_86 : decode cX5_turn 86 = .ok (.getfield 116, 3) := by decide +kernel
theorem dX5_turn_89 : decode cX5_turn 89 = .ok (.iload_n 2, 1) := by decide +kernel
theorem dX5_turn_90 : decode cX5_turn 90 = .ok (.invokevirtual 148, 3) := by decide +kernel
theorem dX5_turn_93 : decode cX5_turn 93 = .ok (.putfield 116, 3) := by decide +kernel
theorem dX5_turn_96 : decode cX5_turn 96 = .ok (.aload_n 0, 1) := by decide +kernel
theorem dX5_turn_97 : decode cX5_turn 97 = .ok (.getfield 30, 3) := by decide +kernel
theorem dX5_turn_100 : decode cX5_turn 100 = .ok (.iload_n 1, 1) := by decide +kernel
theorem dX5_turn_101 : decode cX5_turn 101 = .ok (.invokevirtual 108, 3) := by decide +kernel
theorem dX5_turn_104 : decode cX5_turn 104 = .ok (.ireturn, 1) := by decide +kernel
set_option maxRecDepth 100000 in
set_option maxHeartbeats 4000000 in
theorem v_X5_turn {X : zq_X} (C : zq_C X RX5 cX5_turn 4 zq_all rm_X5_turn) {h : zq_H} {t : Nat} {x1 : Int32} {x2 : Int32} {out : ((Int32 × zq_H) ⊕ (Nat × zq_H))} (hF : f_X5_turn h t x1 x2 = some out) (hE : ∀ q, out = .inl q → zq_End X cX5_turn 1 6 (some (.int q.1)) q.2) (hX : ∀ q, out = .inr q → zq_Thr X 1 6 q.1 q.2) : zq_W X 0 0 h 0 [(0, .ref t), (1, .int x1), (2, .int x2)] [] := by
  unfold f_X5_turn at hF
  refine zq_iload_n (pc' := 1) C dX5_turn_0 rfl rfl rfl ?_
  replace hF := zq_bd hF; obtain ⟨v_1, e_2, hF⟩ := hF
  refine zq_cS (pc' := 4) C (c_X5_isWhich e_2) ys_X5_isWhich wd_264 dX5_turn_1 rfl rfl rfl ⟨Nat.le_of_ble_eq_true rfl, Nat.le_of_ble_eq_true rfl⟩ (Nat.le_of_ble_eq_true rfl) ⟨rfl, rfl⟩ ⟨Nat.le_of_ble_eq_true rfl, Nat.le_of_ble_eq_true rfl⟩ rfl ?_
  refine zq_if_ne (pc' := 7) C 17 dX5_turn_4 (by decide) rfl (fun c_3 => ?_) (fun c_3 => ?_)
  · have hF := (zq_ifn hF (fun q => c_3 (zq_b0.mpr q)))
    skip
    refine zq_iload_n (pc' := 18) C dX5_turn_17 rfl rfl rfl ?_
    refine zq_if_lt (pc' := 21) C 27 dX5_turn_18 (by decide) rfl (fun c_4 => ?_) (fun c_4 => ?_)
    · have hF := (zq_ifp hF c_4)
      skip
      have hF := Option.some.inj hF
      subst hF
      exact zq_throwS C 0 "k is out of range" (by decide) (by decide +kernel) dX5_turn_27 dX5_turn_30 dX5_turn_31 dX5_turn_33 dX5_turn_36 (by decide) (Nat.le_of_ble_eq_true rfl) ⟨Nat.le_of_ble_eq_true rfl, Nat.le_of_ble_eq_true rfl⟩ ⟨Nat.le_of_ble_eq_true rfl, Nat.le_of_ble_eq_true rfl⟩ (hX _ rfl)
    · have hF := (zq_ifn hF c_4)
      refine zq_iload_n (pc' := 22) C dX5_turn_21 rfl rfl rfl ?_
      refine zq_bipush (pc' := 24) C 8 dX5_turn_22 rfl (by decide) ?_
      refine zq_icmp_le (pc' := 27) C 37 dX5_turn_24 (by decide) rfl (fun c_5 => ?_) (fun c_5 => ?_)
      · have hF := (zq_ifp hF c_5)
        skip
        refine zq_aload_n (pc' := 38) C dX5_turn_37 rfl rfl rfl ?_
        replace hF := zq_ck_e hF; obtain ⟨e_8, hF⟩ := hF
        replace hF := zq_bd hF; obtain ⟨v_6, e_7, hF⟩ := hF
        refine zq_cV (pc' := 41) C (c_X5_saveState e_7) yv_X5_saveState wd_245 zq_K5 e_8 dX5_turn_38 rfl rfl rfl ⟨Nat.le_of_ble_eq_true rfl, Nat.le_of_ble_eq_true rfl⟩ (Nat.le_of_ble_eq_true rfl) ⟨rfl, rfl⟩ ⟨Nat.le_of_ble_eq_true rfl, Nat.le_of_ble_eq_true rfl⟩ rfl ?_
        refine zq_aload_n (pc' := 42) C dX5_turn_41 rfl rfl rfl ?_
        replace hF := zq_bd hF; obtain ⟨v_9, e_10, hF⟩ := hF
        refine zq_getR (j := 1) (pc' := 45) C zq_K5 zq_in5w (Or.inl wd_210) (by decide) rfl dX5_turn_42 rfl e_10 ?_
        replace hF := zq_bd hF; obtain ⟨v_11, e_12, hF⟩ := hF
        refine zq_getR (j := 0) (pc' := 48) C zq_K3 zq_in3w (Or.inr ⟨"FlipPolygons", by decide +kernel⟩) (by decide) rfl dX5_turn_45 rfl e_12 ?_
        replace hF := zq_bd hF; obtain ⟨v_13, e_14, hF⟩ := hF
        refine zq_getR (j := 0) (pc' := 51) C zq_K0 zq_in0w (Or.inr ⟨"FlipPolygons", by decide +kernel⟩) (by decide) rfl dX5_turn_48 rfl e_14 ?_
        refine zq_astore_n (lv' := [(3, .ref v_13), (0, .ref t), (1, .int x1), (2, .int x2)]) (pc' := 52) C dX5_turn_51 rfl rfl (by decide) rfl rfl ?_
        refine zq_aload_n (pc' := 53) C dX5_turn_52 rfl rfl rfl ?_
        replace hF := zq_bd hF; obtain ⟨v_15, e_16, hF⟩ := hF
        refine zq_getR (j := 1) (pc' := 56) C zq_K5 zq_in5w (Or.inl wd_210) (by decide) rfl dX5_turn_53 rfl e_16 ?_
        refine zq_iload_n (pc' := 57) C dX5_turn_56 rfl rfl rfl ?_
        refine zq_aload_n (pc' := 58) C dX5_turn_57 rfl rfl rfl ?_
        refine zq_aload_n (pc' := 59) C dX5_turn_58 rfl rfl rfl ?_
        replace hF := zq_bd hF; obtain ⟨v_17, e_18, hF⟩ := hF
        refine zq_getR (j := 1) (pc' := 62) C zq_K5 zq_in5w (Or.inl wd_210) (by decide) rfl dX5_turn_59 rfl e_18 ?_
        refine zq_iload_n (pc' := 63) C dX5_turn_62 rfl rfl rfl ?_
        replace hF := zq_ck_e hF; obtain ⟨e_21, hF⟩ := hF
        replace hF := zq_bd hF; obtain ⟨v_19, e_20, hF⟩ := hF
        refine zq_cV (pc' := 66) C (c_X3_mask e_20) yv_X3_mask wd_251 zq_K3 e_21 dX5_turn_63 rfl rfl rfl ⟨Nat.le_of_ble_eq_true rfl, Nat.le_of_ble_eq_true rfl⟩ (Nat.le_of_ble_eq_true rfl) ⟨rfl, rfl⟩ ⟨Nat.le_of_ble_eq_true rfl, Nat.le_of_ble_eq_true rfl⟩ rfl ?_
        refine zq_iload_n (pc' := 67) C dX5_turn_66 rfl rfl rfl ?_
        replace hF := zq_ck_e hF; obtain ⟨e_24, hF⟩ := hF
        replace hF := zq_bd hF; obtain ⟨v_22, e_23, hF⟩ := hF
        refine zq_cV (pc' := 70) C (c_X1_turnedBy e_23) yv_X1_turnedBy wd_279 zq_K1 e_24 dX5_turn_67 rfl rfl rfl ⟨Nat.le_of_ble_eq_true rfl, Nat.le_of_ble_eq_true rfl⟩ (Nat.le_of_ble_eq_true rfl) ⟨rfl, rfl⟩ ⟨Nat.le_of_ble_eq_true rfl, Nat.le_of_ble_eq_true rfl⟩ rfl ?_
        replace hF := zq_ck_e hF; obtain ⟨e_27, hF⟩ := hF
        replace hF := zq_bd hF; obtain ⟨v_25, e_26, hF⟩ := hF
        refine zq_cV (pc' := 73) C (c_X3_put e_26) yv_X3_put wd_256 zq_K3 e_27 dX5_turn_70 rfl rfl rfl ⟨Nat.le_of_ble_eq_true rfl, Nat.le_of_ble_eq_true rfl⟩ (Nat.le_of_ble_eq_true rfl) ⟨rfl, rfl⟩ ⟨Nat.le_of_ble_eq_true rfl, Nat.le_of_ble_eq_true rfl⟩ rfl ?_
        refine zq_iload_n (pc' := 74) C dX5_turn_73 rfl rfl rfl ?_
        refine zq_if_ne (pc' := 77) C 96 dX5_turn_74 (by decide) rfl (fun c_28 => ?_) (fun c_28 => ?_)
        · have hF := (zq_ifn hF c_28)
          skip
          refine zq_aload_n (pc' := 97) C dX5_turn_96 rfl rfl rfl ?_
          replace hF := zq_bd hF; obtain ⟨v_29, e_30, hF⟩ := hF
          refine zq_getR (j := 1) (pc' := 100) C zq_K5 zq_in5w (Or.inl wd_210) (by decide) rfl dX5_turn_97 rfl e_30 ?_
          refine zq_iload_n (pc' := 101) C dX5_turn_100 rfl rfl rfl ?_
          replace hF := zq_ck_e hF; obtain ⟨e_33, hF⟩ := hF
          replace hF := zq_bd hF; obtain ⟨v_31, e_32, hF⟩ := hF
          refine zq_cV (pc' := 104) C (c_X3_mask e_32) yv_X3_mask wd_251 zq_K3 e_33 dX5_turn_101 rfl rfl rfl ⟨Nat.le_of_ble_eq_true rfl, Nat.le_of_ble_eq_true rfl⟩ (Nat.le_of_ble_eq_true rfl) ⟨rfl, rfl⟩ ⟨Nat.le_of_ble_eq_true rfl, Nat.le_of_ble_eq_true rfl⟩ rfl ?_
          have hF := Option.some.inj hF
          subst hF
          exact hE _ rfl _ _ _ _ (Nat.le_of_ble_eq_true rfl) (Nat.le_of_ble_eq_true rfl) dX5_turn_104
        · have hF := (zq_ifp hF c_28)
          refine zq_aload_n (pc' := 78) C dX5_turn_77 rfl rfl rfl ?_
          replace hF := zq_bd hF; obtain ⟨v_34, e_35, hF⟩ := hF
          refine zq_getR (j := 1) (pc' := 81) C zq_K5 zq_in5w (Or.inl wd_210) (by decide) rfl dX5_turn_78 rfl e_35 ?_
          refine zq_aload_n (pc' := 82) C dX5_turn_81 rfl rfl rfl ?_
          refine zq_aload_n (pc' := 83) C dX5_turn_82 rfl rfl rfl ?_
          replace hF := zq_bd hF; obtain ⟨v_36, e_37, hF⟩ := hF
          refine zq_getR (j := 1) (pc' := 86) C zq_K5 zq_in5w (Or.inl wd_210) (by decide) rfl dX5_turn_83 rfl e_37 ?_
          replace hF := zq_bd hF; obtain ⟨v_38, e_39, hF⟩ := hF
          refine zq_getI (j := 3) (pc' := 89) C zq_K3 zq_in3w (Or.inr ⟨"FlipPolygons", by decide +kernel⟩) (by decide) rfl dX5_turn_86 rfl e_39 ?_
          refine zq_iload_n (pc' := 90) C dX5_turn_89 rfl rfl rfl ?_
          replace hF := zq_ck_e hF; obtain ⟨e_42, hF⟩ := hF
          replace hF := zq_bd hF; obtain ⟨v_40, e_41, hF⟩ := hF
          refine zq_cV (pc' := 93) C (c_X1_turnedBy e_41) yv_X1_turnedBy wd_279 zq_K1 e_42 dX5_turn_90 rfl rfl rfl ⟨Nat.le_of_ble_eq_true rfl, Nat.le_of_ble_eq_true rfl⟩ (Nat.le_of_ble_eq_true rfl) ⟨rfl, rfl⟩ ⟨Nat.le_of_ble_eq_true rfl, Nat.le_of_ble_eq_true rfl⟩ rfl ?_
          replace hF := zq_bd hF; obtain ⟨h_43, e_44, hF⟩ := hF
          refine zq_putI (j := 3) (pc' := 96) C zq_K3 zq_in3w (Or.inr ⟨"FlipPolygons", by decide +kernel⟩) (by decide) rfl rfl dX5_turn_93 rfl (Or.inl rfl) e_44 ?_
          refine zq_aload_n (pc' := 97) C dX5_turn_96 rfl rfl rfl ?_
          replace hF := zq_bd hF; obtain ⟨v_45, e_46, hF⟩ := hF
          refine zq_getR (j := 1) (pc' := 100) C zq_K5 zq_in5w (Or.inl wd_210) (by decide) rfl dX5_turn_97 rfl e_46 ?_
          refine zq_iload_n (pc' := 101) C dX5_turn_100 rfl rfl rfl ?_
          replace hF := zq_ck_e hF; obtain ⟨e_49, hF⟩ := hF
          replace hF := zq_bd hF; obtain ⟨v_47, e_48, hF⟩ := hF
          refine zq_cV (pc' := 104) C (c_X3_mask e_48) yv_X3_mask wd_251 zq_K3 e_49 dX5_turn_101 rfl rfl rfl ⟨Nat.le_of_ble_eq_true rfl, Nat.le_of_ble_eq_true rfl⟩ (Nat.le_of_ble_eq_true rfl) ⟨rfl, rfl⟩ ⟨Nat.le_of_ble_eq_true rfl, Nat.le_of_ble_eq_true rfl⟩ rfl ?_
          have hF := Option.some.inj hF
          subst hF
          exact hE _ rfl _ _ _ _ (Nat.le_of_ble_eq_true rfl) (Nat.le_of_ble_eq_true rfl) dX5_turn_104
      · have hF := (zq_ifn hF c_5)
        have hF := Option.some.inj hF
        subst hF
        exact zq_throwS C 0 "k is out of range" (by decide) (by decide +kernel) dX5_turn_27 dX5_turn_30 dX5_turn_31 dX5_turn_33 dX5_turn_36 (by decide) (Nat.le_of_ble_eq_true rfl) ⟨Nat.le_of_ble_eq_true rfl, Nat.le_of_ble_eq_true rfl⟩ ⟨Nat.le_of_ble_eq_true rfl, Nat.le_of_ble_eq_true rfl⟩ (hX _ rfl)
  · have hF := (zq_ifp hF (zq_b0.mp c_3))
    have hF := Option.some.inj hF
    subst hF
    exact zq_throwS C 1 "no such triangulation" (by decide) (by decide +kernel) dX5_turn_7 dX5_turn_10 dX5_turn_11 dX5_turn_13 dX5_turn_16 (by decide) (Nat.le_of_ble_eq_true rfl) ⟨Nat.le_of_ble_eq_true rfl, Nat.le_of_ble_eq_true rfl⟩ ⟨Nat.le_of_ble_eq_true rfl, Nat.le_of_ble_eq_true rfl⟩ (hX _ rfl)
theorem c_X5_turn {h : zq_H} {t : Nat} {x1 : Int32} {x2 : Int32} {out : ((Int32 × zq_H) ⊕ (Nat × zq_H))} (hF : f_X5_turn h t x1 x2 = some out) : zq_Mx yX5_turn (Cond.code yX5_turn cX5_turn 4 (some .int) :: zq_all) rm_X5_turn [.ref t, .int x1, .int x2] h (zq_ox out) := zq_metx (own := RX5) (by decide +kernel) rfl (Nat.le_of_ble_eq_true rfl) rfl (fun X C _ _ hE hX => v_X5_turn C hF hE hX)
theorem yv_X5_turn : zq_calV yX5_turn RX5 cX5_turn 4 (some .int) 2 := ⟨by decide +kernel, wd_282, wd_711, wd_712, wd_95⟩
def f_X5_mirror (h : zq_H) (t : Nat) (x1 : Int32) : Option ((Int32 × zq_H) ⊕ (Nat × zq_H)) := (Option.bind (f_X5_isWhich h x1) fun v_1 => (if v_1 = false then some (.inr (1, h)) else (zq_ck h t 5 fun _ => (Option.bind (f_X5_saveState h t) fun v_4 => (Option.bind (zq_gr v_4 t 5 1) fun v_7 => (Option.bind (zq_gr v_4 v_7 3 0) fun v_9 => (Option.bind (zq_gr v_4 v_9 0 0) fun v_11 => (Option.bind (zq_gr v_4 t 5 1) fun v_13 => (Option.bind (zq_gr v_4 t 5 1) fun v_15 => (zq_ck v_4 v_15 3 fun _ => (Option.bind (f_X3_mask v_4 v_15 x1) fun v_17 => (zq_ck v_4 v_11 1 fun _ => (Option.bind (f_X1_mirrored v_4 v_11 v_17) fun v_20 => (zq_ck v_4 v_13 3 fun _ => (Option.bind (f_X3_put v_4 v_13 x1 v_20) fun v_23 => (if x1 = 0 then (Option.bind (zq_gr v_23 t 5 1) fun v_32 => (Option.bind (zq_gr v_23 t 5 1) fun v_34 => (Option.bind (zq_gi v_23 v_34 3 3) fun v_36 => (zq_ck v_23 v_11 1 fun _ => (Option.bind (f_X1_mirrored v_23 v_11 v_36) fun v_38 => (Option.bind (zq_pi v_23 v_32 3 3 v_38) fun h_41 => (Option.bind (zq_gr h_41 t 5 1) fun v_43 => (zq_ck h_41 v_43 3 fun _ => (Option.bind (f_X3_mask h_41 v_43 x1) fun v_45 => some ((.inl (v_45, h_41)))))))))))) else (Option.bind (zq_gr v_23 t 5 1) fun v_27 => (zq_ck v_23 v_27 3 fun _ => (Option.bind (f_X3_mask v_23 v_27 x1) fun v_29 => some ((.inl (v_29, v_23))))))))))))))))))))))
abbrev rm_X5_mirror : Room := { frames := 6, cells := 1, slots := 6, locals := 98 }
theorem dX5_mirror_0 : decode cX5_mirror 0 = .ok (.iload_n 1, 1) := by decide +kernel
theorem dX5_mirror_1 : decode cX5_mirror 1 = .ok (.invokestatic 99, 3) := by decide +kernel
theorem dX5_mirror_4 : decode cX5_mirror 4 = .ok (.ifCond .ne 13, 3) := by decide +kernel
theorem dX5_mirror_7 : decode cX5_mirror 7 = .ok (.new 103, 3) := by decide +kernel
theorem dX5_mirror_10 : decode cX5_mirror 10 = .ok (.dup, 1) := by decide +kernel
theorem dX5_mirror_11 : decode cX5_mirror 11 = .ok (.ldc 144, 2) := by decide +kernel
theorem dX5_mirror_13 : decode cX5_mirror 13 = .ok (.invokespecial 107, 3) := by decide +kernel
theorem dX5_mirror_16 : decode cX5_mirror 16 = .ok (.athrow, 1) := by decide +kernel
theorem dX5_mirror_17 : decode cX5_mirror 17 = .ok (.aload_n 0, 1) := by decide +kernel
theorem dX5_mirror_18 : decode cX5_mirror 18 = .ok (.invokevirtual 80, 3) := by decide +kernel
theorem dX5_mirror_21 : decode cX5_mirror 21 = .ok (.aload_n 0, 1) := by decide +kernel
theorem dX5_mirror_22 : decode cX5_mirror 22 = .ok (.getfield 30, 3) := by decide +kernel
theorem dX5_mirror_25 : decode cX5_mirror 25 = .ok (.getfield 83, 3) := by decide +kernel
theorem dX5_mirror_28 : decode cX5_mirror 28 = .ok (.getfield 87, 3) := by decide +kernel
theorem dX5_mirror_31 : decode cX5_mirror 31 = .ok (.astore_n 2, 1) := by decide +kernel
theorem dX5_mirror_32 : decode cX5_mirror 32 = .ok (.aload_n 0, 1) := by decide +kernel
theorem dX5_mirror_33 : decode cX5_mirror 33 = .ok (.getfield 30, 3) := by decide +kernel
theorem dX5_mirror_36 : decode cX5_mirror 36 = .ok (.iload_n 1, 1) := by decide +kernel
theorem dX5_mirror_37 : decode cX5_mirror 37 = .ok (.aload_n 2, 1) := by decide +kernel
theorem dX5_mirror_38 : decode cX5_mirror 38 = .ok (.aload_n 0, 1) := by decide +kernel
theorem dX5_mirror_39 : decode cX5_mirror 39 = .ok (.getfield 30, 3) := by decide +kernel
theorem dX5_mirror_42 : decode cX5_mirror 42 = .ok (.iload_n 1, 1) := by decide +kernel
theorem dX5_mirror_43 : decode cX5_mirror 43 = .ok (.invokevirtual 108, 3) := by decide +kernel
theorem dX5_mirror_46 : decode cX5_mirror 46 = .ok (.invokevirtual 154, 3) := by decide +kernel
theorem dX5_mirror_49 : decode cX5_mirror 49 = .ok (.invokevirtual 151, 3) := by decide +kernel
theorem dX5_mirror_52 : decode cX5_mirror 52 = .ok (.iload_n 1, 1) := by decide +kernel
theorem dX5_mirror_53 : decode cX5_mirror 53 = .ok (.ifCond .ne 21, 3) := by decide +kernel
theorem dX5_mirror_56 : decode cX5_mirror 56 = .ok (.aload_n 0, 1) := by decide +kernel
theorem dX5_mirror_57 : decode cX5_mirror 57 = .ok (.getfield 30, 3) := by decide +kernel
theorem dX5_mirror_60 : decode cX5_mirror 60 = .ok (.aload_n 2, 1) := by decide +kernel
theorem dX5_mirror_61 : decode cX5_mirror 61 = .ok (.aload_n 0, 1) := by decide +kernel
theorem dX5_mirror_62 : decode cX5_mirror 62 = .ok (.getfield 30, 3) := by decide +kernel
theorem dX5_mirror_65 : decode cX5_mirror 65 = .ok (.getfield 116, 3) := by decide +kernel
theorem dX5_mirror_68 : decode cX5_mirror 68 = .ok (.invokevirtual 154, 3) := by decide +kernel
theorem dX5_mirror_71 : decode cX5_mirror 71 = .ok (.putfield 116, 3) := by decide +kernel
theorem dX5_mirror_74 : decode cX5_mirror 74 = .ok (.aload_n 0, 1) := by decide +kernel
theorem dX5_mirror_75 : decode cX5_mirror 75 = .ok (.getfield 30, 3) := by decide +kernel
theorem dX5_mirror_78 : decode cX5_mirror 78 = .ok (.iload_n 1, 1) := by decide +kernel
theorem dX5_mirror_79 : decode cX5_mirror 79 = .ok (.invokevirtual 108, 3) := by decide +kernel
theorem dX5_mirror_82 : decode cX5_mirror 82 = .ok (.ireturn, 1) := by decide +kernel
set_option maxRecDepth 100000 in
set_option maxHeartbeats 4000000 in
theorem v_X5_mirror {X : zq_X} (C : zq_C X RX5 cX5_mirror 3 zq_all rm_X5_mirror) {h : zq_H} {t : Nat} {x1 : Int32} {out : ((Int32 × zq_H) ⊕ (Nat × zq_H))} (hF : f_X5_mirror h t x1 = some out) (hE : ∀ q, out = .inl q → zq_End X cX5_mirror 1 6 (some (.int q.1)) q.2) (hX : ∀ q, out = .inr q → zq_Thr X 1 6 q.1 q.2) : zq_W X 0 0 h 0 [(0, .ref t), (1, .int x1)] [] := by
  unfold f_X5_mirror at hF
  refine zq_iload_n (pc' := 1) C dX5_mirror_0 rfl rfl rfl ?_
  replace hF := zq_bd hF; obtain ⟨v_1, e_2, hF⟩ := hF
  refine zq_cS (pc' := 4) C (c_X5_isWhich e_2) ys_X5_isWhich wd_264 dX5_mirror_1 rfl rfl rfl ⟨Nat.le_of_ble_eq_true rfl, Nat.le_of_ble_eq_true rfl⟩ (Nat.le_of_ble_eq_true rfl) ⟨rfl, rfl⟩ ⟨Nat.le_of_ble_eq_true rfl, Nat.le_of_ble_eq_true rfl⟩ rfl ?_
  refine zq_if_ne (pc' := 7) C 17 dX5_mirror_4 (by decide) rfl (fun c_3 => ?_) (fun c_3 => ?_)
  · have hF := (zq_ifn hF (fun q => c_3 (zq_b0.mpr q)))
    skip
    refine zq_aload_n (pc' := 18) C dX5_mirror_17 rfl rfl rfl ?_
    replace hF := zq_ck_e hF; obtain ⟨e_6, hF⟩ := hF
    replace hF := zq_bd hF; obtain ⟨v_4, e_5, hF⟩ := hF
    refine zq_cV (pc' := 21) C (c_X5_saveState e_5) yv_X5_saveState wd_245 zq_K5 e_6 dX5_mirror_18 rfl rfl rfl ⟨Nat.le_of_ble_eq_true rfl, Nat.le_of_ble_eq_true rfl⟩ (Nat.le_of_ble_eq_true rfl) ⟨rfl, rfl⟩ ⟨Nat.le_of_ble_eq_true rfl, Nat.le_of_ble_eq_true rfl⟩ rfl ?_
    refine zq_aload_n (pc' := 22) C dX5_mirror_21 rfl rfl rfl ?_
    replace hF := zq_bd hF; obtain ⟨v_7, e_8, hF⟩ := hF
    refine zq_getR (j := 1) (pc' := 25) C zq_K5 zq_in5w (Or.inl wd_210) (by decide) rfl dX5_mirror_22 rfl e_8 ?_
    replace hF := zq_bd hF; obtain ⟨v_9, e_10, hF⟩ := hF
    refine zq_getR (j := 0) (pc' := 28) C zq_K3 zq_in3w (Or.inr ⟨"FlipPolygons", by decide +kernel⟩) (by decide) rfl dX5_mirror_25 rfl e_10 ?_
    replace hF := zq_bd hF; obtain ⟨v_11, e_12, hF⟩ := hF
    refine zq_getR (j := 0) (pc' := 31) C zq_K0 zq_in0w (Or.inr ⟨"FlipPolygons", by decide +kernel⟩) (by decide) rfl dX5_mirror_28 rfl e_12 ?_
    refine zq_astore_n (lv' := [(2, .ref v_11), (0, .ref t), (1, .int x1)]) (pc' := 32) C dX5_mirror_31 rfl rfl (by decide) rfl rfl ?_
    refine zq_aload_n (pc' := 33) C dX5_mirror_32 rfl rfl rfl ?_
    replace hF := zq_bd hF; obtain ⟨v_13, e_14, hF⟩ := hF
    refine zq_getR (j := 1) (pc' := 36) C zq_K5 zq_in5w (Or.inl wd_210) (by decide) rfl dX5_mirror_33 rfl e_14 ?_
    refine zq_iload_n (pc' := 37) C dX5_mirror_36 rfl rfl rfl ?_
    refine zq_aload_n (pc' := 38) C dX5_mirror_37 rfl rfl rfl ?_
    refine zq_aload_n (pc' := 39) C dX5_mirror_38 rfl rfl rfl ?_
    replace hF := zq_bd hF; obtain ⟨v_15, e_16, hF⟩ := hF
    refine zq_getR (j := 1) (pc' := 42) C zq_K5 zq_in5w (Or.inl wd_210) (by decide) rfl dX5_mirror_39 rfl e_16 ?_
    refine zq_iload_n (pc' := 43) C dX5_mirror_42 rfl rfl rfl ?_
    replace hF := zq_ck_e hF; obtain ⟨e_19, hF⟩ := hF
    replace hF := zq_bd hF; obtain ⟨v_17, e_18, hF⟩ := hF
    refine zq_cV (pc' := 46) C (c_X3_mask e_18) yv_X3_mask wd_251 zq_K3 e_19 dX5_mirror_43 rfl rfl rfl ⟨Nat.le_of_ble_eq_true rfl, Nat.le_of_ble_eq_true rfl⟩ (Nat.le_of_ble_eq_true rfl) ⟨rfl, rfl⟩ ⟨Nat.le_of_ble_eq_true rfl, Nat.le_of_ble_eq_true rfl⟩ rfl ?_
    replace hF := zq_ck_e hF; obtain ⟨e_22, hF⟩ := hF
    replace hF := zq_bd hF; obtain ⟨v_20, e_21, hF⟩ := hF
    refine zq_cV (pc' := 49) C (c_X1_mirrored e_21) yv_X1_mirrored wd_283 zq_K1 e_22 dX5_mirror_46 rfl rfl rfl ⟨Nat.le_of_ble_eq_true rfl, Nat.le_of_ble_eq_true rfl⟩ (Nat.le_of_ble_eq_true rfl) ⟨rfl, rfl⟩ ⟨Nat.le_of_ble_eq_true rfl, Nat.le_of_ble_eq_true rfl⟩ rfl ?_
    replace hF := zq_ck_e hF; obtain ⟨e_25, hF⟩ := hF
    replace hF := zq_bd hF; obtain ⟨v_23, e_24, hF⟩ := hF
    refine zq_cV (pc' := 52) C (c_X3_put e_24) yv_X3_put wd_256 zq_K3 e_25 dX5_mirror_49 rfl rfl rfl ⟨Nat.le_of_ble_eq_true rfl, Nat.le_of_ble_eq_true rfl⟩ (Nat.le_of_ble_eq_true rfl) ⟨rfl, rfl⟩ ⟨Nat.le_of_ble_eq_true rfl, Nat.le_of_ble_eq_true rfl⟩ rfl ?_
    refine zq_iload_n (pc' := 53) C dX5_mirror_52 rfl rfl rfl ?_
    refine zq_if_ne (pc' := 56) C 74 dX5_mirror_53 (by decide) rfl (fun c_26 => ?_) (fun c_26 => ?_)
    · have hF := (zq_ifn hF c_26)
      skip
      refine zq_aload_n (pc' := 75) C dX5_mirror_74 rfl rfl rfl ?_
      replace hF := zq_bd hF; obtain ⟨v_27, e_28, hF⟩ := hF
      refine zq_getR (j := 1) (pc' := 78) C zq_K5 zq_in5w (Or.inl wd_210) (by decide) rfl dX5_mirror_75 rfl e_28 ?_
      refine zq_iload_n (pc' := 79) C dX5_mirror_78 rfl rfl rfl ?_
      replace hF := zq_ck_e hF; obtain ⟨e_31, hF⟩ := hF
      replace hF := zq_bd hF; obtain ⟨v_29, e_30, hF⟩ := hF
      refine zq_cV (pc' := 82) C (c_X3_mask e_30) yv_X3_mask wd_251 zq_K3 e_31 dX5_mirror_79 rfl rfl rfl ⟨Nat.le_of_ble_eq_true rfl, Nat.le_of_ble_eq_true rfl⟩ (Nat.le_of_ble_eq_true rfl) ⟨rfl, rfl⟩ ⟨Nat.le_of_ble_eq_true rfl, Nat.le_of_ble_eq_true rfl⟩ rfl ?_
      have hF := Option.some.inj hF
      subst hF
      exact hE _ rfl _ _ _ _ (Nat.le_of_ble_eq_true rfl) (Nat.le_of_ble_eq_true rfl) dX5_mirror_82
    · have hF := (zq_ifp hF c_26)
      refine zq_aload_n (pc' := 57) C dX5_mirror_56 rfl rfl rfl ?_
      replace hF := zq_bd hF; obtain ⟨v_32, e_33, hF⟩ := hF
      refine zq_getR (j := 1) (pc' := 60) C zq_K5 zq_in5w (Or.inl wd_210) (by decide) rfl dX5_mirror_57 rfl e_33 ?_
      refine zq_aload_n (pc' := 61) C dX5_mirror_60 rfl rfl rfl ?_
      refine zq_aload_n (pc' := 62) C dX5_mirror_61 rfl rfl rfl ?_
      replace hF := zq_bd hF; obtain ⟨v_34, e_35, hF⟩ := hF
      refine zq_getR (j := 1) (pc' := 65) C zq_K5 zq_in5w (Or.inl wd_210) (by decide) rfl dX5_mirror_62 rfl e_35 ?_
      replace hF := zq_bd hF; obtain ⟨v_36, e_37, hF⟩ := hF
      refine zq_getI (j := 3) (pc' := 68) C zq_K3 zq_in3w (Or.inr ⟨"FlipPolygons", by decide +kernel⟩) (by decide) rfl dX5_mirror_65 rfl e_37 ?_
      replace hF := zq_ck_e hF; obtain ⟨e_40, hF⟩ := hF
      replace hF := zq_bd hF; obtain ⟨v_38, e_39, hF⟩ := hF
      refine zq_cV (pc' := 71) C (c_X1_mirrored e_39) yv_X1_mirrored wd_283 zq_K1 e_40 dX5_mirror_68 rfl rfl rfl ⟨Nat.le_of_ble_eq_true rfl, Nat.le_of_ble_eq_true rfl⟩ (Nat.le_of_ble_eq_true rfl) ⟨rfl, rfl⟩ ⟨Nat.le_of_ble_eq_true rfl, Nat.le_of_ble_eq_true rfl⟩ rfl ?_
      replace hF := zq_bd hF; obtain ⟨h_41, e_42, hF⟩ := hF
      refine zq_putI (j := 3) (pc' := 74) C zq_K3 zq_in3w (Or.inr ⟨"FlipPolygons", by decide +kernel⟩) (by decide) rfl rfl dX5_mirror_71 rfl (Or.inl rfl) e_42 ?_
      refine zq_aload_n (pc' := 75) C dX5_mirror_74 rfl rfl rfl ?_
      replace hF := zq_bd hF; obtain ⟨v_43, e_44, hF⟩ := hF
      refine zq_getR (j := 1) (pc' := 78) C zq_K5 zq_in5w (Or.inl wd_210) (by decide) rfl dX5_mirror_75 rfl e_44 ?_
      refine zq_iload_n (pc' := 79) C dX5_mirror_78 rfl rfl rfl ?_
      replace hF := zq_ck_e hF; obtain ⟨e_47, hF⟩ := hF
      replace hF := zq_bd hF; obtain ⟨v_45, e_46, hF⟩ := hF
      refine zq_cV (pc' := 82) C (c_X3_mask e_46) yv_X3_mask wd_251 zq_K3 e_47 dX5_mirror_79 rfl rfl rfl ⟨Nat.le_of_ble_eq_true rfl, Nat.le_of_ble_eq_true rfl⟩ (Nat.le_of_ble_eq_true rfl) ⟨rfl, rfl⟩ ⟨Nat.le_of_ble_eq_true rfl, Nat.le_of_ble_eq_true rfl⟩ rfl ?_
      have hF := Option.some.inj hF
      subst hF
      exact hE _ rfl _ _ _ _ (Nat.le_of_ble_eq_true rfl) (Nat.le_of_ble_eq_true rfl) dX5_mirror_82
  · have hF := (zq_ifp hF (zq_b0.mp c_3))
    have hF := Option.some.inj hF
    subst hF
    exact zq_throwS C 1 "no such triangulation" (by decide) (by decide +kernel) dX5_mirror_7 dX5_mirror_10 dX5_mirror_11 dX5_mirror_13 dX5_mirror_16 (by decide) (Nat.le_of_ble_eq_true rfl) ⟨Nat.le_of_ble_eq_true rfl, Nat.le_of_ble_eq_true rfl⟩ ⟨Nat.le_of_ble_eq_true rfl, Nat.le_of_ble_eq_true rfl⟩ (hX _ rfl)
theorem c_X5_mirror {h : zq_H} {t : Nat} {x1 : Int32} {out : ((Int32 × zq_H) ⊕ (Nat × zq_H))} (hF : f_X5_mirror h t x1 = some out) : zq_Mx yX5_mirror (Cond.code yX5_mirror cX5_mirror 3 (some .int) :: zq_all) rm_X5_mirror [.ref t, .int x1] h (zq_ox out) := zq_metx (own := RX5) (by decide +kernel) rfl (Nat.le_of_ble_eq_true rfl) rfl (fun X C _ _ hE hX => v_X5_mirror C hF hE hX)
theorem yv_X5_mirror : zq_calV yX5_mirror RX5 cX5_mirror 3 (some .int) 1 := ⟨by decide +kernel, wd_284, wd_715, wd_716, wd_95⟩
def f_X5_lock (h : zq_H) (t : Nat) (x1 : Int32) (x2 : Int32) (x3 : Int32) : Option ((Int32 × zq_H) ⊕ (Nat × zq_H)) := (Option.bind (zq_gr h t 5 1) fun v_1 => (Option.bind (zq_gr h v_1 3 0) fun v_3 => (Option.bind (zq_gr h v_3 0 0) fun v_5 => (zq_ck h v_5 1 fun _ => (Option.bind (f_X1_numberOf h v_5 x1 x2) fun v_7 => (if v_7 = (-1) then some (.inr (1, h)) else (Option.bind (zq_gr h t 5 1) fun v_11 => (Option.bind (zq_gi h v_11 3 1) fun v_13 => (Option.bind (f_X5_isIn h v_13 v_7) fun v_15 => (if v_15 = false then some (.inr (2, h)) else (zq_ck h t 5 fun _ => (Option.bind (f_X5_saveState h t) fun v_18 => (zq_let ((1 : Int32) <<< (v_7 &&& 31)) fun v_21 => (Option.bind (zq_gr v_18 t 5 1) fun v_23 => (if x3 = 0 then (Option.bind (zq_gr v_18 t 5 1) fun v_26 => (Option.bind (zq_gi v_18 v_26 3 3) fun v_28 => (Option.bind (zq_pi v_18 v_23 3 3 (v_28 &&& (v_21 ^^^ (-1)))) fun h_30 => (Option.bind (zq_gr h_30 t 5 1) fun v_32 => (Option.bind (zq_gi h_30 v_32 3 3) fun v_34 => (Option.bind (f_J6_bitCount_0f7a4 h_30 v_34) fun v_36 => some ((.inl (v_36, h_30))))))))) else (Option.bind (zq_gr v_18 t 5 1) fun v_38 => (Option.bind (zq_gi v_18 v_38 3 3) fun v_40 => (Option.bind (zq_pi v_18 v_23 3 3 (v_40 ||| v_21)) fun h_42 => (Option.bind (zq_gr h_42 t 5 1) fun v_44 => (Option.bind (zq_gi h_42 v_44 3 3) fun v_46 => (Option.bind (f_J6_bitCount_0f7a4 h_42 v_46) fun v_48 => some ((.inl (v_48, h_42))))))))))))))))))))))))
abbrev rm_X5_lock : Room := { frames := 6, cells := 1, slots := 6, locals := 98 }
theorem dX5_lock_0 : decode cX5_lock 0 = .ok (.aload_n 0, 1) := by decide +kernel
theorem dX5_lock_1 : decode cX5_lock 1 = .ok (.getfield 30, 3) := by decide +kernel
theorem dX5_lock_4 : decode cX5_lock 4 = .ok (.getfield 83, 3) := by decide +kernel
theorem dX5_lock_7 : decode cX5_lock 7 = .ok (.getfield 87, 3) := by decide +kernel
theorem dX5_lock_10 : decode cX5_lock 10 = .ok (.iload_n 1, 1) := by decide +kernel
theorem dX5_lock_11 : decode cX5_lock 11 = .ok (.iload_n 2, 1) := by decide +kernel
theorem dX5_lock_12 : decode cX5_lock 12 = .ok (.invokevirtual 95, 3) := by decide +kernel
theorem dX5_lock_15 : decode cX5_lock 15 = .ok (.istore 4, 2) := by decide +kernel
theorem dX5_lock_17 : decode cX5_lock 17 = .ok (.iload 4, 2) := by decide +kernel
theorem dX5_lock_19 : decode cX5_lock 19 = .ok (.iconst (-1), 1) := by decide +kernel
theorem dX5_lock_20 : decode cX5_lock 20 = .ok (.if_icmp .ne 13, 3) := by decide +kernel
theorem dX5_lock_23 : decode cX5_lock 23 = .ok (.new 103, 3) := by decide +kernel
theorem dX5_lock_26 : decode cX5_lock 26 = .ok (.dup, 1) := by decide +kernel
theorem dX5_lock_27 : decode cX5_lock 27 = .ok (.ldc 163, 2) := by decide +kernel
theorem dX5_lock_29 : decode cX5_lock 29 = .ok (.invokespecial 107, 3) := by decide +kernel
theorem dX5_lock_32 : decode cX5_lock 32 = .ok (.athrow, 1) := by decide +kernel
theorem dX5_lock_33 : decode cX5_lock 33 = .ok (.aload_n 0, 1) := by decide +kernel
theorem dX5_lock_34 : decode cX5_lock 34 = .ok (.getfield 30, 3) := by decide +kernel
theorem dX5_lock_37 : decode cX5_lock 37 = .ok (.getfield 160, 3) := by decide +kernel
theorem dX5_lock_40 : decode cX5_lock 40 = .ok (.iload 4, 2) := by decide +kernel
theorem dX5_lock_42 : decode cX5_lock 42 = .ok (.invokestatic 112, 3) := by decide +kernel
theorem dX5_lock_45 : decode cX5_lock 45 = .ok (.ifCond .ne 13, 3) := by decide +kernel
theorem dX5_lock_48 : decode cX5_lock 48 = .ok (.new 119, 3) := by decide +kernel
theorem dX5_lock_51 : decode cX5_lock 51 = .ok (.dup, 1) := by decide +kernel
theorem dX5_lock_52 : decode cX5_lock 52 = .ok (.ldc 165, 2) := by decide +kernel
theorem dX5_lock_54 : decode cX5_lock 54 = .ok (.invokespecial 123, 3) := by decide +kernel
theorem dX5_lock_57 : decode cX5_lock 57 = .ok (.athrow, 1) := by decide +kernel
theorem dX5_lock_58 : decode cX5_lock 58 = .ok (.aload_n 0, 1) := by decide +kernel
theorem dX5_lock_59 : decode cX5_lock 59 = .ok (.invokevirtual 80, 3) := by decide +kernel
theorem dX5_lock_62 : decode cX5_lock 62 = .ok (.iconst 1, 1) := by decide +kernel
theorem dX5_lock_63 : decode cX5_lock 63 = .ok (.iload 4, 2) := by decide +kernel
theorem dX5_lock_65 : decode cX5_lock 65 = .ok (.ishl, 1) := by decide +kernel
theorem dX5_lock_66 : decode cX5_lock 66 = .ok (.istore 5, 2) := by decide +kernel
theorem dX5_lock_68 : decode cX5_lock 68 = .ok (.aload_n 0, 1) := by decide +kernel
theorem dX5_lock_69 : decode cX5_lock 69 = .ok (.getfield 30, 3) := by decide +kernel
theorem dX5_lock_72 : decode cX5_lock 72 = .ok (.iload_n 3, 1) := by decide +kernel
theorem dX5_lock_73 : decode cX5_lock 73 = .ok (.ifCond .eq 16, 3) := by decide +kernel
theorem dX5_lock_76 : decode cX5_lock 76 = .ok (.aload_n 0, 1) := by decide +kernel
theorem dX5_lock_77 : decode cX5_lock 77 = .ok (.getfield 30, 3) := by decide +kernel
theorem dX5_lock_80 : decode cX5_lock 80 = .ok (.getfield 116, 3) := by decide +kernel
theorem dX5_lock_83 : decode cX5_lock 83 = .ok (.iload 5, 2) := by decide +kernel
theorem dX5_lock_85 : decode cX5_lock 85 = .ok (.ior, 1) := by decide +kernel
theorem dX5_lock_86 : decode cX5_lock 86 = .ok (.goto 15, 3) := by decide +kernel
theorem dX5_lock_89 : decode cX5_lock 89 = .ok (.aload_n 0, 1) := by decide +kernel
theorem dX5_lock_90 : decode cX5_lock 90 = .ok (.getfield 30, 3) := by decide +kernel
theorem dX5_lock_93 : decode cX5_lock 93 = .ok (.getfield 116, 3) := by decide +kernel
theorem dX5_lock_96 : decode cX5_lock 96 = .ok (.iload 5, 2) := by decide +kernel
theorem dX5_lock_98 : decode cX5_lock 98 = .ok (.iconst (-1), 1) := by decide +kernel
theorem dX5_lock_99 : decode cX5_lock 99 = .ok (.ixor, 1) := by decide +kernel
theorem dX5_lock_100 : decode cX5_lock 100 = .ok (.iand, 1) := by decide +kernel
theorem dX5_lock_101 : decode cX5_lock 101 = .ok (.putfield 116, 3) := by decide +kernel
theorem dX5_lock_104 : decode cX5_lock 104 = .ok (.aload_n 0, 1) := by decide +kernel
theorem dX5_lock_105 : decode cX5_lock 105 = .ok (.getfield 30, 3) := by decide +kernel
theorem dX5_lock_108 : decode cX5_lock 108 = .ok (.getfield 116, 3) := by decide +kernel
theorem dX5_lock_111 : decode cX5_lock 111 = .ok (.invokestatic 135, 3) := by decide +kernel
theorem dX5_lock_114 : decode cX5_lock 114 = .ok (.ireturn, 1) := by decide +kernel
set_option maxRecDepth 100000 in
set_option maxHeartbeats 4000000 in
theorem v_X5_lock {X : zq_X} (C : zq_C X RX5 cX5_lock 6 zq_all rm_X5_lock) {h : zq_H} {t : Nat} {x1 : Int32} {x2 : Int32} {x3 : Int32} {out : ((Int32 × zq_H) ⊕ (Nat × zq_H))} (hF : f_X5_lock h t x1 x2 x3 = some out) (hE : ∀ q, out = .inl q → zq_End X cX5_lock 1 6 (some (.int q.1)) q.2) (hX : ∀ q, out = .inr q → zq_Thr X 1 6 q.1 q.2) : zq_W X 0 0 h 0 [(0, .ref t), (1, .int x1), (2, .int x2), (3, .int x3)] [] := by
  unfold f_X5_lock at hF
  refine zq_aload_n (pc' := 1) C dX5_lock_0 rfl rfl rfl ?_
  replace hF := zq_bd hF; obtain ⟨v_1, e_2, hF⟩ := hF
  refine zq_getR (j := 1) (pc' := 4) C zq_K5 zq_in5w (Or.inl wd_210) (by decide) rfl dX5_lock_1 rfl e_2 ?_
  replace hF := zq_bd hF; obtain ⟨v_3, e_4, hF⟩ := hF
  refine zq_getR (j := 0) (pc' := 7) C zq_K3 zq_in3w (Or.inr ⟨"FlipPolygons", by decide +kernel⟩) (by decide) rfl dX5_lock_4 rfl e_4 ?_
  replace hF := zq_bd hF; obtain ⟨v_5, e_6, hF⟩ := hF
  refine zq_getR (j := 0) (pc' := 10) C zq_K0 zq_in0w (Or.inr ⟨"FlipPolygons", by decide +kernel⟩) (by decide) rfl dX5_lock_7 rfl e_6 ?_
  refine zq_iload_n (pc' := 11) C dX5_lock_10 rfl rfl rfl ?_
  refine zq_iload_n (pc' := 12) C dX5_lock_11 rfl rfl rfl ?_
  replace hF := zq_ck_e hF; obtain ⟨e_9, hF⟩ := hF
  replace hF := zq_bd hF; obtain ⟨v_7, e_8, hF⟩ := hF
  refine zq_cV (pc' := 15) C (c_X1_numberOf e_8) yv_X1_numberOf wd_263 zq_K1 e_9 dX5_lock_12 rfl rfl rfl ⟨Nat.le_of_ble_eq_true rfl, Nat.le_of_ble_eq_true rfl⟩ (Nat.le_of_ble_eq_true rfl) ⟨rfl, rfl⟩ ⟨Nat.le_of_ble_eq_true rfl, Nat.le_of_ble_eq_true rfl⟩ rfl ?_
  refine zq_istore (lv' := [(4, .int v_7), (0, .ref t), (1, .int x1), (2, .int x2), (3, .int x3)]) (pc' := 17) C dX5_lock_15 rfl (by decide) rfl rfl ?_
  refine zq_iload (pc' := 19) C dX5_lock_17 rfl rfl ?_
  refine zq_iconst (pc' := 20) C (-1) dX5_lock_19 rfl (by decide) ?_
  refine zq_icmp_ne (pc' := 23) C 33 dX5_lock_20 (by decide) rfl (fun c_10 => ?_) (fun c_10 => ?_)
  · have hF := (zq_ifn hF c_10)
    skip
    refine zq_aload_n (pc' := 34) C dX5_lock_33 rfl rfl rfl ?_
    replace hF := zq_bd hF; obtain ⟨v_11, e_12, hF⟩ := hF
    refine zq_getR (j := 1) (pc' := 37) C zq_K5 zq_in5w (Or.inl wd_210) (by decide) rfl dX5_lock_34 rfl e_12 ?_
    replace hF := zq_bd hF; obtain ⟨v_13, e_14, hF⟩ := hF
    refine zq_getI (j := 1) (pc' := 40) C zq_K3 zq_in3w (Or.inr ⟨"FlipPolygons", by decide +kernel⟩) (by decide) rfl dX5_lock_37 rfl e_14 ?_
    refine zq_iload (pc' := 42) C dX5_lock_40 rfl rfl ?_
    replace hF := zq_bd hF; obtain ⟨v_15, e_16, hF⟩ := hF
    refine zq_cS (pc' := 45) C (c_X5_isIn e_16) ys_X5_isIn wd_266 dX5_lock_42 rfl rfl rfl ⟨Nat.le_of_ble_eq_true rfl, Nat.le_of_ble_eq_true rfl⟩ (Nat.le_of_ble_eq_true rfl) ⟨rfl, rfl⟩ ⟨Nat.le_of_ble_eq_true rfl, Nat.le_of_ble_eq_true rfl⟩ rfl ?_
    refine zq_if_ne (pc' := 48) C 58 dX5_lock_45 (by decide) rfl (fun c_17 => ?_) (fun c_17 => ?_)
    · have hF := (zq_ifn hF (fun q => c_17 (zq_b0.mpr q)))
      skip
      refine zq_aload_n (pc' := 59) C dX5_lock_58 rfl rfl rfl ?_
      replace hF := zq_ck_e hF; obtain ⟨e_20, hF⟩ := hF
      replace hF := zq_bd hF; obtain ⟨v_18, e_19, hF⟩ := hF
      refine zq_cV (pc' := 62) C (c_X5_saveState e_19) yv_X5_saveState wd_245 zq_K5 e_20 dX5_lock_59 rfl rfl rfl ⟨Nat.le_of_ble_eq_true rfl, Nat.le_of_ble_eq_true rfl⟩ (Nat.le_of_ble_eq_true rfl) ⟨rfl, rfl⟩ ⟨Nat.le_of_ble_eq_true rfl, Nat.le_of_ble_eq_true rfl⟩ rfl ?_
      refine zq_iconst (pc' := 63) C 1 dX5_lock_62 rfl (by decide) ?_
      refine zq_iload (pc' := 65) C dX5_lock_63 rfl rfl ?_
      refine zq_ishl (pc' := 66) C dX5_lock_65 rfl ?_
      replace hF := zq_let_e hF; obtain ⟨v_21, e_22, hF⟩ := hF
      refine zq_istore (lv' := [(5, .int v_21), (4, .int v_7), (0, .ref t), (1, .int x1), (2, .int x2), (3, .int x3)]) (pc' := 68) C dX5_lock_66 rfl (by decide) e_22 rfl ?_
      refine zq_aload_n (pc' := 69) C dX5_lock_68 rfl rfl rfl ?_
      replace hF := zq_bd hF; obtain ⟨v_23, e_24, hF⟩ := hF
      refine zq_getR (j := 1) (pc' := 72) C zq_K5 zq_in5w (Or.inl wd_210) (by decide) rfl dX5_lock_69 rfl e_24 ?_
      refine zq_iload_n (pc' := 73) C dX5_lock_72 rfl rfl rfl ?_
      refine zq_if_eq (pc' := 76) C 89 dX5_lock_73 (by decide) rfl (fun c_25 => ?_) (fun c_25 => ?_)
      · have hF := (zq_ifp hF c_25)
        skip
        refine zq_aload_n (pc' := 90) C dX5_lock_89 rfl rfl rfl ?_
        replace hF := zq_bd hF; obtain ⟨v_26, e_27, hF⟩ := hF
        refine zq_getR (j := 1) (pc' := 93) C zq_K5 zq_in5w (Or.inl wd_210) (by decide) rfl dX5_lock_90 rfl e_27 ?_
        replace hF := zq_bd hF; obtain ⟨v_28, e_29, hF⟩ := hF
        refine zq_getI (j := 3) (pc' := 96) C zq_K3 zq_in3w (Or.inr ⟨"FlipPolygons", by decide +kernel⟩) (by decide) rfl dX5_lock_93 rfl e_29 ?_
        refine zq_iload (pc' := 98) C dX5_lock_96 rfl rfl ?_
        refine zq_iconst (pc' := 99) C (-1) dX5_lock_98 rfl (by decide) ?_
        refine zq_ixor (pc' := 100) C dX5_lock_99 rfl ?_
        refine zq_iand (pc' := 101) C dX5_lock_100 rfl ?_
        replace hF := zq_bd hF; obtain ⟨h_30, e_31, hF⟩ := hF
        refine zq_putI (j := 3) (pc' := 104) C zq_K3 zq_in3w (Or.inr ⟨"FlipPolygons", by decide +kernel⟩) (by decide) rfl rfl dX5_lock_101 rfl (Or.inl rfl) e_31 ?_
        refine zq_aload_n (pc' := 105) C dX5_lock_104 rfl rfl rfl ?_
        replace hF := zq_bd hF; obtain ⟨v_32, e_33, hF⟩ := hF
        refine zq_getR (j := 1) (pc' := 108) C zq_K5 zq_in5w (Or.inl wd_210) (by decide) rfl dX5_lock_105 rfl e_33 ?_
        replace hF := zq_bd hF; obtain ⟨v_34, e_35, hF⟩ := hF
        refine zq_getI (j := 3) (pc' := 111) C zq_K3 zq_in3w (Or.inr ⟨"FlipPolygons", by decide +kernel⟩) (by decide) rfl dX5_lock_108 rfl e_35 ?_
        replace hF := zq_bd hF; obtain ⟨v_36, e_37, hF⟩ := hF
        refine zq_cS (pc' := 114) C (c_J6_bitCount_0f7a4 e_37) ys_J6_bitCount_0f7a4 wd_274 dX5_lock_111 rfl rfl rfl ⟨Nat.le_of_ble_eq_true rfl, Nat.le_of_ble_eq_true rfl⟩ (Nat.le_of_ble_eq_true rfl) ⟨rfl, rfl⟩ ⟨Nat.le_of_ble_eq_true rfl, Nat.le_of_ble_eq_true rfl⟩ rfl ?_
        have hF := Option.some.inj hF
        subst hF
        exact hE _ rfl _ _ _ _ (Nat.le_of_ble_eq_true rfl) (Nat.le_of_ble_eq_true rfl) dX5_lock_114
      · have hF := (zq_ifn hF c_25)
        refine zq_aload_n (pc' := 77) C dX5_lock_76 rfl rfl rfl ?_
        replace hF := zq_bd hF; obtain ⟨v_38, e_39, hF⟩ := hF
        refine zq_getR (j := 1) (pc' := 80) C zq_K5 zq_in5w (Or.inl wd_210) (by decide) rfl dX5_lock_77 rfl e_39 ?_
        replace hF := zq_bd hF; obtain ⟨v_40, e_41, hF⟩ := hF
        refine zq_getI (j := 3) (pc' := 83) C zq_K3 zq_in3w (Or.inr ⟨"FlipPolygons", by decide +kernel⟩) (by decide) rfl dX5_lock_80 rfl e_41 ?_
        refine zq_iload (pc' := 85) C dX5_lock_83 rfl rfl ?_
        refine zq_ior (pc' := 86) C dX5_lock_85 rfl ?_
        refine zq_goto C 101 dX5_lock_86 (by decide) ?_
        replace hF := zq_bd hF; obtain ⟨h_42, e_43, hF⟩ := hF
        refine zq_putI (j := 3) (pc' := 104) C zq_K3 zq_in3w (Or.inr ⟨"FlipPolygons", by decide +kernel⟩) (by decide) rfl rfl dX5_lock_101 rfl (Or.inl rfl) e_43 ?_
        refine zq_aload_n (pc' := 105) C dX5_lock_104 rfl rfl rfl ?_
        replace hF := zq_bd hF; obtain ⟨v_44, e_45, hF⟩ := hF
        refine zq_getR (j := 1) (pc' := 108) C zq_K5 zq_in5w (Or.inl wd_210) (by decide) rfl dX5_lock_105 rfl e_45 ?_
        replace hF := zq_bd hF; obtain ⟨v_46, e_47, hF⟩ := hF
        refine zq_getI (j := 3) (pc' := 111) C zq_K3 zq_in3w (Or.inr ⟨"FlipPolygons", by decide +kernel⟩) (by decide) rfl dX5_lock_108 rfl e_47 ?_
        replace hF := zq_bd hF; obtain ⟨v_48, e_49, hF⟩ := hF
        refine zq_cS (pc' := 114) C (c_J6_bitCount_0f7a4 e_49) ys_J6_bitCount_0f7a4 wd_274 dX5_lock_111 rfl rfl rfl ⟨Nat.le_of_ble_eq_true rfl, Nat.le_of_ble_eq_true rfl⟩ (Nat.le_of_ble_eq_true rfl) ⟨rfl, rfl⟩ ⟨Nat.le_of_ble_eq_true rfl, Nat.le_of_ble_eq_true rfl⟩ rfl ?_
        have hF := Option.some.inj hF
        subst hF
        exact hE _ rfl _ _ _ _ (Nat.le_of_ble_eq_true rfl) (Nat.le_of_ble_eq_true rfl) dX5_lock_114
    · have hF := (zq_ifp hF (zq_b0.mp c_17))
      have hF := Option.some.inj hF
      subst hF
      exact zq_throwS C 2 "the diagonal is not there" (by decide) (by decide +kernel) dX5_lock_48 dX5_lock_51 dX5_lock_52 dX5_lock_54 dX5_lock_57 (by decide) (Nat.le_of_ble_eq_true rfl) ⟨Nat.le_of_ble_eq_true rfl, Nat.le_of_ble_eq_true rfl⟩ ⟨Nat.le_of_ble_eq_true rfl, Nat.le_of_ble_eq_true rfl⟩ (hX _ rfl)
  · have hF := (zq_ifp hF c_10)
    have hF := Option.some.inj hF
    subst hF
    exact zq_throwS C 1 "no such diagonal" (by decide) (by decide +kernel) dX5_lock_23 dX5_lock_26 dX5_lock_27 dX5_lock_29 dX5_lock_32 (by decide) (Nat.le_of_ble_eq_true rfl) ⟨Nat.le_of_ble_eq_true rfl, Nat.le_of_ble_eq_true rfl⟩ ⟨Nat.le_of_ble_eq_true rfl, Nat.le_of_ble_eq_true rfl⟩ (hX _ rfl)
theorem c_X5_lock {h : zq_H} {t : Nat} {x1 : Int32} {x2 : Int32} {x3 : Int32} {out : ((Int32 × zq_H) ⊕ (Nat × zq_H))} (hF : f_X5_lock h t x1 x2 x3 = some out) : zq_Mx yX5_lock (Cond.code yX5_lock cX5_lock 6 (some .int) :: zq_all) rm_X5_lock [.ref t, .int x1, .int x2, .int x3] h (zq_ox out) := zq_metx (own := RX5) (by decide +kernel) rfl (Nat.le_of_ble_eq_true rfl) rfl (fun X C _ _ hE hX => v_X5_lock C hF hE hX)
theorem yv_X5_lock : zq_calV yX5_lock RX5 cX5_lock 6 (some .int) 3 := ⟨by decide +kernel, wd_286, wd_719, wd_720, wd_95⟩
def f_X5_walk (h : zq_H) (t : Nat) (x1 : Int32) : Option ((Int32 × zq_H) ⊕ (Nat × zq_H)) := (if x1 < 1 then some (.inr (0, h)) else (if x1 ≤ 20 then (zq_ck h t 5 fun _ => (Option.bind (f_X5_distanceWithLocks h t) fun v_3 => (if v_3.1 = (-1) then some (.inr (2, v_3.2)) else (zq_ck v_3.2 t 5 fun _ => (Option.bind (f_X5_saveState v_3.2 t) fun v_7 => ((zq_lp (σ := Int32 × Int32 × zq_H) (ρ := Int32 × zq_H) (fun s_10 => (if x1 ≤ s_10.2.1 then some (.inr (s_10.1, s_10.2.2)) else (zq_ck s_10.2.2 t 5 fun _ => (Option.bind (f_X5_nextFlip s_10.2.2 t) fun v_19 => (if v_19.1 = (-1) then some (.inr (s_10.1, v_19.2)) else (zq_ck v_19.2 t 5 fun _ => (Option.bind (f_X5_makeFlip v_19.2 t 0 v_19.1) fun v_23 => (zq_let (s_10.1 + 1) fun v_26 => (zq_let (s_10.2.1 + 1) fun v_28 => some (.inl (v_26, v_28, v_23.2))))))))))) zq_N (0, 0, v_7)).bind (fun y_13 : Int32 × zq_H => some ((.inl (y_13.1, y_13.2)))))))))) else some (.inr (0, h))))
abbrev rm_X5_walk : Room := { frames := 6, cells := 1, slots := 6, locals := 122 }
theorem dX5_walk_0 : decode cX5_walk 0 = .ok (.iload_n 1, 1) := by decide +kernel
theorem dX5_walk_1 : decode cX5_walk 1 = .ok (.iconst 1, 1) := by decide +kernel
theorem dX5_walk_2 : decode cX5_walk 2 = .ok (.if_icmp .lt 9, 3) := by decide +kernel
theorem dX5_walk_5 : decode cX5_walk 5 = .ok (.iload_n 1, 1) := by decide +kernel
theorem dX5_walk_6 : decode cX5_walk 6 = .ok (.bipush 20, 2) := by decide +kernel
theorem dX5_walk_8 : decode cX5_walk 8 = .ok (.if_icmp .le 13, 3) := by decide +kernel
theorem dX5_walk_11 : decode cX5_walk 11 = .ok (.new 73, 3) := by decide +kernel
theorem dX5_walk_14 : decode cX5_walk 14 = .ok (.dup, 1) := by decide +kernel
theorem dX5_walk_15 : decode cX5_walk 15 = .ok (.ldc 167, 2) := by decide +kernel
theorem dX5_walk_17 : decode cX5_walk 17 = .ok (.invokespecial 77, 3) := by decide +kernel
theorem dX5_walk_20 : decode cX5_walk 20 = .ok (.athrow, 1) := by decide +kernel
theorem dX5_walk_21 : decode cX5_walk 21 = .ok (.aload_n 0, 1) := by decide +kernel
theorem dX5_walk_22 : decode cX5_walk 22 = .ok (.invokevirtual 169, 3) := by decide +kernel
theorem dX5_walk_25 : decode cX5_walk 25 = .ok (.iconst (-1), 1) := by decide +kernel
theorem dX5_walk_26 : decode cX5_walk 26 = .ok (.if_icmp .ne 13, 3) := by decide +kernel
theorem dX5_walk_29 : decode cX5_walk 29 = .ok (.new 119, 3) := by decide +kernel
theorem dX5_walk_32 : decode cX5_walk 32 = .ok (.dup, 1) := by decide +kernel
theorem dX5_walk_33 : decode cX5_walk 33 = .ok (.ldc 173, 2) := by decide +kernel
theorem dX5_walk_35 : decode cX5_walk 35 = .ok (.invokespecial 123, 3) := by decide +kernel
theorem dX5_walk_38 : decode cX5_walk 38 = .ok (.athrow, 1) := by decide +kernel
theorem dX5_walk_39 : decode cX5_walk 39 = .ok (.aload_n 0, 1) := by decide +kernel
theorem dX5_walk_40 : decode cX5_walk 40 = .ok (.invokevirtual 80, 3) := by decide +kernel
theorem dX5_walk_43 : decode cX5_walk 43 = .ok (.iconst 0, 1) := by decide +kernel
theorem dX5_walk_44 : decode cX5_walk 44 = .ok (.istore_n 2, 1) := by decide +kernel
theorem dX5_walk_45 : decode cX5_walk 45 = .ok (.iconst 0, 1) := by decide +kernel
theorem dX5_walk_46 : decode cX5_walk 46 = .ok (.istore_n 3, 1) := by decide +kernel
theorem dX5_walk_47 : decode cX5_walk 47 = .ok (.iload_n 3, 1) := by decide +kernel
theorem dX5_walk_48 : decode cX5_walk 48 = .ok (.iload_n 1, 1) := by decide +kernel
theorem dX5_walk_49 : decode cX5_walk 49 = .ok (.if_icmp .ge 35, 3) := by decide +kernel
theorem dX5_walk_52 : decode cX5_walk 52 = .ok (.aload_n 0, 1) := by decide +kernel
theorem dX5_walk_53 : decode cX5_walk 53 = .ok (.invokevirtual 175, 3) := by decide +kernel
theorem dX5_walk_56 : decode cX5_walk 56 = .ok (.istore 4, 2) := by decide +kernel
theorem dX5_walk_58 : decode cX5_walk 58 = .ok (.iload 4, 2) := by decide +kernel
theorem dX5_walk_60 : decode cX5_walk 60 = .ok (.iconst (-1), 1) := by decide +kernel
theorem dX5_walk_61 : decode cX5_walk 61 = .ok (.if_icmp .ne 6, 3) := by decide +kernel
theorem dX5_walk_64 : decode cX5_walk 64 = .ok (.goto 20, 3) := by decide +kernel
theorem dX5_walk_67 : decode cX5_walk 67 = .ok (.aload_n 0, 1) := by decide +kernel
theorem dX5_walk_68 : decode cX5_walk 68 = .ok (.iconst 0, 1) := by decide +kernel
theorem dX5_walk_69 : decode cX5_walk 69 = .ok (.iload 4, 2) := by decide +kernel
theorem dX5_walk_71 : decode cX5_walk 71 = .ok (.invokevirtual 124, 3) := by decide +kernel
theorem dX5_walk_74 : decode cX5_walk 74 = .ok (.pop, 1) := by decide +kernel
theorem dX5_walk_75 : decode cX5_walk 75 = .ok (.iinc 2 1, 3) := by decide +kernel
theorem dX5_walk_78 : decode cX5_walk 78 = .ok (.iinc 3 1, 3) := by decide +kernel
theorem dX5_walk_81 : decode cX5_walk 81 = .ok (.goto (-34), 3) := by decide +kernel
theorem dX5_walk_84 : decode cX5_walk 84 = .ok (.iload_n 2, 1) := by decide +kernel
theorem dX5_walk_85 : decode cX5_walk 85 = .ok (.ireturn, 1) := by decide +kernel
set_option maxRecDepth 100000 in
set_option maxHeartbeats 4000000 in
theorem v_X5_walk {X : zq_X} (C : zq_C X RX5 cX5_walk 5 zq_all rm_X5_walk) {h : zq_H} {t : Nat} {x1 : Int32} {out : ((Int32 × zq_H) ⊕ (Nat × zq_H))} (hF : f_X5_walk h t x1 = some out) (hE : ∀ q, out = .inl q → zq_End X cX5_walk 1 6 (some (.int q.1)) q.2) (hX : ∀ q, out = .inr q → zq_Thr X 1 6 q.1 q.2) : zq_W X 0 0 h 0 [(0, .ref t), (1, .int x1)] [] := by
  unfold f_X5_walk at hF
  refine zq_iload_n (pc' := 1) C dX5_walk_0 rfl rfl rfl ?_
  refine zq_iconst (pc' := 2) C 1 dX5_walk_1 rfl (by decide) ?_
  refine zq_icmp_lt (pc' := 5) C 11 dX5_walk_2 (by decide) rfl (fun c_1 => ?_) (fun c_1 => ?_)
  · have hF := (zq_ifp hF c_1)
    skip
    have hF := Option.some.inj hF
    subst hF
    exact zq_throwS C 0 "flips is out of range" (by decide) (by decide +kernel) dX5_walk_11 dX5_walk_14 dX5_walk_15 dX5_walk_17 dX5_walk_20 (by decide) (Nat.le_of_ble_eq_true rfl) ⟨Nat.le_of_ble_eq_true rfl, Nat.le_of_ble_eq_true rfl⟩ ⟨Nat.le_of_ble_eq_true rfl, Nat.le_of_ble_eq_true rfl⟩ (hX _ rfl)
  · have hF := (zq_ifn hF c_1)
    refine zq_iload_n (pc' := 6) C dX5_walk_5 rfl rfl rfl ?_
    refine zq_bipush (pc' := 8) C 20 dX5_walk_6 rfl (by decide) ?_
    refine zq_icmp_le (pc' := 11) C 21 dX5_walk_8 (by decide) rfl (fun c_2 => ?_) (fun c_2 => ?_)
    · have hF := (zq_ifp hF c_2)
      skip
      refine zq_aload_n (pc' := 22) C dX5_walk_21 rfl rfl rfl ?_
      replace hF := zq_ck_e hF; obtain ⟨e_5, hF⟩ := hF
      replace hF := zq_bd hF; obtain ⟨v_3, e_4, hF⟩ := hF
      refine zq_cV (pc' := 25) C (c_X5_distanceWithLocks e_4) yv_X5_distanceWithLocks wd_303 zq_K5 e_5 dX5_walk_22 rfl rfl rfl ⟨Nat.le_of_ble_eq_true rfl, Nat.le_of_ble_eq_true rfl⟩ (Nat.le_of_ble_eq_true rfl) ⟨rfl, rfl⟩ ⟨Nat.le_of_ble_eq_true rfl, Nat.le_of_ble_eq_true rfl⟩ rfl ?_
      refine zq_iconst (pc' := 26) C (-1) dX5_walk_25 rfl (by decide) ?_
      refine zq_icmp_ne (pc' := 29) C 39 dX5_walk_26 (by decide) rfl (fun c_6 => ?_) (fun c_6 => ?_)
      · have hF := (zq_ifn hF c_6)
        skip
        refine zq_aload_n (pc' := 40) C dX5_walk_39 rfl rfl rfl ?_
        replace hF := zq_ck_e hF; obtain ⟨e_9, hF⟩ := hF
        replace hF := zq_bd hF; obtain ⟨v_7, e_8, hF⟩ := hF
        refine zq_cV (pc' := 43) C (c_X5_saveState e_8) yv_X5_saveState wd_245 zq_K5 e_9 dX5_walk_40 rfl rfl rfl ⟨Nat.le_of_ble_eq_true rfl, Nat.le_of_ble_eq_true rfl⟩ (Nat.le_of_ble_eq_true rfl) ⟨rfl, rfl⟩ ⟨Nat.le_of_ble_eq_true rfl, Nat.le_of_ble_eq_true rfl⟩ rfl ?_
        refine zq_iconst (pc' := 44) C 0 dX5_walk_43 rfl (by decide) ?_
        refine zq_istore_n (lv' := [(2, .int 0), (0, .ref t), (1, .int x1)]) (pc' := 45) C dX5_walk_44 rfl rfl (by decide) rfl rfl ?_
        refine zq_iconst (pc' := 46) C 0 dX5_walk_45 rfl (by decide) ?_
        refine zq_istore_n (lv' := [(3, .int 0), (2, .int 0), (0, .ref t), (1, .int x1)]) (pc' := 47) C dX5_walk_46 rfl rfl (by decide) rfl rfl ?_
        refine zq_sub [2, 3, 1, 0] rfl ?_
        replace hF := zq_bd hF; obtain ⟨r_11, e_12, hF⟩ := hF
        refine zq_lpW (fun s_10 => zq_W X 0 0 s_10.2.2 47 [(0, .ref t), (1, .int x1), (2, .int s_10.1), (3, .int s_10.2.1)] []) (fun y_13 => zq_W X 0 0 y_13.2 84 [(2, .int y_13.1)] []) e_12 (fun s_10 q_17 hF hrec_15 hex_16 => ?_) ?_
        · skip
          refine zq_iload_n (pc' := 48) C dX5_walk_47 rfl rfl rfl ?_
          refine zq_iload_n (pc' := 49) C dX5_walk_48 rfl rfl rfl ?_
          refine zq_icmp_ge (pc' := 52) C 84 dX5_walk_49 (by decide) rfl (fun c_18 => ?_) (fun c_18 => ?_)
          · have hF := (zq_ifp hF c_18)
            skip
            cases hF
            exact zq_sub [2] rfl (hex_16 _ rfl)
          · have hF := (zq_ifn hF c_18)
            refine zq_aload_n (pc' := 53) C dX5_walk_52 rfl rfl rfl ?_
            replace hF := zq_ck_e hF; obtain ⟨e_21, hF⟩ := hF
            replace hF := zq_bd hF; obtain ⟨v_19, e_20, hF⟩ := hF
            refine zq_cV (pc' := 56) C (c_X5_nextFlip e_20) yv_X5_nextFlip wd_306 zq_K5 e_21 dX5_walk_53 rfl rfl rfl ⟨Nat.le_of_ble_eq_true rfl, Nat.le_of_ble_eq_true rfl⟩ (Nat.le_of_ble_eq_true rfl) ⟨rfl, rfl⟩ ⟨Nat.le_of_ble_eq_true rfl, Nat.le_of_ble_eq_true rfl⟩ rfl ?_
            refine zq_istore (lv' := [(4, .int v_19.1), (0, .ref t), (1, .int x1), (2, .int s_10.1), (3, .int s_10.2.1)]) (pc' := 58) C dX5_walk_56 rfl (by decide) rfl rfl ?_
            refine zq_iload (pc' := 60) C dX5_walk_58 rfl rfl ?_
            refine zq_iconst (pc' := 61) C (-1) dX5_walk_60 rfl (by decide) ?_
            refine zq_icmp_ne (pc' := 64) C 67 dX5_walk_61 (by decide) rfl (fun c_22 => ?_) (fun c_22 => ?_)
            · have hF := (zq_ifn hF c_22)
              skip
              refine zq_aload_n (pc' := 68) C dX5_walk_67 rfl rfl rfl ?_
              refine zq_iconst (pc' := 69) C 0 dX5_walk_68 rfl (by decide) ?_
              refine zq_iload (pc' := 71) C dX5_walk_69 rfl rfl ?_
              replace hF := zq_ck_e hF; obtain ⟨e_25, hF⟩ := hF
              replace hF := zq_bd hF; obtain ⟨v_23, e_24, hF⟩ := hF
              refine zq_cV (pc' := 74) C (c_X5_makeFlip e_24) yv_X5_makeFlip wd_267 zq_K5 e_25 dX5_walk_71 rfl rfl rfl ⟨Nat.le_of_ble_eq_true rfl, Nat.le_of_ble_eq_true rfl⟩ (Nat.le_of_ble_eq_true rfl) ⟨rfl, rfl⟩ ⟨Nat.le_of_ble_eq_true rfl, Nat.le_of_ble_eq_true rfl⟩ rfl ?_
              refine zq_pop (pc' := 75) C dX5_walk_74 rfl rfl ?_
              replace hF := zq_let_e hF; obtain ⟨v_26, e_27, hF⟩ := hF
              refine zq_iinc (lv' := [(2, .int v_26), (4, .int v_19.1), (0, .ref t), (1, .int x1), (3, .int s_10.2.1)]) (pc' := 78) C dX5_walk_75 rfl (by decide) 3 rfl e_27 rfl ?_
              replace hF := zq_let_e hF; obtain ⟨v_28, e_29, hF⟩ := hF
              refine zq_iinc (lv' := [(3, .int v_28), (2, .int v_26), (4, .int v_19.1), (0, .ref t), (1, .int x1)]) (pc' := 81) C dX5_walk_78 rfl (by decide) 4 rfl e_29 rfl ?_
              refine zq_goto C 47 dX5_walk_81 (by decide) ?_
              cases hF
              exact zq_sub [3, 4, 1, 0] rfl (hrec_15 _ rfl)
            · have hF := (zq_ifp hF c_22)
              refine zq_goto C 84 dX5_walk_64 (by decide) ?_
              cases hF
              exact zq_sub [3] rfl (hex_16 _ rfl)
        · skip
          obtain ⟨y_13, rfl⟩ : ∃ z9, z9 = r_11 := ⟨_, rfl⟩
          show zq_W X 0 0 y_13.2 84 [(2, .int y_13.1)] []
          refine zq_iload_n (pc' := 85) C dX5_walk_84 rfl rfl rfl ?_
          have hF := Option.some.inj hF
          subst hF
          exact hE _ rfl _ _ _ _ (Nat.le_of_ble_eq_true rfl) (Nat.le_of_ble_eq_true rfl) dX5_walk_85
      · have hF := (zq_ifp hF c_6)
        have hF := Option.some.inj hF
        subst hF
        exact zq_throwS C 2 "there is no distance" (by decide) (by decide +kernel) dX5_walk_29 dX5_walk_32 dX5_walk_33 dX5_walk_35 dX5_walk_38 (by decide) (Nat.le_of_ble_eq_true rfl) ⟨Nat.le_of_ble_eq_true rfl, Nat.le_of_ble_eq_true rfl⟩ ⟨Nat.le_of_ble_eq_true rfl, Nat.le_of_ble_eq_true rfl⟩ (hX _ rfl)
    · have hF := (zq_ifn hF c_2)
      have hF := Option.some.inj hF
      subst hF
      exact zq_throwS C 0 "flips is out of range" (by decide) (by decide +kernel) dX5_walk_11 dX5_walk_14 dX5_walk_15 dX5_walk_17 dX5_walk_20 (by decide) (Nat.le_of_ble_eq_true rfl) ⟨Nat.le_of_ble_eq_true rfl, Nat.le_of_ble_eq_true rfl⟩ ⟨Nat.le_of_ble_eq_true rfl, Nat.le_of_ble_eq_true rfl⟩ (hX _ rfl)
theorem c_X5_walk {h : zq_H} {t : Nat} {x1 : Int32} {out : ((Int32 × zq_H) ⊕ (Nat × zq_H))} (hF : f_X5_walk h t x1 = some out) : zq_Mx yX5_walk (Cond.code yX5_walk cX5_walk 5 (some .int) :: zq_all) rm_X5_walk [.ref t, .int x1] h (zq_ox out) := zq_metx (own := RX5) (by decide +kernel) rfl (Nat.le_of_ble_eq_true rfl) rfl (fun X C _ _ hE hX => v_X5_walk C hF hE hX)
theorem yv_X5_walk : zq_calV yX5_walk RX5 cX5_walk 5 (some .int) 1 := ⟨by decide +kernel, wd_309, wd_723, wd_724, wd_95⟩
def f_X5_append (h : zq_H) (t : Nat) (x1 : Int32) : Option ((Int32 × zq_H) ⊕ (Nat × zq_H)) := (if x1 < 33 then some (.inr (0, h)) else (if x1 ≤ 126 then (Option.bind (zq_gr h t 5 5) fun v_3 => (zq_ck h v_3 4 fun _ => (Option.bind (f_X4_isFull h v_3) fun v_5 => (if v_5 = false then (Option.bind (zq_gr h t 5 5) fun v_9 => (zq_ck h v_9 4 fun _ => (Option.bind (f_X4_add h v_9 x1) fun v_11 => (Option.bind (zq_gr v_11 t 5 5) fun v_14 => (Option.bind (zq_gi v_11 v_14 4 1) fun v_16 => some ((.inl (v_16, v_11)))))))) else some (.inr (2, h)))))) else some (.inr (0, h))))
abbrev rm_X5_append : Room := { frames := 6, cells := 1, slots := 6, locals := 98 }
theorem dX5_append_0 : decode cX5_append 0 = .ok (.iload_n 1, 1) := by decide +kernel
theorem dX5_append_1 : decode cX5_append 1 = .ok (.bipush 33, 2) := by decide +kernel
theorem dX5_append_3 : decode cX5_append 3 = .ok (.if_icmp .lt 9, 3) := by decide +kernel
theorem dX5_append_6 : decode cX5_append 6 = .ok (.iload_n 1, 1) := by decide +kernel
theorem dX5_append_7 : decode cX5_append 7 = .ok (.bipush 126, 2) := by decide +kernel
theorem dX5_append_9 : decode cX5_append 9 = .ok (.if_icmp .le 13, 3) := by decide +kernel
theorem dX5_append_12 : decode cX5_append 12 = .ok (.new 73, 3) := by decide +kernel
theorem dX5_append_15 : decode cX5_append 15 = .ok (.dup, 1) := by decide +kernel
theorem dX5_append_16 : decode cX5_append 16 = .ok (.ldc 178, 2) := by decide +kernel
theorem dX5_append_18 : decode cX5_append 18 = .ok (.invokespecial 77, 3) := by decide +kernel
theorem dX5_append_21 : decode cX5_append 21 = .ok (.athrow, 1) := by decide +kernel
theorem dX5_append_22 : decode cX5_append 22 = .ok (.aload_n 0, 1) := by decide +kernel
theorem dX5_append_23 : decode cX5_append 23 = .ok (.getfield 48, 3) := by decide +kernel
theorem dX5_append_26 : decode cX5_append 26 = .ok (.invokevirtual 180, 3) := by decide +kernel
theorem dX5_append_29 : decode cX5_append 29 = .ok (.ifCond .eq 13, 3) := by decide +kernel
theorem dX5_append_32 : decode cX5_append 32 = .ok (.new 119, 3) := by decide +kernel
theorem dX5_append_35 : decode cX5_append 35 = .ok (.dup, 1) := by decide +kernel
theorem dX5_append_36 : decode cX5_append 36 = .ok (.ldc 184, 2) := by decide +kernel
theorem dX5_append_38 : decode cX5_append 38 = .ok (.invokespecial 123, 3) := by decide +kernel
theorem dX5_append_41 : decode cX5_append 41 = .ok (.athrow, 1) := by decide +kernel
theorem dX5_append_42 : decode cX5_append 42 = .ok (.aload_n 0, 1) := by decide +kernel
theorem dX5_append_43 : decode cX5_append 43 = .ok (.getfield 48, 3) := by decide +kernel
theorem dX5_append_46 : decode cX5_append 46 = .ok (.iload_n 1, 1) := by decide +kernel
theorem dX5_append_47 : decode cX5_append 47 = .ok (.invokevirtual 186, 3) := by decide +kernel
theorem dX5_append_50 : decode cX5_append 50 = .ok (.aload_n 0, 1) := by decide +kernel
theorem dX5_append_51 : decode cX5_append 51 = .ok (.getfield 48, 3) := by decide +kernel
theorem dX5_append_54 : decode cX5_append 54 = .ok (.getfield 189, 3) := by decide +kernel
theorem dX5_append_57 : decode cX5_append 57 = .ok (.ireturn, 1) := by decide +kernel
set_option maxRecDepth 100000 in
set_option maxHeartbeats 4000000 in
theorem v_X5_append {X : zq_X} (C : zq_C X RX5 cX5_append 2 zq_all rm_X5_append) {h : zq_H} {t : Nat} {x1 : Int32} {out : ((Int32 × zq_H) ⊕ (Nat × zq_H))} (hF : f_X5_append h t x1 = some out) (hE : ∀ q, out = .inl q → zq_End X cX5_append 1 6 (some (.int q.1)) q.2) (hX : ∀ q, out = .inr q → zq_Thr X 1 6 q.1 q.2) : zq_W X 0 0 h 0 [(0, .ref t), (1, .int x1)] [] := by
  unfold f_X5_append at hF
  refine zq_iload_n (pc' := 1) C dX5_append_0 rfl rfl rfl ?_
  refine zq_bipush (pc' := 3) C 33 dX5_append_1 rfl (by decide) ?_
  refine zq_icmp_lt (pc' := 6) C 12 dX5_append_3 (by decide) rfl (fun c_1 => ?_) (fun c_1 => ?_)
  · have hF := (zq_ifp hF c_1)
    skip
    have hF := Option.some.inj hF
    subst hF
    exact zq_throwS C 0 "the code is out of range" (by decide) (by decide +kernel) dX5_append_12 dX5_append_15 dX5_append_16 dX5_append_18 dX5_append_21 (by decide) (Nat.le_of_ble_eq_true rfl) ⟨Nat.le_of_ble_eq_true rfl, Nat.le_of_ble_eq_true rfl⟩ ⟨Nat.le_of_ble_eq_true rfl, Nat.le_of_ble_eq_true rfl⟩ (hX _ rfl)
  · have hF := (zq_ifn hF c_1)
    refine zq_iload_n (pc' := 7) C dX5_append_6 rfl rfl rfl ?_
    refine zq_bipush (pc' := 9) C 126 dX5_append_7 rfl (by decide) ?_
    refine zq_icmp_le (pc' := 12) C 22 dX5_append_9 (by decide) rfl (fun c_2 => ?_) (fun c_2 => ?_)
    · have hF := (zq_ifp hF c_2)
      skip
      refine zq_aload_n (pc' := 23) C dX5_append_22 rfl rfl rfl ?_
      replace hF := zq_bd hF; obtain ⟨v_3, e_4, hF⟩ := hF
      refine zq_getR (j := 5) (pc' := 26) C zq_K5 zq_in5w (Or.inl wd_215) (by decide) rfl dX5_append_23 rfl e_4 ?_
      replace hF := zq_ck_e hF; obtain ⟨e_7, hF⟩ := hF
      replace hF := zq_bd hF; obtain ⟨v_5, e_6, hF⟩ := hF
      refine zq_cV (pc' := 29) C (c_X4_isFull e_6) yv_X4_isFull wd_311 zq_K4 e_7 dX5_append_26 rfl rfl rfl ⟨Nat.le_of_ble_eq_true rfl, Nat.le_of_ble_eq_true rfl⟩ (Nat.le_of_ble_eq_true rfl) ⟨rfl, rfl⟩ ⟨Nat.le_of_ble_eq_true rfl, Nat.le_of_ble_eq_true rfl⟩ rfl ?_
      refine zq_if_eq (pc' := 32) C 42 dX5_append_29 (by decide) rfl (fun c_8 => ?_) (fun c_8 => ?_)
      · have hF := (zq_ifp hF (zq_b0.mp c_8))
        skip
        refine zq_aload_n (pc' := 43) C dX5_append_42 rfl rfl rfl ?_
        replace hF := zq_bd hF; obtain ⟨v_9, e_10, hF⟩ := hF
        refine zq_getR (j := 5) (pc' := 46) C zq_K5 zq_in5w (Or.inl wd_215) (by decide) rfl dX5_append_43 rfl e_10 ?_
        refine zq_iload_n (pc' := 47) C dX5_append_46 rfl rfl rfl ?_
        replace hF := zq_ck_e hF; obtain ⟨e_13, hF⟩ := hF
        replace hF := zq_bd hF; obtain ⟨v_11, e_12, hF⟩ := hF
        refine zq_cV (pc' := 50) C (c_X4_add e_12) yv_X4_add wd_314 zq_K4 e_13 dX5_append_47 rfl rfl rfl ⟨Nat.le_of_ble_eq_true rfl, Nat.le_of_ble_eq_true rfl⟩ (Nat.le_of_ble_eq_true rfl) ⟨rfl, rfl⟩ ⟨Nat.le_of_ble_eq_true rfl, Nat.le_of_ble_eq_true rfl⟩ rfl ?_
        refine zq_aload_n (pc' := 51) C dX5_append_50 rfl rfl rfl ?_
        replace hF := zq_bd hF; obtain ⟨v_14, e_15, hF⟩ := hF
        refine zq_getR (j := 5) (pc' := 54) C zq_K5 zq_in5w (Or.inl wd_215) (by decide) rfl dX5_append_51 rfl e_15 ?_
        replace hF := zq_bd hF; obtain ⟨v_16, e_17, hF⟩ := hF
        refine zq_getI (j := 1) (pc' := 57) C zq_K4 zq_in4w (Or.inr ⟨"FlipPolygons", by decide +kernel⟩) (by decide) rfl dX5_append_54 rfl e_17 ?_
        have hF := Option.some.inj hF
        subst hF
        exact hE _ rfl _ _ _ _ (Nat.le_of_ble_eq_true rfl) (Nat.le_of_ble_eq_true rfl) dX5_append_57
      · have hF := (zq_ifn hF (fun q => c_8 (zq_b0.mpr q)))
        have hF := Option.some.inj hF
        subst hF
        exact zq_throwS C 2 "the buffer is full" (by decide) (by decide +kernel) dX5_append_32 dX5_append_35 dX5_append_36 dX5_append_38 dX5_append_41 (by decide) (Nat.le_of_ble_eq_true rfl) ⟨Nat.le_of_ble_eq_true rfl, Nat.le_of_ble_eq_true rfl⟩ ⟨Nat.le_of_ble_eq_true rfl, Nat.le_of_ble_eq_true rfl⟩ (hX _ rfl)
    · have hF := (zq_ifn hF c_2)
      have hF := Option.some.inj hF
      subst hF
      exact zq_throwS C 0 "the code is out of range" (by decide) (by decide +kernel) dX5_append_12 dX5_append_15 dX5_append_16 dX5_append_18 dX5_append_21 (by decide) (Nat.le_of_ble_eq_true rfl) ⟨Nat.le_of_ble_eq_true rfl, Nat.le_of_ble_eq_true rfl⟩ ⟨Nat.le_of_ble_eq_true rfl, Nat.le_of_ble_eq_true rfl⟩ (hX _ rfl)
theorem c_X5_append {h : zq_H} {t : Nat} {x1 : Int32} {out : ((Int32 × zq_H) ⊕ (Nat × zq_H))} (hF : f_X5_append h t x1 = some out) : zq_Mx yX5_append (Cond.code yX5_append cX5_append 2 (some .int) :: zq_all) rm_X5_append [.ref t, .int x1] h (zq_ox out) := zq_metx (own := RX5) (by decide +kernel) rfl (Nat.le_of_ble_eq_true rfl) rfl (fun X C _ _ hE hX => v_X5_append C hF hE hX)
theorem yv_X5_append : zq_calV yX5_append RX5 cX5_append 2 (some .int) 1 := ⟨by decide +kernel, wd_310, wd_728, wd_729, wd_95⟩
def f_X5_read (h : zq_H) (t : Nat) (x1 : Int32) : Option ((Int32 × zq_H) ⊕ (Nat × zq_H)) := (Option.bind (f_X5_isWhich h x1) fun v_1 => (if v_1 = false then some (.inr (1, h)) else (Option.bind (zq_gr h t 5 5) fun v_4 => (Option.bind (zq_gr h t 5 1) fun v_6 => (Option.bind (zq_gr h v_6 3 0) fun v_8 => (Option.bind (zq_gr h v_8 0 0) fun v_10 => (zq_ck h v_4 4 fun _ => (Option.bind (f_X4_isComplete h v_4 v_10) fun v_12 => (if v_12 = false then some (.inr (0, h)) else (Option.bind (zq_gr h t 5 5) fun v_16 => (Option.bind (zq_gr h t 5 1) fun v_18 => (Option.bind (zq_gr h v_18 3 0) fun v_20 => (Option.bind (zq_gr h v_20 0 0) fun v_22 => (zq_ck h v_16 4 fun _ => (Option.bind (f_X4_maskIn h v_16 v_22) fun v_24 => (if v_24 = (-1) then some (.inr (2, h)) else (zq_ck h t 5 fun _ => (Option.bind (f_X5_saveState h t) fun v_28 => (zq_ck v_28 t 5 fun _ => (Option.bind (f_X5_putNew v_28 t x1 v_24) fun v_31 => (Option.bind (zq_gr v_31 t 5 5) fun v_34 => (zq_ck v_31 v_34 4 fun _ => (Option.bind (f_X4_clear v_31 v_34) fun v_36 => some ((.inl (v_24, v_36))))))))))))))))))))))))))
abbrev rm_X5_read : Room := { frames := 6, cells := 1, slots := 6, locals := 109 }
theorem dX5_read_0 : decode cX5_read 0 = .ok (.iload_n 1, 1) := by decide +kernel
theorem dX5_read_1 : decode cX5_read 1 = .ok (.invokestatic 99, 3) := by decide +kernel
theorem dX5_read_4 : decode cX5_read 4 = .ok (.ifCond .ne 13, 3) := by decide +kernel
theorem dX5_read_7 : decode cX5_read 7 = .ok (.new 103, 3) := by decide +kernel
theorem dX5_read_10 : decode cX5_read 10 = .ok (.dup, 1) := by decide +kernel
theorem dX5_read_11 : decode cX5_read 11 = .ok (.ldc 144, 2) := by decide +kernel
theorem dX5_read_13 : decode cX5_read 13 = .ok (.invokespecial 107, 3) := by decide +kernel
theorem dX5_read_16 : decode cX5_read 16 = .ok (.athrow, 1) := by decide +kernel
theorem dX5_read_17 : decode cX5_read 17 = .ok (.aload_n 0, 1) := by decide +kernel
theorem dX5_read_18 : decode cX5_read 18 = .ok (.getfield 48, 3) := by decide +kernel
theorem dX5_read_21 : decode cX5_read 21 = .ok (.aload_n 0, 1) := by decide +kernel
theorem dX5_read_22 : decode cX5_read 22 = .ok (.getfield 30, 3) := by decide +kernel
theorem dX5_read_25 : decode cX5_read 25 = .ok (.getfield 83, 3) := by decide +kernel
theorem dX5_read_28 : decode cX5_read 28 = .ok (.getfield 87, 3) := by decide +kernel
theorem dX5_read_31 : decode cX5_read 31 = .ok (.invokevirtual 199, 3) := by decide +kernel
theorem dX5_read_34 : decode cX5_read 34 = .ok (.ifCond .ne 13, 3) := by decide +kernel
theorem dX5_read_37 : decode cX5_read 37 = .ok (.new 73, 3) := by decide +kernel
theorem dX5_read_40 : decode cX5_read 40 = .ok (.dup, 1) := by decide +kernel
theorem dX5_read_41 : decode cX5_read 41 = .ok (.ldc 203, 2) := by decide +kernel
theorem dX5_read_43 : decode cX5_read 43 = .ok (.invokespecial 77, 3) := by decide +kernel
theorem dX5_read_46 : decode cX5_read 46 = .ok (.athrow, 1) := by decide +kernel
theorem dX5_read_47 : decode cX5_read 47 = .ok (.aload_n 0, 1) := by decide +kernel
theorem dX5_read_48 : decode cX5_read 48 = .ok (.getfield 48, 3) := by decide +kernel
theorem dX5_read_51 : decode cX5_read 51 = .ok (.aload_n 0, 1) := by decide +kernel
theorem dX5_read_52 : decode cX5_read 52 = .ok (.getfield 30, 3) := by decide +kernel
theorem dX5_read_55 : decode cX5_read 55 = .ok (.getfield 83, 3) := by decide +kernel
theorem dX5_read_58 : decode cX5_read 58 = .ok (.getfield 87, 3) := by decide +kernel
theorem dX5_read_61 : decode cX5_read 61 = .ok (.invokevirtual 205, 3) := by decide +kernel
theorem dX5_read_64 : decode cX5_read 64 = .ok (.istore_n 2, 1) := by decide +kernel
theorem dX5_read_65 : decode cX5_read 65 = .ok (.iload_n 2, 1) := by decide +kernel
theorem dX5_read_66 : decode cX5_read 66 = .ok (.iconst (-1), 1) := by decide +kernel
theorem dX5_read_67 : decode cX5_read 67 = .ok (.if_icmp .ne 13, 3) := by decide +kernel
theorem dX5_read_70 : decode cX5_read 70 = .ok (.new 119, 3) := by decide +kernel
theorem dX5_read_73 : decode cX5_read 73 = .ok (.dup, 1) := by decide +kernel
theorem dX5_read_74 : decode cX5_read 74 = .ok (.ldc 208, 2) := by decide +kernel
theorem dX5_read_76 : decode cX5_read 76 = .ok (.invokespecial 123, 3) := by decide +kernel
theorem dX5_read_79 : decode cX5_read 79 = .ok (.athrow, 1) := by decide +kernel
theorem dX5_read_80 : decode cX5_read 80 = .ok (.aload_n 0, 1) := by decide +kernel
theorem dX5_read_81 : decode cX5_read 81 = .ok (.invokevirtual 80, 3) := by decide +kernel
theorem dX5_read_84 : decode cX5_read 84 = .ok (.aload_n 0, 1) := by decide +kernel
theorem dX5_read_85 : decode cX5_read 85 = .ok (.iload_n 1, 1) := by decide +kernel
theorem dX5_read_86 : decode cX5_read 86 = .ok (.iload_n 2, 1) := by decide +kernel
theorem dX5_read_87 : decode cX5_read 87 = .ok (.invokevirtual 140, 3) := by decide +kernel
theorem dX5_read_90 : decode cX5_read 90 = .ok (.aload_n 0, 1) := by decide +kernel
theorem dX5_read_91 : decode cX5_read 91 = .ok (.getfield 48, 3) := by decide +kernel
theorem dX5_read_94 : decode cX5_read 94 = .ok (.invokevirtual 192, 3) := by decide +kernel
theorem dX5_read_97 : decode cX5_read 97 = .ok (.iload_n 2, 1) := by decide +kernel
theorem dX5_read_98 : decode cX5_read 98 = .ok (.ireturn, 1) := by decide +kernel
set_option maxRecDepth 100000 in
set_option maxHeartbeats 4000000 in
theorem v_X5_read {X : zq_X} (C : zq_C X RX5 cX5_read 3 zq_all rm_X5_read) {h : zq_H} {t : Nat} {x1 : Int32} {out : ((Int32 × zq_H) ⊕ (Nat × zq_H))} (hF : f_X5_read h t x1 = some out) (hE : ∀ q, out = .inl q → zq_End X cX5_read 1 6 (some (.int q.1)) q.2) (hX : ∀ q, out = .inr q → zq_Thr X 1 6 q.1 q.2) : zq_W X 0 0 h 0 [(0, .ref t), (1, .int x1)] [] := by
  unfold f_X5_read at hF
  refine zq_iload_n (pc' := 1) C dX5_read_0 rfl rfl rfl ?_
  replace hF := zq_bd hF; obtain ⟨v_1, e_2, hF⟩ := hF
  refine zq_cS (pc' := 4) C (c_X5_isWhich e_2) ys_X5_isWhich wd_264 dX5_read_1 rfl rfl rfl ⟨Nat.le_of_ble_eq_true rfl, Nat.le_of_ble_eq_true rfl⟩ (Nat.le_of_ble_eq_true rfl) ⟨rfl, rfl⟩ ⟨Nat.le_of_ble_eq_true rfl, Nat.le_of_ble_eq_true rfl⟩ rfl ?_
  refine zq_if_ne (pc' := 7) C 17 dX5_read_4 (by decide) rfl (fun c_3 => ?_) (fun c_3 => ?_)
  · have hF := (zq_ifn hF (fun q => c_3 (zq_b0.mpr q)))
    skip
    refine zq_aload_n (pc' := 18) C dX5_read_17 rfl rfl rfl ?_
    replace hF := zq_bd hF; obtain ⟨v_4, e_5, hF⟩ := hF
    refine zq_getR (j := 5) (pc' := 21) C zq_K5 zq_in5w (Or.inl wd_215) (by decide) rfl dX5_read_18 rfl e_5 ?_
    refine zq_aload_n (pc' := 22) C dX5_read_21 rfl rfl rfl ?_
    replace hF := zq_bd hF; obtain ⟨v_6, e_7, hF⟩ := hF
    refine zq_getR (j := 1) (pc' := 25) C zq_K5 zq_in5w (Or.inl wd_210) (by decide) rfl dX5_read_22 rfl e_7 ?_
    replace hF := zq_bd hF; obtain ⟨v_8, e_9, hF⟩ := hF
    refine zq_getR (j := 0) (pc' := 28) C zq_K3 zq_in3w (Or.inr ⟨"FlipPolygons", by decide +kernel⟩) (by decide) rfl dX5_read_25 rfl e_9 ?_
    replace hF := zq_bd hF; obtain ⟨v_10, e_11, hF⟩ := hF
    refine zq_getR (j := 0) (pc' := 31) C zq_K0 zq_in0w (Or.inr ⟨"FlipPolygons", by decide +kernel⟩) (by decide) rfl dX5_read_28 rfl e_11 ?_
    replace hF := zq_ck_e hF; obtain ⟨e_14, hF⟩ := hF
    replace hF := zq_bd hF; obtain ⟨v_12, e_13, hF⟩ := hF
    refine zq_cV (pc' := 34) C (c_X4_isComplete e_13) yv_X4_isComplete wd_323 zq_K4 e_14 dX5_read_31 rfl rfl rfl ⟨Nat.le_of_ble_eq_true rfl, Nat.le_of_ble_eq_true rfl⟩ (Nat.le_of_ble_eq_true rfl) ⟨rfl, rfl⟩ ⟨Nat.le_of_ble_eq_true rfl, Nat.le_of_ble_eq_true rfl⟩ rfl ?_
    refine zq_if_ne (pc' := 37) C 47 dX5_read_34 (by decide) rfl (fun c_15 => ?_) (fun c_15 => ?_)
    · have hF := (zq_ifn hF (fun q => c_15 (zq_b0.mpr q)))
      skip
      refine zq_aload_n (pc' := 48) C dX5_read_47 rfl rfl rfl ?_
      replace hF := zq_bd hF; obtain ⟨v_16, e_17, hF⟩ := hF
      refine zq_getR (j := 5) (pc' := 51) C zq_K5 zq_in5w (Or.inl wd_215) (by decide) rfl dX5_read_48 rfl e_17 ?_
      refine zq_aload_n (pc' := 52) C dX5_read_51 rfl rfl rfl ?_
      replace hF := zq_bd hF; obtain ⟨v_18, e_19, hF⟩ := hF
      refine zq_getR (j := 1) (pc' := 55) C zq_K5 zq_in5w (Or.inl wd_210) (by decide) rfl dX5_read_52 rfl e_19 ?_
      replace hF := zq_bd hF; obtain ⟨v_20, e_21, hF⟩ := hF
      refine zq_getR (j := 0) (pc' := 58) C zq_K3 zq_in3w (Or.inr ⟨"FlipPolygons", by decide +kernel⟩) (by decide) rfl dX5_read_55 rfl e_21 ?_
      replace hF := zq_bd hF; obtain ⟨v_22, e_23, hF⟩ := hF
      refine zq_getR (j := 0) (pc' := 61) C zq_K0 zq_in0w (Or.inr ⟨"FlipPolygons", by decide +kernel⟩) (by decide) rfl dX5_read_58 rfl e_23 ?_
      replace hF := zq_ck_e hF; obtain ⟨e_26, hF⟩ := hF
      replace hF := zq_bd hF; obtain ⟨v_24, e_25, hF⟩ := hF
      refine zq_cV (pc' := 64) C (c_X4_maskIn e_25) yv_X4_maskIn wd_326 zq_K4 e_26 dX5_read_61 rfl rfl rfl ⟨Nat.le_of_ble_eq_true rfl, Nat.le_of_ble_eq_true rfl⟩ (Nat.le_of_ble_eq_true rfl) ⟨rfl, rfl⟩ ⟨Nat.le_of_ble_eq_true rfl, Nat.le_of_ble_eq_true rfl⟩ rfl ?_
      refine zq_istore_n (lv' := [(2, .int v_24), (0, .ref t), (1, .int x1)]) (pc' := 65) C dX5_read_64 rfl rfl (by decide) rfl rfl ?_
      refine zq_iload_n (pc' := 66) C dX5_read_65 rfl rfl rfl ?_
      refine zq_iconst (pc' := 67) C (-1) dX5_read_66 rfl (by decide) ?_
      refine zq_icmp_ne (pc' := 70) C 80 dX5_read_67 (by decide) rfl (fun c_27 => ?_) (fun c_27 => ?_)
      · have hF := (zq_ifn hF c_27)
        skip
        refine zq_aload_n (pc' := 81) C dX5_read_80 rfl rfl rfl ?_
        replace hF := zq_ck_e hF; obtain ⟨e_30, hF⟩ := hF
        replace hF := zq_bd hF; obtain ⟨v_28, e_29, hF⟩ := hF
        refine zq_cV (pc' := 84) C (c_X5_saveState e_29) yv_X5_saveState wd_245 zq_K5 e_30 dX5_read_81 rfl rfl rfl ⟨Nat.le_of_ble_eq_true rfl, Nat.le_of_ble_eq_true rfl⟩ (Nat.le_of_ble_eq_true rfl) ⟨rfl, rfl⟩ ⟨Nat.le_of_ble_eq_true rfl, Nat.le_of_ble_eq_true rfl⟩ rfl ?_
        refine zq_aload_n (pc' := 85) C dX5_read_84 rfl rfl rfl ?_
        refine zq_iload_n (pc' := 86) C dX5_read_85 rfl rfl rfl ?_
        refine zq_iload_n (pc' := 87) C dX5_read_86 rfl rfl rfl ?_
        replace hF := zq_ck_e hF; obtain ⟨e_33, hF⟩ := hF
        replace hF := zq_bd hF; obtain ⟨v_31, e_32, hF⟩ := hF
        refine zq_cV (pc' := 90) C (c_X5_putNew e_32) yv_X5_putNew wd_275 zq_K5 e_33 dX5_read_87 rfl rfl rfl ⟨Nat.le_of_ble_eq_true rfl, Nat.le_of_ble_eq_true rfl⟩ (Nat.le_of_ble_eq_true rfl) ⟨rfl, rfl⟩ ⟨Nat.le_of_ble_eq_true rfl, Nat.le_of_ble_eq_true rfl⟩ rfl ?_
        refine zq_aload_n (pc' := 91) C dX5_read_90 rfl rfl rfl ?_
        replace hF := zq_bd hF; obtain ⟨v_34, e_35, hF⟩ := hF
        refine zq_getR (j := 5) (pc' := 94) C zq_K5 zq_in5w (Or.inl wd_215) (by decide) rfl dX5_read_91 rfl e_35 ?_
        replace hF := zq_ck_e hF; obtain ⟨e_38, hF⟩ := hF
        replace hF := zq_bd hF; obtain ⟨v_36, e_37, hF⟩ := hF
        refine zq_cV (pc' := 97) C (c_X4_clear e_37) yv_X4_clear wd_318 zq_K4 e_38 dX5_read_94 rfl rfl rfl ⟨Nat.le_of_ble_eq_true rfl, Nat.le_of_ble_eq_true rfl⟩ (Nat.le_of_ble_eq_true rfl) ⟨rfl, rfl⟩ ⟨Nat.le_of_ble_eq_true rfl, Nat.le_of_ble_eq_true rfl⟩ rfl ?_
        refine zq_iload_n (pc' := 98) C dX5_read_97 rfl rfl rfl ?_
        have hF := Option.some.inj hF
        subst hF
        exact hE _ rfl _ _ _ _ (Nat.le_of_ble_eq_true rfl) (Nat.le_of_ble_eq_true rfl) dX5_read_98
      · have hF := (zq_ifp hF c_27)
        have hF := Option.some.inj hF
        subst hF
        exact zq_throwS C 2 "a diagonal is told twice, or two of them cross" (by decide) (by decide +kernel) dX5_read_70 dX5_read_73 dX5_read_74 dX5_read_76 dX5_read_79 (by decide) (Nat.le_of_ble_eq_true rfl) ⟨Nat.le_of_ble_eq_true rfl, Nat.le_of_ble_eq_true rfl⟩ ⟨Nat.le_of_ble_eq_true rfl, Nat.le_of_ble_eq_true rfl⟩ (hX _ rfl)
    · have hF := (zq_ifp hF (zq_b0.mp c_15))
      have hF := Option.some.inj hF
      subst hF
      exact zq_throwS C 0 "the buffer is not a complete triangulation" (by decide) (by decide +kernel) dX5_read_37 dX5_read_40 dX5_read_41 dX5_read_43 dX5_read_46 (by decide) (Nat.le_of_ble_eq_true rfl) ⟨Nat.le_of_ble_eq_true rfl, Nat.le_of_ble_eq_true rfl⟩ ⟨Nat.le_of_ble_eq_true rfl, Nat.le_of_ble_eq_true rfl⟩ (hX _ rfl)
  · have hF := (zq_ifp hF (zq_b0.mp c_3))
    have hF := Option.some.inj hF
    subst hF
    exact zq_throwS C 1 "no such triangulation" (by decide) (by decide +kernel) dX5_read_7 dX5_read_10 dX5_read_11 dX5_read_13 dX5_read_16 (by decide) (Nat.le_of_ble_eq_true rfl) ⟨Nat.le_of_ble_eq_true rfl, Nat.le_of_ble_eq_true rfl⟩ ⟨Nat.le_of_ble_eq_true rfl, Nat.le_of_ble_eq_true rfl⟩ (hX _ rfl)
theorem c_X5_read {h : zq_H} {t : Nat} {x1 : Int32} {out : ((Int32 × zq_H) ⊕ (Nat × zq_H))} (hF : f_X5_read h t x1 = some out) : zq_Mx yX5_read (Cond.code yX5_read cX5_read 3 (some .int) :: zq_all) rm_X5_read [.ref t, .int x1] h (zq_ox out) := zq_metx (own := RX5) (by decide +kernel) rfl (Nat.le_of_ble_eq_true rfl) rfl (fun X C _ _ hE hX => v_X5_read C hF hE hX)
theorem yv_X5_read : zq_calV yX5_read RX5 cX5_read 3 (some .int) 1 := ⟨by decide +kernel, wd_329, wd_731, wd_732, wd_95⟩
def f_X5_take (h : zq_H) (t : Nat) (x1 : Int32) : Option ((Int32 × zq_H) ⊕ (Nat × zq_H)) := (zq_ck h t 5 fun _ => (Option.bind (f_X5_isSnapshot h t x1) fun v_1 => (if v_1 = false then some (.inr (1, h)) else (Option.bind (zq_gr h t 5 4) fun v_5 => (Option.bind (zq_aq h v_5 13 x1) fun v_7 => (Option.bind (zq_gr h t 5 1) fun v_9 => (zq_ck h v_7 3 fun _ => (Option.bind (f_X3_copy h v_7 v_9) fun v_11 => (Option.bind (zq_gr v_11 t 5 1) fun v_14 => (Option.bind (zq_gr v_11 v_14 3 0) fun v_16 => (Option.bind (zq_gr v_11 v_16 0 0) fun v_18 => (Option.bind (zq_gi v_11 v_18 1 0) fun v_20 => some ((.inl (v_20, v_11)))))))))))))))
abbrev rm_X5_take : Room := { frames := 6, cells := 1, slots := 6, locals := 98 }
theorem dX5_take_0 : decode cX5_take 0 = .ok (.aload_n 0, 1) := by decide +kernel
theorem dX5_take_1 : decode cX5_take 1 = .ok (.iload_n 1, 1) := by decide +kernel
theorem dX5_take_2 : decode cX5_take 2 = .ok (.invokevirtual 210, 3) := by decide +kernel
theorem dX5_take_5 : decode cX5_take 5 = .ok (.ifCond .ne 13, 3) := by decide +kernel
theorem dX5_take_8 : decode cX5_take 8 = .ok (.new 103, 3) := by decide +kernel
theorem dX5_take_11 : decode cX5_take 11 = .ok (.dup, 1) := by decide +kernel
theorem dX5_take_12 : decode cX5_take 12 = .ok (.ldc 213, 2) := by decide +kernel
theorem dX5_take_14 : decode cX5_take 14 = .ok (.invokespecial 107, 3) := by decide +kernel
theorem dX5_take_17 : decode cX5_take 17 = .ok (.athrow, 1) := by decide +kernel
theorem dX5_take_18 : decode cX5_take 18 = .ok (.aload_n 0, 1) := by decide +kernel
theorem dX5_take_19 : decode cX5_take 19 = .ok (.getfield 42, 3) := by decide +kernel
theorem dX5_take_22 : decode cX5_take 22 = .ok (.iload_n 1, 1) := by decide +kernel
theorem dX5_take_23 : decode cX5_take 23 = .ok (.aaload, 1) := by decide +kernel
theorem dX5_take_24 : decode cX5_take 24 = .ok (.aload_n 0, 1) := by decide +kernel
theorem dX5_take_25 : decode cX5_take 25 = .ok (.getfield 30, 3) := by decide +kernel
theorem dX5_take_28 : decode cX5_take 28 = .ok (.invokevirtual 215, 3) := by decide +kernel
theorem dX5_take_31 : decode cX5_take 31 = .ok (.aload_n 0, 1) := by decide +kernel
theorem dX5_take_32 : decode cX5_take 32 = .ok (.getfield 30, 3) := by decide +kernel
theorem dX5_take_35 : decode cX5_take 35 = .ok (.getfield 83, 3) := by decide +kernel
theorem dX5_take_38 : decode cX5_take 38 = .ok (.getfield 87, 3) := by decide +kernel
theorem dX5_take_41 : decode cX5_take 41 = .ok (.getfield 91, 3) := by decide +kernel
theorem dX5_take_44 : decode cX5_take 44 = .ok (.ireturn, 1) := by decide +kernel
set_option maxRecDepth 100000 in
set_option maxHeartbeats 4000000 in
theorem v_X5_take {X : zq_X} (C : zq_C X RX5 cX5_take 2 zq_all rm_X5_take) {h : zq_H} {t : Nat} {x1 : Int32} {out : ((Int32 × zq_H) ⊕ (Nat × zq_H))} (hF : f_X5_take h t x1 = some out) (hE : ∀ q, out = .inl q → zq_End X cX5_take 1 6 (some (.int q.1)) q.2) (hX : ∀ q, out = .inr q → zq_Thr X 1 6 q.1 q.2) : zq_W X 0 0 h 0 [(0, .ref t), (1, .int x1)] [] := by
  unfold f_X5_take at hF
  refine zq_aload_n (pc' := 1) C dX5_take_0 rfl rfl rfl ?_
  refine zq_iload_n (pc' := 2) C dX5_take_1 rfl rfl rfl ?_
  replace hF := zq_ck_e hF; obtain ⟨e_3, hF⟩ := hF
  replace hF := zq_bd hF; obtain ⟨v_1, e_2, hF⟩ := hF
  refine zq_cV (pc' := 5) C (c_X5_isSnapshot e_2) yv_X5_isSnapshot wd_332 zq_K5 e_3 dX5_take_2 rfl rfl rfl ⟨Nat.le_of_ble_eq_true rfl, Nat.le_of_ble_eq_true rfl⟩ (Nat.le_of_ble_eq_true rfl) ⟨rfl, rfl⟩ ⟨Nat.le_of_ble_eq_true rfl, Nat.le_of_ble_eq_true rfl⟩ rfl ?_
  refine zq_if_ne (pc' := 8) C 18 dX5_take_5 (by decide) rfl (fun c_4 => ?_) (fun c_4 => ?_)
  · have hF := (zq_ifn hF (fun q => c_4 (zq_b0.mpr q)))
    skip
    refine zq_aload_n (pc' := 19) C dX5_take_18 rfl rfl rfl ?_
    replace hF := zq_bd hF; obtain ⟨v_5, e_6, hF⟩ := hF
    refine zq_getR (j := 4) (pc' := 22) C zq_K5 zq_in5w (Or.inl wd_212) (by decide) rfl dX5_take_19 rfl e_6 ?_
    refine zq_iload_n (pc' := 23) C dX5_take_22 rfl rfl rfl ?_
    replace hF := zq_bd hF; obtain ⟨v_7, e_8, hF⟩ := hF
    refine zq_aaload (pc' := 24) C 13 (by decide) dX5_take_23 rfl e_8 ?_
    refine zq_aload_n (pc' := 25) C dX5_take_24 rfl rfl rfl ?_
    replace hF := zq_bd hF; obtain ⟨v_9, e_10, hF⟩ := hF
    refine zq_getR (j := 1) (pc' := 28) C zq_K5 zq_in5w (Or.inl wd_210) (by decide) rfl dX5_take_25 rfl e_10 ?_
    replace hF := zq_ck_e hF; obtain ⟨e_13, hF⟩ := hF
    replace hF := zq_bd hF; obtain ⟨v_11, e_12, hF⟩ := hF
    refine zq_cV (pc' := 31) C (c_X3_copy e_12) yv_X3_copy wd_240 zq_K3 e_13 dX5_take_28 rfl rfl rfl ⟨Nat.le_of_ble_eq_true rfl, Nat.le_of_ble_eq_true rfl⟩ (Nat.le_of_ble_eq_true rfl) ⟨rfl, rfl⟩ ⟨Nat.le_of_ble_eq_true rfl, Nat.le_of_ble_eq_true rfl⟩ rfl ?_
    refine zq_aload_n (pc' := 32) C dX5_take_31 rfl rfl rfl ?_
    replace hF := zq_bd hF; obtain ⟨v_14, e_15, hF⟩ := hF
    refine zq_getR (j := 1) (pc' := 35) C zq_K5 zq_in5w (Or.inl wd_210) (by decide) rfl dX5_take_32 rfl e_15 ?_
    replace hF := zq_bd hF; obtain ⟨v_16, e_17, hF⟩ := hF
    refine zq_getR (j := 0) (pc' := 38) C zq_K3 zq_in3w (Or.inr ⟨"FlipPolygons", by decide +kernel⟩) (by decide) rfl dX5_take_35 rfl e_17 ?_
    replace hF := zq_bd hF; obtain ⟨v_18, e_19, hF⟩ := hF
    refine zq_getR (j := 0) (pc' := 41) C zq_K0 zq_in0w (Or.inr ⟨"FlipPolygons", by decide +kernel⟩) (by decide) rfl dX5_take_38 rfl e_19 ?_
    replace hF := zq_bd hF; obtain ⟨v_20, e_21, hF⟩ := hF
    refine zq_getI (j := 0) (pc' := 44) C zq_K1 zq_in1w (Or.inr ⟨"FlipPolygons", by decide +kernel⟩) (by decide) rfl dX5_take_41 rfl e_21 ?_
    have hF := Option.some.inj hF
    subst hF
    exact hE _ rfl _ _ _ _ (Nat.le_of_ble_eq_true rfl) (Nat.le_of_ble_eq_true rfl) dX5_take_44
  · have hF := (zq_ifp hF (zq_b0.mp c_4))
    have hF := Option.some.inj hF
    subst hF
    exact zq_throwS C 1 "no such snapshot" (by decide) (by decide +kernel) dX5_take_8 dX5_take_11 dX5_take_12 dX5_take_14 dX5_take_17 (by decide) (Nat.le_of_ble_eq_true rfl) ⟨Nat.le_of_ble_eq_true rfl, Nat.le_of_ble_eq_true rfl⟩ ⟨Nat.le_of_ble_eq_true rfl, Nat.le_of_ble_eq_true rfl⟩ (hX _ rfl)
theorem c_X5_take {h : zq_H} {t : Nat} {x1 : Int32} {out : ((Int32 × zq_H) ⊕ (Nat × zq_H))} (hF : f_X5_take h t x1 = some out) : zq_Mx yX5_take (Cond.code yX5_take cX5_take 2 (some .int) :: zq_all) rm_X5_take [.ref t, .int x1] h (zq_ox out) := zq_metx (own := RX5) (by decide +kernel) rfl (Nat.le_of_ble_eq_true rfl) rfl (fun X C _ _ hE hX => v_X5_take C hF hE hX)
theorem yv_X5_take : zq_calV yX5_take RX5 cX5_take 2 (some .int) 1 := ⟨by decide +kernel, wd_331, wd_736, wd_737, wd_95⟩
def f_X5_restore (h : zq_H) (t : Nat) (x1 : Int32) : Option ((Int32 × zq_H) ⊕ (Nat × zq_H)) := (zq_ck h t 5 fun _ => (Option.bind (f_X5_isSnapshot h t x1) fun v_1 => (if v_1 = false then some (.inr (1, h)) else (Option.bind (zq_gr h t 5 4) fun v_5 => (Option.bind (zq_aq h v_5 13 x1) fun v_7 => (Option.bind (zq_gq h v_7 3 0) fun v_9 => (if v_9 = none then some (.inr (2, h)) else (zq_ck h t 5 fun _ => (Option.bind (f_X5_saveState h t) fun v_12 => (Option.bind (zq_gr v_12 t 5 1) fun v_15 => (Option.bind (zq_gi v_12 v_15 3 4) fun v_17 => (Option.bind (zq_gr v_12 t 5 1) fun v_19 => (Option.bind (zq_gr v_12 t 5 4) fun v_21 => (Option.bind (zq_aq v_12 v_21 13 x1) fun v_23 => (zq_ck v_12 v_19 3 fun _ => (Option.bind (f_X3_copy v_12 v_19 v_23) fun v_25 => (Option.bind (zq_gr v_25 t 5 1) fun v_28 => (Option.bind (zq_pi v_25 v_28 3 4 v_17) fun h_30 => (Option.bind (zq_gr h_30 t 5 1) fun v_32 => (Option.bind (zq_gr h_30 v_32 3 0) fun v_34 => (Option.bind (zq_gr h_30 v_34 0 0) fun v_36 => (Option.bind (zq_gi h_30 v_36 1 0) fun v_38 => some ((.inl (v_38, h_30)))))))))))))))))))))))))
abbrev rm_X5_restore : Room := { frames := 6, cells := 1, slots := 6, locals := 98 }
theorem dX5_restore_0 : decode cX5_restore 0 = .ok (.aload_n 0, 1) := by decide +kernel
theorem dX5_restore_1 : decode cX5_restore 1 = .ok (.iload_n 1, 1) := by decide +kernel
theorem dX5_restore_2 : decode cX5_restore 2 = .ok (.invokevirtual 210, 3) := by decide +kernel
theorem dX5_restore_5 : decode cX5_restore 5 = .ok (.ifCond .ne 13, 3) := by decide +kernel
theorem dX5_restore_8 : decode cX5_restore 8 = .ok (.new 103, 3) := by decide +kernel
theorem dX5_restore_11 : decode cX5_restore 11 = .ok (.dup, 1) := by decide +kernel
theorem dX5_restore_12 : decode cX5_restore 12 = .ok (.ldc 213, 2) := by decide +kernel
theorem dX5_restore_14 : decode cX5_restore 14 = .ok (.invokespecial 107, 3) := by decide +kernel
theorem dX5_restore_17 : decode cX5_restore 17 = .ok (.athrow, 1) := by decide +kernel
theorem dX5_restore_18 : decode cX5_restore 18 = .ok (.aload_n 0, 1) := by decide +kernel
theorem dX5_restore_19 : decode cX5_restore 19 = .ok (.getfield 42, 3) := by decide +kernel
theorem dX5_restore_22 : decode cX5_restore 22 = .ok (.iload_n 1, 1) := by decide +kernel
theorem dX5_restore_23 : decode cX5_restore 23 = .ok (.aaload, 1) := by decide +kernel
theorem dX5_restore_24 : decode cX5_restore 24 = .ok (.getfield 83, 3) := by decide +kernel
theorem dX5_restore_27 : decode cX5_restore 27 = .ok (.ifnonnull 13, 3) := by decide +kernel
theorem dX5_restore_30 : decode cX5_restore 30 = .ok (.new 119, 3) := by decide +kernel
theorem dX5_restore_33 : decode cX5_restore 33 = .ok (.dup, 1) := by decide +kernel
theorem dX5_restore_34 : decode cX5_restore 34 = .ok (.ldc 219, 2) := by decide +kernel
theorem dX5_restore_36 : decode cX5_restore 36 = .ok (.invokespecial 123, 3) := by decide +kernel
theorem dX5_restore_39 : decode cX5_restore 39 = .ok (.athrow, 1) := by decide +kernel
theorem dX5_restore_40 : decode cX5_restore 40 = .ok (.aload_n 0, 1) := by decide +kernel
theorem dX5_restore_41 : decode cX5_restore 41 = .ok (.invokevirtual 80, 3) := by decide +kernel
theorem dX5_restore_44 : decode cX5_restore 44 = .ok (.aload_n 0, 1) := by decide +kernel
theorem dX5_restore_45 : decode cX5_restore 45 = .ok (.getfield 30, 3) := by decide +kernel
theorem dX5_restore_48 : decode cX5_restore 48 = .ok (.getfield 221, 3) := by decide +kernel
theorem dX5_restore_51 : decode cX5_restore 51 = .ok (.istore_n 2, 1) := by decide +kernel
theorem dX5_restore_52 : decode cX5_restore 52 = .ok (.aload_n 0, 1) := by decide +kernel
theorem dX5_restore_53 : decode cX5_restore 53 = .ok (.getfield 30, 3) := by decide +kernel
theorem dX5_restore_56 : decode cX5_restore 56 = .ok (.aload_n 0, 1) := by decide +kernel
theorem dX5_restore_57 : decode cX5_restore 57 = .ok (.getfield 42, 3) := by decide +kernel
theorem dX5_restore_60 : decode cX5_restore 60 = .ok (.iload_n 1, 1) := by decide +kernel
theorem dX5_restore_61 : decode cX5_restore 61 = .ok (.aaload, 1) := by decide +kernel
theorem dX5_restore_62 : decode cX5_restore 62 = .ok (.invokevirtual 215, 3) := by decide +kernel
theorem dX5_restore_65 : decode cX5_restore 65 = .ok (.aload_n 0, 1) := by decide +kernel
theorem dX5_restore_66 : decode cX5_restore 66 = .ok (.getfield 30, 3) := by decide +kernel
theorem dX5_restore_69 : decode cX5_restore 69 = .ok (.iload_n 2, 1) := by decide +kernel
theorem dX5_restore_70 : decode cX5_restore 70 = .ok (.putfield 221, 3) := by decide +kernel
theorem dX5_restore_73 : decode cX5_restore 73 = .ok (.aload_n 0, 1) := by decide +kernel
theorem dX5_restore_74 : decode cX5_restore 74 = .ok (.getfield 30, 3) := by decide +kernel
theorem dX5_restore_77 : decode cX5_restore 77 = .ok (.getfield 83, 3) := by decide +kernel
theorem dX5_restore_80 : decode cX5_restore 80 = .ok (.getfield 87, 3) := by decide +kernel
theorem dX5_restore_83 : decode cX5_restore 83 = .ok (.getfield 91, 3) := by decide +kernel
theorem dX5_restore_86 : decode cX5_restore 86 = .ok (.ireturn, 1) := by decide +kernel
set_option maxRecDepth 100000 in
set_option maxHeartbeats 4000000 in
theorem v_X5_restore {X : zq_X} (C : zq_C X RX5 cX5_restore 3 zq_all rm_X5_restore) {h : zq_H} {t : Nat} {x1 : Int32} {out : ((Int32 × zq_H) ⊕ (Nat × zq_H))} (hF : f_X5_restore h t x1 = some out) (hE : ∀ q, out = .inl q → zq_End X cX5_restore 1 6 (some (.int q.1)) q.2) (hX : ∀ q, out = .inr q → zq_Thr X 1 6 q.1 q.2) : zq_W X 0 0 h 0 [(0, .ref t), (1, .int x1)] [] := by
  unfold f_X5_restore at hF
  refine zq_aload_n (pc' := 1) C dX5_restore_0 rfl rfl rfl ?_
  refine zq_iload_n (pc' := 2) C dX5_restore_1 rfl rfl rfl ?_
  replace hF := zq_ck_e hF; obtain ⟨e_3, hF⟩ := hF
  replace hF := zq_bd hF; obtain ⟨v_1, e_2, hF⟩ := hF
  refine zq_cV (pc' := 5) C (c_X5_isSnapshot e_2) yv_X5_isSnapshot wd_332 zq_K5 e_3 dX5_restore_2 rfl rfl rfl ⟨Nat.le_of_ble_eq_true rfl, Nat.le_of_ble_eq_true rfl⟩ (Nat.le_of_ble_eq_true rfl) ⟨rfl, rfl⟩ ⟨Nat.le_of_ble_eq_true rfl, Nat.le_of_ble_eq_true rfl⟩ rfl ?_
  refine zq_if_ne (pc' := 8) C 18 dX5_restore_5 (by decide) rfl (fun c_4 => ?_) (fun c_4 => ?_)
  · have hF := (zq_ifn hF (fun q => c_4 (zq_b0.mpr q)))
    skip
    refine zq_aload_n (pc' := 19) C dX5_restore_18 rfl rfl rfl ?_
    replace hF := zq_bd hF; obtain ⟨v_5, e_6, hF⟩ := hF
    refine zq_getR (j := 4) (pc' := 22) C zq_K5 zq_in5w (Or.inl wd_212) (by decide) rfl dX5_restore_19 rfl e_6 ?_
    refine zq_iload_n (pc' := 23) C dX5_restore_22 rfl rfl rfl ?_
    replace hF := zq_bd hF; obtain ⟨v_7, e_8, hF⟩ := hF
    refine zq_aaload (pc' := 24) C 13 (by decide) dX5_restore_23 rfl e_8 ?_
    replace hF := zq_bd hF; obtain ⟨v_9, e_10, hF⟩ := hF
    refine zq_getQ (j := 0) (pc' := 27) C zq_K3 zq_in3w (Or.inr ⟨"FlipPolygons", by decide +kernel⟩) (by decide) rfl dX5_restore_24 rfl e_10 ?_
    refine zq_ifnonnull (pc' := 30) C 40 dX5_restore_27 (by decide) rfl (fun c_11 => ?_) (fun c_11 => ?_)
    · have hF := (zq_ifn hF c_11)
      skip
      refine zq_aload_n (pc' := 41) C dX5_restore_40 rfl rfl rfl ?_
      replace hF := zq_ck_e hF; obtain ⟨e_14, hF⟩ := hF
      replace hF := zq_bd hF; obtain ⟨v_12, e_13, hF⟩ := hF
      refine zq_cV (pc' := 44) C (c_X5_saveState e_13) yv_X5_saveState wd_245 zq_K5 e_14 dX5_restore_41 rfl rfl rfl ⟨Nat.le_of_ble_eq_true rfl, Nat.le_of_ble_eq_true rfl⟩ (Nat.le_of_ble_eq_true rfl) ⟨rfl, rfl⟩ ⟨Nat.le_of_ble_eq_true rfl, Nat.le_of_ble_eq_true rfl⟩ rfl ?_
      refine zq_aload_n (pc' := 45) C dX5_restore_44 rfl rfl rfl ?_
      replace hF := zq_bd hF; obtain ⟨v_15, e_16, hF⟩ := hF
      refine zq_getR (j := 1) (pc' := 48) C zq_K5 zq_in5w (Or.inl wd_210) (by decide) rfl dX5_restore_45 rfl e_16 ?_
      replace hF := zq_bd hF; obtain ⟨v_17, e_18, hF⟩ := hF
      refine zq_getI (j := 4) (pc' := 51) C zq_K3 zq_in3w (Or.inr ⟨"FlipPolygons", by decide +kernel⟩) (by decide) rfl dX5_restore_48 rfl e_18 ?_
      refine zq_istore_n (lv' := [(2, .int v_17), (0, .ref t), (1, .int x1)]) (pc' := 52) C dX5_restore_51 rfl rfl (by decide) rfl rfl ?_
      refine zq_aload_n (pc' := 53) C dX5_restore_52 rfl rfl rfl ?_
      replace hF := zq_bd hF; obtain ⟨v_19, e_20, hF⟩ := hF
      refine zq_getR (j := 1) (pc' := 56) C zq_K5 zq_in5w (Or.inl wd_210) (by decide) rfl dX5_restore_53 rfl e_20 ?_
      refine zq_aload_n (pc' := 57) C dX5_restore_56 rfl rfl rfl ?_
      replace hF := zq_bd hF; obtain ⟨v_21, e_22, hF⟩ := hF
      refine zq_getR (j := 4) (pc' := 60) C zq_K5 zq_in5w (Or.inl wd_212) (by decide) rfl dX5_restore_57 rfl e_22 ?_
      refine zq_iload_n (pc' := 61) C dX5_restore_60 rfl rfl rfl ?_
      replace hF := zq_bd hF; obtain ⟨v_23, e_24, hF⟩ := hF
      refine zq_aaload (pc' := 62) C 13 (by decide) dX5_restore_61 rfl e_24 ?_
      replace hF := zq_ck_e hF; obtain ⟨e_27, hF⟩ := hF
      replace hF := zq_bd hF; obtain ⟨v_25, e_26, hF⟩ := hF
      refine zq_cV (pc' := 65) C (c_X3_copy e_26) yv_X3_copy wd_240 zq_K3 e_27 dX5_restore_62 rfl rfl rfl ⟨Nat.le_of_ble_eq_true rfl, Nat.le_of_ble_eq_true rfl⟩ (Nat.le_of_ble_eq_true rfl) ⟨rfl, rfl⟩ ⟨Nat.le_of_ble_eq_true rfl, Nat.le_of_ble_eq_true rfl⟩ rfl ?_
      refine zq_aload_n (pc' := 66) C dX5_restore_65 rfl rfl rfl ?_
      replace hF := zq_bd hF; obtain ⟨v_28, e_29, hF⟩ := hF
      refine zq_getR (j := 1) (pc' := 69) C zq_K5 zq_in5w (Or.inl wd_210) (by decide) rfl dX5_restore_66 rfl e_29 ?_
      refine zq_iload_n (pc' := 70) C dX5_restore_69 rfl rfl rfl ?_
      replace hF := zq_bd hF; obtain ⟨h_30, e_31, hF⟩ := hF
      refine zq_putI (j := 4) (pc' := 73) C zq_K3 zq_in3w (Or.inr ⟨"FlipPolygons", by decide +kernel⟩) (by decide) rfl rfl dX5_restore_70 rfl (Or.inl rfl) e_31 ?_
      refine zq_aload_n (pc' := 74) C dX5_restore_73 rfl rfl rfl ?_
      replace hF := zq_bd hF; obtain ⟨v_32, e_33, hF⟩ := hF
      refine zq_getR (j := 1) (pc' := 77) C zq_K5 zq_in5w (Or.inl wd_210) (by decide) rfl dX5_restore_74 rfl e_33 ?_
      replace hF := zq_bd hF; obtain ⟨v_34, e_35, hF⟩ := hF
      refine zq_getR (j := 0) (pc' := 80) C zq_K3 zq_in3w (Or.inr ⟨"FlipPolygons", by decide +kernel⟩) (by decide) rfl dX5_restore_77 rfl e_35 ?_
      replace hF := zq_bd hF; obtain ⟨v_36, e_37, hF⟩ := hF
      refine zq_getR (j := 0) (pc' := 83) C zq_K0 zq_in0w (Or.inr ⟨"FlipPolygons", by decide +kernel⟩) (by decide) rfl dX5_restore_80 rfl e_37 ?_
      replace hF := zq_bd hF; obtain ⟨v_38, e_39, hF⟩ := hF
      refine zq_getI (j := 0) (pc' := 86) C zq_K1 zq_in1w (Or.inr ⟨"FlipPolygons", by decide +kernel⟩) (by decide) rfl dX5_restore_83 rfl e_39 ?_
      have hF := Option.some.inj hF
      subst hF
      exact hE _ rfl _ _ _ _ (Nat.le_of_ble_eq_true rfl) (Nat.le_of_ble_eq_true rfl) dX5_restore_86
    · have hF := (zq_ifp hF c_11)
      have hF := Option.some.inj hF
      subst hF
      exact zq_throwS C 2 "the snapshot was not taken" (by decide) (by decide +kernel) dX5_restore_30 dX5_restore_33 dX5_restore_34 dX5_restore_36 dX5_restore_39 (by decide) (Nat.le_of_ble_eq_true rfl) ⟨Nat.le_of_ble_eq_true rfl, Nat.le_of_ble_eq_true rfl⟩ ⟨Nat.le_of_ble_eq_true rfl, Nat.le_of_ble_eq_true rfl⟩ (hX _ rfl)
  · have hF := (zq_ifp hF (zq_b0.mp c_4))
    have hF := Option.some.inj hF
    subst hF
    exact zq_throwS C 1 "no such snapshot" (by decide) (by decide +kernel) dX5_restore_8 dX5_restore_11 dX5_restore_12 dX5_restore_14 dX5_restore_17 (by decide) (Nat.le_of_ble_eq_true rfl) ⟨Nat.le_of_ble_eq_true rfl, Nat.le_of_ble_eq_true rfl⟩ ⟨Nat.le_of_ble_eq_true rfl, Nat.le_of_ble_eq_true rfl⟩ (hX _ rfl)
theorem c_X5_restore {h : zq_H} {t : Nat} {x1 : Int32} {out : ((Int32 × zq_H) ⊕ (Nat × zq_H))} (hF : f_X5_restore h t x1 = some out) : zq_Mx yX5_restore (Cond.code yX5_restore cX5_restore 3 (some .int) :: zq_all) rm_X5_restore [.ref t, .int x1] h (zq_ox out) := zq_metx (own := RX5) (by decide +kernel) rfl (Nat.le_of_ble_eq_true rfl) rfl (fun X C _ _ hE hX => v_X5_restore C hF hE hX)
theorem yv_X5_restore : zq_calV yX5_restore RX5 cX5_restore 3 (some .int) 1 := ⟨by decide +kernel, wd_335, wd_739, wd_740, wd_95⟩
def f_X5_undo (h : zq_H) (t : Nat) : Option ((Int32 × zq_H) ⊕ (Nat × zq_H)) := (Option.bind (zq_gi h t 5 3) fun v_1 => (zq_let (v_1 - 1) fun v_3 => (if v_3 < 0 then some (.inr (2, h)) else (Option.bind (zq_gr h t 5 2) fun v_6 => (Option.bind (zq_an h v_6) fun v_8 => (if v_3 < v_8 then (Option.bind (zq_gr h t 5 1) fun v_11 => (Option.bind (zq_gr h t 5 2) fun v_13 => (Option.bind (zq_aq h v_13 13 v_3) fun v_15 => (zq_ck h v_11 3 fun _ => (Option.bind (f_X3_copy h v_11 v_15) fun v_17 => (Option.bind (zq_pi v_17 t 5 3 v_3) fun h_20 => (Option.bind (zq_gi h_20 t 5 3) fun v_22 => some ((.inl (v_22, h_20)))))))))) else some (.inr (2, h))))))))
abbrev rm_X5_undo : Room := { frames := 6, cells := 1, slots := 6, locals := 98 }
theorem dX5_undo_0 : decode cX5_undo 0 = .ok (.aload_n 0, 1) := by decide +kernel
theorem dX5_undo_1 : decode cX5_undo 1 = .ok (.getfield 224, 3) := by decide +kernel
theorem dX5_undo_4 : decode cX5_undo 4 = .ok (.iconst 1, 1) := by decide +kernel
theorem dX5_undo_5 : decode cX5_undo 5 = .ok (.isub, 1) := by decide +kernel
theorem dX5_undo_6 : decode cX5_undo 6 = .ok (.istore_n 1, 1) := by decide +kernel
theorem dX5_undo_7 : decode cX5_undo 7 = .ok (.iload_n 1, 1) := by decide +kernel
theorem dX5_undo_8 : decode cX5_undo 8 = .ok (.ifCond .lt 12, 3) := by decide +kernel
theorem dX5_undo_11 : decode cX5_undo 11 = .ok (.iload_n 1, 1) := by decide +kernel
theorem dX5_undo_12 : decode cX5_undo 12 = .ok (.aload_n 0, 1) := by decide +kernel
theorem dX5_undo_13 : decode cX5_undo 13 = .ok (.getfield 38, 3) := by decide +kernel
theorem dX5_undo_16 : decode cX5_undo 16 = .ok (.arraylength, 1) := by decide +kernel
theorem dX5_undo_17 : decode cX5_undo 17 = .ok (.if_icmp .lt 13, 3) := by decide +kernel
theorem dX5_undo_20 : decode cX5_undo 20 = .ok (.new 119, 3) := by decide +kernel
theorem dX5_undo_23 : decode cX5_undo 23 = .ok (.dup, 1) := by decide +kernel
theorem dX5_undo_24 : decode cX5_undo 24 = .ok (.ldc 227, 2) := by decide +kernel
theorem dX5_undo_26 : decode cX5_undo 26 = .ok (.invokespecial 123, 3) := by decide +kernel
theorem dX5_undo_29 : decode cX5_undo 29 = .ok (.athrow, 1) := by decide +kernel
theorem dX5_undo_30 : decode cX5_undo 30 = .ok (.aload_n 0, 1) := by decide +kernel
theorem dX5_undo_31 : decode cX5_undo 31 = .ok (.getfield 30, 3) := by decide +kernel
theorem dX5_undo_34 : decode cX5_undo 34 = .ok (.aload_n 0, 1) := by decide +kernel
theorem dX5_undo_35 : decode cX5_undo 35 = .ok (.getfield 38, 3) := by decide +kernel
theorem dX5_undo_38 : decode cX5_undo 38 = .ok (.iload_n 1, 1) := by decide +kernel
theorem dX5_undo_39 : decode cX5_undo 39 = .ok (.aaload, 1) := by decide +kernel
theorem dX5_undo_40 : decode cX5_undo 40 = .ok (.invokevirtual 215, 3) := by decide +kernel
theorem dX5_undo_43 : decode cX5_undo 43 = .ok (.aload_n 0, 1) := by decide +kernel
theorem dX5_undo_44 : decode cX5_undo 44 = .ok (.iload_n 1, 1) := by decide +kernel
theorem dX5_undo_45 : decode cX5_undo 45 = .ok (.putfield 224, 3) := by decide +kernel
theorem dX5_undo_48 : decode cX5_undo 48 = .ok (.aload_n 0, 1) := by decide +kernel
theorem dX5_undo_49 : decode cX5_undo 49 = .ok (.getfield 224, 3) := by decide +kernel
theorem dX5_undo_52 : decode cX5_undo 52 = .ok (.ireturn, 1) := by decide +kernel
set_option maxRecDepth 100000 in
set_option maxHeartbeats 4000000 in
theorem v_X5_undo {X : zq_X} (C : zq_C X RX5 cX5_undo 2 zq_all rm_X5_undo) {h : zq_H} {t : Nat} {out : ((Int32 × zq_H) ⊕ (Nat × zq_H))} (hF : f_X5_undo h t = some out) (hE : ∀ q, out = .inl q → zq_End X cX5_undo 1 6 (some (.int q.1)) q.2) (hX : ∀ q, out = .inr q → zq_Thr X 1 6 q.1 q.2) : zq_W X 0 0 h 0 [(0, .ref t)] [] := by
  unfold f_X5_undo at hF
  refine zq_aload_n (pc' := 1) C dX5_undo_0 rfl rfl rfl ?_
  replace hF := zq_bd hF; obtain ⟨v_1, e_2, hF⟩ := hF
  refine zq_getI (j := 3) (pc' := 4) C zq_K5 zq_in5w (Or.inl wd_239) (by decide) rfl dX5_undo_1 rfl e_2 ?_
  refine zq_iconst (pc' := 5) C 1 dX5_undo_4 rfl (by decide) ?_
  refine zq_isub (pc' := 6) C dX5_undo_5 rfl ?_
  replace hF := zq_let_e hF; obtain ⟨v_3, e_4, hF⟩ := hF
  refine zq_istore_n (lv' := [(1, .int v_3), (0, .ref t)]) (pc' := 7) C dX5_undo_6 rfl rfl (by decide) e_4 rfl ?_
  refine zq_iload_n (pc' := 8) C dX5_undo_7 rfl rfl rfl ?_
  refine zq_if_lt (pc' := 11) C 20 dX5_undo_8 (by decide) rfl (fun c_5 => ?_) (fun c_5 => ?_)
  · have hF := (zq_ifp hF c_5)
    skip
    have hF := Option.some.inj hF
    subst hF
    exact zq_throwS C 2 "no state is saved" (by decide) (by decide +kernel) dX5_undo_20 dX5_undo_23 dX5_undo_24 dX5_undo_26 dX5_undo_29 (by decide) (Nat.le_of_ble_eq_true rfl) ⟨Nat.le_of_ble_eq_true rfl, Nat.le_of_ble_eq_true rfl⟩ ⟨Nat.le_of_ble_eq_true rfl, Nat.le_of_ble_eq_true rfl⟩ (hX _ rfl)
  · have hF := (zq_ifn hF c_5)
    refine zq_iload_n (pc' := 12) C dX5_undo_11 rfl rfl rfl ?_
    refine zq_aload_n (pc' := 13) C dX5_undo_12 rfl rfl rfl ?_
    replace hF := zq_bd hF; obtain ⟨v_6, e_7, hF⟩ := hF
    refine zq_getR (j := 2) (pc' := 16) C zq_K5 zq_in5w (Or.inl wd_211) (by decide) rfl dX5_undo_13 rfl e_7 ?_
    replace hF := zq_bd hF; obtain ⟨v_8, e_9, hF⟩ := hF
    refine zq_alen (pc' := 17) C dX5_undo_16 rfl e_9 ?_
    refine zq_icmp_lt (pc' := 20) C 30 dX5_undo_17 (by decide) rfl (fun c_10 => ?_) (fun c_10 => ?_)
    · have hF := (zq_ifp hF c_10)
      skip
      refine zq_aload_n (pc' := 31) C dX5_undo_30 rfl rfl rfl ?_
      replace hF := zq_bd hF; obtain ⟨v_11, e_12, hF⟩ := hF
      refine zq_getR (j := 1) (pc' := 34) C zq_K5 zq_in5w (Or.inl wd_210) (by decide) rfl dX5_undo_31 rfl e_12 ?_
      refine zq_aload_n (pc' := 35) C dX5_undo_34 rfl rfl rfl ?_
      replace hF := zq_bd hF; obtain ⟨v_13, e_14, hF⟩ := hF
      refine zq_getR (j := 2) (pc' := 38) C zq_K5 zq_in5w (Or.inl wd_211) (by decide) rfl dX5_undo_35 rfl e_14 ?_
      refine zq_iload_n (pc' := 39) C dX5_undo_38 rfl rfl rfl ?_
      replace hF := zq_bd hF; obtain ⟨v_15, e_16, hF⟩ := hF
      refine zq_aaload (pc' := 40) C 13 (by decide) dX5_undo_39 rfl e_16 ?_
      replace hF := zq_ck_e hF; obtain ⟨e_19, hF⟩ := hF
      replace hF := zq_bd hF; obtain ⟨v_17, e_18, hF⟩ := hF
      refine zq_cV (pc' := 43) C (c_X3_copy e_18) yv_X3_copy wd_240 zq_K3 e_19 dX5_undo_40 rfl rfl rfl ⟨Nat.le_of_ble_eq_true rfl, Nat.le_of_ble_eq_true rfl⟩ (Nat.le_of_ble_eq_true rfl) ⟨rfl, rfl⟩ ⟨Nat.le_of_ble_eq_true rfl, Nat.le_of_ble_eq_true rfl⟩ rfl ?_
      refine zq_aload_n (pc' := 44) C dX5_undo_43 rfl rfl rfl ?_
      refine zq_iload_n (pc' := 45) C dX5_undo_44 rfl rfl rfl ?_
      replace hF := zq_bd hF; obtain ⟨h_20, e_21, hF⟩ := hF
      refine zq_putI (j := 3) (pc' := 48) C zq_K5 zq_in5w (Or.inl wd_239) (by decide) rfl rfl dX5_undo_45 rfl (Or.inl rfl) e_21 ?_
      refine zq_aload_n (pc' := 49) C dX5_undo_48 rfl rfl rfl ?_
      replace hF := zq_bd hF; obtain ⟨v_22, e_23, hF⟩ := hF
      refine zq_getI (j := 3) (pc' := 52) C zq_K5 zq_in5w (Or.inl wd_239) (by decide) rfl dX5_undo_49 rfl e_23 ?_
      have hF := Option.some.inj hF
      subst hF
      exact hE _ rfl _ _ _ _ (Nat.le_of_ble_eq_true rfl) (Nat.le_of_ble_eq_true rfl) dX5_undo_52
    · have hF := (zq_ifn hF c_10)
      have hF := Option.some.inj hF
      subst hF
      exact zq_throwS C 2 "no state is saved" (by decide) (by decide +kernel) dX5_undo_20 dX5_undo_23 dX5_undo_24 dX5_undo_26 dX5_undo_29 (by decide) (Nat.le_of_ble_eq_true rfl) ⟨Nat.le_of_ble_eq_true rfl, Nat.le_of_ble_eq_true rfl⟩ ⟨Nat.le_of_ble_eq_true rfl, Nat.le_of_ble_eq_true rfl⟩ (hX _ rfl)
theorem c_X5_undo {h : zq_H} {t : Nat} {out : ((Int32 × zq_H) ⊕ (Nat × zq_H))} (hF : f_X5_undo h t = some out) : zq_Mx yX5_undo (Cond.code yX5_undo cX5_undo 2 (some .int) :: zq_all) rm_X5_undo [.ref t] h (zq_ox out) := zq_metx (own := RX5) (by decide +kernel) rfl (Nat.le_of_ble_eq_true rfl) rfl (fun X C _ _ hE hX => v_X5_undo C hF hE hX)
theorem yv_X5_undo : zq_calV yX5_undo RX5 cX5_undo 2 (some .int) 0 := ⟨by decide +kernel, wd_336, wd_744, wd_745, wd_95⟩
def f_X5_number (h : zq_H) (t : Nat) (x1 : Int32) (x2 : Int32) : Option ((Int32 × zq_H) ⊕ (Nat × zq_H)) := (Option.bind (zq_gr h t 5 1) fun v_1 => (Option.bind (zq_gr h v_1 3 0) fun v_3 => (Option.bind (zq_gr h v_3 0 0) fun v_5 => (zq_ck h v_5 1 fun _ => (Option.bind (f_X1_numberOf h v_5 x1 x2) fun v_7 => (if v_7 = (-1) then some (.inr (1, h)) else some ((.inl (v_7, h)))))))))
abbrev rm_X5_number : Room := { frames := 6, cells := 1, slots := 6, locals := 98 }
theorem dX5_number_0 : decode cX5_number 0 = .ok (.aload_n 0, 1) := by decide +kernel
theorem dX5_number_1 : decode cX5_number 1 = .ok (.getfield 30, 3) := by decide +kernel
theorem dX5_number_4 : decode cX5_number 4 = .ok (.getfield 83, 3) := by decide +kernel
theorem dX5_number_7 : decode cX5_number 7 = .ok (.getfield 87, 3) := by decide +kernel
theorem dX5_number_10 : decode cX5_number 10 = .ok (.iload_n 1, 1) := by decide +kernel
theorem dX5_number_11 : decode cX5_number 11 = .ok (.iload_n 2, 1) := by decide +kernel
theorem dX5_number_12 : decode cX5_number 12 = .ok (.invokevirtual 95, 3) := by decide +kernel
theorem dX5_number_15 : decode cX5_number 15 = .ok (.istore_n 3, 1) := by decide +kernel
theorem dX5_number_16 : decode cX5_number 16 = .ok (.iload_n 3, 1) := by decide +kernel
theorem dX5_number_17 : decode cX5_number 17 = .ok (.iconst (-1), 1) := by decide +kernel
theorem dX5_number_18 : decode cX5_number 18 = .ok (.if_icmp .ne 13, 3) := by decide +kernel
theorem dX5_number_21 : decode cX5_number 21 = .ok (.new 103, 3) := by decide +kernel
theorem dX5_number_24 : decode cX5_number 24 = .ok (.dup, 1) := by decide +kernel
theorem dX5_number_25 : decode cX5_number 25 = .ok (.ldc 163, 2) := by decide +kernel
theorem dX5_number_27 : decode cX5_number 27 = .ok (.invokespecial 107, 3) := by decide +kernel
theorem dX5_number_30 : decode cX5_number 30 = .ok (.athrow, 1) := by decide +kernel
theorem dX5_number_31 : decode cX5_number 31 = .ok (.iload_n 3, 1) := by decide +kernel
theorem dX5_number_32 : decode cX5_number 32 = .ok (.ireturn, 1) := by decide +kernel
set_option maxRecDepth 100000 in
set_option maxHeartbeats 4000000 in
theorem v_X5_number {X : zq_X} (C : zq_C X RX5 cX5_number 4 zq_all rm_X5_number) {h : zq_H} {t : Nat} {x1 : Int32} {x2 : Int32} {out : ((Int32 × zq_H) ⊕ (Nat × zq_H))} (hF : f_X5_number h t x1 x2 = some out) (hE : ∀ q, out = .inl q → zq_End X cX5_number 1 6 (some (.int q.1)) q.2) (hX : ∀ q, out = .inr q → zq_Thr X 1 6 q.1 q.2) : zq_W X 0 0 h 0 [(0, .ref t), (1, .int x1), (2, .int x2)] [] := by
  unfold f_X5_number at hF
  refine zq_aload_n (pc' := 1) C dX5_number_0 rfl rfl rfl ?_
  replace hF := zq_bd hF; obtain ⟨v_1, e_2, hF⟩ := hF
  refine zq_getR (j := 1) (pc' := 4) C zq_K5 zq_in5w (Or.inl wd_210) (by decide) rfl dX5_number_1 rfl e_2 ?_
  replace hF := zq_bd hF; obtain ⟨v_3, e_4, hF⟩ := hF
  refine zq_getR (j := 0) (pc' := 7) C zq_K3 zq_in3w (Or.inr ⟨"FlipPolygons", by decide +kernel⟩) (by decide) rfl dX5_number_4 rfl e_4 ?_
  replace hF := zq_bd hF; obtain ⟨v_5, e_6, hF⟩ := hF
  refine zq_getR (j := 0) (pc' := 10) C zq_K0 zq_in0w (Or.inr ⟨"FlipPolygons", by decide +kernel⟩) (by decide) rfl dX5_number_7 rfl e_6 ?_
  refine zq_iload_n (pc' := 11) C dX5_number_10 rfl rfl rfl ?_
  refine zq_iload_n (pc' := 12) C dX5_number_11 rfl rfl rfl ?_
  replace hF := zq_ck_e hF; obtain ⟨e_9, hF⟩ := hF
  replace hF := zq_bd hF; obtain ⟨v_7, e_8, hF⟩ := hF
  refine zq_cV (pc' := 15) C (c_X1_numberOf e_8) yv_X1_numberOf wd_263 zq_K1 e_9 dX5_number_12 rfl rfl rfl ⟨Nat.le_of_ble_eq_true rfl, Nat.le_of_ble_eq_true rfl⟩ (Nat.le_of_ble_eq_true rfl) ⟨rfl, rfl⟩ ⟨Nat.le_of_ble_eq_true rfl, Nat.le_of_ble_eq_true rfl⟩ rfl ?_
  refine zq_istore_n (lv' := [(3, .int v_7), (0, .ref t), (1, .int x1), (2, .int x2)]) (pc' := 16) C dX5_number_15 rfl rfl (by decide) rfl rfl ?_
  refine zq_iload_n (pc' := 17) C dX5_number_16 rfl rfl rfl ?_
  refine zq_iconst (pc' := 18) C (-1) dX5_number_17 rfl (by decide) ?_
  refine zq_icmp_ne (pc' := 21) C 31 dX5_number_18 (by decide) rfl (fun c_10 => ?_) (fun c_10 => ?_)
  · have hF := (zq_ifn hF c_10)
    skip
    refine zq_iload_n (pc' := 32) C dX5_number_31 rfl rfl rfl ?_
    have hF := Option.some.inj hF
    subst hF
    exact hE _ rfl _ _ _ _ (Nat.le_of_ble_eq_true rfl) (Nat.le_of_ble_eq_true rfl) dX5_number_32
  · have hF := (zq_ifp hF c_10)
    have hF := Option.some.inj hF
    subst hF
    exact zq_throwS C 1 "no such diagonal" (by decide) (by decide +kernel) dX5_number_21 dX5_number_24 dX5_number_25 dX5_number_27 dX5_number_30 (by decide) (Nat.le_of_ble_eq_true rfl) ⟨Nat.le_of_ble_eq_true rfl, Nat.le_of_ble_eq_true rfl⟩ ⟨Nat.le_of_ble_eq_true rfl, Nat.le_of_ble_eq_true rfl⟩ (hX _ rfl)
theorem c_X5_number {h : zq_H} {t : Nat} {x1 : Int32} {x2 : Int32} {out : ((Int32 × zq_H) ⊕ (Nat × zq_H))} (hF : f_X5_number h t x1 x2 = some out) : zq_Mx yX5_number (Cond.code yX5_number cX5_number 4 (some .int) :: zq_all) rm_X5_number [.ref t, .int x1, .int x2] h (zq_ox out) := zq_metx (own := RX5) (by decide +kernel) rfl (Nat.le_of_ble_eq_true rfl) rfl (fun X C _ _ hE hX => v_X5_number C hF hE hX)
theorem yv_X5_number : zq_calV yX5_number RX5 cX5_number 4 (some .int) 2 := ⟨by decide +kernel, wd_337, wd_748, wd_749, wd_95⟩
def f_X5_triangulation (h : zq_H) (t : Nat) (x1 : Int32) (x2 : Int32) : Option ((Int32 × zq_H) ⊕ (Nat × zq_H)) := (Option.bind (f_X5_isWhich h x1) fun v_1 => (if v_1 = false then some (.inr (1, h)) else (if x2 < 0 then some (.inr (0, h)) else (if x2 < 7 then (zq_ck h t 5 fun _ => (Option.bind (f_X5_numberOfTriangulation h t x1 x2) fun v_6 => some ((.inl (v_6.1, v_6.2))))) else some (.inr (0, h))))))
abbrev rm_X5_triangulation : Room := { frames := 6, cells := 1, slots := 6, locals := 135 }
theorem dX5_triangulation_0 : decode cX5_triangulation 0 = .ok (.iload_n 1, 1) := by decide +kernel
theorem dX5_triangulation_1 : decode cX5_triangulation 1 = .ok (.invokestatic 99, 3) := by decide +kernel
theorem dX5_triangulation_4 : decode cX5_triangulation 4 = .ok (.ifCond .ne 13, 3) := by decide +kernel
theorem dX5_triangulation_7 : decode cX5_triangulation 7 = .ok (.new 103, 3) := by decide +kernel
theorem dX5_triangulation_10 : decode cX5_triangulation 10 = .ok (.dup, 1) := by decide +kernel
theorem dX5_triangulation_11 : decode cX5_triangulation 11 = .ok (.ldc 144, 2) := by decide +kernel
theorem dX5_triangulation_13 : decode cX5_triangulation 13 = .ok (.invokespecial 107, 3) := by decide +kernel
theorem dX5_triangulation_16 : decode cX5_triangulation 16 = .ok (.athrow, 1) := by decide +kernel
theorem dX5_triangulation_17 : decode cX5_triangulation 17 = .ok (.iload_n 2, 1) := by decide +kernel
theorem dX5_triangulation_18 : decode cX5_triangulation 18 = .ok (.ifCond .lt 9, 3) := by decide +kernel
theorem dX5_triangulation_21 : decode cX5_triangulation 21 = .ok (.iload_n 2, 1) := by decide +kernel
theorem dX5_triangulation_22 : decode cX5_triangulation 22 = .ok (.bipush 7, 2) := by decide +kernel
theorem dX5_triangulation_24 : decode cX5_triangulation 24 = .ok (.if_icmp .lt 13, 3) := by decide +kernel
theorem dX5_triangulation_27 : decode cX5_triangulation 27 = .ok (.new 73, 3) := by decide +kernel
theorem dX5_triangulation_30 : decode cX5_triangulation 30 = .ok (.dup, 1) := by decide +kernel
theorem dX5_triangulation_31 : decode cX5_triangulation 31 = .ok (.ldc 229, 2) := by decide +kernel
theorem dX5_triangulation_33 : decode cX5_triangulation 33 = .ok (.invokespecial 77, 3) := by decide +kernel
theorem dX5_triangulation_36 : decode cX5_triangulation 36 = .ok (.athrow, 1) := by decide +kernel
theorem dX5_triangulation_37 : decode cX5_triangulation 37 = .ok (.aload_n 0, 1) := by decide +kernel
theorem dX5_triangulation_38 : decode cX5_triangulation 38 = .ok (.iload_n 1, 1) := by decide +kernel
theorem dX5_triangulation_39 : decode cX5_triangulation 39 = .ok (.iload_n 2, 1) := by decide +kernel
theorem dX5_triangulation_40 : decode cX5_triangulation 40 = .ok (.invokevirtual 231, 3) := by decide +kernel
theorem dX5_triangulation_43 : decode cX5_triangulation 43 = .ok (.ireturn, 1) := by decide +kernel
set_option maxRecDepth 100000 in
set_option maxHeartbeats 4000000 in
theorem v_X5_triangulation {X : zq_X} (C : zq_C X RX5 cX5_triangulation 3 zq_all rm_X5_triangulation) {h : zq_H} {t : Nat} {x1 : Int32} {x2 : Int32} {out : ((Int32 × zq_H) ⊕ (Nat × zq_H))} (hF : f_X5_triangulation h t x1 x2 = some out) (hE : ∀ q, out = .inl q → zq_End X cX5_triangulation 1 6 (some (.int q.1)) q.2) (hX : ∀ q, out = .inr q → zq_Thr X 1 6 q.1 q.2) : zq_W X 0 0 h 0 [(0, .ref t), (1, .int x1), (2, .int x2)] [] := by
  unfold f_X5_triangulation at hF
  refine zq_iload_n (pc' := 1) C dX5_triangulation_0 rfl rfl rfl ?_
  replace hF := zq_bd hF; obtain ⟨v_1, e_2, hF⟩ := hF
  refine zq_cS (pc' := 4) C (c_X5_isWhich e_2) ys_X5_isWhich wd_264 dX5_triangulation_1 rfl rfl rfl ⟨Nat.le_of_ble_eq_true rfl, Nat.le_of_ble_eq_true rfl⟩ (Nat.le_of_ble_eq_true rfl) ⟨rfl, rfl⟩ ⟨Nat.le_of_ble_eq_true rfl, Nat.le_of_ble_eq_true rfl⟩ rfl ?_
  refine zq_if_ne (pc' := 7) C 17 dX5_triangulation_4 (by decide) rfl (fun c_3 => ?_) (fun c_3 => ?_)
  · have hF := (zq_ifn hF (fun q => c_3 (zq_b0.mpr q)))
    skip
    refine zq_iload_n (pc' := 18) C dX5_triangulation_17 rfl rfl rfl ?_
    refine zq_if_lt (pc' := 21) C 27 dX5_triangulation_18 (by decide) rfl (fun c_4 => ?_) (fun c_4 => ?_)
    · have hF := (zq_ifp hF c_4)
      skip
      have hF := Option.some.inj hF
      subst hF
      exact zq_throwS C 0 "what is out of range" (by decide) (by decide +kernel) dX5_triangulation_27 dX5_triangulation_30 dX5_triangulation_31 dX5_triangulation_33 dX5_triangulation_36 (by decide) (Nat.le_of_ble_eq_true rfl) ⟨Nat.le_of_ble_eq_true rfl, Nat.le_of_ble_eq_true rfl⟩ ⟨Nat.le_of_ble_eq_true rfl, Nat.le_of_ble_eq_true rfl⟩ (hX _ rfl)
    · have hF := (zq_ifn hF c_4)
      refine zq_iload_n (pc' := 22) C dX5_triangulation_21 rfl rfl rfl ?_
      refine zq_bipush (pc' := 24) C 7 dX5_triangulation_22 rfl (by decide) ?_
      refine zq_icmp_lt (pc' := 27) C 37 dX5_triangulation_24 (by decide) rfl (fun c_5 => ?_) (fun c_5 => ?_)
      · have hF := (zq_ifp hF c_5)
        skip
        refine zq_aload_n (pc' := 38) C dX5_triangulation_37 rfl rfl rfl ?_
        refine zq_iload_n (pc' := 39) C dX5_triangulation_38 rfl rfl rfl ?_
        refine zq_iload_n (pc' := 40) C dX5_triangulation_39 rfl rfl rfl ?_
        replace hF := zq_ck_e hF; obtain ⟨e_8, hF⟩ := hF
        replace hF := zq_bd hF; obtain ⟨v_6, e_7, hF⟩ := hF
        refine zq_cV (pc' := 43) C (c_X5_numberOfTriangulation e_7) yv_X5_numberOfTriangulation wd_359 zq_K5 e_8 dX5_triangulation_40 rfl rfl rfl ⟨Nat.le_of_ble_eq_true rfl, Nat.le_of_ble_eq_true rfl⟩ (Nat.le_of_ble_eq_true rfl) ⟨rfl, rfl⟩ ⟨Nat.le_of_ble_eq_true rfl, Nat.le_of_ble_eq_true rfl⟩ rfl ?_
        have hF := Option.some.inj hF
        subst hF
        exact hE _ rfl _ _ _ _ (Nat.le_of_ble_eq_true rfl) (Nat.le_of_ble_eq_true rfl) dX5_triangulation_43
      · have hF := (zq_ifn hF c_5)
        have hF := Option.some.inj hF
        subst hF
        exact zq_throwS C 0 "what is out of range" (by decide) (by decide +kernel) dX5_triangulation_27 dX5_triangulation_30 dX5_triangulation_31 dX5_triangulation_33 dX5_triangulation_36 (by decide) (Nat.le_of_ble_eq_true rfl) ⟨Nat.le_of_ble_eq_true rfl, Nat.le_of_ble_eq_true rfl⟩ ⟨Nat.le_of_ble_eq_true rfl, Nat.le_of_ble_eq_true rfl⟩ (hX _ rfl)
  · have hF := (zq_ifp hF (zq_b0.mp c_3))
    have hF := Option.some.inj hF
    subst hF
    exact zq_throwS C 1 "no such triangulation" (by decide) (by decide +kernel) dX5_triangulation_7 dX5_triangulation_10 dX5_triangulation_11 dX5_triangulation_13 dX5_triangulation_16 (by decide) (Nat.le_of_ble_eq_true rfl) ⟨Nat.le_of_ble_eq_true rfl, Nat.le_of_ble_eq_true rfl⟩ ⟨Nat.le_of_ble_eq_true rfl, Nat.le_of_ble_eq_true rfl⟩ (hX _ rfl)
theorem c_X5_triangulation {h : zq_H} {t : Nat} {x1 : Int32} {x2 : Int32} {out : ((Int32 × zq_H) ⊕ (Nat × zq_H))} (hF : f_X5_triangulation h t x1 x2 = some out) : zq_Mx yX5_triangulation (Cond.code yX5_triangulation cX5_triangulation 3 (some .int) :: zq_all) rm_X5_triangulation [.ref t, .int x1, .int x2] h (zq_ox out) := zq_metx (own := RX5) (by decide +kernel) rfl (Nat.le_of_ble_eq_true rfl) rfl (fun X C _ _ hE hX => v_X5_triangulation C hF hE hX)
theorem yv_X5_triangulation : zq_calV yX5_triangulation RX5 cX5_triangulation 3 (some .int) 2 := ⟨by decide +kernel, wd_362, wd_751, wd_752, wd_95⟩
def f_X5_degree (h : zq_H) (t : Nat) (x1 : Int32) (x2 : Int32) : Option ((Int32 × zq_H) ⊕ (Nat × zq_H)) := (Option.bind (f_X5_isWhich h x1) fun v_1 => (if v_1 = false then some (.inr (1, h)) else (Option.bind (zq_gr h t 5 1) fun v_4 => (Option.bind (zq_gr h v_4 3 0) fun v_6 => (Option.bind (zq_gr h v_6 0 0) fun v_8 => (zq_ck h v_8 1 fun _ => (Option.bind (f_X1_isCorner h v_8 x2) fun v_10 => (if v_10 = false then some (.inr (1, h)) else (Option.bind (zq_gr h t 5 1) fun v_14 => (Option.bind (zq_gr h v_14 3 0) fun v_16 => (Option.bind (zq_gr h v_16 0 0) fun v_18 => (Option.bind (zq_gr h t 5 1) fun v_20 => (zq_ck h v_20 3 fun _ => (Option.bind (f_X3_mask h v_20 x1) fun v_22 => (zq_ck h v_18 1 fun _ => (Option.bind (f_X1_degreeIn h v_18 v_22 x2) fun v_25 => some ((.inl (v_25, h)))))))))))))))))))
abbrev rm_X5_degree : Room := { frames := 6, cells := 1, slots := 6, locals := 98 }
theorem dX5_degree_0 : decode cX5_degree 0 = .ok (.iload_n 1, 1) := by decide +kernel
theorem dX5_degree_1 : decode cX5_degree 1 = .ok (.invokestatic 99, 3) := by decide +kernel
theorem dX5_degree_4 : decode cX5_degree 4 = .ok (.ifCond .eq 20, 3) := by decide +kernel
theorem dX5_degree_7 : decode cX5_degree 7 = .ok (.aload_n 0, 1) := by decide +kernel
theorem dX5_degree_8 : decode cX5_degree 8 = .ok (.getfield 30, 3) := by decide +kernel
theorem dX5_degree_11 : decode cX5_degree 11 = .ok (.getfield 83, 3) := by decide +kernel
theorem dX5_degree_14 : decode cX5_degree 14 = .ok (.getfield 87, 3) := by decide +kernel
theorem dX5_degree_17 : decode cX5_degree 17 = .ok (.iload_n 2, 1) := by decide +kernel
theorem dX5_degree_18 : decode cX5_degree 18 = .ok (.invokevirtual 127, 3) := by decide +kernel
theorem dX5_degree_21 : decode cX5_degree 21 = .ok (.ifCond .ne 13, 3) := by decide +kernel
theorem dX5_degree_24 : decode cX5_degree 24 = .ok (.new 103, 3) := by decide +kernel
theorem dX5_degree_27 : decode cX5_degree 27 = .ok (.dup, 1) := by decide +kernel
theorem dX5_degree_28 : decode cX5_degree 28 = .ok (.ldc 130, 2) := by decide +kernel
theorem dX5_degree_30 : decode cX5_degree 30 = .ok (.invokespecial 107, 3) := by decide +kernel
theorem dX5_degree_33 : decode cX5_degree 33 = .ok (.athrow, 1) := by decide +kernel
theorem dX5_degree_34 : decode cX5_degree 34 = .ok (.aload_n 0, 1) := by decide +kernel
theorem dX5_degree_35 : decode cX5_degree 35 = .ok (.getfield 30, 3) := by decide +kernel
theorem dX5_degree_38 : decode cX5_degree 38 = .ok (.getfield 83, 3) := by decide +kernel
theorem dX5_degree_41 : decode cX5_degree 41 = .ok (.getfield 87, 3) := by decide +kernel
theorem dX5_degree_44 : decode cX5_degree 44 = .ok (.aload_n 0, 1) := by decide +kernel
theorem dX5_degree_45 : decode cX5_degree 45 = .ok (.getfield 30, 3) := by decide +kernel
theorem dX5_degree_48 : decode cX5_degree 48 = .ok (.iload_n 1, 1) := by decide +kernel
theorem dX5_degree_49 : decode cX5_degree 49 = .ok (.invokevirtual 108, 3) := by decide +kernel
theorem dX5_degree_52 : decode cX5_degree 52 = .ok (.iload_n 2, 1) := by decide +kernel
theorem dX5_degree_53 : decode cX5_degree 53 = .ok (.invokevirtual 234, 3) := by decide +kernel
theorem dX5_degree_56 : decode cX5_degree 56 = .ok (.ireturn, 1) := by decide +kernel
set_option maxRecDepth 100000 in
set_option maxHeartbeats 4000000 in
theorem v_X5_degree {X : zq_X} (C : zq_C X RX5 cX5_degree 3 zq_all rm_X5_degree) {h : zq_H} {t : Nat} {x1 : Int32} {x2 : Int32} {out : ((Int32 × zq_H) ⊕ (Nat × zq_H))} (hF : f_X5_degree h t x1 x2 = some out) (hE : ∀ q, out = .inl q → zq_End X cX5_degree 1 6 (some (.int q.1)) q.2) (hX : ∀ q, out = .inr q → zq_Thr X 1 6 q.1 q.2) : zq_W X 0 0 h 0 [(0, .ref t), (1, .int x1), (2, .int x2)] [] := by
  unfold f_X5_degree at hF
  refine zq_iload_n (pc' := 1) C dX5_degree_0 rfl rfl rfl ?_
  replace hF := zq_bd hF; obtain ⟨v_1, e_2, hF⟩ := hF
  refine zq_cS (pc' := 4) C (c_X5_isWhich e_2) ys_X5_isWhich wd_264 dX5_degree_1 rfl rfl rfl ⟨Nat.le_of_ble_eq_true rfl, Nat.le_of_ble_eq_true rfl⟩ (Nat.le_of_ble_eq_true rfl) ⟨rfl, rfl⟩ ⟨Nat.le_of_ble_eq_true rfl, Nat.le_of_ble_eq_true rfl⟩ rfl ?_
  refine zq_if_eq (pc' := 7) C 24 dX5_degree_4 (by decide) rfl (fun c_3 => ?_) (fun c_3 => ?_)
  · have hF := (zq_ifp hF (zq_b0.mp c_3))
    skip
    have hF := Option.some.inj hF
    subst hF
    exact zq_throwS C 1 "no such triangulation or corner" (by decide) (by decide +kernel) dX5_degree_24 dX5_degree_27 dX5_degree_28 dX5_degree_30 dX5_degree_33 (by decide) (Nat.le_of_ble_eq_true rfl) ⟨Nat.le_of_ble_eq_true rfl, Nat.le_of_ble_eq_true rfl⟩ ⟨Nat.le_of_ble_eq_true rfl, Nat.le_of_ble_eq_true rfl⟩ (hX _ rfl)
  · have hF := (zq_ifn hF (fun q => c_3 (zq_b0.mpr q)))
    refine zq_aload_n (pc' := 8) C dX5_degree_7 rfl rfl rfl ?_
    replace hF := zq_bd hF; obtain ⟨v_4, e_5, hF⟩ := hF
    refine zq_getR (j := 1) (pc' := 11) C zq_K5 zq_in5w (Or.inl wd_210) (by decide) rfl dX5_degree_8 rfl e_5 ?_
    replace hF := zq_bd hF; obtain ⟨v_6, e_7, hF⟩ := hF
    refine zq_getR (j := 0) (pc' := 14) C zq_K3 zq_in3w (Or.inr ⟨"FlipPolygons", by decide +kernel⟩) (by decide) rfl dX5_degree_11 rfl e_7 ?_
    replace hF := zq_bd hF; obtain ⟨v_8, e_9, hF⟩ := hF
    refine zq_getR (j := 0) (pc' := 17) C zq_K0 zq_in0w (Or.inr ⟨"FlipPolygons", by decide +kernel⟩) (by decide) rfl dX5_degree_14 rfl e_9 ?_
    refine zq_iload_n (pc' := 18) C dX5_degree_17 rfl rfl rfl ?_
    replace hF := zq_ck_e hF; obtain ⟨e_12, hF⟩ := hF
    replace hF := zq_bd hF; obtain ⟨v_10, e_11, hF⟩ := hF
    refine zq_cV (pc' := 21) C (c_X1_isCorner e_11) yv_X1_isCorner wd_272 zq_K1 e_12 dX5_degree_18 rfl rfl rfl ⟨Nat.le_of_ble_eq_true rfl, Nat.le_of_ble_eq_true rfl⟩ (Nat.le_of_ble_eq_true rfl) ⟨rfl, rfl⟩ ⟨Nat.le_of_ble_eq_true rfl, Nat.le_of_ble_eq_true rfl⟩ rfl ?_
    refine zq_if_ne (pc' := 24) C 34 dX5_degree_21 (by decide) rfl (fun c_13 => ?_) (fun c_13 => ?_)
    · have hF := (zq_ifn hF (fun q => c_13 (zq_b0.mpr q)))
      skip
      refine zq_aload_n (pc' := 35) C dX5_degree_34 rfl rfl rfl ?_
      replace hF := zq_bd hF; obtain ⟨v_14, e_15, hF⟩ := hF
      refine zq_getR (j := 1) (pc' := 38) C zq_K5 zq_in5w (Or.inl wd_210) (by decide) rfl dX5_degree_35 rfl e_15 ?_
      replace hF := zq_bd hF; obtain ⟨v_16, e_17, hF⟩ := hF
      refine zq_getR (j := 0) (pc' := 41) C zq_K3 zq_in3w (Or.inr ⟨"FlipPolygons", by decide +kernel⟩) (by decide) rfl dX5_degree_38 rfl e_17 ?_
      replace hF := zq_bd hF; obtain ⟨v_18, e_19, hF⟩ := hF
      refine zq_getR (j := 0) (pc' := 44) C zq_K0 zq_in0w (Or.inr ⟨"FlipPolygons", by decide +kernel⟩) (by decide) rfl dX5_degree_41 rfl e_19 ?_
      refine zq_aload_n (pc' := 45) C dX5_degree_44 rfl rfl rfl ?_
      replace hF := zq_bd hF; obtain ⟨v_20, e_21, hF⟩ := hF
      refine zq_getR (j := 1) (pc' := 48) C zq_K5 zq_in5w (Or.inl wd_210) (by decide) rfl dX5_degree_45 rfl e_21 ?_
      refine zq_iload_n (pc' := 49) C dX5_degree_48 rfl rfl rfl ?_
      replace hF := zq_ck_e hF; obtain ⟨e_24, hF⟩ := hF
      replace hF := zq_bd hF; obtain ⟨v_22, e_23, hF⟩ := hF
      refine zq_cV (pc' := 52) C (c_X3_mask e_23) yv_X3_mask wd_251 zq_K3 e_24 dX5_degree_49 rfl rfl rfl ⟨Nat.le_of_ble_eq_true rfl, Nat.le_of_ble_eq_true rfl⟩ (Nat.le_of_ble_eq_true rfl) ⟨rfl, rfl⟩ ⟨Nat.le_of_ble_eq_true rfl, Nat.le_of_ble_eq_true rfl⟩ rfl ?_
      refine zq_iload_n (pc' := 53) C dX5_degree_52 rfl rfl rfl ?_
      replace hF := zq_ck_e hF; obtain ⟨e_27, hF⟩ := hF
      replace hF := zq_bd hF; obtain ⟨v_25, e_26, hF⟩ := hF
      refine zq_cV (pc' := 56) C (c_X1_degreeIn e_26) yv_X1_degreeIn wd_363 zq_K1 e_27 dX5_degree_53 rfl rfl rfl ⟨Nat.le_of_ble_eq_true rfl, Nat.le_of_ble_eq_true rfl⟩ (Nat.le_of_ble_eq_true rfl) ⟨rfl, rfl⟩ ⟨Nat.le_of_ble_eq_true rfl, Nat.le_of_ble_eq_true rfl⟩ rfl ?_
      have hF := Option.some.inj hF
      subst hF
      exact hE _ rfl _ _ _ _ (Nat.le_of_ble_eq_true rfl) (Nat.le_of_ble_eq_true rfl) dX5_degree_56
    · have hF := (zq_ifp hF (zq_b0.mp c_13))
      have hF := Option.some.inj hF
      subst hF
      exact zq_throwS C 1 "no such triangulation or corner" (by decide) (by decide +kernel) dX5_degree_24 dX5_degree_27 dX5_degree_28 dX5_degree_30 dX5_degree_33 (by decide) (Nat.le_of_ble_eq_true rfl) ⟨Nat.le_of_ble_eq_true rfl, Nat.le_of_ble_eq_true rfl⟩ ⟨Nat.le_of_ble_eq_true rfl, Nat.le_of_ble_eq_true rfl⟩ (hX _ rfl)
theorem c_X5_degree {h : zq_H} {t : Nat} {x1 : Int32} {x2 : Int32} {out : ((Int32 × zq_H) ⊕ (Nat × zq_H))} (hF : f_X5_degree h t x1 x2 = some out) : zq_Mx yX5_degree (Cond.code yX5_degree cX5_degree 3 (some .int) :: zq_all) rm_X5_degree [.ref t, .int x1, .int x2] h (zq_ox out) := zq_metx (own := RX5) (by decide +kernel) rfl (Nat.le_of_ble_eq_true rfl) rfl (fun X C _ _ hE hX => v_X5_degree C hF hE hX)
theorem yv_X5_degree : zq_calV yX5_degree RX5 cX5_degree 3 (some .int) 2 := ⟨by decide +kernel, wd_364, wd_755, wd_756, wd_95⟩
def f_X5_other (h : zq_H) (t : Nat) (x1 : Int32) (x2 : Int32) (x3 : Int32) : Option ((Int32 × zq_H) ⊕ (Nat × zq_H)) := (Option.bind (zq_gr h t 5 1) fun v_1 => (Option.bind (zq_gr h v_1 3 0) fun v_3 => (Option.bind (zq_gr h v_3 0 0) fun v_5 => (zq_ck h v_5 1 fun _ => (Option.bind (f_X1_numberOf h v_5 x2 x3) fun v_7 => (Option.bind (f_X5_isWhich h x1) fun v_10 => (if v_10 = false then some (.inr (1, h)) else (if v_7 = (-1) then some (.inr (1, h)) else (Option.bind (zq_gr h t 5 1) fun v_14 => (Option.bind (zq_gr h v_14 3 0) fun v_16 => (Option.bind (zq_gr h v_16 0 0) fun v_18 => (Option.bind (zq_gr h t 5 1) fun v_20 => (zq_ck h v_20 3 fun _ => (Option.bind (f_X3_mask h v_20 x1) fun v_22 => (zq_ck h v_18 1 fun _ => (Option.bind (f_X1_otherOf h v_18 v_22 v_7) fun v_25 => some ((.inl (v_25, h)))))))))))))))))))
abbrev rm_X5_other : Room := { frames := 6, cells := 1, slots := 6, locals := 98 }
theorem dX5_other_0 : decode cX5_other 0 = .ok (.aload_n 0, 1) := by decide +kernel
theorem dX5_other_1 : decode cX5_other 1 = .ok (.getfield 30, 3) := by decide +kernel
theorem dX5_other_4 : decode cX5_other 4 = .ok (.getfield 83, 3) := by decide +kernel
theorem dX5_other_7 : decode cX5_other 7 = .ok (.getfield 87, 3) := by decide +kernel
theorem dX5_other_10 : decode cX5_other 10 = .ok (.iload_n 2, 1) := by decide +kernel
theorem dX5_other_11 : decode cX5_other 11 = .ok (.iload_n 3, 1) := by decide +kernel
theorem dX5_other_12 : decode cX5_other 12 = .ok (.invokevirtual 95, 3) := by decide +kernel
theorem dX5_other_15 : decode cX5_other 15 = .ok (.istore 4, 2) := by decide +kernel
theorem dX5_other_17 : decode cX5_other 17 = .ok (.iload_n 1, 1) := by decide +kernel
theorem dX5_other_18 : decode cX5_other 18 = .ok (.invokestatic 99, 3) := by decide +kernel
theorem dX5_other_21 : decode cX5_other 21 = .ok (.ifCond .eq 9, 3) := by decide +kernel
theorem dX5_other_24 : decode cX5_other 24 = .ok (.iload 4, 2) := by decide +kernel
theorem dX5_other_26 : decode cX5_other 26 = .ok (.iconst (-1), 1) := by decide +kernel
theorem dX5_other_27 : decode cX5_other 27 = .ok (.if_icmp .ne 13, 3) := by decide +kernel
theorem dX5_other_30 : decode cX5_other 30 = .ok (.new 103, 3) := by decide +kernel
theorem dX5_other_33 : decode cX5_other 33 = .ok (.dup, 1) := by decide +kernel
theorem dX5_other_34 : decode cX5_other 34 = .ok (.ldc 105, 2) := by decide +kernel
theorem dX5_other_36 : decode cX5_other 36 = .ok (.invokespecial 107, 3) := by decide +kernel
theorem dX5_other_39 : decode cX5_other 39 = .ok (.athrow, 1) := by decide +kernel
theorem dX5_other_40 : decode cX5_other 40 = .ok (.aload_n 0, 1) := by decide +kernel
theorem dX5_other_41 : decode cX5_other 41 = .ok (.getfield 30, 3) := by decide +kernel
theorem dX5_other_44 : decode cX5_other 44 = .ok (.getfield 83, 3) := by decide +kernel
theorem dX5_other_47 : decode cX5_other 47 = .ok (.getfield 87, 3) := by decide +kernel
theorem dX5_other_50 : decode cX5_other 50 = .ok (.aload_n 0, 1) := by decide +kernel
theorem dX5_other_51 : decode cX5_other 51 = .ok (.getfield 30, 3) := by decide +kernel
theorem dX5_other_54 : decode cX5_other 54 = .ok (.iload_n 1, 1) := by decide +kernel
theorem dX5_other_55 : decode cX5_other 55 = .ok (.invokevirtual 108, 3) := by decide +kernel
theorem dX5_other_58 : decode cX5_other 58 = .ok (.iload 4, 2) := by decide +kernel
theorem dX5_other_60 : decode cX5_other 60 = .ok (.invokevirtual 237, 3) := by decide +kernel
theorem dX5_other_63 : decode cX5_other 63 = .ok (.ireturn, 1) := by decide +kernel
set_option maxRecDepth 100000 in
set_option maxHeartbeats 4000000 in
theorem v_X5_other {X : zq_X} (C : zq_C X RX5 cX5_other 5 zq_all rm_X5_other) {h : zq_H} {t : Nat} {x1 : Int32} {x2 : Int32} {x3 : Int32} {out : ((Int32 × zq_H) ⊕ (Nat × zq_H))} (hF : f_X5_other h t x1 x2 x3 = some out) (hE : ∀ q, out = .inl q → zq_End X cX5_other 1 6 (some (.int q.1)) q.2) (hX : ∀ q, out = .inr q → zq_Thr X 1 6 q.1 q.2) : zq_W X 0 0 h 0 [(0, .ref t), (1, .int x1), (2, .int x2), (3, .int x3)] [] := by
  unfold f_X5_other at hF
  refine zq_aload_n (pc' := 1) C dX5_other_0 rfl rfl rfl ?_
  replace hF := zq_bd hF; obtain ⟨v_1, e_2, hF⟩ := hF
  refine zq_getR (j := 1) (pc' := 4) C zq_K5 zq_in5w (Or.inl wd_210) (by decide) rfl dX5_other_1 rfl e_2 ?_
  replace hF := zq_bd hF; obtain ⟨v_3, e_4, hF⟩ := hF
  refine zq_getR (j := 0) (pc' := 7) C zq_K3 zq_in3w (Or.inr ⟨"FlipPolygons", by decide +kernel⟩) (by decide) rfl dX5_other_4 rfl e_4 ?_
  replace hF := zq_bd hF; obtain ⟨v_5, e_6, hF⟩ := hF
  refine zq_getR (j := 0) (pc' := 10) C zq_K0 zq_in0w (Or.inr ⟨"FlipPolygons", by decide +kernel⟩) (by decide) rfl dX5_other_7 rfl e_6 ?_
  refine zq_iload_n (pc' := 11) C dX5_other_10 rfl rfl rfl ?_
  refine zq_iload_n (pc' := 12) C dX5_other_11 rfl rfl rfl ?_
  replace hF := zq_ck_e hF; obtain ⟨e_9, hF⟩ := hF
  replace hF := zq_bd hF; obtain ⟨v_7, e_8, hF⟩ := hF
  refine zq_cV (pc' := 15) C (c_X1_numberOf e_8) yv_X1_numberOf wd_263 zq_K1 e_9 dX5_other_12 rfl rfl rfl ⟨Nat.le_of_ble_eq_true rfl, Nat.le_of_ble_eq_true rfl⟩ (Nat.le_of_ble_eq_true rfl) ⟨rfl, rfl⟩ ⟨Nat.le_of_ble_eq_true rfl, Nat.le_of_ble_eq_true rfl⟩ rfl ?_
  refine zq_istore (lv' := [(4, .int v_7), (0, .ref t), (1, .int x1), (2, .int x2), (3, .int x3)]) (pc' := 17) C dX5_other_15 rfl (by decide) rfl rfl ?_
  refine zq_iload_n (pc' := 18) C dX5_other_17 rfl rfl rfl ?_
  replace hF := zq_bd hF; obtain ⟨v_10, e_11, hF⟩ := hF
  refine zq_cS (pc' := 21) C (c_X5_isWhich e_11) ys_X5_isWhich wd_264 dX5_other_18 rfl rfl rfl ⟨Nat.le_of_ble_eq_true rfl, Nat.le_of_ble_eq_true rfl⟩ (Nat.le_of_ble_eq_true rfl) ⟨rfl, rfl⟩ ⟨Nat.le_of_ble_eq_true rfl, Nat.le_of_ble_eq_true rfl⟩ rfl ?_
  refine zq_if_eq (pc' := 24) C 30 dX5_other_21 (by decide) rfl (fun c_12 => ?_) (fun c_12 => ?_)
  · have hF := (zq_ifp hF (zq_b0.mp c_12))
    skip
    have hF := Option.some.inj hF
    subst hF
    exact zq_throwS C 1 "no such triangulation or diagonal" (by decide) (by decide +kernel) dX5_other_30 dX5_other_33 dX5_other_34 dX5_other_36 dX5_other_39 (by decide) (Nat.le_of_ble_eq_true rfl) ⟨Nat.le_of_ble_eq_true rfl, Nat.le_of_ble_eq_true rfl⟩ ⟨Nat.le_of_ble_eq_true rfl, Nat.le_of_ble_eq_true rfl⟩ (hX _ rfl)
  · have hF := (zq_ifn hF (fun q => c_12 (zq_b0.mpr q)))
    refine zq_iload (pc' := 26) C dX5_other_24 rfl rfl ?_
    refine zq_iconst (pc' := 27) C (-1) dX5_other_26 rfl (by decide) ?_
    refine zq_icmp_ne (pc' := 30) C 40 dX5_other_27 (by decide) rfl (fun c_13 => ?_) (fun c_13 => ?_)
    · have hF := (zq_ifn hF c_13)
      skip
      refine zq_aload_n (pc' := 41) C dX5_other_40 rfl rfl rfl ?_
      replace hF := zq_bd hF; obtain ⟨v_14, e_15, hF⟩ := hF
      refine zq_getR (j := 1) (pc' := 44) C zq_K5 zq_in5w (Or.inl wd_210) (by decide) rfl dX5_other_41 rfl e_15 ?_
      replace hF := zq_bd hF; obtain ⟨v_16, e_17, hF⟩ := hF
      refine zq_getR (j := 0) (pc' := 47) C zq_K3 zq_in3w (Or.inr ⟨"FlipPolygons", by decide +kernel⟩) (by decide) rfl dX5_other_44 rfl e_17 ?_
      replace hF := zq_bd hF; obtain ⟨v_18, e_19, hF⟩ := hF
      refine zq_getR (j := 0) (pc' := 50) C zq_K0 zq_in0w (Or.inr ⟨"FlipPolygons", by decide +kernel⟩) (by decide) rfl dX5_other_47 rfl e_19 ?_
      refine zq_aload_n (pc' := 51) C dX5_other_50 rfl rfl rfl ?_
      replace hF := zq_bd hF; obtain ⟨v_20, e_21, hF⟩ := hF
      refine zq_getR (j := 1) (pc' := 54) C zq_K5 zq_in5w (Or.inl wd_210) (by decide) rfl dX5_other_51 rfl e_21 ?_
      refine zq_iload_n (pc' := 55) C dX5_other_54 rfl rfl rfl ?_
      replace hF := zq_ck_e hF; obtain ⟨e_24, hF⟩ := hF
      replace hF := zq_bd hF; obtain ⟨v_22, e_23, hF⟩ := hF
      refine zq_cV (pc' := 58) C (c_X3_mask e_23) yv_X3_mask wd_251 zq_K3 e_24 dX5_other_55 rfl rfl rfl ⟨Nat.le_of_ble_eq_true rfl, Nat.le_of_ble_eq_true rfl⟩ (Nat.le_of_ble_eq_true rfl) ⟨rfl, rfl⟩ ⟨Nat.le_of_ble_eq_true rfl, Nat.le_of_ble_eq_true rfl⟩ rfl ?_
      refine zq_iload (pc' := 60) C dX5_other_58 rfl rfl ?_
      replace hF := zq_ck_e hF; obtain ⟨e_27, hF⟩ := hF
      replace hF := zq_bd hF; obtain ⟨v_25, e_26, hF⟩ := hF
      refine zq_cV (pc' := 63) C (c_X1_otherOf e_26) yv_X1_otherOf wd_254 zq_K1 e_27 dX5_other_60 rfl rfl rfl ⟨Nat.le_of_ble_eq_true rfl, Nat.le_of_ble_eq_true rfl⟩ (Nat.le_of_ble_eq_true rfl) ⟨rfl, rfl⟩ ⟨Nat.le_of_ble_eq_true rfl, Nat.le_of_ble_eq_true rfl⟩ rfl ?_
      have hF := Option.some.inj hF
      subst hF
      exact hE _ rfl _ _ _ _ (Nat.le_of_ble_eq_true rfl) (Nat.le_of_ble_eq_true rfl) dX5_other_63
    · have hF := (zq_ifp hF c_13)
      have hF := Option.some.inj hF
      subst hF
      exact zq_throwS C 1 "no such triangulation or diagonal" (by decide) (by decide +kernel) dX5_other_30 dX5_other_33 dX5_other_34 dX5_other_36 dX5_other_39 (by decide) (Nat.le_of_ble_eq_true rfl) ⟨Nat.le_of_ble_eq_true rfl, Nat.le_of_ble_eq_true rfl⟩ ⟨Nat.le_of_ble_eq_true rfl, Nat.le_of_ble_eq_true rfl⟩ (hX _ rfl)
theorem c_X5_other {h : zq_H} {t : Nat} {x1 : Int32} {x2 : Int32} {x3 : Int32} {out : ((Int32 × zq_H) ⊕ (Nat × zq_H))} (hF : f_X5_other h t x1 x2 x3 = some out) : zq_Mx yX5_other (Cond.code yX5_other cX5_other 5 (some .int) :: zq_all) rm_X5_other [.ref t, .int x1, .int x2, .int x3] h (zq_ox out) := zq_metx (own := RX5) (by decide +kernel) rfl (Nat.le_of_ble_eq_true rfl) rfl (fun X C _ _ hE hX => v_X5_other C hF hE hX)
theorem yv_X5_other : zq_calV yX5_other RX5 cX5_other 5 (some .int) 3 := ⟨by decide +kernel, wd_365, wd_759, wd_760, wd_95⟩
def f_X5_whyNot (h : zq_H) (t : Nat) (x1 : Int32) (x2 : Int32) : Option ((Int32 × zq_H) ⊕ (Nat × zq_H)) := (Option.bind (zq_gr h t 5 1) fun v_1 => (Option.bind (zq_gr h v_1 3 0) fun v_3 => (Option.bind (zq_gr h v_3 0 0) fun v_5 => (zq_ck h v_5 1 fun _ => (Option.bind (f_X1_numberOf h v_5 x1 x2) fun v_7 => (if v_7 = (-1) then some (.inr (1, h)) else (zq_ck h t 5 fun _ => (Option.bind (f_X5_hindrance h t v_7) fun v_11 => some ((.inl (v_11, h)))))))))))
abbrev rm_X5_whyNot : Room := { frames := 6, cells := 1, slots := 6, locals := 98 }
theorem dX5_whyNot_0 : decode cX5_whyNot 0 = .ok (.aload_n 0, 1) := by decide +kernel
theorem dX5_whyNot_1 : decode cX5_whyNot 1 = .ok (.getfield 30, 3) := by decide +kernel
theorem dX5_whyNot_4 : decode cX5_whyNot 4 = .ok (.getfield 83, 3) := by decide +kernel
theorem dX5_whyNot_7 : decode cX5_whyNot 7 = .ok (.getfield 87, 3) := by decide +kernel
theorem dX5_whyNot_10 : decode cX5_whyNot 10 = .ok (.iload_n 1, 1) := by decide +kernel
theorem dX5_whyNot_11 : decode cX5_whyNot 11 = .ok (.iload_n 2, 1) := by decide +kernel
theorem dX5_whyNot_12 : decode cX5_whyNot 12 = .ok (.invokevirtual 95, 3) := by decide +kernel
theorem dX5_whyNot_15 : decode cX5_whyNot 15 = .ok (.istore_n 3, 1) := by decide +kernel
theorem dX5_whyNot_16 : decode cX5_whyNot 16 = .ok (.iload_n 3, 1) := by decide +kernel
theorem dX5_whyNot_17 : decode cX5_whyNot 17 = .ok (.iconst (-1), 1) := by decide +kernel
theorem dX5_whyNot_18 : decode cX5_whyNot 18 = .ok (.if_icmp .ne 13, 3) := by decide +kernel
theorem dX5_whyNot_21 : decode cX5_whyNot 21 = .ok (.new 103, 3) := by decide +kernel
theorem dX5_whyNot_24 : decode cX5_whyNot 24 = .ok (.dup, 1) := by decide +kernel
theorem dX5_whyNot_25 : decode cX5_whyNot 25 = .ok (.ldc 163, 2) := by decide +kernel
theorem dX5_whyNot_27 : decode cX5_whyNot 27 = .ok (.invokespecial 107, 3) := by decide +kernel
theorem dX5_whyNot_30 : decode cX5_whyNot 30 = .ok (.athrow, 1) := by decide +kernel
theorem dX5_whyNot_31 : decode cX5_whyNot 31 = .ok (.aload_n 0, 1) := by decide +kernel
theorem dX5_whyNot_32 : decode cX5_whyNot 32 = .ok (.iload_n 3, 1) := by decide +kernel
theorem dX5_whyNot_33 : decode cX5_whyNot 33 = .ok (.invokevirtual 240, 3) := by decide +kernel
theorem dX5_whyNot_36 : decode cX5_whyNot 36 = .ok (.ireturn, 1) := by decide +kernel
set_option maxRecDepth 100000 in
set_option maxHeartbeats 4000000 in
theorem v_X5_whyNot {X : zq_X} (C : zq_C X RX5 cX5_whyNot 4 zq_all rm_X5_whyNot) {h : zq_H} {t : Nat} {x1 : Int32} {x2 : Int32} {out : ((Int32 × zq_H) ⊕ (Nat × zq_H))} (hF : f_X5_whyNot h t x1 x2 = some out) (hE : ∀ q, out = .inl q → zq_End X cX5_whyNot 1 6 (some (.int q.1)) q.2) (hX : ∀ q, out = .inr q → zq_Thr X 1 6 q.1 q.2) : zq_W X 0 0 h 0 [(0, .ref t), (1, .int x1), (2, .int x2)] [] := by
  unfold f_X5_whyNot at hF
  refine zq_aload_n (pc' := 1) C dX5_whyNot_0 rfl rfl rfl ?_
  replace hF := zq_bd hF; obtain ⟨v_1, e_2, hF⟩ := hF
  refine zq_getR (j := 1) (pc' := 4) C zq_K5 zq_in5w (Or.inl wd_210) (by decide) rfl dX5_whyNot_1 rfl e_2 ?_
  replace hF := zq_bd hF; obtain ⟨v_3, e_4, hF⟩ := hF
  refine zq_getR (j := 0) (pc' := 7) C zq_K3 zq_in3w (Or.inr ⟨"FlipPolygons", by decide +kernel⟩) (by decide) rfl dX5_whyNot_4 rfl e_4 ?_
  replace hF := zq_bd hF; obtain ⟨v_5, e_6, hF⟩ := hF
  refine zq_getR (j := 0) (pc' := 10) C zq_K0 zq_in0w (Or.inr ⟨"FlipPolygons", by decide +kernel⟩) (by decide) rfl dX5_whyNot_7 rfl e_6 ?_
  refine zq_iload_n (pc' := 11) C dX5_whyNot_10 rfl rfl rfl ?_
  refine zq_iload_n (pc' := 12) C dX5_whyNot_11 rfl rfl rfl ?_
  replace hF := zq_ck_e hF; obtain ⟨e_9, hF⟩ := hF
  replace hF := zq_bd hF; obtain ⟨v_7, e_8, hF⟩ := hF
  refine zq_cV (pc' := 15) C (c_X1_numberOf e_8) yv_X1_numberOf wd_263 zq_K1 e_9 dX5_whyNot_12 rfl rfl rfl ⟨Nat.le_of_ble_eq_true rfl, Nat.le_of_ble_eq_true rfl⟩ (Nat.le_of_ble_eq_true rfl) ⟨rfl, rfl⟩ ⟨Nat.le_of_ble_eq_true rfl, Nat.le_of_ble_eq_true rfl⟩ rfl ?_
  refine zq_istore_n (lv' := [(3, .int v_7), (0, .ref t), (1, .int x1), (2, .int x2)]) (pc' := 16) C dX5_whyNot_15 rfl rfl (by decide) rfl rfl ?_
  refine zq_iload_n (pc' := 17) C dX5_whyNot_16 rfl rfl rfl ?_
  refine zq_iconst (pc' := 18) C (-1) dX5_whyNot_17 rfl (by decide) ?_
  refine zq_icmp_ne (pc' := 21) C 31 dX5_whyNot_18 (by decide) rfl (fun c_10 => ?_) (fun c_10 => ?_)
  · have hF := (zq_ifn hF c_10)
    skip
    refine zq_aload_n (pc' := 32) C dX5_whyNot_31 rfl rfl rfl ?_
    refine zq_iload_n (pc' := 33) C dX5_whyNot_32 rfl rfl rfl ?_
    replace hF := zq_ck_e hF; obtain ⟨e_13, hF⟩ := hF
    replace hF := zq_bd hF; obtain ⟨v_11, e_12, hF⟩ := hF
    refine zq_cV (pc' := 36) C (c_X5_hindrance e_12) yv_X5_hindrance wd_368 zq_K5 e_13 dX5_whyNot_33 rfl rfl rfl ⟨Nat.le_of_ble_eq_true rfl, Nat.le_of_ble_eq_true rfl⟩ (Nat.le_of_ble_eq_true rfl) ⟨rfl, rfl⟩ ⟨Nat.le_of_ble_eq_true rfl, Nat.le_of_ble_eq_true rfl⟩ rfl ?_
    have hF := Option.some.inj hF
    subst hF
    exact hE _ rfl _ _ _ _ (Nat.le_of_ble_eq_true rfl) (Nat.le_of_ble_eq_true rfl) dX5_whyNot_36
  · have hF := (zq_ifp hF c_10)
    have hF := Option.some.inj hF
    subst hF
    exact zq_throwS C 1 "no such diagonal" (by decide) (by decide +kernel) dX5_whyNot_21 dX5_whyNot_24 dX5_whyNot_25 dX5_whyNot_27 dX5_whyNot_30 (by decide) (Nat.le_of_ble_eq_true rfl) ⟨Nat.le_of_ble_eq_true rfl, Nat.le_of_ble_eq_true rfl⟩ ⟨Nat.le_of_ble_eq_true rfl, Nat.le_of_ble_eq_true rfl⟩ (hX _ rfl)
theorem c_X5_whyNot {h : zq_H} {t : Nat} {x1 : Int32} {x2 : Int32} {out : ((Int32 × zq_H) ⊕ (Nat × zq_H))} (hF : f_X5_whyNot h t x1 x2 = some out) : zq_Mx yX5_whyNot (Cond.code yX5_whyNot cX5_whyNot 4 (some .int) :: zq_all) rm_X5_whyNot [.ref t, .int x1, .int x2] h (zq_ox out) := zq_metx (own := RX5) (by decide +kernel) rfl (Nat.le_of_ble_eq_true rfl) rfl (fun X C _ _ hE hX => v_X5_whyNot C hF hE hX)
theorem yv_X5_whyNot : zq_calV yX5_whyNot RX5 cX5_whyNot 4 (some .int) 2 := ⟨by decide +kernel, wd_367, wd_763, wd_764, wd_95⟩
def f_X5_distance (h : zq_H) (t : Nat) (x1 : Int32) : Option ((Int32 × zq_H) ⊕ (Nat × zq_H)) := (if x1 < 0 then some (.inr (0, h)) else (if x1 < 6 then (zq_ck h t 5 fun _ => (Option.bind (f_X5_distanceNumber h t x1) fun v_3 => some ((.inl (v_3.1, v_3.2))))) else some (.inr (0, h))))
abbrev rm_X5_distance : Room := { frames := 6, cells := 1, slots := 6, locals := 144 }
theorem dX5_distance_0 : decode cX5_distance 0 = .ok (.iload_n 1, 1) := by decide +kernel
theorem dX5_distance_1 : decode cX5_distance 1 = .ok (.ifCond .lt 9, 3) := by decide +kernel
theorem dX5_distance_4 : decode cX5_distance 4 = .ok (.iload_n 1, 1) := by decide +kernel
theorem dX5_distance_5 : decode cX5_distance 5 = .ok (.bipush 6, 2) := by decide +kernel
theorem dX5_distance_7 : decode cX5_distance 7 = .ok (.if_icmp .lt 13, 3) := by decide +kernel
theorem dX5_distance_10 : decode cX5_distance 10 = .ok (.new 73, 3) := by decide +kernel
theorem dX5_distance_13 : decode cX5_distance 13 = .ok (.dup, 1) := by decide +kernel
theorem dX5_distance_14 : decode cX5_distance 14 = .ok (.ldc 229, 2) := by decide +kernel
theorem dX5_distance_16 : decode cX5_distance 16 = .ok (.invokespecial 77, 3) := by decide +kernel
theorem dX5_distance_19 : decode cX5_distance 19 = .ok (.athrow, 1) := by decide +kernel
theorem dX5_distance_20 : decode cX5_distance 20 = .ok (.aload_n 0, 1) := by decide +kernel
theorem dX5_distance_21 : decode cX5_distance 21 = .ok (.iload_n 1, 1) := by decide +kernel
theorem dX5_distance_22 : decode cX5_distance 22 = .ok (.invokevirtual 243, 3) := by decide +kernel
theorem dX5_distance_25 : decode cX5_distance 25 = .ok (.ireturn, 1) := by decide +kernel
set_option maxRecDepth 100000 in
set_option maxHeartbeats 4000000 in
theorem v_X5_distance {X : zq_X} (C : zq_C X RX5 cX5_distance 2 zq_all rm_X5_distance) {h : zq_H} {t : Nat} {x1 : Int32} {out : ((Int32 × zq_H) ⊕ (Nat × zq_H))} (hF : f_X5_distance h t x1 = some out) (hE : ∀ q, out = .inl q → zq_End X cX5_distance 1 6 (some (.int q.1)) q.2) (hX : ∀ q, out = .inr q → zq_Thr X 1 6 q.1 q.2) : zq_W X 0 0 h 0 [(0, .ref t), (1, .int x1)] [] := by
  unfold f_X5_distance at hF
  refine zq_iload_n (pc' := 1) C dX5_distance_0 rfl rfl rfl ?_
  refine zq_if_lt (pc' := 4) C 10 dX5_distance_1 (by decide) rfl (fun c_1 => ?_) (fun c_1 => ?_)
  · have hF := (zq_ifp hF c_1)
    skip
    have hF := Option.some.inj hF
    subst hF
    exact zq_throwS C 0 "what is out of range" (by decide) (by decide +kernel) dX5_distance_10 dX5_distance_13 dX5_distance_14 dX5_distance_16 dX5_distance_19 (by decide) (Nat.le_of_ble_eq_true rfl) ⟨Nat.le_of_ble_eq_true rfl, Nat.le_of_ble_eq_true rfl⟩ ⟨Nat.le_of_ble_eq_true rfl, Nat.le_of_ble_eq_true rfl⟩ (hX _ rfl)
  · have hF := (zq_ifn hF c_1)
    refine zq_iload_n (pc' := 5) C dX5_distance_4 rfl rfl rfl ?_
    refine zq_bipush (pc' := 7) C 6 dX5_distance_5 rfl (by decide) ?_
    refine zq_icmp_lt (pc' := 10) C 20 dX5_distance_7 (by decide) rfl (fun c_2 => ?_) (fun c_2 => ?_)
    · have hF := (zq_ifp hF c_2)
      skip
      refine zq_aload_n (pc' := 21) C dX5_distance_20 rfl rfl rfl ?_
      refine zq_iload_n (pc' := 22) C dX5_distance_21 rfl rfl rfl ?_
      replace hF := zq_ck_e hF; obtain ⟨e_5, hF⟩ := hF
      replace hF := zq_bd hF; obtain ⟨v_3, e_4, hF⟩ := hF
      refine zq_cV (pc' := 25) C (c_X5_distanceNumber e_4) yv_X5_distanceNumber wd_402 zq_K5 e_5 dX5_distance_22 rfl rfl rfl ⟨Nat.le_of_ble_eq_true rfl, Nat.le_of_ble_eq_true rfl⟩ (Nat.le_of_ble_eq_true rfl) ⟨rfl, rfl⟩ ⟨Nat.le_of_ble_eq_true rfl, Nat.le_of_ble_eq_true rfl⟩ rfl ?_
      have hF := Option.some.inj hF
      subst hF
      exact hE _ rfl _ _ _ _ (Nat.le_of_ble_eq_true rfl) (Nat.le_of_ble_eq_true rfl) dX5_distance_25
    · have hF := (zq_ifn hF c_2)
      have hF := Option.some.inj hF
      subst hF
      exact zq_throwS C 0 "what is out of range" (by decide) (by decide +kernel) dX5_distance_10 dX5_distance_13 dX5_distance_14 dX5_distance_16 dX5_distance_19 (by decide) (Nat.le_of_ble_eq_true rfl) ⟨Nat.le_of_ble_eq_true rfl, Nat.le_of_ble_eq_true rfl⟩ ⟨Nat.le_of_ble_eq_true rfl, Nat.le_of_ble_eq_true rfl⟩ (hX _ rfl)
theorem c_X5_distance {h : zq_H} {t : Nat} {x1 : Int32} {out : ((Int32 × zq_H) ⊕ (Nat × zq_H))} (hF : f_X5_distance h t x1 = some out) : zq_Mx yX5_distance (Cond.code yX5_distance cX5_distance 2 (some .int) :: zq_all) rm_X5_distance [.ref t, .int x1] h (zq_ox out) := zq_metx (own := RX5) (by decide +kernel) rfl (Nat.le_of_ble_eq_true rfl) rfl (fun X C _ _ hE hX => v_X5_distance C hF hE hX)
theorem yv_X5_distance : zq_calV yX5_distance RX5 cX5_distance 2 (some .int) 1 := ⟨by decide +kernel, wd_405, wd_767, wd_768, wd_95⟩
def f_X5_ifFlipped (h : zq_H) (t : Nat) (x1 : Int32) (x2 : Int32) : Option ((Int32 × zq_H) ⊕ (Nat × zq_H)) := (Option.bind (zq_gr h t 5 1) fun v_1 => (Option.bind (zq_gr h v_1 3 0) fun v_3 => (Option.bind (zq_gr h v_3 0 0) fun v_5 => (zq_ck h v_5 1 fun _ => (Option.bind (f_X1_numberOf h v_5 x1 x2) fun v_7 => (if v_7 = (-1) then some (.inr (1, h)) else (zq_ck h t 5 fun _ => (Option.bind (f_X5_freeDistanceBehind h t v_7) fun v_11 => some ((.inl (v_11.1, v_11.2)))))))))))
abbrev rm_X5_ifFlipped : Room := { frames := 6, cells := 1, slots := 6, locals := 119 }
theorem dX5_ifFlipped_0 : decode cX5_ifFlipped 0 = .ok (.aload_n 0, 1) := by decide +kernel
theorem dX5_ifFlipped_1 : decode cX5_ifFlipped 1 = .ok (.getfield 30, 3) := by decide +kernel
theorem dX5_ifFlipped_4 : decode cX5_ifFlipped 4 = .ok (.getfield 83, 3) := by decide +kernel
theorem dX5_ifFlipped_7 : decode cX5_ifFlipped 7 = .ok (.getfield 87, 3) := by decide +kernel
theorem dX5_ifFlipped_10 : decode cX5_ifFlipped 10 = .ok (.iload_n 1, 1) := by decide +kernel
theorem dX5_ifFlipped_11 : decode cX5_ifFlipped 11 = .ok (.iload_n 2, 1) := by decide +kernel
theorem dX5_ifFlipped_12 : decode cX5_ifFlipped 12 = .ok (.invokevirtual 95, 3) := by decide +kernel
theorem dX5_ifFlipped_15 : decode cX5_ifFlipped 15 = .ok (.istore_n 3, 1) := by decide +kernel
theorem dX5_ifFlipped_16 : decode cX5_ifFlipped 16 = .ok (.iload_n 3, 1) := by decide +kernel
theorem dX5_ifFlipped_17 : decode cX5_ifFlipped 17 = .ok (.iconst (-1), 1) := by decide +kernel
theorem dX5_ifFlipped_18 : decode cX5_ifFlipped 18 = .ok (.if_icmp .ne 13, 3) := by decide +kernel
theorem dX5_ifFlipped_21 : decode cX5_ifFlipped 21 = .ok (.new 103, 3) := by decide +kernel
theorem dX5_ifFlipped_24 : decode cX5_ifFlipped 24 = .ok (.dup, 1) := by decide +kernel
theorem dX5_ifFlipped_25 : decode cX5_ifFlipped 25 = .ok (.ldc 163, 2) := by decide +kernel
theorem dX5_ifFlipped_27 : decode cX5_ifFlipped 27 = .ok (.invokespecial 107, 3) := by decide +kernel
theorem dX5_ifFlipped_30 : decode cX5_ifFlipped 30 = .ok (.athrow, 1) := by decide +kernel
theorem dX5_ifFlipped_31 : decode cX5_ifFlipped 31 = .ok (.aload_n 0, 1) := by decide +kernel
theorem dX5_ifFlipped_32 : decode cX5_ifFlipped 32 = .ok (.iload_n 3, 1) := by decide +kernel
theorem dX5_ifFlipped_33 : decode cX5_ifFlipped 33 = .ok (.invokevirtual 246, 3) := by decide +kernel
theorem dX5_ifFlipped_36 : decode cX5_ifFlipped 36 = .ok (.ireturn, 1) := by decide +kernel
set_option maxRecDepth 100000 in
set_option maxHeartbeats 4000000 in
theorem v_X5_ifFlipped {X : zq_X} (C : zq_C X RX5 cX5_ifFlipped 4 zq_all rm_X5_ifFlipped) {h : zq_H} {t : Nat} {x1 : Int32} {x2 : Int32} {out : ((Int32 × zq_H) ⊕ (Nat × zq_H))} (hF : f_X5_ifFlipped h t x1 x2 = some out) (hE : ∀ q, out = .inl q → zq_End X cX5_ifFlipped 1 6 (some (.int q.1)) q.2) (hX : ∀ q, out = .inr q → zq_Thr X 1 6 q.1 q.2) : zq_W X 0 0 h 0 [(0, .ref t), (1, .int x1), (2, .int x2)] [] := by
  unfold f_X5_ifFlipped at hF
  refine zq_aload_n (pc' := 1) C dX5_ifFlipped_0 rfl rfl rfl ?_
  replace hF := zq_bd hF; obtain ⟨v_1, e_2, hF⟩ := hF
  refine zq_getR (j := 1) (pc' := 4) C zq_K5 zq_in5w (Or.inl wd_210) (by decide) rfl dX5_ifFlipped_1 rfl e_2 ?_
  replace hF := zq_bd hF; obtain ⟨v_3, e_4, hF⟩ := hF
  refine zq_getR (j := 0) (pc' := 7) C zq_K3 zq_in3w (Or.inr ⟨"FlipPolygons", by decide +kernel⟩) (by decide) rfl dX5_ifFlipped_4 rfl e_4 ?_
  replace hF := zq_bd hF; obtain ⟨v_5, e_6, hF⟩ := hF
  refine zq_getR (j := 0) (pc' := 10) C zq_K0 zq_in0w (Or.inr ⟨"FlipPolygons", by decide +kernel⟩) (by decide) rfl dX5_ifFlipped_7 rfl e_6 ?_
  refine zq_iload_n (pc' := 11) C dX5_ifFlipped_10 rfl rfl rfl ?_
  refine zq_iload_n (pc' := 12) C dX5_ifFlipped_11 rfl rfl rfl ?_
  replace hF := zq_ck_e hF; obtain ⟨e_9, hF⟩ := hF
  replace hF := zq_bd hF; obtain ⟨v_7, e_8, hF⟩ := hF
  refine zq_cV (pc' := 15) C (c_X1_numberOf e_8) yv_X1_numberOf wd_263 zq_K1 e_9 dX5_ifFlipped_12 rfl rfl rfl ⟨Nat.le_of_ble_eq_true rfl, Nat.le_of_ble_eq_true rfl⟩ (Nat.le_of_ble_eq_true rfl) ⟨rfl, rfl⟩ ⟨Nat.le_of_ble_eq_true rfl, Nat.le_of_ble_eq_true rfl⟩ rfl ?_
  refine zq_istore_n (lv' := [(3, .int v_7), (0, .ref t), (1, .int x1), (2, .int x2)]) (pc' := 16) C dX5_ifFlipped_15 rfl rfl (by decide) rfl rfl ?_
  refine zq_iload_n (pc' := 17) C dX5_ifFlipped_16 rfl rfl rfl ?_
  refine zq_iconst (pc' := 18) C (-1) dX5_ifFlipped_17 rfl (by decide) ?_
  refine zq_icmp_ne (pc' := 21) C 31 dX5_ifFlipped_18 (by decide) rfl (fun c_10 => ?_) (fun c_10 => ?_)
  · have hF := (zq_ifn hF c_10)
    skip
    refine zq_aload_n (pc' := 32) C dX5_ifFlipped_31 rfl rfl rfl ?_
    refine zq_iload_n (pc' := 33) C dX5_ifFlipped_32 rfl rfl rfl ?_
    replace hF := zq_ck_e hF; obtain ⟨e_13, hF⟩ := hF
    replace hF := zq_bd hF; obtain ⟨v_11, e_12, hF⟩ := hF
    refine zq_cV (pc' := 36) C (c_X5_freeDistanceBehind e_12) yv_X5_freeDistanceBehind wd_407 zq_K5 e_13 dX5_ifFlipped_33 rfl rfl rfl ⟨Nat.le_of_ble_eq_true rfl, Nat.le_of_ble_eq_true rfl⟩ (Nat.le_of_ble_eq_true rfl) ⟨rfl, rfl⟩ ⟨Nat.le_of_ble_eq_true rfl, Nat.le_of_ble_eq_true rfl⟩ rfl ?_
    have hF := Option.some.inj hF
    subst hF
    exact hE _ rfl _ _ _ _ (Nat.le_of_ble_eq_true rfl) (Nat.le_of_ble_eq_true rfl) dX5_ifFlipped_36
  · have hF := (zq_ifp hF c_10)
    have hF := Option.some.inj hF
    subst hF
    exact zq_throwS C 1 "no such diagonal" (by decide) (by decide +kernel) dX5_ifFlipped_21 dX5_ifFlipped_24 dX5_ifFlipped_25 dX5_ifFlipped_27 dX5_ifFlipped_30 (by decide) (Nat.le_of_ble_eq_true rfl) ⟨Nat.le_of_ble_eq_true rfl, Nat.le_of_ble_eq_true rfl⟩ ⟨Nat.le_of_ble_eq_true rfl, Nat.le_of_ble_eq_true rfl⟩ (hX _ rfl)
theorem c_X5_ifFlipped {h : zq_H} {t : Nat} {x1 : Int32} {x2 : Int32} {out : ((Int32 × zq_H) ⊕ (Nat × zq_H))} (hF : f_X5_ifFlipped h t x1 x2 = some out) : zq_Mx yX5_ifFlipped (Cond.code yX5_ifFlipped cX5_ifFlipped 4 (some .int) :: zq_all) rm_X5_ifFlipped [.ref t, .int x1, .int x2] h (zq_ox out) := zq_metx (own := RX5) (by decide +kernel) rfl (Nat.le_of_ble_eq_true rfl) rfl (fun X C _ _ hE hX => v_X5_ifFlipped C hF hE hX)
theorem yv_X5_ifFlipped : zq_calV yX5_ifFlipped RX5 cX5_ifFlipped 4 (some .int) 2 := ⟨by decide +kernel, wd_410, wd_771, wd_772, wd_95⟩
def f_X5_count (h : zq_H) (t : Nat) (x1 : Int32) : Option ((Int32 × zq_H) ⊕ (Nat × zq_H)) := (if x1 < 0 then some (.inr (0, h)) else (if x1 < 10 then (zq_ck h t 5 fun _ => (Option.bind (f_X5_countNumber h t x1) fun v_3 => some ((.inl (v_3, h))))) else some (.inr (0, h))))
abbrev rm_X5_count : Room := { frames := 6, cells := 1, slots := 6, locals := 98 }
theorem dX5_count_0 : decode cX5_count 0 = .ok (.iload_n 1, 1) := by decide +kernel
theorem dX5_count_1 : decode cX5_count 1 = .ok (.ifCond .lt 9, 3) := by decide +kernel
theorem dX5_count_4 : decode cX5_count 4 = .ok (.iload_n 1, 1) := by decide +kernel
theorem dX5_count_5 : decode cX5_count 5 = .ok (.bipush 10, 2) := by decide +kernel
theorem dX5_count_7 : decode cX5_count 7 = .ok (.if_icmp .lt 13, 3) := by decide +kernel
theorem dX5_count_10 : decode cX5_count 10 = .ok (.new 73, 3) := by decide +kernel
theorem dX5_count_13 : decode cX5_count 13 = .ok (.dup, 1) := by decide +kernel
theorem dX5_count_14 : decode cX5_count 14 = .ok (.ldc 229, 2) := by decide +kernel
theorem dX5_count_16 : decode cX5_count 16 = .ok (.invokespecial 77, 3) := by decide +kernel
theorem dX5_count_19 : decode cX5_count 19 = .ok (.athrow, 1) := by decide +kernel
theorem dX5_count_20 : decode cX5_count 20 = .ok (.aload_n 0, 1) := by decide +kernel
theorem dX5_count_21 : decode cX5_count 21 = .ok (.iload_n 1, 1) := by decide +kernel
theorem dX5_count_22 : decode cX5_count 22 = .ok (.invokevirtual 249, 3) := by decide +kernel
theorem dX5_count_25 : decode cX5_count 25 = .ok (.ireturn, 1) := by decide +kernel
set_option maxRecDepth 100000 in
set_option maxHeartbeats 4000000 in
theorem v_X5_count {X : zq_X} (C : zq_C X RX5 cX5_count 2 zq_all rm_X5_count) {h : zq_H} {t : Nat} {x1 : Int32} {out : ((Int32 × zq_H) ⊕ (Nat × zq_H))} (hF : f_X5_count h t x1 = some out) (hE : ∀ q, out = .inl q → zq_End X cX5_count 1 6 (some (.int q.1)) q.2) (hX : ∀ q, out = .inr q → zq_Thr X 1 6 q.1 q.2) : zq_W X 0 0 h 0 [(0, .ref t), (1, .int x1)] [] := by
  unfold f_X5_count at hF
  refine zq_iload_n (pc' := 1) C dX5_count_0 rfl rfl rfl ?_
  refine zq_if_lt (pc' := 4) C 10 dX5_count_1 (by decide) rfl (fun c_1 => ?_) (fun c_1 => ?_)
  · have hF := (zq_ifp hF c_1)
    skip
    have hF := Option.some.inj hF
    subst hF
    exact zq_throwS C 0 "what is out of range" (by decide) (by decide +kernel) dX5_count_10 dX5_count_13 dX5_count_14 dX5_count_16 dX5_count_19 (by decide) (Nat.le_of_ble_eq_true rfl) ⟨Nat.le_of_ble_eq_true rfl, Nat.le_of_ble_eq_true rfl⟩ ⟨Nat.le_of_ble_eq_true rfl, Nat.le_of_ble_eq_true rfl⟩ (hX _ rfl)
  · have hF := (zq_ifn hF c_1)
    refine zq_iload_n (pc' := 5) C dX5_count_4 rfl rfl rfl ?_
    refine zq_bipush (pc' := 7) C 10 dX5_count_5 rfl (by decide) ?_
    refine zq_icmp_lt (pc' := 10) C 20 dX5_count_7 (by decide) rfl (fun c_2 => ?_) (fun c_2 => ?_)
    · have hF := (zq_ifp hF c_2)
      skip
      refine zq_aload_n (pc' := 21) C dX5_count_20 rfl rfl rfl ?_
      refine zq_iload_n (pc' := 22) C dX5_count_21 rfl rfl rfl ?_
      replace hF := zq_ck_e hF; obtain ⟨e_5, hF⟩ := hF
      replace hF := zq_bd hF; obtain ⟨v_3, e_4, hF⟩ := hF
      refine zq_cV (pc' := 25) C (c_X5_countNumber e_4) yv_X5_countNumber wd_417 zq_K5 e_5 dX5_count_22 rfl rfl rfl ⟨Nat.le_of_ble_eq_true rfl, Nat.le_of_ble_eq_true rfl⟩ (Nat.le_of_ble_eq_true rfl) ⟨rfl, rfl⟩ ⟨Nat.le_of_ble_eq_true rfl, Nat.le_of_ble_eq_true rfl⟩ rfl ?_
      have hF := Option.some.inj hF
      subst hF
      exact hE _ rfl _ _ _ _ (Nat.le_of_ble_eq_true rfl) (Nat.le_of_ble_eq_true rfl) dX5_count_25
    · have hF := (zq_ifn hF c_2)
      have hF := Option.some.inj hF
      subst hF
      exact zq_throwS C 0 "what is out of range" (by decide) (by decide +kernel) dX5_count_10 dX5_count_13 dX5_count_14 dX5_count_16 dX5_count_19 (by decide) (Nat.le_of_ble_eq_true rfl) ⟨Nat.le_of_ble_eq_true rfl, Nat.le_of_ble_eq_true rfl⟩ ⟨Nat.le_of_ble_eq_true rfl, Nat.le_of_ble_eq_true rfl⟩ (hX _ rfl)
theorem c_X5_count {h : zq_H} {t : Nat} {x1 : Int32} {out : ((Int32 × zq_H) ⊕ (Nat × zq_H))} (hF : f_X5_count h t x1 = some out) : zq_Mx yX5_count (Cond.code yX5_count cX5_count 2 (some .int) :: zq_all) rm_X5_count [.ref t, .int x1] h (zq_ox out) := zq_metx (own := RX5) (by decide +kernel) rfl (Nat.le_of_ble_eq_true rfl) rfl (fun X C _ _ hE hX => v_X5_count C hF hE hX)
theorem yv_X5_count : zq_calV yX5_count RX5 cX5_count 2 (some .int) 1 := ⟨by decide +kernel, wd_416, wd_775, wd_776, wd_95⟩
