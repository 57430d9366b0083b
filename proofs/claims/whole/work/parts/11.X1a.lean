def f_X1_isCorner (h : zq_H) (t : Nat) (x1 : Int32) : Option Bool := (if x1 < 0 then some (false) else (Option.bind (zq_gi h t 1 0) fun v_2 => (if v_2 ≤ x1 then some (false) else some (true))))
abbrev rm_X1_isCorner : Room := { frames := 0, cells := 0, slots := 0, locals := 0 }
theorem dX1_isCorner_0 : decode cX1_isCorner 0 = .ok (.iload_n 1, 1) := by decide +kernel
theorem dX1_isCorner_1 : decode cX1_isCorner 1 = .ok (.ifCond .lt 15, 3) := by decide +kernel
theorem dX1_isCorner_4 : decode cX1_isCorner 4 = .ok (.iload_n 1, 1) := by decide +kernel
theorem dX1_isCorner_5 : decode cX1_isCorner 5 = .ok (.aload_n 0, 1) := by decide +kernel
theorem dX1_isCorner_6 : decode cX1_isCorner 6 = .ok (.getfield 9, 3) := by decide +kernel
theorem dX1_isCorner_9 : decode cX1_isCorner 9 = .ok (.if_icmp .ge 7, 3) := by decide +kernel
theorem dX1_isCorner_12 : decode cX1_isCorner 12 = .ok (.iconst 1, 1) := by decide +kernel
theorem dX1_isCorner_13 : decode cX1_isCorner 13 = .ok (.goto 4, 3) := by decide +kernel
theorem dX1_isCorner_16 : decode cX1_isCorner 16 = .ok (.iconst 0, 1) := by decide +kernel
theorem dX1_isCorner_17 : decode cX1_isCorner 17 = .ok (.ireturn, 1) := by decide +kernel
set_option maxRecDepth 100000 in
set_option maxHeartbeats 4000000 in
theorem v_X1_isCorner {X : zq_X} (C : zq_C X RX1 cX1_isCorner 2 zq_all rm_X1_isCorner) {h : zq_H} {t : Nat} {x1 : Int32} (T : zq_T X none) (hn : X.2.2.2.2.2.2.2.2.1.name = yX1_isCorner.name) {out : Bool} (hF : f_X1_isCorner h t x1 = some out) (hE : zq_End X cX1_isCorner 0 0 (some (.int (zq_b out))) h) : zq_W X 0 0 h 0 [(0, .ref t), (1, .int x1)] [] := by
  unfold f_X1_isCorner at hF
  refine zq_iload_n (pc' := 1) C dX1_isCorner_0 rfl rfl rfl ?_
  refine zq_if_lt (pc' := 4) C 16 dX1_isCorner_1 (by decide) rfl (fun c_1 => ?_) (fun c_1 => ?_)
  · have hF := (zq_ifp hF c_1)
    skip
    refine zq_iconst (pc' := 17) C 0 dX1_isCorner_16 rfl (by decide) ?_
    have hF := Option.some.inj hF
    subst hF
    exact hE _ _ _ _ (Nat.le_of_ble_eq_true rfl) (Nat.le_of_ble_eq_true rfl) dX1_isCorner_17
  · have hF := (zq_ifn hF c_1)
    refine zq_iload_n (pc' := 5) C dX1_isCorner_4 rfl rfl rfl ?_
    refine zq_aload_n (pc' := 6) C dX1_isCorner_5 rfl rfl rfl ?_
    replace hF := zq_bd hF; obtain ⟨v_2, e_3, hF⟩ := hF
    refine zq_getI (j := 0) (pc' := 9) C zq_K1 zq_in1w (Or.inl wd_21) (by decide) rfl dX1_isCorner_6 rfl e_3 ?_
    refine zq_icmp_ge (pc' := 12) C 16 dX1_isCorner_9 (by decide) rfl (fun c_4 => ?_) (fun c_4 => ?_)
    · have hF := (zq_ifp hF c_4)
      skip
      refine zq_iconst (pc' := 17) C 0 dX1_isCorner_16 rfl (by decide) ?_
      have hF := Option.some.inj hF
      subst hF
      exact hE _ _ _ _ (Nat.le_of_ble_eq_true rfl) (Nat.le_of_ble_eq_true rfl) dX1_isCorner_17
    · have hF := (zq_ifn hF c_4)
      refine zq_iconst (pc' := 13) C 1 dX1_isCorner_12 rfl (by decide) ?_
      refine zq_goto C 17 dX1_isCorner_13 (by decide) ?_
      have hF := Option.some.inj hF
      subst hF
      exact hE _ _ _ _ (Nat.le_of_ble_eq_true rfl) (Nat.le_of_ble_eq_true rfl) dX1_isCorner_17
theorem c_X1_isCorner {h : zq_H} {t : Nat} {x1 : Int32} {out : Bool} (hF : f_X1_isCorner h t x1 = some out) : zq_M none yX1_isCorner (Cond.code yX1_isCorner cX1_isCorner 2 (some .boolean) :: zq_all) rm_X1_isCorner [.ref t, .int x1] h (some (.int (zq_b out))) h := zq_met2 (own := RX1) (by decide +kernel) rfl (Nat.le_of_ble_eq_true rfl) rfl ⟨.boolean, rfl, by cases out <;> rfl⟩ (fun X C T hn hE => v_X1_isCorner C T hn hF hE)
theorem yv_X1_isCorner : zq_calV yX1_isCorner RX1 cX1_isCorner 2 (some .boolean) 1 := ⟨by decide +kernel, wd_20, wd_25, wd_26, wd_27⟩
def f_X1_fanOf (h : zq_H) (t : Nat) (x1 : Int32) : Option Int32 := (zq_ck h t 1 fun _ => (Option.bind (f_X1_isCorner h t x1) fun v_1 => (if v_1 = false then some (0) else (Option.bind (zq_gr h t 1 5) fun v_5 => (Option.bind (zq_ai h v_5 x1) fun v_7 => some (v_7))))))
abbrev rm_X1_fanOf : Room := { frames := 1, cells := 0, slots := 0, locals := 21 }
theorem dX1_fanOf_0 : decode cX1_fanOf 0 = .ok (.aload_n 0, 1) := by decide +kernel
theorem dX1_fanOf_1 : decode cX1_fanOf 1 = .ok (.iload_n 1, 1) := by decide +kernel
theorem dX1_fanOf_2 : decode cX1_fanOf 2 = .ok (.invokevirtual 59, 3) := by decide +kernel
theorem dX1_fanOf_5 : decode cX1_fanOf 5 = .ok (.ifCond .eq 12, 3) := by decide +kernel
theorem dX1_fanOf_8 : decode cX1_fanOf 8 = .ok (.aload_n 0, 1) := by decide +kernel
theorem dX1_fanOf_9 : decode cX1_fanOf 9 = .ok (.getfield 28, 3) := by decide +kernel
theorem dX1_fanOf_12 : decode cX1_fanOf 12 = .ok (.iload_n 1, 1) := by decide +kernel
theorem dX1_fanOf_13 : decode cX1_fanOf 13 = .ok (.iaload, 1) := by decide +kernel
theorem dX1_fanOf_14 : decode cX1_fanOf 14 = .ok (.goto 4, 3) := by decide +kernel
theorem dX1_fanOf_17 : decode cX1_fanOf 17 = .ok (.iconst 0, 1) := by decide +kernel
theorem dX1_fanOf_18 : decode cX1_fanOf 18 = .ok (.ireturn, 1) := by decide +kernel
set_option maxRecDepth 100000 in
set_option maxHeartbeats 4000000 in
theorem v_X1_fanOf {X : zq_X} (C : zq_C X RX1 cX1_fanOf 2 zq_all rm_X1_fanOf) {h : zq_H} {t : Nat} {x1 : Int32} (T : zq_T X none) (hn : X.2.2.2.2.2.2.2.2.1.name = yX1_fanOf.name) {out : Int32} (hF : f_X1_fanOf h t x1 = some out) (hE : zq_End X cX1_fanOf 0 0 (some (.int out)) h) : zq_W X 0 0 h 0 [(0, .ref t), (1, .int x1)] [] := by
  unfold f_X1_fanOf at hF
  refine zq_aload_n (pc' := 1) C dX1_fanOf_0 rfl rfl rfl ?_
  refine zq_iload_n (pc' := 2) C dX1_fanOf_1 rfl rfl rfl ?_
  replace hF := zq_ck_e hF; obtain ⟨e_3, hF⟩ := hF
  replace hF := zq_bd hF; obtain ⟨v_1, e_2, hF⟩ := hF
  refine zq_cV (pc' := 5) C (c_X1_isCorner e_2) yv_X1_isCorner wd_24 zq_K1 e_3 dX1_fanOf_2 rfl rfl rfl ⟨Nat.le_of_ble_eq_true rfl, Nat.le_of_ble_eq_true rfl⟩ (Nat.le_of_ble_eq_true rfl) ⟨rfl, rfl⟩ ⟨Nat.le_of_ble_eq_true rfl, Nat.le_of_ble_eq_true rfl⟩ rfl ?_
  refine zq_if_eq (pc' := 8) C 17 dX1_fanOf_5 (by decide) rfl (fun c_4 => ?_) (fun c_4 => ?_)
  · have hF := (zq_ifp hF (zq_b0.mp c_4))
    skip
    refine zq_iconst (pc' := 18) C 0 dX1_fanOf_17 rfl (by decide) ?_
    have hF := Option.some.inj hF
    subst hF
    exact hE _ _ _ _ (Nat.le_of_ble_eq_true rfl) (Nat.le_of_ble_eq_true rfl) dX1_fanOf_18
  · have hF := (zq_ifn hF (fun q => c_4 (zq_b0.mpr q)))
    refine zq_aload_n (pc' := 9) C dX1_fanOf_8 rfl rfl rfl ?_
    replace hF := zq_bd hF; obtain ⟨v_5, e_6, hF⟩ := hF
    refine zq_getR (j := 5) (pc' := 12) C zq_K1 zq_in1w (Or.inl wd_23) (by decide) rfl dX1_fanOf_9 rfl e_6 ?_
    refine zq_iload_n (pc' := 13) C dX1_fanOf_12 rfl rfl rfl ?_
    replace hF := zq_bd hF; obtain ⟨v_7, e_8, hF⟩ := hF
    refine zq_iaload (pc' := 14) C dX1_fanOf_13 rfl e_8 ?_
    refine zq_goto C 18 dX1_fanOf_14 (by decide) ?_
    have hF := Option.some.inj hF
    subst hF
    exact hE _ _ _ _ (Nat.le_of_ble_eq_true rfl) (Nat.le_of_ble_eq_true rfl) dX1_fanOf_18
theorem c_X1_fanOf {h : zq_H} {t : Nat} {x1 : Int32} {out : Int32} (hF : f_X1_fanOf h t x1 = some out) : zq_M none yX1_fanOf (Cond.code yX1_fanOf cX1_fanOf 2 (some .int) :: zq_all) rm_X1_fanOf [.ref t, .int x1] h (some (.int out)) h := zq_met2 (own := RX1) (by decide +kernel) rfl (Nat.le_of_ble_eq_true rfl) rfl ⟨.int, rfl, rfl⟩ (fun X C T hn hE => v_X1_fanOf C T hn hF hE)
theorem yv_X1_fanOf : zq_calV yX1_fanOf RX1 cX1_fanOf 2 (some .int) 1 := ⟨by decide +kernel, wd_22, wd_47, wd_48, wd_27⟩
def f_X1_otherOf (h : zq_H) (t : Nat) (x1 : Int32) (x2 : Int32) : Option Int32 := (zq_let ((1 : Int32) <<< (x2 &&& 31)) fun v_1 => (if (x1 &&& v_1) = 0 then some ((-1)) else ((zq_lp (σ := Int32) (ρ := (Unit) ⊕ Int32) (fun s_4 => (Option.bind (zq_gi h t 1 1) fun v_12 => (if v_12 ≤ s_4 then some (.inr (.inl ())) else (Option.bind (zq_gr h t 1 6) fun v_15 => (Option.bind (zq_ai h v_15 s_4) fun v_17 => (if (v_17 &&& x1) = v_1 then some (.inr (.inr (s_4))) else (zq_let (s_4 + 1) fun v_20 => some (.inl v_20)))))))) zq_N 0).bind (Sum.elim (fun y_7 : Unit => some ((-1))) (fun z_8 => some z_8)))))
abbrev rm_X1_otherOf : Room := { frames := 0, cells := 0, slots := 0, locals := 0 }
theorem dX1_otherOf_0 : decode cX1_otherOf 0 = .ok (.iconst 1, 1) := by decide +kernel
theorem dX1_otherOf_1 : decode cX1_otherOf 1 = .ok (.iload_n 2, 1) := by decide +kernel
theorem dX1_otherOf_2 : decode cX1_otherOf 2 = .ok (.ishl, 1) := by decide +kernel
theorem dX1_otherOf_3 : decode cX1_otherOf 3 = .ok (.istore_n 3, 1) := by decide +kernel
theorem dX1_otherOf_4 : decode cX1_otherOf 4 = .ok (.iload_n 1, 1) := by decide +kernel
theorem dX1_otherOf_5 : decode cX1_otherOf 5 = .ok (.iload_n 3, 1) := by decide +kernel
theorem dX1_otherOf_6 : decode cX1_otherOf 6 = .ok (.iand, 1) := by decide +kernel
theorem dX1_otherOf_7 : decode cX1_otherOf 7 = .ok (.ifCond .ne 5, 3) := by decide +kernel
theorem dX1_otherOf_10 : decode cX1_otherOf 10 = .ok (.iconst (-1), 1) := by decide +kernel
theorem dX1_otherOf_11 : decode cX1_otherOf 11 = .ok (.ireturn, 1) := by decide +kernel
theorem dX1_otherOf_12 : decode cX1_otherOf 12 = .ok (.iconst 0, 1) := by decide +kernel
theorem dX1_otherOf_13 : decode cX1_otherOf 13 = .ok (.istore 4, 2) := by decide +kernel
theorem dX1_otherOf_15 : decode cX1_otherOf 15 = .ok (.iload 4, 2) := by decide +kernel
theorem dX1_otherOf_17 : decode cX1_otherOf 17 = .ok (.aload_n 0, 1) := by decide +kernel
theorem dX1_otherOf_18 : decode cX1_otherOf 18 = .ok (.getfield 15, 3) := by decide +kernel
theorem dX1_otherOf_21 : decode cX1_otherOf 21 = .ok (.if_icmp .ge 25, 3) := by decide +kernel
theorem dX1_otherOf_24 : decode cX1_otherOf 24 = .ok (.aload_n 0, 1) := by decide +kernel
theorem dX1_otherOf_25 : decode cX1_otherOf 25 = .ok (.getfield 31, 3) := by decide +kernel
theorem dX1_otherOf_28 : decode cX1_otherOf 28 = .ok (.iload 4, 2) := by decide +kernel
theorem dX1_otherOf_30 : decode cX1_otherOf 30 = .ok (.iaload, 1) := by decide +kernel
theorem dX1_otherOf_31 : decode cX1_otherOf 31 = .ok (.iload_n 1, 1) := by decide +kernel
theorem dX1_otherOf_32 : decode cX1_otherOf 32 = .ok (.iand, 1) := by decide +kernel
theorem dX1_otherOf_33 : decode cX1_otherOf 33 = .ok (.iload_n 3, 1) := by decide +kernel
theorem dX1_otherOf_34 : decode cX1_otherOf 34 = .ok (.if_icmp .ne 6, 3) := by decide +kernel
theorem dX1_otherOf_37 : decode cX1_otherOf 37 = .ok (.iload 4, 2) := by decide +kernel
theorem dX1_otherOf_39 : decode cX1_otherOf 39 = .ok (.ireturn, 1) := by decide +kernel
theorem dX1_otherOf_40 : decode cX1_otherOf 40 = .ok (.iinc 4 1, 3) := by decide +kernel
theorem dX1_otherOf_43 : decode cX1_otherOf 43 = .ok (.goto (-28), 3) := by decide +kernel
theorem dX1_otherOf_46 : decode cX1_otherOf 46 = .ok (.iconst (-1), 1) := by decide +kernel
theorem dX1_otherOf_47 : decode cX1_otherOf 47 = .ok (.ireturn, 1) := by decide +kernel
set_option maxRecDepth 100000 in
set_option maxHeartbeats 4000000 in
theorem v_X1_otherOf {X : zq_X} (C : zq_C X RX1 cX1_otherOf 5 zq_all rm_X1_otherOf) {h : zq_H} {t : Nat} {x1 : Int32} {x2 : Int32} (T : zq_T X none) (hn : X.2.2.2.2.2.2.2.2.1.name = yX1_otherOf.name) {out : Int32} (hF : f_X1_otherOf h t x1 x2 = some out) (hE : zq_End X cX1_otherOf 0 0 (some (.int out)) h) : zq_W X 0 0 h 0 [(0, .ref t), (1, .int x1), (2, .int x2)] [] := by
  unfold f_X1_otherOf at hF
  refine zq_iconst (pc' := 1) C 1 dX1_otherOf_0 rfl (by decide) ?_
  refine zq_iload_n (pc' := 2) C dX1_otherOf_1 rfl rfl rfl ?_
  refine zq_ishl (pc' := 3) C dX1_otherOf_2 rfl ?_
  replace hF := zq_let_e hF; obtain ⟨v_1, e_2, hF⟩ := hF
  refine zq_istore_n (lv' := [(3, .int v_1), (0, .ref t), (1, .int x1), (2, .int x2)]) (pc' := 4) C dX1_otherOf_3 rfl rfl (by decide) e_2 rfl ?_
  refine zq_iload_n (pc' := 5) C dX1_otherOf_4 rfl rfl rfl ?_
  refine zq_iload_n (pc' := 6) C dX1_otherOf_5 rfl rfl rfl ?_
  refine zq_iand (pc' := 7) C dX1_otherOf_6 rfl ?_
  refine zq_if_ne (pc' := 10) C 12 dX1_otherOf_7 (by decide) rfl (fun c_3 => ?_) (fun c_3 => ?_)
  · have hF := (zq_ifn hF c_3)
    skip
    refine zq_iconst (pc' := 13) C 0 dX1_otherOf_12 rfl (by decide) ?_
    refine zq_istore (lv' := [(4, .int 0), (3, .int v_1), (0, .ref t), (1, .int x1), (2, .int x2)]) (pc' := 15) C dX1_otherOf_13 rfl (by decide) rfl rfl ?_
    refine zq_sub [2, 3, 1, 0] rfl ?_
    replace hF := zq_bd hF; obtain ⟨r_5, e_6, hF⟩ := hF
    refine zq_lpW (fun s_4 => zq_W X 0 0 h 15 [(0, .ref t), (1, .int x1), (3, .int v_1), (4, .int s_4)] []) (Sum.elim (fun y_7 => zq_W X 0 0 h 46 [] []) (fun z_8 => out = z_8)) e_6 (fun s_4 q_11 hF hrec_9 hex_10 => ?_) ?_
    · skip
      refine zq_iload (pc' := 17) C dX1_otherOf_15 rfl rfl ?_
      refine zq_aload_n (pc' := 18) C dX1_otherOf_17 rfl rfl rfl ?_
      replace hF := zq_bd hF; obtain ⟨v_12, e_13, hF⟩ := hF
      refine zq_getI (j := 1) (pc' := 21) C zq_K1 zq_in1w (Or.inl wd_40) (by decide) rfl dX1_otherOf_18 rfl e_13 ?_
      refine zq_icmp_ge (pc' := 24) C 46 dX1_otherOf_21 (by decide) rfl (fun c_14 => ?_) (fun c_14 => ?_)
      · have hF := (zq_ifp hF c_14)
        skip
        cases hF
        exact zq_sub [] rfl (hex_10 _ rfl)
      · have hF := (zq_ifn hF c_14)
        refine zq_aload_n (pc' := 25) C dX1_otherOf_24 rfl rfl rfl ?_
        replace hF := zq_bd hF; obtain ⟨v_15, e_16, hF⟩ := hF
        refine zq_getR (j := 6) (pc' := 28) C zq_K1 zq_in1w (Or.inl wd_41) (by decide) rfl dX1_otherOf_25 rfl e_16 ?_
        refine zq_iload (pc' := 30) C dX1_otherOf_28 rfl rfl ?_
        replace hF := zq_bd hF; obtain ⟨v_17, e_18, hF⟩ := hF
        refine zq_iaload (pc' := 31) C dX1_otherOf_30 rfl e_18 ?_
        refine zq_iload_n (pc' := 32) C dX1_otherOf_31 rfl rfl rfl ?_
        refine zq_iand (pc' := 33) C dX1_otherOf_32 rfl ?_
        refine zq_iload_n (pc' := 34) C dX1_otherOf_33 rfl rfl rfl ?_
        refine zq_icmp_ne (pc' := 37) C 40 dX1_otherOf_34 (by decide) rfl (fun c_19 => ?_) (fun c_19 => ?_)
        · have hF := (zq_ifn hF c_19)
          skip
          replace hF := zq_let_e hF; obtain ⟨v_20, e_21, hF⟩ := hF
          refine zq_iinc (lv' := [(4, .int v_20), (0, .ref t), (1, .int x1), (3, .int v_1)]) (pc' := 43) C dX1_otherOf_40 rfl (by decide) 3 rfl e_21 rfl ?_
          refine zq_goto C 15 dX1_otherOf_43 (by decide) ?_
          cases hF
          exact zq_sub [1, 2, 3, 0] rfl (hrec_9 _ rfl)
        · have hF := (zq_ifp hF c_19)
          refine zq_iload (pc' := 39) C dX1_otherOf_37 rfl rfl ?_
          cases hF
          have q9 : out = s_4 := hex_10 _ rfl
          subst q9
          exact hE _ _ _ _ (Nat.le_of_ble_eq_true rfl) (Nat.le_of_ble_eq_true rfl) dX1_otherOf_39
    · rcases r_5 with y_7 | z_8
      · dsimp only [Sum.elim_inl] at hF
        show zq_W X 0 0 h 46 [] []
        refine zq_iconst (pc' := 47) C (-1) dX1_otherOf_46 rfl (by decide) ?_
        have hF := Option.some.inj hF
        subst hF
        exact hE _ _ _ _ (Nat.le_of_ble_eq_true rfl) (Nat.le_of_ble_eq_true rfl) dX1_otherOf_47
      · cases hF; rfl
  · have hF := (zq_ifp hF c_3)
    refine zq_iconst (pc' := 11) C (-1) dX1_otherOf_10 rfl (by decide) ?_
    have hF := Option.some.inj hF
    subst hF
    exact hE _ _ _ _ (Nat.le_of_ble_eq_true rfl) (Nat.le_of_ble_eq_true rfl) dX1_otherOf_11
theorem c_X1_otherOf {h : zq_H} {t : Nat} {x1 : Int32} {x2 : Int32} {out : Int32} (hF : f_X1_otherOf h t x1 x2 = some out) : zq_M none yX1_otherOf (Cond.code yX1_otherOf cX1_otherOf 5 (some .int) :: zq_all) rm_X1_otherOf [.ref t, .int x1, .int x2] h (some (.int out)) h := zq_met2 (own := RX1) (by decide +kernel) rfl (Nat.le_of_ble_eq_true rfl) rfl ⟨.int, rfl, rfl⟩ (fun X C T hn hE => v_X1_otherOf C T hn hF hE)
theorem yv_X1_otherOf : zq_calV yX1_otherOf RX1 cX1_otherOf 5 (some .int) 2 := ⟨by decide +kernel, wd_39, wd_44, wd_45, wd_27⟩
def f_X1_flipped (h : zq_H) (t : Nat) (x1 : Int32) (x2 : Int32) : Option Int32 := (zq_ck h t 1 fun _ => (Option.bind (f_X1_otherOf h t x1 x2) fun v_1 => (if v_1 = (-1) then some (x1) else some ((x1 ^^^ ((1 : Int32) <<< (x2 &&& 31))) ^^^ ((1 : Int32) <<< (v_1 &&& 31))))))
abbrev rm_X1_flipped : Room := { frames := 1, cells := 0, slots := 0, locals := 24 }
theorem dX1_flipped_0 : decode cX1_flipped 0 = .ok (.aload_n 0, 1) := by decide +kernel
theorem dX1_flipped_1 : decode cX1_flipped 1 = .ok (.iload_n 1, 1) := by decide +kernel
theorem dX1_flipped_2 : decode cX1_flipped 2 = .ok (.iload_n 2, 1) := by decide +kernel
theorem dX1_flipped_3 : decode cX1_flipped 3 = .ok (.invokevirtual 72, 3) := by decide +kernel
theorem dX1_flipped_6 : decode cX1_flipped 6 = .ok (.istore_n 3, 1) := by decide +kernel
theorem dX1_flipped_7 : decode cX1_flipped 7 = .ok (.iload_n 3, 1) := by decide +kernel
theorem dX1_flipped_8 : decode cX1_flipped 8 = .ok (.iconst (-1), 1) := by decide +kernel
theorem dX1_flipped_9 : decode cX1_flipped 9 = .ok (.if_icmp .ne 7, 3) := by decide +kernel
theorem dX1_flipped_12 : decode cX1_flipped 12 = .ok (.iload_n 1, 1) := by decide +kernel
theorem dX1_flipped_13 : decode cX1_flipped 13 = .ok (.goto 12, 3) := by decide +kernel
theorem dX1_flipped_16 : decode cX1_flipped 16 = .ok (.iload_n 1, 1) := by decide +kernel
theorem dX1_flipped_17 : decode cX1_flipped 17 = .ok (.iconst 1, 1) := by decide +kernel
theorem dX1_flipped_18 : decode cX1_flipped 18 = .ok (.iload_n 2, 1) := by decide +kernel
theorem dX1_flipped_19 : decode cX1_flipped 19 = .ok (.ishl, 1) := by decide +kernel
theorem dX1_flipped_20 : decode cX1_flipped 20 = .ok (.ixor, 1) := by decide +kernel
theorem dX1_flipped_21 : decode cX1_flipped 21 = .ok (.iconst 1, 1) := by decide +kernel
theorem dX1_flipped_22 : decode cX1_flipped 22 = .ok (.iload_n 3, 1) := by decide +kernel
theorem dX1_flipped_23 : decode cX1_flipped 23 = .ok (.ishl, 1) := by decide +kernel
theorem dX1_flipped_24 : decode cX1_flipped 24 = .ok (.ixor, 1) := by decide +kernel
theorem dX1_flipped_25 : decode cX1_flipped 25 = .ok (.ireturn, 1) := by decide +kernel
set_option maxRecDepth 100000 in
set_option maxHeartbeats 4000000 in
theorem v_X1_flipped {X : zq_X} (C : zq_C X RX1 cX1_flipped 4 zq_all rm_X1_flipped) {h : zq_H} {t : Nat} {x1 : Int32} {x2 : Int32} (T : zq_T X none) (hn : X.2.2.2.2.2.2.2.2.1.name = yX1_flipped.name) {out : Int32} (hF : f_X1_flipped h t x1 x2 = some out) (hE : zq_End X cX1_flipped 0 0 (some (.int out)) h) : zq_W X 0 0 h 0 [(0, .ref t), (1, .int x1), (2, .int x2)] [] := by
  unfold f_X1_flipped at hF
  refine zq_aload_n (pc' := 1) C dX1_flipped_0 rfl rfl rfl ?_
  refine zq_iload_n (pc' := 2) C dX1_flipped_1 rfl rfl rfl ?_
  refine zq_iload_n (pc' := 3) C dX1_flipped_2 rfl rfl rfl ?_
  replace hF := zq_ck_e hF; obtain ⟨e_3, hF⟩ := hF
  replace hF := zq_bd hF; obtain ⟨v_1, e_2, hF⟩ := hF
  refine zq_cV (pc' := 6) C (c_X1_otherOf e_2) yv_X1_otherOf wd_43 zq_K1 e_3 dX1_flipped_3 rfl rfl rfl ⟨Nat.le_of_ble_eq_true rfl, Nat.le_of_ble_eq_true rfl⟩ (Nat.le_of_ble_eq_true rfl) ⟨rfl, rfl⟩ ⟨Nat.le_of_ble_eq_true rfl, Nat.le_of_ble_eq_true rfl⟩ rfl ?_
  refine zq_istore_n (lv' := [(3, .int v_1), (0, .ref t), (1, .int x1), (2, .int x2)]) (pc' := 7) C dX1_flipped_6 rfl rfl (by decide) rfl rfl ?_
  refine zq_iload_n (pc' := 8) C dX1_flipped_7 rfl rfl rfl ?_
  refine zq_iconst (pc' := 9) C (-1) dX1_flipped_8 rfl (by decide) ?_
  refine zq_icmp_ne (pc' := 12) C 16 dX1_flipped_9 (by decide) rfl (fun c_4 => ?_) (fun c_4 => ?_)
  · have hF := (zq_ifn hF c_4)
    skip
    refine zq_iload_n (pc' := 17) C dX1_flipped_16 rfl rfl rfl ?_
    refine zq_iconst (pc' := 18) C 1 dX1_flipped_17 rfl (by decide) ?_
    refine zq_iload_n (pc' := 19) C dX1_flipped_18 rfl rfl rfl ?_
    refine zq_ishl (pc' := 20) C dX1_flipped_19 rfl ?_
    refine zq_ixor (pc' := 21) C dX1_flipped_20 rfl ?_
    refine zq_iconst (pc' := 22) C 1 dX1_flipped_21 rfl (by decide) ?_
    refine zq_iload_n (pc' := 23) C dX1_flipped_22 rfl rfl rfl ?_
    refine zq_ishl (pc' := 24) C dX1_flipped_23 rfl ?_
    refine zq_ixor (pc' := 25) C dX1_flipped_24 rfl ?_
    have hF := Option.some.inj hF
    subst hF
    exact hE _ _ _ _ (Nat.le_of_ble_eq_true rfl) (Nat.le_of_ble_eq_true rfl) dX1_flipped_25
  · have hF := (zq_ifp hF c_4)
    refine zq_iload_n (pc' := 13) C dX1_flipped_12 rfl rfl rfl ?_
    refine zq_goto C 25 dX1_flipped_13 (by decide) ?_
    have hF := Option.some.inj hF
    subst hF
    exact hE _ _ _ _ (Nat.le_of_ble_eq_true rfl) (Nat.le_of_ble_eq_true rfl) dX1_flipped_25
theorem c_X1_flipped {h : zq_H} {t : Nat} {x1 : Int32} {x2 : Int32} {out : Int32} (hF : f_X1_flipped h t x1 x2 = some out) : zq_M none yX1_flipped (Cond.code yX1_flipped cX1_flipped 4 (some .int) :: zq_all) rm_X1_flipped [.ref t, .int x1, .int x2] h (some (.int out)) h := zq_met2 (own := RX1) (by decide +kernel) rfl (Nat.le_of_ble_eq_true rfl) rfl ⟨.int, rfl, rfl⟩ (fun X C T hn hE => v_X1_flipped C T hn hF hE)
theorem yv_X1_flipped : zq_calV yX1_flipped RX1 cX1_flipped 4 (some .int) 2 := ⟨by decide +kernel, wd_42, wd_56, wd_57, wd_27⟩
def f_X1_nameDiagonals (h : zq_H) (t : Nat) : Option zq_H := (Option.bind (zq_gr h t 1 4) fun v_1 => (Option.bind (f_J7_fill_53178 h v_1 (-1)) fun v_3 => ((zq_lp (σ := Int32 × Int32 × zq_H) (ρ := zq_H) (fun s_5 => (Option.bind (zq_gi s_5.2.2 t 1 0) fun v_13 => (if v_13 ≤ s_5.2.1 then some (.inr s_5.2.2) else (zq_let (s_5.2.1 + 2) fun v_16 => ((zq_lp (σ := Int32 × Int32 × zq_H) (ρ := Int32 × zq_H) (fun s_18 => (Option.bind (zq_gi s_18.2.2 t 1 0) fun v_26 => (if v_26 ≤ s_18.2.1 then some (.inr (s_18.1, s_18.2.2)) else (Option.bind (zq_gi s_18.2.2 t 1 0) fun v_29 => (if (v_29 - 1) ≤ (s_18.2.1 - s_5.2.1) then (zq_let (s_18.2.1 + 1) fun v_32 => some (.inl (s_18.1, v_32, s_18.2.2))) else (Option.bind (zq_gi s_18.2.2 t 1 1) fun v_34 => (if v_34 ≤ s_18.1 then (zq_let (s_18.2.1 + 1) fun v_37 => some (.inl (s_18.1, v_37, s_18.2.2))) else (Option.bind (zq_gr s_18.2.2 t 1 4) fun v_39 => (Option.bind (zq_gi s_18.2.2 t 1 0) fun v_41 => (Option.bind (zq_si s_18.2.2 v_39 ((s_5.2.1 * v_41) + s_18.2.1) s_18.1) fun h_43 => (Option.bind (zq_gr h_43 t 1 2) fun v_45 => (Option.bind (zq_si h_43 v_45 s_18.1 s_5.2.1) fun h_47 => (Option.bind (zq_gr h_47 t 1 3) fun v_49 => (Option.bind (zq_si h_47 v_49 s_18.1 s_18.2.1) fun h_51 => (Option.bind (zq_gr h_51 t 1 5) fun v_53 => (Option.bind (zq_ai h_51 v_53 s_5.2.1) fun v_55 => (Option.bind (zq_si h_51 v_53 s_5.2.1 (v_55 ||| ((1 : Int32) <<< (s_18.1 &&& 31)))) fun h_57 => (Option.bind (zq_gr h_57 t 1 5) fun v_59 => (Option.bind (zq_ai h_57 v_59 s_18.2.1) fun v_61 => (Option.bind (zq_si h_57 v_59 s_18.2.1 (v_61 ||| ((1 : Int32) <<< (s_18.1 &&& 31)))) fun h_63 => (zq_let (s_18.1 + 1) fun v_65 => (zq_let (s_18.2.1 + 1) fun v_67 => some (.inl (v_65, v_67, h_63)))))))))))))))))))))))) zq_N (s_5.1, v_16, s_5.2.2)).bind (fun y_21 : Int32 × zq_H => (zq_let (s_5.2.1 + 1) fun v_69 => some (.inl (y_21.1, v_69, y_21.2))))))))) zq_N (0, 0, v_3)).bind (fun y_8 : zq_H => some (y_8)))))
abbrev rm_X1_nameDiagonals : Room := { frames := 1, cells := 0, slots := 0, locals := 23 }
theorem dX1_nameDiagonals_0 : decode cX1_nameDiagonals 0 = .ok (.aload_n 0, 1) := by decide +kernel
theorem dX1_nameDiagonals_1 : decode cX1_nameDiagonals 1 = .ok (.getfield 25, 3) := by decide +kernel
theorem dX1_nameDiagonals_4 : decode cX1_nameDiagonals 4 = .ok (.iconst (-1), 1) := by decide +kernel
theorem dX1_nameDiagonals_5 : decode cX1_nameDiagonals 5 = .ok (.invokestatic 49, 3) := by decide +kernel
theorem dX1_nameDiagonals_8 : decode cX1_nameDiagonals 8 = .ok (.iconst 0, 1) := by decide +kernel
theorem dX1_nameDiagonals_9 : decode cX1_nameDiagonals 9 = .ok (.istore_n 1, 1) := by decide +kernel
theorem dX1_nameDiagonals_10 : decode cX1_nameDiagonals 10 = .ok (.iconst 0, 1) := by decide +kernel
theorem dX1_nameDiagonals_11 : decode cX1_nameDiagonals 11 = .ok (.istore_n 2, 1) := by decide +kernel
theorem dX1_nameDiagonals_12 : decode cX1_nameDiagonals 12 = .ok (.iload_n 2, 1) := by decide +kernel
theorem dX1_nameDiagonals_13 : decode cX1_nameDiagonals 13 = .ok (.aload_n 0, 1) := by decide +kernel
theorem dX1_nameDiagonals_14 : decode cX1_nameDiagonals 14 = .ok (.getfield 9, 3) := by decide +kernel
theorem dX1_nameDiagonals_17 : decode cX1_nameDiagonals 17 = .ok (.if_icmp .ge 102, 3) := by decide +kernel
theorem dX1_nameDiagonals_20 : decode cX1_nameDiagonals 20 = .ok (.iload_n 2, 1) := by decide +kernel
theorem dX1_nameDiagonals_21 : decode cX1_nameDiagonals 21 = .ok (.iconst 2, 1) := by decide +kernel
theorem dX1_nameDiagonals_22 : decode cX1_nameDiagonals 22 = .ok (.iadd, 1) := by decide +kernel
theorem dX1_nameDiagonals_23 : decode cX1_nameDiagonals 23 = .ok (.istore_n 3, 1) := by decide +kernel
theorem dX1_nameDiagonals_24 : decode cX1_nameDiagonals 24 = .ok (.iload_n 3, 1) := by decide +kernel
theorem dX1_nameDiagonals_25 : decode cX1_nameDiagonals 25 = .ok (.aload_n 0, 1) := by decide +kernel
theorem dX1_nameDiagonals_26 : decode cX1_nameDiagonals 26 = .ok (.getfield 9, 3) := by decide +kernel
theorem dX1_nameDiagonals_29 : decode cX1_nameDiagonals 29 = .ok (.if_icmp .ge 84, 3) := by decide +kernel
theorem dX1_nameDiagonals_32 : decode cX1_nameDiagonals 32 = .ok (.iload_n 3, 1) := by decide +kernel
theorem dX1_nameDiagonals_33 : decode cX1_nameDiagonals 33 = .ok (.iload_n 2, 1) := by decide +kernel
theorem dX1_nameDiagonals_34 : decode cX1_nameDiagonals 34 = .ok (.isub, 1) := by decide +kernel
theorem dX1_nameDiagonals_35 : decode cX1_nameDiagonals 35 = .ok (.aload_n 0, 1) := by decide +kernel
theorem dX1_nameDiagonals_36 : decode cX1_nameDiagonals 36 = .ok (.getfield 9, 3) := by decide +kernel
theorem dX1_nameDiagonals_39 : decode cX1_nameDiagonals 39 = .ok (.iconst 1, 1) := by decide +kernel
theorem dX1_nameDiagonals_40 : decode cX1_nameDiagonals 40 = .ok (.isub, 1) := by decide +kernel
theorem dX1_nameDiagonals_41 : decode cX1_nameDiagonals 41 = .ok (.if_icmp .ge 66, 3) := by decide +kernel
theorem dX1_nameDiagonals_44 : decode cX1_nameDiagonals 44 = .ok (.iload_n 1, 1) := by decide +kernel
theorem dX1_nameDiagonals_45 : decode cX1_nameDiagonals 45 = .ok (.aload_n 0, 1) := by decide +kernel
theorem dX1_nameDiagonals_46 : decode cX1_nameDiagonals 46 = .ok (.getfield 15, 3) := by decide +kernel
theorem dX1_nameDiagonals_49 : decode cX1_nameDiagonals 49 = .ok (.if_icmp .ge 58, 3) := by decide +kernel
theorem dX1_nameDiagonals_52 : decode cX1_nameDiagonals 52 = .ok (.aload_n 0, 1) := by decide +kernel
theorem dX1_nameDiagonals_53 : decode cX1_nameDiagonals 53 = .ok (.getfield 25, 3) := by decide +kernel
theorem dX1_nameDiagonals_56 : decode cX1_nameDiagonals 56 = .ok (.iload_n 2, 1) := by decide +kernel
theorem dX1_nameDiagonals_57 : decode cX1_nameDiagonals 57 = .ok (.aload_n 0, 1) := by decide +kernel
theorem dX1_nameDiagonals_58 : decode cX1_nameDiagonals 58 = .ok (.getfield 9, 3) := by decide +kernel
theorem dX1_nameDiagonals_61 : decode cX1_nameDiagonals 61 = .ok (.imul, 1) := by decide +kernel
theorem dX1_nameDiagonals_62 : decode cX1_nameDiagonals 62 = .ok (.iload_n 3, 1) := by decide +kernel
theorem dX1_nameDiagonals_63 : decode cX1_nameDiagonals 63 = .ok (.iadd, 1) := by decide +kernel
theorem dX1_nameDiagonals_64 : decode cX1_nameDiagonals 64 = .ok (.iload_n 1, 1) := by decide +kernel
theorem dX1_nameDiagonals_65 : decode cX1_nameDiagonals 65 = .ok (.iastore, 1) := by decide +kernel
theorem dX1_nameDiagonals_66 : decode cX1_nameDiagonals 66 = .ok (.aload_n 0, 1) := by decide +kernel
theorem dX1_nameDiagonals_67 : decode cX1_nameDiagonals 67 = .ok (.getfield 18, 3) := by decide +kernel
theorem dX1_nameDiagonals_70 : decode cX1_nameDiagonals 70 = .ok (.iload_n 1, 1) := by decide +kernel
theorem dX1_nameDiagonals_71 : decode cX1_nameDiagonals 71 = .ok (.iload_n 2, 1) := by decide +kernel
theorem dX1_nameDiagonals_72 : decode cX1_nameDiagonals 72 = .ok (.iastore, 1) := by decide +kernel
theorem dX1_nameDiagonals_73 : decode cX1_nameDiagonals 73 = .ok (.aload_n 0, 1) := by decide +kernel
theorem dX1_nameDiagonals_74 : decode cX1_nameDiagonals 74 = .ok (.getfield 22, 3) := by decide +kernel
theorem dX1_nameDiagonals_77 : decode cX1_nameDiagonals 77 = .ok (.iload_n 1, 1) := by decide +kernel
theorem dX1_nameDiagonals_78 : decode cX1_nameDiagonals 78 = .ok (.iload_n 3, 1) := by decide +kernel
theorem dX1_nameDiagonals_79 : decode cX1_nameDiagonals 79 = .ok (.iastore, 1) := by decide +kernel
theorem dX1_nameDiagonals_80 : decode cX1_nameDiagonals 80 = .ok (.aload_n 0, 1) := by decide +kernel
theorem dX1_nameDiagonals_81 : decode cX1_nameDiagonals 81 = .ok (.getfield 28, 3) := by decide +kernel
theorem dX1_nameDiagonals_84 : decode cX1_nameDiagonals 84 = .ok (.iload_n 2, 1) := by decide +kernel
theorem dX1_nameDiagonals_85 : decode cX1_nameDiagonals 85 = .ok (.dup2, 1) := by decide +kernel
theorem dX1_nameDiagonals_86 : decode cX1_nameDiagonals 86 = .ok (.iaload, 1) := by decide +kernel
theorem dX1_nameDiagonals_87 : decode cX1_nameDiagonals 87 = .ok (.iconst 1, 1) := by decide +kernel
theorem dX1_nameDiagonals_88 : decode cX1_nameDiagonals 88 = .ok (.iload_n 1, 1) := by decide +kernel
theorem dX1_nameDiagonals_89 : decode cX1_nameDiagonals 89 = .ok (.ishl, 1) := by decide +kernel
theorem dX1_nameDiagonals_90 : decode cX1_nameDiagonals 90 = .ok (.ior, 1) := by decide +kernel
theorem dX1_nameDiagonals_91 : decode cX1_nameDiagonals 91 = .ok (.iastore, 1) := by decide +kernel
theorem dX1_nameDiagonals_92 : decode cX1_nameDiagonals 92 = .ok (.aload_n 0, 1) := by decide +kernel
theorem dX1_nameDiagonals_93 : decode cX1_nameDiagonals 93 = .ok (.getfield 28, 3) := by decide +kernel
theorem dX1_nameDiagonals_96 : decode cX1_nameDiagonals 96 = .ok (.iload_n 3, 1) := by decide +kernel
theorem dX1_nameDiagonals_97 : decode cX1_nameDiagonals 97 = .ok (.dup2, 1) := by decide +kernel
theorem dX1_nameDiagonals_98 : decode cX1_nameDiagonals 98 = .ok (.iaload, 1) := by decide +kernel
theorem dX1_nameDiagonals_99 : decode cX1_nameDiagonals 99 = .ok (.iconst 1, 1) := by decide +kernel
theorem dX1_nameDiagonals_100 : decode cX1_nameDiagonals 100 = .ok (.iload_n 1, 1) := by decide +kernel
theorem dX1_nameDiagonals_101 : decode cX1_nameDiagonals 101 = .ok (.ishl, 1) := by decide +kernel
theorem dX1_nameDiagonals_102 : decode cX1_nameDiagonals 102 = .ok (.ior, 1) := by decide +kernel
theorem dX1_nameDiagonals_103 : decode cX1_nameDiagonals 103 = .ok (.iastore, 1) := by decide +kernel
theorem dX1_nameDiagonals_104 : decode cX1_nameDiagonals 104 = .ok (.iinc 1 1, 3) := by decide +kernel
theorem dX1_nameDiagonals_107 : decode cX1_nameDiagonals 107 = .ok (.iinc 3 1, 3) := by decide +kernel
theorem dX1_nameDiagonals_110 : decode cX1_nameDiagonals 110 = .ok (.goto (-86), 3) := by decide +kernel
theorem dX1_nameDiagonals_113 : decode cX1_nameDiagonals 113 = .ok (.iinc 2 1, 3) := by decide +kernel
theorem dX1_nameDiagonals_116 : decode cX1_nameDiagonals 116 = .ok (.goto (-104), 3) := by decide +kernel
theorem dX1_nameDiagonals_119 : decode cX1_nameDiagonals 119 = .ok (.return_, 1) := by decide +kernel
set_option maxRecDepth 100000 in
set_option maxHeartbeats 4000000 in
theorem v_X1_nameDiagonals {X : zq_X} (C : zq_C X RX1 cX1_nameDiagonals 4 zq_all rm_X1_nameDiagonals) {h : zq_H} {t : Nat} (T : zq_T X none) (hn : X.2.2.2.2.2.2.2.2.1.name = yX1_nameDiagonals.name) {out : zq_H} (hF : f_X1_nameDiagonals h t = some out) (hE : zq_End X cX1_nameDiagonals 0 0 none out) : zq_W X 0 0 h 0 [(0, .ref t)] [] := by
  unfold f_X1_nameDiagonals at hF
  refine zq_aload_n (pc' := 1) C dX1_nameDiagonals_0 rfl rfl rfl ?_
  replace hF := zq_bd hF; obtain ⟨v_1, e_2, hF⟩ := hF
  refine zq_getR (j := 4) (pc' := 4) C zq_K1 zq_in1w (Or.inl wd_64) (by decide) rfl dX1_nameDiagonals_1 rfl e_2 ?_
  refine zq_iconst (pc' := 5) C (-1) dX1_nameDiagonals_4 rfl (by decide) ?_
  replace hF := zq_bd hF; obtain ⟨v_3, e_4, hF⟩ := hF
  refine zq_cS (pc' := 8) C (c_J7_fill_53178 e_4) ys_J7_fill_53178 wd_67 dX1_nameDiagonals_5 rfl rfl rfl ⟨Nat.le_of_ble_eq_true rfl, Nat.le_of_ble_eq_true rfl⟩ (Nat.le_of_ble_eq_true rfl) ⟨rfl, rfl⟩ ⟨Nat.le_of_ble_eq_true rfl, Nat.le_of_ble_eq_true rfl⟩ rfl ?_
  refine zq_iconst (pc' := 9) C 0 dX1_nameDiagonals_8 rfl (by decide) ?_
  refine zq_istore_n (lv' := [(1, .int 0), (0, .ref t)]) (pc' := 10) C dX1_nameDiagonals_9 rfl rfl (by decide) rfl rfl ?_
  refine zq_iconst (pc' := 11) C 0 dX1_nameDiagonals_10 rfl (by decide) ?_
  refine zq_istore_n (lv' := [(2, .int 0), (1, .int 0), (0, .ref t)]) (pc' := 12) C dX1_nameDiagonals_11 rfl rfl (by decide) rfl rfl ?_
  refine zq_sub [2, 1, 0] rfl ?_
  replace hF := zq_bd hF; obtain ⟨r_6, e_7, hF⟩ := hF
  refine zq_lpW (fun s_5 => zq_W X 0 0 s_5.2.2 12 [(0, .ref t), (1, .int s_5.1), (2, .int s_5.2.1)] []) (fun y_8 => zq_W X 0 0 y_8 119 [] []) e_7 (fun s_5 q_12 hF hrec_10 hex_11 => ?_) ?_
  · skip
    refine zq_iload_n (pc' := 13) C dX1_nameDiagonals_12 rfl rfl rfl ?_
    refine zq_aload_n (pc' := 14) C dX1_nameDiagonals_13 rfl rfl rfl ?_
    replace hF := zq_bd hF; obtain ⟨v_13, e_14, hF⟩ := hF
    refine zq_getI (j := 0) (pc' := 17) C zq_K1 zq_in1w (Or.inl wd_21) (by decide) rfl dX1_nameDiagonals_14 rfl e_14 ?_
    refine zq_icmp_ge (pc' := 20) C 119 dX1_nameDiagonals_17 (by decide) rfl (fun c_15 => ?_) (fun c_15 => ?_)
    · have hF := (zq_ifp hF c_15)
      skip
      cases hF
      exact zq_sub [] rfl (hex_11 _ rfl)
    · have hF := (zq_ifn hF c_15)
      refine zq_iload_n (pc' := 21) C dX1_nameDiagonals_20 rfl rfl rfl ?_
      refine zq_iconst (pc' := 22) C 2 dX1_nameDiagonals_21 rfl (by decide) ?_
      refine zq_iadd (pc' := 23) C dX1_nameDiagonals_22 rfl ?_
      replace hF := zq_let_e hF; obtain ⟨v_16, e_17, hF⟩ := hF
      refine zq_istore_n (lv' := [(3, .int v_16), (0, .ref t), (1, .int s_5.1), (2, .int s_5.2.1)]) (pc' := 24) C dX1_nameDiagonals_23 rfl rfl (by decide) e_17 rfl ?_
      refine zq_sub [1, 2, 3, 0] rfl ?_
      replace hF := zq_bd hF; obtain ⟨r_19, e_20, hF⟩ := hF
      refine zq_lpW (fun s_18 => zq_W X 0 0 s_18.2.2 24 [(0, .ref t), (1, .int s_18.1), (2, .int s_5.2.1), (3, .int s_18.2.1)] []) (fun y_21 => zq_W X 0 0 y_21.2 113 [(0, .ref t), (1, .int y_21.1), (2, .int s_5.2.1)] []) e_20 (fun s_18 q_25 hF hrec_23 hex_24 => ?_) ?_
      · skip
        refine zq_iload_n (pc' := 25) C dX1_nameDiagonals_24 rfl rfl rfl ?_
        refine zq_aload_n (pc' := 26) C dX1_nameDiagonals_25 rfl rfl rfl ?_
        replace hF := zq_bd hF; obtain ⟨v_26, e_27, hF⟩ := hF
        refine zq_getI (j := 0) (pc' := 29) C zq_K1 zq_in1w (Or.inl wd_21) (by decide) rfl dX1_nameDiagonals_26 rfl e_27 ?_
        refine zq_icmp_ge (pc' := 32) C 113 dX1_nameDiagonals_29 (by decide) rfl (fun c_28 => ?_) (fun c_28 => ?_)
        · have hF := (zq_ifp hF c_28)
          skip
          cases hF
          exact zq_sub [0, 1, 2] rfl (hex_24 _ rfl)
        · have hF := (zq_ifn hF c_28)
          refine zq_iload_n (pc' := 33) C dX1_nameDiagonals_32 rfl rfl rfl ?_
          refine zq_iload_n (pc' := 34) C dX1_nameDiagonals_33 rfl rfl rfl ?_
          refine zq_isub (pc' := 35) C dX1_nameDiagonals_34 rfl ?_
          refine zq_aload_n (pc' := 36) C dX1_nameDiagonals_35 rfl rfl rfl ?_
          replace hF := zq_bd hF; obtain ⟨v_29, e_30, hF⟩ := hF
          refine zq_getI (j := 0) (pc' := 39) C zq_K1 zq_in1w (Or.inl wd_21) (by decide) rfl dX1_nameDiagonals_36 rfl e_30 ?_
          refine zq_iconst (pc' := 40) C 1 dX1_nameDiagonals_39 rfl (by decide) ?_
          refine zq_isub (pc' := 41) C dX1_nameDiagonals_40 rfl ?_
          refine zq_icmp_ge (pc' := 44) C 107 dX1_nameDiagonals_41 (by decide) rfl (fun c_31 => ?_) (fun c_31 => ?_)
          · have hF := (zq_ifp hF c_31)
            skip
            replace hF := zq_let_e hF; obtain ⟨v_32, e_33, hF⟩ := hF
            refine zq_iinc (lv' := [(3, .int v_32), (0, .ref t), (1, .int s_18.1), (2, .int s_5.2.1)]) (pc' := 110) C dX1_nameDiagonals_107 rfl (by decide) 3 rfl e_33 rfl ?_
            refine zq_goto C 24 dX1_nameDiagonals_110 (by decide) ?_
            cases hF
            exact zq_sub [1, 2, 3, 0] rfl (hrec_23 _ rfl)
          · have hF := (zq_ifn hF c_31)
            refine zq_iload_n (pc' := 45) C dX1_nameDiagonals_44 rfl rfl rfl ?_
            refine zq_aload_n (pc' := 46) C dX1_nameDiagonals_45 rfl rfl rfl ?_
            replace hF := zq_bd hF; obtain ⟨v_34, e_35, hF⟩ := hF
            refine zq_getI (j := 1) (pc' := 49) C zq_K1 zq_in1w (Or.inl wd_40) (by decide) rfl dX1_nameDiagonals_46 rfl e_35 ?_
            refine zq_icmp_ge (pc' := 52) C 107 dX1_nameDiagonals_49 (by decide) rfl (fun c_36 => ?_) (fun c_36 => ?_)
            · have hF := (zq_ifp hF c_36)
              skip
              replace hF := zq_let_e hF; obtain ⟨v_37, e_38, hF⟩ := hF
              refine zq_iinc (lv' := [(3, .int v_37), (0, .ref t), (1, .int s_18.1), (2, .int s_5.2.1)]) (pc' := 110) C dX1_nameDiagonals_107 rfl (by decide) 3 rfl e_38 rfl ?_
              refine zq_goto C 24 dX1_nameDiagonals_110 (by decide) ?_
              cases hF
              exact zq_sub [1, 2, 3, 0] rfl (hrec_23 _ rfl)
            · have hF := (zq_ifn hF c_36)
              refine zq_aload_n (pc' := 53) C dX1_nameDiagonals_52 rfl rfl rfl ?_
              replace hF := zq_bd hF; obtain ⟨v_39, e_40, hF⟩ := hF
              refine zq_getR (j := 4) (pc' := 56) C zq_K1 zq_in1w (Or.inl wd_64) (by decide) rfl dX1_nameDiagonals_53 rfl e_40 ?_
              refine zq_iload_n (pc' := 57) C dX1_nameDiagonals_56 rfl rfl rfl ?_
              refine zq_aload_n (pc' := 58) C dX1_nameDiagonals_57 rfl rfl rfl ?_
              replace hF := zq_bd hF; obtain ⟨v_41, e_42, hF⟩ := hF
              refine zq_getI (j := 0) (pc' := 61) C zq_K1 zq_in1w (Or.inl wd_21) (by decide) rfl dX1_nameDiagonals_58 rfl e_42 ?_
              refine zq_imul (pc' := 62) C dX1_nameDiagonals_61 rfl ?_
              refine zq_iload_n (pc' := 63) C dX1_nameDiagonals_62 rfl rfl rfl ?_
              refine zq_iadd (pc' := 64) C dX1_nameDiagonals_63 rfl ?_
              refine zq_iload_n (pc' := 65) C dX1_nameDiagonals_64 rfl rfl rfl ?_
              replace hF := zq_bd hF; obtain ⟨h_43, e_44, hF⟩ := hF
              refine zq_iastore (pc' := 66) C dX1_nameDiagonals_65 rfl e_44 ?_
              refine zq_aload_n (pc' := 67) C dX1_nameDiagonals_66 rfl rfl rfl ?_
              replace hF := zq_bd hF; obtain ⟨v_45, e_46, hF⟩ := hF
              refine zq_getR (j := 2) (pc' := 70) C zq_K1 zq_in1w (Or.inl wd_65) (by decide) rfl dX1_nameDiagonals_67 rfl e_46 ?_
              refine zq_iload_n (pc' := 71) C dX1_nameDiagonals_70 rfl rfl rfl ?_
              refine zq_iload_n (pc' := 72) C dX1_nameDiagonals_71 rfl rfl rfl ?_
              replace hF := zq_bd hF; obtain ⟨h_47, e_48, hF⟩ := hF
              refine zq_iastore (pc' := 73) C dX1_nameDiagonals_72 rfl e_48 ?_
              refine zq_aload_n (pc' := 74) C dX1_nameDiagonals_73 rfl rfl rfl ?_
              replace hF := zq_bd hF; obtain ⟨v_49, e_50, hF⟩ := hF
              refine zq_getR (j := 3) (pc' := 77) C zq_K1 zq_in1w (Or.inl wd_66) (by decide) rfl dX1_nameDiagonals_74 rfl e_50 ?_
              refine zq_iload_n (pc' := 78) C dX1_nameDiagonals_77 rfl rfl rfl ?_
              refine zq_iload_n (pc' := 79) C dX1_nameDiagonals_78 rfl rfl rfl ?_
              replace hF := zq_bd hF; obtain ⟨h_51, e_52, hF⟩ := hF
              refine zq_iastore (pc' := 80) C dX1_nameDiagonals_79 rfl e_52 ?_
              refine zq_aload_n (pc' := 81) C dX1_nameDiagonals_80 rfl rfl rfl ?_
              replace hF := zq_bd hF; obtain ⟨v_53, e_54, hF⟩ := hF
              refine zq_getR (j := 5) (pc' := 84) C zq_K1 zq_in1w (Or.inl wd_23) (by decide) rfl dX1_nameDiagonals_81 rfl e_54 ?_
              refine zq_iload_n (pc' := 85) C dX1_nameDiagonals_84 rfl rfl rfl ?_
              refine zq_dup2 (pc' := 86) C dX1_nameDiagonals_85 rfl rfl rfl ?_
              replace hF := zq_bd hF; obtain ⟨v_55, e_56, hF⟩ := hF
              refine zq_iaload (pc' := 87) C dX1_nameDiagonals_86 rfl e_56 ?_
              refine zq_iconst (pc' := 88) C 1 dX1_nameDiagonals_87 rfl (by decide) ?_
              refine zq_iload_n (pc' := 89) C dX1_nameDiagonals_88 rfl rfl rfl ?_
              refine zq_ishl (pc' := 90) C dX1_nameDiagonals_89 rfl ?_
              refine zq_ior (pc' := 91) C dX1_nameDiagonals_90 rfl ?_
              replace hF := zq_bd hF; obtain ⟨h_57, e_58, hF⟩ := hF
              refine zq_iastore (pc' := 92) C dX1_nameDiagonals_91 rfl e_58 ?_
              refine zq_aload_n (pc' := 93) C dX1_nameDiagonals_92 rfl rfl rfl ?_
              replace hF := zq_bd hF; obtain ⟨v_59, e_60, hF⟩ := hF
              refine zq_getR (j := 5) (pc' := 96) C zq_K1 zq_in1w (Or.inl wd_23) (by decide) rfl dX1_nameDiagonals_93 rfl e_60 ?_
              refine zq_iload_n (pc' := 97) C dX1_nameDiagonals_96 rfl rfl rfl ?_
              refine zq_dup2 (pc' := 98) C dX1_nameDiagonals_97 rfl rfl rfl ?_
              replace hF := zq_bd hF; obtain ⟨v_61, e_62, hF⟩ := hF
              refine zq_iaload (pc' := 99) C dX1_nameDiagonals_98 rfl e_62 ?_
              refine zq_iconst (pc' := 100) C 1 dX1_nameDiagonals_99 rfl (by decide) ?_
              refine zq_iload_n (pc' := 101) C dX1_nameDiagonals_100 rfl rfl rfl ?_
              refine zq_ishl (pc' := 102) C dX1_nameDiagonals_101 rfl ?_
              refine zq_ior (pc' := 103) C dX1_nameDiagonals_102 rfl ?_
              replace hF := zq_bd hF; obtain ⟨h_63, e_64, hF⟩ := hF
              refine zq_iastore (pc' := 104) C dX1_nameDiagonals_103 rfl e_64 ?_
              replace hF := zq_let_e hF; obtain ⟨v_65, e_66, hF⟩ := hF
              refine zq_iinc (lv' := [(1, .int v_65), (0, .ref t), (2, .int s_5.2.1), (3, .int s_18.2.1)]) (pc' := 107) C dX1_nameDiagonals_104 rfl (by decide) 1 rfl e_66 rfl ?_
              replace hF := zq_let_e hF; obtain ⟨v_67, e_68, hF⟩ := hF
              refine zq_iinc (lv' := [(3, .int v_67), (1, .int v_65), (0, .ref t), (2, .int s_5.2.1)]) (pc' := 110) C dX1_nameDiagonals_107 rfl (by decide) 3 rfl e_68 rfl ?_
              refine zq_goto C 24 dX1_nameDiagonals_110 (by decide) ?_
              cases hF
              exact zq_sub [2, 1, 3, 0] rfl (hrec_23 _ rfl)
      · skip
        obtain ⟨y_21, rfl⟩ : ∃ z9, z9 = r_19 := ⟨_, rfl⟩
        show zq_W X 0 0 y_21.2 113 [(0, .ref t), (1, .int y_21.1), (2, .int s_5.2.1)] []
        replace hF := zq_let_e hF; obtain ⟨v_69, e_70, hF⟩ := hF
        refine zq_iinc (lv' := [(2, .int v_69), (0, .ref t), (1, .int y_21.1)]) (pc' := 116) C dX1_nameDiagonals_113 rfl (by decide) 2 rfl e_70 rfl ?_
        refine zq_goto C 12 dX1_nameDiagonals_116 (by decide) ?_
        cases hF
        exact zq_sub [1, 2, 0] rfl (hrec_10 _ rfl)
  · skip
    obtain ⟨y_8, rfl⟩ : ∃ z9, z9 = r_6 := ⟨_, rfl⟩
    show zq_W X 0 0 y_8 119 [] []
    have hF := Option.some.inj hF
    subst hF
    exact hE _ _ _ _ (Nat.le_of_ble_eq_true rfl) (Nat.le_of_ble_eq_true rfl) dX1_nameDiagonals_119
theorem c_X1_nameDiagonals {h : zq_H} {t : Nat} {out : zq_H} (hF : f_X1_nameDiagonals h t = some out) : zq_M none yX1_nameDiagonals (Cond.code yX1_nameDiagonals cX1_nameDiagonals 4 none :: zq_all) rm_X1_nameDiagonals [.ref t] h none out := zq_met2 (own := RX1) (by decide +kernel) rfl (Nat.le_of_ble_eq_true rfl) rfl rfl (fun X C T hn hE => v_X1_nameDiagonals C T hn hF hE)
theorem yv_X1_nameDiagonals : zq_calV yX1_nameDiagonals RX1 cX1_nameDiagonals 4 none 0 := ⟨by decide +kernel, wd_63, wd_80, wd_81, wd_27⟩
def f_X1_findCrossings (h : zq_H) (t : Nat) : Option zq_H := ((zq_lp (σ := Int32 × zq_H) (ρ := zq_H) (fun s_1 => (Option.bind (zq_gi s_1.2 t 1 1) fun v_9 => (if v_9 ≤ s_1.1 then some (.inr s_1.2) else ((zq_lp (σ := Int32 × zq_H) (ρ := zq_H) (fun s_12 => (Option.bind (zq_gi s_12.2 t 1 1) fun v_20 => (if v_20 ≤ s_12.1 then some (.inr s_12.2) else (Option.bind (zq_gr s_12.2 t 1 2) fun v_23 => (Option.bind (zq_ai s_12.2 v_23 s_1.1) fun v_25 => (Option.bind (zq_gr s_12.2 t 1 2) fun v_27 => (Option.bind (zq_ai s_12.2 v_27 s_12.1) fun v_29 => (if v_29 ≤ v_25 then (zq_let (s_12.1 + 1) fun v_33 => some (.inl (v_33, s_12.2))) else (Option.bind (zq_gr s_12.2 t 1 2) fun v_35 => (Option.bind (zq_ai s_12.2 v_35 s_12.1) fun v_37 => (Option.bind (zq_gr s_12.2 t 1 3) fun v_39 => (Option.bind (zq_ai s_12.2 v_39 s_1.1) fun v_41 => (if v_41 ≤ v_37 then (zq_let (s_12.1 + 1) fun v_45 => some (.inl (v_45, s_12.2))) else (Option.bind (zq_gr s_12.2 t 1 3) fun v_48 => (Option.bind (zq_ai s_12.2 v_48 s_1.1) fun v_50 => (Option.bind (zq_gr s_12.2 t 1 3) fun v_52 => (Option.bind (zq_ai s_12.2 v_52 s_12.1) fun v_54 => (if v_54 ≤ v_50 then (zq_let (s_12.1 + 1) fun v_57 => some (.inl (v_57, s_12.2))) else (Option.bind (zq_gr s_12.2 t 1 6) fun v_59 => (Option.bind (zq_ai s_12.2 v_59 s_1.1) fun v_61 => (Option.bind (zq_si s_12.2 v_59 s_1.1 (v_61 ||| ((1 : Int32) <<< (s_12.1 &&& 31)))) fun h_63 => (Option.bind (zq_gr h_63 t 1 6) fun v_65 => (Option.bind (zq_ai h_63 v_65 s_12.1) fun v_67 => (Option.bind (zq_si h_63 v_65 s_12.1 (v_67 ||| ((1 : Int32) <<< (s_1.1 &&& 31)))) fun h_69 => (zq_let (s_12.1 + 1) fun v_71 => some (.inl (v_71, h_69))))))))))))))))))))))))))) zq_N (0, s_1.2)).bind (fun y_15 : zq_H => (zq_let (s_1.1 + 1) fun v_73 => some (.inl (v_73, y_15)))))))) zq_N (0, h)).bind (fun y_4 : zq_H => some (y_4)))
abbrev rm_X1_findCrossings : Room := { frames := 0, cells := 0, slots := 0, locals := 0 }
theorem dX1_findCrossings_0 : decode cX1_findCrossings 0 = .ok (.iconst 0, 1) := by decide +kernel
theorem dX1_findCrossings_1 : decode cX1_findCrossings 1 = .ok (.istore_n 1, 1) := by decide +kernel
theorem dX1_findCrossings_2 : decode cX1_findCrossings 2 = .ok (.iload_n 1, 1) := by decide +kernel
theorem dX1_findCrossings_3 : decode cX1_findCrossings 3 = .ok (.aload_n 0, 1) := by decide +kernel
theorem dX1_findCrossings_4 : decode cX1_findCrossings 4 = .ok (.getfield 15, 3) := by decide +kernel
theorem dX1_findCrossings_7 : decode cX1_findCrossings 7 = .ok (.if_icmp .ge 104, 3) := by decide +kernel
theorem dX1_findCrossings_10 : decode cX1_findCrossings 10 = .ok (.iconst 0, 1) := by decide +kernel
theorem dX1_findCrossings_11 : decode cX1_findCrossings 11 = .ok (.istore_n 2, 1) := by decide +kernel
theorem dX1_findCrossings_12 : decode cX1_findCrossings 12 = .ok (.iload_n 2, 1) := by decide +kernel
theorem dX1_findCrossings_13 : decode cX1_findCrossings 13 = .ok (.aload_n 0, 1) := by decide +kernel
theorem dX1_findCrossings_14 : decode cX1_findCrossings 14 = .ok (.getfield 15, 3) := by decide +kernel
theorem dX1_findCrossings_17 : decode cX1_findCrossings 17 = .ok (.if_icmp .ge 88, 3) := by decide +kernel
theorem dX1_findCrossings_20 : decode cX1_findCrossings 20 = .ok (.aload_n 0, 1) := by decide +kernel
theorem dX1_findCrossings_21 : decode cX1_findCrossings 21 = .ok (.getfield 18, 3) := by decide +kernel
theorem dX1_findCrossings_24 : decode cX1_findCrossings 24 = .ok (.iload_n 1, 1) := by decide +kernel
theorem dX1_findCrossings_25 : decode cX1_findCrossings 25 = .ok (.iaload, 1) := by decide +kernel
theorem dX1_findCrossings_26 : decode cX1_findCrossings 26 = .ok (.aload_n 0, 1) := by decide +kernel
theorem dX1_findCrossings_27 : decode cX1_findCrossings 27 = .ok (.getfield 18, 3) := by decide +kernel
theorem dX1_findCrossings_30 : decode cX1_findCrossings 30 = .ok (.iload_n 2, 1) := by decide +kernel
theorem dX1_findCrossings_31 : decode cX1_findCrossings 31 = .ok (.iaload, 1) := by decide +kernel
theorem dX1_findCrossings_32 : decode cX1_findCrossings 32 = .ok (.if_icmp .ge 22, 3) := by decide +kernel
theorem dX1_findCrossings_35 : decode cX1_findCrossings 35 = .ok (.aload_n 0, 1) := by decide +kernel
theorem dX1_findCrossings_36 : decode cX1_findCrossings 36 = .ok (.getfield 18, 3) := by decide +kernel
theorem dX1_findCrossings_39 : decode cX1_findCrossings 39 = .ok (.iload_n 2, 1) := by decide +kernel
theorem dX1_findCrossings_40 : decode cX1_findCrossings 40 = .ok (.iaload, 1) := by decide +kernel
theorem dX1_findCrossings_41 : decode cX1_findCrossings 41 = .ok (.aload_n 0, 1) := by decide +kernel
theorem dX1_findCrossings_42 : decode cX1_findCrossings 42 = .ok (.getfield 22, 3) := by decide +kernel
theorem dX1_findCrossings_45 : decode cX1_findCrossings 45 = .ok (.iload_n 1, 1) := by decide +kernel
theorem dX1_findCrossings_46 : decode cX1_findCrossings 46 = .ok (.iaload, 1) := by decide +kernel
theorem dX1_findCrossings_47 : decode cX1_findCrossings 47 = .ok (.if_icmp .ge 7, 3) := by decide +kernel
theorem dX1_findCrossings_50 : decode cX1_findCrossings 50 = .ok (.iconst 1, 1) := by decide +kernel
theorem dX1_findCrossings_51 : decode cX1_findCrossings 51 = .ok (.goto 4, 3) := by decide +kernel
theorem dX1_findCrossings_54 : decode cX1_findCrossings 54 = .ok (.iconst 0, 1) := by decide +kernel
theorem dX1_findCrossings_55 : decode cX1_findCrossings 55 = .ok (.istore_n 3, 1) := by decide +kernel
theorem dX1_findCrossings_56 : decode cX1_findCrossings 56 = .ok (.iload_n 3, 1) := by decide +kernel
theorem dX1_findCrossings_57 : decode cX1_findCrossings 57 = .ok (.ifCond .eq 42, 3) := by decide +kernel
theorem dX1_findCrossings_60 : decode cX1_findCrossings 60 = .ok (.aload_n 0, 1) := by decide +kernel
theorem dX1_findCrossings_61 : decode cX1_findCrossings 61 = .ok (.getfield 22, 3) := by decide +kernel
theorem dX1_findCrossings_64 : decode cX1_findCrossings 64 = .ok (.iload_n 1, 1) := by decide +kernel
theorem dX1_findCrossings_65 : decode cX1_findCrossings 65 = .ok (.iaload, 1) := by decide +kernel
theorem dX1_findCrossings_66 : decode cX1_findCrossings 66 = .ok (.aload_n 0, 1) := by decide +kernel
theorem dX1_findCrossings_67 : decode cX1_findCrossings 67 = .ok (.getfield 22, 3) := by decide +kernel
theorem dX1_findCrossings_70 : decode cX1_findCrossings 70 = .ok (.iload_n 2, 1) := by decide +kernel
theorem dX1_findCrossings_71 : decode cX1_findCrossings 71 = .ok (.iaload, 1) := by decide +kernel
theorem dX1_findCrossings_72 : decode cX1_findCrossings 72 = .ok (.if_icmp .ge 27, 3) := by decide +kernel
theorem dX1_findCrossings_75 : decode cX1_findCrossings 75 = .ok (.aload_n 0, 1) := by decide +kernel
theorem dX1_findCrossings_76 : decode cX1_findCrossings 76 = .ok (.getfield 31, 3) := by decide +kernel
theorem dX1_findCrossings_79 : decode cX1_findCrossings 79 = .ok (.iload_n 1, 1) := by decide +kernel
theorem dX1_findCrossings_80 : decode cX1_findCrossings 80 = .ok (.dup2, 1) := by decide +kernel
theorem dX1_findCrossings_81 : decode cX1_findCrossings 81 = .ok (.iaload, 1) := by decide +kernel
theorem dX1_findCrossings_82 : decode cX1_findCrossings 82 = .ok (.iconst 1, 1) := by decide +kernel
theorem dX1_findCrossings_83 : decode cX1_findCrossings 83 = .ok (.iload_n 2, 1) := by decide +kernel
theorem dX1_findCrossings_84 : decode cX1_findCrossings 84 = .ok (.ishl, 1) := by decide +kernel
theorem dX1_findCrossings_85 : decode cX1_findCrossings 85 = .ok (.ior, 1) := by decide +kernel
theorem dX1_findCrossings_86 : decode cX1_findCrossings 86 = .ok (.iastore, 1) := by decide +kernel
theorem dX1_findCrossings_87 : decode cX1_findCrossings 87 = .ok (.aload_n 0, 1) := by decide +kernel
theorem dX1_findCrossings_88 : decode cX1_findCrossings 88 = .ok (.getfield 31, 3) := by decide +kernel
theorem dX1_findCrossings_91 : decode cX1_findCrossings 91 = .ok (.iload_n 2, 1) := by decide +kernel
theorem dX1_findCrossings_92 : decode cX1_findCrossings 92 = .ok (.dup2, 1) := by decide +kernel
theorem dX1_findCrossings_93 : decode cX1_findCrossings 93 = .ok (.iaload, 1) := by decide +kernel
theorem dX1_findCrossings_94 : decode cX1_findCrossings 94 = .ok (.iconst 1, 1) := by decide +kernel
theorem dX1_findCrossings_95 : decode cX1_findCrossings 95 = .ok (.iload_n 1, 1) := by decide +kernel
theorem dX1_findCrossings_96 : decode cX1_findCrossings 96 = .ok (.ishl, 1) := by decide +kernel
theorem dX1_findCrossings_97 : decode cX1_findCrossings 97 = .ok (.ior, 1) := by decide +kernel
theorem dX1_findCrossings_98 : decode cX1_findCrossings 98 = .ok (.iastore, 1) := by decide +kernel
theorem dX1_findCrossings_99 : decode cX1_findCrossings 99 = .ok (.iinc 2 1, 3) := by decide +kernel
theorem dX1_findCrossings_102 : decode cX1_findCrossings 102 = .ok (.goto (-90), 3) := by decide +kernel
theorem dX1_findCrossings_105 : decode cX1_findCrossings 105 = .ok (.iinc 1 1, 3) := by decide +kernel
theorem dX1_findCrossings_108 : decode cX1_findCrossings 108 = .ok (.goto (-106), 3) := by decide +kernel
theorem dX1_findCrossings_111 : decode cX1_findCrossings 111 = .ok (.return_, 1) := by decide +kernel
set_option maxRecDepth 100000 in
set_option maxHeartbeats 4000000 in
theorem v_X1_findCrossings {X : zq_X} (C : zq_C X RX1 cX1_findCrossings 4 zq_all rm_X1_findCrossings) {h : zq_H} {t : Nat} (T : zq_T X none) (hn : X.2.2.2.2.2.2.2.2.1.name = yX1_findCrossings.name) {out : zq_H} (hF : f_X1_findCrossings h t = some out) (hE : zq_End X cX1_findCrossings 0 0 none out) : zq_W X 0 0 h 0 [(0, .ref t)] [] := by
  unfold f_X1_findCrossings at hF
  refine zq_iconst (pc' := 1) C 0 dX1_findCrossings_0 rfl (by decide) ?_
  refine zq_istore_n (lv' := [(1, .int 0), (0, .ref t)]) (pc' := 2) C dX1_findCrossings_1 rfl rfl (by decide) rfl rfl ?_
  refine zq_sub [1, 0] rfl ?_
  replace hF := zq_bd hF; obtain ⟨r_2, e_3, hF⟩ := hF
  refine zq_lpW (fun s_1 => zq_W X 0 0 s_1.2 2 [(0, .ref t), (1, .int s_1.1)] []) (fun y_4 => zq_W X 0 0 y_4 111 [] []) e_3 (fun s_1 q_8 hF hrec_6 hex_7 => ?_) ?_
  · skip
    refine zq_iload_n (pc' := 3) C dX1_findCrossings_2 rfl rfl rfl ?_
    refine zq_aload_n (pc' := 4) C dX1_findCrossings_3 rfl rfl rfl ?_
    replace hF := zq_bd hF; obtain ⟨v_9, e_10, hF⟩ := hF
    refine zq_getI (j := 1) (pc' := 7) C zq_K1 zq_in1w (Or.inl wd_40) (by decide) rfl dX1_findCrossings_4 rfl e_10 ?_
    refine zq_icmp_ge (pc' := 10) C 111 dX1_findCrossings_7 (by decide) rfl (fun c_11 => ?_) (fun c_11 => ?_)
    · have hF := (zq_ifp hF c_11)
      skip
      cases hF
      exact zq_sub [] rfl (hex_7 _ rfl)
    · have hF := (zq_ifn hF c_11)
      refine zq_iconst (pc' := 11) C 0 dX1_findCrossings_10 rfl (by decide) ?_
      refine zq_istore_n (lv' := [(2, .int 0), (0, .ref t), (1, .int s_1.1)]) (pc' := 12) C dX1_findCrossings_11 rfl rfl (by decide) rfl rfl ?_
      refine zq_sub [1, 2, 0] rfl ?_
      replace hF := zq_bd hF; obtain ⟨r_13, e_14, hF⟩ := hF
      refine zq_lpW (fun s_12 => zq_W X 0 0 s_12.2 12 [(0, .ref t), (1, .int s_1.1), (2, .int s_12.1)] []) (fun y_15 => zq_W X 0 0 y_15 105 [(0, .ref t), (1, .int s_1.1)] []) e_14 (fun s_12 q_19 hF hrec_17 hex_18 => ?_) ?_
      · skip
        refine zq_iload_n (pc' := 13) C dX1_findCrossings_12 rfl rfl rfl ?_
        refine zq_aload_n (pc' := 14) C dX1_findCrossings_13 rfl rfl rfl ?_
        replace hF := zq_bd hF; obtain ⟨v_20, e_21, hF⟩ := hF
        refine zq_getI (j := 1) (pc' := 17) C zq_K1 zq_in1w (Or.inl wd_40) (by decide) rfl dX1_findCrossings_14 rfl e_21 ?_
        refine zq_icmp_ge (pc' := 20) C 105 dX1_findCrossings_17 (by decide) rfl (fun c_22 => ?_) (fun c_22 => ?_)
        · have hF := (zq_ifp hF c_22)
          skip
          cases hF
          exact zq_sub [0, 1] rfl (hex_18 _ rfl)
        · have hF := (zq_ifn hF c_22)
          refine zq_aload_n (pc' := 21) C dX1_findCrossings_20 rfl rfl rfl ?_
          replace hF := zq_bd hF; obtain ⟨v_23, e_24, hF⟩ := hF
          refine zq_getR (j := 2) (pc' := 24) C zq_K1 zq_in1w (Or.inl wd_65) (by decide) rfl dX1_findCrossings_21 rfl e_24 ?_
          refine zq_iload_n (pc' := 25) C dX1_findCrossings_24 rfl rfl rfl ?_
          replace hF := zq_bd hF; obtain ⟨v_25, e_26, hF⟩ := hF
          refine zq_iaload (pc' := 26) C dX1_findCrossings_25 rfl e_26 ?_
          refine zq_aload_n (pc' := 27) C dX1_findCrossings_26 rfl rfl rfl ?_
          replace hF := zq_bd hF; obtain ⟨v_27, e_28, hF⟩ := hF
          refine zq_getR (j := 2) (pc' := 30) C zq_K1 zq_in1w (Or.inl wd_65) (by decide) rfl dX1_findCrossings_27 rfl e_28 ?_
          refine zq_iload_n (pc' := 31) C dX1_findCrossings_30 rfl rfl rfl ?_
          replace hF := zq_bd hF; obtain ⟨v_29, e_30, hF⟩ := hF
          refine zq_iaload (pc' := 32) C dX1_findCrossings_31 rfl e_30 ?_
          refine zq_icmp_ge (pc' := 35) C 54 dX1_findCrossings_32 (by decide) rfl (fun c_31 => ?_) (fun c_31 => ?_)
          · have hF := (zq_ifp hF c_31)
            skip
            refine zq_iconst (pc' := 55) C 0 dX1_findCrossings_54 rfl (by decide) ?_
            refine zq_istore_n (lv' := [(3, .int 0), (0, .ref t), (1, .int s_1.1), (2, .int s_12.1)]) (pc' := 56) C dX1_findCrossings_55 rfl rfl (by decide) rfl rfl ?_
            refine zq_iload_n (pc' := 57) C dX1_findCrossings_56 rfl rfl rfl ?_
            refine zq_if_eq (pc' := 60) C 99 dX1_findCrossings_57 (by decide) rfl (fun _ => ?_) (fun c_32 => absurd c_32 (by decide))
            replace hF := zq_let_e hF; obtain ⟨v_33, e_34, hF⟩ := hF
            refine zq_iinc (lv' := [(2, .int v_33), (3, .int 0), (0, .ref t), (1, .int s_1.1)]) (pc' := 102) C dX1_findCrossings_99 rfl (by decide) 3 rfl e_34 rfl ?_
            refine zq_goto C 12 dX1_findCrossings_102 (by decide) ?_
            cases hF
            exact zq_sub [2, 3, 0] rfl (hrec_17 _ rfl)
          · have hF := (zq_ifn hF c_31)
            refine zq_aload_n (pc' := 36) C dX1_findCrossings_35 rfl rfl rfl ?_
            replace hF := zq_bd hF; obtain ⟨v_35, e_36, hF⟩ := hF
            refine zq_getR (j := 2) (pc' := 39) C zq_K1 zq_in1w (Or.inl wd_65) (by decide) rfl dX1_findCrossings_36 rfl e_36 ?_
            refine zq_iload_n (pc' := 40) C dX1_findCrossings_39 rfl rfl rfl ?_
            replace hF := zq_bd hF; obtain ⟨v_37, e_38, hF⟩ := hF
            refine zq_iaload (pc' := 41) C dX1_findCrossings_40 rfl e_38 ?_
            refine zq_aload_n (pc' := 42) C dX1_findCrossings_41 rfl rfl rfl ?_
            replace hF := zq_bd hF; obtain ⟨v_39, e_40, hF⟩ := hF
            refine zq_getR (j := 3) (pc' := 45) C zq_K1 zq_in1w (Or.inl wd_66) (by decide) rfl dX1_findCrossings_42 rfl e_40 ?_
            refine zq_iload_n (pc' := 46) C dX1_findCrossings_45 rfl rfl rfl ?_
            replace hF := zq_bd hF; obtain ⟨v_41, e_42, hF⟩ := hF
            refine zq_iaload (pc' := 47) C dX1_findCrossings_46 rfl e_42 ?_
            refine zq_icmp_ge (pc' := 50) C 54 dX1_findCrossings_47 (by decide) rfl (fun c_43 => ?_) (fun c_43 => ?_)
            · have hF := (zq_ifp hF c_43)
              skip
              refine zq_iconst (pc' := 55) C 0 dX1_findCrossings_54 rfl (by decide) ?_
              refine zq_istore_n (lv' := [(3, .int 0), (0, .ref t), (1, .int s_1.1), (2, .int s_12.1)]) (pc' := 56) C dX1_findCrossings_55 rfl rfl (by decide) rfl rfl ?_
              refine zq_iload_n (pc' := 57) C dX1_findCrossings_56 rfl rfl rfl ?_
              refine zq_if_eq (pc' := 60) C 99 dX1_findCrossings_57 (by decide) rfl (fun _ => ?_) (fun c_44 => absurd c_44 (by decide))
              replace hF := zq_let_e hF; obtain ⟨v_45, e_46, hF⟩ := hF
              refine zq_iinc (lv' := [(2, .int v_45), (3, .int 0), (0, .ref t), (1, .int s_1.1)]) (pc' := 102) C dX1_findCrossings_99 rfl (by decide) 3 rfl e_46 rfl ?_
              refine zq_goto C 12 dX1_findCrossings_102 (by decide) ?_
              cases hF
              exact zq_sub [2, 3, 0] rfl (hrec_17 _ rfl)
            · have hF := (zq_ifn hF c_43)
              refine zq_iconst (pc' := 51) C 1 dX1_findCrossings_50 rfl (by decide) ?_
              refine zq_goto C 55 dX1_findCrossings_51 (by decide) ?_
              refine zq_istore_n (lv' := [(3, .int 1), (0, .ref t), (1, .int s_1.1), (2, .int s_12.1)]) (pc' := 56) C dX1_findCrossings_55 rfl rfl (by decide) rfl rfl ?_
              refine zq_iload_n (pc' := 57) C dX1_findCrossings_56 rfl rfl rfl ?_
              refine zq_if_eq (pc' := 60) C 99 dX1_findCrossings_57 (by decide) rfl (fun c_47 => absurd c_47 (by decide)) (fun _ => ?_)
              refine zq_aload_n (pc' := 61) C dX1_findCrossings_60 rfl rfl rfl ?_
              replace hF := zq_bd hF; obtain ⟨v_48, e_49, hF⟩ := hF
              refine zq_getR (j := 3) (pc' := 64) C zq_K1 zq_in1w (Or.inl wd_66) (by decide) rfl dX1_findCrossings_61 rfl e_49 ?_
              refine zq_iload_n (pc' := 65) C dX1_findCrossings_64 rfl rfl rfl ?_
              replace hF := zq_bd hF; obtain ⟨v_50, e_51, hF⟩ := hF
              refine zq_iaload (pc' := 66) C dX1_findCrossings_65 rfl e_51 ?_
              refine zq_aload_n (pc' := 67) C dX1_findCrossings_66 rfl rfl rfl ?_
              replace hF := zq_bd hF; obtain ⟨v_52, e_53, hF⟩ := hF
              refine zq_getR (j := 3) (pc' := 70) C zq_K1 zq_in1w (Or.inl wd_66) (by decide) rfl dX1_findCrossings_67 rfl e_53 ?_
              refine zq_iload_n (pc' := 71) C dX1_findCrossings_70 rfl rfl rfl ?_
              replace hF := zq_bd hF; obtain ⟨v_54, e_55, hF⟩ := hF
              refine zq_iaload (pc' := 72) C dX1_findCrossings_71 rfl e_55 ?_
              refine zq_icmp_ge (pc' := 75) C 99 dX1_findCrossings_72 (by decide) rfl (fun c_56 => ?_) (fun c_56 => ?_)
              · have hF := (zq_ifp hF c_56)
                skip
                replace hF := zq_let_e hF; obtain ⟨v_57, e_58, hF⟩ := hF
                refine zq_iinc (lv' := [(2, .int v_57), (3, .int 1), (0, .ref t), (1, .int s_1.1)]) (pc' := 102) C dX1_findCrossings_99 rfl (by decide) 3 rfl e_58 rfl ?_
                refine zq_goto C 12 dX1_findCrossings_102 (by decide) ?_
                cases hF
                exact zq_sub [2, 3, 0] rfl (hrec_17 _ rfl)
              · have hF := (zq_ifn hF c_56)
                refine zq_aload_n (pc' := 76) C dX1_findCrossings_75 rfl rfl rfl ?_
                replace hF := zq_bd hF; obtain ⟨v_59, e_60, hF⟩ := hF
                refine zq_getR (j := 6) (pc' := 79) C zq_K1 zq_in1w (Or.inl wd_41) (by decide) rfl dX1_findCrossings_76 rfl e_60 ?_
                refine zq_iload_n (pc' := 80) C dX1_findCrossings_79 rfl rfl rfl ?_
                refine zq_dup2 (pc' := 81) C dX1_findCrossings_80 rfl rfl rfl ?_
                replace hF := zq_bd hF; obtain ⟨v_61, e_62, hF⟩ := hF
                refine zq_iaload (pc' := 82) C dX1_findCrossings_81 rfl e_62 ?_
                refine zq_iconst (pc' := 83) C 1 dX1_findCrossings_82 rfl (by decide) ?_
                refine zq_iload_n (pc' := 84) C dX1_findCrossings_83 rfl rfl rfl ?_
                refine zq_ishl (pc' := 85) C dX1_findCrossings_84 rfl ?_
                refine zq_ior (pc' := 86) C dX1_findCrossings_85 rfl ?_
                replace hF := zq_bd hF; obtain ⟨h_63, e_64, hF⟩ := hF
                refine zq_iastore (pc' := 87) C dX1_findCrossings_86 rfl e_64 ?_
                refine zq_aload_n (pc' := 88) C dX1_findCrossings_87 rfl rfl rfl ?_
                replace hF := zq_bd hF; obtain ⟨v_65, e_66, hF⟩ := hF
                refine zq_getR (j := 6) (pc' := 91) C zq_K1 zq_in1w (Or.inl wd_41) (by decide) rfl dX1_findCrossings_88 rfl e_66 ?_
                refine zq_iload_n (pc' := 92) C dX1_findCrossings_91 rfl rfl rfl ?_
                refine zq_dup2 (pc' := 93) C dX1_findCrossings_92 rfl rfl rfl ?_
                replace hF := zq_bd hF; obtain ⟨v_67, e_68, hF⟩ := hF
                refine zq_iaload (pc' := 94) C dX1_findCrossings_93 rfl e_68 ?_
                refine zq_iconst (pc' := 95) C 1 dX1_findCrossings_94 rfl (by decide) ?_
                refine zq_iload_n (pc' := 96) C dX1_findCrossings_95 rfl rfl rfl ?_
                refine zq_ishl (pc' := 97) C dX1_findCrossings_96 rfl ?_
                refine zq_ior (pc' := 98) C dX1_findCrossings_97 rfl ?_
                replace hF := zq_bd hF; obtain ⟨h_69, e_70, hF⟩ := hF
                refine zq_iastore (pc' := 99) C dX1_findCrossings_98 rfl e_70 ?_
                replace hF := zq_let_e hF; obtain ⟨v_71, e_72, hF⟩ := hF
                refine zq_iinc (lv' := [(2, .int v_71), (3, .int 1), (0, .ref t), (1, .int s_1.1)]) (pc' := 102) C dX1_findCrossings_99 rfl (by decide) 3 rfl e_72 rfl ?_
                refine zq_goto C 12 dX1_findCrossings_102 (by decide) ?_
                cases hF
                exact zq_sub [2, 3, 0] rfl (hrec_17 _ rfl)
      · skip
        obtain ⟨y_15, rfl⟩ : ∃ z9, z9 = r_13 := ⟨_, rfl⟩
        show zq_W X 0 0 y_15 105 [(0, .ref t), (1, .int s_1.1)] []
        replace hF := zq_let_e hF; obtain ⟨v_73, e_74, hF⟩ := hF
        refine zq_iinc (lv' := [(1, .int v_73), (0, .ref t)]) (pc' := 108) C dX1_findCrossings_105 rfl (by decide) 1 rfl e_74 rfl ?_
        refine zq_goto C 2 dX1_findCrossings_108 (by decide) ?_
        cases hF
        exact zq_sub [1, 0] rfl (hrec_6 _ rfl)
  · skip
    obtain ⟨y_4, rfl⟩ : ∃ z9, z9 = r_2 := ⟨_, rfl⟩
    show zq_W X 0 0 y_4 111 [] []
    have hF := Option.some.inj hF
    subst hF
    exact hE _ _ _ _ (Nat.le_of_ble_eq_true rfl) (Nat.le_of_ble_eq_true rfl) dX1_findCrossings_111
theorem c_X1_findCrossings {h : zq_H} {t : Nat} {out : zq_H} (hF : f_X1_findCrossings h t = some out) : zq_M none yX1_findCrossings (Cond.code yX1_findCrossings cX1_findCrossings 4 none :: zq_all) rm_X1_findCrossings [.ref t] h none out := zq_met2 (own := RX1) (by decide +kernel) rfl (Nat.le_of_ble_eq_true rfl) rfl rfl (fun X C T hn hE => v_X1_findCrossings C T hn hF hE)
theorem yv_X1_findCrossings : zq_calV yX1_findCrossings RX1 cX1_findCrossings 4 none 0 := ⟨by decide +kernel, wd_70, wd_83, wd_84, wd_27⟩
def f_X1_numberOf (h : zq_H) (t : Nat) (x1 : Int32) (x2 : Int32) : Option Int32 := (zq_ck h t 1 fun _ => (Option.bind (f_X1_isCorner h t x1) fun v_1 => (if v_1 = false then some ((-1)) else (zq_ck h t 1 fun _ => (Option.bind (f_X1_isCorner h t x2) fun v_5 => (if v_5 = false then some ((-1)) else (Option.bind (zq_gr h t 1 4) fun v_9 => (Option.bind (zq_gi h t 1 0) fun v_11 => (Option.bind (zq_ai h v_9 ((x1 * v_11) + x2)) fun v_13 => some (v_13))))))))))
abbrev rm_X1_numberOf : Room := { frames := 1, cells := 0, slots := 0, locals := 21 }
theorem dX1_numberOf_0 : decode cX1_numberOf 0 = .ok (.aload_n 0, 1) := by decide +kernel
theorem dX1_numberOf_1 : decode cX1_numberOf 1 = .ok (.iload_n 1, 1) := by decide +kernel
theorem dX1_numberOf_2 : decode cX1_numberOf 2 = .ok (.invokevirtual 59, 3) := by decide +kernel
theorem dX1_numberOf_5 : decode cX1_numberOf 5 = .ok (.ifCond .eq 27, 3) := by decide +kernel
theorem dX1_numberOf_8 : decode cX1_numberOf 8 = .ok (.aload_n 0, 1) := by decide +kernel
theorem dX1_numberOf_9 : decode cX1_numberOf 9 = .ok (.iload_n 2, 1) := by decide +kernel
theorem dX1_numberOf_10 : decode cX1_numberOf 10 = .ok (.invokevirtual 59, 3) := by decide +kernel
theorem dX1_numberOf_13 : decode cX1_numberOf 13 = .ok (.ifCond .eq 19, 3) := by decide +kernel
theorem dX1_numberOf_16 : decode cX1_numberOf 16 = .ok (.aload_n 0, 1) := by decide +kernel
theorem dX1_numberOf_17 : decode cX1_numberOf 17 = .ok (.getfield 25, 3) := by decide +kernel
theorem dX1_numberOf_20 : decode cX1_numberOf 20 = .ok (.iload_n 1, 1) := by decide +kernel
theorem dX1_numberOf_21 : decode cX1_numberOf 21 = .ok (.aload_n 0, 1) := by decide +kernel
theorem dX1_numberOf_22 : decode cX1_numberOf 22 = .ok (.getfield 9, 3) := by decide +kernel
theorem dX1_numberOf_25 : decode cX1_numberOf 25 = .ok (.imul, 1) := by decide +kernel
theorem dX1_numberOf_26 : decode cX1_numberOf 26 = .ok (.iload_n 2, 1) := by decide +kernel
theorem dX1_numberOf_27 : decode cX1_numberOf 27 = .ok (.iadd, 1) := by decide +kernel
theorem dX1_numberOf_28 : decode cX1_numberOf 28 = .ok (.iaload, 1) := by decide +kernel
theorem dX1_numberOf_29 : decode cX1_numberOf 29 = .ok (.goto 4, 3) := by decide +kernel
theorem dX1_numberOf_32 : decode cX1_numberOf 32 = .ok (.iconst (-1), 1) := by decide +kernel
theorem dX1_numberOf_33 : decode cX1_numberOf 33 = .ok (.ireturn, 1) := by decide +kernel
set_option maxRecDepth 100000 in
set_option maxHeartbeats 4000000 in
theorem v_X1_numberOf {X : zq_X} (C : zq_C X RX1 cX1_numberOf 3 zq_all rm_X1_numberOf) {h : zq_H} {t : Nat} {x1 : Int32} {x2 : Int32} (T : zq_T X none) (hn : X.2.2.2.2.2.2.2.2.1.name = yX1_numberOf.name) {out : Int32} (hF : f_X1_numberOf h t x1 x2 = some out) (hE : zq_End X cX1_numberOf 0 0 (some (.int out)) h) : zq_W X 0 0 h 0 [(0, .ref t), (1, .int x1), (2, .int x2)] [] := by
  unfold f_X1_numberOf at hF
  refine zq_aload_n (pc' := 1) C dX1_numberOf_0 rfl rfl rfl ?_
  refine zq_iload_n (pc' := 2) C dX1_numberOf_1 rfl rfl rfl ?_
  replace hF := zq_ck_e hF; obtain ⟨e_3, hF⟩ := hF
  replace hF := zq_bd hF; obtain ⟨v_1, e_2, hF⟩ := hF
  refine zq_cV (pc' := 5) C (c_X1_isCorner e_2) yv_X1_isCorner wd_24 zq_K1 e_3 dX1_numberOf_2 rfl rfl rfl ⟨Nat.le_of_ble_eq_true rfl, Nat.le_of_ble_eq_true rfl⟩ (Nat.le_of_ble_eq_true rfl) ⟨rfl, rfl⟩ ⟨Nat.le_of_ble_eq_true rfl, Nat.le_of_ble_eq_true rfl⟩ rfl ?_
  refine zq_if_eq (pc' := 8) C 32 dX1_numberOf_5 (by decide) rfl (fun c_4 => ?_) (fun c_4 => ?_)
  · have hF := (zq_ifp hF (zq_b0.mp c_4))
    skip
    refine zq_iconst (pc' := 33) C (-1) dX1_numberOf_32 rfl (by decide) ?_
    have hF := Option.some.inj hF
    subst hF
    exact hE _ _ _ _ (Nat.le_of_ble_eq_true rfl) (Nat.le_of_ble_eq_true rfl) dX1_numberOf_33
  · have hF := (zq_ifn hF (fun q => c_4 (zq_b0.mpr q)))
    refine zq_aload_n (pc' := 9) C dX1_numberOf_8 rfl rfl rfl ?_
    refine zq_iload_n (pc' := 10) C dX1_numberOf_9 rfl rfl rfl ?_
    replace hF := zq_ck_e hF; obtain ⟨e_7, hF⟩ := hF
    replace hF := zq_bd hF; obtain ⟨v_5, e_6, hF⟩ := hF
    refine zq_cV (pc' := 13) C (c_X1_isCorner e_6) yv_X1_isCorner wd_24 zq_K1 e_7 dX1_numberOf_10 rfl rfl rfl ⟨Nat.le_of_ble_eq_true rfl, Nat.le_of_ble_eq_true rfl⟩ (Nat.le_of_ble_eq_true rfl) ⟨rfl, rfl⟩ ⟨Nat.le_of_ble_eq_true rfl, Nat.le_of_ble_eq_true rfl⟩ rfl ?_
    refine zq_if_eq (pc' := 16) C 32 dX1_numberOf_13 (by decide) rfl (fun c_8 => ?_) (fun c_8 => ?_)
    · have hF := (zq_ifp hF (zq_b0.mp c_8))
      skip
      refine zq_iconst (pc' := 33) C (-1) dX1_numberOf_32 rfl (by decide) ?_
      have hF := Option.some.inj hF
      subst hF
      exact hE _ _ _ _ (Nat.le_of_ble_eq_true rfl) (Nat.le_of_ble_eq_true rfl) dX1_numberOf_33
    · have hF := (zq_ifn hF (fun q => c_8 (zq_b0.mpr q)))
      refine zq_aload_n (pc' := 17) C dX1_numberOf_16 rfl rfl rfl ?_
      replace hF := zq_bd hF; obtain ⟨v_9, e_10, hF⟩ := hF
      refine zq_getR (j := 4) (pc' := 20) C zq_K1 zq_in1w (Or.inl wd_64) (by decide) rfl dX1_numberOf_17 rfl e_10 ?_
      refine zq_iload_n (pc' := 21) C dX1_numberOf_20 rfl rfl rfl ?_
      refine zq_aload_n (pc' := 22) C dX1_numberOf_21 rfl rfl rfl ?_
      replace hF := zq_bd hF; obtain ⟨v_11, e_12, hF⟩ := hF
      refine zq_getI (j := 0) (pc' := 25) C zq_K1 zq_in1w (Or.inl wd_21) (by decide) rfl dX1_numberOf_22 rfl e_12 ?_
      refine zq_imul (pc' := 26) C dX1_numberOf_25 rfl ?_
      refine zq_iload_n (pc' := 27) C dX1_numberOf_26 rfl rfl rfl ?_
      refine zq_iadd (pc' := 28) C dX1_numberOf_27 rfl ?_
      replace hF := zq_bd hF; obtain ⟨v_13, e_14, hF⟩ := hF
      refine zq_iaload (pc' := 29) C dX1_numberOf_28 rfl e_14 ?_
      refine zq_goto C 33 dX1_numberOf_29 (by decide) ?_
      have hF := Option.some.inj hF
      subst hF
      exact hE _ _ _ _ (Nat.le_of_ble_eq_true rfl) (Nat.le_of_ble_eq_true rfl) dX1_numberOf_33
theorem c_X1_numberOf {h : zq_H} {t : Nat} {x1 : Int32} {x2 : Int32} {out : Int32} (hF : f_X1_numberOf h t x1 x2 = some out) : zq_M none yX1_numberOf (Cond.code yX1_numberOf cX1_numberOf 3 (some .int) :: zq_all) rm_X1_numberOf [.ref t, .int x1, .int x2] h (some (.int out)) h := zq_met2 (own := RX1) (by decide +kernel) rfl (Nat.le_of_ble_eq_true rfl) rfl ⟨.int, rfl, rfl⟩ (fun X C T hn hE => v_X1_numberOf C T hn hF hE)
theorem yv_X1_numberOf : zq_calV yX1_numberOf RX1 cX1_numberOf 3 (some .int) 2 := ⟨by decide +kernel, wd_71, wd_76, wd_77, wd_27⟩
def f_X1_findImages (h : zq_H) (t : Nat) : Option zq_H := ((zq_lp (σ := Int32 × zq_H) (ρ := zq_H) (fun s_1 => (Option.bind (zq_gi s_1.2 t 1 1) fun v_9 => (if v_9 ≤ s_1.1 then some (.inr s_1.2) else (Option.bind (zq_gr s_1.2 t 1 2) fun v_12 => (Option.bind (zq_ai s_1.2 v_12 s_1.1) fun v_14 => (Option.bind (zq_gr s_1.2 t 1 3) fun v_16 => (Option.bind (zq_ai s_1.2 v_16 s_1.1) fun v_18 => (Option.bind (zq_gr s_1.2 t 1 7) fun v_20 => (Option.bind (zq_gi s_1.2 t 1 0) fun v_22 => (if v_22 ≤ (v_18 + 1) then (zq_ck s_1.2 t 1 fun _ => (Option.bind (f_X1_numberOf s_1.2 t 0 (v_14 + 1)) fun v_25 => (Option.bind (zq_si s_1.2 v_20 s_1.1 v_25) fun h_28 => (Option.bind (zq_gr h_28 t 1 8) fun v_30 => (Option.bind (zq_gi h_28 t 1 0) fun v_32 => (Option.bind (zq_gi h_28 t 1 0) fun v_34 => (zq_ck h_28 t 1 fun _ => (Option.bind (f_X1_numberOf h_28 t ((v_32 - 1) - v_18) ((v_34 - 1) - v_14)) fun v_36 => (Option.bind (zq_si h_28 v_30 s_1.1 v_36) fun h_39 => (zq_let (s_1.1 + 1) fun v_41 => some (.inl (v_41, h_39)))))))))))) else (zq_ck s_1.2 t 1 fun _ => (Option.bind (f_X1_numberOf s_1.2 t (v_14 + 1) (v_18 + 1)) fun v_43 => (Option.bind (zq_si s_1.2 v_20 s_1.1 v_43) fun h_46 => (Option.bind (zq_gr h_46 t 1 8) fun v_48 => (Option.bind (zq_gi h_46 t 1 0) fun v_50 => (Option.bind (zq_gi h_46 t 1 0) fun v_52 => (zq_ck h_46 t 1 fun _ => (Option.bind (f_X1_numberOf h_46 t ((v_50 - 1) - v_18) ((v_52 - 1) - v_14)) fun v_54 => (Option.bind (zq_si h_46 v_48 s_1.1 v_54) fun h_57 => (zq_let (s_1.1 + 1) fun v_59 => some (.inl (v_59, h_57)))))))))))))))))))))) zq_N (0, h)).bind (fun y_4 : zq_H => some (y_4)))
abbrev rm_X1_findImages : Room := { frames := 2, cells := 0, slots := 0, locals := 43 }
theorem dX1_findImages_0 : decode cX1_findImages 0 = .ok (.iconst 0, 1) := by decide +kernel
theorem dX1_findImages_1 : decode cX1_findImages 1 = .ok (.istore_n 1, 1) := by decide +kernel
theorem dX1_findImages_2 : decode cX1_findImages 2 = .ok (.iload_n 1, 1) := by decide +kernel
theorem dX1_findImages_3 : decode cX1_findImages 3 = .ok (.aload_n 0, 1) := by decide +kernel
theorem dX1_findImages_4 : decode cX1_findImages 4 = .ok (.getfield 15, 3) := by decide +kernel
theorem dX1_findImages_7 : decode cX1_findImages 7 = .ok (.if_icmp .ge 86, 3) := by decide +kernel
theorem dX1_findImages_10 : decode cX1_findImages 10 = .ok (.aload_n 0, 1) := by decide +kernel
theorem dX1_findImages_11 : decode cX1_findImages 11 = .ok (.getfield 18, 3) := by decide +kernel
theorem dX1_findImages_14 : decode cX1_findImages 14 = .ok (.iload_n 1, 1) := by decide +kernel
theorem dX1_findImages_15 : decode cX1_findImages 15 = .ok (.iaload, 1) := by decide +kernel
theorem dX1_findImages_16 : decode cX1_findImages 16 = .ok (.istore_n 2, 1) := by decide +kernel
theorem dX1_findImages_17 : decode cX1_findImages 17 = .ok (.aload_n 0, 1) := by decide +kernel
theorem dX1_findImages_18 : decode cX1_findImages 18 = .ok (.getfield 22, 3) := by decide +kernel
theorem dX1_findImages_21 : decode cX1_findImages 21 = .ok (.iload_n 1, 1) := by decide +kernel
theorem dX1_findImages_22 : decode cX1_findImages 22 = .ok (.iaload, 1) := by decide +kernel
theorem dX1_findImages_23 : decode cX1_findImages 23 = .ok (.istore_n 3, 1) := by decide +kernel
theorem dX1_findImages_24 : decode cX1_findImages 24 = .ok (.aload_n 0, 1) := by decide +kernel
theorem dX1_findImages_25 : decode cX1_findImages 25 = .ok (.getfield 34, 3) := by decide +kernel
theorem dX1_findImages_28 : decode cX1_findImages 28 = .ok (.iload_n 1, 1) := by decide +kernel
theorem dX1_findImages_29 : decode cX1_findImages 29 = .ok (.iload_n 3, 1) := by decide +kernel
theorem dX1_findImages_30 : decode cX1_findImages 30 = .ok (.iconst 1, 1) := by decide +kernel
theorem dX1_findImages_31 : decode cX1_findImages 31 = .ok (.iadd, 1) := by decide +kernel
theorem dX1_findImages_32 : decode cX1_findImages 32 = .ok (.aload_n 0, 1) := by decide +kernel
theorem dX1_findImages_33 : decode cX1_findImages 33 = .ok (.getfield 9, 3) := by decide +kernel
theorem dX1_findImages_36 : decode cX1_findImages 36 = .ok (.if_icmp .ge 16, 3) := by decide +kernel
theorem dX1_findImages_39 : decode cX1_findImages 39 = .ok (.aload_n 0, 1) := by decide +kernel
theorem dX1_findImages_40 : decode cX1_findImages 40 = .ok (.iload_n 2, 1) := by decide +kernel
theorem dX1_findImages_41 : decode cX1_findImages 41 = .ok (.iconst 1, 1) := by decide +kernel
theorem dX1_findImages_42 : decode cX1_findImages 42 = .ok (.iadd, 1) := by decide +kernel
theorem dX1_findImages_43 : decode cX1_findImages 43 = .ok (.iload_n 3, 1) := by decide +kernel
theorem dX1_findImages_44 : decode cX1_findImages 44 = .ok (.iconst 1, 1) := by decide +kernel
theorem dX1_findImages_45 : decode cX1_findImages 45 = .ok (.iadd, 1) := by decide +kernel
theorem dX1_findImages_46 : decode cX1_findImages 46 = .ok (.invokevirtual 55, 3) := by decide +kernel
theorem dX1_findImages_49 : decode cX1_findImages 49 = .ok (.goto 11, 3) := by decide +kernel
theorem dX1_findImages_52 : decode cX1_findImages 52 = .ok (.aload_n 0, 1) := by decide +kernel
theorem dX1_findImages_53 : decode cX1_findImages 53 = .ok (.iconst 0, 1) := by decide +kernel
theorem dX1_findImages_54 : decode cX1_findImages 54 = .ok (.iload_n 2, 1) := by decide +kernel
theorem dX1_findImages_55 : decode cX1_findImages 55 = .ok (.iconst 1, 1) := by decide +kernel
theorem dX1_findImages_56 : decode cX1_findImages 56 = .ok (.iadd, 1) := by decide +kernel
theorem dX1_findImages_57 : decode cX1_findImages 57 = .ok (.invokevirtual 55, 3) := by decide +kernel
theorem dX1_findImages_60 : decode cX1_findImages 60 = .ok (.iastore, 1) := by decide +kernel
theorem dX1_findImages_61 : decode cX1_findImages 61 = .ok (.aload_n 0, 1) := by decide +kernel
theorem dX1_findImages_62 : decode cX1_findImages 62 = .ok (.getfield 37, 3) := by decide +kernel
theorem dX1_findImages_65 : decode cX1_findImages 65 = .ok (.iload_n 1, 1) := by decide +kernel
theorem dX1_findImages_66 : decode cX1_findImages 66 = .ok (.aload_n 0, 1) := by decide +kernel
theorem dX1_findImages_67 : decode cX1_findImages 67 = .ok (.aload_n 0, 1) := by decide +kernel
theorem dX1_findImages_68 : decode cX1_findImages 68 = .ok (.getfield 9, 3) := by decide +kernel
theorem dX1_findImages_71 : decode cX1_findImages 71 = .ok (.iconst 1, 1) := by decide +kernel
theorem dX1_findImages_72 : decode cX1_findImages 72 = .ok (.isub, 1) := by decide +kernel
theorem dX1_findImages_73 : decode cX1_findImages 73 = .ok (.iload_n 3, 1) := by decide +kernel
theorem dX1_findImages_74 : decode cX1_findImages 74 = .ok (.isub, 1) := by decide +kernel
theorem dX1_findImages_75 : decode cX1_findImages 75 = .ok (.aload_n 0, 1) := by decide +kernel
theorem dX1_findImages_76 : decode cX1_findImages 76 = .ok (.getfield 9, 3) := by decide +kernel
theorem dX1_findImages_79 : decode cX1_findImages 79 = .ok (.iconst 1, 1) := by decide +kernel
theorem dX1_findImages_80 : decode cX1_findImages 80 = .ok (.isub, 1) := by decide +kernel
theorem dX1_findImages_81 : decode cX1_findImages 81 = .ok (.iload_n 2, 1) := by decide +kernel
theorem dX1_findImages_82 : decode cX1_findImages 82 = .ok (.isub, 1) := by decide +kernel
theorem dX1_findImages_83 : decode cX1_findImages 83 = .ok (.invokevirtual 55, 3) := by decide +kernel
theorem dX1_findImages_86 : decode cX1_findImages 86 = .ok (.iastore, 1) := by decide +kernel
theorem dX1_findImages_87 : decode cX1_findImages 87 = .ok (.iinc 1 1, 3) := by decide +kernel
theorem dX1_findImages_90 : decode cX1_findImages 90 = .ok (.goto (-88), 3) := by decide +kernel
theorem dX1_findImages_93 : decode cX1_findImages 93 = .ok (.return_, 1) := by decide +kernel
set_option maxRecDepth 100000 in
set_option maxHeartbeats 4000000 in
theorem v_X1_findImages {X : zq_X} (C : zq_C X RX1 cX1_findImages 4 zq_all rm_X1_findImages) {h : zq_H} {t : Nat} (T : zq_T X none) (hn : X.2.2.2.2.2.2.2.2.1.name = yX1_findImages.name) {out : zq_H} (hF : f_X1_findImages h t = some out) (hE : zq_End X cX1_findImages 0 0 none out) : zq_W X 0 0 h 0 [(0, .ref t)] [] := by
  unfold f_X1_findImages at hF
  refine zq_iconst (pc' := 1) C 0 dX1_findImages_0 rfl (by decide) ?_
  refine zq_istore_n (lv' := [(1, .int 0), (0, .ref t)]) (pc' := 2) C dX1_findImages_1 rfl rfl (by decide) rfl rfl ?_
  refine zq_sub [1, 0] rfl ?_
  replace hF := zq_bd hF; obtain ⟨r_2, e_3, hF⟩ := hF
  refine zq_lpW (fun s_1 => zq_W X 0 0 s_1.2 2 [(0, .ref t), (1, .int s_1.1)] []) (fun y_4 => zq_W X 0 0 y_4 93 [] []) e_3 (fun s_1 q_8 hF hrec_6 hex_7 => ?_) ?_
  · skip
    refine zq_iload_n (pc' := 3) C dX1_findImages_2 rfl rfl rfl ?_
    refine zq_aload_n (pc' := 4) C dX1_findImages_3 rfl rfl rfl ?_
    replace hF := zq_bd hF; obtain ⟨v_9, e_10, hF⟩ := hF
    refine zq_getI (j := 1) (pc' := 7) C zq_K1 zq_in1w (Or.inl wd_40) (by decide) rfl dX1_findImages_4 rfl e_10 ?_
    refine zq_icmp_ge (pc' := 10) C 93 dX1_findImages_7 (by decide) rfl (fun c_11 => ?_) (fun c_11 => ?_)
    · have hF := (zq_ifp hF c_11)
      skip
      cases hF
      exact zq_sub [] rfl (hex_7 _ rfl)
    · have hF := (zq_ifn hF c_11)
      refine zq_aload_n (pc' := 11) C dX1_findImages_10 rfl rfl rfl ?_
      replace hF := zq_bd hF; obtain ⟨v_12, e_13, hF⟩ := hF
      refine zq_getR (j := 2) (pc' := 14) C zq_K1 zq_in1w (Or.inl wd_65) (by decide) rfl dX1_findImages_11 rfl e_13 ?_
      refine zq_iload_n (pc' := 15) C dX1_findImages_14 rfl rfl rfl ?_
      replace hF := zq_bd hF; obtain ⟨v_14, e_15, hF⟩ := hF
      refine zq_iaload (pc' := 16) C dX1_findImages_15 rfl e_15 ?_
      refine zq_istore_n (lv' := [(2, .int v_14), (0, .ref t), (1, .int s_1.1)]) (pc' := 17) C dX1_findImages_16 rfl rfl (by decide) rfl rfl ?_
      refine zq_aload_n (pc' := 18) C dX1_findImages_17 rfl rfl rfl ?_
      replace hF := zq_bd hF; obtain ⟨v_16, e_17, hF⟩ := hF
      refine zq_getR (j := 3) (pc' := 21) C zq_K1 zq_in1w (Or.inl wd_66) (by decide) rfl dX1_findImages_18 rfl e_17 ?_
      refine zq_iload_n (pc' := 22) C dX1_findImages_21 rfl rfl rfl ?_
      replace hF := zq_bd hF; obtain ⟨v_18, e_19, hF⟩ := hF
      refine zq_iaload (pc' := 23) C dX1_findImages_22 rfl e_19 ?_
      refine zq_istore_n (lv' := [(3, .int v_18), (2, .int v_14), (0, .ref t), (1, .int s_1.1)]) (pc' := 24) C dX1_findImages_23 rfl rfl (by decide) rfl rfl ?_
      refine zq_aload_n (pc' := 25) C dX1_findImages_24 rfl rfl rfl ?_
      replace hF := zq_bd hF; obtain ⟨v_20, e_21, hF⟩ := hF
      refine zq_getR (j := 7) (pc' := 28) C zq_K1 zq_in1w (Or.inl wd_73) (by decide) rfl dX1_findImages_25 rfl e_21 ?_
      refine zq_iload_n (pc' := 29) C dX1_findImages_28 rfl rfl rfl ?_
      refine zq_iload_n (pc' := 30) C dX1_findImages_29 rfl rfl rfl ?_
      refine zq_iconst (pc' := 31) C 1 dX1_findImages_30 rfl (by decide) ?_
      refine zq_iadd (pc' := 32) C dX1_findImages_31 rfl ?_
      refine zq_aload_n (pc' := 33) C dX1_findImages_32 rfl rfl rfl ?_
      replace hF := zq_bd hF; obtain ⟨v_22, e_23, hF⟩ := hF
      refine zq_getI (j := 0) (pc' := 36) C zq_K1 zq_in1w (Or.inl wd_21) (by decide) rfl dX1_findImages_33 rfl e_23 ?_
      refine zq_icmp_ge (pc' := 39) C 52 dX1_findImages_36 (by decide) rfl (fun c_24 => ?_) (fun c_24 => ?_)
      · have hF := (zq_ifp hF c_24)
        skip
        refine zq_aload_n (pc' := 53) C dX1_findImages_52 rfl rfl rfl ?_
        refine zq_iconst (pc' := 54) C 0 dX1_findImages_53 rfl (by decide) ?_
        refine zq_iload_n (pc' := 55) C dX1_findImages_54 rfl rfl rfl ?_
        refine zq_iconst (pc' := 56) C 1 dX1_findImages_55 rfl (by decide) ?_
        refine zq_iadd (pc' := 57) C dX1_findImages_56 rfl ?_
        replace hF := zq_ck_e hF; obtain ⟨e_27, hF⟩ := hF
        replace hF := zq_bd hF; obtain ⟨v_25, e_26, hF⟩ := hF
        refine zq_cV (pc' := 60) C (c_X1_numberOf e_26) yv_X1_numberOf wd_75 zq_K1 e_27 dX1_findImages_57 rfl rfl rfl ⟨Nat.le_of_ble_eq_true rfl, Nat.le_of_ble_eq_true rfl⟩ (Nat.le_of_ble_eq_true rfl) ⟨rfl, rfl⟩ ⟨Nat.le_of_ble_eq_true rfl, Nat.le_of_ble_eq_true rfl⟩ rfl ?_
        replace hF := zq_bd hF; obtain ⟨h_28, e_29, hF⟩ := hF
        refine zq_iastore (pc' := 61) C dX1_findImages_60 rfl e_29 ?_
        refine zq_aload_n (pc' := 62) C dX1_findImages_61 rfl rfl rfl ?_
        replace hF := zq_bd hF; obtain ⟨v_30, e_31, hF⟩ := hF
        refine zq_getR (j := 8) (pc' := 65) C zq_K1 zq_in1w (Or.inl wd_74) (by decide) rfl dX1_findImages_62 rfl e_31 ?_
        refine zq_iload_n (pc' := 66) C dX1_findImages_65 rfl rfl rfl ?_
        refine zq_aload_n (pc' := 67) C dX1_findImages_66 rfl rfl rfl ?_
        refine zq_aload_n (pc' := 68) C dX1_findImages_67 rfl rfl rfl ?_
        replace hF := zq_bd hF; obtain ⟨v_32, e_33, hF⟩ := hF
        refine zq_getI (j := 0) (pc' := 71) C zq_K1 zq_in1w (Or.inl wd_21) (by decide) rfl dX1_findImages_68 rfl e_33 ?_
        refine zq_iconst (pc' := 72) C 1 dX1_findImages_71 rfl (by decide) ?_
        refine zq_isub (pc' := 73) C dX1_findImages_72 rfl ?_
        refine zq_iload_n (pc' := 74) C dX1_findImages_73 rfl rfl rfl ?_
        refine zq_isub (pc' := 75) C dX1_findImages_74 rfl ?_
        refine zq_aload_n (pc' := 76) C dX1_findImages_75 rfl rfl rfl ?_
        replace hF := zq_bd hF; obtain ⟨v_34, e_35, hF⟩ := hF
        refine zq_getI (j := 0) (pc' := 79) C zq_K1 zq_in1w (Or.inl wd_21) (by decide) rfl dX1_findImages_76 rfl e_35 ?_
        refine zq_iconst (pc' := 80) C 1 dX1_findImages_79 rfl (by decide) ?_
        refine zq_isub (pc' := 81) C dX1_findImages_80 rfl ?_
        refine zq_iload_n (pc' := 82) C dX1_findImages_81 rfl rfl rfl ?_
        refine zq_isub (pc' := 83) C dX1_findImages_82 rfl ?_
        replace hF := zq_ck_e hF; obtain ⟨e_38, hF⟩ := hF
        replace hF := zq_bd hF; obtain ⟨v_36, e_37, hF⟩ := hF
        refine zq_cV (pc' := 86) C (c_X1_numberOf e_37) yv_X1_numberOf wd_75 zq_K1 e_38 dX1_findImages_83 rfl rfl rfl ⟨Nat.le_of_ble_eq_true rfl, Nat.le_of_ble_eq_true rfl⟩ (Nat.le_of_ble_eq_true rfl) ⟨rfl, rfl⟩ ⟨Nat.le_of_ble_eq_true rfl, Nat.le_of_ble_eq_true rfl⟩ rfl ?_
        replace hF := zq_bd hF; obtain ⟨h_39, e_40, hF⟩ := hF
        refine zq_iastore (pc' := 87) C dX1_findImages_86 rfl e_40 ?_
        replace hF := zq_let_e hF; obtain ⟨v_41, e_42, hF⟩ := hF
        refine zq_iinc (lv' := [(1, .int v_41), (3, .int v_18), (2, .int v_14), (0, .ref t)]) (pc' := 90) C dX1_findImages_87 rfl (by decide) 3 rfl e_42 rfl ?_
        refine zq_goto C 2 dX1_findImages_90 (by decide) ?_
        cases hF
        exact zq_sub [3, 0] rfl (hrec_6 _ rfl)
      · have hF := (zq_ifn hF c_24)
        refine zq_aload_n (pc' := 40) C dX1_findImages_39 rfl rfl rfl ?_
        refine zq_iload_n (pc' := 41) C dX1_findImages_40 rfl rfl rfl ?_
        refine zq_iconst (pc' := 42) C 1 dX1_findImages_41 rfl (by decide) ?_
        refine zq_iadd (pc' := 43) C dX1_findImages_42 rfl ?_
        refine zq_iload_n (pc' := 44) C dX1_findImages_43 rfl rfl rfl ?_
        refine zq_iconst (pc' := 45) C 1 dX1_findImages_44 rfl (by decide) ?_
        refine zq_iadd (pc' := 46) C dX1_findImages_45 rfl ?_
        replace hF := zq_ck_e hF; obtain ⟨e_45, hF⟩ := hF
        replace hF := zq_bd hF; obtain ⟨v_43, e_44, hF⟩ := hF
        refine zq_cV (pc' := 49) C (c_X1_numberOf e_44) yv_X1_numberOf wd_75 zq_K1 e_45 dX1_findImages_46 rfl rfl rfl ⟨Nat.le_of_ble_eq_true rfl, Nat.le_of_ble_eq_true rfl⟩ (Nat.le_of_ble_eq_true rfl) ⟨rfl, rfl⟩ ⟨Nat.le_of_ble_eq_true rfl, Nat.le_of_ble_eq_true rfl⟩ rfl ?_
        refine zq_goto C 60 dX1_findImages_49 (by decide) ?_
        replace hF := zq_bd hF; obtain ⟨h_46, e_47, hF⟩ := hF
        refine zq_iastore (pc' := 61) C dX1_findImages_60 rfl e_47 ?_
        refine zq_aload_n (pc' := 62) C dX1_findImages_61 rfl rfl rfl ?_
        replace hF := zq_bd hF; obtain ⟨v_48, e_49, hF⟩ := hF
        refine zq_getR (j := 8) (pc' := 65) C zq_K1 zq_in1w (Or.inl wd_74) (by decide) rfl dX1_findImages_62 rfl e_49 ?_
        refine zq_iload_n (pc' := 66) C dX1_findImages_65 rfl rfl rfl ?_
        refine zq_aload_n (pc' := 67) C dX1_findImages_66 rfl rfl rfl ?_
        refine zq_aload_n (pc' := 68) C dX1_findImages_67 rfl rfl rfl ?_
        replace hF := zq_bd hF; obtain ⟨v_50, e_51, hF⟩ := hF
        refine zq_getI (j := 0) (pc' := 71) C zq_K1 zq_in1w (Or.inl wd_21) (by decide) rfl dX1_findImages_68 rfl e_51 ?_
        refine zq_iconst (pc' := 72) C 1 dX1_findImages_71 rfl (by decide) ?_
        refine zq_isub (pc' := 73) C dX1_findImages_72 rfl ?_
        refine zq_iload_n (pc' := 74) C dX1_findImages_73 rfl rfl rfl ?_
        refine zq_isub (pc' := 75) C dX1_findImages_74 rfl ?_
        refine zq_aload_n (pc' := 76) C dX1_findImages_75 rfl rfl rfl ?_
        replace hF := zq_bd hF; obtain ⟨v_52, e_53, hF⟩ := hF
        refine zq_getI (j := 0) (pc' := 79) C zq_K1 zq_in1w (Or.inl wd_21) (by decide) rfl dX1_findImages_76 rfl e_53 ?_
        refine zq_iconst (pc' := 80) C 1 dX1_findImages_79 rfl (by decide) ?_
        refine zq_isub (pc' := 81) C dX1_findImages_80 rfl ?_
        refine zq_iload_n (pc' := 82) C dX1_findImages_81 rfl rfl rfl ?_
        refine zq_isub (pc' := 83) C dX1_findImages_82 rfl ?_
        replace hF := zq_ck_e hF; obtain ⟨e_56, hF⟩ := hF
        replace hF := zq_bd hF; obtain ⟨v_54, e_55, hF⟩ := hF
        refine zq_cV (pc' := 86) C (c_X1_numberOf e_55) yv_X1_numberOf wd_75 zq_K1 e_56 dX1_findImages_83 rfl rfl rfl ⟨Nat.le_of_ble_eq_true rfl, Nat.le_of_ble_eq_true rfl⟩ (Nat.le_of_ble_eq_true rfl) ⟨rfl, rfl⟩ ⟨Nat.le_of_ble_eq_true rfl, Nat.le_of_ble_eq_true rfl⟩ rfl ?_
        replace hF := zq_bd hF; obtain ⟨h_57, e_58, hF⟩ := hF
        refine zq_iastore (pc' := 87) C dX1_findImages_86 rfl e_58 ?_
        replace hF := zq_let_e hF; obtain ⟨v_59, e_60, hF⟩ := hF
        refine zq_iinc (lv' := [(1, .int v_59), (3, .int v_18), (2, .int v_14), (0, .ref t)]) (pc' := 90) C dX1_findImages_87 rfl (by decide) 3 rfl e_60 rfl ?_
        refine zq_goto C 2 dX1_findImages_90 (by decide) ?_
        cases hF
        exact zq_sub [3, 0] rfl (hrec_6 _ rfl)
  · skip
    obtain ⟨y_4, rfl⟩ : ∃ z9, z9 = r_2 := ⟨_, rfl⟩
    show zq_W X 0 0 y_4 93 [] []
    have hF := Option.some.inj hF
    subst hF
    exact hE _ _ _ _ (Nat.le_of_ble_eq_true rfl) (Nat.le_of_ble_eq_true rfl) dX1_findImages_93
theorem c_X1_findImages {h : zq_H} {t : Nat} {out : zq_H} (hF : f_X1_findImages h t = some out) : zq_M none yX1_findImages (Cond.code yX1_findImages cX1_findImages 4 none :: zq_all) rm_X1_findImages [.ref t] h none out := zq_met2 (own := RX1) (by decide +kernel) rfl (Nat.le_of_ble_eq_true rfl) rfl rfl (fun X C T hn hE => v_X1_findImages C T hn hF hE)
theorem yv_X1_findImages : zq_calV yX1_findImages RX1 cX1_findImages 4 none 0 := ⟨by decide +kernel, wd_72, wd_86, wd_87, wd_27⟩
def f_X1_init (h : zq_H) (t : Nat) (x1 : Int32) : Option zq_H := (Option.bind (zq_pi h t 1 0 x1) fun h_1 => (Option.bind (zq_pi h_1 t 1 1 ((x1 * (x1 - 3)) / 2)) fun h_3 => (Option.bind (zq_gi h_3 t 1 1) fun v_5 => (Option.bind (zq_na h_3 (t + 1) 10 27 v_5) fun h_7 => (Option.bind (zq_pr h_7 t 1 2 (t + 1)) fun h_9 => (Option.bind (zq_gi h_9 t 1 1) fun v_11 => (Option.bind (zq_na h_9 (t + 2) 10 27 v_11) fun h_13 => (Option.bind (zq_pr h_13 t 1 3 (t + 2)) fun h_15 => (Option.bind (zq_na h_15 (t + 3) 10 81 (x1 * x1)) fun h_17 => (Option.bind (zq_pr h_17 t 1 4 (t + 3)) fun h_19 => (Option.bind (zq_na h_19 (t + 4) 10 9 x1) fun h_21 => (Option.bind (zq_pr h_21 t 1 5 (t + 4)) fun h_23 => (Option.bind (zq_gi h_23 t 1 1) fun v_25 => (Option.bind (zq_na h_23 (t + 5) 10 27 v_25) fun h_27 => (Option.bind (zq_pr h_27 t 1 6 (t + 5)) fun h_29 => (Option.bind (zq_gi h_29 t 1 1) fun v_31 => (Option.bind (zq_na h_29 (t + 6) 10 27 v_31) fun h_33 => (Option.bind (zq_pr h_33 t 1 7 (t + 6)) fun h_35 => (Option.bind (zq_gi h_35 t 1 1) fun v_37 => (Option.bind (zq_na h_35 (t + 7) 10 27 v_37) fun h_39 => (Option.bind (zq_pr h_39 t 1 8 (t + 7)) fun h_41 => (zq_ck h_41 t 1 fun _ => (Option.bind (f_X1_nameDiagonals h_41 t) fun v_43 => (zq_ck v_43 t 1 fun _ => (Option.bind (f_X1_findCrossings v_43 t) fun v_46 => (zq_ck v_46 t 1 fun _ => (Option.bind (f_X1_findImages v_46 t) fun v_49 => some (v_49))))))))))))))))))))))))))))
abbrev rm_X1_init : Room := { frames := 3, cells := 7, slots := 225, locals := 66 }
theorem dX1_init_0 : decode cX1_init 0 = .ok (.aload_n 0, 1) := by decide +kernel
theorem dX1_init_1 : decode cX1_init 1 = .ok (.invokespecial 3, 3) := by decide +kernel
theorem dX1_init_4 : decode cX1_init 4 = .ok (.aload_n 0, 1) := by decide +kernel
theorem dX1_init_5 : decode cX1_init 5 = .ok (.iload_n 1, 1) := by decide +kernel
theorem dX1_init_6 : decode cX1_init 6 = .ok (.putfield 9, 3) := by decide +kernel
theorem dX1_init_9 : decode cX1_init 9 = .ok (.aload_n 0, 1) := by decide +kernel
theorem dX1_init_10 : decode cX1_init 10 = .ok (.iload_n 1, 1) := by decide +kernel
theorem dX1_init_11 : decode cX1_init 11 = .ok (.iload_n 1, 1) := by decide +kernel
theorem dX1_init_12 : decode cX1_init 12 = .ok (.iconst 3, 1) := by decide +kernel
theorem dX1_init_13 : decode cX1_init 13 = .ok (.isub, 1) := by decide +kernel
theorem dX1_init_14 : decode cX1_init 14 = .ok (.imul, 1) := by decide +kernel
theorem dX1_init_15 : decode cX1_init 15 = .ok (.iconst 2, 1) := by decide +kernel
theorem dX1_init_16 : decode cX1_init 16 = .ok (.idiv, 1) := by decide +kernel
theorem dX1_init_17 : decode cX1_init 17 = .ok (.putfield 15, 3) := by decide +kernel
theorem dX1_init_20 : decode cX1_init 20 = .ok (.aload_n 0, 1) := by decide +kernel
theorem dX1_init_21 : decode cX1_init 21 = .ok (.aload_n 0, 1) := by decide +kernel
theorem dX1_init_22 : decode cX1_init 22 = .ok (.getfield 15, 3) := by decide +kernel
theorem dX1_init_25 : decode cX1_init 25 = .ok (.newarray .int, 2) := by decide +kernel
theorem dX1_init_27 : decode cX1_init 27 = .ok (.putfield 18, 3) := by decide +kernel
theorem dX1_init_30 : decode cX1_init 30 = .ok (.aload_n 0, 1) := by decide +kernel
theorem dX1_init_31 : decode cX1_init 31 = .ok (.aload_n 0, 1) := by decide +kernel
theorem dX1_init_32 : decode cX1_init 32 = .ok (.getfield 15, 3) := by decide +kernel
theorem dX1_init_35 : decode cX1_init 35 = .ok (.newarray .int, 2) := by decide +kernel
theorem dX1_init_37 : decode cX1_init 37 = .ok (.putfield 22, 3) := by decide +kernel
theorem dX1_init_40 : decode cX1_init 40 = .ok (.aload_n 0, 1) := by decide +kernel
theorem dX1_init_41 : decode cX1_init 41 = .ok (.iload_n 1, 1) := by decide +kernel
theorem dX1_init_42 : decode cX1_init 42 = .ok (.iload_n 1, 1) := by decide +kernel
theorem dX1_init_43 : decode cX1_init 43 = .ok (.imul, 1) := by decide +kernel
theorem dX1_init_44 : decode cX1_init 44 = .ok (.newarray .int, 2) := by decide +kernel
theorem dX1_init_46 : decode cX1_init 46 = .ok (.putfield 25, 3) := by decide +kernel
theorem dX1_init_49 : decode cX1_init 49 = .ok (.aload_n 0, 1) := by decide +kernel
theorem dX1_init_50 : decode cX1_init 50 = .ok (.iload_n 1, 1) := by decide +kernel
theorem dX1_init_51 : decode cX1_init 51 = .ok (.newarray .int, 2) := by decide +kernel
theorem dX1_init_53 : decode cX1_init 53 = .ok (.putfield 28, 3) := by decide +kernel
theorem dX1_init_56 : decode cX1_init 56 = .ok (.aload_n 0, 1) := by decide +kernel
theorem dX1_init_57 : decode cX1_init 57 = .ok (.aload_n 0, 1) := by decide +kernel
theorem dX1_init_58 : decode cX1_init 58 = .ok (.getfield 15, 3) := by decide +kernel
theorem dX1_init_61 : decode cX1_init 61 = .ok (.newarray .int, 2) := by decide +kernel
theorem dX1_init_63 : decode cX1_init 63 = .ok (.putfield 31, 3) := by decide +kernel
theorem dX1_init_66 : decode cX1_init 66 = .ok (.aload_n 0, 1) := by decide +kernel
theorem dX1_init_67 : decode cX1_init 67 = .ok (.aload_n 0, 1) := by decide +kernel
theorem dX1_init_68 : decode cX1_init 68 = .ok (.getfield 15, 3) := by decide +kernel
theorem dX1_init_71 : decode cX1_init 71 = .ok (.newarray .int, 2) := by decide +kernel
theorem dX1_init_73 : decode cX1_init 73 = .ok (.putfield 34, 3) := by decide +kernel
theorem dX1_init_76 : decode cX1_init 76 = .ok (.aload_n 0, 1) := by decide +kernel
theorem dX1_init_77 : decode cX1_init 77 = .ok (.aload_n 0, 1) := by decide +kernel
theorem dX1_init_78 : decode cX1_init 78 = .ok (.getfield 15, 3) := by decide +kernel
theorem dX1_init_81 : decode cX1_init 81 = .ok (.newarray .int, 2) := by decide +kernel
theorem dX1_init_83 : decode cX1_init 83 = .ok (.putfield 37, 3) := by decide +kernel
theorem dX1_init_86 : decode cX1_init 86 = .ok (.aload_n 0, 1) := by decide +kernel
theorem dX1_init_87 : decode cX1_init 87 = .ok (.invokevirtual 40, 3) := by decide +kernel
theorem dX1_init_90 : decode cX1_init 90 = .ok (.aload_n 0, 1) := by decide +kernel
theorem dX1_init_91 : decode cX1_init 91 = .ok (.invokevirtual 43, 3) := by decide +kernel
theorem dX1_init_94 : decode cX1_init 94 = .ok (.aload_n 0, 1) := by decide +kernel
theorem dX1_init_95 : decode cX1_init 95 = .ok (.invokevirtual 46, 3) := by decide +kernel
theorem dX1_init_98 : decode cX1_init 98 = .ok (.return_, 1) := by decide +kernel
set_option maxRecDepth 100000 in
set_option maxHeartbeats 4000000 in
theorem v_X1_init {X : zq_X} (C : zq_C X RX1 cX1_init 2 zq_all rm_X1_init) {h : zq_H} {t : Nat} {x1 : Int32} (T : zq_T X (some (t + 1))) (hn : X.2.2.2.2.2.2.2.2.1.name = yX1_init.name) {out : zq_H} (hF : f_X1_init h t x1 = some out) (hE : zq_End X cX1_init 7 225 none out) : zq_W X 0 0 h 0 [(0, .ref t), (1, .int x1)] [] := by
  unfold f_X1_init at hF
  refine zq_aload_n (pc' := 1) C dX1_init_0 rfl rfl rfl ?_
  refine zq_objInit (pc' := 4) C wd_78 wd_3 wd_4 dX1_init_1 rfl (by decide) (Nat.le_of_ble_eq_true rfl) (Nat.le_of_ble_eq_true rfl) ?_
  refine zq_aload_n (pc' := 5) C dX1_init_4 rfl rfl rfl ?_
  refine zq_iload_n (pc' := 6) C dX1_init_5 rfl rfl rfl ?_
  replace hF := zq_bd hF; obtain ⟨h_1, e_2, hF⟩ := hF
  refine zq_putI (j := 0) (pc' := 9) C zq_K1 zq_in1w (Or.inl wd_21) (by decide) rfl rfl dX1_init_6 rfl (Or.inr ⟨hn, rfl, rfl, wd_21⟩) e_2 ?_
  refine zq_aload_n (pc' := 10) C dX1_init_9 rfl rfl rfl ?_
  refine zq_iload_n (pc' := 11) C dX1_init_10 rfl rfl rfl ?_
  refine zq_iload_n (pc' := 12) C dX1_init_11 rfl rfl rfl ?_
  refine zq_iconst (pc' := 13) C 3 dX1_init_12 rfl (by decide) ?_
  refine zq_isub (pc' := 14) C dX1_init_13 rfl ?_
  refine zq_imul (pc' := 15) C dX1_init_14 rfl ?_
  refine zq_iconst (pc' := 16) C 2 dX1_init_15 rfl (by decide) ?_
  refine zq_idiv (pc' := 17) C dX1_init_16 rfl (by decide) ?_
  replace hF := zq_bd hF; obtain ⟨h_3, e_4, hF⟩ := hF
  refine zq_putI (j := 1) (pc' := 20) C zq_K1 zq_in1w (Or.inl wd_40) (by decide) rfl rfl dX1_init_17 rfl (Or.inr ⟨hn, rfl, rfl, wd_40⟩) e_4 ?_
  refine zq_aload_n (pc' := 21) C dX1_init_20 rfl rfl rfl ?_
  refine zq_aload_n (pc' := 22) C dX1_init_21 rfl rfl rfl ?_
  replace hF := zq_bd hF; obtain ⟨v_5, e_6, hF⟩ := hF
  refine zq_getI (j := 1) (pc' := 25) C zq_K1 zq_in1w (Or.inl wd_40) (by decide) rfl dX1_init_22 rfl e_6 ?_
  replace hF := zq_bd hF; obtain ⟨h_7, e_8, hF⟩ := hF
  refine zq_newI (n := t + 1) (pc' := 27) C wd_10 T rfl dX1_init_25 rfl e_8 (by decide) ⟨Nat.le_of_ble_eq_true rfl, Nat.le_of_ble_eq_true rfl⟩ ?_
  refine zq_widen 1 27 (Nat.le_of_ble_eq_true rfl) (Nat.le_of_ble_eq_true rfl) ?_
  replace hF := zq_bd hF; obtain ⟨h_9, e_10, hF⟩ := hF
  refine zq_putR (j := 2) (pc' := 30) C zq_K1 zq_in1w (Or.inl wd_65) (by decide) rfl (Or.inr ⟨_, rfl⟩) dX1_init_27 rfl (Or.inr ⟨hn, rfl, rfl, wd_65⟩) e_10 ?_
  refine zq_aload_n (pc' := 31) C dX1_init_30 rfl rfl rfl ?_
  refine zq_aload_n (pc' := 32) C dX1_init_31 rfl rfl rfl ?_
  replace hF := zq_bd hF; obtain ⟨v_11, e_12, hF⟩ := hF
  refine zq_getI (j := 1) (pc' := 35) C zq_K1 zq_in1w (Or.inl wd_40) (by decide) rfl dX1_init_32 rfl e_12 ?_
  replace hF := zq_bd hF; obtain ⟨h_13, e_14, hF⟩ := hF
  refine zq_newI (n := t + 2) (pc' := 37) C wd_10 T rfl dX1_init_35 rfl e_14 (by decide) ⟨Nat.le_of_ble_eq_true rfl, Nat.le_of_ble_eq_true rfl⟩ ?_
  refine zq_widen 2 54 (Nat.le_of_ble_eq_true rfl) (Nat.le_of_ble_eq_true rfl) ?_
  replace hF := zq_bd hF; obtain ⟨h_15, e_16, hF⟩ := hF
  refine zq_putR (j := 3) (pc' := 40) C zq_K1 zq_in1w (Or.inl wd_66) (by decide) rfl (Or.inr ⟨_, rfl⟩) dX1_init_37 rfl (Or.inr ⟨hn, rfl, rfl, wd_66⟩) e_16 ?_
  refine zq_aload_n (pc' := 41) C dX1_init_40 rfl rfl rfl ?_
  refine zq_iload_n (pc' := 42) C dX1_init_41 rfl rfl rfl ?_
  refine zq_iload_n (pc' := 43) C dX1_init_42 rfl rfl rfl ?_
  refine zq_imul (pc' := 44) C dX1_init_43 rfl ?_
  replace hF := zq_bd hF; obtain ⟨h_17, e_18, hF⟩ := hF
  refine zq_newI (n := t + 3) (pc' := 46) C wd_10 T rfl dX1_init_44 rfl e_18 (by decide) ⟨Nat.le_of_ble_eq_true rfl, Nat.le_of_ble_eq_true rfl⟩ ?_
  refine zq_widen 3 135 (Nat.le_of_ble_eq_true rfl) (Nat.le_of_ble_eq_true rfl) ?_
  replace hF := zq_bd hF; obtain ⟨h_19, e_20, hF⟩ := hF
  refine zq_putR (j := 4) (pc' := 49) C zq_K1 zq_in1w (Or.inl wd_64) (by decide) rfl (Or.inr ⟨_, rfl⟩) dX1_init_46 rfl (Or.inr ⟨hn, rfl, rfl, wd_64⟩) e_20 ?_
  refine zq_aload_n (pc' := 50) C dX1_init_49 rfl rfl rfl ?_
  refine zq_iload_n (pc' := 51) C dX1_init_50 rfl rfl rfl ?_
  replace hF := zq_bd hF; obtain ⟨h_21, e_22, hF⟩ := hF
  refine zq_newI (n := t + 4) (pc' := 53) C wd_10 T rfl dX1_init_51 rfl e_22 (by decide) ⟨Nat.le_of_ble_eq_true rfl, Nat.le_of_ble_eq_true rfl⟩ ?_
  refine zq_widen 4 144 (Nat.le_of_ble_eq_true rfl) (Nat.le_of_ble_eq_true rfl) ?_
  replace hF := zq_bd hF; obtain ⟨h_23, e_24, hF⟩ := hF
  refine zq_putR (j := 5) (pc' := 56) C zq_K1 zq_in1w (Or.inl wd_23) (by decide) rfl (Or.inr ⟨_, rfl⟩) dX1_init_53 rfl (Or.inr ⟨hn, rfl, rfl, wd_23⟩) e_24 ?_
  refine zq_aload_n (pc' := 57) C dX1_init_56 rfl rfl rfl ?_
  refine zq_aload_n (pc' := 58) C dX1_init_57 rfl rfl rfl ?_
  replace hF := zq_bd hF; obtain ⟨v_25, e_26, hF⟩ := hF
  refine zq_getI (j := 1) (pc' := 61) C zq_K1 zq_in1w (Or.inl wd_40) (by decide) rfl dX1_init_58 rfl e_26 ?_
  replace hF := zq_bd hF; obtain ⟨h_27, e_28, hF⟩ := hF
  refine zq_newI (n := t + 5) (pc' := 63) C wd_10 T rfl dX1_init_61 rfl e_28 (by decide) ⟨Nat.le_of_ble_eq_true rfl, Nat.le_of_ble_eq_true rfl⟩ ?_
  refine zq_widen 5 171 (Nat.le_of_ble_eq_true rfl) (Nat.le_of_ble_eq_true rfl) ?_
  replace hF := zq_bd hF; obtain ⟨h_29, e_30, hF⟩ := hF
  refine zq_putR (j := 6) (pc' := 66) C zq_K1 zq_in1w (Or.inl wd_41) (by decide) rfl (Or.inr ⟨_, rfl⟩) dX1_init_63 rfl (Or.inr ⟨hn, rfl, rfl, wd_41⟩) e_30 ?_
  refine zq_aload_n (pc' := 67) C dX1_init_66 rfl rfl rfl ?_
  refine zq_aload_n (pc' := 68) C dX1_init_67 rfl rfl rfl ?_
  replace hF := zq_bd hF; obtain ⟨v_31, e_32, hF⟩ := hF
  refine zq_getI (j := 1) (pc' := 71) C zq_K1 zq_in1w (Or.inl wd_40) (by decide) rfl dX1_init_68 rfl e_32 ?_
  replace hF := zq_bd hF; obtain ⟨h_33, e_34, hF⟩ := hF
  refine zq_newI (n := t + 6) (pc' := 73) C wd_10 T rfl dX1_init_71 rfl e_34 (by decide) ⟨Nat.le_of_ble_eq_true rfl, Nat.le_of_ble_eq_true rfl⟩ ?_
  refine zq_widen 6 198 (Nat.le_of_ble_eq_true rfl) (Nat.le_of_ble_eq_true rfl) ?_
  replace hF := zq_bd hF; obtain ⟨h_35, e_36, hF⟩ := hF
  refine zq_putR (j := 7) (pc' := 76) C zq_K1 zq_in1w (Or.inl wd_73) (by decide) rfl (Or.inr ⟨_, rfl⟩) dX1_init_73 rfl (Or.inr ⟨hn, rfl, rfl, wd_73⟩) e_36 ?_
  refine zq_aload_n (pc' := 77) C dX1_init_76 rfl rfl rfl ?_
  refine zq_aload_n (pc' := 78) C dX1_init_77 rfl rfl rfl ?_
  replace hF := zq_bd hF; obtain ⟨v_37, e_38, hF⟩ := hF
  refine zq_getI (j := 1) (pc' := 81) C zq_K1 zq_in1w (Or.inl wd_40) (by decide) rfl dX1_init_78 rfl e_38 ?_
  replace hF := zq_bd hF; obtain ⟨h_39, e_40, hF⟩ := hF
  refine zq_newI (n := t + 7) (pc' := 83) C wd_10 T rfl dX1_init_81 rfl e_40 (by decide) ⟨Nat.le_of_ble_eq_true rfl, Nat.le_of_ble_eq_true rfl⟩ ?_
  refine zq_widen 7 225 (Nat.le_of_ble_eq_true rfl) (Nat.le_of_ble_eq_true rfl) ?_
  replace hF := zq_bd hF; obtain ⟨h_41, e_42, hF⟩ := hF
  refine zq_putR (j := 8) (pc' := 86) C zq_K1 zq_in1w (Or.inl wd_74) (by decide) rfl (Or.inr ⟨_, rfl⟩) dX1_init_83 rfl (Or.inr ⟨hn, rfl, rfl, wd_74⟩) e_42 ?_
  refine zq_aload_n (pc' := 87) C dX1_init_86 rfl rfl rfl ?_
  replace hF := zq_ck_e hF; obtain ⟨e_45, hF⟩ := hF
  replace hF := zq_bd hF; obtain ⟨v_43, e_44, hF⟩ := hF
  refine zq_cV (pc' := 90) C (c_X1_nameDiagonals e_44) yv_X1_nameDiagonals wd_79 zq_K1 e_45 dX1_init_87 rfl rfl rfl ⟨Nat.le_of_ble_eq_true rfl, Nat.le_of_ble_eq_true rfl⟩ (Nat.le_of_ble_eq_true rfl) ⟨rfl, rfl⟩ ⟨Nat.le_of_ble_eq_true rfl, Nat.le_of_ble_eq_true rfl⟩ rfl ?_
  refine zq_aload_n (pc' := 91) C dX1_init_90 rfl rfl rfl ?_
  replace hF := zq_ck_e hF; obtain ⟨e_48, hF⟩ := hF
  replace hF := zq_bd hF; obtain ⟨v_46, e_47, hF⟩ := hF
  refine zq_cV (pc' := 94) C (c_X1_findCrossings e_47) yv_X1_findCrossings wd_82 zq_K1 e_48 dX1_init_91 rfl rfl rfl ⟨Nat.le_of_ble_eq_true rfl, Nat.le_of_ble_eq_true rfl⟩ (Nat.le_of_ble_eq_true rfl) ⟨rfl, rfl⟩ ⟨Nat.le_of_ble_eq_true rfl, Nat.le_of_ble_eq_true rfl⟩ rfl ?_
  refine zq_aload_n (pc' := 95) C dX1_init_94 rfl rfl rfl ?_
  replace hF := zq_ck_e hF; obtain ⟨e_51, hF⟩ := hF
  replace hF := zq_bd hF; obtain ⟨v_49, e_50, hF⟩ := hF
  refine zq_cV (pc' := 98) C (c_X1_findImages e_50) yv_X1_findImages wd_85 zq_K1 e_51 dX1_init_95 rfl rfl rfl ⟨Nat.le_of_ble_eq_true rfl, Nat.le_of_ble_eq_true rfl⟩ (Nat.le_of_ble_eq_true rfl) ⟨rfl, rfl⟩ ⟨Nat.le_of_ble_eq_true rfl, Nat.le_of_ble_eq_true rfl⟩ rfl ?_
  have hF := Option.some.inj hF
  subst hF
  exact hE _ _ _ _ (Nat.le_of_ble_eq_true rfl) (Nat.le_of_ble_eq_true rfl) dX1_init_98
theorem c_X1_init {h : zq_H} {t : Nat} {x1 : Int32} {out : zq_H} (hF : f_X1_init h t x1 = some out) : zq_M (some (t + 1)) yX1_init (Cond.code yX1_init cX1_init 2 none :: zq_all) rm_X1_init [.ref t, .int x1] h none out := zq_met2 (own := RX1) (by decide +kernel) rfl (Nat.le_of_ble_eq_true rfl) rfl rfl (fun X C T hn hE => v_X1_init C T hn hF hE)
theorem yi_X1_init : zq_Y yX1_init 1 := by decide +kernel
def f_X1_degreeIn (h : zq_H) (t : Nat) (x1 : Int32) (x2 : Int32) : Option Int32 := (zq_ck h t 1 fun _ => (Option.bind (f_X1_fanOf h t x2) fun v_1 => (Option.bind (f_J6_bitCount_0f7a4 h (x1 &&& v_1)) fun v_4 => some (v_4))))
abbrev rm_X1_degreeIn : Room := { frames := 2, cells := 0, slots := 0, locals := 42 }
theorem dX1_degreeIn_0 : decode cX1_degreeIn 0 = .ok (.iload_n 1, 1) := by decide +kernel
theorem dX1_degreeIn_1 : decode cX1_degreeIn 1 = .ok (.aload_n 0, 1) := by decide +kernel
theorem dX1_degreeIn_2 : decode cX1_degreeIn 2 = .ok (.iload_n 2, 1) := by decide +kernel
theorem dX1_degreeIn_3 : decode cX1_degreeIn 3 = .ok (.invokevirtual 63, 3) := by decide +kernel
theorem dX1_degreeIn_6 : decode cX1_degreeIn 6 = .ok (.iand, 1) := by decide +kernel
theorem dX1_degreeIn_7 : decode cX1_degreeIn 7 = .ok (.invokestatic 67, 3) := by decide +kernel
theorem dX1_degreeIn_10 : decode cX1_degreeIn 10 = .ok (.ireturn, 1) := by decide +kernel
set_option maxRecDepth 100000 in
set_option maxHeartbeats 4000000 in
theorem v_X1_degreeIn {X : zq_X} (C : zq_C X RX1 cX1_degreeIn 3 zq_all rm_X1_degreeIn) {h : zq_H} {t : Nat} {x1 : Int32} {x2 : Int32} (T : zq_T X none) (hn : X.2.2.2.2.2.2.2.2.1.name = yX1_degreeIn.name) {out : Int32} (hF : f_X1_degreeIn h t x1 x2 = some out) (hE : zq_End X cX1_degreeIn 0 0 (some (.int out)) h) : zq_W X 0 0 h 0 [(0, .ref t), (1, .int x1), (2, .int x2)] [] := by
  unfold f_X1_degreeIn at hF
  refine zq_iload_n (pc' := 1) C dX1_degreeIn_0 rfl rfl rfl ?_
  refine zq_aload_n (pc' := 2) C dX1_degreeIn_1 rfl rfl rfl ?_
  refine zq_iload_n (pc' := 3) C dX1_degreeIn_2 rfl rfl rfl ?_
  replace hF := zq_ck_e hF; obtain ⟨e_3, hF⟩ := hF
  replace hF := zq_bd hF; obtain ⟨v_1, e_2, hF⟩ := hF
  refine zq_cV (pc' := 6) C (c_X1_fanOf e_2) yv_X1_fanOf wd_90 zq_K1 e_3 dX1_degreeIn_3 rfl rfl rfl ⟨Nat.le_of_ble_eq_true rfl, Nat.le_of_ble_eq_true rfl⟩ (Nat.le_of_ble_eq_true rfl) ⟨rfl, rfl⟩ ⟨Nat.le_of_ble_eq_true rfl, Nat.le_of_ble_eq_true rfl⟩ rfl ?_
  refine zq_iand (pc' := 7) C dX1_degreeIn_6 rfl ?_
  replace hF := zq_bd hF; obtain ⟨v_4, e_5, hF⟩ := hF
  refine zq_cS (pc' := 10) C (c_J6_bitCount_0f7a4 e_5) ys_J6_bitCount_0f7a4 wd_91 dX1_degreeIn_7 rfl rfl rfl ⟨Nat.le_of_ble_eq_true rfl, Nat.le_of_ble_eq_true rfl⟩ (Nat.le_of_ble_eq_true rfl) ⟨rfl, rfl⟩ ⟨Nat.le_of_ble_eq_true rfl, Nat.le_of_ble_eq_true rfl⟩ rfl ?_
  have hF := Option.some.inj hF
  subst hF
  exact hE _ _ _ _ (Nat.le_of_ble_eq_true rfl) (Nat.le_of_ble_eq_true rfl) dX1_degreeIn_10
theorem c_X1_degreeIn {h : zq_H} {t : Nat} {x1 : Int32} {x2 : Int32} {out : Int32} (hF : f_X1_degreeIn h t x1 x2 = some out) : zq_M none yX1_degreeIn (Cond.code yX1_degreeIn cX1_degreeIn 3 (some .int) :: zq_all) rm_X1_degreeIn [.ref t, .int x1, .int x2] h (some (.int out)) h := zq_met2 (own := RX1) (by decide +kernel) rfl (Nat.le_of_ble_eq_true rfl) rfl ⟨.int, rfl, rfl⟩ (fun X C T hn hE => v_X1_degreeIn C T hn hF hE)
theorem yv_X1_degreeIn : zq_calV yX1_degreeIn RX1 cX1_degreeIn 3 (some .int) 2 := ⟨by decide +kernel, wd_89, wd_115, wd_116, wd_27⟩
def f_X1_moved (h : zq_H) (x0 : Int32) (r1 : Nat) : Option Int32 := ((zq_lp (σ := Int32 × Int32) (ρ := Int32) (fun s_1 => (Option.bind (zq_an h r1) fun v_9 => (if v_9 ≤ s_1.2 then some (.inr s_1.1) else (Option.bind (f_X5_isIn h x0 s_1.2) fun v_12 => (if v_12 = false then (zq_let (s_1.2 + 1) fun v_15 => some (.inl (s_1.1, v_15))) else (Option.bind (zq_ai h r1 s_1.2) fun v_17 => (zq_let (s_1.1 ||| ((1 : Int32) <<< (v_17 &&& 31))) fun v_19 => (zq_let (s_1.2 + 1) fun v_21 => some (.inl (v_19, v_21)))))))))) zq_N (0, 0)).bind (fun y_4 : Int32 => some (y_4)))
abbrev rm_X1_moved : Room := { frames := 1, cells := 0, slots := 0, locals := 21 }
theorem dX1_moved_0 : decode cX1_moved 0 = .ok (.iconst 0, 1) := by decide +kernel
theorem dX1_moved_1 : decode cX1_moved 1 = .ok (.istore_n 2, 1) := by decide +kernel
theorem dX1_moved_2 : decode cX1_moved 2 = .ok (.iconst 0, 1) := by decide +kernel
theorem dX1_moved_3 : decode cX1_moved 3 = .ok (.istore_n 3, 1) := by decide +kernel
theorem dX1_moved_4 : decode cX1_moved 4 = .ok (.iload_n 3, 1) := by decide +kernel
theorem dX1_moved_5 : decode cX1_moved 5 = .ok (.aload_n 1, 1) := by decide +kernel
theorem dX1_moved_6 : decode cX1_moved 6 = .ok (.arraylength, 1) := by decide +kernel
theorem dX1_moved_7 : decode cX1_moved 7 = .ok (.if_icmp .ge 25, 3) := by decide +kernel
theorem dX1_moved_10 : decode cX1_moved 10 = .ok (.iload_n 0, 1) := by decide +kernel
theorem dX1_moved_11 : decode cX1_moved 11 = .ok (.iload_n 3, 1) := by decide +kernel
theorem dX1_moved_12 : decode cX1_moved 12 = .ok (.invokestatic 79, 3) := by decide +kernel
theorem dX1_moved_15 : decode cX1_moved 15 = .ok (.ifCond .eq 11, 3) := by decide +kernel
theorem dX1_moved_18 : decode cX1_moved 18 = .ok (.iload_n 2, 1) := by decide +kernel
theorem dX1_moved_19 : decode cX1_moved 19 = .ok (.iconst 1, 1) := by decide +kernel
theorem dX1_moved_20 : decode cX1_moved 20 = .ok (.aload_n 1, 1) := by decide +kernel
theorem dX1_moved_21 : decode cX1_moved 21 = .ok (.iload_n 3, 1) := by decide +kernel
theorem dX1_moved_22 : decode cX1_moved 22 = .ok (.iaload, 1) := by decide +kernel
theorem dX1_moved_23 : decode cX1_moved 23 = .ok (.ishl, 1) := by decide +kernel
theorem dX1_moved_24 : decode cX1_moved 24 = .ok (.ior, 1) := by decide +kernel
theorem dX1_moved_25 : decode cX1_moved 25 = .ok (.istore_n 2, 1) := by decide +kernel
theorem dX1_moved_26 : decode cX1_moved 26 = .ok (.iinc 3 1, 3) := by decide +kernel
theorem dX1_moved_29 : decode cX1_moved 29 = .ok (.goto (-25), 3) := by decide +kernel
theorem dX1_moved_32 : decode cX1_moved 32 = .ok (.iload_n 2, 1) := by decide +kernel
theorem dX1_moved_33 : decode cX1_moved 33 = .ok (.ireturn, 1) := by decide +kernel
set_option maxRecDepth 100000 in
set_option maxHeartbeats 4000000 in
theorem v_X1_moved {X : zq_X} (C : zq_C X RX1 cX1_moved 4 zq_all rm_X1_moved) {h : zq_H} {x0 : Int32} {r1 : Nat} (T : zq_T X none) (hn : X.2.2.2.2.2.2.2.2.1.name = yX1_moved.name) {out : Int32} (hF : f_X1_moved h x0 r1 = some out) (hE : zq_End X cX1_moved 0 0 (some (.int out)) h) : zq_W X 0 0 h 0 [(0, .int x0), (1, .ref r1)] [] := by
  unfold f_X1_moved at hF
  refine zq_iconst (pc' := 1) C 0 dX1_moved_0 rfl (by decide) ?_
  refine zq_istore_n (lv' := [(2, .int 0), (0, .int x0), (1, .ref r1)]) (pc' := 2) C dX1_moved_1 rfl rfl (by decide) rfl rfl ?_
  refine zq_iconst (pc' := 3) C 0 dX1_moved_2 rfl (by decide) ?_
  refine zq_istore_n (lv' := [(3, .int 0), (2, .int 0), (0, .int x0), (1, .ref r1)]) (pc' := 4) C dX1_moved_3 rfl rfl (by decide) rfl rfl ?_
  refine zq_sub [2, 3, 1, 0] rfl ?_
  replace hF := zq_bd hF; obtain ⟨r_2, e_3, hF⟩ := hF
  refine zq_lpW (fun s_1 => zq_W X 0 0 h 4 [(0, .int x0), (1, .ref r1), (2, .int s_1.1), (3, .int s_1.2)] []) (fun y_4 => zq_W X 0 0 h 32 [(2, .int y_4)] []) e_3 (fun s_1 q_8 hF hrec_6 hex_7 => ?_) ?_
  · skip
    refine zq_iload_n (pc' := 5) C dX1_moved_4 rfl rfl rfl ?_
    refine zq_aload_n (pc' := 6) C dX1_moved_5 rfl rfl rfl ?_
    replace hF := zq_bd hF; obtain ⟨v_9, e_10, hF⟩ := hF
    refine zq_alen (pc' := 7) C dX1_moved_6 rfl e_10 ?_
    refine zq_icmp_ge (pc' := 10) C 32 dX1_moved_7 (by decide) rfl (fun c_11 => ?_) (fun c_11 => ?_)
    · have hF := (zq_ifp hF c_11)
      skip
      cases hF
      exact zq_sub [2] rfl (hex_7 _ rfl)
    · have hF := (zq_ifn hF c_11)
      refine zq_iload_n (pc' := 11) C dX1_moved_10 rfl rfl rfl ?_
      refine zq_iload_n (pc' := 12) C dX1_moved_11 rfl rfl rfl ?_
      replace hF := zq_bd hF; obtain ⟨v_12, e_13, hF⟩ := hF
      refine zq_cSN (host := "FlipPolygons") (pc' := 15) C (c_X5_isIn e_13) ys_X5_isIn (by decide +kernel) dX1_moved_12 rfl rfl rfl ⟨Nat.le_of_ble_eq_true rfl, Nat.le_of_ble_eq_true rfl⟩ (Nat.le_of_ble_eq_true rfl) ⟨rfl, rfl⟩ ⟨Nat.le_of_ble_eq_true rfl, Nat.le_of_ble_eq_true rfl⟩ rfl ?_
      refine zq_if_eq (pc' := 18) C 26 dX1_moved_15 (by decide) rfl (fun c_14 => ?_) (fun c_14 => ?_)
      · have hF := (zq_ifp hF (zq_b0.mp c_14))
        skip
        replace hF := zq_let_e hF; obtain ⟨v_15, e_16, hF⟩ := hF
        refine zq_iinc (lv' := [(3, .int v_15), (0, .int x0), (1, .ref r1), (2, .int s_1.1)]) (pc' := 29) C dX1_moved_26 rfl (by decide) 3 rfl e_16 rfl ?_
        refine zq_goto C 4 dX1_moved_29 (by decide) ?_
        cases hF
        exact zq_sub [1, 2, 3, 0] rfl (hrec_6 _ rfl)
      · have hF := (zq_ifn hF (fun q => c_14 (zq_b0.mpr q)))
        refine zq_iload_n (pc' := 19) C dX1_moved_18 rfl rfl rfl ?_
        refine zq_iconst (pc' := 20) C 1 dX1_moved_19 rfl (by decide) ?_
        refine zq_aload_n (pc' := 21) C dX1_moved_20 rfl rfl rfl ?_
        refine zq_iload_n (pc' := 22) C dX1_moved_21 rfl rfl rfl ?_
        replace hF := zq_bd hF; obtain ⟨v_17, e_18, hF⟩ := hF
        refine zq_iaload (pc' := 23) C dX1_moved_22 rfl e_18 ?_
        refine zq_ishl (pc' := 24) C dX1_moved_23 rfl ?_
        refine zq_ior (pc' := 25) C dX1_moved_24 rfl ?_
        replace hF := zq_let_e hF; obtain ⟨v_19, e_20, hF⟩ := hF
        refine zq_istore_n (lv' := [(2, .int v_19), (0, .int x0), (1, .ref r1), (3, .int s_1.2)]) (pc' := 26) C dX1_moved_25 rfl rfl (by decide) e_20 rfl ?_
        replace hF := zq_let_e hF; obtain ⟨v_21, e_22, hF⟩ := hF
        refine zq_iinc (lv' := [(3, .int v_21), (2, .int v_19), (0, .int x0), (1, .ref r1)]) (pc' := 29) C dX1_moved_26 rfl (by decide) 3 rfl e_22 rfl ?_
        refine zq_goto C 4 dX1_moved_29 (by decide) ?_
        cases hF
        exact zq_sub [2, 3, 1, 0] rfl (hrec_6 _ rfl)
  · skip
    obtain ⟨y_4, rfl⟩ : ∃ z9, z9 = r_2 := ⟨_, rfl⟩
    show zq_W X 0 0 h 32 [(2, .int y_4)] []
    refine zq_iload_n (pc' := 33) C dX1_moved_32 rfl rfl rfl ?_
    have hF := Option.some.inj hF
    subst hF
    exact hE _ _ _ _ (Nat.le_of_ble_eq_true rfl) (Nat.le_of_ble_eq_true rfl) dX1_moved_33
theorem c_X1_moved {h : zq_H} {x0 : Int32} {r1 : Nat} {out : Int32} (hF : f_X1_moved h x0 r1 = some out) : zq_M none yX1_moved (Cond.code yX1_moved cX1_moved 4 (some .int) :: zq_all) rm_X1_moved [.int x0, .ref r1] h (some (.int out)) h := zq_met2 (own := RX1) (by decide +kernel) rfl (Nat.le_of_ble_eq_true rfl) rfl ⟨.int, rfl, rfl⟩ (fun X C T hn hE => v_X1_moved C T hn hF hE)
theorem ys_X1_moved : zq_calS yX1_moved cX1_moved 4 (some .int) 2 := ⟨by decide +kernel, wd_93, wd_98, wd_27⟩
def f_X1_turnedBy (h : zq_H) (t : Nat) (x1 : Int32) (x2 : Int32) : Option Int32 := ((zq_lp (σ := Int32 × Int32) (ρ := Int32) (fun s_1 => (if x2 ≤ s_1.2 then some (.inr s_1.1) else (Option.bind (zq_gr h t 1 7) fun v_10 => (Option.bind (f_X1_moved h s_1.1 v_10) fun v_12 => (zq_let (s_1.2 + 1) fun v_14 => some (.inl (v_12, v_14))))))) zq_N (x1, 0)).bind (fun y_4 : Int32 => some (y_4)))
abbrev rm_X1_turnedBy : Room := { frames := 2, cells := 0, slots := 0, locals := 44 }
theorem dX1_turnedBy_0 : decode cX1_turnedBy 0 = .ok (.iload_n 1, 1) := by decide +kernel
theorem dX1_turnedBy_1 : decode cX1_turnedBy 1 = .ok (.istore_n 3, 1) := by decide +kernel
theorem dX1_turnedBy_2 : decode cX1_turnedBy 2 = .ok (.iconst 0, 1) := by decide +kernel
theorem dX1_turnedBy_3 : decode cX1_turnedBy 3 = .ok (.istore 4, 2) := by decide +kernel
theorem dX1_turnedBy_5 : decode cX1_turnedBy 5 = .ok (.iload 4, 2) := by decide +kernel
theorem dX1_turnedBy_7 : decode cX1_turnedBy 7 = .ok (.iload_n 2, 1) := by decide +kernel
theorem dX1_turnedBy_8 : decode cX1_turnedBy 8 = .ok (.if_icmp .ge 18, 3) := by decide +kernel
theorem dX1_turnedBy_11 : decode cX1_turnedBy 11 = .ok (.iload_n 3, 1) := by decide +kernel
theorem dX1_turnedBy_12 : decode cX1_turnedBy 12 = .ok (.aload_n 0, 1) := by decide +kernel
theorem dX1_turnedBy_13 : decode cX1_turnedBy 13 = .ok (.getfield 34, 3) := by decide +kernel
theorem dX1_turnedBy_16 : decode cX1_turnedBy 16 = .ok (.invokestatic 75, 3) := by decide +kernel
theorem dX1_turnedBy_19 : decode cX1_turnedBy 19 = .ok (.istore_n 3, 1) := by decide +kernel
theorem dX1_turnedBy_20 : decode cX1_turnedBy 20 = .ok (.iinc 4 1, 3) := by decide +kernel
theorem dX1_turnedBy_23 : decode cX1_turnedBy 23 = .ok (.goto (-18), 3) := by decide +kernel
theorem dX1_turnedBy_26 : decode cX1_turnedBy 26 = .ok (.iload_n 3, 1) := by decide +kernel
theorem dX1_turnedBy_27 : decode cX1_turnedBy 27 = .ok (.ireturn, 1) := by decide +kernel
set_option maxRecDepth 100000 in
set_option maxHeartbeats 4000000 in
theorem v_X1_turnedBy {X : zq_X} (C : zq_C X RX1 cX1_turnedBy 5 zq_all rm_X1_turnedBy) {h : zq_H} {t : Nat} {x1 : Int32} {x2 : Int32} (T : zq_T X none) (hn : X.2.2.2.2.2.2.2.2.1.name = yX1_turnedBy.name) {out : Int32} (hF : f_X1_turnedBy h t x1 x2 = some out) (hE : zq_End X cX1_turnedBy 0 0 (some (.int out)) h) : zq_W X 0 0 h 0 [(0, .ref t), (1, .int x1), (2, .int x2)] [] := by
  unfold f_X1_turnedBy at hF
  refine zq_iload_n (pc' := 1) C dX1_turnedBy_0 rfl rfl rfl ?_
  refine zq_istore_n (lv' := [(3, .int x1), (0, .ref t), (1, .int x1), (2, .int x2)]) (pc' := 2) C dX1_turnedBy_1 rfl rfl (by decide) rfl rfl ?_
  refine zq_iconst (pc' := 3) C 0 dX1_turnedBy_2 rfl (by decide) ?_
  refine zq_istore (lv' := [(4, .int 0), (3, .int x1), (0, .ref t), (1, .int x1), (2, .int x2)]) (pc' := 5) C dX1_turnedBy_3 rfl (by decide) rfl rfl ?_
  refine zq_sub [2, 4, 1, 0] rfl ?_
  replace hF := zq_bd hF; obtain ⟨r_2, e_3, hF⟩ := hF
  refine zq_lpW (fun s_1 => zq_W X 0 0 h 5 [(0, .ref t), (2, .int x2), (3, .int s_1.1), (4, .int s_1.2)] []) (fun y_4 => zq_W X 0 0 h 26 [(3, .int y_4)] []) e_3 (fun s_1 q_8 hF hrec_6 hex_7 => ?_) ?_
  · skip
    refine zq_iload (pc' := 7) C dX1_turnedBy_5 rfl rfl ?_
    refine zq_iload_n (pc' := 8) C dX1_turnedBy_7 rfl rfl rfl ?_
    refine zq_icmp_ge (pc' := 11) C 26 dX1_turnedBy_8 (by decide) rfl (fun c_9 => ?_) (fun c_9 => ?_)
    · have hF := (zq_ifp hF c_9)
      skip
      cases hF
      exact zq_sub [2] rfl (hex_7 _ rfl)
    · have hF := (zq_ifn hF c_9)
      refine zq_iload_n (pc' := 12) C dX1_turnedBy_11 rfl rfl rfl ?_
      refine zq_aload_n (pc' := 13) C dX1_turnedBy_12 rfl rfl rfl ?_
      replace hF := zq_bd hF; obtain ⟨v_10, e_11, hF⟩ := hF
      refine zq_getR (j := 7) (pc' := 16) C zq_K1 zq_in1w (Or.inl wd_73) (by decide) rfl dX1_turnedBy_13 rfl e_11 ?_
      replace hF := zq_bd hF; obtain ⟨v_12, e_13, hF⟩ := hF
      refine zq_cS (pc' := 19) C (c_X1_moved e_13) ys_X1_moved wd_97 dX1_turnedBy_16 rfl rfl rfl ⟨Nat.le_of_ble_eq_true rfl, Nat.le_of_ble_eq_true rfl⟩ (Nat.le_of_ble_eq_true rfl) ⟨rfl, rfl⟩ ⟨Nat.le_of_ble_eq_true rfl, Nat.le_of_ble_eq_true rfl⟩ rfl ?_
      refine zq_istore_n (lv' := [(3, .int v_12), (0, .ref t), (2, .int x2), (4, .int s_1.2)]) (pc' := 20) C dX1_turnedBy_19 rfl rfl (by decide) rfl rfl ?_
      replace hF := zq_let_e hF; obtain ⟨v_14, e_15, hF⟩ := hF
      refine zq_iinc (lv' := [(4, .int v_14), (3, .int v_12), (0, .ref t), (2, .int x2)]) (pc' := 23) C dX1_turnedBy_20 rfl (by decide) 3 rfl e_15 rfl ?_
      refine zq_goto C 5 dX1_turnedBy_23 (by decide) ?_
      cases hF
      exact zq_sub [2, 3, 1, 0] rfl (hrec_6 _ rfl)
  · skip
    obtain ⟨y_4, rfl⟩ : ∃ z9, z9 = r_2 := ⟨_, rfl⟩
    show zq_W X 0 0 h 26 [(3, .int y_4)] []
    refine zq_iload_n (pc' := 27) C dX1_turnedBy_26 rfl rfl rfl ?_
    have hF := Option.some.inj hF
    subst hF
    exact hE _ _ _ _ (Nat.le_of_ble_eq_true rfl) (Nat.le_of_ble_eq_true rfl) dX1_turnedBy_27
theorem c_X1_turnedBy {h : zq_H} {t : Nat} {x1 : Int32} {x2 : Int32} {out : Int32} (hF : f_X1_turnedBy h t x1 x2 = some out) : zq_M none yX1_turnedBy (Cond.code yX1_turnedBy cX1_turnedBy 5 (some .int) :: zq_all) rm_X1_turnedBy [.ref t, .int x1, .int x2] h (some (.int out)) h := zq_met2 (own := RX1) (by decide +kernel) rfl (Nat.le_of_ble_eq_true rfl) rfl ⟨.int, rfl, rfl⟩ (fun X C T hn hE => v_X1_turnedBy C T hn hF hE)
theorem yv_X1_turnedBy : zq_calV yX1_turnedBy RX1 cX1_turnedBy 5 (some .int) 2 := ⟨by decide +kernel, wd_96, wd_280, wd_281, wd_27⟩
def f_X1_mirrored (h : zq_H) (t : Nat) (x1 : Int32) : Option Int32 := (Option.bind (zq_gr h t 1 8) fun v_1 => (Option.bind (f_X1_moved h x1 v_1) fun v_3 => some (v_3)))
abbrev rm_X1_mirrored : Room := { frames := 2, cells := 0, slots := 0, locals := 44 }
theorem dX1_mirrored_0 : decode cX1_mirrored 0 = .ok (.iload_n 1, 1) := by decide +kernel
theorem dX1_mirrored_1 : decode cX1_mirrored 1 = .ok (.aload_n 0, 1) := by decide +kernel
theorem dX1_mirrored_2 : decode cX1_mirrored 2 = .ok (.getfield 37, 3) := by decide +kernel
theorem dX1_mirrored_5 : decode cX1_mirrored 5 = .ok (.invokestatic 75, 3) := by decide +kernel
theorem dX1_mirrored_8 : decode cX1_mirrored 8 = .ok (.ireturn, 1) := by decide +kernel
set_option maxRecDepth 100000 in
set_option maxHeartbeats 4000000 in
theorem v_X1_mirrored {X : zq_X} (C : zq_C X RX1 cX1_mirrored 2 zq_all rm_X1_mirrored) {h : zq_H} {t : Nat} {x1 : Int32} (T : zq_T X none) (hn : X.2.2.2.2.2.2.2.2.1.name = yX1_mirrored.name) {out : Int32} (hF : f_X1_mirrored h t x1 = some out) (hE : zq_End X cX1_mirrored 0 0 (some (.int out)) h) : zq_W X 0 0 h 0 [(0, .ref t), (1, .int x1)] [] := by
  unfold f_X1_mirrored at hF
  refine zq_iload_n (pc' := 1) C dX1_mirrored_0 rfl rfl rfl ?_
  refine zq_aload_n (pc' := 2) C dX1_mirrored_1 rfl rfl rfl ?_
  replace hF := zq_bd hF; obtain ⟨v_1, e_2, hF⟩ := hF
  refine zq_getR (j := 8) (pc' := 5) C zq_K1 zq_in1w (Or.inl wd_74) (by decide) rfl dX1_mirrored_2 rfl e_2 ?_
  replace hF := zq_bd hF; obtain ⟨v_3, e_4, hF⟩ := hF
  refine zq_cS (pc' := 8) C (c_X1_moved e_4) ys_X1_moved wd_97 dX1_mirrored_5 rfl rfl rfl ⟨Nat.le_of_ble_eq_true rfl, Nat.le_of_ble_eq_true rfl⟩ (Nat.le_of_ble_eq_true rfl) ⟨rfl, rfl⟩ ⟨Nat.le_of_ble_eq_true rfl, Nat.le_of_ble_eq_true rfl⟩ rfl ?_
  have hF := Option.some.inj hF
  subst hF
  exact hE _ _ _ _ (Nat.le_of_ble_eq_true rfl) (Nat.le_of_ble_eq_true rfl) dX1_mirrored_8
theorem c_X1_mirrored {h : zq_H} {t : Nat} {x1 : Int32} {out : Int32} (hF : f_X1_mirrored h t x1 = some out) : zq_M none yX1_mirrored (Cond.code yX1_mirrored cX1_mirrored 2 (some .int) :: zq_all) rm_X1_mirrored [.ref t, .int x1] h (some (.int out)) h := zq_met2 (own := RX1) (by decide +kernel) rfl (Nat.le_of_ble_eq_true rfl) rfl ⟨.int, rfl, rfl⟩ (fun X C T hn hE => v_X1_mirrored C T hn hF hE)
theorem yv_X1_mirrored : zq_calV yX1_mirrored RX1 cX1_mirrored 2 (some .int) 1 := ⟨by decide +kernel, wd_99, wd_102, wd_103, wd_27⟩
def f_X1_nextImage (h : zq_H) (t : Nat) (x1 : Int32) (x2 : Int32) : Option Int32 := (Option.bind (zq_gi h t 1 0) fun v_1 => (if x2 = v_1 then (zq_ck h t 1 fun _ => (Option.bind (f_X1_mirrored h t x1) fun v_8 => (Option.bind (zq_gr h t 1 7) fun v_11 => (Option.bind (f_X1_moved h v_8 v_11) fun v_13 => some (v_13))))) else (Option.bind (zq_gr h t 1 7) fun v_4 => (Option.bind (f_X1_moved h x1 v_4) fun v_6 => some (v_6)))))
abbrev rm_X1_nextImage : Room := { frames := 3, cells := 0, slots := 0, locals := 65 }
theorem dX1_nextImage_0 : decode cX1_nextImage 0 = .ok (.iload_n 2, 1) := by decide +kernel
theorem dX1_nextImage_1 : decode cX1_nextImage 1 = .ok (.aload_n 0, 1) := by decide +kernel
theorem dX1_nextImage_2 : decode cX1_nextImage 2 = .ok (.getfield 9, 3) := by decide +kernel
theorem dX1_nextImage_5 : decode cX1_nextImage 5 = .ok (.if_icmp .ne 11, 3) := by decide +kernel
theorem dX1_nextImage_8 : decode cX1_nextImage 8 = .ok (.aload_n 0, 1) := by decide +kernel
theorem dX1_nextImage_9 : decode cX1_nextImage 9 = .ok (.iload_n 1, 1) := by decide +kernel
theorem dX1_nextImage_10 : decode cX1_nextImage 10 = .ok (.invokevirtual 91, 3) := by decide +kernel
theorem dX1_nextImage_13 : decode cX1_nextImage 13 = .ok (.goto 4, 3) := by decide +kernel
theorem dX1_nextImage_16 : decode cX1_nextImage 16 = .ok (.iload_n 1, 1) := by decide +kernel
theorem dX1_nextImage_17 : decode cX1_nextImage 17 = .ok (.aload_n 0, 1) := by decide +kernel
theorem dX1_nextImage_18 : decode cX1_nextImage 18 = .ok (.getfield 34, 3) := by decide +kernel
theorem dX1_nextImage_21 : decode cX1_nextImage 21 = .ok (.invokestatic 75, 3) := by decide +kernel
theorem dX1_nextImage_24 : decode cX1_nextImage 24 = .ok (.ireturn, 1) := by decide +kernel
set_option maxRecDepth 100000 in
set_option maxHeartbeats 4000000 in
theorem v_X1_nextImage {X : zq_X} (C : zq_C X RX1 cX1_nextImage 3 zq_all rm_X1_nextImage) {h : zq_H} {t : Nat} {x1 : Int32} {x2 : Int32} (T : zq_T X none) (hn : X.2.2.2.2.2.2.2.2.1.name = yX1_nextImage.name) {out : Int32} (hF : f_X1_nextImage h t x1 x2 = some out) (hE : zq_End X cX1_nextImage 0 0 (some (.int out)) h) : zq_W X 0 0 h 0 [(0, .ref t), (1, .int x1), (2, .int x2)] [] := by
  unfold f_X1_nextImage at hF
  refine zq_iload_n (pc' := 1) C dX1_nextImage_0 rfl rfl rfl ?_
  refine zq_aload_n (pc' := 2) C dX1_nextImage_1 rfl rfl rfl ?_
  replace hF := zq_bd hF; obtain ⟨v_1, e_2, hF⟩ := hF
  refine zq_getI (j := 0) (pc' := 5) C zq_K1 zq_in1w (Or.inl wd_21) (by decide) rfl dX1_nextImage_2 rfl e_2 ?_
  refine zq_icmp_ne (pc' := 8) C 16 dX1_nextImage_5 (by decide) rfl (fun c_3 => ?_) (fun c_3 => ?_)
  · have hF := (zq_ifn hF c_3)
    skip
    refine zq_iload_n (pc' := 17) C dX1_nextImage_16 rfl rfl rfl ?_
    refine zq_aload_n (pc' := 18) C dX1_nextImage_17 rfl rfl rfl ?_
    replace hF := zq_bd hF; obtain ⟨v_4, e_5, hF⟩ := hF
    refine zq_getR (j := 7) (pc' := 21) C zq_K1 zq_in1w (Or.inl wd_73) (by decide) rfl dX1_nextImage_18 rfl e_5 ?_
    replace hF := zq_bd hF; obtain ⟨v_6, e_7, hF⟩ := hF
    refine zq_cS (pc' := 24) C (c_X1_moved e_7) ys_X1_moved wd_97 dX1_nextImage_21 rfl rfl rfl ⟨Nat.le_of_ble_eq_true rfl, Nat.le_of_ble_eq_true rfl⟩ (Nat.le_of_ble_eq_true rfl) ⟨rfl, rfl⟩ ⟨Nat.le_of_ble_eq_true rfl, Nat.le_of_ble_eq_true rfl⟩ rfl ?_
    have hF := Option.some.inj hF
    subst hF
    exact hE _ _ _ _ (Nat.le_of_ble_eq_true rfl) (Nat.le_of_ble_eq_true rfl) dX1_nextImage_24
  · have hF := (zq_ifp hF c_3)
    refine zq_aload_n (pc' := 9) C dX1_nextImage_8 rfl rfl rfl ?_
    refine zq_iload_n (pc' := 10) C dX1_nextImage_9 rfl rfl rfl ?_
    replace hF := zq_ck_e hF; obtain ⟨e_10, hF⟩ := hF
    replace hF := zq_bd hF; obtain ⟨v_8, e_9, hF⟩ := hF
    refine zq_cV (pc' := 13) C (c_X1_mirrored e_9) yv_X1_mirrored wd_101 zq_K1 e_10 dX1_nextImage_10 rfl rfl rfl ⟨Nat.le_of_ble_eq_true rfl, Nat.le_of_ble_eq_true rfl⟩ (Nat.le_of_ble_eq_true rfl) ⟨rfl, rfl⟩ ⟨Nat.le_of_ble_eq_true rfl, Nat.le_of_ble_eq_true rfl⟩ rfl ?_
    refine zq_goto C 17 dX1_nextImage_13 (by decide) ?_
    refine zq_aload_n (pc' := 18) C dX1_nextImage_17 rfl rfl rfl ?_
    replace hF := zq_bd hF; obtain ⟨v_11, e_12, hF⟩ := hF
    refine zq_getR (j := 7) (pc' := 21) C zq_K1 zq_in1w (Or.inl wd_73) (by decide) rfl dX1_nextImage_18 rfl e_12 ?_
    replace hF := zq_bd hF; obtain ⟨v_13, e_14, hF⟩ := hF
    refine zq_cS (pc' := 24) C (c_X1_moved e_14) ys_X1_moved wd_97 dX1_nextImage_21 rfl rfl rfl ⟨Nat.le_of_ble_eq_true rfl, Nat.le_of_ble_eq_true rfl⟩ (Nat.le_of_ble_eq_true rfl) ⟨rfl, rfl⟩ ⟨Nat.le_of_ble_eq_true rfl, Nat.le_of_ble_eq_true rfl⟩ rfl ?_
    have hF := Option.some.inj hF
    subst hF
    exact hE _ _ _ _ (Nat.le_of_ble_eq_true rfl) (Nat.le_of_ble_eq_true rfl) dX1_nextImage_24
theorem c_X1_nextImage {h : zq_H} {t : Nat} {x1 : Int32} {x2 : Int32} {out : Int32} (hF : f_X1_nextImage h t x1 x2 = some out) : zq_M none yX1_nextImage (Cond.code yX1_nextImage cX1_nextImage 3 (some .int) :: zq_all) rm_X1_nextImage [.ref t, .int x1, .int x2] h (some (.int out)) h := zq_met2 (own := RX1) (by decide +kernel) rfl (Nat.le_of_ble_eq_true rfl) rfl ⟨.int, rfl, rfl⟩ (fun X C T hn hE => v_X1_nextImage C T hn hF hE)
theorem yv_X1_nextImage : zq_calV yX1_nextImage RX1 cX1_nextImage 3 (some .int) 2 := ⟨by decide +kernel, wd_100, wd_110, wd_111, wd_27⟩
def f_X1_leastImage (h : zq_H) (t : Nat) (x1 : Int32) : Option Int32 := ((zq_lp (σ := Int32 × Int32 × Int32) (ρ := Int32) (fun s_1 => (Option.bind (zq_gi h t 1 0) fun v_9 => (if (2 * v_9) ≤ s_1.2.2 then some (.inr s_1.1) else (zq_ck h t 1 fun _ => (Option.bind (f_X1_nextImage h t s_1.2.1 s_1.2.2) fun v_12 => (zq_let (if v_12 < s_1.1 then v_12 else s_1.1) fun v_15 => (zq_let (s_1.2.2 + 1) fun v_17 => some (.inl (v_15, v_12, v_17))))))))) zq_N (x1, x1, 0)).bind (fun y_4 : Int32 => some (y_4)))
abbrev rm_X1_leastImage : Room := { frames := 4, cells := 0, slots := 0, locals := 87 }
theorem dX1_leastImage_0 : decode cX1_leastImage 0 = .ok (.iload_n 1, 1) := by decide +kernel
theorem dX1_leastImage_1 : decode cX1_leastImage 1 = .ok (.istore_n 2, 1) := by decide +kernel
theorem dX1_leastImage_2 : decode cX1_leastImage 2 = .ok (.iload_n 1, 1) := by decide +kernel
theorem dX1_leastImage_3 : decode cX1_leastImage 3 = .ok (.istore_n 3, 1) := by decide +kernel
theorem dX1_leastImage_4 : decode cX1_leastImage 4 = .ok (.iconst 0, 1) := by decide +kernel
theorem dX1_leastImage_5 : decode cX1_leastImage 5 = .ok (.istore 4, 2) := by decide +kernel
theorem dX1_leastImage_7 : decode cX1_leastImage 7 = .ok (.iload 4, 2) := by decide +kernel
theorem dX1_leastImage_9 : decode cX1_leastImage 9 = .ok (.iconst 2, 1) := by decide +kernel
theorem dX1_leastImage_10 : decode cX1_leastImage 10 = .ok (.aload_n 0, 1) := by decide +kernel
theorem dX1_leastImage_11 : decode cX1_leastImage 11 = .ok (.getfield 9, 3) := by decide +kernel
theorem dX1_leastImage_14 : decode cX1_leastImage 14 = .ok (.imul, 1) := by decide +kernel
theorem dX1_leastImage_15 : decode cX1_leastImage 15 = .ok (.if_icmp .ge 23, 3) := by decide +kernel
theorem dX1_leastImage_18 : decode cX1_leastImage 18 = .ok (.aload_n 0, 1) := by decide +kernel
theorem dX1_leastImage_19 : decode cX1_leastImage 19 = .ok (.iload_n 3, 1) := by decide +kernel
theorem dX1_leastImage_20 : decode cX1_leastImage 20 = .ok (.iload 4, 2) := by decide +kernel
theorem dX1_leastImage_22 : decode cX1_leastImage 22 = .ok (.invokevirtual 83, 3) := by decide +kernel
theorem dX1_leastImage_25 : decode cX1_leastImage 25 = .ok (.istore_n 3, 1) := by decide +kernel
theorem dX1_leastImage_26 : decode cX1_leastImage 26 = .ok (.iload_n 2, 1) := by decide +kernel
theorem dX1_leastImage_27 : decode cX1_leastImage 27 = .ok (.iload_n 3, 1) := by decide +kernel
theorem dX1_leastImage_28 : decode cX1_leastImage 28 = .ok (.invokestatic 86, 3) := by decide +kernel
theorem dX1_leastImage_31 : decode cX1_leastImage 31 = .ok (.istore_n 2, 1) := by decide +kernel
theorem dX1_leastImage_32 : decode cX1_leastImage 32 = .ok (.iinc 4 1, 3) := by decide +kernel
theorem dX1_leastImage_35 : decode cX1_leastImage 35 = .ok (.goto (-28), 3) := by decide +kernel
theorem dX1_leastImage_38 : decode cX1_leastImage 38 = .ok (.iload_n 2, 1) := by decide +kernel
theorem dX1_leastImage_39 : decode cX1_leastImage 39 = .ok (.ireturn, 1) := by decide +kernel
set_option maxRecDepth 100000 in
set_option maxHeartbeats 4000000 in
theorem v_X1_leastImage {X : zq_X} (C : zq_C X RX1 cX1_leastImage 5 zq_all rm_X1_leastImage) {h : zq_H} {t : Nat} {x1 : Int32} (T : zq_T X none) (hn : X.2.2.2.2.2.2.2.2.1.name = yX1_leastImage.name) {out : Int32} (hF : f_X1_leastImage h t x1 = some out) (hE : zq_End X cX1_leastImage 0 0 (some (.int out)) h) : zq_W X 0 0 h 0 [(0, .ref t), (1, .int x1)] [] := by
  unfold f_X1_leastImage at hF
  refine zq_iload_n (pc' := 1) C dX1_leastImage_0 rfl rfl rfl ?_
  refine zq_istore_n (lv' := [(2, .int x1), (0, .ref t), (1, .int x1)]) (pc' := 2) C dX1_leastImage_1 rfl rfl (by decide) rfl rfl ?_
  refine zq_iload_n (pc' := 3) C dX1_leastImage_2 rfl rfl rfl ?_
  refine zq_istore_n (lv' := [(3, .int x1), (2, .int x1), (0, .ref t), (1, .int x1)]) (pc' := 4) C dX1_leastImage_3 rfl rfl (by decide) rfl rfl ?_
  refine zq_iconst (pc' := 5) C 0 dX1_leastImage_4 rfl (by decide) ?_
  refine zq_istore (lv' := [(4, .int 0), (3, .int x1), (2, .int x1), (0, .ref t), (1, .int x1)]) (pc' := 7) C dX1_leastImage_5 rfl (by decide) rfl rfl ?_
  refine zq_sub [3, 2, 1, 0] rfl ?_
  replace hF := zq_bd hF; obtain ⟨r_2, e_3, hF⟩ := hF
  refine zq_lpW (fun s_1 => zq_W X 0 0 h 7 [(0, .ref t), (2, .int s_1.1), (3, .int s_1.2.1), (4, .int s_1.2.2)] []) (fun y_4 => zq_W X 0 0 h 38 [(2, .int y_4)] []) e_3 (fun s_1 q_8 hF hrec_6 hex_7 => ?_) ?_
  · skip
    refine zq_iload (pc' := 9) C dX1_leastImage_7 rfl rfl ?_
    refine zq_iconst (pc' := 10) C 2 dX1_leastImage_9 rfl (by decide) ?_
    refine zq_aload_n (pc' := 11) C dX1_leastImage_10 rfl rfl rfl ?_
    replace hF := zq_bd hF; obtain ⟨v_9, e_10, hF⟩ := hF
    refine zq_getI (j := 0) (pc' := 14) C zq_K1 zq_in1w (Or.inl wd_21) (by decide) rfl dX1_leastImage_11 rfl e_10 ?_
    refine zq_imul (pc' := 15) C dX1_leastImage_14 rfl ?_
    refine zq_icmp_ge (pc' := 18) C 38 dX1_leastImage_15 (by decide) rfl (fun c_11 => ?_) (fun c_11 => ?_)
    · have hF := (zq_ifp hF c_11)
      skip
      cases hF
      exact zq_sub [1] rfl (hex_7 _ rfl)
    · have hF := (zq_ifn hF c_11)
      refine zq_aload_n (pc' := 19) C dX1_leastImage_18 rfl rfl rfl ?_
      refine zq_iload_n (pc' := 20) C dX1_leastImage_19 rfl rfl rfl ?_
      refine zq_iload (pc' := 22) C dX1_leastImage_20 rfl rfl ?_
      replace hF := zq_ck_e hF; obtain ⟨e_14, hF⟩ := hF
      replace hF := zq_bd hF; obtain ⟨v_12, e_13, hF⟩ := hF
      refine zq_cV (pc' := 25) C (c_X1_nextImage e_13) yv_X1_nextImage wd_109 zq_K1 e_14 dX1_leastImage_22 rfl rfl rfl ⟨Nat.le_of_ble_eq_true rfl, Nat.le_of_ble_eq_true rfl⟩ (Nat.le_of_ble_eq_true rfl) ⟨rfl, rfl⟩ ⟨Nat.le_of_ble_eq_true rfl, Nat.le_of_ble_eq_true rfl⟩ rfl ?_
      refine zq_istore_n (lv' := [(3, .int v_12), (0, .ref t), (2, .int s_1.1), (4, .int s_1.2.2)]) (pc' := 26) C dX1_leastImage_25 rfl rfl (by decide) rfl rfl ?_
      refine zq_iload_n (pc' := 27) C dX1_leastImage_26 rfl rfl rfl ?_
      refine zq_iload_n (pc' := 28) C dX1_leastImage_27 rfl rfl rfl ?_
      refine zq_mmin (pc' := 31) C wd_105 wd_106 wd_107 wd_108 dX1_leastImage_28 rfl (by decide) (Nat.le_of_ble_eq_true rfl) ⟨Nat.le_of_ble_eq_true rfl, Nat.le_of_ble_eq_true rfl⟩ ?_
      replace hF := zq_let_e hF; obtain ⟨v_15, e_16, hF⟩ := hF
      refine zq_istore_n (lv' := [(2, .int v_15), (3, .int v_12), (0, .ref t), (4, .int s_1.2.2)]) (pc' := 32) C dX1_leastImage_31 rfl rfl (by decide) e_16 rfl ?_
      replace hF := zq_let_e hF; obtain ⟨v_17, e_18, hF⟩ := hF
      refine zq_iinc (lv' := [(4, .int v_17), (2, .int v_15), (3, .int v_12), (0, .ref t)]) (pc' := 35) C dX1_leastImage_32 rfl (by decide) 3 rfl e_18 rfl ?_
      refine zq_goto C 7 dX1_leastImage_35 (by decide) ?_
      cases hF
      exact zq_sub [3, 1, 2, 0] rfl (hrec_6 _ rfl)
  · skip
    obtain ⟨y_4, rfl⟩ : ∃ z9, z9 = r_2 := ⟨_, rfl⟩
    show zq_W X 0 0 h 38 [(2, .int y_4)] []
    refine zq_iload_n (pc' := 39) C dX1_leastImage_38 rfl rfl rfl ?_
    have hF := Option.some.inj hF
    subst hF
    exact hE _ _ _ _ (Nat.le_of_ble_eq_true rfl) (Nat.le_of_ble_eq_true rfl) dX1_leastImage_39
theorem c_X1_leastImage {h : zq_H} {t : Nat} {x1 : Int32} {out : Int32} (hF : f_X1_leastImage h t x1 = some out) : zq_M none yX1_leastImage (Cond.code yX1_leastImage cX1_leastImage 5 (some .int) :: zq_all) rm_X1_leastImage [.ref t, .int x1] h (some (.int out)) h := zq_met2 (own := RX1) (by decide +kernel) rfl (Nat.le_of_ble_eq_true rfl) rfl ⟨.int, rfl, rfl⟩ (fun X C T hn hE => v_X1_leastImage C T hn hF hE)
theorem yv_X1_leastImage : zq_calV yX1_leastImage RX1 cX1_leastImage 5 (some .int) 1 := ⟨by decide +kernel, wd_104, wd_340, wd_341, wd_27⟩
def f_X1_symmetries (h : zq_H) (t : Nat) (x1 : Int32) : Option Int32 := ((zq_lp (σ := Int32 × Int32 × Int32) (ρ := Int32) (fun s_1 => (Option.bind (zq_gi h t 1 0) fun v_9 => (if (2 * v_9) ≤ s_1.2.2 then some (.inr s_1.1) else (zq_ck h t 1 fun _ => (Option.bind (f_X1_nextImage h t s_1.2.1 s_1.2.2) fun v_12 => (if v_12 = x1 then (zq_let (s_1.1 + 1) fun v_20 => (zq_let (s_1.2.2 + 1) fun v_22 => some (.inl (v_20, v_12, v_22)))) else (zq_let (s_1.1 + 0) fun v_16 => (zq_let (s_1.2.2 + 1) fun v_18 => some (.inl (v_16, v_12, v_18)))))))))) zq_N (0, x1, 0)).bind (fun y_4 : Int32 => some (y_4)))
abbrev rm_X1_symmetries : Room := { frames := 4, cells := 0, slots := 0, locals := 87 }
theorem dX1_symmetries_0 : decode cX1_symmetries 0 = .ok (.iconst 0, 1) := by decide +kernel
theorem dX1_symmetries_1 : decode cX1_symmetries 1 = .ok (.istore_n 2, 1) := by decide +kernel
theorem dX1_symmetries_2 : decode cX1_symmetries 2 = .ok (.iload_n 1, 1) := by decide +kernel
theorem dX1_symmetries_3 : decode cX1_symmetries 3 = .ok (.istore_n 3, 1) := by decide +kernel
theorem dX1_symmetries_4 : decode cX1_symmetries 4 = .ok (.iconst 0, 1) := by decide +kernel
theorem dX1_symmetries_5 : decode cX1_symmetries 5 = .ok (.istore 4, 2) := by decide +kernel
theorem dX1_symmetries_7 : decode cX1_symmetries 7 = .ok (.iload 4, 2) := by decide +kernel
theorem dX1_symmetries_9 : decode cX1_symmetries 9 = .ok (.iconst 2, 1) := by decide +kernel
theorem dX1_symmetries_10 : decode cX1_symmetries 10 = .ok (.aload_n 0, 1) := by decide +kernel
theorem dX1_symmetries_11 : decode cX1_symmetries 11 = .ok (.getfield 9, 3) := by decide +kernel
theorem dX1_symmetries_14 : decode cX1_symmetries 14 = .ok (.imul, 1) := by decide +kernel
theorem dX1_symmetries_15 : decode cX1_symmetries 15 = .ok (.if_icmp .ge 30, 3) := by decide +kernel
theorem dX1_symmetries_18 : decode cX1_symmetries 18 = .ok (.aload_n 0, 1) := by decide +kernel
theorem dX1_symmetries_19 : decode cX1_symmetries 19 = .ok (.iload_n 3, 1) := by decide +kernel
theorem dX1_symmetries_20 : decode cX1_symmetries 20 = .ok (.iload 4, 2) := by decide +kernel
theorem dX1_symmetries_22 : decode cX1_symmetries 22 = .ok (.invokevirtual 83, 3) := by decide +kernel
theorem dX1_symmetries_25 : decode cX1_symmetries 25 = .ok (.istore_n 3, 1) := by decide +kernel
theorem dX1_symmetries_26 : decode cX1_symmetries 26 = .ok (.iload_n 2, 1) := by decide +kernel
theorem dX1_symmetries_27 : decode cX1_symmetries 27 = .ok (.iload_n 3, 1) := by decide +kernel
theorem dX1_symmetries_28 : decode cX1_symmetries 28 = .ok (.iload_n 1, 1) := by decide +kernel
theorem dX1_symmetries_29 : decode cX1_symmetries 29 = .ok (.if_icmp .ne 7, 3) := by decide +kernel
theorem dX1_symmetries_32 : decode cX1_symmetries 32 = .ok (.iconst 1, 1) := by decide +kernel
theorem dX1_symmetries_33 : decode cX1_symmetries 33 = .ok (.goto 4, 3) := by decide +kernel
theorem dX1_symmetries_36 : decode cX1_symmetries 36 = .ok (.iconst 0, 1) := by decide +kernel
theorem dX1_symmetries_37 : decode cX1_symmetries 37 = .ok (.iadd, 1) := by decide +kernel
theorem dX1_symmetries_38 : decode cX1_symmetries 38 = .ok (.istore_n 2, 1) := by decide +kernel
theorem dX1_symmetries_39 : decode cX1_symmetries 39 = .ok (.iinc 4 1, 3) := by decide +kernel
theorem dX1_symmetries_42 : decode cX1_symmetries 42 = .ok (.goto (-35), 3) := by decide +kernel
theorem dX1_symmetries_45 : decode cX1_symmetries 45 = .ok (.iload_n 2, 1) := by decide +kernel
theorem dX1_symmetries_46 : decode cX1_symmetries 46 = .ok (.ireturn, 1) := by decide +kernel
set_option maxRecDepth 100000 in
set_option maxHeartbeats 4000000 in
theorem v_X1_symmetries {X : zq_X} (C : zq_C X RX1 cX1_symmetries 5 zq_all rm_X1_symmetries) {h : zq_H} {t : Nat} {x1 : Int32} (T : zq_T X none) (hn : X.2.2.2.2.2.2.2.2.1.name = yX1_symmetries.name) {out : Int32} (hF : f_X1_symmetries h t x1 = some out) (hE : zq_End X cX1_symmetries 0 0 (some (.int out)) h) : zq_W X 0 0 h 0 [(0, .ref t), (1, .int x1)] [] := by
  unfold f_X1_symmetries at hF
  refine zq_iconst (pc' := 1) C 0 dX1_symmetries_0 rfl (by decide) ?_
  refine zq_istore_n (lv' := [(2, .int 0), (0, .ref t), (1, .int x1)]) (pc' := 2) C dX1_symmetries_1 rfl rfl (by decide) rfl rfl ?_
  refine zq_iload_n (pc' := 3) C dX1_symmetries_2 rfl rfl rfl ?_
  refine zq_istore_n (lv' := [(3, .int x1), (2, .int 0), (0, .ref t), (1, .int x1)]) (pc' := 4) C dX1_symmetries_3 rfl rfl (by decide) rfl rfl ?_
  refine zq_iconst (pc' := 5) C 0 dX1_symmetries_4 rfl (by decide) ?_
  refine zq_istore (lv' := [(4, .int 0), (3, .int x1), (2, .int 0), (0, .ref t), (1, .int x1)]) (pc' := 7) C dX1_symmetries_5 rfl (by decide) rfl rfl ?_
  refine zq_sub [3, 4, 2, 1, 0] rfl ?_
  replace hF := zq_bd hF; obtain ⟨r_2, e_3, hF⟩ := hF
  refine zq_lpW (fun s_1 => zq_W X 0 0 h 7 [(0, .ref t), (1, .int x1), (2, .int s_1.1), (3, .int s_1.2.1), (4, .int s_1.2.2)] []) (fun y_4 => zq_W X 0 0 h 45 [(2, .int y_4)] []) e_3 (fun s_1 q_8 hF hrec_6 hex_7 => ?_) ?_
  · skip
    refine zq_iload (pc' := 9) C dX1_symmetries_7 rfl rfl ?_
    refine zq_iconst (pc' := 10) C 2 dX1_symmetries_9 rfl (by decide) ?_
    refine zq_aload_n (pc' := 11) C dX1_symmetries_10 rfl rfl rfl ?_
    replace hF := zq_bd hF; obtain ⟨v_9, e_10, hF⟩ := hF
    refine zq_getI (j := 0) (pc' := 14) C zq_K1 zq_in1w (Or.inl wd_21) (by decide) rfl dX1_symmetries_11 rfl e_10 ?_
    refine zq_imul (pc' := 15) C dX1_symmetries_14 rfl ?_
    refine zq_icmp_ge (pc' := 18) C 45 dX1_symmetries_15 (by decide) rfl (fun c_11 => ?_) (fun c_11 => ?_)
    · have hF := (zq_ifp hF c_11)
      skip
      cases hF
      exact zq_sub [2] rfl (hex_7 _ rfl)
    · have hF := (zq_ifn hF c_11)
      refine zq_aload_n (pc' := 19) C dX1_symmetries_18 rfl rfl rfl ?_
      refine zq_iload_n (pc' := 20) C dX1_symmetries_19 rfl rfl rfl ?_
      refine zq_iload (pc' := 22) C dX1_symmetries_20 rfl rfl ?_
      replace hF := zq_ck_e hF; obtain ⟨e_14, hF⟩ := hF
      replace hF := zq_bd hF; obtain ⟨v_12, e_13, hF⟩ := hF
      refine zq_cV (pc' := 25) C (c_X1_nextImage e_13) yv_X1_nextImage wd_109 zq_K1 e_14 dX1_symmetries_22 rfl rfl rfl ⟨Nat.le_of_ble_eq_true rfl, Nat.le_of_ble_eq_true rfl⟩ (Nat.le_of_ble_eq_true rfl) ⟨rfl, rfl⟩ ⟨Nat.le_of_ble_eq_true rfl, Nat.le_of_ble_eq_true rfl⟩ rfl ?_
      refine zq_istore_n (lv' := [(3, .int v_12), (0, .ref t), (1, .int x1), (2, .int s_1.1), (4, .int s_1.2.2)]) (pc' := 26) C dX1_symmetries_25 rfl rfl (by decide) rfl rfl ?_
      refine zq_iload_n (pc' := 27) C dX1_symmetries_26 rfl rfl rfl ?_
      refine zq_iload_n (pc' := 28) C dX1_symmetries_27 rfl rfl rfl ?_
      refine zq_iload_n (pc' := 29) C dX1_symmetries_28 rfl rfl rfl ?_
      refine zq_icmp_ne (pc' := 32) C 36 dX1_symmetries_29 (by decide) rfl (fun c_15 => ?_) (fun c_15 => ?_)
      · have hF := (zq_ifn hF c_15)
        skip
        refine zq_iconst (pc' := 37) C 0 dX1_symmetries_36 rfl (by decide) ?_
        refine zq_iadd (pc' := 38) C dX1_symmetries_37 rfl ?_
        replace hF := zq_let_e hF; obtain ⟨v_16, e_17, hF⟩ := hF
        refine zq_istore_n (lv' := [(2, .int v_16), (3, .int v_12), (0, .ref t), (1, .int x1), (4, .int s_1.2.2)]) (pc' := 39) C dX1_symmetries_38 rfl rfl (by decide) e_17 rfl ?_
        replace hF := zq_let_e hF; obtain ⟨v_18, e_19, hF⟩ := hF
        refine zq_iinc (lv' := [(4, .int v_18), (2, .int v_16), (3, .int v_12), (0, .ref t), (1, .int x1)]) (pc' := 42) C dX1_symmetries_39 rfl (by decide) 4 rfl e_19 rfl ?_
        refine zq_goto C 7 dX1_symmetries_42 (by decide) ?_
        cases hF
        exact zq_sub [3, 4, 1, 2, 0] rfl (hrec_6 _ rfl)
      · have hF := (zq_ifp hF c_15)
        refine zq_iconst (pc' := 33) C 1 dX1_symmetries_32 rfl (by decide) ?_
        refine zq_goto C 37 dX1_symmetries_33 (by decide) ?_
        refine zq_iadd (pc' := 38) C dX1_symmetries_37 rfl ?_
        replace hF := zq_let_e hF; obtain ⟨v_20, e_21, hF⟩ := hF
        refine zq_istore_n (lv' := [(2, .int v_20), (3, .int v_12), (0, .ref t), (1, .int x1), (4, .int s_1.2.2)]) (pc' := 39) C dX1_symmetries_38 rfl rfl (by decide) e_21 rfl ?_
        replace hF := zq_let_e hF; obtain ⟨v_22, e_23, hF⟩ := hF
        refine zq_iinc (lv' := [(4, .int v_22), (2, .int v_20), (3, .int v_12), (0, .ref t), (1, .int x1)]) (pc' := 42) C dX1_symmetries_39 rfl (by decide) 4 rfl e_23 rfl ?_
        refine zq_goto C 7 dX1_symmetries_42 (by decide) ?_
        cases hF
        exact zq_sub [3, 4, 1, 2, 0] rfl (hrec_6 _ rfl)
  · skip
    obtain ⟨y_4, rfl⟩ : ∃ z9, z9 = r_2 := ⟨_, rfl⟩
    show zq_W X 0 0 h 45 [(2, .int y_4)] []
    refine zq_iload_n (pc' := 46) C dX1_symmetries_45 rfl rfl rfl ?_
    have hF := Option.some.inj hF
    subst hF
    exact hE _ _ _ _ (Nat.le_of_ble_eq_true rfl) (Nat.le_of_ble_eq_true rfl) dX1_symmetries_46
theorem c_X1_symmetries {h : zq_H} {t : Nat} {x1 : Int32} {out : Int32} (hF : f_X1_symmetries h t x1 = some out) : zq_M none yX1_symmetries (Cond.code yX1_symmetries cX1_symmetries 5 (some .int) :: zq_all) rm_X1_symmetries [.ref t, .int x1] h (some (.int out)) h := zq_met2 (own := RX1) (by decide +kernel) rfl (Nat.le_of_ble_eq_true rfl) rfl ⟨.int, rfl, rfl⟩ (fun X C T hn hE => v_X1_symmetries C T hn hF hE)
theorem yv_X1_symmetries : zq_calV yX1_symmetries RX1 cX1_symmetries 5 (some .int) 1 := ⟨by decide +kernel, wd_112, wd_343, wd_344, wd_27⟩
def f_X1_ears (h : zq_H) (t : Nat) (x1 : Int32) : Option Int32 := ((zq_lp (σ := Int32 × Int32) (ρ := Int32) (fun s_1 => (Option.bind (zq_gi h t 1 0) fun v_9 => (if v_9 ≤ s_1.2 then some (.inr s_1.1) else (zq_ck h t 1 fun _ => (Option.bind (f_X1_degreeIn h t x1 s_1.2) fun v_12 => (if v_12 = 0 then (zq_let (s_1.1 + 1) fun v_20 => (zq_let (s_1.2 + 1) fun v_22 => some (.inl (v_20, v_22)))) else (zq_let (s_1.1 + 0) fun v_16 => (zq_let (s_1.2 + 1) fun v_18 => some (.inl (v_16, v_18)))))))))) zq_N (0, 0)).bind (fun y_4 : Int32 => some (y_4)))
abbrev rm_X1_ears : Room := { frames := 3, cells := 0, slots := 0, locals := 64 }
theorem dX1_ears_0 : decode cX1_ears 0 = .ok (.iconst 0, 1) := by decide +kernel
theorem dX1_ears_1 : decode cX1_ears 1 = .ok (.istore_n 2, 1) := by decide +kernel
theorem dX1_ears_2 : decode cX1_ears 2 = .ok (.iconst 0, 1) := by decide +kernel
theorem dX1_ears_3 : decode cX1_ears 3 = .ok (.istore_n 3, 1) := by decide +kernel
theorem dX1_ears_4 : decode cX1_ears 4 = .ok (.iload_n 3, 1) := by decide +kernel
theorem dX1_ears_5 : decode cX1_ears 5 = .ok (.aload_n 0, 1) := by decide +kernel
theorem dX1_ears_6 : decode cX1_ears 6 = .ok (.getfield 9, 3) := by decide +kernel
theorem dX1_ears_9 : decode cX1_ears 9 = .ok (.if_icmp .ge 26, 3) := by decide +kernel
theorem dX1_ears_12 : decode cX1_ears 12 = .ok (.iload_n 2, 1) := by decide +kernel
theorem dX1_ears_13 : decode cX1_ears 13 = .ok (.aload_n 0, 1) := by decide +kernel
theorem dX1_ears_14 : decode cX1_ears 14 = .ok (.iload_n 1, 1) := by decide +kernel
theorem dX1_ears_15 : decode cX1_ears 15 = .ok (.iload_n 3, 1) := by decide +kernel
theorem dX1_ears_16 : decode cX1_ears 16 = .ok (.invokevirtual 94, 3) := by decide +kernel
theorem dX1_ears_19 : decode cX1_ears 19 = .ok (.ifCond .ne 7, 3) := by decide +kernel
theorem dX1_ears_22 : decode cX1_ears 22 = .ok (.iconst 1, 1) := by decide +kernel
theorem dX1_ears_23 : decode cX1_ears 23 = .ok (.goto 4, 3) := by decide +kernel
theorem dX1_ears_26 : decode cX1_ears 26 = .ok (.iconst 0, 1) := by decide +kernel
theorem dX1_ears_27 : decode cX1_ears 27 = .ok (.iadd, 1) := by decide +kernel
theorem dX1_ears_28 : decode cX1_ears 28 = .ok (.istore_n 2, 1) := by decide +kernel
theorem dX1_ears_29 : decode cX1_ears 29 = .ok (.iinc 3 1, 3) := by decide +kernel
theorem dX1_ears_32 : decode cX1_ears 32 = .ok (.goto (-28), 3) := by decide +kernel
theorem dX1_ears_35 : decode cX1_ears 35 = .ok (.iload_n 2, 1) := by decide +kernel
theorem dX1_ears_36 : decode cX1_ears 36 = .ok (.ireturn, 1) := by decide +kernel
set_option maxRecDepth 100000 in
set_option maxHeartbeats 4000000 in
theorem v_X1_ears {X : zq_X} (C : zq_C X RX1 cX1_ears 4 zq_all rm_X1_ears) {h : zq_H} {t : Nat} {x1 : Int32} (T : zq_T X none) (hn : X.2.2.2.2.2.2.2.2.1.name = yX1_ears.name) {out : Int32} (hF : f_X1_ears h t x1 = some out) (hE : zq_End X cX1_ears 0 0 (some (.int out)) h) : zq_W X 0 0 h 0 [(0, .ref t), (1, .int x1)] [] := by
  unfold f_X1_ears at hF
  refine zq_iconst (pc' := 1) C 0 dX1_ears_0 rfl (by decide) ?_
  refine zq_istore_n (lv' := [(2, .int 0), (0, .ref t), (1, .int x1)]) (pc' := 2) C dX1_ears_1 rfl rfl (by decide) rfl rfl ?_
  refine zq_iconst (pc' := 3) C 0 dX1_ears_2 rfl (by decide) ?_
  refine zq_istore_n (lv' := [(3, .int 0), (2, .int 0), (0, .ref t), (1, .int x1)]) (pc' := 4) C dX1_ears_3 rfl rfl (by decide) rfl rfl ?_
  refine zq_sub [2, 3, 1, 0] rfl ?_
  replace hF := zq_bd hF; obtain ⟨r_2, e_3, hF⟩ := hF
  refine zq_lpW (fun s_1 => zq_W X 0 0 h 4 [(0, .ref t), (1, .int x1), (2, .int s_1.1), (3, .int s_1.2)] []) (fun y_4 => zq_W X 0 0 h 35 [(2, .int y_4)] []) e_3 (fun s_1 q_8 hF hrec_6 hex_7 => ?_) ?_
  · skip
    refine zq_iload_n (pc' := 5) C dX1_ears_4 rfl rfl rfl ?_
    refine zq_aload_n (pc' := 6) C dX1_ears_5 rfl rfl rfl ?_
    replace hF := zq_bd hF; obtain ⟨v_9, e_10, hF⟩ := hF
    refine zq_getI (j := 0) (pc' := 9) C zq_K1 zq_in1w (Or.inl wd_21) (by decide) rfl dX1_ears_6 rfl e_10 ?_
    refine zq_icmp_ge (pc' := 12) C 35 dX1_ears_9 (by decide) rfl (fun c_11 => ?_) (fun c_11 => ?_)
    · have hF := (zq_ifp hF c_11)
      skip
      cases hF
      exact zq_sub [2] rfl (hex_7 _ rfl)
    · have hF := (zq_ifn hF c_11)
      refine zq_iload_n (pc' := 13) C dX1_ears_12 rfl rfl rfl ?_
      refine zq_aload_n (pc' := 14) C dX1_ears_13 rfl rfl rfl ?_
      refine zq_iload_n (pc' := 15) C dX1_ears_14 rfl rfl rfl ?_
      refine zq_iload_n (pc' := 16) C dX1_ears_15 rfl rfl rfl ?_
      replace hF := zq_ck_e hF; obtain ⟨e_14, hF⟩ := hF
      replace hF := zq_bd hF; obtain ⟨v_12, e_13, hF⟩ := hF
      refine zq_cV (pc' := 19) C (c_X1_degreeIn e_13) yv_X1_degreeIn wd_114 zq_K1 e_14 dX1_ears_16 rfl rfl rfl ⟨Nat.le_of_ble_eq_true rfl, Nat.le_of_ble_eq_true rfl⟩ (Nat.le_of_ble_eq_true rfl) ⟨rfl, rfl⟩ ⟨Nat.le_of_ble_eq_true rfl, Nat.le_of_ble_eq_true rfl⟩ rfl ?_
      refine zq_if_ne (pc' := 22) C 26 dX1_ears_19 (by decide) rfl (fun c_15 => ?_) (fun c_15 => ?_)
      · have hF := (zq_ifn hF c_15)
        skip
        refine zq_iconst (pc' := 27) C 0 dX1_ears_26 rfl (by decide) ?_
        refine zq_iadd (pc' := 28) C dX1_ears_27 rfl ?_
        replace hF := zq_let_e hF; obtain ⟨v_16, e_17, hF⟩ := hF
        refine zq_istore_n (lv' := [(2, .int v_16), (0, .ref t), (1, .int x1), (3, .int s_1.2)]) (pc' := 29) C dX1_ears_28 rfl rfl (by decide) e_17 rfl ?_
        replace hF := zq_let_e hF; obtain ⟨v_18, e_19, hF⟩ := hF
        refine zq_iinc (lv' := [(3, .int v_18), (2, .int v_16), (0, .ref t), (1, .int x1)]) (pc' := 32) C dX1_ears_29 rfl (by decide) 3 rfl e_19 rfl ?_
        refine zq_goto C 4 dX1_ears_32 (by decide) ?_
        cases hF
        exact zq_sub [2, 3, 1, 0] rfl (hrec_6 _ rfl)
      · have hF := (zq_ifp hF c_15)
        refine zq_iconst (pc' := 23) C 1 dX1_ears_22 rfl (by decide) ?_
        refine zq_goto C 27 dX1_ears_23 (by decide) ?_
        refine zq_iadd (pc' := 28) C dX1_ears_27 rfl ?_
        replace hF := zq_let_e hF; obtain ⟨v_20, e_21, hF⟩ := hF
        refine zq_istore_n (lv' := [(2, .int v_20), (0, .ref t), (1, .int x1), (3, .int s_1.2)]) (pc' := 29) C dX1_ears_28 rfl rfl (by decide) e_21 rfl ?_
        replace hF := zq_let_e hF; obtain ⟨v_22, e_23, hF⟩ := hF
        refine zq_iinc (lv' := [(3, .int v_22), (2, .int v_20), (0, .ref t), (1, .int x1)]) (pc' := 32) C dX1_ears_29 rfl (by decide) 3 rfl e_23 rfl ?_
        refine zq_goto C 4 dX1_ears_32 (by decide) ?_
        cases hF
        exact zq_sub [2, 3, 1, 0] rfl (hrec_6 _ rfl)
  · skip
    obtain ⟨y_4, rfl⟩ : ∃ z9, z9 = r_2 := ⟨_, rfl⟩
    show zq_W X 0 0 h 35 [(2, .int y_4)] []
    refine zq_iload_n (pc' := 36) C dX1_ears_35 rfl rfl rfl ?_
    have hF := Option.some.inj hF
    subst hF
    exact hE _ _ _ _ (Nat.le_of_ble_eq_true rfl) (Nat.le_of_ble_eq_true rfl) dX1_ears_36
theorem c_X1_ears {h : zq_H} {t : Nat} {x1 : Int32} {out : Int32} (hF : f_X1_ears h t x1 = some out) : zq_M none yX1_ears (Cond.code yX1_ears cX1_ears 4 (some .int) :: zq_all) rm_X1_ears [.ref t, .int x1] h (some (.int out)) h := zq_met2 (own := RX1) (by decide +kernel) rfl (Nat.le_of_ble_eq_true rfl) rfl ⟨.int, rfl, rfl⟩ (fun X C T hn hE => v_X1_ears C T hn hF hE)
theorem yv_X1_ears : zq_calV yX1_ears RX1 cX1_ears 4 (some .int) 1 := ⟨by decide +kernel, wd_113, wd_346, wd_347, wd_27⟩
def f_X1_greatestDegree (h : zq_H) (t : Nat) (x1 : Int32) : Option Int32 := ((zq_lp (σ := Int32 × Int32) (ρ := Int32) (fun s_1 => (Option.bind (zq_gi h t 1 0) fun v_9 => (if v_9 ≤ s_1.2 then some (.inr s_1.1) else (zq_ck h t 1 fun _ => (Option.bind (f_X1_degreeIn h t x1 s_1.2) fun v_12 => (zq_let (if s_1.1 < v_12 then v_12 else s_1.1) fun v_15 => (zq_let (s_1.2 + 1) fun v_17 => some (.inl (v_15, v_17))))))))) zq_N (0, 0)).bind (fun y_4 : Int32 => some (y_4)))
abbrev rm_X1_greatestDegree : Room := { frames := 3, cells := 0, slots := 0, locals := 64 }
theorem dX1_greatestDegree_0 : decode cX1_greatestDegree 0 = .ok (.iconst 0, 1) := by decide +kernel
theorem dX1_greatestDegree_1 : decode cX1_greatestDegree 1 = .ok (.istore_n 2, 1) := by decide +kernel
theorem dX1_greatestDegree_2 : decode cX1_greatestDegree 2 = .ok (.iconst 0, 1) := by decide +kernel
theorem dX1_greatestDegree_3 : decode cX1_greatestDegree 3 = .ok (.istore_n 3, 1) := by decide +kernel
theorem dX1_greatestDegree_4 : decode cX1_greatestDegree 4 = .ok (.iload_n 3, 1) := by decide +kernel
theorem dX1_greatestDegree_5 : decode cX1_greatestDegree 5 = .ok (.aload_n 0, 1) := by decide +kernel
theorem dX1_greatestDegree_6 : decode cX1_greatestDegree 6 = .ok (.getfield 9, 3) := by decide +kernel
theorem dX1_greatestDegree_9 : decode cX1_greatestDegree 9 = .ok (.if_icmp .ge 20, 3) := by decide +kernel
theorem dX1_greatestDegree_12 : decode cX1_greatestDegree 12 = .ok (.iload_n 2, 1) := by decide +kernel
theorem dX1_greatestDegree_13 : decode cX1_greatestDegree 13 = .ok (.aload_n 0, 1) := by decide +kernel
theorem dX1_greatestDegree_14 : decode cX1_greatestDegree 14 = .ok (.iload_n 1, 1) := by decide +kernel
theorem dX1_greatestDegree_15 : decode cX1_greatestDegree 15 = .ok (.iload_n 3, 1) := by decide +kernel
theorem dX1_greatestDegree_16 : decode cX1_greatestDegree 16 = .ok (.invokevirtual 94, 3) := by decide +kernel
theorem dX1_greatestDegree_19 : decode cX1_greatestDegree 19 = .ok (.invokestatic 97, 3) := by decide +kernel
theorem dX1_greatestDegree_22 : decode cX1_greatestDegree 22 = .ok (.istore_n 2, 1) := by decide +kernel
theorem dX1_greatestDegree_23 : decode cX1_greatestDegree 23 = .ok (.iinc 3 1, 3) := by decide +kernel
theorem dX1_greatestDegree_26 : decode cX1_greatestDegree 26 = .ok (.goto (-22), 3) := by decide +kernel
theorem dX1_greatestDegree_29 : decode cX1_greatestDegree 29 = .ok (.iload_n 2, 1) := by decide +kernel
theorem dX1_greatestDegree_30 : decode cX1_greatestDegree 30 = .ok (.ireturn, 1) := by decide +kernel
set_option maxRecDepth 100000 in
set_option maxHeartbeats 4000000 in
theorem v_X1_greatestDegree {X : zq_X} (C : zq_C X RX1 cX1_greatestDegree 4 zq_all rm_X1_greatestDegree) {h : zq_H} {t : Nat} {x1 : Int32} (T : zq_T X none) (hn : X.2.2.2.2.2.2.2.2.1.name = yX1_greatestDegree.name) {out : Int32} (hF : f_X1_greatestDegree h t x1 = some out) (hE : zq_End X cX1_greatestDegree 0 0 (some (.int out)) h) : zq_W X 0 0 h 0 [(0, .ref t), (1, .int x1)] [] := by
  unfold f_X1_greatestDegree at hF
  refine zq_iconst (pc' := 1) C 0 dX1_greatestDegree_0 rfl (by decide) ?_
  refine zq_istore_n (lv' := [(2, .int 0), (0, .ref t), (1, .int x1)]) (pc' := 2) C dX1_greatestDegree_1 rfl rfl (by decide) rfl rfl ?_
  refine zq_iconst (pc' := 3) C 0 dX1_greatestDegree_2 rfl (by decide) ?_
  refine zq_istore_n (lv' := [(3, .int 0), (2, .int 0), (0, .ref t), (1, .int x1)]) (pc' := 4) C dX1_greatestDegree_3 rfl rfl (by decide) rfl rfl ?_
  refine zq_sub [2, 3, 1, 0] rfl ?_
  replace hF := zq_bd hF; obtain ⟨r_2, e_3, hF⟩ := hF
  refine zq_lpW (fun s_1 => zq_W X 0 0 h 4 [(0, .ref t), (1, .int x1), (2, .int s_1.1), (3, .int s_1.2)] []) (fun y_4 => zq_W X 0 0 h 29 [(2, .int y_4)] []) e_3 (fun s_1 q_8 hF hrec_6 hex_7 => ?_) ?_
  · skip
    refine zq_iload_n (pc' := 5) C dX1_greatestDegree_4 rfl rfl rfl ?_
    refine zq_aload_n (pc' := 6) C dX1_greatestDegree_5 rfl rfl rfl ?_
    replace hF := zq_bd hF; obtain ⟨v_9, e_10, hF⟩ := hF
    refine zq_getI (j := 0) (pc' := 9) C zq_K1 zq_in1w (Or.inl wd_21) (by decide) rfl dX1_greatestDegree_6 rfl e_10 ?_
    refine zq_icmp_ge (pc' := 12) C 29 dX1_greatestDegree_9 (by decide) rfl (fun c_11 => ?_) (fun c_11 => ?_)
    · have hF := (zq_ifp hF c_11)
      skip
      cases hF
      exact zq_sub [2] rfl (hex_7 _ rfl)
    · have hF := (zq_ifn hF c_11)
      refine zq_iload_n (pc' := 13) C dX1_greatestDegree_12 rfl rfl rfl ?_
      refine zq_aload_n (pc' := 14) C dX1_greatestDegree_13 rfl rfl rfl ?_
      refine zq_iload_n (pc' := 15) C dX1_greatestDegree_14 rfl rfl rfl ?_
      refine zq_iload_n (pc' := 16) C dX1_greatestDegree_15 rfl rfl rfl ?_
      replace hF := zq_ck_e hF; obtain ⟨e_14, hF⟩ := hF
      replace hF := zq_bd hF; obtain ⟨v_12, e_13, hF⟩ := hF
      refine zq_cV (pc' := 19) C (c_X1_degreeIn e_13) yv_X1_degreeIn wd_114 zq_K1 e_14 dX1_greatestDegree_16 rfl rfl rfl ⟨Nat.le_of_ble_eq_true rfl, Nat.le_of_ble_eq_true rfl⟩ (Nat.le_of_ble_eq_true rfl) ⟨rfl, rfl⟩ ⟨Nat.le_of_ble_eq_true rfl, Nat.le_of_ble_eq_true rfl⟩ rfl ?_
      refine zq_mmax (pc' := 22) C wd_117 wd_118 wd_107 wd_119 dX1_greatestDegree_19 rfl (by decide) (Nat.le_of_ble_eq_true rfl) ⟨Nat.le_of_ble_eq_true rfl, Nat.le_of_ble_eq_true rfl⟩ ?_
      replace hF := zq_let_e hF; obtain ⟨v_15, e_16, hF⟩ := hF
      refine zq_istore_n (lv' := [(2, .int v_15), (0, .ref t), (1, .int x1), (3, .int s_1.2)]) (pc' := 23) C dX1_greatestDegree_22 rfl rfl (by decide) e_16 rfl ?_
      replace hF := zq_let_e hF; obtain ⟨v_17, e_18, hF⟩ := hF
      refine zq_iinc (lv' := [(3, .int v_17), (2, .int v_15), (0, .ref t), (1, .int x1)]) (pc' := 26) C dX1_greatestDegree_23 rfl (by decide) 3 rfl e_18 rfl ?_
      refine zq_goto C 4 dX1_greatestDegree_26 (by decide) ?_
      cases hF
      exact zq_sub [2, 3, 1, 0] rfl (hrec_6 _ rfl)
  · skip
    obtain ⟨y_4, rfl⟩ : ∃ z9, z9 = r_2 := ⟨_, rfl⟩
    show zq_W X 0 0 h 29 [(2, .int y_4)] []
    refine zq_iload_n (pc' := 30) C dX1_greatestDegree_29 rfl rfl rfl ?_
    have hF := Option.some.inj hF
    subst hF
    exact hE _ _ _ _ (Nat.le_of_ble_eq_true rfl) (Nat.le_of_ble_eq_true rfl) dX1_greatestDegree_30
theorem c_X1_greatestDegree {h : zq_H} {t : Nat} {x1 : Int32} {out : Int32} (hF : f_X1_greatestDegree h t x1 = some out) : zq_M none yX1_greatestDegree (Cond.code yX1_greatestDegree cX1_greatestDegree 4 (some .int) :: zq_all) rm_X1_greatestDegree [.ref t, .int x1] h (some (.int out)) h := zq_met2 (own := RX1) (by decide +kernel) rfl (Nat.le_of_ble_eq_true rfl) rfl ⟨.int, rfl, rfl⟩ (fun X C T hn hE => v_X1_greatestDegree C T hn hF hE)
theorem yv_X1_greatestDegree : zq_calV yX1_greatestDegree RX1 cX1_greatestDegree 4 (some .int) 1 := ⟨by decide +kernel, wd_120, wd_349, wd_350, wd_27⟩
def f_X1_maskInPart (h : zq_H) (t : Nat) (x1 : Int32) (x2 : Int32) (r3 : Nat) : Option Int32 := ((zq_lp (σ := Int32 × Int32) (ρ := Int32) (fun s_1 => (Option.bind (zq_gi h t 1 1) fun v_9 => (if v_9 ≤ s_1.2 then some (.inr s_1.1) else (Option.bind (zq_gr h t 1 2) fun v_12 => (Option.bind (zq_ai h v_12 s_1.2) fun v_14 => (Option.bind (zq_gr h t 1 3) fun v_16 => (Option.bind (zq_ai h v_16 s_1.2) fun v_18 => (zq_let (((1 : Int32) <<< (v_14 &&& 31)) ||| ((1 : Int32) <<< (v_18 &&& 31))) fun v_20 => (Option.bind (f_X5_isIn h x1 s_1.2) fun v_22 => (if v_22 = false then (zq_let (s_1.2 + 1) fun v_25 => some (.inl (s_1.1, v_25))) else (if (x2 &&& v_20) = v_20 then (Option.bind (zq_gr h t 1 2) fun v_30 => (Option.bind (zq_ai h v_30 s_1.2) fun v_32 => (Option.bind (f_J6_bitCount_0f7a4 h (x2 &&& (((1 : Int32) <<< (v_32 &&& 31)) - 1))) fun v_34 => (Option.bind (zq_gr h t 1 3) fun v_36 => (Option.bind (zq_ai h v_36 s_1.2) fun v_38 => (Option.bind (f_J6_bitCount_0f7a4 h (x2 &&& (((1 : Int32) <<< (v_38 &&& 31)) - 1))) fun v_40 => (zq_ck h r3 1 fun _ => (Option.bind (f_X1_numberOf h r3 v_34 v_40) fun v_42 => (if v_42 = (-1) then (zq_let (s_1.1 ||| 0) fun v_50 => (zq_let (s_1.2 + 1) fun v_52 => some (.inl (v_50, v_52)))) else (zq_let (s_1.1 ||| ((1 : Int32) <<< (v_42 &&& 31))) fun v_46 => (zq_let (s_1.2 + 1) fun v_48 => some (.inl (v_46, v_48))))))))))))) else (zq_let (s_1.2 + 1) fun v_28 => some (.inl (s_1.1, v_28)))))))))))))) zq_N (0, 0)).bind (fun y_4 : Int32 => some (y_4)))
abbrev rm_X1_maskInPart : Room := { frames := 2, cells := 0, slots := 0, locals := 43 }
theorem dX1_maskInPart_0 : decode cX1_maskInPart 0 = .ok (.iconst 0, 1) := by decide +kernel
theorem dX1_maskInPart_1 : decode cX1_maskInPart 1 = .ok (.istore 4, 2) := by decide +kernel
theorem dX1_maskInPart_3 : decode cX1_maskInPart 3 = .ok (.iconst 0, 1) := by decide +kernel
theorem dX1_maskInPart_4 : decode cX1_maskInPart 4 = .ok (.istore 5, 2) := by decide +kernel
theorem dX1_maskInPart_6 : decode cX1_maskInPart 6 = .ok (.iload 5, 2) := by decide +kernel
theorem dX1_maskInPart_8 : decode cX1_maskInPart 8 = .ok (.aload_n 0, 1) := by decide +kernel
theorem dX1_maskInPart_9 : decode cX1_maskInPart 9 = .ok (.getfield 15, 3) := by decide +kernel
theorem dX1_maskInPart_12 : decode cX1_maskInPart 12 = .ok (.if_icmp .ge 113, 3) := by decide +kernel
theorem dX1_maskInPart_15 : decode cX1_maskInPart 15 = .ok (.iconst 1, 1) := by decide +kernel
theorem dX1_maskInPart_16 : decode cX1_maskInPart 16 = .ok (.aload_n 0, 1) := by decide +kernel
theorem dX1_maskInPart_17 : decode cX1_maskInPart 17 = .ok (.getfield 18, 3) := by decide +kernel
theorem dX1_maskInPart_20 : decode cX1_maskInPart 20 = .ok (.iload 5, 2) := by decide +kernel
theorem dX1_maskInPart_22 : decode cX1_maskInPart 22 = .ok (.iaload, 1) := by decide +kernel
theorem dX1_maskInPart_23 : decode cX1_maskInPart 23 = .ok (.ishl, 1) := by decide +kernel
theorem dX1_maskInPart_24 : decode cX1_maskInPart 24 = .ok (.iconst 1, 1) := by decide +kernel
theorem dX1_maskInPart_25 : decode cX1_maskInPart 25 = .ok (.aload_n 0, 1) := by decide +kernel
theorem dX1_maskInPart_26 : decode cX1_maskInPart 26 = .ok (.getfield 22, 3) := by decide +kernel
theorem dX1_maskInPart_29 : decode cX1_maskInPart 29 = .ok (.iload 5, 2) := by decide +kernel
theorem dX1_maskInPart_31 : decode cX1_maskInPart 31 = .ok (.iaload, 1) := by decide +kernel
theorem dX1_maskInPart_32 : decode cX1_maskInPart 32 = .ok (.ishl, 1) := by decide +kernel
theorem dX1_maskInPart_33 : decode cX1_maskInPart 33 = .ok (.ior, 1) := by decide +kernel
theorem dX1_maskInPart_34 : decode cX1_maskInPart 34 = .ok (.istore 6, 2) := by decide +kernel
theorem dX1_maskInPart_36 : decode cX1_maskInPart 36 = .ok (.iload_n 1, 1) := by decide +kernel
theorem dX1_maskInPart_37 : decode cX1_maskInPart 37 = .ok (.iload 5, 2) := by decide +kernel
theorem dX1_maskInPart_39 : decode cX1_maskInPart 39 = .ok (.invokestatic 79, 3) := by decide +kernel
theorem dX1_maskInPart_42 : decode cX1_maskInPart 42 = .ok (.ifCond .eq 77, 3) := by decide +kernel
theorem dX1_maskInPart_45 : decode cX1_maskInPart 45 = .ok (.iload_n 2, 1) := by decide +kernel
theorem dX1_maskInPart_46 : decode cX1_maskInPart 46 = .ok (.iload 6, 2) := by decide +kernel
theorem dX1_maskInPart_48 : decode cX1_maskInPart 48 = .ok (.iand, 1) := by decide +kernel
theorem dX1_maskInPart_49 : decode cX1_maskInPart 49 = .ok (.iload 6, 2) := by decide +kernel
theorem dX1_maskInPart_51 : decode cX1_maskInPart 51 = .ok (.if_icmp .ne 68, 3) := by decide +kernel
theorem dX1_maskInPart_54 : decode cX1_maskInPart 54 = .ok (.iload_n 2, 1) := by decide +kernel
theorem dX1_maskInPart_55 : decode cX1_maskInPart 55 = .ok (.iconst 1, 1) := by decide +kernel
theorem dX1_maskInPart_56 : decode cX1_maskInPart 56 = .ok (.aload_n 0, 1) := by decide +kernel
theorem dX1_maskInPart_57 : decode cX1_maskInPart 57 = .ok (.getfield 18, 3) := by decide +kernel
theorem dX1_maskInPart_60 : decode cX1_maskInPart 60 = .ok (.iload 5, 2) := by decide +kernel
theorem dX1_maskInPart_62 : decode cX1_maskInPart 62 = .ok (.iaload, 1) := by decide +kernel
theorem dX1_maskInPart_63 : decode cX1_maskInPart 63 = .ok (.ishl, 1) := by decide +kernel
theorem dX1_maskInPart_64 : decode cX1_maskInPart 64 = .ok (.iconst 1, 1) := by decide +kernel
theorem dX1_maskInPart_65 : decode cX1_maskInPart 65 = .ok (.isub, 1) := by decide +kernel
theorem dX1_maskInPart_66 : decode cX1_maskInPart 66 = .ok (.iand, 1) := by decide +kernel
theorem dX1_maskInPart_67 : decode cX1_maskInPart 67 = .ok (.invokestatic 67, 3) := by decide +kernel
theorem dX1_maskInPart_70 : decode cX1_maskInPart 70 = .ok (.istore 7, 2) := by decide +kernel
theorem dX1_maskInPart_72 : decode cX1_maskInPart 72 = .ok (.iload_n 2, 1) := by decide +kernel
theorem dX1_maskInPart_73 : decode cX1_maskInPart 73 = .ok (.iconst 1, 1) := by decide +kernel
theorem dX1_maskInPart_74 : decode cX1_maskInPart 74 = .ok (.aload_n 0, 1) := by decide +kernel
theorem dX1_maskInPart_75 : decode cX1_maskInPart 75 = .ok (.getfield 22, 3) := by decide +kernel
theorem dX1_maskInPart_78 : decode cX1_maskInPart 78 = .ok (.iload 5, 2) := by decide +kernel
theorem dX1_maskInPart_80 : decode cX1_maskInPart 80 = .ok (.iaload, 1) := by decide +kernel
theorem dX1_maskInPart_81 : decode cX1_maskInPart 81 = .ok (.ishl, 1) := by decide +kernel
theorem dX1_maskInPart_82 : decode cX1_maskInPart 82 = .ok (.iconst 1, 1) := by decide +kernel
theorem dX1_maskInPart_83 : decode cX1_maskInPart 83 = .ok (.isub, 1) := by decide +kernel
theorem dX1_maskInPart_84 : decode cX1_maskInPart 84 = .ok (.iand, 1) := by decide +kernel
theorem dX1_maskInPart_85 : decode cX1_maskInPart 85 = .ok (.invokestatic 67, 3) := by decide +kernel
theorem dX1_maskInPart_88 : decode cX1_maskInPart 88 = .ok (.istore 8, 2) := by decide +kernel
theorem dX1_maskInPart_90 : decode cX1_maskInPart 90 = .ok (.aload_n 3, 1) := by decide +kernel
theorem dX1_maskInPart_91 : decode cX1_maskInPart 91 = .ok (.iload 7, 2) := by decide +kernel
theorem dX1_maskInPart_93 : decode cX1_maskInPart 93 = .ok (.iload 8, 2) := by decide +kernel
theorem dX1_maskInPart_95 : decode cX1_maskInPart 95 = .ok (.invokevirtual 55, 3) := by decide +kernel
theorem dX1_maskInPart_98 : decode cX1_maskInPart 98 = .ok (.istore 9, 2) := by decide +kernel
theorem dX1_maskInPart_100 : decode cX1_maskInPart 100 = .ok (.iload 4, 2) := by decide +kernel
theorem dX1_maskInPart_102 : decode cX1_maskInPart 102 = .ok (.iload 9, 2) := by decide +kernel
theorem dX1_maskInPart_104 : decode cX1_maskInPart 104 = .ok (.iconst (-1), 1) := by decide +kernel
theorem dX1_maskInPart_105 : decode cX1_maskInPart 105 = .ok (.if_icmp .ne 7, 3) := by decide +kernel
theorem dX1_maskInPart_108 : decode cX1_maskInPart 108 = .ok (.iconst 0, 1) := by decide +kernel
theorem dX1_maskInPart_109 : decode cX1_maskInPart 109 = .ok (.goto 7, 3) := by decide +kernel
theorem dX1_maskInPart_112 : decode cX1_maskInPart 112 = .ok (.iconst 1, 1) := by decide +kernel
theorem dX1_maskInPart_113 : decode cX1_maskInPart 113 = .ok (.iload 9, 2) := by decide +kernel
theorem dX1_maskInPart_115 : decode cX1_maskInPart 115 = .ok (.ishl, 1) := by decide +kernel
theorem dX1_maskInPart_116 : decode cX1_maskInPart 116 = .ok (.ior, 1) := by decide +kernel
theorem dX1_maskInPart_117 : decode cX1_maskInPart 117 = .ok (.istore 4, 2) := by decide +kernel
theorem dX1_maskInPart_119 : decode cX1_maskInPart 119 = .ok (.iinc 5 1, 3) := by decide +kernel
theorem dX1_maskInPart_122 : decode cX1_maskInPart 122 = .ok (.goto (-116), 3) := by decide +kernel
theorem dX1_maskInPart_125 : decode cX1_maskInPart 125 = .ok (.iload 4, 2) := by decide +kernel
theorem dX1_maskInPart_127 : decode cX1_maskInPart 127 = .ok (.ireturn, 1) := by decide +kernel
set_option maxRecDepth 100000 in
set_option maxHeartbeats 4000000 in
theorem v_X1_maskInPart {X : zq_X} (C : zq_C X RX1 cX1_maskInPart 10 zq_all rm_X1_maskInPart) {h : zq_H} {t : Nat} {x1 : Int32} {x2 : Int32} {r3 : Nat} (T : zq_T X none) (hn : X.2.2.2.2.2.2.2.2.1.name = yX1_maskInPart.name) {out : Int32} (hF : f_X1_maskInPart h t x1 x2 r3 = some out) (hE : zq_End X cX1_maskInPart 0 0 (some (.int out)) h) : zq_W X 0 0 h 0 [(0, .ref t), (1, .int x1), (2, .int x2), (3, .ref r3)] [] := by
  unfold f_X1_maskInPart at hF
  refine zq_iconst (pc' := 1) C 0 dX1_maskInPart_0 rfl (by decide) ?_
  refine zq_istore (lv' := [(4, .int 0), (0, .ref t), (1, .int x1), (2, .int x2), (3, .ref r3)]) (pc' := 3) C dX1_maskInPart_1 rfl (by decide) rfl rfl ?_
  refine zq_iconst (pc' := 4) C 0 dX1_maskInPart_3 rfl (by decide) ?_
  refine zq_istore (lv' := [(5, .int 0), (4, .int 0), (0, .ref t), (1, .int x1), (2, .int x2), (3, .ref r3)]) (pc' := 6) C dX1_maskInPart_4 rfl (by decide) rfl rfl ?_
  refine zq_sub [2, 3, 4, 5, 1, 0] rfl ?_
  replace hF := zq_bd hF; obtain ⟨r_2, e_3, hF⟩ := hF
  refine zq_lpW (fun s_1 => zq_W X 0 0 h 6 [(0, .ref t), (1, .int x1), (2, .int x2), (3, .ref r3), (4, .int s_1.1), (5, .int s_1.2)] []) (fun y_4 => zq_W X 0 0 h 125 [(4, .int y_4)] []) e_3 (fun s_1 q_8 hF hrec_6 hex_7 => ?_) ?_
  · skip
    refine zq_iload (pc' := 8) C dX1_maskInPart_6 rfl rfl ?_
    refine zq_aload_n (pc' := 9) C dX1_maskInPart_8 rfl rfl rfl ?_
    replace hF := zq_bd hF; obtain ⟨v_9, e_10, hF⟩ := hF
    refine zq_getI (j := 1) (pc' := 12) C zq_K1 zq_in1w (Or.inl wd_40) (by decide) rfl dX1_maskInPart_9 rfl e_10 ?_
    refine zq_icmp_ge (pc' := 15) C 125 dX1_maskInPart_12 (by decide) rfl (fun c_11 => ?_) (fun c_11 => ?_)
    · have hF := (zq_ifp hF c_11)
      skip
      cases hF
      exact zq_sub [4] rfl (hex_7 _ rfl)
    · have hF := (zq_ifn hF c_11)
      refine zq_iconst (pc' := 16) C 1 dX1_maskInPart_15 rfl (by decide) ?_
      refine zq_aload_n (pc' := 17) C dX1_maskInPart_16 rfl rfl rfl ?_
      replace hF := zq_bd hF; obtain ⟨v_12, e_13, hF⟩ := hF
      refine zq_getR (j := 2) (pc' := 20) C zq_K1 zq_in1w (Or.inl wd_65) (by decide) rfl dX1_maskInPart_17 rfl e_13 ?_
      refine zq_iload (pc' := 22) C dX1_maskInPart_20 rfl rfl ?_
      replace hF := zq_bd hF; obtain ⟨v_14, e_15, hF⟩ := hF
      refine zq_iaload (pc' := 23) C dX1_maskInPart_22 rfl e_15 ?_
      refine zq_ishl (pc' := 24) C dX1_maskInPart_23 rfl ?_
      refine zq_iconst (pc' := 25) C 1 dX1_maskInPart_24 rfl (by decide) ?_
      refine zq_aload_n (pc' := 26) C dX1_maskInPart_25 rfl rfl rfl ?_
      replace hF := zq_bd hF; obtain ⟨v_16, e_17, hF⟩ := hF
      refine zq_getR (j := 3) (pc' := 29) C zq_K1 zq_in1w (Or.inl wd_66) (by decide) rfl dX1_maskInPart_26 rfl e_17 ?_
      refine zq_iload (pc' := 31) C dX1_maskInPart_29 rfl rfl ?_
      replace hF := zq_bd hF; obtain ⟨v_18, e_19, hF⟩ := hF
      refine zq_iaload (pc' := 32) C dX1_maskInPart_31 rfl e_19 ?_
      refine zq_ishl (pc' := 33) C dX1_maskInPart_32 rfl ?_
      refine zq_ior (pc' := 34) C dX1_maskInPart_33 rfl ?_
      replace hF := zq_let_e hF; obtain ⟨v_20, e_21, hF⟩ := hF
      refine zq_istore (lv' := [(6, .int v_20), (0, .ref t), (1, .int x1), (2, .int x2), (3, .ref r3), (4, .int s_1.1), (5, .int s_1.2)]) (pc' := 36) C dX1_maskInPart_34 rfl (by decide) e_21 rfl ?_
      refine zq_iload_n (pc' := 37) C dX1_maskInPart_36 rfl rfl rfl ?_
      refine zq_iload (pc' := 39) C dX1_maskInPart_37 rfl rfl ?_
      replace hF := zq_bd hF; obtain ⟨v_22, e_23, hF⟩ := hF
      refine zq_cSN (host := "FlipPolygons") (pc' := 42) C (c_X5_isIn e_23) ys_X5_isIn (by decide +kernel) dX1_maskInPart_39 rfl rfl rfl ⟨Nat.le_of_ble_eq_true rfl, Nat.le_of_ble_eq_true rfl⟩ (Nat.le_of_ble_eq_true rfl) ⟨rfl, rfl⟩ ⟨Nat.le_of_ble_eq_true rfl, Nat.le_of_ble_eq_true rfl⟩ rfl ?_
      refine zq_if_eq (pc' := 45) C 119 dX1_maskInPart_42 (by decide) rfl (fun c_24 => ?_) (fun c_24 => ?_)
      · have hF := (zq_ifp hF (zq_b0.mp c_24))
        skip
        replace hF := zq_let_e hF; obtain ⟨v_25, e_26, hF⟩ := hF
        refine zq_iinc (lv' := [(5, .int v_25), (6, .int v_20), (0, .ref t), (1, .int x1), (2, .int x2), (3, .ref r3), (4, .int s_1.1)]) (pc' := 122) C dX1_maskInPart_119 rfl (by decide) 6 rfl e_26 rfl ?_
        refine zq_goto C 6 dX1_maskInPart_122 (by decide) ?_
        cases hF
        exact zq_sub [2, 3, 4, 5, 6, 0] rfl (hrec_6 _ rfl)
      · have hF := (zq_ifn hF (fun q => c_24 (zq_b0.mpr q)))
        refine zq_iload_n (pc' := 46) C dX1_maskInPart_45 rfl rfl rfl ?_
        refine zq_iload (pc' := 48) C dX1_maskInPart_46 rfl rfl ?_
        refine zq_iand (pc' := 49) C dX1_maskInPart_48 rfl ?_
        refine zq_iload (pc' := 51) C dX1_maskInPart_49 rfl rfl ?_
        refine zq_icmp_ne (pc' := 54) C 119 dX1_maskInPart_51 (by decide) rfl (fun c_27 => ?_) (fun c_27 => ?_)
        · have hF := (zq_ifn hF c_27)
          skip
          replace hF := zq_let_e hF; obtain ⟨v_28, e_29, hF⟩ := hF
          refine zq_iinc (lv' := [(5, .int v_28), (6, .int v_20), (0, .ref t), (1, .int x1), (2, .int x2), (3, .ref r3), (4, .int s_1.1)]) (pc' := 122) C dX1_maskInPart_119 rfl (by decide) 6 rfl e_29 rfl ?_
          refine zq_goto C 6 dX1_maskInPart_122 (by decide) ?_
          cases hF
          exact zq_sub [2, 3, 4, 5, 6, 0] rfl (hrec_6 _ rfl)
        · have hF := (zq_ifp hF c_27)
          refine zq_iload_n (pc' := 55) C dX1_maskInPart_54 rfl rfl rfl ?_
          refine zq_iconst (pc' := 56) C 1 dX1_maskInPart_55 rfl (by decide) ?_
          refine zq_aload_n (pc' := 57) C dX1_maskInPart_56 rfl rfl rfl ?_
          replace hF := zq_bd hF; obtain ⟨v_30, e_31, hF⟩ := hF
          refine zq_getR (j := 2) (pc' := 60) C zq_K1 zq_in1w (Or.inl wd_65) (by decide) rfl dX1_maskInPart_57 rfl e_31 ?_
          refine zq_iload (pc' := 62) C dX1_maskInPart_60 rfl rfl ?_
          replace hF := zq_bd hF; obtain ⟨v_32, e_33, hF⟩ := hF
          refine zq_iaload (pc' := 63) C dX1_maskInPart_62 rfl e_33 ?_
          refine zq_ishl (pc' := 64) C dX1_maskInPart_63 rfl ?_
          refine zq_iconst (pc' := 65) C 1 dX1_maskInPart_64 rfl (by decide) ?_
          refine zq_isub (pc' := 66) C dX1_maskInPart_65 rfl ?_
          refine zq_iand (pc' := 67) C dX1_maskInPart_66 rfl ?_
          replace hF := zq_bd hF; obtain ⟨v_34, e_35, hF⟩ := hF
          refine zq_cS (pc' := 70) C (c_J6_bitCount_0f7a4 e_35) ys_J6_bitCount_0f7a4 wd_91 dX1_maskInPart_67 rfl rfl rfl ⟨Nat.le_of_ble_eq_true rfl, Nat.le_of_ble_eq_true rfl⟩ (Nat.le_of_ble_eq_true rfl) ⟨rfl, rfl⟩ ⟨Nat.le_of_ble_eq_true rfl, Nat.le_of_ble_eq_true rfl⟩ rfl ?_
          refine zq_istore (lv' := [(7, .int v_34), (6, .int v_20), (0, .ref t), (1, .int x1), (2, .int x2), (3, .ref r3), (4, .int s_1.1), (5, .int s_1.2)]) (pc' := 72) C dX1_maskInPart_70 rfl (by decide) rfl rfl ?_
          refine zq_iload_n (pc' := 73) C dX1_maskInPart_72 rfl rfl rfl ?_
          refine zq_iconst (pc' := 74) C 1 dX1_maskInPart_73 rfl (by decide) ?_
          refine zq_aload_n (pc' := 75) C dX1_maskInPart_74 rfl rfl rfl ?_
          replace hF := zq_bd hF; obtain ⟨v_36, e_37, hF⟩ := hF
          refine zq_getR (j := 3) (pc' := 78) C zq_K1 zq_in1w (Or.inl wd_66) (by decide) rfl dX1_maskInPart_75 rfl e_37 ?_
          refine zq_iload (pc' := 80) C dX1_maskInPart_78 rfl rfl ?_
          replace hF := zq_bd hF; obtain ⟨v_38, e_39, hF⟩ := hF
          refine zq_iaload (pc' := 81) C dX1_maskInPart_80 rfl e_39 ?_
          refine zq_ishl (pc' := 82) C dX1_maskInPart_81 rfl ?_
          refine zq_iconst (pc' := 83) C 1 dX1_maskInPart_82 rfl (by decide) ?_
          refine zq_isub (pc' := 84) C dX1_maskInPart_83 rfl ?_
          refine zq_iand (pc' := 85) C dX1_maskInPart_84 rfl ?_
          replace hF := zq_bd hF; obtain ⟨v_40, e_41, hF⟩ := hF
          refine zq_cS (pc' := 88) C (c_J6_bitCount_0f7a4 e_41) ys_J6_bitCount_0f7a4 wd_91 dX1_maskInPart_85 rfl rfl rfl ⟨Nat.le_of_ble_eq_true rfl, Nat.le_of_ble_eq_true rfl⟩ (Nat.le_of_ble_eq_true rfl) ⟨rfl, rfl⟩ ⟨Nat.le_of_ble_eq_true rfl, Nat.le_of_ble_eq_true rfl⟩ rfl ?_
          refine zq_istore (lv' := [(8, .int v_40), (7, .int v_34), (6, .int v_20), (0, .ref t), (1, .int x1), (2, .int x2), (3, .ref r3), (4, .int s_1.1), (5, .int s_1.2)]) (pc' := 90) C dX1_maskInPart_88 rfl (by decide) rfl rfl ?_
          refine zq_aload_n (pc' := 91) C dX1_maskInPart_90 rfl rfl rfl ?_
          refine zq_iload (pc' := 93) C dX1_maskInPart_91 rfl rfl ?_
          refine zq_iload (pc' := 95) C dX1_maskInPart_93 rfl rfl ?_
          replace hF := zq_ck_e hF; obtain ⟨e_44, hF⟩ := hF
          replace hF := zq_bd hF; obtain ⟨v_42, e_43, hF⟩ := hF
          refine zq_cV (pc' := 98) C (c_X1_numberOf e_43) yv_X1_numberOf wd_75 zq_K1 e_44 dX1_maskInPart_95 rfl rfl rfl ⟨Nat.le_of_ble_eq_true rfl, Nat.le_of_ble_eq_true rfl⟩ (Nat.le_of_ble_eq_true rfl) ⟨rfl, rfl⟩ ⟨Nat.le_of_ble_eq_true rfl, Nat.le_of_ble_eq_true rfl⟩ rfl ?_
          refine zq_istore (lv' := [(9, .int v_42), (8, .int v_40), (7, .int v_34), (6, .int v_20), (0, .ref t), (1, .int x1), (2, .int x2), (3, .ref r3), (4, .int s_1.1), (5, .int s_1.2)]) (pc' := 100) C dX1_maskInPart_98 rfl (by decide) rfl rfl ?_
          refine zq_iload (pc' := 102) C dX1_maskInPart_100 rfl rfl ?_
          refine zq_iload (pc' := 104) C dX1_maskInPart_102 rfl rfl ?_
          refine zq_iconst (pc' := 105) C (-1) dX1_maskInPart_104 rfl (by decide) ?_
          refine zq_icmp_ne (pc' := 108) C 112 dX1_maskInPart_105 (by decide) rfl (fun c_45 => ?_) (fun c_45 => ?_)
          · have hF := (zq_ifn hF c_45)
            skip
            refine zq_iconst (pc' := 113) C 1 dX1_maskInPart_112 rfl (by decide) ?_
            refine zq_iload (pc' := 115) C dX1_maskInPart_113 rfl rfl ?_
            refine zq_ishl (pc' := 116) C dX1_maskInPart_115 rfl ?_
            refine zq_ior (pc' := 117) C dX1_maskInPart_116 rfl ?_
            replace hF := zq_let_e hF; obtain ⟨v_46, e_47, hF⟩ := hF
            refine zq_istore (lv' := [(4, .int v_46), (9, .int v_42), (8, .int v_40), (7, .int v_34), (6, .int v_20), (0, .ref t), (1, .int x1), (2, .int x2), (3, .ref r3), (5, .int s_1.2)]) (pc' := 119) C dX1_maskInPart_117 rfl (by decide) e_47 rfl ?_
            replace hF := zq_let_e hF; obtain ⟨v_48, e_49, hF⟩ := hF
            refine zq_iinc (lv' := [(5, .int v_48), (4, .int v_46), (9, .int v_42), (8, .int v_40), (7, .int v_34), (6, .int v_20), (0, .ref t), (1, .int x1), (2, .int x2), (3, .ref r3)]) (pc' := 122) C dX1_maskInPart_119 rfl (by decide) 9 rfl e_49 rfl ?_
            refine zq_goto C 6 dX1_maskInPart_122 (by decide) ?_
            cases hF
            exact zq_sub [6, 7, 8, 9, 1, 0] rfl (hrec_6 _ rfl)
          · have hF := (zq_ifp hF c_45)
            refine zq_iconst (pc' := 109) C 0 dX1_maskInPart_108 rfl (by decide) ?_
            refine zq_goto C 116 dX1_maskInPart_109 (by decide) ?_
            refine zq_ior (pc' := 117) C dX1_maskInPart_116 rfl ?_
            replace hF := zq_let_e hF; obtain ⟨v_50, e_51, hF⟩ := hF
            refine zq_istore (lv' := [(4, .int v_50), (9, .int v_42), (8, .int v_40), (7, .int v_34), (6, .int v_20), (0, .ref t), (1, .int x1), (2, .int x2), (3, .ref r3), (5, .int s_1.2)]) (pc' := 119) C dX1_maskInPart_117 rfl (by decide) e_51 rfl ?_
            replace hF := zq_let_e hF; obtain ⟨v_52, e_53, hF⟩ := hF
            refine zq_iinc (lv' := [(5, .int v_52), (4, .int v_50), (9, .int v_42), (8, .int v_40), (7, .int v_34), (6, .int v_20), (0, .ref t), (1, .int x1), (2, .int x2), (3, .ref r3)]) (pc' := 122) C dX1_maskInPart_119 rfl (by decide) 9 rfl e_53 rfl ?_
            refine zq_goto C 6 dX1_maskInPart_122 (by decide) ?_
            cases hF
            exact zq_sub [6, 7, 8, 9, 1, 0] rfl (hrec_6 _ rfl)
  · skip
    obtain ⟨y_4, rfl⟩ : ∃ z9, z9 = r_2 := ⟨_, rfl⟩
    show zq_W X 0 0 h 125 [(4, .int y_4)] []
    refine zq_iload (pc' := 127) C dX1_maskInPart_125 rfl rfl ?_
    have hF := Option.some.inj hF
    subst hF
    exact hE _ _ _ _ (Nat.le_of_ble_eq_true rfl) (Nat.le_of_ble_eq_true rfl) dX1_maskInPart_127
theorem c_X1_maskInPart {h : zq_H} {t : Nat} {x1 : Int32} {x2 : Int32} {r3 : Nat} {out : Int32} (hF : f_X1_maskInPart h t x1 x2 r3 = some out) : zq_M none yX1_maskInPart (Cond.code yX1_maskInPart cX1_maskInPart 10 (some .int) :: zq_all) rm_X1_maskInPart [.ref t, .int x1, .int x2, .ref r3] h (some (.int out)) h := zq_met2 (own := RX1) (by decide +kernel) rfl (Nat.le_of_ble_eq_true rfl) rfl ⟨.int, rfl, rfl⟩ (fun X C T hn hE => v_X1_maskInPart C T hn hF hE)
theorem yv_X1_maskInPart : zq_calV yX1_maskInPart RX1 cX1_maskInPart 10 (some .int) 3 := ⟨by decide +kernel, wd_121, wd_378, wd_379, wd_27⟩
