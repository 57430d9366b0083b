def f_L_begin (h : zq_H) (r0 : Nat) (x1 : Int32) (r2 : Nat) : Option (Int32 × zq_H) := (zq_ck h r0 5 fun _ => (Option.bind (f_X5_begin h r0 x1) fun v_1 => (Sum.elim (fun q_4 => (Option.bind (zq_sL q_4.2 r2 0 (q_4.1 : Int32).toInt64) fun h_5 => some ((0, h_5)))) (fun q_4 => (if q_4.1 = 0 then some ((1, q_4.2)) else none)) v_1)))
abbrev rm_L_begin : Room := { frames := 7, cells := 1, slots := 6, locals := 121 }
theorem dL_begin_0 : decode cL_begin 0 = .ok (.aload_n 2, 1) := by decide +kernel
theorem dL_begin_1 : decode cL_begin 1 = .ok (.iconst 0, 1) := by decide +kernel
theorem dL_begin_2 : decode cL_begin 2 = .ok (.aload_n 0, 1) := by decide +kernel
theorem dL_begin_3 : decode cL_begin 3 = .ok (.iload_n 1, 1) := by decide +kernel
theorem dL_begin_4 : decode cL_begin 4 = .ok (.invokevirtual 7, 3) := by decide +kernel
theorem dL_begin_7 : decode cL_begin 7 = .ok (.i2l, 1) := by decide +kernel
theorem dL_begin_8 : decode cL_begin 8 = .ok (.lastore, 1) := by decide +kernel
theorem dL_begin_9 : decode cL_begin 9 = .ok (.goto 6, 3) := by decide +kernel
theorem dL_begin_12 : decode cL_begin 12 = .ok (.astore_n 3, 1) := by decide +kernel
theorem dL_begin_13 : decode cL_begin 13 = .ok (.iconst 1, 1) := by decide +kernel
theorem dL_begin_14 : decode cL_begin 14 = .ok (.ireturn, 1) := by decide +kernel
theorem dL_begin_15 : decode cL_begin 15 = .ok (.iconst 0, 1) := by decide +kernel
theorem dL_begin_16 : decode cL_begin 16 = .ok (.ireturn, 1) := by decide +kernel
set_option maxRecDepth 100000 in
set_option maxHeartbeats 4000000 in
theorem v_L_begin {X : zq_X} (C : zq_C X RL cL_begin 4 zq_all rm_L_begin) (htab : zq_Tab X (tableOf [(0, 9, 12, 13)])) {h : zq_H} {r0 : Nat} {x1 : Int32} {r2 : Nat} {out : (Int32 × zq_H)} (hF : f_L_begin h r0 x1 r2 = some out) (hE : zq_End X cL_begin 1 6 (some (.int out.1)) out.2) : zq_W X 0 0 h 0 [(0, .ref r0), (1, .int x1), (2, .ref r2)] [] := by
  unfold f_L_begin at hF
  refine zq_aload_n (pc' := 1) C dL_begin_0 rfl rfl rfl ?_
  refine zq_iconst (pc' := 2) C 0 dL_begin_1 rfl (by decide) ?_
  refine zq_aload_n (pc' := 3) C dL_begin_2 rfl rfl rfl ?_
  refine zq_iload_n (pc' := 4) C dL_begin_3 rfl rfl rfl ?_
  replace hF := zq_ck_e hF; obtain ⟨e_3, hF⟩ := hF
  replace hF := zq_bd hF; obtain ⟨v_1, e_2, hF⟩ := hF
  refine zq_callVx (pc' := 7) C (c_X5_begin e_2) yv_X5_begin wd_696 zq_K5 e_3 dL_begin_4 rfl rfl rfl ⟨Nat.le_of_ble_eq_true rfl, Nat.le_of_ble_eq_true rfl⟩ (Nat.le_of_ble_eq_true rfl) ⟨Nat.le_of_ble_eq_true rfl, Nat.le_of_ble_eq_true rfl⟩ (fun rv h9 ho => ?_) (fun nm h9 ho => ?_)
  · rcases v_1 with q_4 | q_4
    · replace ho : Sum.inl (some (Value.int q_4.1), q_4.2) = Sum.inl (rv, h9) := ho
      cases ho
      dsimp only [Sum.elim_inl] at hF
      show zq_W X 1 6 q_4.2 7 [(0, .ref r0), (1, .int x1), (2, .ref r2)] [.int q_4.1, .int 0, .ref r2]
      refine zq_i2l (pc' := 8) C dL_begin_7 rfl ?_
      replace hF := zq_bd hF; obtain ⟨h_5, e_6, hF⟩ := hF
      refine zq_lastore (pc' := 9) C dL_begin_8 rfl e_6 ?_
      refine zq_goto C 15 dL_begin_9 (by decide) ?_
      refine zq_iconst (pc' := 16) C 0 dL_begin_15 rfl (by decide) ?_
      have hF := Option.some.inj hF
      subst hF
      exact hE _ _ _ _ (Nat.le_of_ble_eq_true rfl) (Nat.le_of_ble_eq_true rfl) dL_begin_16
    · replace ho : Sum.inr (zq_en q_4.1, q_4.2) = Sum.inl (rv, h9) := ho
      cases ho
  · rcases v_1 with q_4 | q_4
    · replace ho : Sum.inl (some (Value.int q_4.1), q_4.2) = Sum.inr (nm, h9) := ho
      cases ho
    · replace ho : Sum.inr (zq_en q_4.1, q_4.2) = Sum.inr (nm, h9) := ho
      cases ho
      dsimp only [Sum.elim_inr] at hF
      by_cases c_7 : q_4.1 = 0
      · replace hF := zq_ifp hF c_7
        rw [c_7]
        refine zq_catch (pc' := 12) (cells := 1) (slots := 6) C htab 0 (by decide) [] ⟨0, 9, 12, 13⟩ [] rfl (fun z hz => by cases hz) (by decide) (by decide) wd_695 rfl (fun w_8 => ?_)
        refine zq_astoreR_n (lv' := [(3, .retAddr w_8), (0, .ref r0), (1, .int x1), (2, .ref r2)]) (pc' := 13) C dL_begin_12 rfl rfl (by decide) rfl ?_
        refine zq_iconst (pc' := 14) C 1 dL_begin_13 rfl (by decide) ?_
        have hF := Option.some.inj hF
        subst hF
        exact hE _ _ _ _ (Nat.le_of_ble_eq_true rfl) (Nat.le_of_ble_eq_true rfl) dL_begin_14
      replace hF := zq_ifn hF c_7
      cases hF
theorem c_L_begin {h : zq_H} {r0 : Nat} {x1 : Int32} {r2 : Nat} {out : (Int32 × zq_H)} (hF : f_L_begin h r0 x1 r2 = some out) : zq_Mx yL_begin (Cond.codeWith yL_begin cL_begin 4 (some .int) [(0, 9, 12, 13)] :: zq_all) rm_L_begin [.ref r0, .int x1, .ref r2] h (.inl (some (.int out.1), out.2)) := zq_metxH (own := RL) (by decide +kernel) rfl (Nat.le_of_ble_eq_true rfl) rfl (fun X C htab hE => v_L_begin C htab hF hE)
theorem yl_L_begin : zq_calL yL_begin cL_begin 4 [(0, 9, 12, 13)] 3 := ⟨by decide +kernel, wd_699, wd_788, wd_789⟩
def f_L_flip (h : zq_H) (r0 : Nat) (x1 : Int32) (x2 : Int32) (x3 : Int32) (r4 : Nat) : Option (Int32 × zq_H) := (zq_ck h r0 5 fun _ => (Option.bind (f_X5_flip h r0 x1 x2 x3) fun v_1 => (Sum.elim (fun q_4 => (Option.bind (zq_sL q_4.2 r4 0 (q_4.1 : Int32).toInt64) fun h_5 => some ((0, h_5)))) (fun q_4 => (if q_4.1 = 1 then some ((1, q_4.2)) else (if q_4.1 = 2 then some ((2, q_4.2)) else none))) v_1)))
abbrev rm_L_flip : Room := { frames := 7, cells := 1, slots := 6, locals := 122 }
theorem dL_flip_0 : decode cL_flip 0 = .ok (.aload 4, 2) := by decide +kernel
theorem dL_flip_2 : decode cL_flip 2 = .ok (.iconst 0, 1) := by decide +kernel
theorem dL_flip_3 : decode cL_flip 3 = .ok (.aload_n 0, 1) := by decide +kernel
theorem dL_flip_4 : decode cL_flip 4 = .ok (.iload_n 1, 1) := by decide +kernel
theorem dL_flip_5 : decode cL_flip 5 = .ok (.iload_n 2, 1) := by decide +kernel
theorem dL_flip_6 : decode cL_flip 6 = .ok (.iload_n 3, 1) := by decide +kernel
theorem dL_flip_7 : decode cL_flip 7 = .ok (.invokevirtual 15, 3) := by decide +kernel
theorem dL_flip_10 : decode cL_flip 10 = .ok (.i2l, 1) := by decide +kernel
theorem dL_flip_11 : decode cL_flip 11 = .ok (.lastore, 1) := by decide +kernel
theorem dL_flip_12 : decode cL_flip 12 = .ok (.goto 11, 3) := by decide +kernel
theorem dL_flip_15 : decode cL_flip 15 = .ok (.astore 5, 2) := by decide +kernel
theorem dL_flip_17 : decode cL_flip 17 = .ok (.iconst 1, 1) := by decide +kernel
theorem dL_flip_18 : decode cL_flip 18 = .ok (.ireturn, 1) := by decide +kernel
theorem dL_flip_19 : decode cL_flip 19 = .ok (.astore 5, 2) := by decide +kernel
theorem dL_flip_21 : decode cL_flip 21 = .ok (.iconst 2, 1) := by decide +kernel
theorem dL_flip_22 : decode cL_flip 22 = .ok (.ireturn, 1) := by decide +kernel
theorem dL_flip_23 : decode cL_flip 23 = .ok (.iconst 0, 1) := by decide +kernel
theorem dL_flip_24 : decode cL_flip 24 = .ok (.ireturn, 1) := by decide +kernel
set_option maxRecDepth 100000 in
set_option maxHeartbeats 4000000 in
theorem v_L_flip {X : zq_X} (C : zq_C X RL cL_flip 6 zq_all rm_L_flip) (htab : zq_Tab X (tableOf [(0, 12, 15, 19), (0, 12, 19, 21)])) {h : zq_H} {r0 : Nat} {x1 : Int32} {x2 : Int32} {x3 : Int32} {r4 : Nat} {out : (Int32 × zq_H)} (hF : f_L_flip h r0 x1 x2 x3 r4 = some out) (hE : zq_End X cL_flip 1 6 (some (.int out.1)) out.2) : zq_W X 0 0 h 0 [(0, .ref r0), (1, .int x1), (2, .int x2), (3, .int x3), (4, .ref r4)] [] := by
  unfold f_L_flip at hF
  refine zq_aload (pc' := 2) C dL_flip_0 rfl rfl ?_
  refine zq_iconst (pc' := 3) C 0 dL_flip_2 rfl (by decide) ?_
  refine zq_aload_n (pc' := 4) C dL_flip_3 rfl rfl rfl ?_
  refine zq_iload_n (pc' := 5) C dL_flip_4 rfl rfl rfl ?_
  refine zq_iload_n (pc' := 6) C dL_flip_5 rfl rfl rfl ?_
  refine zq_iload_n (pc' := 7) C dL_flip_6 rfl rfl rfl ?_
  replace hF := zq_ck_e hF; obtain ⟨e_3, hF⟩ := hF
  replace hF := zq_bd hF; obtain ⟨v_1, e_2, hF⟩ := hF
  refine zq_callVx (pc' := 10) C (c_X5_flip e_2) yv_X5_flip wd_702 zq_K5 e_3 dL_flip_7 rfl rfl rfl ⟨Nat.le_of_ble_eq_true rfl, Nat.le_of_ble_eq_true rfl⟩ (Nat.le_of_ble_eq_true rfl) ⟨Nat.le_of_ble_eq_true rfl, Nat.le_of_ble_eq_true rfl⟩ (fun rv h9 ho => ?_) (fun nm h9 ho => ?_)
  · rcases v_1 with q_4 | q_4
    · replace ho : Sum.inl (some (Value.int q_4.1), q_4.2) = Sum.inl (rv, h9) := ho
      cases ho
      dsimp only [Sum.elim_inl] at hF
      show zq_W X 1 6 q_4.2 10 [(0, .ref r0), (1, .int x1), (2, .int x2), (3, .int x3), (4, .ref r4)] [.int q_4.1, .int 0, .ref r4]
      refine zq_i2l (pc' := 11) C dL_flip_10 rfl ?_
      replace hF := zq_bd hF; obtain ⟨h_5, e_6, hF⟩ := hF
      refine zq_lastore (pc' := 12) C dL_flip_11 rfl e_6 ?_
      refine zq_goto C 23 dL_flip_12 (by decide) ?_
      refine zq_iconst (pc' := 24) C 0 dL_flip_23 rfl (by decide) ?_
      have hF := Option.some.inj hF
      subst hF
      exact hE _ _ _ _ (Nat.le_of_ble_eq_true rfl) (Nat.le_of_ble_eq_true rfl) dL_flip_24
    · replace ho : Sum.inr (zq_en q_4.1, q_4.2) = Sum.inl (rv, h9) := ho
      cases ho
  · rcases v_1 with q_4 | q_4
    · replace ho : Sum.inl (some (Value.int q_4.1), q_4.2) = Sum.inr (nm, h9) := ho
      cases ho
    · replace ho : Sum.inr (zq_en q_4.1, q_4.2) = Sum.inr (nm, h9) := ho
      cases ho
      dsimp only [Sum.elim_inr] at hF
      by_cases c_7 : q_4.1 = 1
      · replace hF := zq_ifp hF c_7
        rw [c_7]
        refine zq_catch (pc' := 15) (cells := 1) (slots := 6) C htab 1 (by decide) [] ⟨0, 12, 15, 19⟩ [⟨0, 12, 19, 21⟩] rfl (fun z hz => by cases hz) (by decide) (by decide) wd_700 rfl (fun w_8 => ?_)
        refine zq_astoreR (lv' := [(5, .retAddr w_8), (0, .ref r0), (1, .int x1), (2, .int x2), (3, .int x3), (4, .ref r4)]) (pc' := 17) C dL_flip_15 rfl (by decide) rfl ?_
        refine zq_iconst (pc' := 18) C 1 dL_flip_17 rfl (by decide) ?_
        have hF := Option.some.inj hF
        subst hF
        exact hE _ _ _ _ (Nat.le_of_ble_eq_true rfl) (Nat.le_of_ble_eq_true rfl) dL_flip_18
      replace hF := zq_ifn hF c_7
      by_cases c_9 : q_4.1 = 2
      · replace hF := zq_ifp hF c_9
        rw [c_9]
        refine zq_catch (pc' := 19) (cells := 1) (slots := 6) C htab 2 (by decide) [⟨0, 12, 15, 19⟩] ⟨0, 12, 19, 21⟩ [] rfl (fun z hz => by simp only [List.mem_cons, List.not_mem_nil, or_false] at hz; rcases hz with rfl; exact Or.inr ⟨by decide, 1, by decide, by decide, wd_700⟩) (by decide) (by decide) wd_701 rfl (fun w_10 => ?_)
        refine zq_astoreR (lv' := [(5, .retAddr w_10), (0, .ref r0), (1, .int x1), (2, .int x2), (3, .int x3), (4, .ref r4)]) (pc' := 21) C dL_flip_19 rfl (by decide) rfl ?_
        refine zq_iconst (pc' := 22) C 2 dL_flip_21 rfl (by decide) ?_
        have hF := Option.some.inj hF
        subst hF
        exact hE _ _ _ _ (Nat.le_of_ble_eq_true rfl) (Nat.le_of_ble_eq_true rfl) dL_flip_22
      replace hF := zq_ifn hF c_9
      cases hF
theorem c_L_flip {h : zq_H} {r0 : Nat} {x1 : Int32} {x2 : Int32} {x3 : Int32} {r4 : Nat} {out : (Int32 × zq_H)} (hF : f_L_flip h r0 x1 x2 x3 r4 = some out) : zq_Mx yL_flip (Cond.codeWith yL_flip cL_flip 6 (some .int) [(0, 12, 15, 19), (0, 12, 19, 21)] :: zq_all) rm_L_flip [.ref r0, .int x1, .int x2, .int x3, .ref r4] h (.inl (some (.int out.1), out.2)) := zq_metxH (own := RL) (by decide +kernel) rfl (Nat.le_of_ble_eq_true rfl) rfl (fun X C htab hE => v_L_flip C htab hF hE)
theorem yl_L_flip : zq_calL yL_flip cL_flip 6 [(0, 12, 15, 19), (0, 12, 19, 21)] 5 := ⟨by decide +kernel, wd_705, wd_797, wd_789⟩
def f_L_fan (h : zq_H) (r0 : Nat) (x1 : Int32) (x2 : Int32) (r3 : Nat) : Option (Int32 × zq_H) := (zq_ck h r0 5 fun _ => (Option.bind (f_X5_fan h r0 x1 x2) fun v_1 => (Sum.elim (fun q_4 => (Option.bind (zq_sL q_4.2 r3 0 (q_4.1 : Int32).toInt64) fun h_5 => some ((0, h_5)))) (fun q_4 => (if q_4.1 = 1 then some ((1, q_4.2)) else none)) v_1)))
abbrev rm_L_fan : Room := { frames := 7, cells := 1, slots := 6, locals := 122 }
theorem dL_fan_0 : decode cL_fan 0 = .ok (.aload_n 3, 1) := by decide +kernel
theorem dL_fan_1 : decode cL_fan 1 = .ok (.iconst 0, 1) := by decide +kernel
theorem dL_fan_2 : decode cL_fan 2 = .ok (.aload_n 0, 1) := by decide +kernel
theorem dL_fan_3 : decode cL_fan 3 = .ok (.iload_n 1, 1) := by decide +kernel
theorem dL_fan_4 : decode cL_fan 4 = .ok (.iload_n 2, 1) := by decide +kernel
theorem dL_fan_5 : decode cL_fan 5 = .ok (.invokevirtual 23, 3) := by decide +kernel
theorem dL_fan_8 : decode cL_fan 8 = .ok (.i2l, 1) := by decide +kernel
theorem dL_fan_9 : decode cL_fan 9 = .ok (.lastore, 1) := by decide +kernel
theorem dL_fan_10 : decode cL_fan 10 = .ok (.goto 7, 3) := by decide +kernel
theorem dL_fan_13 : decode cL_fan 13 = .ok (.astore 4, 2) := by decide +kernel
theorem dL_fan_15 : decode cL_fan 15 = .ok (.iconst 1, 1) := by decide +kernel
theorem dL_fan_16 : decode cL_fan 16 = .ok (.ireturn, 1) := by decide +kernel
theorem dL_fan_17 : decode cL_fan 17 = .ok (.iconst 0, 1) := by decide +kernel
theorem dL_fan_18 : decode cL_fan 18 = .ok (.ireturn, 1) := by decide +kernel
set_option maxRecDepth 100000 in
set_option maxHeartbeats 4000000 in
theorem v_L_fan {X : zq_X} (C : zq_C X RL cL_fan 5 zq_all rm_L_fan) (htab : zq_Tab X (tableOf [(0, 10, 13, 19)])) {h : zq_H} {r0 : Nat} {x1 : Int32} {x2 : Int32} {r3 : Nat} {out : (Int32 × zq_H)} (hF : f_L_fan h r0 x1 x2 r3 = some out) (hE : zq_End X cL_fan 1 6 (some (.int out.1)) out.2) : zq_W X 0 0 h 0 [(0, .ref r0), (1, .int x1), (2, .int x2), (3, .ref r3)] [] := by
  unfold f_L_fan at hF
  refine zq_aload_n (pc' := 1) C dL_fan_0 rfl rfl rfl ?_
  refine zq_iconst (pc' := 2) C 0 dL_fan_1 rfl (by decide) ?_
  refine zq_aload_n (pc' := 3) C dL_fan_2 rfl rfl rfl ?_
  refine zq_iload_n (pc' := 4) C dL_fan_3 rfl rfl rfl ?_
  refine zq_iload_n (pc' := 5) C dL_fan_4 rfl rfl rfl ?_
  replace hF := zq_ck_e hF; obtain ⟨e_3, hF⟩ := hF
  replace hF := zq_bd hF; obtain ⟨v_1, e_2, hF⟩ := hF
  refine zq_callVx (pc' := 8) C (c_X5_fan e_2) yv_X5_fan wd_706 zq_K5 e_3 dL_fan_5 rfl rfl rfl ⟨Nat.le_of_ble_eq_true rfl, Nat.le_of_ble_eq_true rfl⟩ (Nat.le_of_ble_eq_true rfl) ⟨Nat.le_of_ble_eq_true rfl, Nat.le_of_ble_eq_true rfl⟩ (fun rv h9 ho => ?_) (fun nm h9 ho => ?_)
  · rcases v_1 with q_4 | q_4
    · replace ho : Sum.inl (some (Value.int q_4.1), q_4.2) = Sum.inl (rv, h9) := ho
      cases ho
      dsimp only [Sum.elim_inl] at hF
      show zq_W X 1 6 q_4.2 8 [(0, .ref r0), (1, .int x1), (2, .int x2), (3, .ref r3)] [.int q_4.1, .int 0, .ref r3]
      refine zq_i2l (pc' := 9) C dL_fan_8 rfl ?_
      replace hF := zq_bd hF; obtain ⟨h_5, e_6, hF⟩ := hF
      refine zq_lastore (pc' := 10) C dL_fan_9 rfl e_6 ?_
      refine zq_goto C 17 dL_fan_10 (by decide) ?_
      refine zq_iconst (pc' := 18) C 0 dL_fan_17 rfl (by decide) ?_
      have hF := Option.some.inj hF
      subst hF
      exact hE _ _ _ _ (Nat.le_of_ble_eq_true rfl) (Nat.le_of_ble_eq_true rfl) dL_fan_18
    · replace ho : Sum.inr (zq_en q_4.1, q_4.2) = Sum.inl (rv, h9) := ho
      cases ho
  · rcases v_1 with q_4 | q_4
    · replace ho : Sum.inl (some (Value.int q_4.1), q_4.2) = Sum.inr (nm, h9) := ho
      cases ho
    · replace ho : Sum.inr (zq_en q_4.1, q_4.2) = Sum.inr (nm, h9) := ho
      cases ho
      dsimp only [Sum.elim_inr] at hF
      by_cases c_7 : q_4.1 = 1
      · replace hF := zq_ifp hF c_7
        rw [c_7]
        refine zq_catch (pc' := 13) (cells := 1) (slots := 6) C htab 1 (by decide) [] ⟨0, 10, 13, 19⟩ [] rfl (fun z hz => by cases hz) (by decide) (by decide) wd_700 rfl (fun w_8 => ?_)
        refine zq_astoreR (lv' := [(4, .retAddr w_8), (0, .ref r0), (1, .int x1), (2, .int x2), (3, .ref r3)]) (pc' := 15) C dL_fan_13 rfl (by decide) rfl ?_
        refine zq_iconst (pc' := 16) C 1 dL_fan_15 rfl (by decide) ?_
        have hF := Option.some.inj hF
        subst hF
        exact hE _ _ _ _ (Nat.le_of_ble_eq_true rfl) (Nat.le_of_ble_eq_true rfl) dL_fan_16
      replace hF := zq_ifn hF c_7
      cases hF
theorem c_L_fan {h : zq_H} {r0 : Nat} {x1 : Int32} {x2 : Int32} {r3 : Nat} {out : (Int32 × zq_H)} (hF : f_L_fan h r0 x1 x2 r3 = some out) : zq_Mx yL_fan (Cond.codeWith yL_fan cL_fan 5 (some .int) [(0, 10, 13, 19)] :: zq_all) rm_L_fan [.ref r0, .int x1, .int x2, .ref r3] h (.inl (some (.int out.1), out.2)) := zq_metxH (own := RL) (by decide +kernel) rfl (Nat.le_of_ble_eq_true rfl) rfl (fun X C htab hE => v_L_fan C htab hF hE)
theorem yl_L_fan : zq_calL yL_fan cL_fan 5 [(0, 10, 13, 19)] 4 := ⟨by decide +kernel, wd_709, wd_802, wd_789⟩
def f_L_turn (h : zq_H) (r0 : Nat) (x1 : Int32) (x2 : Int32) (r3 : Nat) : Option (Int32 × zq_H) := (zq_ck h r0 5 fun _ => (Option.bind (f_X5_turn h r0 x1 x2) fun v_1 => (Sum.elim (fun q_4 => (Option.bind (zq_sL q_4.2 r3 0 (q_4.1 : Int32).toInt64) fun h_5 => some ((0, h_5)))) (fun q_4 => (if q_4.1 = 1 then some ((1, q_4.2)) else (if q_4.1 = 0 then some ((2, q_4.2)) else none))) v_1)))
abbrev rm_L_turn : Room := { frames := 7, cells := 1, slots := 6, locals := 121 }
theorem dL_turn_0 : decode cL_turn 0 = .ok (.aload_n 3, 1) := by decide +kernel
theorem dL_turn_1 : decode cL_turn 1 = .ok (.iconst 0, 1) := by decide +kernel
theorem dL_turn_2 : decode cL_turn 2 = .ok (.aload_n 0, 1) := by decide +kernel
theorem dL_turn_3 : decode cL_turn 3 = .ok (.iload_n 1, 1) := by decide +kernel
theorem dL_turn_4 : decode cL_turn 4 = .ok (.iload_n 2, 1) := by decide +kernel
theorem dL_turn_5 : decode cL_turn 5 = .ok (.invokevirtual 27, 3) := by decide +kernel
theorem dL_turn_8 : decode cL_turn 8 = .ok (.i2l, 1) := by decide +kernel
theorem dL_turn_9 : decode cL_turn 9 = .ok (.lastore, 1) := by decide +kernel
theorem dL_turn_10 : decode cL_turn 10 = .ok (.goto 11, 3) := by decide +kernel
theorem dL_turn_13 : decode cL_turn 13 = .ok (.astore 4, 2) := by decide +kernel
theorem dL_turn_15 : decode cL_turn 15 = .ok (.iconst 1, 1) := by decide +kernel
theorem dL_turn_16 : decode cL_turn 16 = .ok (.ireturn, 1) := by decide +kernel
theorem dL_turn_17 : decode cL_turn 17 = .ok (.astore 4, 2) := by decide +kernel
theorem dL_turn_19 : decode cL_turn 19 = .ok (.iconst 2, 1) := by decide +kernel
theorem dL_turn_20 : decode cL_turn 20 = .ok (.ireturn, 1) := by decide +kernel
theorem dL_turn_21 : decode cL_turn 21 = .ok (.iconst 0, 1) := by decide +kernel
theorem dL_turn_22 : decode cL_turn 22 = .ok (.ireturn, 1) := by decide +kernel
set_option maxRecDepth 100000 in
set_option maxHeartbeats 4000000 in
theorem v_L_turn {X : zq_X} (C : zq_C X RL cL_turn 5 zq_all rm_L_turn) (htab : zq_Tab X (tableOf [(0, 10, 13, 19), (0, 10, 17, 13)])) {h : zq_H} {r0 : Nat} {x1 : Int32} {x2 : Int32} {r3 : Nat} {out : (Int32 × zq_H)} (hF : f_L_turn h r0 x1 x2 r3 = some out) (hE : zq_End X cL_turn 1 6 (some (.int out.1)) out.2) : zq_W X 0 0 h 0 [(0, .ref r0), (1, .int x1), (2, .int x2), (3, .ref r3)] [] := by
  unfold f_L_turn at hF
  refine zq_aload_n (pc' := 1) C dL_turn_0 rfl rfl rfl ?_
  refine zq_iconst (pc' := 2) C 0 dL_turn_1 rfl (by decide) ?_
  refine zq_aload_n (pc' := 3) C dL_turn_2 rfl rfl rfl ?_
  refine zq_iload_n (pc' := 4) C dL_turn_3 rfl rfl rfl ?_
  refine zq_iload_n (pc' := 5) C dL_turn_4 rfl rfl rfl ?_
  replace hF := zq_ck_e hF; obtain ⟨e_3, hF⟩ := hF
  replace hF := zq_bd hF; obtain ⟨v_1, e_2, hF⟩ := hF
  refine zq_callVx (pc' := 8) C (c_X5_turn e_2) yv_X5_turn wd_710 zq_K5 e_3 dL_turn_5 rfl rfl rfl ⟨Nat.le_of_ble_eq_true rfl, Nat.le_of_ble_eq_true rfl⟩ (Nat.le_of_ble_eq_true rfl) ⟨Nat.le_of_ble_eq_true rfl, Nat.le_of_ble_eq_true rfl⟩ (fun rv h9 ho => ?_) (fun nm h9 ho => ?_)
  · rcases v_1 with q_4 | q_4
    · replace ho : Sum.inl (some (Value.int q_4.1), q_4.2) = Sum.inl (rv, h9) := ho
      cases ho
      dsimp only [Sum.elim_inl] at hF
      show zq_W X 1 6 q_4.2 8 [(0, .ref r0), (1, .int x1), (2, .int x2), (3, .ref r3)] [.int q_4.1, .int 0, .ref r3]
      refine zq_i2l (pc' := 9) C dL_turn_8 rfl ?_
      replace hF := zq_bd hF; obtain ⟨h_5, e_6, hF⟩ := hF
      refine zq_lastore (pc' := 10) C dL_turn_9 rfl e_6 ?_
      refine zq_goto C 21 dL_turn_10 (by decide) ?_
      refine zq_iconst (pc' := 22) C 0 dL_turn_21 rfl (by decide) ?_
      have hF := Option.some.inj hF
      subst hF
      exact hE _ _ _ _ (Nat.le_of_ble_eq_true rfl) (Nat.le_of_ble_eq_true rfl) dL_turn_22
    · replace ho : Sum.inr (zq_en q_4.1, q_4.2) = Sum.inl (rv, h9) := ho
      cases ho
  · rcases v_1 with q_4 | q_4
    · replace ho : Sum.inl (some (Value.int q_4.1), q_4.2) = Sum.inr (nm, h9) := ho
      cases ho
    · replace ho : Sum.inr (zq_en q_4.1, q_4.2) = Sum.inr (nm, h9) := ho
      cases ho
      dsimp only [Sum.elim_inr] at hF
      by_cases c_7 : q_4.1 = 1
      · replace hF := zq_ifp hF c_7
        rw [c_7]
        refine zq_catch (pc' := 13) (cells := 1) (slots := 6) C htab 1 (by decide) [] ⟨0, 10, 13, 19⟩ [⟨0, 10, 17, 13⟩] rfl (fun z hz => by cases hz) (by decide) (by decide) wd_700 rfl (fun w_8 => ?_)
        refine zq_astoreR (lv' := [(4, .retAddr w_8), (0, .ref r0), (1, .int x1), (2, .int x2), (3, .ref r3)]) (pc' := 15) C dL_turn_13 rfl (by decide) rfl ?_
        refine zq_iconst (pc' := 16) C 1 dL_turn_15 rfl (by decide) ?_
        have hF := Option.some.inj hF
        subst hF
        exact hE _ _ _ _ (Nat.le_of_ble_eq_true rfl) (Nat.le_of_ble_eq_true rfl) dL_turn_16
      replace hF := zq_ifn hF c_7
      by_cases c_9 : q_4.1 = 0
      · replace hF := zq_ifp hF c_9
        rw [c_9]
        refine zq_catch (pc' := 17) (cells := 1) (slots := 6) C htab 0 (by decide) [⟨0, 10, 13, 19⟩] ⟨0, 10, 17, 13⟩ [] rfl (fun z hz => by simp only [List.mem_cons, List.not_mem_nil, or_false] at hz; rcases hz with rfl; exact Or.inr ⟨by decide, 1, by decide, by decide, wd_700⟩) (by decide) (by decide) wd_695 rfl (fun w_10 => ?_)
        refine zq_astoreR (lv' := [(4, .retAddr w_10), (0, .ref r0), (1, .int x1), (2, .int x2), (3, .ref r3)]) (pc' := 19) C dL_turn_17 rfl (by decide) rfl ?_
        refine zq_iconst (pc' := 20) C 2 dL_turn_19 rfl (by decide) ?_
        have hF := Option.some.inj hF
        subst hF
        exact hE _ _ _ _ (Nat.le_of_ble_eq_true rfl) (Nat.le_of_ble_eq_true rfl) dL_turn_20
      replace hF := zq_ifn hF c_9
      cases hF
theorem c_L_turn {h : zq_H} {r0 : Nat} {x1 : Int32} {x2 : Int32} {r3 : Nat} {out : (Int32 × zq_H)} (hF : f_L_turn h r0 x1 x2 r3 = some out) : zq_Mx yL_turn (Cond.codeWith yL_turn cL_turn 5 (some .int) [(0, 10, 13, 19), (0, 10, 17, 13)] :: zq_all) rm_L_turn [.ref r0, .int x1, .int x2, .ref r3] h (.inl (some (.int out.1), out.2)) := zq_metxH (own := RL) (by decide +kernel) rfl (Nat.le_of_ble_eq_true rfl) rfl (fun X C htab hE => v_L_turn C htab hF hE)
theorem yl_L_turn : zq_calL yL_turn cL_turn 5 [(0, 10, 13, 19), (0, 10, 17, 13)] 4 := ⟨by decide +kernel, wd_713, wd_807, wd_789⟩
def f_L_mirror (h : zq_H) (r0 : Nat) (x1 : Int32) (r2 : Nat) : Option (Int32 × zq_H) := (zq_ck h r0 5 fun _ => (Option.bind (f_X5_mirror h r0 x1) fun v_1 => (Sum.elim (fun q_4 => (Option.bind (zq_sL q_4.2 r2 0 (q_4.1 : Int32).toInt64) fun h_5 => some ((0, h_5)))) (fun q_4 => (if q_4.1 = 1 then some ((1, q_4.2)) else none)) v_1)))
abbrev rm_L_mirror : Room := { frames := 7, cells := 1, slots := 6, locals := 120 }
theorem dL_mirror_0 : decode cL_mirror 0 = .ok (.aload_n 2, 1) := by decide +kernel
theorem dL_mirror_1 : decode cL_mirror 1 = .ok (.iconst 0, 1) := by decide +kernel
theorem dL_mirror_2 : decode cL_mirror 2 = .ok (.aload_n 0, 1) := by decide +kernel
theorem dL_mirror_3 : decode cL_mirror 3 = .ok (.iload_n 1, 1) := by decide +kernel
theorem dL_mirror_4 : decode cL_mirror 4 = .ok (.invokevirtual 30, 3) := by decide +kernel
theorem dL_mirror_7 : decode cL_mirror 7 = .ok (.i2l, 1) := by decide +kernel
theorem dL_mirror_8 : decode cL_mirror 8 = .ok (.lastore, 1) := by decide +kernel
theorem dL_mirror_9 : decode cL_mirror 9 = .ok (.goto 6, 3) := by decide +kernel
theorem dL_mirror_12 : decode cL_mirror 12 = .ok (.astore_n 3, 1) := by decide +kernel
theorem dL_mirror_13 : decode cL_mirror 13 = .ok (.iconst 1, 1) := by decide +kernel
theorem dL_mirror_14 : decode cL_mirror 14 = .ok (.ireturn, 1) := by decide +kernel
theorem dL_mirror_15 : decode cL_mirror 15 = .ok (.iconst 0, 1) := by decide +kernel
theorem dL_mirror_16 : decode cL_mirror 16 = .ok (.ireturn, 1) := by decide +kernel
set_option maxRecDepth 100000 in
set_option maxHeartbeats 4000000 in
theorem v_L_mirror {X : zq_X} (C : zq_C X RL cL_mirror 4 zq_all rm_L_mirror) (htab : zq_Tab X (tableOf [(0, 9, 12, 19)])) {h : zq_H} {r0 : Nat} {x1 : Int32} {r2 : Nat} {out : (Int32 × zq_H)} (hF : f_L_mirror h r0 x1 r2 = some out) (hE : zq_End X cL_mirror 1 6 (some (.int out.1)) out.2) : zq_W X 0 0 h 0 [(0, .ref r0), (1, .int x1), (2, .ref r2)] [] := by
  unfold f_L_mirror at hF
  refine zq_aload_n (pc' := 1) C dL_mirror_0 rfl rfl rfl ?_
  refine zq_iconst (pc' := 2) C 0 dL_mirror_1 rfl (by decide) ?_
  refine zq_aload_n (pc' := 3) C dL_mirror_2 rfl rfl rfl ?_
  refine zq_iload_n (pc' := 4) C dL_mirror_3 rfl rfl rfl ?_
  replace hF := zq_ck_e hF; obtain ⟨e_3, hF⟩ := hF
  replace hF := zq_bd hF; obtain ⟨v_1, e_2, hF⟩ := hF
  refine zq_callVx (pc' := 7) C (c_X5_mirror e_2) yv_X5_mirror wd_714 zq_K5 e_3 dL_mirror_4 rfl rfl rfl ⟨Nat.le_of_ble_eq_true rfl, Nat.le_of_ble_eq_true rfl⟩ (Nat.le_of_ble_eq_true rfl) ⟨Nat.le_of_ble_eq_true rfl, Nat.le_of_ble_eq_true rfl⟩ (fun rv h9 ho => ?_) (fun nm h9 ho => ?_)
  · rcases v_1 with q_4 | q_4
    · replace ho : Sum.inl (some (Value.int q_4.1), q_4.2) = Sum.inl (rv, h9) := ho
      cases ho
      dsimp only [Sum.elim_inl] at hF
      show zq_W X 1 6 q_4.2 7 [(0, .ref r0), (1, .int x1), (2, .ref r2)] [.int q_4.1, .int 0, .ref r2]
      refine zq_i2l (pc' := 8) C dL_mirror_7 rfl ?_
      replace hF := zq_bd hF; obtain ⟨h_5, e_6, hF⟩ := hF
      refine zq_lastore (pc' := 9) C dL_mirror_8 rfl e_6 ?_
      refine zq_goto C 15 dL_mirror_9 (by decide) ?_
      refine zq_iconst (pc' := 16) C 0 dL_mirror_15 rfl (by decide) ?_
      have hF := Option.some.inj hF
      subst hF
      exact hE _ _ _ _ (Nat.le_of_ble_eq_true rfl) (Nat.le_of_ble_eq_true rfl) dL_mirror_16
    · replace ho : Sum.inr (zq_en q_4.1, q_4.2) = Sum.inl (rv, h9) := ho
      cases ho
  · rcases v_1 with q_4 | q_4
    · replace ho : Sum.inl (some (Value.int q_4.1), q_4.2) = Sum.inr (nm, h9) := ho
      cases ho
    · replace ho : Sum.inr (zq_en q_4.1, q_4.2) = Sum.inr (nm, h9) := ho
      cases ho
      dsimp only [Sum.elim_inr] at hF
      by_cases c_7 : q_4.1 = 1
      · replace hF := zq_ifp hF c_7
        rw [c_7]
        refine zq_catch (pc' := 12) (cells := 1) (slots := 6) C htab 1 (by decide) [] ⟨0, 9, 12, 19⟩ [] rfl (fun z hz => by cases hz) (by decide) (by decide) wd_700 rfl (fun w_8 => ?_)
        refine zq_astoreR_n (lv' := [(3, .retAddr w_8), (0, .ref r0), (1, .int x1), (2, .ref r2)]) (pc' := 13) C dL_mirror_12 rfl rfl (by decide) rfl ?_
        refine zq_iconst (pc' := 14) C 1 dL_mirror_13 rfl (by decide) ?_
        have hF := Option.some.inj hF
        subst hF
        exact hE _ _ _ _ (Nat.le_of_ble_eq_true rfl) (Nat.le_of_ble_eq_true rfl) dL_mirror_14
      replace hF := zq_ifn hF c_7
      cases hF
theorem c_L_mirror {h : zq_H} {r0 : Nat} {x1 : Int32} {r2 : Nat} {out : (Int32 × zq_H)} (hF : f_L_mirror h r0 x1 r2 = some out) : zq_Mx yL_mirror (Cond.codeWith yL_mirror cL_mirror 4 (some .int) [(0, 9, 12, 19)] :: zq_all) rm_L_mirror [.ref r0, .int x1, .ref r2] h (.inl (some (.int out.1), out.2)) := zq_metxH (own := RL) (by decide +kernel) rfl (Nat.le_of_ble_eq_true rfl) rfl (fun X C htab hE => v_L_mirror C htab hF hE)
theorem yl_L_mirror : zq_calL yL_mirror cL_mirror 4 [(0, 9, 12, 19)] 3 := ⟨by decide +kernel, wd_717, wd_812, wd_789⟩
def f_L_lock (h : zq_H) (r0 : Nat) (x1 : Int32) (x2 : Int32) (x3 : Int32) (r4 : Nat) : Option (Int32 × zq_H) := (zq_ck h r0 5 fun _ => (Option.bind (f_X5_lock h r0 x1 x2 x3) fun v_1 => (Sum.elim (fun q_4 => (Option.bind (zq_sL q_4.2 r4 0 (q_4.1 : Int32).toInt64) fun h_5 => some ((0, h_5)))) (fun q_4 => (if q_4.1 = 1 then some ((1, q_4.2)) else (if q_4.1 = 2 then some ((2, q_4.2)) else none))) v_1)))
abbrev rm_L_lock : Room := { frames := 7, cells := 1, slots := 6, locals := 123 }
theorem dL_lock_0 : decode cL_lock 0 = .ok (.aload 4, 2) := by decide +kernel
theorem dL_lock_2 : decode cL_lock 2 = .ok (.iconst 0, 1) := by decide +kernel
theorem dL_lock_3 : decode cL_lock 3 = .ok (.aload_n 0, 1) := by decide +kernel
theorem dL_lock_4 : decode cL_lock 4 = .ok (.iload_n 1, 1) := by decide +kernel
theorem dL_lock_5 : decode cL_lock 5 = .ok (.iload_n 2, 1) := by decide +kernel
theorem dL_lock_6 : decode cL_lock 6 = .ok (.iload_n 3, 1) := by decide +kernel
theorem dL_lock_7 : decode cL_lock 7 = .ok (.invokevirtual 33, 3) := by decide +kernel
theorem dL_lock_10 : decode cL_lock 10 = .ok (.i2l, 1) := by decide +kernel
theorem dL_lock_11 : decode cL_lock 11 = .ok (.lastore, 1) := by decide +kernel
theorem dL_lock_12 : decode cL_lock 12 = .ok (.goto 11, 3) := by decide +kernel
theorem dL_lock_15 : decode cL_lock 15 = .ok (.astore 5, 2) := by decide +kernel
theorem dL_lock_17 : decode cL_lock 17 = .ok (.iconst 1, 1) := by decide +kernel
theorem dL_lock_18 : decode cL_lock 18 = .ok (.ireturn, 1) := by decide +kernel
theorem dL_lock_19 : decode cL_lock 19 = .ok (.astore 5, 2) := by decide +kernel
theorem dL_lock_21 : decode cL_lock 21 = .ok (.iconst 2, 1) := by decide +kernel
theorem dL_lock_22 : decode cL_lock 22 = .ok (.ireturn, 1) := by decide +kernel
theorem dL_lock_23 : decode cL_lock 23 = .ok (.iconst 0, 1) := by decide +kernel
theorem dL_lock_24 : decode cL_lock 24 = .ok (.ireturn, 1) := by decide +kernel
set_option maxRecDepth 100000 in
set_option maxHeartbeats 4000000 in
theorem v_L_lock {X : zq_X} (C : zq_C X RL cL_lock 6 zq_all rm_L_lock) (htab : zq_Tab X (tableOf [(0, 12, 15, 19), (0, 12, 19, 21)])) {h : zq_H} {r0 : Nat} {x1 : Int32} {x2 : Int32} {x3 : Int32} {r4 : Nat} {out : (Int32 × zq_H)} (hF : f_L_lock h r0 x1 x2 x3 r4 = some out) (hE : zq_End X cL_lock 1 6 (some (.int out.1)) out.2) : zq_W X 0 0 h 0 [(0, .ref r0), (1, .int x1), (2, .int x2), (3, .int x3), (4, .ref r4)] [] := by
  unfold f_L_lock at hF
  refine zq_aload (pc' := 2) C dL_lock_0 rfl rfl ?_
  refine zq_iconst (pc' := 3) C 0 dL_lock_2 rfl (by decide) ?_
  refine zq_aload_n (pc' := 4) C dL_lock_3 rfl rfl rfl ?_
  refine zq_iload_n (pc' := 5) C dL_lock_4 rfl rfl rfl ?_
  refine zq_iload_n (pc' := 6) C dL_lock_5 rfl rfl rfl ?_
  refine zq_iload_n (pc' := 7) C dL_lock_6 rfl rfl rfl ?_
  replace hF := zq_ck_e hF; obtain ⟨e_3, hF⟩ := hF
  replace hF := zq_bd hF; obtain ⟨v_1, e_2, hF⟩ := hF
  refine zq_callVx (pc' := 10) C (c_X5_lock e_2) yv_X5_lock wd_718 zq_K5 e_3 dL_lock_7 rfl rfl rfl ⟨Nat.le_of_ble_eq_true rfl, Nat.le_of_ble_eq_true rfl⟩ (Nat.le_of_ble_eq_true rfl) ⟨Nat.le_of_ble_eq_true rfl, Nat.le_of_ble_eq_true rfl⟩ (fun rv h9 ho => ?_) (fun nm h9 ho => ?_)
  · rcases v_1 with q_4 | q_4
    · replace ho : Sum.inl (some (Value.int q_4.1), q_4.2) = Sum.inl (rv, h9) := ho
      cases ho
      dsimp only [Sum.elim_inl] at hF
      show zq_W X 1 6 q_4.2 10 [(0, .ref r0), (1, .int x1), (2, .int x2), (3, .int x3), (4, .ref r4)] [.int q_4.1, .int 0, .ref r4]
      refine zq_i2l (pc' := 11) C dL_lock_10 rfl ?_
      replace hF := zq_bd hF; obtain ⟨h_5, e_6, hF⟩ := hF
      refine zq_lastore (pc' := 12) C dL_lock_11 rfl e_6 ?_
      refine zq_goto C 23 dL_lock_12 (by decide) ?_
      refine zq_iconst (pc' := 24) C 0 dL_lock_23 rfl (by decide) ?_
      have hF := Option.some.inj hF
      subst hF
      exact hE _ _ _ _ (Nat.le_of_ble_eq_true rfl) (Nat.le_of_ble_eq_true rfl) dL_lock_24
    · replace ho : Sum.inr (zq_en q_4.1, q_4.2) = Sum.inl (rv, h9) := ho
      cases ho
  · rcases v_1 with q_4 | q_4
    · replace ho : Sum.inl (some (Value.int q_4.1), q_4.2) = Sum.inr (nm, h9) := ho
      cases ho
    · replace ho : Sum.inr (zq_en q_4.1, q_4.2) = Sum.inr (nm, h9) := ho
      cases ho
      dsimp only [Sum.elim_inr] at hF
      by_cases c_7 : q_4.1 = 1
      · replace hF := zq_ifp hF c_7
        rw [c_7]
        refine zq_catch (pc' := 15) (cells := 1) (slots := 6) C htab 1 (by decide) [] ⟨0, 12, 15, 19⟩ [⟨0, 12, 19, 21⟩] rfl (fun z hz => by cases hz) (by decide) (by decide) wd_700 rfl (fun w_8 => ?_)
        refine zq_astoreR (lv' := [(5, .retAddr w_8), (0, .ref r0), (1, .int x1), (2, .int x2), (3, .int x3), (4, .ref r4)]) (pc' := 17) C dL_lock_15 rfl (by decide) rfl ?_
        refine zq_iconst (pc' := 18) C 1 dL_lock_17 rfl (by decide) ?_
        have hF := Option.some.inj hF
        subst hF
        exact hE _ _ _ _ (Nat.le_of_ble_eq_true rfl) (Nat.le_of_ble_eq_true rfl) dL_lock_18
      replace hF := zq_ifn hF c_7
      by_cases c_9 : q_4.1 = 2
      · replace hF := zq_ifp hF c_9
        rw [c_9]
        refine zq_catch (pc' := 19) (cells := 1) (slots := 6) C htab 2 (by decide) [⟨0, 12, 15, 19⟩] ⟨0, 12, 19, 21⟩ [] rfl (fun z hz => by simp only [List.mem_cons, List.not_mem_nil, or_false] at hz; rcases hz with rfl; exact Or.inr ⟨by decide, 1, by decide, by decide, wd_700⟩) (by decide) (by decide) wd_701 rfl (fun w_10 => ?_)
        refine zq_astoreR (lv' := [(5, .retAddr w_10), (0, .ref r0), (1, .int x1), (2, .int x2), (3, .int x3), (4, .ref r4)]) (pc' := 21) C dL_lock_19 rfl (by decide) rfl ?_
        refine zq_iconst (pc' := 22) C 2 dL_lock_21 rfl (by decide) ?_
        have hF := Option.some.inj hF
        subst hF
        exact hE _ _ _ _ (Nat.le_of_ble_eq_true rfl) (Nat.le_of_ble_eq_true rfl) dL_lock_22
      replace hF := zq_ifn hF c_9
      cases hF
theorem c_L_lock {h : zq_H} {r0 : Nat} {x1 : Int32} {x2 : Int32} {x3 : Int32} {r4 : Nat} {out : (Int32 × zq_H)} (hF : f_L_lock h r0 x1 x2 x3 r4 = some out) : zq_Mx yL_lock (Cond.codeWith yL_lock cL_lock 6 (some .int) [(0, 12, 15, 19), (0, 12, 19, 21)] :: zq_all) rm_L_lock [.ref r0, .int x1, .int x2, .int x3, .ref r4] h (.inl (some (.int out.1), out.2)) := zq_metxH (own := RL) (by decide +kernel) rfl (Nat.le_of_ble_eq_true rfl) rfl (fun X C htab hE => v_L_lock C htab hF hE)
theorem yl_L_lock : zq_calL yL_lock cL_lock 6 [(0, 12, 15, 19), (0, 12, 19, 21)] 5 := ⟨by decide +kernel, wd_721, wd_823, wd_789⟩
def f_L_walk (h : zq_H) (r0 : Nat) (x1 : Int32) (r2 : Nat) : Option (Int32 × zq_H) := (zq_ck h r0 5 fun _ => (Option.bind (f_X5_walk h r0 x1) fun v_1 => (Sum.elim (fun q_4 => (Option.bind (zq_sL q_4.2 r2 0 (q_4.1 : Int32).toInt64) fun h_5 => some ((0, h_5)))) (fun q_4 => (if q_4.1 = 0 then some ((1, q_4.2)) else (if q_4.1 = 2 then some ((2, q_4.2)) else none))) v_1)))
abbrev rm_L_walk : Room := { frames := 7, cells := 1, slots := 6, locals := 146 }
theorem dL_walk_0 : decode cL_walk 0 = .ok (.aload_n 2, 1) := by decide +kernel
theorem dL_walk_1 : decode cL_walk 1 = .ok (.iconst 0, 1) := by decide +kernel
theorem dL_walk_2 : decode cL_walk 2 = .ok (.aload_n 0, 1) := by decide +kernel
theorem dL_walk_3 : decode cL_walk 3 = .ok (.iload_n 1, 1) := by decide +kernel
theorem dL_walk_4 : decode cL_walk 4 = .ok (.invokevirtual 37, 3) := by decide +kernel
theorem dL_walk_7 : decode cL_walk 7 = .ok (.i2l, 1) := by decide +kernel
theorem dL_walk_8 : decode cL_walk 8 = .ok (.lastore, 1) := by decide +kernel
theorem dL_walk_9 : decode cL_walk 9 = .ok (.goto 9, 3) := by decide +kernel
theorem dL_walk_12 : decode cL_walk 12 = .ok (.astore_n 3, 1) := by decide +kernel
theorem dL_walk_13 : decode cL_walk 13 = .ok (.iconst 1, 1) := by decide +kernel
theorem dL_walk_14 : decode cL_walk 14 = .ok (.ireturn, 1) := by decide +kernel
theorem dL_walk_15 : decode cL_walk 15 = .ok (.astore_n 3, 1) := by decide +kernel
theorem dL_walk_16 : decode cL_walk 16 = .ok (.iconst 2, 1) := by decide +kernel
theorem dL_walk_17 : decode cL_walk 17 = .ok (.ireturn, 1) := by decide +kernel
theorem dL_walk_18 : decode cL_walk 18 = .ok (.iconst 0, 1) := by decide +kernel
theorem dL_walk_19 : decode cL_walk 19 = .ok (.ireturn, 1) := by decide +kernel
set_option maxRecDepth 100000 in
set_option maxHeartbeats 4000000 in
theorem v_L_walk {X : zq_X} (C : zq_C X RL cL_walk 4 zq_all rm_L_walk) (htab : zq_Tab X (tableOf [(0, 9, 12, 13), (0, 9, 15, 21)])) {h : zq_H} {r0 : Nat} {x1 : Int32} {r2 : Nat} {out : (Int32 × zq_H)} (hF : f_L_walk h r0 x1 r2 = some out) (hE : zq_End X cL_walk 1 6 (some (.int out.1)) out.2) : zq_W X 0 0 h 0 [(0, .ref r0), (1, .int x1), (2, .ref r2)] [] := by
  unfold f_L_walk at hF
  refine zq_aload_n (pc' := 1) C dL_walk_0 rfl rfl rfl ?_
  refine zq_iconst (pc' := 2) C 0 dL_walk_1 rfl (by decide) ?_
  refine zq_aload_n (pc' := 3) C dL_walk_2 rfl rfl rfl ?_
  refine zq_iload_n (pc' := 4) C dL_walk_3 rfl rfl rfl ?_
  replace hF := zq_ck_e hF; obtain ⟨e_3, hF⟩ := hF
  replace hF := zq_bd hF; obtain ⟨v_1, e_2, hF⟩ := hF
  refine zq_callVx (pc' := 7) C (c_X5_walk e_2) yv_X5_walk wd_722 zq_K5 e_3 dL_walk_4 rfl rfl rfl ⟨Nat.le_of_ble_eq_true rfl, Nat.le_of_ble_eq_true rfl⟩ (Nat.le_of_ble_eq_true rfl) ⟨Nat.le_of_ble_eq_true rfl, Nat.le_of_ble_eq_true rfl⟩ (fun rv h9 ho => ?_) (fun nm h9 ho => ?_)
  · rcases v_1 with q_4 | q_4
    · replace ho : Sum.inl (some (Value.int q_4.1), q_4.2) = Sum.inl (rv, h9) := ho
      cases ho
      dsimp only [Sum.elim_inl] at hF
      show zq_W X 1 6 q_4.2 7 [(0, .ref r0), (1, .int x1), (2, .ref r2)] [.int q_4.1, .int 0, .ref r2]
      refine zq_i2l (pc' := 8) C dL_walk_7 rfl ?_
      replace hF := zq_bd hF; obtain ⟨h_5, e_6, hF⟩ := hF
      refine zq_lastore (pc' := 9) C dL_walk_8 rfl e_6 ?_
      refine zq_goto C 18 dL_walk_9 (by decide) ?_
      refine zq_iconst (pc' := 19) C 0 dL_walk_18 rfl (by decide) ?_
      have hF := Option.some.inj hF
      subst hF
      exact hE _ _ _ _ (Nat.le_of_ble_eq_true rfl) (Nat.le_of_ble_eq_true rfl) dL_walk_19
    · replace ho : Sum.inr (zq_en q_4.1, q_4.2) = Sum.inl (rv, h9) := ho
      cases ho
  · rcases v_1 with q_4 | q_4
    · replace ho : Sum.inl (some (Value.int q_4.1), q_4.2) = Sum.inr (nm, h9) := ho
      cases ho
    · replace ho : Sum.inr (zq_en q_4.1, q_4.2) = Sum.inr (nm, h9) := ho
      cases ho
      dsimp only [Sum.elim_inr] at hF
      by_cases c_7 : q_4.1 = 0
      · replace hF := zq_ifp hF c_7
        rw [c_7]
        refine zq_catch (pc' := 12) (cells := 1) (slots := 6) C htab 0 (by decide) [] ⟨0, 9, 12, 13⟩ [⟨0, 9, 15, 21⟩] rfl (fun z hz => by cases hz) (by decide) (by decide) wd_695 rfl (fun w_8 => ?_)
        refine zq_astoreR_n (lv' := [(3, .retAddr w_8), (0, .ref r0), (1, .int x1), (2, .ref r2)]) (pc' := 13) C dL_walk_12 rfl rfl (by decide) rfl ?_
        refine zq_iconst (pc' := 14) C 1 dL_walk_13 rfl (by decide) ?_
        have hF := Option.some.inj hF
        subst hF
        exact hE _ _ _ _ (Nat.le_of_ble_eq_true rfl) (Nat.le_of_ble_eq_true rfl) dL_walk_14
      replace hF := zq_ifn hF c_7
      by_cases c_9 : q_4.1 = 2
      · replace hF := zq_ifp hF c_9
        rw [c_9]
        refine zq_catch (pc' := 15) (cells := 1) (slots := 6) C htab 2 (by decide) [⟨0, 9, 12, 13⟩] ⟨0, 9, 15, 21⟩ [] rfl (fun z hz => by simp only [List.mem_cons, List.not_mem_nil, or_false] at hz; rcases hz with rfl; exact Or.inr ⟨by decide, 0, by decide, by decide, wd_695⟩) (by decide) (by decide) wd_701 rfl (fun w_10 => ?_)
        refine zq_astoreR_n (lv' := [(3, .retAddr w_10), (0, .ref r0), (1, .int x1), (2, .ref r2)]) (pc' := 16) C dL_walk_15 rfl rfl (by decide) rfl ?_
        refine zq_iconst (pc' := 17) C 2 dL_walk_16 rfl (by decide) ?_
        have hF := Option.some.inj hF
        subst hF
        exact hE _ _ _ _ (Nat.le_of_ble_eq_true rfl) (Nat.le_of_ble_eq_true rfl) dL_walk_17
      replace hF := zq_ifn hF c_9
      cases hF
theorem c_L_walk {h : zq_H} {r0 : Nat} {x1 : Int32} {r2 : Nat} {out : (Int32 × zq_H)} (hF : f_L_walk h r0 x1 r2 = some out) : zq_Mx yL_walk (Cond.codeWith yL_walk cL_walk 4 (some .int) [(0, 9, 12, 13), (0, 9, 15, 21)] :: zq_all) rm_L_walk [.ref r0, .int x1, .ref r2] h (.inl (some (.int out.1), out.2)) := zq_metxH (own := RL) (by decide +kernel) rfl (Nat.le_of_ble_eq_true rfl) rfl (fun X C htab hE => v_L_walk C htab hF hE)
theorem yl_L_walk : zq_calL yL_walk cL_walk 4 [(0, 9, 12, 13), (0, 9, 15, 21)] 3 := ⟨by decide +kernel, wd_725, wd_828, wd_789⟩
def f_L_append (h : zq_H) (r0 : Nat) (x1 : Int32) (r2 : Nat) : Option (Int32 × zq_H) := (zq_ck h r0 5 fun _ => (Option.bind (f_X5_append h r0 x1) fun v_1 => (Sum.elim (fun q_4 => (Option.bind (zq_sL q_4.2 r2 0 (q_4.1 : Int32).toInt64) fun h_5 => some ((0, h_5)))) (fun q_4 => (if q_4.1 = 0 then some ((1, q_4.2)) else (if q_4.1 = 2 then some ((2, q_4.2)) else none))) v_1)))
abbrev rm_L_append : Room := { frames := 7, cells := 1, slots := 6, locals := 119 }
theorem dL_append_0 : decode cL_append 0 = .ok (.aload_n 2, 1) := by decide +kernel
theorem dL_append_1 : decode cL_append 1 = .ok (.iconst 0, 1) := by decide +kernel
theorem dL_append_2 : decode cL_append 2 = .ok (.aload_n 0, 1) := by decide +kernel
theorem dL_append_3 : decode cL_append 3 = .ok (.iload_n 1, 1) := by decide +kernel
theorem dL_append_4 : decode cL_append 4 = .ok (.invokevirtual 40, 3) := by decide +kernel
theorem dL_append_7 : decode cL_append 7 = .ok (.i2l, 1) := by decide +kernel
theorem dL_append_8 : decode cL_append 8 = .ok (.lastore, 1) := by decide +kernel
theorem dL_append_9 : decode cL_append 9 = .ok (.goto 9, 3) := by decide +kernel
theorem dL_append_12 : decode cL_append 12 = .ok (.astore_n 3, 1) := by decide +kernel
theorem dL_append_13 : decode cL_append 13 = .ok (.iconst 1, 1) := by decide +kernel
theorem dL_append_14 : decode cL_append 14 = .ok (.ireturn, 1) := by decide +kernel
theorem dL_append_15 : decode cL_append 15 = .ok (.astore_n 3, 1) := by decide +kernel
theorem dL_append_16 : decode cL_append 16 = .ok (.iconst 2, 1) := by decide +kernel
theorem dL_append_17 : decode cL_append 17 = .ok (.ireturn, 1) := by decide +kernel
theorem dL_append_18 : decode cL_append 18 = .ok (.iconst 0, 1) := by decide +kernel
theorem dL_append_19 : decode cL_append 19 = .ok (.ireturn, 1) := by decide +kernel
set_option maxRecDepth 100000 in
set_option maxHeartbeats 4000000 in
theorem v_L_append {X : zq_X} (C : zq_C X RL cL_append 4 zq_all rm_L_append) (htab : zq_Tab X (tableOf [(0, 9, 12, 13), (0, 9, 15, 21)])) {h : zq_H} {r0 : Nat} {x1 : Int32} {r2 : Nat} {out : (Int32 × zq_H)} (hF : f_L_append h r0 x1 r2 = some out) (hE : zq_End X cL_append 1 6 (some (.int out.1)) out.2) : zq_W X 0 0 h 0 [(0, .ref r0), (1, .int x1), (2, .ref r2)] [] := by
  unfold f_L_append at hF
  refine zq_aload_n (pc' := 1) C dL_append_0 rfl rfl rfl ?_
  refine zq_iconst (pc' := 2) C 0 dL_append_1 rfl (by decide) ?_
  refine zq_aload_n (pc' := 3) C dL_append_2 rfl rfl rfl ?_
  refine zq_iload_n (pc' := 4) C dL_append_3 rfl rfl rfl ?_
  replace hF := zq_ck_e hF; obtain ⟨e_3, hF⟩ := hF
  replace hF := zq_bd hF; obtain ⟨v_1, e_2, hF⟩ := hF
  refine zq_callVx (pc' := 7) C (c_X5_append e_2) yv_X5_append wd_727 zq_K5 e_3 dL_append_4 rfl rfl rfl ⟨Nat.le_of_ble_eq_true rfl, Nat.le_of_ble_eq_true rfl⟩ (Nat.le_of_ble_eq_true rfl) ⟨Nat.le_of_ble_eq_true rfl, Nat.le_of_ble_eq_true rfl⟩ (fun rv h9 ho => ?_) (fun nm h9 ho => ?_)
  · rcases v_1 with q_4 | q_4
    · replace ho : Sum.inl (some (Value.int q_4.1), q_4.2) = Sum.inl (rv, h9) := ho
      cases ho
      dsimp only [Sum.elim_inl] at hF
      show zq_W X 1 6 q_4.2 7 [(0, .ref r0), (1, .int x1), (2, .ref r2)] [.int q_4.1, .int 0, .ref r2]
      refine zq_i2l (pc' := 8) C dL_append_7 rfl ?_
      replace hF := zq_bd hF; obtain ⟨h_5, e_6, hF⟩ := hF
      refine zq_lastore (pc' := 9) C dL_append_8 rfl e_6 ?_
      refine zq_goto C 18 dL_append_9 (by decide) ?_
      refine zq_iconst (pc' := 19) C 0 dL_append_18 rfl (by decide) ?_
      have hF := Option.some.inj hF
      subst hF
      exact hE _ _ _ _ (Nat.le_of_ble_eq_true rfl) (Nat.le_of_ble_eq_true rfl) dL_append_19
    · replace ho : Sum.inr (zq_en q_4.1, q_4.2) = Sum.inl (rv, h9) := ho
      cases ho
  · rcases v_1 with q_4 | q_4
    · replace ho : Sum.inl (some (Value.int q_4.1), q_4.2) = Sum.inr (nm, h9) := ho
      cases ho
    · replace ho : Sum.inr (zq_en q_4.1, q_4.2) = Sum.inr (nm, h9) := ho
      cases ho
      dsimp only [Sum.elim_inr] at hF
      by_cases c_7 : q_4.1 = 0
      · replace hF := zq_ifp hF c_7
        rw [c_7]
        refine zq_catch (pc' := 12) (cells := 1) (slots := 6) C htab 0 (by decide) [] ⟨0, 9, 12, 13⟩ [⟨0, 9, 15, 21⟩] rfl (fun z hz => by cases hz) (by decide) (by decide) wd_695 rfl (fun w_8 => ?_)
        refine zq_astoreR_n (lv' := [(3, .retAddr w_8), (0, .ref r0), (1, .int x1), (2, .ref r2)]) (pc' := 13) C dL_append_12 rfl rfl (by decide) rfl ?_
        refine zq_iconst (pc' := 14) C 1 dL_append_13 rfl (by decide) ?_
        have hF := Option.some.inj hF
        subst hF
        exact hE _ _ _ _ (Nat.le_of_ble_eq_true rfl) (Nat.le_of_ble_eq_true rfl) dL_append_14
      replace hF := zq_ifn hF c_7
      by_cases c_9 : q_4.1 = 2
      · replace hF := zq_ifp hF c_9
        rw [c_9]
        refine zq_catch (pc' := 15) (cells := 1) (slots := 6) C htab 2 (by decide) [⟨0, 9, 12, 13⟩] ⟨0, 9, 15, 21⟩ [] rfl (fun z hz => by simp only [List.mem_cons, List.not_mem_nil, or_false] at hz; rcases hz with rfl; exact Or.inr ⟨by decide, 0, by decide, by decide, wd_695⟩) (by decide) (by decide) wd_701 rfl (fun w_10 => ?_)
        refine zq_astoreR_n (lv' := [(3, .retAddr w_10), (0, .ref r0), (1, .int x1), (2, .ref r2)]) (pc' := 16) C dL_append_15 rfl rfl (by decide) rfl ?_
        refine zq_iconst (pc' := 17) C 2 dL_append_16 rfl (by decide) ?_
        have hF := Option.some.inj hF
        subst hF
        exact hE _ _ _ _ (Nat.le_of_ble_eq_true rfl) (Nat.le_of_ble_eq_true rfl) dL_append_17
      replace hF := zq_ifn hF c_9
      cases hF
theorem c_L_append {h : zq_H} {r0 : Nat} {x1 : Int32} {r2 : Nat} {out : (Int32 × zq_H)} (hF : f_L_append h r0 x1 r2 = some out) : zq_Mx yL_append (Cond.codeWith yL_append cL_append 4 (some .int) [(0, 9, 12, 13), (0, 9, 15, 21)] :: zq_all) rm_L_append [.ref r0, .int x1, .ref r2] h (.inl (some (.int out.1), out.2)) := zq_metxH (own := RL) (by decide +kernel) rfl (Nat.le_of_ble_eq_true rfl) rfl (fun X C htab hE => v_L_append C htab hF hE)
theorem yl_L_append : zq_calL yL_append cL_append 4 [(0, 9, 12, 13), (0, 9, 15, 21)] 3 := ⟨by decide +kernel, wd_726, wd_833, wd_789⟩
def f_L_read (h : zq_H) (r0 : Nat) (x1 : Int32) (r2 : Nat) : Option (Int32 × zq_H) := (zq_ck h r0 5 fun _ => (Option.bind (f_X5_read h r0 x1) fun v_1 => (Sum.elim (fun q_4 => (Option.bind (zq_sL q_4.2 r2 0 (q_4.1 : Int32).toInt64) fun h_5 => some ((0, h_5)))) (fun q_4 => (if q_4.1 = 1 then some ((1, q_4.2)) else (if q_4.1 = 0 then some ((2, q_4.2)) else (if q_4.1 = 2 then some ((3, q_4.2)) else none)))) v_1)))
abbrev rm_L_read : Room := { frames := 7, cells := 1, slots := 6, locals := 131 }
theorem dL_read_0 : decode cL_read 0 = .ok (.aload_n 2, 1) := by decide +kernel
theorem dL_read_1 : decode cL_read 1 = .ok (.iconst 0, 1) := by decide +kernel
theorem dL_read_2 : decode cL_read 2 = .ok (.aload_n 0, 1) := by decide +kernel
theorem dL_read_3 : decode cL_read 3 = .ok (.iload_n 1, 1) := by decide +kernel
theorem dL_read_4 : decode cL_read 4 = .ok (.invokevirtual 43, 3) := by decide +kernel
theorem dL_read_7 : decode cL_read 7 = .ok (.i2l, 1) := by decide +kernel
theorem dL_read_8 : decode cL_read 8 = .ok (.lastore, 1) := by decide +kernel
theorem dL_read_9 : decode cL_read 9 = .ok (.goto 12, 3) := by decide +kernel
theorem dL_read_12 : decode cL_read 12 = .ok (.astore_n 3, 1) := by decide +kernel
theorem dL_read_13 : decode cL_read 13 = .ok (.iconst 1, 1) := by decide +kernel
theorem dL_read_14 : decode cL_read 14 = .ok (.ireturn, 1) := by decide +kernel
theorem dL_read_15 : decode cL_read 15 = .ok (.astore_n 3, 1) := by decide +kernel
theorem dL_read_16 : decode cL_read 16 = .ok (.iconst 2, 1) := by decide +kernel
theorem dL_read_17 : decode cL_read 17 = .ok (.ireturn, 1) := by decide +kernel
theorem dL_read_18 : decode cL_read 18 = .ok (.astore_n 3, 1) := by decide +kernel
theorem dL_read_19 : decode cL_read 19 = .ok (.iconst 3, 1) := by decide +kernel
theorem dL_read_20 : decode cL_read 20 = .ok (.ireturn, 1) := by decide +kernel
theorem dL_read_21 : decode cL_read 21 = .ok (.iconst 0, 1) := by decide +kernel
theorem dL_read_22 : decode cL_read 22 = .ok (.ireturn, 1) := by decide +kernel
set_option maxRecDepth 100000 in
set_option maxHeartbeats 4000000 in
theorem v_L_read {X : zq_X} (C : zq_C X RL cL_read 4 zq_all rm_L_read) (htab : zq_Tab X (tableOf [(0, 9, 12, 19), (0, 9, 15, 13), (0, 9, 18, 21)])) {h : zq_H} {r0 : Nat} {x1 : Int32} {r2 : Nat} {out : (Int32 × zq_H)} (hF : f_L_read h r0 x1 r2 = some out) (hE : zq_End X cL_read 1 6 (some (.int out.1)) out.2) : zq_W X 0 0 h 0 [(0, .ref r0), (1, .int x1), (2, .ref r2)] [] := by
  unfold f_L_read at hF
  refine zq_aload_n (pc' := 1) C dL_read_0 rfl rfl rfl ?_
  refine zq_iconst (pc' := 2) C 0 dL_read_1 rfl (by decide) ?_
  refine zq_aload_n (pc' := 3) C dL_read_2 rfl rfl rfl ?_
  refine zq_iload_n (pc' := 4) C dL_read_3 rfl rfl rfl ?_
  replace hF := zq_ck_e hF; obtain ⟨e_3, hF⟩ := hF
  replace hF := zq_bd hF; obtain ⟨v_1, e_2, hF⟩ := hF
  refine zq_callVx (pc' := 7) C (c_X5_read e_2) yv_X5_read wd_730 zq_K5 e_3 dL_read_4 rfl rfl rfl ⟨Nat.le_of_ble_eq_true rfl, Nat.le_of_ble_eq_true rfl⟩ (Nat.le_of_ble_eq_true rfl) ⟨Nat.le_of_ble_eq_true rfl, Nat.le_of_ble_eq_true rfl⟩ (fun rv h9 ho => ?_) (fun nm h9 ho => ?_)
  · rcases v_1 with q_4 | q_4
    · replace ho : Sum.inl (some (Value.int q_4.1), q_4.2) = Sum.inl (rv, h9) := ho
      cases ho
      dsimp only [Sum.elim_inl] at hF
      show zq_W X 1 6 q_4.2 7 [(0, .ref r0), (1, .int x1), (2, .ref r2)] [.int q_4.1, .int 0, .ref r2]
      refine zq_i2l (pc' := 8) C dL_read_7 rfl ?_
      replace hF := zq_bd hF; obtain ⟨h_5, e_6, hF⟩ := hF
      refine zq_lastore (pc' := 9) C dL_read_8 rfl e_6 ?_
      refine zq_goto C 21 dL_read_9 (by decide) ?_
      refine zq_iconst (pc' := 22) C 0 dL_read_21 rfl (by decide) ?_
      have hF := Option.some.inj hF
      subst hF
      exact hE _ _ _ _ (Nat.le_of_ble_eq_true rfl) (Nat.le_of_ble_eq_true rfl) dL_read_22
    · replace ho : Sum.inr (zq_en q_4.1, q_4.2) = Sum.inl (rv, h9) := ho
      cases ho
  · rcases v_1 with q_4 | q_4
    · replace ho : Sum.inl (some (Value.int q_4.1), q_4.2) = Sum.inr (nm, h9) := ho
      cases ho
    · replace ho : Sum.inr (zq_en q_4.1, q_4.2) = Sum.inr (nm, h9) := ho
      cases ho
      dsimp only [Sum.elim_inr] at hF
      by_cases c_7 : q_4.1 = 1
      · replace hF := zq_ifp hF c_7
        rw [c_7]
        refine zq_catch (pc' := 12) (cells := 1) (slots := 6) C htab 1 (by decide) [] ⟨0, 9, 12, 19⟩ [⟨0, 9, 15, 13⟩, ⟨0, 9, 18, 21⟩] rfl (fun z hz => by cases hz) (by decide) (by decide) wd_700 rfl (fun w_8 => ?_)
        refine zq_astoreR_n (lv' := [(3, .retAddr w_8), (0, .ref r0), (1, .int x1), (2, .ref r2)]) (pc' := 13) C dL_read_12 rfl rfl (by decide) rfl ?_
        refine zq_iconst (pc' := 14) C 1 dL_read_13 rfl (by decide) ?_
        have hF := Option.some.inj hF
        subst hF
        exact hE _ _ _ _ (Nat.le_of_ble_eq_true rfl) (Nat.le_of_ble_eq_true rfl) dL_read_14
      replace hF := zq_ifn hF c_7
      by_cases c_9 : q_4.1 = 0
      · replace hF := zq_ifp hF c_9
        rw [c_9]
        refine zq_catch (pc' := 15) (cells := 1) (slots := 6) C htab 0 (by decide) [⟨0, 9, 12, 19⟩] ⟨0, 9, 15, 13⟩ [⟨0, 9, 18, 21⟩] rfl (fun z hz => by simp only [List.mem_cons, List.not_mem_nil, or_false] at hz; rcases hz with rfl; exact Or.inr ⟨by decide, 1, by decide, by decide, wd_700⟩) (by decide) (by decide) wd_695 rfl (fun w_10 => ?_)
        refine zq_astoreR_n (lv' := [(3, .retAddr w_10), (0, .ref r0), (1, .int x1), (2, .ref r2)]) (pc' := 16) C dL_read_15 rfl rfl (by decide) rfl ?_
        refine zq_iconst (pc' := 17) C 2 dL_read_16 rfl (by decide) ?_
        have hF := Option.some.inj hF
        subst hF
        exact hE _ _ _ _ (Nat.le_of_ble_eq_true rfl) (Nat.le_of_ble_eq_true rfl) dL_read_17
      replace hF := zq_ifn hF c_9
      by_cases c_11 : q_4.1 = 2
      · replace hF := zq_ifp hF c_11
        rw [c_11]
        refine zq_catch (pc' := 18) (cells := 1) (slots := 6) C htab 2 (by decide) [⟨0, 9, 12, 19⟩, ⟨0, 9, 15, 13⟩] ⟨0, 9, 18, 21⟩ [] rfl (fun z hz => by simp only [List.mem_cons, List.not_mem_nil, or_false] at hz; exact hz.elim (fun e => by subst e; exact Or.inr ⟨by decide, 1, by decide, by decide, wd_700⟩) (fun e => by subst e; exact Or.inr ⟨by decide, 0, by decide, by decide, wd_695⟩)) (by decide) (by decide) wd_701 rfl (fun w_12 => ?_)
        refine zq_astoreR_n (lv' := [(3, .retAddr w_12), (0, .ref r0), (1, .int x1), (2, .ref r2)]) (pc' := 19) C dL_read_18 rfl rfl (by decide) rfl ?_
        refine zq_iconst (pc' := 20) C 3 dL_read_19 rfl (by decide) ?_
        have hF := Option.some.inj hF
        subst hF
        exact hE _ _ _ _ (Nat.le_of_ble_eq_true rfl) (Nat.le_of_ble_eq_true rfl) dL_read_20
      replace hF := zq_ifn hF c_11
      cases hF
theorem c_L_read {h : zq_H} {r0 : Nat} {x1 : Int32} {r2 : Nat} {out : (Int32 × zq_H)} (hF : f_L_read h r0 x1 r2 = some out) : zq_Mx yL_read (Cond.codeWith yL_read cL_read 4 (some .int) [(0, 9, 12, 19), (0, 9, 15, 13), (0, 9, 18, 21)] :: zq_all) rm_L_read [.ref r0, .int x1, .ref r2] h (.inl (some (.int out.1), out.2)) := zq_metxH (own := RL) (by decide +kernel) rfl (Nat.le_of_ble_eq_true rfl) rfl (fun X C htab hE => v_L_read C htab hF hE)
theorem yl_L_read : zq_calL yL_read cL_read 4 [(0, 9, 12, 19), (0, 9, 15, 13), (0, 9, 18, 21)] 3 := ⟨by decide +kernel, wd_733, wd_850, wd_789⟩
def f_L_take (h : zq_H) (r0 : Nat) (x1 : Int32) (r2 : Nat) : Option (Int32 × zq_H) := (zq_ck h r0 5 fun _ => (Option.bind (f_X5_take h r0 x1) fun v_1 => (Sum.elim (fun q_4 => (Option.bind (zq_sL q_4.2 r2 0 (q_4.1 : Int32).toInt64) fun h_5 => some ((0, h_5)))) (fun q_4 => (if q_4.1 = 1 then some ((1, q_4.2)) else none)) v_1)))
abbrev rm_L_take : Room := { frames := 7, cells := 1, slots := 6, locals := 119 }
theorem dL_take_0 : decode cL_take 0 = .ok (.aload_n 2, 1) := by decide +kernel
theorem dL_take_1 : decode cL_take 1 = .ok (.iconst 0, 1) := by decide +kernel
theorem dL_take_2 : decode cL_take 2 = .ok (.aload_n 0, 1) := by decide +kernel
theorem dL_take_3 : decode cL_take 3 = .ok (.iload_n 1, 1) := by decide +kernel
theorem dL_take_4 : decode cL_take 4 = .ok (.invokevirtual 46, 3) := by decide +kernel
theorem dL_take_7 : decode cL_take 7 = .ok (.i2l, 1) := by decide +kernel
theorem dL_take_8 : decode cL_take 8 = .ok (.lastore, 1) := by decide +kernel
theorem dL_take_9 : decode cL_take 9 = .ok (.goto 6, 3) := by decide +kernel
theorem dL_take_12 : decode cL_take 12 = .ok (.astore_n 3, 1) := by decide +kernel
theorem dL_take_13 : decode cL_take 13 = .ok (.iconst 1, 1) := by decide +kernel
theorem dL_take_14 : decode cL_take 14 = .ok (.ireturn, 1) := by decide +kernel
theorem dL_take_15 : decode cL_take 15 = .ok (.iconst 0, 1) := by decide +kernel
theorem dL_take_16 : decode cL_take 16 = .ok (.ireturn, 1) := by decide +kernel
set_option maxRecDepth 100000 in
set_option maxHeartbeats 4000000 in
theorem v_L_take {X : zq_X} (C : zq_C X RL cL_take 4 zq_all rm_L_take) (htab : zq_Tab X (tableOf [(0, 9, 12, 19)])) {h : zq_H} {r0 : Nat} {x1 : Int32} {r2 : Nat} {out : (Int32 × zq_H)} (hF : f_L_take h r0 x1 r2 = some out) (hE : zq_End X cL_take 1 6 (some (.int out.1)) out.2) : zq_W X 0 0 h 0 [(0, .ref r0), (1, .int x1), (2, .ref r2)] [] := by
  unfold f_L_take at hF
  refine zq_aload_n (pc' := 1) C dL_take_0 rfl rfl rfl ?_
  refine zq_iconst (pc' := 2) C 0 dL_take_1 rfl (by decide) ?_
  refine zq_aload_n (pc' := 3) C dL_take_2 rfl rfl rfl ?_
  refine zq_iload_n (pc' := 4) C dL_take_3 rfl rfl rfl ?_
  replace hF := zq_ck_e hF; obtain ⟨e_3, hF⟩ := hF
  replace hF := zq_bd hF; obtain ⟨v_1, e_2, hF⟩ := hF
  refine zq_callVx (pc' := 7) C (c_X5_take e_2) yv_X5_take wd_735 zq_K5 e_3 dL_take_4 rfl rfl rfl ⟨Nat.le_of_ble_eq_true rfl, Nat.le_of_ble_eq_true rfl⟩ (Nat.le_of_ble_eq_true rfl) ⟨Nat.le_of_ble_eq_true rfl, Nat.le_of_ble_eq_true rfl⟩ (fun rv h9 ho => ?_) (fun nm h9 ho => ?_)
  · rcases v_1 with q_4 | q_4
    · replace ho : Sum.inl (some (Value.int q_4.1), q_4.2) = Sum.inl (rv, h9) := ho
      cases ho
      dsimp only [Sum.elim_inl] at hF
      show zq_W X 1 6 q_4.2 7 [(0, .ref r0), (1, .int x1), (2, .ref r2)] [.int q_4.1, .int 0, .ref r2]
      refine zq_i2l (pc' := 8) C dL_take_7 rfl ?_
      replace hF := zq_bd hF; obtain ⟨h_5, e_6, hF⟩ := hF
      refine zq_lastore (pc' := 9) C dL_take_8 rfl e_6 ?_
      refine zq_goto C 15 dL_take_9 (by decide) ?_
      refine zq_iconst (pc' := 16) C 0 dL_take_15 rfl (by decide) ?_
      have hF := Option.some.inj hF
      subst hF
      exact hE _ _ _ _ (Nat.le_of_ble_eq_true rfl) (Nat.le_of_ble_eq_true rfl) dL_take_16
    · replace ho : Sum.inr (zq_en q_4.1, q_4.2) = Sum.inl (rv, h9) := ho
      cases ho
  · rcases v_1 with q_4 | q_4
    · replace ho : Sum.inl (some (Value.int q_4.1), q_4.2) = Sum.inr (nm, h9) := ho
      cases ho
    · replace ho : Sum.inr (zq_en q_4.1, q_4.2) = Sum.inr (nm, h9) := ho
      cases ho
      dsimp only [Sum.elim_inr] at hF
      by_cases c_7 : q_4.1 = 1
      · replace hF := zq_ifp hF c_7
        rw [c_7]
        refine zq_catch (pc' := 12) (cells := 1) (slots := 6) C htab 1 (by decide) [] ⟨0, 9, 12, 19⟩ [] rfl (fun z hz => by cases hz) (by decide) (by decide) wd_700 rfl (fun w_8 => ?_)
        refine zq_astoreR_n (lv' := [(3, .retAddr w_8), (0, .ref r0), (1, .int x1), (2, .ref r2)]) (pc' := 13) C dL_take_12 rfl rfl (by decide) rfl ?_
        refine zq_iconst (pc' := 14) C 1 dL_take_13 rfl (by decide) ?_
        have hF := Option.some.inj hF
        subst hF
        exact hE _ _ _ _ (Nat.le_of_ble_eq_true rfl) (Nat.le_of_ble_eq_true rfl) dL_take_14
      replace hF := zq_ifn hF c_7
      cases hF
theorem c_L_take {h : zq_H} {r0 : Nat} {x1 : Int32} {r2 : Nat} {out : (Int32 × zq_H)} (hF : f_L_take h r0 x1 r2 = some out) : zq_Mx yL_take (Cond.codeWith yL_take cL_take 4 (some .int) [(0, 9, 12, 19)] :: zq_all) rm_L_take [.ref r0, .int x1, .ref r2] h (.inl (some (.int out.1), out.2)) := zq_metxH (own := RL) (by decide +kernel) rfl (Nat.le_of_ble_eq_true rfl) rfl (fun X C htab hE => v_L_take C htab hF hE)
theorem yl_L_take : zq_calL yL_take cL_take 4 [(0, 9, 12, 19)] 3 := ⟨by decide +kernel, wd_734, wd_855, wd_789⟩
def f_L_restore (h : zq_H) (r0 : Nat) (x1 : Int32) (r2 : Nat) : Option (Int32 × zq_H) := (zq_ck h r0 5 fun _ => (Option.bind (f_X5_restore h r0 x1) fun v_1 => (Sum.elim (fun q_4 => (Option.bind (zq_sL q_4.2 r2 0 (q_4.1 : Int32).toInt64) fun h_5 => some ((0, h_5)))) (fun q_4 => (if q_4.1 = 1 then some ((1, q_4.2)) else (if q_4.1 = 2 then some ((2, q_4.2)) else none))) v_1)))
abbrev rm_L_restore : Room := { frames := 7, cells := 1, slots := 6, locals := 120 }
theorem dL_restore_0 : decode cL_restore 0 = .ok (.aload_n 2, 1) := by decide +kernel
theorem dL_restore_1 : decode cL_restore 1 = .ok (.iconst 0, 1) := by decide +kernel
theorem dL_restore_2 : decode cL_restore 2 = .ok (.aload_n 0, 1) := by decide +kernel
theorem dL_restore_3 : decode cL_restore 3 = .ok (.iload_n 1, 1) := by decide +kernel
theorem dL_restore_4 : decode cL_restore 4 = .ok (.invokevirtual 49, 3) := by decide +kernel
theorem dL_restore_7 : decode cL_restore 7 = .ok (.i2l, 1) := by decide +kernel
theorem dL_restore_8 : decode cL_restore 8 = .ok (.lastore, 1) := by decide +kernel
theorem dL_restore_9 : decode cL_restore 9 = .ok (.goto 9, 3) := by decide +kernel
theorem dL_restore_12 : decode cL_restore 12 = .ok (.astore_n 3, 1) := by decide +kernel
theorem dL_restore_13 : decode cL_restore 13 = .ok (.iconst 1, 1) := by decide +kernel
theorem dL_restore_14 : decode cL_restore 14 = .ok (.ireturn, 1) := by decide +kernel
theorem dL_restore_15 : decode cL_restore 15 = .ok (.astore_n 3, 1) := by decide +kernel
theorem dL_restore_16 : decode cL_restore 16 = .ok (.iconst 2, 1) := by decide +kernel
theorem dL_restore_17 : decode cL_restore 17 = .ok (.ireturn, 1) := by decide +kernel
theorem dL_restore_18 : decode cL_restore 18 = .ok (.iconst 0, 1) := by decide +kernel
theorem dL_restore_19 : decode cL_restore 19 = .ok (.ireturn, 1) := by decide +kernel
set_option maxRecDepth 100000 in
set_option maxHeartbeats 4000000 in
theorem v_L_restore {X : zq_X} (C : zq_C X RL cL_restore 4 zq_all rm_L_restore) (htab : zq_Tab X (tableOf [(0, 9, 12, 19), (0, 9, 15, 21)])) {h : zq_H} {r0 : Nat} {x1 : Int32} {r2 : Nat} {out : (Int32 × zq_H)} (hF : f_L_restore h r0 x1 r2 = some out) (hE : zq_End X cL_restore 1 6 (some (.int out.1)) out.2) : zq_W X 0 0 h 0 [(0, .ref r0), (1, .int x1), (2, .ref r2)] [] := by
  unfold f_L_restore at hF
  refine zq_aload_n (pc' := 1) C dL_restore_0 rfl rfl rfl ?_
  refine zq_iconst (pc' := 2) C 0 dL_restore_1 rfl (by decide) ?_
  refine zq_aload_n (pc' := 3) C dL_restore_2 rfl rfl rfl ?_
  refine zq_iload_n (pc' := 4) C dL_restore_3 rfl rfl rfl ?_
  replace hF := zq_ck_e hF; obtain ⟨e_3, hF⟩ := hF
  replace hF := zq_bd hF; obtain ⟨v_1, e_2, hF⟩ := hF
  refine zq_callVx (pc' := 7) C (c_X5_restore e_2) yv_X5_restore wd_738 zq_K5 e_3 dL_restore_4 rfl rfl rfl ⟨Nat.le_of_ble_eq_true rfl, Nat.le_of_ble_eq_true rfl⟩ (Nat.le_of_ble_eq_true rfl) ⟨Nat.le_of_ble_eq_true rfl, Nat.le_of_ble_eq_true rfl⟩ (fun rv h9 ho => ?_) (fun nm h9 ho => ?_)
  · rcases v_1 with q_4 | q_4
    · replace ho : Sum.inl (some (Value.int q_4.1), q_4.2) = Sum.inl (rv, h9) := ho
      cases ho
      dsimp only [Sum.elim_inl] at hF
      show zq_W X 1 6 q_4.2 7 [(0, .ref r0), (1, .int x1), (2, .ref r2)] [.int q_4.1, .int 0, .ref r2]
      refine zq_i2l (pc' := 8) C dL_restore_7 rfl ?_
      replace hF := zq_bd hF; obtain ⟨h_5, e_6, hF⟩ := hF
      refine zq_lastore (pc' := 9) C dL_restore_8 rfl e_6 ?_
      refine zq_goto C 18 dL_restore_9 (by decide) ?_
      refine zq_iconst (pc' := 19) C 0 dL_restore_18 rfl (by decide) ?_
      have hF := Option.some.inj hF
      subst hF
      exact hE _ _ _ _ (Nat.le_of_ble_eq_true rfl) (Nat.le_of_ble_eq_true rfl) dL_restore_19
    · replace ho : Sum.inr (zq_en q_4.1, q_4.2) = Sum.inl (rv, h9) := ho
      cases ho
  · rcases v_1 with q_4 | q_4
    · replace ho : Sum.inl (some (Value.int q_4.1), q_4.2) = Sum.inr (nm, h9) := ho
      cases ho
    · replace ho : Sum.inr (zq_en q_4.1, q_4.2) = Sum.inr (nm, h9) := ho
      cases ho
      dsimp only [Sum.elim_inr] at hF
      by_cases c_7 : q_4.1 = 1
      · replace hF := zq_ifp hF c_7
        rw [c_7]
        refine zq_catch (pc' := 12) (cells := 1) (slots := 6) C htab 1 (by decide) [] ⟨0, 9, 12, 19⟩ [⟨0, 9, 15, 21⟩] rfl (fun z hz => by cases hz) (by decide) (by decide) wd_700 rfl (fun w_8 => ?_)
        refine zq_astoreR_n (lv' := [(3, .retAddr w_8), (0, .ref r0), (1, .int x1), (2, .ref r2)]) (pc' := 13) C dL_restore_12 rfl rfl (by decide) rfl ?_
        refine zq_iconst (pc' := 14) C 1 dL_restore_13 rfl (by decide) ?_
        have hF := Option.some.inj hF
        subst hF
        exact hE _ _ _ _ (Nat.le_of_ble_eq_true rfl) (Nat.le_of_ble_eq_true rfl) dL_restore_14
      replace hF := zq_ifn hF c_7
      by_cases c_9 : q_4.1 = 2
      · replace hF := zq_ifp hF c_9
        rw [c_9]
        refine zq_catch (pc' := 15) (cells := 1) (slots := 6) C htab 2 (by decide) [⟨0, 9, 12, 19⟩] ⟨0, 9, 15, 21⟩ [] rfl (fun z hz => by simp only [List.mem_cons, List.not_mem_nil, or_false] at hz; rcases hz with rfl; exact Or.inr ⟨by decide, 1, by decide, by decide, wd_700⟩) (by decide) (by decide) wd_701 rfl (fun w_10 => ?_)
        refine zq_astoreR_n (lv' := [(3, .retAddr w_10), (0, .ref r0), (1, .int x1), (2, .ref r2)]) (pc' := 16) C dL_restore_15 rfl rfl (by decide) rfl ?_
        refine zq_iconst (pc' := 17) C 2 dL_restore_16 rfl (by decide) ?_
        have hF := Option.some.inj hF
        subst hF
        exact hE _ _ _ _ (Nat.le_of_ble_eq_true rfl) (Nat.le_of_ble_eq_true rfl) dL_restore_17
      replace hF := zq_ifn hF c_9
      cases hF
theorem c_L_restore {h : zq_H} {r0 : Nat} {x1 : Int32} {r2 : Nat} {out : (Int32 × zq_H)} (hF : f_L_restore h r0 x1 r2 = some out) : zq_Mx yL_restore (Cond.codeWith yL_restore cL_restore 4 (some .int) [(0, 9, 12, 19), (0, 9, 15, 21)] :: zq_all) rm_L_restore [.ref r0, .int x1, .ref r2] h (.inl (some (.int out.1), out.2)) := zq_metxH (own := RL) (by decide +kernel) rfl (Nat.le_of_ble_eq_true rfl) rfl (fun X C htab hE => v_L_restore C htab hF hE)
theorem yl_L_restore : zq_calL yL_restore cL_restore 4 [(0, 9, 12, 19), (0, 9, 15, 21)] 3 := ⟨by decide +kernel, wd_741, wd_860, wd_789⟩
def f_L_undo (h : zq_H) (r0 : Nat) (r1 : Nat) : Option (Int32 × zq_H) := (zq_ck h r0 5 fun _ => (Option.bind (f_X5_undo h r0) fun v_1 => (Sum.elim (fun q_4 => (Option.bind (zq_sL q_4.2 r1 0 (q_4.1 : Int32).toInt64) fun h_5 => some ((0, h_5)))) (fun q_4 => (if q_4.1 = 2 then some ((1, q_4.2)) else none)) v_1)))
abbrev rm_L_undo : Room := { frames := 7, cells := 1, slots := 6, locals := 119 }
theorem dL_undo_0 : decode cL_undo 0 = .ok (.aload_n 1, 1) := by decide +kernel
theorem dL_undo_1 : decode cL_undo 1 = .ok (.iconst 0, 1) := by decide +kernel
theorem dL_undo_2 : decode cL_undo 2 = .ok (.aload_n 0, 1) := by decide +kernel
theorem dL_undo_3 : decode cL_undo 3 = .ok (.invokevirtual 52, 3) := by decide +kernel
theorem dL_undo_6 : decode cL_undo 6 = .ok (.i2l, 1) := by decide +kernel
theorem dL_undo_7 : decode cL_undo 7 = .ok (.lastore, 1) := by decide +kernel
theorem dL_undo_8 : decode cL_undo 8 = .ok (.goto 6, 3) := by decide +kernel
theorem dL_undo_11 : decode cL_undo 11 = .ok (.astore_n 2, 1) := by decide +kernel
theorem dL_undo_12 : decode cL_undo 12 = .ok (.iconst 1, 1) := by decide +kernel
theorem dL_undo_13 : decode cL_undo 13 = .ok (.ireturn, 1) := by decide +kernel
theorem dL_undo_14 : decode cL_undo 14 = .ok (.iconst 0, 1) := by decide +kernel
theorem dL_undo_15 : decode cL_undo 15 = .ok (.ireturn, 1) := by decide +kernel
set_option maxRecDepth 100000 in
set_option maxHeartbeats 4000000 in
theorem v_L_undo {X : zq_X} (C : zq_C X RL cL_undo 3 zq_all rm_L_undo) (htab : zq_Tab X (tableOf [(0, 8, 11, 21)])) {h : zq_H} {r0 : Nat} {r1 : Nat} {out : (Int32 × zq_H)} (hF : f_L_undo h r0 r1 = some out) (hE : zq_End X cL_undo 1 6 (some (.int out.1)) out.2) : zq_W X 0 0 h 0 [(0, .ref r0), (1, .ref r1)] [] := by
  unfold f_L_undo at hF
  refine zq_aload_n (pc' := 1) C dL_undo_0 rfl rfl rfl ?_
  refine zq_iconst (pc' := 2) C 0 dL_undo_1 rfl (by decide) ?_
  refine zq_aload_n (pc' := 3) C dL_undo_2 rfl rfl rfl ?_
  replace hF := zq_ck_e hF; obtain ⟨e_3, hF⟩ := hF
  replace hF := zq_bd hF; obtain ⟨v_1, e_2, hF⟩ := hF
  refine zq_callVx (pc' := 6) C (c_X5_undo e_2) yv_X5_undo wd_743 zq_K5 e_3 dL_undo_3 rfl rfl rfl ⟨Nat.le_of_ble_eq_true rfl, Nat.le_of_ble_eq_true rfl⟩ (Nat.le_of_ble_eq_true rfl) ⟨Nat.le_of_ble_eq_true rfl, Nat.le_of_ble_eq_true rfl⟩ (fun rv h9 ho => ?_) (fun nm h9 ho => ?_)
  · rcases v_1 with q_4 | q_4
    · replace ho : Sum.inl (some (Value.int q_4.1), q_4.2) = Sum.inl (rv, h9) := ho
      cases ho
      dsimp only [Sum.elim_inl] at hF
      show zq_W X 1 6 q_4.2 6 [(0, .ref r0), (1, .ref r1)] [.int q_4.1, .int 0, .ref r1]
      refine zq_i2l (pc' := 7) C dL_undo_6 rfl ?_
      replace hF := zq_bd hF; obtain ⟨h_5, e_6, hF⟩ := hF
      refine zq_lastore (pc' := 8) C dL_undo_7 rfl e_6 ?_
      refine zq_goto C 14 dL_undo_8 (by decide) ?_
      refine zq_iconst (pc' := 15) C 0 dL_undo_14 rfl (by decide) ?_
      have hF := Option.some.inj hF
      subst hF
      exact hE _ _ _ _ (Nat.le_of_ble_eq_true rfl) (Nat.le_of_ble_eq_true rfl) dL_undo_15
    · replace ho : Sum.inr (zq_en q_4.1, q_4.2) = Sum.inl (rv, h9) := ho
      cases ho
  · rcases v_1 with q_4 | q_4
    · replace ho : Sum.inl (some (Value.int q_4.1), q_4.2) = Sum.inr (nm, h9) := ho
      cases ho
    · replace ho : Sum.inr (zq_en q_4.1, q_4.2) = Sum.inr (nm, h9) := ho
      cases ho
      dsimp only [Sum.elim_inr] at hF
      by_cases c_7 : q_4.1 = 2
      · replace hF := zq_ifp hF c_7
        rw [c_7]
        refine zq_catch (pc' := 11) (cells := 1) (slots := 6) C htab 2 (by decide) [] ⟨0, 8, 11, 21⟩ [] rfl (fun z hz => by cases hz) (by decide) (by decide) wd_701 rfl (fun w_8 => ?_)
        refine zq_astoreR_n (lv' := [(2, .retAddr w_8), (0, .ref r0), (1, .ref r1)]) (pc' := 12) C dL_undo_11 rfl rfl (by decide) rfl ?_
        refine zq_iconst (pc' := 13) C 1 dL_undo_12 rfl (by decide) ?_
        have hF := Option.some.inj hF
        subst hF
        exact hE _ _ _ _ (Nat.le_of_ble_eq_true rfl) (Nat.le_of_ble_eq_true rfl) dL_undo_13
      replace hF := zq_ifn hF c_7
      cases hF
theorem c_L_undo {h : zq_H} {r0 : Nat} {r1 : Nat} {out : (Int32 × zq_H)} (hF : f_L_undo h r0 r1 = some out) : zq_Mx yL_undo (Cond.codeWith yL_undo cL_undo 3 (some .int) [(0, 8, 11, 21)] :: zq_all) rm_L_undo [.ref r0, .ref r1] h (.inl (some (.int out.1), out.2)) := zq_metxH (own := RL) (by decide +kernel) rfl (Nat.le_of_ble_eq_true rfl) rfl (fun X C htab hE => v_L_undo C htab hF hE)
theorem yl_L_undo : zq_calL yL_undo cL_undo 3 [(0, 8, 11, 21)] 2 := ⟨by decide +kernel, wd_742, wd_865, wd_789⟩
def f_L_number (h : zq_H) (r0 : Nat) (x1 : Int32) (x2 : Int32) (r3 : Nat) : Option (Int32 × zq_H) := (zq_ck h r0 5 fun _ => (Option.bind (f_X5_number h r0 x1 x2) fun v_1 => (Sum.elim (fun q_4 => (Option.bind (zq_sL q_4.2 r3 0 (q_4.1 : Int32).toInt64) fun h_5 => some ((0, h_5)))) (fun q_4 => (if q_4.1 = 1 then some ((1, q_4.2)) else none)) v_1)))
abbrev rm_L_number : Room := { frames := 7, cells := 1, slots := 6, locals := 121 }
theorem dL_number_0 : decode cL_number 0 = .ok (.aload_n 3, 1) := by decide +kernel
theorem dL_number_1 : decode cL_number 1 = .ok (.iconst 0, 1) := by decide +kernel
theorem dL_number_2 : decode cL_number 2 = .ok (.aload_n 0, 1) := by decide +kernel
theorem dL_number_3 : decode cL_number 3 = .ok (.iload_n 1, 1) := by decide +kernel
theorem dL_number_4 : decode cL_number 4 = .ok (.iload_n 2, 1) := by decide +kernel
theorem dL_number_5 : decode cL_number 5 = .ok (.invokevirtual 56, 3) := by decide +kernel
theorem dL_number_8 : decode cL_number 8 = .ok (.i2l, 1) := by decide +kernel
theorem dL_number_9 : decode cL_number 9 = .ok (.lastore, 1) := by decide +kernel
theorem dL_number_10 : decode cL_number 10 = .ok (.goto 7, 3) := by decide +kernel
theorem dL_number_13 : decode cL_number 13 = .ok (.astore 4, 2) := by decide +kernel
theorem dL_number_15 : decode cL_number 15 = .ok (.iconst 1, 1) := by decide +kernel
theorem dL_number_16 : decode cL_number 16 = .ok (.ireturn, 1) := by decide +kernel
theorem dL_number_17 : decode cL_number 17 = .ok (.iconst 0, 1) := by decide +kernel
theorem dL_number_18 : decode cL_number 18 = .ok (.ireturn, 1) := by decide +kernel
set_option maxRecDepth 100000 in
set_option maxHeartbeats 4000000 in
theorem v_L_number {X : zq_X} (C : zq_C X RL cL_number 5 zq_all rm_L_number) (htab : zq_Tab X (tableOf [(0, 10, 13, 19)])) {h : zq_H} {r0 : Nat} {x1 : Int32} {x2 : Int32} {r3 : Nat} {out : (Int32 × zq_H)} (hF : f_L_number h r0 x1 x2 r3 = some out) (hE : zq_End X cL_number 1 6 (some (.int out.1)) out.2) : zq_W X 0 0 h 0 [(0, .ref r0), (1, .int x1), (2, .int x2), (3, .ref r3)] [] := by
  unfold f_L_number at hF
  refine zq_aload_n (pc' := 1) C dL_number_0 rfl rfl rfl ?_
  refine zq_iconst (pc' := 2) C 0 dL_number_1 rfl (by decide) ?_
  refine zq_aload_n (pc' := 3) C dL_number_2 rfl rfl rfl ?_
  refine zq_iload_n (pc' := 4) C dL_number_3 rfl rfl rfl ?_
  refine zq_iload_n (pc' := 5) C dL_number_4 rfl rfl rfl ?_
  replace hF := zq_ck_e hF; obtain ⟨e_3, hF⟩ := hF
  replace hF := zq_bd hF; obtain ⟨v_1, e_2, hF⟩ := hF
  refine zq_callVx (pc' := 8) C (c_X5_number e_2) yv_X5_number wd_747 zq_K5 e_3 dL_number_5 rfl rfl rfl ⟨Nat.le_of_ble_eq_true rfl, Nat.le_of_ble_eq_true rfl⟩ (Nat.le_of_ble_eq_true rfl) ⟨Nat.le_of_ble_eq_true rfl, Nat.le_of_ble_eq_true rfl⟩ (fun rv h9 ho => ?_) (fun nm h9 ho => ?_)
  · rcases v_1 with q_4 | q_4
    · replace ho : Sum.inl (some (Value.int q_4.1), q_4.2) = Sum.inl (rv, h9) := ho
      cases ho
      dsimp only [Sum.elim_inl] at hF
      show zq_W X 1 6 q_4.2 8 [(0, .ref r0), (1, .int x1), (2, .int x2), (3, .ref r3)] [.int q_4.1, .int 0, .ref r3]
      refine zq_i2l (pc' := 9) C dL_number_8 rfl ?_
      replace hF := zq_bd hF; obtain ⟨h_5, e_6, hF⟩ := hF
      refine zq_lastore (pc' := 10) C dL_number_9 rfl e_6 ?_
      refine zq_goto C 17 dL_number_10 (by decide) ?_
      refine zq_iconst (pc' := 18) C 0 dL_number_17 rfl (by decide) ?_
      have hF := Option.some.inj hF
      subst hF
      exact hE _ _ _ _ (Nat.le_of_ble_eq_true rfl) (Nat.le_of_ble_eq_true rfl) dL_number_18
    · replace ho : Sum.inr (zq_en q_4.1, q_4.2) = Sum.inl (rv, h9) := ho
      cases ho
  · rcases v_1 with q_4 | q_4
    · replace ho : Sum.inl (some (Value.int q_4.1), q_4.2) = Sum.inr (nm, h9) := ho
      cases ho
    · replace ho : Sum.inr (zq_en q_4.1, q_4.2) = Sum.inr (nm, h9) := ho
      cases ho
      dsimp only [Sum.elim_inr] at hF
      by_cases c_7 : q_4.1 = 1
      · replace hF := zq_ifp hF c_7
        rw [c_7]
        refine zq_catch (pc' := 13) (cells := 1) (slots := 6) C htab 1 (by decide) [] ⟨0, 10, 13, 19⟩ [] rfl (fun z hz => by cases hz) (by decide) (by decide) wd_700 rfl (fun w_8 => ?_)
        refine zq_astoreR (lv' := [(4, .retAddr w_8), (0, .ref r0), (1, .int x1), (2, .int x2), (3, .ref r3)]) (pc' := 15) C dL_number_13 rfl (by decide) rfl ?_
        refine zq_iconst (pc' := 16) C 1 dL_number_15 rfl (by decide) ?_
        have hF := Option.some.inj hF
        subst hF
        exact hE _ _ _ _ (Nat.le_of_ble_eq_true rfl) (Nat.le_of_ble_eq_true rfl) dL_number_16
      replace hF := zq_ifn hF c_7
      cases hF
theorem c_L_number {h : zq_H} {r0 : Nat} {x1 : Int32} {x2 : Int32} {r3 : Nat} {out : (Int32 × zq_H)} (hF : f_L_number h r0 x1 x2 r3 = some out) : zq_Mx yL_number (Cond.codeWith yL_number cL_number 5 (some .int) [(0, 10, 13, 19)] :: zq_all) rm_L_number [.ref r0, .int x1, .int x2, .ref r3] h (.inl (some (.int out.1), out.2)) := zq_metxH (own := RL) (by decide +kernel) rfl (Nat.le_of_ble_eq_true rfl) rfl (fun X C htab hE => v_L_number C htab hF hE)
theorem yl_L_number : zq_calL yL_number cL_number 5 [(0, 10, 13, 19)] 4 := ⟨by decide +kernel, wd_746, wd_870, wd_789⟩
def f_L_triangulation (h : zq_H) (r0 : Nat) (x1 : Int32) (x2 : Int32) (r3 : Nat) : Option (Int32 × zq_H) := (zq_ck h r0 5 fun _ => (Option.bind (f_X5_triangulation h r0 x1 x2) fun v_1 => (Sum.elim (fun q_4 => (Option.bind (zq_sL q_4.2 r3 0 (q_4.1 : Int32).toInt64) fun h_5 => some ((0, h_5)))) (fun q_4 => (if q_4.1 = 1 then some ((1, q_4.2)) else (if q_4.1 = 0 then some ((2, q_4.2)) else none))) v_1)))
abbrev rm_L_triangulation : Room := { frames := 7, cells := 1, slots := 6, locals := 157 }
theorem dL_triangulation_0 : decode cL_triangulation 0 = .ok (.aload_n 3, 1) := by decide +kernel
theorem dL_triangulation_1 : decode cL_triangulation 1 = .ok (.iconst 0, 1) := by decide +kernel
theorem dL_triangulation_2 : decode cL_triangulation 2 = .ok (.aload_n 0, 1) := by decide +kernel
theorem dL_triangulation_3 : decode cL_triangulation 3 = .ok (.iload_n 1, 1) := by decide +kernel
theorem dL_triangulation_4 : decode cL_triangulation 4 = .ok (.iload_n 2, 1) := by decide +kernel
theorem dL_triangulation_5 : decode cL_triangulation 5 = .ok (.invokevirtual 59, 3) := by decide +kernel
theorem dL_triangulation_8 : decode cL_triangulation 8 = .ok (.i2l, 1) := by decide +kernel
theorem dL_triangulation_9 : decode cL_triangulation 9 = .ok (.lastore, 1) := by decide +kernel
theorem dL_triangulation_10 : decode cL_triangulation 10 = .ok (.goto 11, 3) := by decide +kernel
theorem dL_triangulation_13 : decode cL_triangulation 13 = .ok (.astore 4, 2) := by decide +kernel
theorem dL_triangulation_15 : decode cL_triangulation 15 = .ok (.iconst 1, 1) := by decide +kernel
theorem dL_triangulation_16 : decode cL_triangulation 16 = .ok (.ireturn, 1) := by decide +kernel
theorem dL_triangulation_17 : decode cL_triangulation 17 = .ok (.astore 4, 2) := by decide +kernel
theorem dL_triangulation_19 : decode cL_triangulation 19 = .ok (.iconst 2, 1) := by decide +kernel
theorem dL_triangulation_20 : decode cL_triangulation 20 = .ok (.ireturn, 1) := by decide +kernel
theorem dL_triangulation_21 : decode cL_triangulation 21 = .ok (.iconst 0, 1) := by decide +kernel
theorem dL_triangulation_22 : decode cL_triangulation 22 = .ok (.ireturn, 1) := by decide +kernel
set_option maxRecDepth 100000 in
set_option maxHeartbeats 4000000 in
theorem v_L_triangulation {X : zq_X} (C : zq_C X RL cL_triangulation 5 zq_all rm_L_triangulation) (htab : zq_Tab X (tableOf [(0, 10, 13, 19), (0, 10, 17, 13)])) {h : zq_H} {r0 : Nat} {x1 : Int32} {x2 : Int32} {r3 : Nat} {out : (Int32 × zq_H)} (hF : f_L_triangulation h r0 x1 x2 r3 = some out) (hE : zq_End X cL_triangulation 1 6 (some (.int out.1)) out.2) : zq_W X 0 0 h 0 [(0, .ref r0), (1, .int x1), (2, .int x2), (3, .ref r3)] [] := by
  unfold f_L_triangulation at hF
  refine zq_aload_n (pc' := 1) C dL_triangulation_0 rfl rfl rfl ?_
  refine zq_iconst (pc' := 2) C 0 dL_triangulation_1 rfl (by decide) ?_
  refine zq_aload_n (pc' := 3) C dL_triangulation_2 rfl rfl rfl ?_
  refine zq_iload_n (pc' := 4) C dL_triangulation_3 rfl rfl rfl ?_
  refine zq_iload_n (pc' := 5) C dL_triangulation_4 rfl rfl rfl ?_
  replace hF := zq_ck_e hF; obtain ⟨e_3, hF⟩ := hF
  replace hF := zq_bd hF; obtain ⟨v_1, e_2, hF⟩ := hF
  refine zq_callVx (pc' := 8) C (c_X5_triangulation e_2) yv_X5_triangulation wd_750 zq_K5 e_3 dL_triangulation_5 rfl rfl rfl ⟨Nat.le_of_ble_eq_true rfl, Nat.le_of_ble_eq_true rfl⟩ (Nat.le_of_ble_eq_true rfl) ⟨Nat.le_of_ble_eq_true rfl, Nat.le_of_ble_eq_true rfl⟩ (fun rv h9 ho => ?_) (fun nm h9 ho => ?_)
  · rcases v_1 with q_4 | q_4
    · replace ho : Sum.inl (some (Value.int q_4.1), q_4.2) = Sum.inl (rv, h9) := ho
      cases ho
      dsimp only [Sum.elim_inl] at hF
      show zq_W X 1 6 q_4.2 8 [(0, .ref r0), (1, .int x1), (2, .int x2), (3, .ref r3)] [.int q_4.1, .int 0, .ref r3]
      refine zq_i2l (pc' := 9) C dL_triangulation_8 rfl ?_
      replace hF := zq_bd hF; obtain ⟨h_5, e_6, hF⟩ := hF
      refine zq_lastore (pc' := 10) C dL_triangulation_9 rfl e_6 ?_
      refine zq_goto C 21 dL_triangulation_10 (by decide) ?_
      refine zq_iconst (pc' := 22) C 0 dL_triangulation_21 rfl (by decide) ?_
      have hF := Option.some.inj hF
      subst hF
      exact hE _ _ _ _ (Nat.le_of_ble_eq_true rfl) (Nat.le_of_ble_eq_true rfl) dL_triangulation_22
    · replace ho : Sum.inr (zq_en q_4.1, q_4.2) = Sum.inl (rv, h9) := ho
      cases ho
  · rcases v_1 with q_4 | q_4
    · replace ho : Sum.inl (some (Value.int q_4.1), q_4.2) = Sum.inr (nm, h9) := ho
      cases ho
    · replace ho : Sum.inr (zq_en q_4.1, q_4.2) = Sum.inr (nm, h9) := ho
      cases ho
      dsimp only [Sum.elim_inr] at hF
      by_cases c_7 : q_4.1 = 1
      · replace hF := zq_ifp hF c_7
        rw [c_7]
        refine zq_catch (pc' := 13) (cells := 1) (slots := 6) C htab 1 (by decide) [] ⟨0, 10, 13, 19⟩ [⟨0, 10, 17, 13⟩] rfl (fun z hz => by cases hz) (by decide) (by decide) wd_700 rfl (fun w_8 => ?_)
        refine zq_astoreR (lv' := [(4, .retAddr w_8), (0, .ref r0), (1, .int x1), (2, .int x2), (3, .ref r3)]) (pc' := 15) C dL_triangulation_13 rfl (by decide) rfl ?_
        refine zq_iconst (pc' := 16) C 1 dL_triangulation_15 rfl (by decide) ?_
        have hF := Option.some.inj hF
        subst hF
        exact hE _ _ _ _ (Nat.le_of_ble_eq_true rfl) (Nat.le_of_ble_eq_true rfl) dL_triangulation_16
      replace hF := zq_ifn hF c_7
      by_cases c_9 : q_4.1 = 0
      · replace hF := zq_ifp hF c_9
        rw [c_9]
        refine zq_catch (pc' := 17) (cells := 1) (slots := 6) C htab 0 (by decide) [⟨0, 10, 13, 19⟩] ⟨0, 10, 17, 13⟩ [] rfl (fun z hz => by simp only [List.mem_cons, List.not_mem_nil, or_false] at hz; rcases hz with rfl; exact Or.inr ⟨by decide, 1, by decide, by decide, wd_700⟩) (by decide) (by decide) wd_695 rfl (fun w_10 => ?_)
        refine zq_astoreR (lv' := [(4, .retAddr w_10), (0, .ref r0), (1, .int x1), (2, .int x2), (3, .ref r3)]) (pc' := 19) C dL_triangulation_17 rfl (by decide) rfl ?_
        refine zq_iconst (pc' := 20) C 2 dL_triangulation_19 rfl (by decide) ?_
        have hF := Option.some.inj hF
        subst hF
        exact hE _ _ _ _ (Nat.le_of_ble_eq_true rfl) (Nat.le_of_ble_eq_true rfl) dL_triangulation_20
      replace hF := zq_ifn hF c_9
      cases hF
theorem c_L_triangulation {h : zq_H} {r0 : Nat} {x1 : Int32} {x2 : Int32} {r3 : Nat} {out : (Int32 × zq_H)} (hF : f_L_triangulation h r0 x1 x2 r3 = some out) : zq_Mx yL_triangulation (Cond.codeWith yL_triangulation cL_triangulation 5 (some .int) [(0, 10, 13, 19), (0, 10, 17, 13)] :: zq_all) rm_L_triangulation [.ref r0, .int x1, .int x2, .ref r3] h (.inl (some (.int out.1), out.2)) := zq_metxH (own := RL) (by decide +kernel) rfl (Nat.le_of_ble_eq_true rfl) rfl (fun X C htab hE => v_L_triangulation C htab hF hE)
theorem yl_L_triangulation : zq_calL yL_triangulation cL_triangulation 5 [(0, 10, 13, 19), (0, 10, 17, 13)] 4 := ⟨by decide +kernel, wd_753, wd_875, wd_789⟩
def f_L_degree (h : zq_H) (r0 : Nat) (x1 : Int32) (x2 : Int32) (r3 : Nat) : Option (Int32 × zq_H) := (zq_ck h r0 5 fun _ => (Option.bind (f_X5_degree h r0 x1 x2) fun v_1 => (Sum.elim (fun q_4 => (Option.bind (zq_sL q_4.2 r3 0 (q_4.1 : Int32).toInt64) fun h_5 => some ((0, h_5)))) (fun q_4 => (if q_4.1 = 1 then some ((1, q_4.2)) else none)) v_1)))
abbrev rm_L_degree : Room := { frames := 7, cells := 1, slots := 6, locals := 120 }
theorem dL_degree_0 : decode cL_degree 0 = .ok (.aload_n 3, 1) := by decide +kernel
theorem dL_degree_1 : decode cL_degree 1 = .ok (.iconst 0, 1) := by decide +kernel
theorem dL_degree_2 : decode cL_degree 2 = .ok (.aload_n 0, 1) := by decide +kernel
theorem dL_degree_3 : decode cL_degree 3 = .ok (.iload_n 1, 1) := by decide +kernel
theorem dL_degree_4 : decode cL_degree 4 = .ok (.iload_n 2, 1) := by decide +kernel
theorem dL_degree_5 : decode cL_degree 5 = .ok (.invokevirtual 62, 3) := by decide +kernel
theorem dL_degree_8 : decode cL_degree 8 = .ok (.i2l, 1) := by decide +kernel
theorem dL_degree_9 : decode cL_degree 9 = .ok (.lastore, 1) := by decide +kernel
theorem dL_degree_10 : decode cL_degree 10 = .ok (.goto 7, 3) := by decide +kernel
theorem dL_degree_13 : decode cL_degree 13 = .ok (.astore 4, 2) := by decide +kernel
theorem dL_degree_15 : decode cL_degree 15 = .ok (.iconst 1, 1) := by decide +kernel
theorem dL_degree_16 : decode cL_degree 16 = .ok (.ireturn, 1) := by decide +kernel
theorem dL_degree_17 : decode cL_degree 17 = .ok (.iconst 0, 1) := by decide +kernel
theorem dL_degree_18 : decode cL_degree 18 = .ok (.ireturn, 1) := by decide +kernel
set_option maxRecDepth 100000 in
set_option maxHeartbeats 4000000 in
theorem v_L_degree {X : zq_X} (C : zq_C X RL cL_degree 5 zq_all rm_L_degree) (htab : zq_Tab X (tableOf [(0, 10, 13, 19)])) {h : zq_H} {r0 : Nat} {x1 : Int32} {x2 : Int32} {r3 : Nat} {out : (Int32 × zq_H)} (hF : f_L_degree h r0 x1 x2 r3 = some out) (hE : zq_End X cL_degree 1 6 (some (.int out.1)) out.2) : zq_W X 0 0 h 0 [(0, .ref r0), (1, .int x1), (2, .int x2), (3, .ref r3)] [] := by
  unfold f_L_degree at hF
  refine zq_aload_n (pc' := 1) C dL_degree_0 rfl rfl rfl ?_
  refine zq_iconst (pc' := 2) C 0 dL_degree_1 rfl (by decide) ?_
  refine zq_aload_n (pc' := 3) C dL_degree_2 rfl rfl rfl ?_
  refine zq_iload_n (pc' := 4) C dL_degree_3 rfl rfl rfl ?_
  refine zq_iload_n (pc' := 5) C dL_degree_4 rfl rfl rfl ?_
  replace hF := zq_ck_e hF; obtain ⟨e_3, hF⟩ := hF
  replace hF := zq_bd hF; obtain ⟨v_1, e_2, hF⟩ := hF
  refine zq_callVx (pc' := 8) C (c_X5_degree e_2) yv_X5_degree wd_754 zq_K5 e_3 dL_degree_5 rfl rfl rfl ⟨Nat.le_of_ble_eq_true rfl, Nat.le_of_ble_eq_true rfl⟩ (Nat.le_of_ble_eq_true rfl) ⟨Nat.le_of_ble_eq_true rfl, Nat.le_of_ble_eq_true rfl⟩ (fun rv h9 ho => ?_) (fun nm h9 ho => ?_)
  · rcases v_1 with q_4 | q_4
    · replace ho : Sum.inl (some (Value.int q_4.1), q_4.2) = Sum.inl (rv, h9) := ho
      cases ho
      dsimp only [Sum.elim_inl] at hF
      show zq_W X 1 6 q_4.2 8 [(0, .ref r0), (1, .int x1), (2, .int x2), (3, .ref r3)] [.int q_4.1, .int 0, .ref r3]
      refine zq_i2l (pc' := 9) C dL_degree_8 rfl ?_
      replace hF := zq_bd hF; obtain ⟨h_5, e_6, hF⟩ := hF
      refine zq_lastore (pc' := 10) C dL_degree_9 rfl e_6 ?_
      refine zq_goto C 17 dL_degree_10 (by decide) ?_
      refine zq_iconst (pc' := 18) C 0 dL_degree_17 rfl (by decide) ?_
      have hF := Option.some.inj hF
      subst hF
      exact hE _ _ _ _ (Nat.le_of_ble_eq_true rfl) (Nat.le_of_ble_eq_true rfl) dL_degree_18
    · replace ho : Sum.inr (zq_en q_4.1, q_4.2) = Sum.inl (rv, h9) := ho
      cases ho
  · rcases v_1 with q_4 | q_4
    · replace ho : Sum.inl (some (Value.int q_4.1), q_4.2) = Sum.inr (nm, h9) := ho
      cases ho
    · replace ho : Sum.inr (zq_en q_4.1, q_4.2) = Sum.inr (nm, h9) := ho
      cases ho
      dsimp only [Sum.elim_inr] at hF
      by_cases c_7 : q_4.1 = 1
      · replace hF := zq_ifp hF c_7
        rw [c_7]
        refine zq_catch (pc' := 13) (cells := 1) (slots := 6) C htab 1 (by decide) [] ⟨0, 10, 13, 19⟩ [] rfl (fun z hz => by cases hz) (by decide) (by decide) wd_700 rfl (fun w_8 => ?_)
        refine zq_astoreR (lv' := [(4, .retAddr w_8), (0, .ref r0), (1, .int x1), (2, .int x2), (3, .ref r3)]) (pc' := 15) C dL_degree_13 rfl (by decide) rfl ?_
        refine zq_iconst (pc' := 16) C 1 dL_degree_15 rfl (by decide) ?_
        have hF := Option.some.inj hF
        subst hF
        exact hE _ _ _ _ (Nat.le_of_ble_eq_true rfl) (Nat.le_of_ble_eq_true rfl) dL_degree_16
      replace hF := zq_ifn hF c_7
      cases hF
theorem c_L_degree {h : zq_H} {r0 : Nat} {x1 : Int32} {x2 : Int32} {r3 : Nat} {out : (Int32 × zq_H)} (hF : f_L_degree h r0 x1 x2 r3 = some out) : zq_Mx yL_degree (Cond.codeWith yL_degree cL_degree 5 (some .int) [(0, 10, 13, 19)] :: zq_all) rm_L_degree [.ref r0, .int x1, .int x2, .ref r3] h (.inl (some (.int out.1), out.2)) := zq_metxH (own := RL) (by decide +kernel) rfl (Nat.le_of_ble_eq_true rfl) rfl (fun X C htab hE => v_L_degree C htab hF hE)
theorem yl_L_degree : zq_calL yL_degree cL_degree 5 [(0, 10, 13, 19)] 4 := ⟨by decide +kernel, wd_757, wd_880, wd_789⟩
def f_L_other (h : zq_H) (r0 : Nat) (x1 : Int32) (x2 : Int32) (x3 : Int32) (r4 : Nat) : Option (Int32 × zq_H) := (zq_ck h r0 5 fun _ => (Option.bind (f_X5_other h r0 x1 x2 x3) fun v_1 => (Sum.elim (fun q_4 => (Option.bind (zq_sL q_4.2 r4 0 (q_4.1 : Int32).toInt64) fun h_5 => some ((0, h_5)))) (fun q_4 => (if q_4.1 = 1 then some ((1, q_4.2)) else none)) v_1)))
abbrev rm_L_other : Room := { frames := 7, cells := 1, slots := 6, locals := 122 }
theorem dL_other_0 : decode cL_other 0 = .ok (.aload 4, 2) := by decide +kernel
theorem dL_other_2 : decode cL_other 2 = .ok (.iconst 0, 1) := by decide +kernel
theorem dL_other_3 : decode cL_other 3 = .ok (.aload_n 0, 1) := by decide +kernel
theorem dL_other_4 : decode cL_other 4 = .ok (.iload_n 1, 1) := by decide +kernel
theorem dL_other_5 : decode cL_other 5 = .ok (.iload_n 2, 1) := by decide +kernel
theorem dL_other_6 : decode cL_other 6 = .ok (.iload_n 3, 1) := by decide +kernel
theorem dL_other_7 : decode cL_other 7 = .ok (.invokevirtual 65, 3) := by decide +kernel
theorem dL_other_10 : decode cL_other 10 = .ok (.i2l, 1) := by decide +kernel
theorem dL_other_11 : decode cL_other 11 = .ok (.lastore, 1) := by decide +kernel
theorem dL_other_12 : decode cL_other 12 = .ok (.goto 7, 3) := by decide +kernel
theorem dL_other_15 : decode cL_other 15 = .ok (.astore 5, 2) := by decide +kernel
theorem dL_other_17 : decode cL_other 17 = .ok (.iconst 1, 1) := by decide +kernel
theorem dL_other_18 : decode cL_other 18 = .ok (.ireturn, 1) := by decide +kernel
theorem dL_other_19 : decode cL_other 19 = .ok (.iconst 0, 1) := by decide +kernel
theorem dL_other_20 : decode cL_other 20 = .ok (.ireturn, 1) := by decide +kernel
set_option maxRecDepth 100000 in
set_option maxHeartbeats 4000000 in
theorem v_L_other {X : zq_X} (C : zq_C X RL cL_other 6 zq_all rm_L_other) (htab : zq_Tab X (tableOf [(0, 12, 15, 19)])) {h : zq_H} {r0 : Nat} {x1 : Int32} {x2 : Int32} {x3 : Int32} {r4 : Nat} {out : (Int32 × zq_H)} (hF : f_L_other h r0 x1 x2 x3 r4 = some out) (hE : zq_End X cL_other 1 6 (some (.int out.1)) out.2) : zq_W X 0 0 h 0 [(0, .ref r0), (1, .int x1), (2, .int x2), (3, .int x3), (4, .ref r4)] [] := by
  unfold f_L_other at hF
  refine zq_aload (pc' := 2) C dL_other_0 rfl rfl ?_
  refine zq_iconst (pc' := 3) C 0 dL_other_2 rfl (by decide) ?_
  refine zq_aload_n (pc' := 4) C dL_other_3 rfl rfl rfl ?_
  refine zq_iload_n (pc' := 5) C dL_other_4 rfl rfl rfl ?_
  refine zq_iload_n (pc' := 6) C dL_other_5 rfl rfl rfl ?_
  refine zq_iload_n (pc' := 7) C dL_other_6 rfl rfl rfl ?_
  replace hF := zq_ck_e hF; obtain ⟨e_3, hF⟩ := hF
  replace hF := zq_bd hF; obtain ⟨v_1, e_2, hF⟩ := hF
  refine zq_callVx (pc' := 10) C (c_X5_other e_2) yv_X5_other wd_758 zq_K5 e_3 dL_other_7 rfl rfl rfl ⟨Nat.le_of_ble_eq_true rfl, Nat.le_of_ble_eq_true rfl⟩ (Nat.le_of_ble_eq_true rfl) ⟨Nat.le_of_ble_eq_true rfl, Nat.le_of_ble_eq_true rfl⟩ (fun rv h9 ho => ?_) (fun nm h9 ho => ?_)
  · rcases v_1 with q_4 | q_4
    · replace ho : Sum.inl (some (Value.int q_4.1), q_4.2) = Sum.inl (rv, h9) := ho
      cases ho
      dsimp only [Sum.elim_inl] at hF
      show zq_W X 1 6 q_4.2 10 [(0, .ref r0), (1, .int x1), (2, .int x2), (3, .int x3), (4, .ref r4)] [.int q_4.1, .int 0, .ref r4]
      refine zq_i2l (pc' := 11) C dL_other_10 rfl ?_
      replace hF := zq_bd hF; obtain ⟨h_5, e_6, hF⟩ := hF
      refine zq_lastore (pc' := 12) C dL_other_11 rfl e_6 ?_
      refine zq_goto C 19 dL_other_12 (by decide) ?_
      refine zq_iconst (pc' := 20) C 0 dL_other_19 rfl (by decide) ?_
      have hF := Option.some.inj hF
      subst hF
      exact hE _ _ _ _ (Nat.le_of_ble_eq_true rfl) (Nat.le_of_ble_eq_true rfl) dL_other_20
    · replace ho : Sum.inr (zq_en q_4.1, q_4.2) = Sum.inl (rv, h9) := ho
      cases ho
  · rcases v_1 with q_4 | q_4
    · replace ho : Sum.inl (some (Value.int q_4.1), q_4.2) = Sum.inr (nm, h9) := ho
      cases ho
    · replace ho : Sum.inr (zq_en q_4.1, q_4.2) = Sum.inr (nm, h9) := ho
      cases ho
      dsimp only [Sum.elim_inr] at hF
      by_cases c_7 : q_4.1 = 1
      · replace hF := zq_ifp hF c_7
        rw [c_7]
        refine zq_catch (pc' := 15) (cells := 1) (slots := 6) C htab 1 (by decide) [] ⟨0, 12, 15, 19⟩ [] rfl (fun z hz => by cases hz) (by decide) (by decide) wd_700 rfl (fun w_8 => ?_)
        refine zq_astoreR (lv' := [(5, .retAddr w_8), (0, .ref r0), (1, .int x1), (2, .int x2), (3, .int x3), (4, .ref r4)]) (pc' := 17) C dL_other_15 rfl (by decide) rfl ?_
        refine zq_iconst (pc' := 18) C 1 dL_other_17 rfl (by decide) ?_
        have hF := Option.some.inj hF
        subst hF
        exact hE _ _ _ _ (Nat.le_of_ble_eq_true rfl) (Nat.le_of_ble_eq_true rfl) dL_other_18
      replace hF := zq_ifn hF c_7
      cases hF
theorem c_L_other {h : zq_H} {r0 : Nat} {x1 : Int32} {x2 : Int32} {x3 : Int32} {r4 : Nat} {out : (Int32 × zq_H)} (hF : f_L_other h r0 x1 x2 x3 r4 = some out) : zq_Mx yL_other (Cond.codeWith yL_other cL_other 6 (some .int) [(0, 12, 15, 19)] :: zq_all) rm_L_other [.ref r0, .int x1, .int x2, .int x3, .ref r4] h (.inl (some (.int out.1), out.2)) := zq_metxH (own := RL) (by decide +kernel) rfl (Nat.le_of_ble_eq_true rfl) rfl (fun X C htab hE => v_L_other C htab hF hE)
theorem yl_L_other : zq_calL yL_other cL_other 6 [(0, 12, 15, 19)] 5 := ⟨by decide +kernel, wd_761, wd_885, wd_789⟩
def f_L_whyNot (h : zq_H) (r0 : Nat) (x1 : Int32) (x2 : Int32) (r3 : Nat) : Option (Int32 × zq_H) := (zq_ck h r0 5 fun _ => (Option.bind (f_X5_whyNot h r0 x1 x2) fun v_1 => (Sum.elim (fun q_4 => (Option.bind (zq_sL q_4.2 r3 0 (q_4.1 : Int32).toInt64) fun h_5 => some ((0, h_5)))) (fun q_4 => (if q_4.1 = 1 then some ((1, q_4.2)) else none)) v_1)))
abbrev rm_L_whyNot : Room := { frames := 7, cells := 1, slots := 6, locals := 121 }
theorem dL_whyNot_0 : decode cL_whyNot 0 = .ok (.aload_n 3, 1) := by decide +kernel
theorem dL_whyNot_1 : decode cL_whyNot 1 = .ok (.iconst 0, 1) := by decide +kernel
theorem dL_whyNot_2 : decode cL_whyNot 2 = .ok (.aload_n 0, 1) := by decide +kernel
theorem dL_whyNot_3 : decode cL_whyNot 3 = .ok (.iload_n 1, 1) := by decide +kernel
theorem dL_whyNot_4 : decode cL_whyNot 4 = .ok (.iload_n 2, 1) := by decide +kernel
theorem dL_whyNot_5 : decode cL_whyNot 5 = .ok (.invokevirtual 68, 3) := by decide +kernel
theorem dL_whyNot_8 : decode cL_whyNot 8 = .ok (.i2l, 1) := by decide +kernel
theorem dL_whyNot_9 : decode cL_whyNot 9 = .ok (.lastore, 1) := by decide +kernel
theorem dL_whyNot_10 : decode cL_whyNot 10 = .ok (.goto 7, 3) := by decide +kernel
theorem dL_whyNot_13 : decode cL_whyNot 13 = .ok (.astore 4, 2) := by decide +kernel
theorem dL_whyNot_15 : decode cL_whyNot 15 = .ok (.iconst 1, 1) := by decide +kernel
theorem dL_whyNot_16 : decode cL_whyNot 16 = .ok (.ireturn, 1) := by decide +kernel
theorem dL_whyNot_17 : decode cL_whyNot 17 = .ok (.iconst 0, 1) := by decide +kernel
theorem dL_whyNot_18 : decode cL_whyNot 18 = .ok (.ireturn, 1) := by decide +kernel
set_option maxRecDepth 100000 in
set_option maxHeartbeats 4000000 in
theorem v_L_whyNot {X : zq_X} (C : zq_C X RL cL_whyNot 5 zq_all rm_L_whyNot) (htab : zq_Tab X (tableOf [(0, 10, 13, 19)])) {h : zq_H} {r0 : Nat} {x1 : Int32} {x2 : Int32} {r3 : Nat} {out : (Int32 × zq_H)} (hF : f_L_whyNot h r0 x1 x2 r3 = some out) (hE : zq_End X cL_whyNot 1 6 (some (.int out.1)) out.2) : zq_W X 0 0 h 0 [(0, .ref r0), (1, .int x1), (2, .int x2), (3, .ref r3)] [] := by
  unfold f_L_whyNot at hF
  refine zq_aload_n (pc' := 1) C dL_whyNot_0 rfl rfl rfl ?_
  refine zq_iconst (pc' := 2) C 0 dL_whyNot_1 rfl (by decide) ?_
  refine zq_aload_n (pc' := 3) C dL_whyNot_2 rfl rfl rfl ?_
  refine zq_iload_n (pc' := 4) C dL_whyNot_3 rfl rfl rfl ?_
  refine zq_iload_n (pc' := 5) C dL_whyNot_4 rfl rfl rfl ?_
  replace hF := zq_ck_e hF; obtain ⟨e_3, hF⟩ := hF
  replace hF := zq_bd hF; obtain ⟨v_1, e_2, hF⟩ := hF
  refine zq_callVx (pc' := 8) C (c_X5_whyNot e_2) yv_X5_whyNot wd_762 zq_K5 e_3 dL_whyNot_5 rfl rfl rfl ⟨Nat.le_of_ble_eq_true rfl, Nat.le_of_ble_eq_true rfl⟩ (Nat.le_of_ble_eq_true rfl) ⟨Nat.le_of_ble_eq_true rfl, Nat.le_of_ble_eq_true rfl⟩ (fun rv h9 ho => ?_) (fun nm h9 ho => ?_)
  · rcases v_1 with q_4 | q_4
    · replace ho : Sum.inl (some (Value.int q_4.1), q_4.2) = Sum.inl (rv, h9) := ho
      cases ho
      dsimp only [Sum.elim_inl] at hF
      show zq_W X 1 6 q_4.2 8 [(0, .ref r0), (1, .int x1), (2, .int x2), (3, .ref r3)] [.int q_4.1, .int 0, .ref r3]
      refine zq_i2l (pc' := 9) C dL_whyNot_8 rfl ?_
      replace hF := zq_bd hF; obtain ⟨h_5, e_6, hF⟩ := hF
      refine zq_lastore (pc' := 10) C dL_whyNot_9 rfl e_6 ?_
      refine zq_goto C 17 dL_whyNot_10 (by decide) ?_
      refine zq_iconst (pc' := 18) C 0 dL_whyNot_17 rfl (by decide) ?_
      have hF := Option.some.inj hF
      subst hF
      exact hE _ _ _ _ (Nat.le_of_ble_eq_true rfl) (Nat.le_of_ble_eq_true rfl) dL_whyNot_18
    · replace ho : Sum.inr (zq_en q_4.1, q_4.2) = Sum.inl (rv, h9) := ho
      cases ho
  · rcases v_1 with q_4 | q_4
    · replace ho : Sum.inl (some (Value.int q_4.1), q_4.2) = Sum.inr (nm, h9) := ho
      cases ho
    · replace ho : Sum.inr (zq_en q_4.1, q_4.2) = Sum.inr (nm, h9) := ho
      cases ho
      dsimp only [Sum.elim_inr] at hF
      by_cases c_7 : q_4.1 = 1
      · replace hF := zq_ifp hF c_7
        rw [c_7]
        refine zq_catch (pc' := 13) (cells := 1) (slots := 6) C htab 1 (by decide) [] ⟨0, 10, 13, 19⟩ [] rfl (fun z hz => by cases hz) (by decide) (by decide) wd_700 rfl (fun w_8 => ?_)
        refine zq_astoreR (lv' := [(4, .retAddr w_8), (0, .ref r0), (1, .int x1), (2, .int x2), (3, .ref r3)]) (pc' := 15) C dL_whyNot_13 rfl (by decide) rfl ?_
        refine zq_iconst (pc' := 16) C 1 dL_whyNot_15 rfl (by decide) ?_
        have hF := Option.some.inj hF
        subst hF
        exact hE _ _ _ _ (Nat.le_of_ble_eq_true rfl) (Nat.le_of_ble_eq_true rfl) dL_whyNot_16
      replace hF := zq_ifn hF c_7
      cases hF
theorem c_L_whyNot {h : zq_H} {r0 : Nat} {x1 : Int32} {x2 : Int32} {r3 : Nat} {out : (Int32 × zq_H)} (hF : f_L_whyNot h r0 x1 x2 r3 = some out) : zq_Mx yL_whyNot (Cond.codeWith yL_whyNot cL_whyNot 5 (some .int) [(0, 10, 13, 19)] :: zq_all) rm_L_whyNot [.ref r0, .int x1, .int x2, .ref r3] h (.inl (some (.int out.1), out.2)) := zq_metxH (own := RL) (by decide +kernel) rfl (Nat.le_of_ble_eq_true rfl) rfl (fun X C htab hE => v_L_whyNot C htab hF hE)
theorem yl_L_whyNot : zq_calL yL_whyNot cL_whyNot 5 [(0, 10, 13, 19)] 4 := ⟨by decide +kernel, wd_765, wd_890, wd_789⟩
def f_L_distance (h : zq_H) (r0 : Nat) (x1 : Int32) (r2 : Nat) : Option (Int32 × zq_H) := (zq_ck h r0 5 fun _ => (Option.bind (f_X5_distance h r0 x1) fun v_1 => (Sum.elim (fun q_4 => (Option.bind (zq_sL q_4.2 r2 0 (q_4.1 : Int32).toInt64) fun h_5 => some ((0, h_5)))) (fun q_4 => (if q_4.1 = 0 then some ((1, q_4.2)) else none)) v_1)))
abbrev rm_L_distance : Room := { frames := 7, cells := 1, slots := 6, locals := 165 }
theorem dL_distance_0 : decode cL_distance 0 = .ok (.aload_n 2, 1) := by decide +kernel
theorem dL_distance_1 : decode cL_distance 1 = .ok (.iconst 0, 1) := by decide +kernel
theorem dL_distance_2 : decode cL_distance 2 = .ok (.aload_n 0, 1) := by decide +kernel
theorem dL_distance_3 : decode cL_distance 3 = .ok (.iload_n 1, 1) := by decide +kernel
theorem dL_distance_4 : decode cL_distance 4 = .ok (.invokevirtual 71, 3) := by decide +kernel
theorem dL_distance_7 : decode cL_distance 7 = .ok (.i2l, 1) := by decide +kernel
theorem dL_distance_8 : decode cL_distance 8 = .ok (.lastore, 1) := by decide +kernel
theorem dL_distance_9 : decode cL_distance 9 = .ok (.goto 6, 3) := by decide +kernel
theorem dL_distance_12 : decode cL_distance 12 = .ok (.astore_n 3, 1) := by decide +kernel
theorem dL_distance_13 : decode cL_distance 13 = .ok (.iconst 1, 1) := by decide +kernel
theorem dL_distance_14 : decode cL_distance 14 = .ok (.ireturn, 1) := by decide +kernel
theorem dL_distance_15 : decode cL_distance 15 = .ok (.iconst 0, 1) := by decide +kernel
theorem dL_distance_16 : decode cL_distance 16 = .ok (.ireturn, 1) := by decide +kernel
set_option maxRecDepth 100000 in
set_option maxHeartbeats 4000000 in
theorem v_L_distance {X : zq_X} (C : zq_C X RL cL_distance 4 zq_all rm_L_distance) (htab : zq_Tab X (tableOf [(0, 9, 12, 13)])) {h : zq_H} {r0 : Nat} {x1 : Int32} {r2 : Nat} {out : (Int32 × zq_H)} (hF : f_L_distance h r0 x1 r2 = some out) (hE : zq_End X cL_distance 1 6 (some (.int out.1)) out.2) : zq_W X 0 0 h 0 [(0, .ref r0), (1, .int x1), (2, .ref r2)] [] := by
  unfold f_L_distance at hF
  refine zq_aload_n (pc' := 1) C dL_distance_0 rfl rfl rfl ?_
  refine zq_iconst (pc' := 2) C 0 dL_distance_1 rfl (by decide) ?_
  refine zq_aload_n (pc' := 3) C dL_distance_2 rfl rfl rfl ?_
  refine zq_iload_n (pc' := 4) C dL_distance_3 rfl rfl rfl ?_
  replace hF := zq_ck_e hF; obtain ⟨e_3, hF⟩ := hF
  replace hF := zq_bd hF; obtain ⟨v_1, e_2, hF⟩ := hF
  refine zq_callVx (pc' := 7) C (c_X5_distance e_2) yv_X5_distance wd_766 zq_K5 e_3 dL_distance_4 rfl rfl rfl ⟨Nat.le_of_ble_eq_true rfl, Nat.le_of_ble_eq_true rfl⟩ (Nat.le_of_ble_eq_true rfl) ⟨Nat.le_of_ble_eq_true rfl, Nat.le_of_ble_eq_true rfl⟩ (fun rv h9 ho => ?_) (fun nm h9 ho => ?_)
  · rcases v_1 with q_4 | q_4
    · replace ho : Sum.inl (some (Value.int q_4.1), q_4.2) = Sum.inl (rv, h9) := ho
      cases ho
      dsimp only [Sum.elim_inl] at hF
      show zq_W X 1 6 q_4.2 7 [(0, .ref r0), (1, .int x1), (2, .ref r2)] [.int q_4.1, .int 0, .ref r2]
      refine zq_i2l (pc' := 8) C dL_distance_7 rfl ?_
      replace hF := zq_bd hF; obtain ⟨h_5, e_6, hF⟩ := hF
      refine zq_lastore (pc' := 9) C dL_distance_8 rfl e_6 ?_
      refine zq_goto C 15 dL_distance_9 (by decide) ?_
      refine zq_iconst (pc' := 16) C 0 dL_distance_15 rfl (by decide) ?_
      have hF := Option.some.inj hF
      subst hF
      exact hE _ _ _ _ (Nat.le_of_ble_eq_true rfl) (Nat.le_of_ble_eq_true rfl) dL_distance_16
    · replace ho : Sum.inr (zq_en q_4.1, q_4.2) = Sum.inl (rv, h9) := ho
      cases ho
  · rcases v_1 with q_4 | q_4
    · replace ho : Sum.inl (some (Value.int q_4.1), q_4.2) = Sum.inr (nm, h9) := ho
      cases ho
    · replace ho : Sum.inr (zq_en q_4.1, q_4.2) = Sum.inr (nm, h9) := ho
      cases ho
      dsimp only [Sum.elim_inr] at hF
      by_cases c_7 : q_4.1 = 0
      · replace hF := zq_ifp hF c_7
        rw [c_7]
        refine zq_catch (pc' := 12) (cells := 1) (slots := 6) C htab 0 (by decide) [] ⟨0, 9, 12, 13⟩ [] rfl (fun z hz => by cases hz) (by decide) (by decide) wd_695 rfl (fun w_8 => ?_)
        refine zq_astoreR_n (lv' := [(3, .retAddr w_8), (0, .ref r0), (1, .int x1), (2, .ref r2)]) (pc' := 13) C dL_distance_12 rfl rfl (by decide) rfl ?_
        refine zq_iconst (pc' := 14) C 1 dL_distance_13 rfl (by decide) ?_
        have hF := Option.some.inj hF
        subst hF
        exact hE _ _ _ _ (Nat.le_of_ble_eq_true rfl) (Nat.le_of_ble_eq_true rfl) dL_distance_14
      replace hF := zq_ifn hF c_7
      cases hF
theorem c_L_distance {h : zq_H} {r0 : Nat} {x1 : Int32} {r2 : Nat} {out : (Int32 × zq_H)} (hF : f_L_distance h r0 x1 r2 = some out) : zq_Mx yL_distance (Cond.codeWith yL_distance cL_distance 4 (some .int) [(0, 9, 12, 13)] :: zq_all) rm_L_distance [.ref r0, .int x1, .ref r2] h (.inl (some (.int out.1), out.2)) := zq_metxH (own := RL) (by decide +kernel) rfl (Nat.le_of_ble_eq_true rfl) rfl (fun X C htab hE => v_L_distance C htab hF hE)
theorem yl_L_distance : zq_calL yL_distance cL_distance 4 [(0, 9, 12, 13)] 3 := ⟨by decide +kernel, wd_769, wd_895, wd_789⟩
def f_L_ifFlipped (h : zq_H) (r0 : Nat) (x1 : Int32) (x2 : Int32) (r3 : Nat) : Option (Int32 × zq_H) := (zq_ck h r0 5 fun _ => (Option.bind (f_X5_ifFlipped h r0 x1 x2) fun v_1 => (Sum.elim (fun q_4 => (Option.bind (zq_sL q_4.2 r3 0 (q_4.1 : Int32).toInt64) fun h_5 => some ((0, h_5)))) (fun q_4 => (if q_4.1 = 1 then some ((1, q_4.2)) else none)) v_1)))
abbrev rm_L_ifFlipped : Room := { frames := 7, cells := 1, slots := 6, locals := 142 }
theorem dL_ifFlipped_0 : decode cL_ifFlipped 0 = .ok (.aload_n 3, 1) := by decide +kernel
theorem dL_ifFlipped_1 : decode cL_ifFlipped 1 = .ok (.iconst 0, 1) := by decide +kernel
theorem dL_ifFlipped_2 : decode cL_ifFlipped 2 = .ok (.aload_n 0, 1) := by decide +kernel
theorem dL_ifFlipped_3 : decode cL_ifFlipped 3 = .ok (.iload_n 1, 1) := by decide +kernel
theorem dL_ifFlipped_4 : decode cL_ifFlipped 4 = .ok (.iload_n 2, 1) := by decide +kernel
theorem dL_ifFlipped_5 : decode cL_ifFlipped 5 = .ok (.invokevirtual 74, 3) := by decide +kernel
theorem dL_ifFlipped_8 : decode cL_ifFlipped 8 = .ok (.i2l, 1) := by decide +kernel
theorem dL_ifFlipped_9 : decode cL_ifFlipped 9 = .ok (.lastore, 1) := by decide +kernel
theorem dL_ifFlipped_10 : decode cL_ifFlipped 10 = .ok (.goto 7, 3) := by decide +kernel
theorem dL_ifFlipped_13 : decode cL_ifFlipped 13 = .ok (.astore 4, 2) := by decide +kernel
theorem dL_ifFlipped_15 : decode cL_ifFlipped 15 = .ok (.iconst 1, 1) := by decide +kernel
theorem dL_ifFlipped_16 : decode cL_ifFlipped 16 = .ok (.ireturn, 1) := by decide +kernel
theorem dL_ifFlipped_17 : decode cL_ifFlipped 17 = .ok (.iconst 0, 1) := by decide +kernel
theorem dL_ifFlipped_18 : decode cL_ifFlipped 18 = .ok (.ireturn, 1) := by decide +kernel
set_option maxRecDepth 100000 in
set_option maxHeartbeats 4000000 in
theorem v_L_ifFlipped {X : zq_X} (C : zq_C X RL cL_ifFlipped 5 zq_all rm_L_ifFlipped) (htab : zq_Tab X (tableOf [(0, 10, 13, 19)])) {h : zq_H} {r0 : Nat} {x1 : Int32} {x2 : Int32} {r3 : Nat} {out : (Int32 × zq_H)} (hF : f_L_ifFlipped h r0 x1 x2 r3 = some out) (hE : zq_End X cL_ifFlipped 1 6 (some (.int out.1)) out.2) : zq_W X 0 0 h 0 [(0, .ref r0), (1, .int x1), (2, .int x2), (3, .ref r3)] [] := by
  unfold f_L_ifFlipped at hF
  refine zq_aload_n (pc' := 1) C dL_ifFlipped_0 rfl rfl rfl ?_
  refine zq_iconst (pc' := 2) C 0 dL_ifFlipped_1 rfl (by decide) ?_
  refine zq_aload_n (pc' := 3) C dL_ifFlipped_2 rfl rfl rfl ?_
  refine zq_iload_n (pc' := 4) C dL_ifFlipped_3 rfl rfl rfl ?_
  refine zq_iload_n (pc' := 5) C dL_ifFlipped_4 rfl rfl rfl ?_
  replace hF := zq_ck_e hF; obtain ⟨e_3, hF⟩ := hF
  replace hF := zq_bd hF; obtain ⟨v_1, e_2, hF⟩ := hF
  refine zq_callVx (pc' := 8) C (c_X5_ifFlipped e_2) yv_X5_ifFlipped wd_770 zq_K5 e_3 dL_ifFlipped_5 rfl rfl rfl ⟨Nat.le_of_ble_eq_true rfl, Nat.le_of_ble_eq_true rfl⟩ (Nat.le_of_ble_eq_true rfl) ⟨Nat.le_of_ble_eq_true rfl, Nat.le_of_ble_eq_true rfl⟩ (fun rv h9 ho => ?_) (fun nm h9 ho => ?_)
  · rcases v_1 with q_4 | q_4
    · replace ho : Sum.inl (some (Value.int q_4.1), q_4.2) = Sum.inl (rv, h9) := ho
      cases ho
      dsimp only [Sum.elim_inl] at hF
      show zq_W X 1 6 q_4.2 8 [(0, .ref r0), (1, .int x1), (2, .int x2), (3, .ref r3)] [.int q_4.1, .int 0, .ref r3]
      refine zq_i2l (pc' := 9) C dL_ifFlipped_8 rfl ?_
      replace hF := zq_bd hF; obtain ⟨h_5, e_6, hF⟩ := hF
      refine zq_lastore (pc' := 10) C dL_ifFlipped_9 rfl e_6 ?_
      refine zq_goto C 17 dL_ifFlipped_10 (by decide) ?_
      refine zq_iconst (pc' := 18) C 0 dL_ifFlipped_17 rfl (by decide) ?_
      have hF := Option.some.inj hF
      subst hF
      exact hE _ _ _ _ (Nat.le_of_ble_eq_true rfl) (Nat.le_of_ble_eq_true rfl) dL_ifFlipped_18
    · replace ho : Sum.inr (zq_en q_4.1, q_4.2) = Sum.inl (rv, h9) := ho
      cases ho
  · rcases v_1 with q_4 | q_4
    · replace ho : Sum.inl (some (Value.int q_4.1), q_4.2) = Sum.inr (nm, h9) := ho
      cases ho
    · replace ho : Sum.inr (zq_en q_4.1, q_4.2) = Sum.inr (nm, h9) := ho
      cases ho
      dsimp only [Sum.elim_inr] at hF
      by_cases c_7 : q_4.1 = 1
      · replace hF := zq_ifp hF c_7
        rw [c_7]
        refine zq_catch (pc' := 13) (cells := 1) (slots := 6) C htab 1 (by decide) [] ⟨0, 10, 13, 19⟩ [] rfl (fun z hz => by cases hz) (by decide) (by decide) wd_700 rfl (fun w_8 => ?_)
        refine zq_astoreR (lv' := [(4, .retAddr w_8), (0, .ref r0), (1, .int x1), (2, .int x2), (3, .ref r3)]) (pc' := 15) C dL_ifFlipped_13 rfl (by decide) rfl ?_
        refine zq_iconst (pc' := 16) C 1 dL_ifFlipped_15 rfl (by decide) ?_
        have hF := Option.some.inj hF
        subst hF
        exact hE _ _ _ _ (Nat.le_of_ble_eq_true rfl) (Nat.le_of_ble_eq_true rfl) dL_ifFlipped_16
      replace hF := zq_ifn hF c_7
      cases hF
theorem c_L_ifFlipped {h : zq_H} {r0 : Nat} {x1 : Int32} {x2 : Int32} {r3 : Nat} {out : (Int32 × zq_H)} (hF : f_L_ifFlipped h r0 x1 x2 r3 = some out) : zq_Mx yL_ifFlipped (Cond.codeWith yL_ifFlipped cL_ifFlipped 5 (some .int) [(0, 10, 13, 19)] :: zq_all) rm_L_ifFlipped [.ref r0, .int x1, .int x2, .ref r3] h (.inl (some (.int out.1), out.2)) := zq_metxH (own := RL) (by decide +kernel) rfl (Nat.le_of_ble_eq_true rfl) rfl (fun X C htab hE => v_L_ifFlipped C htab hF hE)
theorem yl_L_ifFlipped : zq_calL yL_ifFlipped cL_ifFlipped 5 [(0, 10, 13, 19)] 4 := ⟨by decide +kernel, wd_773, wd_900, wd_789⟩
def f_L_count (h : zq_H) (r0 : Nat) (x1 : Int32) (r2 : Nat) : Option (Int32 × zq_H) := (zq_ck h r0 5 fun _ => (Option.bind (f_X5_count h r0 x1) fun v_1 => (Sum.elim (fun q_4 => (Option.bind (zq_sL q_4.2 r2 0 (q_4.1 : Int32).toInt64) fun h_5 => some ((0, h_5)))) (fun q_4 => (if q_4.1 = 0 then some ((1, q_4.2)) else none)) v_1)))
abbrev rm_L_count : Room := { frames := 7, cells := 1, slots := 6, locals := 119 }
theorem dL_count_0 : decode cL_count 0 = .ok (.aload_n 2, 1) := by decide +kernel
theorem dL_count_1 : decode cL_count 1 = .ok (.iconst 0, 1) := by decide +kernel
theorem dL_count_2 : decode cL_count 2 = .ok (.aload_n 0, 1) := by decide +kernel
theorem dL_count_3 : decode cL_count 3 = .ok (.iload_n 1, 1) := by decide +kernel
theorem dL_count_4 : decode cL_count 4 = .ok (.invokevirtual 77, 3) := by decide +kernel
theorem dL_count_7 : decode cL_count 7 = .ok (.i2l, 1) := by decide +kernel
theorem dL_count_8 : decode cL_count 8 = .ok (.lastore, 1) := by decide +kernel
theorem dL_count_9 : decode cL_count 9 = .ok (.goto 6, 3) := by decide +kernel
theorem dL_count_12 : decode cL_count 12 = .ok (.astore_n 3, 1) := by decide +kernel
theorem dL_count_13 : decode cL_count 13 = .ok (.iconst 1, 1) := by decide +kernel
theorem dL_count_14 : decode cL_count 14 = .ok (.ireturn, 1) := by decide +kernel
theorem dL_count_15 : decode cL_count 15 = .ok (.iconst 0, 1) := by decide +kernel
theorem dL_count_16 : decode cL_count 16 = .ok (.ireturn, 1) := by decide +kernel
set_option maxRecDepth 100000 in
set_option maxHeartbeats 4000000 in
theorem v_L_count {X : zq_X} (C : zq_C X RL cL_count 4 zq_all rm_L_count) (htab : zq_Tab X (tableOf [(0, 9, 12, 13)])) {h : zq_H} {r0 : Nat} {x1 : Int32} {r2 : Nat} {out : (Int32 × zq_H)} (hF : f_L_count h r0 x1 r2 = some out) (hE : zq_End X cL_count 1 6 (some (.int out.1)) out.2) : zq_W X 0 0 h 0 [(0, .ref r0), (1, .int x1), (2, .ref r2)] [] := by
  unfold f_L_count at hF
  refine zq_aload_n (pc' := 1) C dL_count_0 rfl rfl rfl ?_
  refine zq_iconst (pc' := 2) C 0 dL_count_1 rfl (by decide) ?_
  refine zq_aload_n (pc' := 3) C dL_count_2 rfl rfl rfl ?_
  refine zq_iload_n (pc' := 4) C dL_count_3 rfl rfl rfl ?_
  replace hF := zq_ck_e hF; obtain ⟨e_3, hF⟩ := hF
  replace hF := zq_bd hF; obtain ⟨v_1, e_2, hF⟩ := hF
  refine zq_callVx (pc' := 7) C (c_X5_count e_2) yv_X5_count wd_774 zq_K5 e_3 dL_count_4 rfl rfl rfl ⟨Nat.le_of_ble_eq_true rfl, Nat.le_of_ble_eq_true rfl⟩ (Nat.le_of_ble_eq_true rfl) ⟨Nat.le_of_ble_eq_true rfl, Nat.le_of_ble_eq_true rfl⟩ (fun rv h9 ho => ?_) (fun nm h9 ho => ?_)
  · rcases v_1 with q_4 | q_4
    · replace ho : Sum.inl (some (Value.int q_4.1), q_4.2) = Sum.inl (rv, h9) := ho
      cases ho
      dsimp only [Sum.elim_inl] at hF
      show zq_W X 1 6 q_4.2 7 [(0, .ref r0), (1, .int x1), (2, .ref r2)] [.int q_4.1, .int 0, .ref r2]
      refine zq_i2l (pc' := 8) C dL_count_7 rfl ?_
      replace hF := zq_bd hF; obtain ⟨h_5, e_6, hF⟩ := hF
      refine zq_lastore (pc' := 9) C dL_count_8 rfl e_6 ?_
      refine zq_goto C 15 dL_count_9 (by decide) ?_
      refine zq_iconst (pc' := 16) C 0 dL_count_15 rfl (by decide) ?_
      have hF := Option.some.inj hF
      subst hF
      exact hE _ _ _ _ (Nat.le_of_ble_eq_true rfl) (Nat.le_of_ble_eq_true rfl) dL_count_16
    · replace ho : Sum.inr (zq_en q_4.1, q_4.2) = Sum.inl (rv, h9) := ho
      cases ho
  · rcases v_1 with q_4 | q_4
    · replace ho : Sum.inl (some (Value.int q_4.1), q_4.2) = Sum.inr (nm, h9) := ho
      cases ho
    · replace ho : Sum.inr (zq_en q_4.1, q_4.2) = Sum.inr (nm, h9) := ho
      cases ho
      dsimp only [Sum.elim_inr] at hF
      by_cases c_7 : q_4.1 = 0
      · replace hF := zq_ifp hF c_7
        rw [c_7]
        refine zq_catch (pc' := 12) (cells := 1) (slots := 6) C htab 0 (by decide) [] ⟨0, 9, 12, 13⟩ [] rfl (fun z hz => by cases hz) (by decide) (by decide) wd_695 rfl (fun w_8 => ?_)
        refine zq_astoreR_n (lv' := [(3, .retAddr w_8), (0, .ref r0), (1, .int x1), (2, .ref r2)]) (pc' := 13) C dL_count_12 rfl rfl (by decide) rfl ?_
        refine zq_iconst (pc' := 14) C 1 dL_count_13 rfl (by decide) ?_
        have hF := Option.some.inj hF
        subst hF
        exact hE _ _ _ _ (Nat.le_of_ble_eq_true rfl) (Nat.le_of_ble_eq_true rfl) dL_count_14
      replace hF := zq_ifn hF c_7
      cases hF
theorem c_L_count {h : zq_H} {r0 : Nat} {x1 : Int32} {r2 : Nat} {out : (Int32 × zq_H)} (hF : f_L_count h r0 x1 r2 = some out) : zq_Mx yL_count (Cond.codeWith yL_count cL_count 4 (some .int) [(0, 9, 12, 13)] :: zq_all) rm_L_count [.ref r0, .int x1, .ref r2] h (.inl (some (.int out.1), out.2)) := zq_metxH (own := RL) (by decide +kernel) rfl (Nat.le_of_ble_eq_true rfl) rfl (fun X C htab hE => v_L_count C htab hF hE)
theorem yl_L_count : zq_calL yL_count cL_count 4 [(0, 9, 12, 13)] 3 := ⟨by decide +kernel, wd_777, wd_905, wd_789⟩
