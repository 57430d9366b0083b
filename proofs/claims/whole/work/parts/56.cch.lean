/-! the class' calls: changes -/
theorem pz_V.mono {b b' : Nat} {n : pz_5} (V : pz_V b n) (h1 : b ≤ b') (h2 : b' ≤ 6) : pz_V b' n := ⟨by have := V.1; omega, h2, V.2.2⟩
theorem pz_mv_sub {P : Nat → Nat} {K m n : Nat} (h : K &&& m = K) : pz_mv P K n &&& pz_mv P m n = pz_mv P K n := by
  refine pz_bit_sub (fun i hi => ?_)
  obtain ⟨d, h1, h2, h3⟩ := pz_mv_bit.mp hi
  exact pz_mv_bit.mpr ⟨d, h1, pz_sub_bit h h2, h3⟩
theorem pz_tk_sub {g K m : Nat} (h : K &&& m = K) : ∀ k, pz_tk g K k &&& pz_tk g m k = pz_tk g K k
  | 0 => h
  | k + 1 => pz_mv_sub (pz_tk_sub h k)
theorem pz_tr2_V {b : Nat} {n : pz_5} (V : pz_V b n) (w k : Nat) : pz_V b (pz_tr2 n w k) := by
  have hg := V.T.1
  obtain ⟨v1, v2, v3, v4, v5⟩ := V
  unfold pz_tr2
  split
  · exact ⟨v1, v2, pz_tk_T hg v3 k, v4, pz_tk_sub v5 k⟩
  · exact ⟨v1, v2, v3, pz_tk_T hg v4 k, v5⟩
theorem pz_mr2_V {b : Nat} {n : pz_5} (V : pz_V b n) (w : Nat) : pz_V b (pz_mr2 n w) := by
  have hg := V.T.1
  obtain ⟨v1, v2, v3, v4, v5⟩ := V
  unfold pz_mr2
  split
  · exact ⟨v1, v2, (pz_tu_T hg v3).2, v4, pz_mv_sub v5⟩
  · exact ⟨v1, v2, v3, (pz_tu_T hg v4).2, v5⟩
theorem pz_pn_V {b : Nat} {n : pz_5} (V : pz_V b n) (w : Nat) {m : Nat} (hm : pz_T n.1 m) : pz_V b (pz_pn n w m) := by
  obtain ⟨v1, v2, v3, v4, v5⟩ := V
  unfold pz_pn
  split
  · exact ⟨v1, v2, hm, v4, by simp⟩
  · exact ⟨v1, v2, v3, hm, v5⟩
theorem pz_lo2_V {b : Nat} {n : pz_5} (V : pz_V b n) {d : Nat} (hd : n.2.1.testBit d = true) (z : Int32) : pz_V b (n.1, n.2.1, n.2.2.1, pz_lo2 n.2.2.2.1 d z, n.2.2.2.2) := by
  obtain ⟨v1, v2, v3, v4, v5⟩ := V
  refine ⟨v1, v2, v3, v4, pz_bit_sub (fun i hi => ?_)⟩
  unfold pz_lo2 at hi
  split at hi
  · rw [Nat.testBit_and, Bool.and_eq_true] at hi
    exact pz_sub_bit v5 hi.1
  · rw [Nat.testBit_or, Bool.or_eq_true] at hi
    rcases hi with hi | hi
    · exact pz_sub_bit v5 hi
    · rw [Nat.testBit_two_pow, decide_eq_true_eq] at hi
      show n.2.1.testBit i = true
      rw [← hi]; exact hd
section PZCH
variable {h : zq_H} {A : pz_A}
theorem c_exchange (C : pz_C h A) : ∃ v h', f_X5_exchange h 0 = some (v, h') ∧ R_exchange A = .inl (v, pz_sa A (A.1.1, A.1.2.2.1, A.1.2.1, 0, A.1.2.2.2.2)) ∧ pz_C h' (pz_sa A (A.1.1, A.1.2.2.1, A.1.2.1, 0, A.1.2.2.2.2)) ∧ pz_kc h h' := by
  obtain ⟨b, B, S⟩ := C
  obtain ⟨k, e1, B1, S1, e2⟩ := s_saveState B S
  have C1 := B1.1
  obtain ⟨⟨a0, a1, a2, a3, a4⟩, V, -⟩ := id S1
  refine ⟨_, pz_S (pz_S (pz_S k 74 2 (nI A.1.2.1)) 74 1 (nI A.1.2.2.1)) 74 3 (nI 0), ?_, rfl, ?_, ?_⟩
  · have c2 : pz_Ca (pz_S k 74 2 (nI A.1.2.1)) := C1
    have c3 : pz_Ca (pz_S (pz_S k 74 2 (nI A.1.2.1)) 74 1 (nI A.1.2.2.1)) := C1
    have c4 : pz_Ca (pz_S (pz_S (pz_S k 74 2 (nI A.1.2.1)) 74 1 (nI A.1.2.2.1)) 74 3 (nI 0)) := C1
    unfold f_X5_exchange
    rw [cq_ck B.1, e1, Option.bind_some]
    simp only [cq_1 C1, Option.bind_some, aq_2 C1 S1.1, aq_1 C1 S1.1]
    rw [aq_p C1, Option.bind_some, cq_1 c2, Option.bind_some, aq_p c2, Option.bind_some, cq_1 c3, Option.bind_some, show (0 : Int32) = nI 0 from rfl, aq_p c3, Option.bind_some, cq_1 c4, Option.bind_some, pz_gi (t := 74) (c := 3) (by have := c4.1; omega) rfl, Option.bind_some, pz_S_i, if_neg (by omega), pz_S_i, if_pos ⟨rfl, rfl⟩]
  · have l : pz_ag (fun a => a ≠ 74) k (pz_S (pz_S (pz_S k 74 2 (nI A.1.2.1)) 74 1 (nI A.1.2.2.1)) 74 3 (nI 0)) := ((pz_ag.S (by simp)).tr (pz_ag.S (by simp))).tr (pz_ag.S (by simp))
    refine ⟨b, B1.now l, S1.now l ⟨a0, ?_, ?_, ?_, ?_⟩ ⟨V.1, V.2.1, V.2.2.2.1, V.2.2.1, Nat.zero_and _⟩⟩
    · simp [pz_S_i]; rfl
    · simp [pz_S_i]; rfl
    · simp [pz_S_i]; rfl
    · simp [pz_S_i, a4]; rfl
  · exact e2.tr (pz_kc.now (((pz_ag.S (by simp)).tr (pz_ag.S (by simp))).tr (pz_ag.S (by simp))))
theorem c_fan (C : pz_C h A) (x c : Int32) : ∃ o, f_X5_fan h 0 x c = some o ∧ pz_oc h A (R_fan A x c) o := by
  obtain ⟨b, B, S⟩ := id C
  obtain ⟨P, p0⟩ := B.p S.2.1
  have hg := S.2.1.T.1
  unfold f_X5_fan R_fan
  rw [s_isWhich, Option.bind_some]
  cases h1 : pz_inb 2 x with
  | false =>
    rw [if_pos rfl, if_neg (by simp)]
    exact ⟨_, rfl, pz_oc.x rfl C pz_ag.rf⟩
  | true =>
    obtain ⟨w, hw, rfl⟩ := pz_inb_of (by omega) h1
    rw [if_neg (by simp)]
    simp only [cq_1 B.1, Option.bind_some, aq_0 B.1 S.1, p0]
    rw [pq_ck P, s_isCorner P, Option.bind_some]
    cases h2 : pz_inb (A.1.1 + 4) c with
    | false =>
      rw [if_pos rfl, if_neg (by simp)]
      exact ⟨_, rfl, pz_oc.x rfl C pz_ag.rf⟩
    | true =>
      obtain ⟨a, ha, rfl⟩ := pz_inb_of (by omega) h2
      obtain ⟨k, e1, B1, S1, e2⟩ := s_saveState B S
      obtain ⟨P1, p1⟩ := B1.p S1.2.1
      obtain ⟨k2, f1, f2, f3⟩ := s_putNew B1.1 S1.1 hw (pz_fn A.1.1 a)
      have hT := pz_w_T S.2.1 w
      have hnc : pz_nc A.1.1 (pz_w A.1 w &&& pz_fn A.1.1 a) := pz_nc_sub (pz_T_nc hg hT) (fun i hi => by rw [Nat.testBit_and, Bool.and_eq_true] at hi; exact hi.1)
      have h27 := pz_T_27 hg hT
      rw [if_neg (by simp), cq_ck B.1, e1, Option.bind_some]
      simp only [cq_1 B1.1, Option.bind_some, aq_0 B1.1 S1.1, p1]
      rw [pq_ck P1, s_fanOf P1 ha, Option.bind_some, aq_ck B1.1, s_mask B1.1 S1.1 hw, Option.bind_some, pz_and (by omega) (pz_fn_lt _ _), s_bc (Nat.lt_of_le_of_lt Nat.and_le_left (by omega)), Option.bind_some, pz_bc_nc hg hnc, cq_ck B1.1, f1, Option.bind_some, if_pos ⟨trivial, trivial⟩, nI_clamp (by omega), nI_clamp (by omega)]
      exact ⟨_, rfl, pz_oc.v rfl ⟨b, B1.now f3, S1.now f3 f2 (pz_pn_V S.2.1 w (pz_fan hg ha))⟩ (e2.tr (pz_kc.now f3))⟩
theorem c_turn (C : pz_C h A) (x y : Int32) : ∃ o, f_X5_turn h 0 x y = some o ∧ pz_oc h A (R_turn A x y) o := by
  obtain ⟨b, B, S⟩ := id C
  have hg := S.2.1.T.1
  unfold f_X5_turn R_turn
  rw [s_isWhich, Option.bind_some]
  cases h1 : pz_inb 2 x with
  | false =>
    rw [if_pos rfl, if_neg (by simp)]
    exact ⟨_, rfl, pz_oc.x rfl C pz_ag.rf⟩
  | true =>
    obtain ⟨w, hw, rfl⟩ := pz_inb_of (by omega) h1
    rw [if_neg (by simp), if_pos rfl]
    unfold pz_inb
    by_cases h2 : y < 0
    · rw [if_pos h2, if_neg (by simp [h2])]
      exact ⟨_, rfl, pz_oc.x rfl C pz_ag.rf⟩
    · obtain ⟨a, ha, rfl⟩ := nI_of h2
      rw [if_neg h2]
      by_cases h3 : a ≤ 8
      · obtain ⟨k, e1, B1, S1, e2⟩ := s_saveState B S
        obtain ⟨P1, p1⟩ := B1.p S1.2.1
        have hT := pz_w_T S.2.1 w
        obtain ⟨k2, f1, f2, f3⟩ := s_put B1.1 S1.1 hw (pz_tk A.1.1 (pz_w A.1 w) a)
        have B2 := B1.now f3
        have P2 := P1.ag f3 (fun i hi => by omega)
        rw [if_pos (show nI a ≤ (8 : Int32) from nI_le (b := 8) h3 (by omega)), cq_ck B.1, e1, Option.bind_some]
        simp only [cq_1 B1.1, Option.bind_some, aq_0 B1.1 S1.1, p1, aq_ck B1.1]
        rw [s_mask B1.1 S1.1 hw, Option.bind_some, pq_ck P1, s_turnedBy P1 (pz_T_lt hg hT) (by omega), Option.bind_some, f1, Option.bind_some, if_pos (show decide (¬ nI a < 0 ∧ ¬ nI 9 ≤ nI a) = true by rw [decide_eq_true_eq]; exact ⟨h2, nI_ge (show a < 9 by omega) (by omega)⟩), nI_clamp (by omega), nI_clamp ha]
        match w, hw with
        | 0, _ =>
          have hK : A.1.2.2.2.1 < 2 ^ pz_nd A.1.1 := S.2.1.nc.1
          rw [if_pos (show nI 0 = 0 from rfl)]
          simp only [cq_1 B2.1, Option.bind_some, aq_3 B2.1 f2, aq_ck B2.1]
          have e3 : (pz_pu A.1 0 (pz_tk A.1.1 (pz_w A.1 0) a)).2.2.2.1 = A.1.2.2.2.1 := rfl
          rw [e3, pq_ck P2, s_turnedBy P2 hK (by omega), Option.bind_some, aq_p B2.1, Option.bind_some]
          have f4 := f2.k (pz_tk A.1.1 A.1.2.2.2.1 a)
          have f5 : pz_ag (fun a => a ≠ 74) k (pz_S k2 74 3 (nI (pz_tk A.1.1 A.1.2.2.2.1 a))) := f3.tr (pz_ag.S (by simp))
          have B3 := B1.now f5
          rw [cq_1 B3.1, Option.bind_some, aq_ck B3.1, s_mask B3.1 f4 (w := 0) (by omega), Option.bind_some]
          exact ⟨_, rfl, pz_oc.v rfl ⟨b, B3, S1.now f5 f4 (pz_tr2_V S.2.1 0 a)⟩ (e2.tr (pz_kc.now f5))⟩
        | 1, _ =>
          rw [if_neg (show ¬ nI 1 = 0 by decide), cq_1 B2.1, Option.bind_some, aq_ck B2.1, s_mask B2.1 f2 (w := 1) (by omega), Option.bind_some]
          exact ⟨_, rfl, pz_oc.v rfl ⟨b, B2, S1.now f3 f2 (pz_tr2_V S.2.1 1 a)⟩ (e2.tr (pz_kc.now f3))⟩
      · rw [if_neg (show ¬ nI a ≤ (8 : Int32) from nI_ge (a := 8) (by omega) ha), if_neg (by rw [decide_eq_true_eq]; exact fun q => q.2 (nI_le (by omega) ha))]
        exact ⟨_, rfl, pz_oc.x rfl C pz_ag.rf⟩
theorem c_mirror (C : pz_C h A) (x : Int32) : ∃ o, f_X5_mirror h 0 x = some o ∧ pz_oc h A (R_mirror A x) o := by
  obtain ⟨b, B, S⟩ := id C
  have hg := S.2.1.T.1
  unfold f_X5_mirror R_mirror
  rw [s_isWhich, Option.bind_some]
  cases h1 : pz_inb 2 x with
  | false =>
    rw [if_pos rfl, if_neg (by simp)]
    exact ⟨_, rfl, pz_oc.x rfl C pz_ag.rf⟩
  | true =>
    obtain ⟨w, hw, rfl⟩ := pz_inb_of (by omega) h1
    obtain ⟨k, e1, B1, S1, e2⟩ := s_saveState B S
    obtain ⟨P1, p1⟩ := B1.p S1.2.1
    have hT := pz_w_T S.2.1 w
    obtain ⟨k2, f1, f2, f3⟩ := s_put B1.1 S1.1 hw (pz_mi A.1.1 (pz_w A.1 w))
    have B2 := B1.now f3
    have P2 := P1.ag f3 (fun i hi => by omega)
    rw [if_neg (by simp), cq_ck B.1, e1, Option.bind_some]
    simp only [cq_1 B1.1, Option.bind_some, aq_0 B1.1 S1.1, p1, aq_ck B1.1]
    rw [s_mask B1.1 S1.1 hw, Option.bind_some, pq_ck P1, s_mirrored P1 (pz_T_27 hg hT), Option.bind_some, f1, Option.bind_some, if_pos trivial, nI_clamp (by omega)]
    match w, hw with
    | 0, _ =>
      rw [if_pos (show nI 0 = 0 from rfl)]
      simp only [cq_1 B2.1, Option.bind_some, aq_3 B2.1 f2, aq_ck B2.1]
      have e3 : (pz_pu A.1 0 (pz_mi A.1.1 (pz_w A.1 0))).2.2.2.1 = A.1.2.2.2.1 := rfl
      rw [e3, pq_ck P2, s_mirrored P2 S.2.1.K, Option.bind_some, aq_p B2.1, Option.bind_some]
      have f4 := f2.k (pz_mi A.1.1 A.1.2.2.2.1)
      have f5 : pz_ag (fun a => a ≠ 74) k (pz_S k2 74 3 (nI (pz_mi A.1.1 A.1.2.2.2.1))) := f3.tr (pz_ag.S (by simp))
      have B3 := B1.now f5
      rw [cq_1 B3.1, Option.bind_some, aq_ck B3.1, s_mask B3.1 f4 (w := 0) (by omega), Option.bind_some]
      exact ⟨_, rfl, pz_oc.v rfl ⟨b, B3, S1.now f5 f4 (pz_mr2_V S.2.1 0)⟩ (e2.tr (pz_kc.now f5))⟩
    | 1, _ =>
      rw [if_neg (show ¬ nI 1 = 0 by decide), cq_1 B2.1, Option.bind_some, aq_ck B2.1, s_mask B2.1 f2 (w := 1) (by omega), Option.bind_some]
      exact ⟨_, rfl, pz_oc.v rfl ⟨b, B2, S1.now f3 f2 (pz_mr2_V S.2.1 1)⟩ (e2.tr (pz_kc.now f3))⟩
theorem c_lock (C : pz_C h A) (x y z : Int32) : ∃ o, f_X5_lock h 0 x y z = some o ∧ pz_oc h A (R_lock A x y z) o := by
  obtain ⟨b, B, S⟩ := id C
  obtain ⟨P, p0⟩ := B.p S.2.1
  have hg := S.2.1.T.1
  have hnd := pz_nd_le hg
  have hP27 := pz_T_27 hg S.2.1.T.2.1
  unfold f_X5_lock R_lock
  simp only [cq_1 B.1, Option.bind_some, aq_0 B.1 S.1, p0]
  rw [pq_ck P, s_numberOf P, Option.bind_some]
  simp only [pz_no_m1]
  by_cases q : pz_no A.1.1 x y = pz_X
  · rw [if_pos q, if_pos q]
    exact ⟨_, rfl, pz_oc.x rfl C pz_ag.rf⟩
  · have hd := (pz_no_or hg x y).resolve_left q
    rw [if_neg q, if_neg q, aq_1 B.1 S.1, Option.bind_some, s_isIn (by omega) (by omega), Option.bind_some]
    cases hb : A.1.2.1.testBit (pz_no A.1.1 x y) with
    | false =>
      rw [if_pos rfl, if_pos rfl]
      exact ⟨_, rfl, pz_oc.x rfl C pz_ag.rf⟩
    | true =>
      obtain ⟨k, e1, B1, S1, e2⟩ := s_saveState B S
      have VV := pz_lo2_V S.2.1 hb z
      have hK := S.2.1.K
      have hp2 : 2 ^ pz_no A.1.1 x y < 134217728 := Nat.pow_lt_pow_right (n := 27) (by omega) (by omega)
      have hx : 2 ^ pz_no A.1.1 x y ^^^ 4294967295 < 4294967296 := Nat.xor_lt_two_pow (n := 32) (by omega) (by omega)
      have f4 := S1.1.k (pz_lo2 A.1.2.2.2.1 (pz_no A.1.1 x y) z)
      have f5 : pz_ag (fun a => a ≠ 74) k (pz_S k 74 3 (nI (pz_lo2 A.1.2.2.2.1 (pz_no A.1.1 x y) z))) := pz_ag.S (by simp)
      have B3 := B1.now f5
      have hK2 : pz_lo2 A.1.2.2.2.1 (pz_no A.1.1 x y) z < 134217728 := VV.K
      have hend : f_J6_bitCount_0f7a4 (pz_S k 74 3 (nI (pz_lo2 A.1.2.2.2.1 (pz_no A.1.1 x y) z))) (nI (pz_lo2 A.1.2.2.2.1 (pz_no A.1.1 x y) z)) = some (nI (pz_rk (pz_lo2 A.1.2.2.2.1 (pz_no A.1.1 x y) z) 27)) := by
        rw [s_bc (by omega), pz_bc_nc hg VV.nc]
      have fin : pz_oc h A (.inl (nI (pz_rk (pz_lo2 A.1.2.2.2.1 (pz_no A.1.1 x y) z) 27), pz_sa A (A.1.1, A.1.2.1, A.1.2.2.1, pz_lo2 A.1.2.2.2.1 (pz_no A.1.1 x y) z, A.1.2.2.2.2))) (.inl (nI (pz_rk (pz_lo2 A.1.2.2.2.1 (pz_no A.1.1 x y) z) 27), pz_S k 74 3 (nI (pz_lo2 A.1.2.2.2.1 (pz_no A.1.1 x y) z)))) := pz_oc.v rfl ⟨b, B3, S1.now f5 f4 VV⟩ (e2.tr (pz_kc.now f5))
      rw [if_neg (by simp), if_neg (by simp), cq_ck B.1, e1, Option.bind_some]
      simp only [zq_let, cq_1 B1.1, Option.bind_some, aq_3 B1.1 S1.1]
      rw [pz_shl (by omega)]
      by_cases qz : z = 0
      · have hl : pz_lo2 A.1.2.2.2.1 (pz_no A.1.1 x y) z = A.1.2.2.2.1 &&& (2 ^ pz_no A.1.1 x y ^^^ 4294967295) := if_pos qz
        rw [if_pos qz, pz_not (by omega), pz_and (by omega) hx, ← hl, aq_p B1.1, Option.bind_some, cq_1 B3.1, Option.bind_some, aq_3 B3.1 f4, Option.bind_some, hend]
        exact ⟨_, rfl, fin⟩
      · have hl : pz_lo2 A.1.2.2.2.1 (pz_no A.1.1 x y) z = A.1.2.2.2.1 ||| 2 ^ pz_no A.1.1 x y := if_neg qz
        rw [if_neg qz, pz_or (by omega) (by omega), ← hl, aq_p B1.1, Option.bind_some, cq_1 B3.1, Option.bind_some, aq_3 B3.1 f4, Option.bind_some, hend]
        exact ⟨_, rfl, fin⟩
theorem c_flip (C : pz_C h A) (x y z : Int32) : ∃ o, f_X5_flip h 0 x y z = some o ∧ pz_oc h A (R_flip A x y z) o := by
  obtain ⟨b, B, S⟩ := id C
  obtain ⟨P, p0⟩ := B.p S.2.1
  have hg := S.2.1.T.1
  have hnd := pz_nd_le hg
  unfold f_X5_flip R_flip
  simp only [cq_1 B.1, Option.bind_some, aq_0 B.1 S.1, p0]
  rw [pq_ck P, s_numberOf P, Option.bind_some, s_isWhich, Option.bind_some]
  simp only [pz_no_m1]
  cases h1 : pz_inb 2 x with
  | false =>
    rw [if_pos rfl, if_neg (by simp)]
    exact ⟨_, rfl, pz_oc.x rfl C pz_ag.rf⟩
  | true =>
    obtain ⟨w, hw, rfl⟩ := pz_inb_of (by omega) h1
    rw [if_neg (by simp)]
    by_cases q : pz_no A.1.1 y z = pz_X
    · rw [if_pos q, if_neg (fun r => r.2 q)]
      exact ⟨_, rfl, pz_oc.x rfl C pz_ag.rf⟩
    · have hd := (pz_no_or hg y z).resolve_left q
      have hT := pz_w_T S.2.1 w
      have h27 := pz_T_27 hg hT
      have hK := S.2.1.K
      rw [if_neg q, if_pos (show (true = true ∧ pz_no A.1.1 y z ≠ pz_X) from ⟨rfl, q⟩), aq_ck B.1, s_mask B.1 S.1 hw, Option.bind_some, s_isIn (by omega) (by omega), Option.bind_some, nI_clamp (by omega)]
      cases hb : (pz_w A.1 w).testBit (pz_no A.1.1 y z) with
      | false =>
        rw [if_pos (show false = false from rfl), if_neg (show ¬ (false = true ∧ (w = 0 → A.1.2.2.2.1.testBit (pz_no A.1.1 y z) = false)) from fun r => by simp at r)]
        exact ⟨_, rfl, pz_oc.x rfl C pz_ag.rf⟩
      | true =>
        rw [if_neg (show ¬ (true = false) by simp)]
        have go : (w = 0 → A.1.2.2.2.1.testBit (pz_no A.1.1 y z) = false) → ∃ o, (zq_ck h 0 5 fun _ => (Option.bind (f_X5_saveState h 0) fun v_23 => (zq_ck v_23 0 5 fun _ => (Option.bind (f_X5_makeFlip v_23 0 (nI w) (nI (pz_no A.1.1 y z))) fun v_26 => some ((Sum.inl (v_26.1, v_26.2) : (Int32 × zq_H) ⊕ (Nat × zq_H))))))) = some o ∧ pz_oc h A (.inl (nI (pz_oth A.1.1 (pz_w A.1 w) (pz_no A.1.1 y z)), pz_sa A (pz_mf A.1 w (pz_no A.1.1 y z)))) o := by
          intro hl
          obtain ⟨k, e1, B1, S1, e2⟩ := s_saveState B S
          obtain ⟨k2, f1, B2, S2, f2⟩ := s_makeFlip B1 S1 hw hb hl
          rw [cq_ck B.1, e1, Option.bind_some, cq_ck B1.1, f1, Option.bind_some]
          exact ⟨_, rfl, pz_oc.v rfl ⟨b, B2, S2⟩ (e2.tr f2)⟩
        match w, hw with
        | 0, _ =>
          rw [if_pos (show nI 0 = 0 from rfl), aq_3 B.1 S.1, Option.bind_some, s_isIn (by omega) (by omega), Option.bind_some]
          cases hb2 : A.1.2.2.2.1.testBit (pz_no A.1.1 y z) with
          | false =>
            rw [if_pos (show false = false from rfl), if_pos ⟨rfl, fun _ => rfl⟩]
            exact go (fun _ => hb2)
          | true =>
            rw [if_neg (show ¬ (true = false) by simp), if_neg (fun r => by have := r.2 rfl; simp at this)]
            exact ⟨_, rfl, pz_oc.x rfl C pz_ag.rf⟩
        | 1, _ =>
          rw [if_neg (show ¬ nI 1 = 0 by decide), if_pos ⟨rfl, fun r => by omega⟩]
          exact go (fun r => by omega)
theorem c_take (C : pz_C h A) (x : Int32) : ∃ o, f_X5_take h 0 x = some o ∧ pz_oc h A (R_take A x) o := by
  obtain ⟨b, B, S⟩ := id C
  unfold f_X5_take R_take
  rw [cq_ck B.1, s_isSnapshot B.1, Option.bind_some]
  cases h1 : pz_inb 2 x with
  | false =>
    rw [if_pos rfl, if_neg (by simp)]
    exact ⟨_, rfl, pz_oc.x rfl C pz_ag.rf⟩
  | true =>
    obtain ⟨s, hs, rfl⟩ := pz_inb_of (by omega) h1
    obtain ⟨k, e1, e2, e3⟩ := s_copy (h := h) (p := 83 + s) (q := 74) (n := A.1) (by have := B.1.1; omega) (by have := B.1.1; omega) (pz_sh3 _ (by omega)) rfl (by omega) S.1
    have l : pz_sf h k := pz_sf.of (by omega) e3
    have B1 := l.B B
    have A1 := S.1.ag e3 (show 74 ≠ 83 + s by omega)
    obtain ⟨P1, p1⟩ := B1.p S.2.1
    rw [if_neg (by simp), cq_4 B.1, Option.bind_some, cq_sp B.1 hs, Option.bind_some, cq_1 B.1, Option.bind_some, sv_ck B.1 (by omega), e1, Option.bind_some]
    simp only [cq_1 B1.1, Option.bind_some, aq_0 B1.1 A1, p1, pq_0 P1]
    rw [if_pos trivial, nI_clamp (by omega)]
    refine ⟨_, rfl, pz_oc.v rfl ⟨b, B1, A1, S.2.1, S.2.2.1, by rw [e3.i (by omega)]; exact S.2.2.2.1, fun i hi => ⟨(S.2.2.2.2.1 i hi).1.ag e3 (by have hi : i < A.2.1 := hi; have := S.2.2.1; omega), (S.2.2.2.2.1 i hi).2⟩, fun s' hs' => ?_⟩ l.kc⟩
    by_cases q : s' = s
    · subst q
      exact Or.inr ⟨A.1, if_pos rfl, e2, S.2.1⟩
    · rcases S.2.2.2.2.2 s' hs' with ⟨d1, d2⟩ | ⟨m, d1, d2, d3⟩
      · exact Or.inl ⟨by show pz_us A.2.2.2.1 s A.1 s' = none; unfold pz_us; rw [if_neg q]; exact d1, by rw [e3.r (by omega)]; exact d2⟩
      · exact Or.inr ⟨m, by show pz_us A.2.2.2.1 s A.1 s' = some m; unfold pz_us; rw [if_neg q]; exact d1, d2.ag e3 (by omega), d3⟩
theorem c_restore (C : pz_C h A) (x : Int32) : ∃ o, f_X5_restore h 0 x = some o ∧ pz_oc h A (R_restore A x) o := by
  obtain ⟨b, B, S⟩ := id C
  unfold f_X5_restore R_restore
  rw [cq_ck B.1, s_isSnapshot B.1, Option.bind_some]
  cases h1 : pz_inb 2 x with
  | false =>
    rw [if_pos rfl, if_neg (by simp)]
    exact ⟨_, rfl, pz_oc.x rfl C pz_ag.rf⟩
  | true =>
    obtain ⟨s, hs, rfl⟩ := pz_inb_of (by omega) h1
    rw [if_neg (by simp), cq_4 B.1, Option.bind_some, cq_sp B.1 hs, Option.bind_some, pz_gq (by have := B.1.1; omega) (pz_sh3 _ (by omega)), Option.bind_some, if_pos (show true = true from rfl), nI_clamp (by omega)]
    rcases S.2.2.2.2.2 s hs with ⟨d1, d2⟩ | ⟨m, d1, d2, d3⟩
    · rw [d2, if_pos rfl, d1]
      exact ⟨_, rfl, pz_oc.x rfl C pz_ag.rf⟩
    · obtain ⟨k, e1, B1, S1, e2⟩ := s_saveState B S
      rcases S1.2.2.2.2.2 s hs with ⟨d1', -⟩ | ⟨m', d1', d2', d3'⟩
      · rw [d1] at d1'; cases d1'
      · rw [d1] at d1'
        cases d1'
        obtain ⟨k2, f1, f2, f3⟩ := s_copy (h := k) (p := 74) (q := 83 + s) (n := m) (by have := B1.1.1; omega) (by have := B1.1.1; omega) rfl (pz_sh3 _ (by omega)) (by omega) d2'
        have B2 := B1.now f3
        have f4 := f2.f A.1.2.2.2.2
        have f5 : pz_ag (fun a => a ≠ 74) k (pz_S k2 74 4 A.1.2.2.2.2) := f3.tr (pz_ag.S (by simp))
        have B3 := B1.now f5
        have V3 : pz_V b (m.1, m.2.1, m.2.2.1, m.2.2.2.1, A.1.2.2.2.2) := d3'
        obtain ⟨P3, p3⟩ := B3.p V3
        rw [d2.1, if_neg (by simp), cq_ck B.1, e1, Option.bind_some]
        simp only [cq_1 B1.1, Option.bind_some, aq_4 B1.1 S1.1, cq_4 B1.1, cq_sp B1.1 hs, aq_ck B1.1]
        rw [f1, Option.bind_some, cq_1 B2.1, Option.bind_some, aq_p B2.1, Option.bind_some]
        simp only [cq_1 B3.1, Option.bind_some, aq_0 B3.1 f4, p3, pq_0 P3]
        rw [d1]
        exact ⟨_, rfl, pz_oc.v rfl ⟨b, B3, S1.now f5 f4 V3⟩ (e2.tr (pz_kc.now f5))⟩
theorem c_undo (C : pz_C h A) : ∃ o, f_X5_undo h 0 = some o ∧ pz_oc h A (R_undo A) o := by
  obtain ⟨b, B, S⟩ := id C
  unfold f_X5_undo R_undo
  rw [cq_i B.1, S.2.2.2.1, Option.bind_some]
  simp only [zq_let]
  have hsn := S.2.2.1
  by_cases q : A.2.1 = 0
  · rw [q, if_pos (show nI 0 - 1 < 0 by decide), if_pos rfl]
    exact ⟨_, rfl, pz_oc.x rfl C pz_ag.rf⟩
  · obtain ⟨i, hi⟩ : ∃ i, A.2.1 = i + 1 := ⟨A.2.1 - 1, by omega⟩
    have S5 := S.2.2.2.2.1 i (by omega)
    obtain ⟨k, e1, e2, e3⟩ := s_copy (h := h) (p := 74) (q := 76 + i) (by have := B.1.1; omega) (by have := B.1.1; omega) rfl (pz_sh3 _ (by omega)) (by omega) S5.1
    have B1 := B.now e3
    have S1 := S.now e3 e2 S5.2
    have l4 : pz_sf k (pz_S k 0 3 (nI i)) := pz_sf.S (by omega)
    have agz : pz_ag (fun a => a ≠ 0) k (pz_S k 0 3 (nI i)) := pz_ag.S (by simp)
    have B4 := l4.B B1
    rw [if_neg q, hi, nI_pred, if_neg (nI_pos (by omega)), cq_2 B.1, Option.bind_some, cq_n75 B.1, Option.bind_some, if_pos (nI_lt (by omega) (by omega)), cq_1 B.1, Option.bind_some, Option.bind_some, cq_sv B.1 (by omega), Option.bind_some, aq_ck B.1, e1, Option.bind_some, cq_p B1.1, Option.bind_some, cq_i B4.1, pz_S_i, if_pos ⟨rfl, rfl⟩, Option.bind_some, Nat.add_sub_cancel]
    refine ⟨_, rfl, pz_oc.v rfl ⟨b, B4, S1.1.ag agz (by omega), S1.2.1, show i ≤ 6 by omega, by rw [pz_S_i, if_pos ⟨rfl, rfl⟩], fun j hj => ⟨(S1.2.2.2.2.1 j (by have hj : j < i := hj; omega)).1.ag agz (by omega), (S1.2.2.2.2.1 j (by have hj : j < i := hj; omega)).2⟩, fun s hs => ?_⟩ ((pz_kc.now e3).tr l4.kc)⟩
    rcases S1.2.2.2.2.2 s hs with ⟨d1, d2⟩ | ⟨m, d1, d2, d3⟩
    · exact Or.inl ⟨d1, d2⟩
    · exact Or.inr ⟨m, d1, d2.ag agz (by omega), d3⟩
end PZCH
