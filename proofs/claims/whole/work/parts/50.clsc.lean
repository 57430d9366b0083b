/-! the class' looks at distances, further on -/
section PZC3
variable {h h' : zq_H} {b tl sn : Nat} {tx : Nat → Nat} {n : pz_5} {sv : Nat → pz_5} {sp : Nat → Option pz_5}
theorem pz_no_dist (V : pz_V b n) (hK : ¬ n.2.2.2.1 &&& n.2.2.1 = n.2.2.2.1) : pz_ds n.1 n.2.2.2.1 n.2.1 n.2.2.1 = none := by
  cases e : pz_ds n.1 n.2.2.2.1 n.2.1 n.2.2.1 with
  | none => rfl
  | some k => exact absurd (pz_ds_sub V.T.1 V.T.2.2.2 e) hK
theorem s_distanceWithLocks (B : pz_CB h b tl tx) (S : pz_CS h b n sn sv sp) : ∃ h', f_X5_distanceWithLocks h 0 = some (pz_cd (pz_ds n.1 n.2.2.2.1 n.2.1 n.2.2.1), h') ∧ pz_la h h' ∧ pz_CB h' b tl tx := by
  unfold f_X5_distanceWithLocks
  rw [cq_ck B.1, s_hasDistance B.1 S.1 S.2.1, Option.bind_some]
  by_cases q : n.2.2.2.1 &&& n.2.2.1 = n.2.2.2.1
  · obtain ⟨k, h', hk, e1, e2, e3, M, sl, e4, e5, e6, e7⟩ := s_reachWithLocks B S q
    have S' := pz_la.S e2 S
    rw [if_neg (by simp [q]), cq_ck B.1, e1, Option.bind_some, cq_1 e3.1, Option.bind_some, aq_1 e3.1 S'.1, Option.bind_some, rk_ck e3.1 hk, s_flipsTo e4 e5 e6 e7 S.2.1.T.2.1, Option.bind_some, pz_ds_sym S.2.1.T.1 (pz_T_27 S.2.1.T.1 S.2.1.T.2.2.1) (pz_T_27 S.2.1.T.1 S.2.1.T.2.1)]
    exact ⟨h', rfl, e2, e3⟩
  · rw [if_pos (by simp [q]), pz_no_dist S.2.1 q]
    exact ⟨h, rfl, pz_ag.rf, B⟩
theorem s_shortestWays (B : pz_CB h b tl tx) (S : pz_CS h b n sn sv sp) : ∃ h', f_X5_shortestWays h 0 = some (nI (pz_ws n.1 n.2.2.2.1 n.2.1 n.2.2.1), h') ∧ pz_la h h' ∧ pz_CB h' b tl tx := by
  unfold f_X5_shortestWays
  rw [cq_ck B.1, s_hasDistance B.1 S.1 S.2.1, Option.bind_some]
  by_cases q : n.2.2.2.1 &&& n.2.2.1 = n.2.2.2.1
  · obtain ⟨k, h', hk, e1, e2, e3, M, sl, e4, e5, e6, e7⟩ := s_reachWithLocks B S q
    have S' := pz_la.S e2 S
    rw [if_neg (by simp [q]), cq_ck B.1, e1, Option.bind_some, cq_1 e3.1, Option.bind_some, aq_1 e3.1 S'.1, Option.bind_some, rk_ck e3.1 hk, s_waysTo e4 e5 e6 e7 S.2.1.T.2.1, Option.bind_some, pz_ws_sym S.2.1.T.1 (pz_T_27 S.2.1.T.1 S.2.1.T.2.2.1) (pz_T_27 S.2.1.T.1 S.2.1.T.2.1)]
    exact ⟨h', rfl, e2, e3⟩
  · have e : pz_ws n.1 n.2.2.2.1 n.2.1 n.2.2.1 = 0 := by
      unfold pz_ws
      rw [pz_no_dist S.2.1 q]
    rw [if_pos (by simp [q]), e]
    exact ⟨h, rfl, pz_ag.rf, B⟩
theorem s_freeDistance (B : pz_CB h b tl tx) (S : pz_CS h b n sn sv sp) : ∃ h', f_X5_freeDistance h 0 = some (nI (pz_dv n.1 n.2.1 n.2.2.1), h') ∧ pz_la h h' ∧ pz_CB h' b tl tx := by
  obtain ⟨h', e1, e2, e3, M, sl, e4, e5, e6, e7⟩ := s_reachFrom B S (w := 1) (by omega)
  have S' := pz_la.S e2 S
  have e1 : f_X5_reachFrom h 0 1 = some (91, h') := e1
  have hw : pz_w n 1 = n.2.2.1 := rfl
  rw [hw] at e7
  have e8 := s_flipsTo e4 e5 e6 e7 S.2.1.T.2.1
  rw [pz_ds_sym S.2.1.T.1 (pz_T_27 S.2.1.T.1 S.2.1.T.2.2.1) (pz_T_27 S.2.1.T.1 S.2.1.T.2.1), pz_dv_e S.2.1.T.1 S.2.1.T.2.1 S.2.1.T.2.2.1] at e8
  refine ⟨h', ?_, e2, e3⟩
  have e8 : f_X2_flipsTo h' 91 (nI n.2.1) = some (nI (pz_dv n.1 n.2.1 n.2.2.1)) := e8
  unfold f_X5_freeDistance
  rw [cq_ck B.1, e1, Option.bind_some, cq_1 e3.1, Option.bind_some, aq_1 e3.1 S'.1, Option.bind_some, rk_ck e3.1 (j := 1) (by omega), e8]
  rfl
theorem pz_CB.p (B : pz_CB h b tl tx) (V : pz_V b n) : pz_Pt h (3 + 12 * n.1) n.1 ∧ zq_gr h (2 + 12 * n.1) 0 0 = some (3 + 12 * n.1) := by
  have G := (B.g V).1
  have e : 2 + 12 * n.1 + 1 = 3 + 12 * n.1 := by omega
  have h1 := G.2.2.1
  have h2 := gq_0 G
  rw [e] at h1 h2
  exact ⟨h1, h2⟩
theorem s_freeDistanceBehind (B : pz_CB h b tl tx) (S : pz_CS h b n sn sv sp) {d : Nat} (hd : d < 27) : ∃ h', f_X5_freeDistanceBehind h 0 (nI d) = some (if n.2.1.testBit d = true then nI (pz_dv n.1 (pz_fl n.1 n.2.1 d) n.2.2.1) else -1, h') ∧ pz_la h h' ∧ pz_CB h' b tl tx := by
  have k1 := pz_T_27 S.2.1.T.1 S.2.1.T.2.1
  unfold f_X5_freeDistanceBehind
  rw [cq_1 B.1, Option.bind_some, aq_1 B.1 S.1, Option.bind_some, s_isIn (by omega) (by omega), Option.bind_some]
  cases hb : n.2.1.testBit d with
  | false =>
    rw [if_pos rfl, if_neg (by simp)]
    exact ⟨h, rfl, pz_ag.rf, B⟩
  | true =>
    obtain ⟨h', e1, e2, e3, M, sl, e4, e5, e6, e7⟩ := s_reachFrom B S (w := 1) (by omega)
    have S' := pz_la.S e2 S
    have e1 : f_X5_reachFrom h 0 1 = some (91, h') := e1
    have hw : pz_w n 1 = n.2.2.1 := rfl
    rw [hw] at e7
    obtain ⟨-, -, -, hfT, -⟩ := pz_flip S.2.1.T.1 S.2.1.T.2.1 hb
    have e8 := s_flipsTo e4 e5 e6 e7 hfT
    rw [pz_ds_sym S.2.1.T.1 (pz_T_27 S.2.1.T.1 S.2.1.T.2.2.1) (pz_T_27 S.2.1.T.1 hfT), pz_dv_e S.2.1.T.1 hfT S.2.1.T.2.2.1] at e8
    have e8 : f_X2_flipsTo h' 91 (nI (pz_fl n.1 n.2.1 d)) = some (nI (pz_dv n.1 (pz_fl n.1 n.2.1 d) n.2.2.1)) := e8
    obtain ⟨P, p0⟩ := e3.p S.2.1
    rw [if_neg (by simp), if_pos rfl, cq_ck B.1, e1, Option.bind_some]
    simp only [cq_1 e3.1, Option.bind_some, aq_0 e3.1 S'.1, p0, aq_1 e3.1 S'.1]
    rw [pq_ck P, s_flipped P S.2.1.T.2.1 hb, Option.bind_some, rk_ck e3.1 (j := 1) (by omega), e8, Option.bind_some]
    exact ⟨h', rfl, e2, e3⟩
end PZC3
