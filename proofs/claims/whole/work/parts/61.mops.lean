/-! the reference's calls: looks -/
def cdA (k : Nat) : Int32 := if k = 1 then 1 else 2
def cdB (k : Nat) : Int32 := if k = 0 then 1 else 2
def cdC (_ : Nat) : Int32 := 1
def cdD (k : Nat) : Int32 := if k = 1 then 1 else if k = 0 then 2 else 3
section PZMO
variable {h : zq_H} {A : pz_A}
theorem pz_M.z0 (H : pz_M h A) : pz_M (pz_S h 104 7 0) A := (pz_mt.t 0).M H
theorem pz_i70 : pz_i (pz_S h 104 7 0) 104 7 = 0 := by rw [pz_S_i, if_pos ⟨rfl, rfl⟩]
theorem pz_km0 : pz_km h (pz_S h 104 7 0) := (pz_mt.t 0).km
theorem d_number (H : pz_M h A) (x y : Int32) : ∃ o, f_X6_number h 104 x y = some o ∧ pz_om cdA h A (R_number A x y) o := by
  unfold f_X6_number R_number
  rw [mq_ck H.1, m_isDia H, Option.bind_some]
  by_cases q : pz_no A.1.1 x y = pz_X
  · rw [decide_eq_false (fun r => r q), if_pos (show false = false from rfl), if_pos q, mq_p H.1, Option.bind_some]
    exact ⟨_, rfl, pz_om.t H rfl⟩
  · rw [decide_eq_true q, if_neg (show ¬ (true = false) by simp), if_neg q, mq_p H.1, Option.bind_some, mq_ck H.z0.1, m_noN H.z0 q, Option.bind_some]
    exact ⟨_, rfl, pz_om.v pz_i70 H.z0 pz_km0⟩
theorem m_reason (H : pz_M h A) {d : Nat} (hd : d < 27) : f_X6_reason h 104 (nI d) = some (pz_hi A.1 d) := by
  have hP := pz_T_27 H.V.T.1 H.V.T.2.1
  have hK := H.V.K
  unfold f_X6_reason pz_hi
  rw [mq_0 H.1, Option.bind_some, mz_a1 H, Option.bind_some, s_has (by omega) (by omega), Option.bind_some]
  cases A.1.2.1.testBit d with
  | false => rfl
  | true =>
    rw [if_neg (show ¬ (true = false) by simp), if_neg (show ¬ (true = false) by simp), Option.bind_some, mz_a3 H, Option.bind_some, s_has (by omega) (by omega), Option.bind_some]
    cases A.1.2.2.2.1.testBit d <;> rfl
theorem d_whyNot (H : pz_M h A) (x y : Int32) : ∃ o, f_X6_whyNot h 104 x y = some o ∧ pz_om cdA h A (R_whyNot A x y) o := by
  have hnd := pz_nd_le H.V.T.1
  unfold f_X6_whyNot R_whyNot
  rw [mq_ck H.1, m_isDia H, Option.bind_some]
  by_cases q : pz_no A.1.1 x y = pz_X
  · rw [decide_eq_false (fun r => r q), if_pos (show false = false from rfl), if_pos q, mq_p H.1, Option.bind_some]
    exact ⟨_, rfl, pz_om.t H rfl⟩
  · have hd := (pz_no_or H.V.T.1 x y).resolve_left q
    rw [decide_eq_true q, if_neg (show ¬ (true = false) by simp), if_neg q, mq_p H.1, Option.bind_some, mq_ck H.z0.1, m_noN H.z0 q, Option.bind_some, mq_ck H.z0.1, m_reason H.z0 (by omega), Option.bind_some]
    exact ⟨_, rfl, pz_om.v pz_i70 H.z0 pz_km0⟩
theorem m_flippedThen (H : pz_M h A) {d : Nat} (hd : d < 27) : ∃ h', f_X6_flippedThen h 104 (nI d) = some (pz_fb A.1 d, h') ∧ pz_mg h h' := by
  have hg := H.V.T.1
  have hP := H.V.T.2.1
  have hP27 := pz_T_27 hg hP
  unfold f_X6_flippedThen pz_fb
  rw [mq_0 H.1, Option.bind_some, mz_a1 H, Option.bind_some, s_has (by omega) (by omega), Option.bind_some]
  cases hb : A.1.2.1.testBit d with
  | false =>
    rw [if_pos (show false = false from rfl), if_neg (show ¬ (false = true) by simp)]
    exact ⟨h, rfl, pz_mg.rf⟩
  | true =>
    obtain ⟨-, -, -, hfT, -⟩ := pz_flip hg hP hb
    obtain ⟨h', e1, e2⟩ := m_freeFrom H.1 H.d H.2.1.2.2.2.2.2.1 H.2.1.2.2.2.2.2.2.1 hfT H.V.T.2.2.1 H.z2
    rw [if_neg (show ¬ (true = false) by simp), if_pos (show true = true from rfl), Option.bind_some, mz_a1 H, Option.bind_some, mq_ck H.1, m_behindFlip H.1 H.d hP hb, Option.bind_some, mq_ck H.1, e1]
    exact ⟨h', rfl, e2⟩
theorem pz_mg.M {h' : zq_H} (l : pz_mg h h') (H : pz_M h A) : pz_M h' A := l.mt.M H
theorem pz_mg.th {h' : zq_H} (l : pz_mg h h') : pz_i h' 104 7 = pz_i h 104 7 := l.2.2 104 7 (by omega) (by omega) (by omega)
theorem d_ifFlipped (H : pz_M h A) (x y : Int32) : ∃ o, f_X6_ifFlipped h 104 x y = some o ∧ pz_om cdA h A (R_ifFlipped A x y) o := by
  have hnd := pz_nd_le H.V.T.1
  unfold f_X6_ifFlipped R_ifFlipped
  rw [mq_ck H.1, m_isDia H, Option.bind_some]
  by_cases q : pz_no A.1.1 x y = pz_X
  · rw [decide_eq_false (fun r => r q), if_pos (show false = false from rfl), if_pos q, mq_p H.1, Option.bind_some]
    exact ⟨_, rfl, pz_om.t H rfl⟩
  · have hd := (pz_no_or H.V.T.1 x y).resolve_left q
    obtain ⟨h', e1, e2⟩ := m_flippedThen H.z0 (d := pz_no A.1.1 x y) (by omega)
    rw [decide_eq_true q, if_neg (show ¬ (true = false) by simp), if_neg q, mq_p H.1, Option.bind_some, mq_ck H.z0.1, m_noN H.z0 q, Option.bind_some, mq_ck H.z0.1, e1, Option.bind_some]
    exact ⟨_, rfl, pz_om.v (by rw [e2.th]; exact pz_i70) (e2.M H.z0) (pz_km0.tr e2.mt.km)⟩
theorem d_degree (H : pz_M h A) (x c : Int32) : ∃ o, f_X6_degree h 104 x c = some o ∧ pz_om cdA h A (R_degree A x c) o := by
  have hg := H.V.T.1
  unfold f_X6_degree R_degree
  rw [m_isWhich, Option.bind_some]
  cases h1 : pz_inb 2 x with
  | false =>
    rw [if_pos (show false = false from rfl), if_neg (fun r => by have := r.1; simp at this), mq_p H.1, Option.bind_some]
    exact ⟨_, rfl, pz_om.t H rfl⟩
  | true =>
    obtain ⟨w, hw, rfl⟩ := pz_inb_of (by omega) h1
    rw [if_neg (show ¬ (true = false) by simp), mq_ck H.1, m_isCorner H, Option.bind_some]
    cases h2 : pz_inb (A.1.1 + 4) c with
    | false =>
      rw [if_pos (show false = false from rfl), if_neg (fun r => by have := r.2; simp at this), mq_p H.1, Option.bind_some]
      exact ⟨_, rfl, pz_om.t H rfl⟩
    | true =>
      obtain ⟨a, ha, rfl⟩ := pz_inb_of (by omega) h2
      rw [if_neg (show ¬ (true = false) by simp), if_pos ⟨rfl, rfl⟩, nI_clamp (by omega), nI_clamp (by omega), mq_p H.1, Option.bind_some, mq_0 H.z0.1, Option.bind_some, mz_w H.z0 hw, Option.bind_some, mq_ck H.z0.1, m_degreeOf H.z0.1 H.z0.d (pz_T_27 hg (pz_w_T H.V w)) ha, Option.bind_some]
      exact ⟨_, rfl, pz_om.v pz_i70 H.z0 pz_km0⟩
theorem m_otherNow (H : pz_M h A) {w d : Nat} (hw : w < 2) (hd : d < 27) : f_X6_otherNow h 104 (nI w) (nI d) = some (nI (pz_ot A.1.1 (pz_w A.1 w) d)) := by
  have hg := H.V.T.1
  have hT := pz_w_T H.V w
  have h27 := pz_T_27 hg hT
  unfold f_X6_otherNow
  rw [mq_0 H.1, Option.bind_some, mz_w H hw, Option.bind_some, s_has (by omega) (by omega), Option.bind_some]
  cases hb : (pz_w A.1 w).testBit d with
  | false =>
    unfold pz_ot
    rw [if_pos (show false = false from rfl), if_neg (fun r => by rw [hb] at r; cases r.1)]
    rfl
  | true =>
    rw [if_neg (show ¬ (true = false) by simp), mq_ck H.1, m_flipped H.1 H.d hT hb, pz_ot_T hg hT hb]
    rfl
theorem d_other (H : pz_M h A) (x y z : Int32) : ∃ o, f_X6_other h 104 x y z = some o ∧ pz_om cdA h A (R_other A x y z) o := by
  have hg := H.V.T.1
  have hnd := pz_nd_le hg
  unfold f_X6_other R_other
  rw [m_isWhich, Option.bind_some]
  cases h1 : pz_inb 2 x with
  | false =>
    rw [if_pos (show false = false from rfl), if_neg (fun r => by have := r.1; simp at this), mq_p H.1, Option.bind_some]
    exact ⟨_, rfl, pz_om.t H rfl⟩
  | true =>
    obtain ⟨w, hw, rfl⟩ := pz_inb_of (by omega) h1
    rw [if_neg (show ¬ (true = false) by simp), mq_ck H.1, m_isDia H, Option.bind_some]
    by_cases q : pz_no A.1.1 y z = pz_X
    · rw [decide_eq_false (fun r => r q), if_pos (show false = false from rfl), if_neg (fun r => r.2 q), mq_p H.1, Option.bind_some]
      exact ⟨_, rfl, pz_om.t H rfl⟩
    · have hd := (pz_no_or hg y z).resolve_left q
      rw [decide_eq_true q, if_neg (show ¬ (true = false) by simp), if_pos ⟨rfl, q⟩, nI_clamp (by omega), mq_p H.1, Option.bind_some, mq_ck H.z0.1, m_noN H.z0 q, Option.bind_some, mq_ck H.z0.1, m_otherNow H.z0 hw (by omega), Option.bind_some]
      exact ⟨_, rfl, pz_om.v pz_i70 H.z0 pz_km0⟩
theorem m_triangulationNow (H : pz_M h A) {w y : Nat} (hw : w < 2) (hy : y < 1000) : ∃ h', f_X6_triangulationNow h 104 (nI w) (nI y) = some (pz_tn A.1 w y, h') ∧ pz_mg h h' := by
  have hg := H.V.T.1
  have hT := pz_w_T H.V w
  have hlt := pz_T_lt hg hT
  have h27 := pz_T_27 hg hT
  unfold f_X6_triangulationNow pz_tn
  have e0 : (nI y = 0) = (y = 0) := pz_case y 0 hy (by omega)
  have e1 : (nI y = 1) = (y = 1) := pz_case y 1 hy (by omega)
  have e2 : (nI y = 2) = (y = 2) := pz_case y 2 hy (by omega)
  have e3 : (nI y = 3) = (y = 3) := pz_case y 3 hy (by omega)
  have e4 : (nI y = 4) = (y = 4) := pz_case y 4 hy (by omega)
  have e5 : (nI y = 5) = (y = 5) := pz_case y 5 hy (by omega)
  have c0 := m_cornersOf H.1 H.d h27 0
  have c1 := m_cornersOf H.1 H.d h27 1
  rw [if_pos rfl] at c0
  rw [if_neg (show ¬ (1 : Int32) = 0 by decide)] at c1
  simp only [mq_0 H.1, Option.bind_some, mz_w H hw, e0, e1, e2, e3, e4, e5, mq_ck H.1, m_codeOf H.1 H.d hlt, m_likenesses H.1 H.d hlt, c0, c1]
  by_cases q0 : y = 0
  · rw [if_pos q0, if_pos q0]; exact ⟨h, rfl, pz_mg.rf⟩
  rw [if_neg q0, if_neg q0]
  by_cases q1 : y = 1
  · rw [if_pos q1, if_pos q1]; exact ⟨h, rfl, pz_mg.rf⟩
  rw [if_neg q1, if_neg q1]
  by_cases q2 : y = 2
  · rw [if_pos q2, if_pos q2]; exact ⟨h, rfl, pz_mg.rf⟩
  rw [if_neg q2, if_neg q2]
  by_cases q3 : y = 3
  · rw [if_pos q3, if_pos q3]; exact ⟨h, rfl, pz_mg.rf⟩
  rw [if_neg q3, if_neg q3]
  by_cases q4 : y = 4
  · rw [if_pos q4, if_pos q4]; exact ⟨h, rfl, pz_mg.rf⟩
  rw [if_neg q4, if_neg q4]
  by_cases q5 : y = 5
  · obtain ⟨h', f1, f2, -⟩ := m_farthestFrom H.1 H.d H.2.1.2.2.2.2.2.1 H.2.1.2.2.2.2.2.2.1 hT
    rw [if_pos q5, if_pos q5, f1]
    exact ⟨h', rfl, f2⟩
  · obtain ⟨h', f1, f2, -⟩ := m_leastSoFar H.1 H.d H.2.1.2.2.2.2.2.1 H.2.1.2.2.2.2.2.2.1 hT
    rw [if_neg q5, if_neg q5, f1]
    exact ⟨h', rfl, f2⟩
theorem pz_inbw (n : Nat) (hn : 0 < n) (hn2 : n < 1000) (y : Int32) : f_X6_within h y 0 (nI n - 1) = some (pz_inb n y) := m_within hn (by omega)
theorem d_triangulation (H : pz_M h A) (x y : Int32) : ∃ o, f_X6_triangulation h 104 x y = some o ∧ pz_om cdA h A (R_triangulation A x y) o := by
  have hg := H.V.T.1
  unfold f_X6_triangulation R_triangulation
  rw [m_isWhich, Option.bind_some]
  cases h1 : pz_inb 2 x with
  | false =>
    rw [if_pos (show false = false from rfl), if_neg (show ¬ (false = true) by simp), mq_p H.1, Option.bind_some]
    exact ⟨_, rfl, pz_om.t H rfl⟩
  | true =>
    obtain ⟨w, hw, rfl⟩ := pz_inb_of (by omega) h1
    rw [if_neg (show ¬ (true = false) by simp), if_pos (show true = true from rfl), show (6 : Int32) = nI 7 - 1 by decide, pz_inbw 7 (by omega) (by omega), Option.bind_some]
    cases h2 : pz_inb 7 y with
    | false =>
      rw [if_pos (show false = false from rfl), if_neg (show ¬ (false = true) by simp), mq_p H.1, Option.bind_some]
      exact ⟨_, rfl, pz_om.t H rfl⟩
    | true =>
      obtain ⟨a, ha, rfl⟩ := pz_inb_of (by omega) h2
      obtain ⟨h', e1, e2⟩ := m_triangulationNow H.z0 hw (y := a) (by omega)
      rw [if_neg (show ¬ (true = false) by simp), if_pos (show true = true from rfl), nI_clamp (by omega), nI_clamp (by omega), mq_p H.1, Option.bind_some, mq_ck H.z0.1, e1, Option.bind_some]
      exact ⟨_, rfl, pz_om.v (by rw [e2.th]; exact pz_i70) (e2.M H.z0) (pz_km0.tr e2.mt.km)⟩
theorem m_counted (H : pz_M h A) {y : Nat} (hy : y < 1000) : f_X6_counted h 104 (nI y) = some (pz_cnn A y) := by
  have hK := H.V.K
  have hs : ∀ s, s < 2 → zq_ai h 108 (nI s) = some (nI (pz_so (A.2.2.2.1 s))) := fun s hs => by
    rw [pz_ai (L := 2) (by have := H.1.1; omega) rfl hs (by omega), (H.2.2.1.2.2.2.2.2 s hs).1]
  have hs0 : zq_ai h 108 0 = some (nI (pz_so (A.2.2.2.1 0))) := hs 0 (by omega)
  have hs1 : zq_ai h 108 1 = some (nI (pz_so (A.2.2.2.1 1))) := hs 1 (by omega)
  have e0 : (nI y = 0) = (y = 0) := pz_case y 0 hy (by omega)
  have e1 : (nI y = 1) = (y = 1) := pz_case y 1 hy (by omega)
  have e2 : (nI y = 2) = (y = 2) := pz_case y 2 hy (by omega)
  have e3 : (nI y = 3) = (y = 3) := pz_case y 3 hy (by omega)
  have e4 : (nI y = 4) = (y = 4) := pz_case y 4 hy (by omega)
  have e5 : (nI y = 5) = (y = 5) := pz_case y 5 hy (by omega)
  have e6 : (nI y = 6) = (y = 6) := pz_case y 6 hy (by omega)
  have e7 : (nI y = 7) = (y = 7) := pz_case y 7 hy (by omega)
  have e8 : (nI y = 8) = (y = 8) := pz_case y 8 hy (by omega)
  unfold f_X6_counted pz_cnn
  simp only [e0, e1, e2, e3, e4, e5, e6, e7, e8, mq_0 H.1, Option.bind_some, mz_a0 H, mq_i H.1, H.2.1.2.2.1, H.2.1.2.2.2.2.2.1.1, H.2.1.2.2.2.2.2.2.2.1, H.2.1.2.2.2.2.2.2.2.2, mz_a4 H, mz_a3 H, s_ones (h := h) (m := A.1.2.2.2.1) (by omega), mq_4 H.1, hs0, hs1, nI_add, H.2.2.1.2.2.1]
  repeat' split
  all_goals rfl
theorem d_count (H : pz_M h A) (y : Int32) : ∃ o, f_X6_count h 104 y = some o ∧ pz_om cdB h A (R_count A y) o := by
  unfold f_X6_count R_count
  rw [show (9 : Int32) = nI 10 - 1 by decide, pz_inbw 10 (by omega) (by omega), Option.bind_some]
  cases h2 : pz_inb 10 y with
  | false =>
    rw [if_pos (show false = false from rfl), if_neg (show ¬ (false = true) by simp), mq_p H.1, Option.bind_some]
    exact ⟨_, rfl, pz_om.t H rfl⟩
  | true =>
    obtain ⟨a, ha, rfl⟩ := pz_inb_of (by omega) h2
    rw [if_neg (show ¬ (true = false) by simp), if_pos (show true = true from rfl), nI_clamp (by omega), mq_p H.1, Option.bind_some, mq_ck H.z0.1, m_counted H.z0 (by omega), Option.bind_some]
    exact ⟨_, rfl, pz_om.v pz_i70 H.z0 pz_km0⟩
theorem m_distanceNow (H : pz_M h A) {y : Nat} (hy : y < 1000) : ∃ h', f_X6_distanceNow h 104 (nI y) = some (pz_dn A.1 y, h') ∧ pz_mg h h' := by
  have hg := H.V.T.1
  have hP := H.V.T.2.1
  have hG := H.V.T.2.2.1
  have hKK := H.V.T.2.2.2
  have hP27 := pz_T_27 hg hP
  have hG27 := pz_T_27 hg hG
  have hcn := pz_cn_le hg
  have Hm := H.2.1.2.2.2.2.2.1
  have Hl := H.2.1.2.2.2.2.2.2.1
  obtain ⟨i1, i2⟩ := pz_T_ix hg hG
  have e0 : (nI y = 0) = (y = 0) := pz_case y 0 hy (by omega)
  have e1 : (nI y = 1) = (y = 1) := pz_case y 1 hy (by omega)
  have e2 : (nI y = 2) = (y = 2) := pz_case y 2 hy (by omega)
  have e3 : (nI y = 3) = (y = 3) := pz_case y 3 hy (by omega)
  have e4 : (nI y = 4) = (y = 4) := pz_case y 4 hy (by omega)
  unfold f_X6_distanceNow pz_dn
  simp only [mq_0 H.1, Option.bind_some, mz_a2 H, mq_ck H.1, m_indexOf H.1 hg Hm hG27, e0, e1, e2, e3, e4, mz_a1 H, mz_a3 H]
  by_cases q0 : y = 0
  · obtain ⟨h', f1, f2⟩ := m_lockedFrom H.1 H.d Hm Hl hP hKK hG H.z2 H.z3
    rw [if_pos q0, if_pos q0, f1]; exact ⟨h', rfl, f2⟩
  rw [if_neg q0, if_neg q0]
  by_cases q1 : y = 1
  · obtain ⟨h', f1, f2⟩ := m_freeFrom H.1 H.d Hm Hl hP hG H.z2
    rw [if_pos q1, if_pos q1, f1]; exact ⟨h', rfl, f2⟩
  rw [if_neg q1, if_neg q1]
  by_cases q2 : y = 2
  · have hsub : (A.1.2.1 &&& A.1.2.2.1) &&& A.1.2.1 = A.1.2.1 &&& A.1.2.2.1 := pz_bit_sub (fun i hi => by rw [Nat.testBit_and, Bool.and_eq_true] at hi; exact hi.1)
    obtain ⟨h', f1, f2, f3⟩ := m_goFrom H.1 H.d Hm Hl hP hsub
    have R' := H.1.ag f2.ag (by omega)
    rw [if_pos q2, if_pos q2, pz_and (by omega) (by omega), f1, Option.bind_some, mq_18 R', Option.bind_some, mq_115 R' (by omega), (f3 _ i1).1, i2]
    exact ⟨h', rfl, f2⟩
  rw [if_neg q2, if_neg q2]
  by_cases q3 : y = 3
  · obtain ⟨h', f1, f2, f3⟩ := m_goFrom H.1 H.d Hm Hl hP hKK
    have R' := H.1.ag f2.ag (by omega)
    rw [if_pos q3, if_pos q3, f1, Option.bind_some, mq_19 R', Option.bind_some, mq_116 R' (by omega), (f3 _ i1).2, i2]
    exact ⟨h', rfl, f2⟩
  rw [if_neg q3, if_neg q3]
  by_cases q4 : y = 4
  · obtain ⟨h', f1, f2⟩ := m_nextFlip H.1 H.d Hm Hl hP hKK hG H.z1 H.z2 H.z3
    rw [if_pos q4, if_pos q4, f1]; exact ⟨h', rfl, f2⟩
  rw [if_neg q4, if_neg q4, pz_and (by omega) (by omega), s_ones (Nat.lt_of_le_of_lt Nat.and_le_left (by omega))]
  exact ⟨h, rfl, pz_mg.rf⟩
theorem d_distance (H : pz_M h A) (y : Int32) : ∃ o, f_X6_distance h 104 y = some o ∧ pz_om cdB h A (R_distance A y) o := by
  unfold f_X6_distance R_distance
  rw [show (5 : Int32) = nI 6 - 1 by decide, pz_inbw 6 (by omega) (by omega), Option.bind_some]
  cases h2 : pz_inb 6 y with
  | false =>
    rw [if_pos (show false = false from rfl), if_neg (show ¬ (false = true) by simp), mq_p H.1, Option.bind_some]
    exact ⟨_, rfl, pz_om.t H rfl⟩
  | true =>
    obtain ⟨a, ha, rfl⟩ := pz_inb_of (by omega) h2
    obtain ⟨h', e1, e2⟩ := m_distanceNow H.z0 (y := a) (by omega)
    rw [if_neg (show ¬ (true = false) by simp), if_pos (show true = true from rfl), nI_clamp (by omega), mq_p H.1, Option.bind_some, mq_ck H.z0.1, e1, Option.bind_some]
    exact ⟨_, rfl, pz_om.v (by rw [e2.th]; exact pz_i70) (e2.M H.z0) (pz_km0.tr e2.mt.km)⟩
end PZMO
