/-! the class' calls: looks -/
section PZCO
variable {h : zq_H} {A : pz_A}
/-- a look's end -/
theorem pz_C.la {h' : zq_H} {b : Nat} (S : pz_CS h b A.1 A.2.1 A.2.2.1 A.2.2.2.1) (l : pz_la h h') (B : pz_CB h' b A.2.2.2.2.1 A.2.2.2.2.2) : pz_C h' A := ⟨b, B, pz_la.S l S⟩
theorem pz_C.st {b : Nat} (B : pz_CB h b A.2.2.2.2.1 A.2.2.2.2.2) (S : pz_CS h b A.1 A.2.1 A.2.2.1 A.2.2.2.1) : pz_C h A := ⟨b, B, S⟩
theorem pz_oc.v {v : Int32} {h' : zq_H} {A' : pz_A} {o : (Int32 × zq_H) ⊕ (Nat × zq_H)} (ho : o = .inl (v, h')) (C : pz_C h' A') (k : pz_kc h h') : pz_oc h A (.inl (v, A')) o := ⟨h', ho, C, k⟩
theorem pz_oc.x {k : Nat} {h' : zq_H} {o : (Int32 × zq_H) ⊕ (Nat × zq_H)} (ho : o = .inr (k, h')) (C : pz_C h' A) (kc : pz_kc h h') : pz_oc h A (.inr k) o := ⟨h', ho, C, kc⟩
theorem c_number (C : pz_C h A) (x y : Int32) : ∃ o, f_X5_number h 0 x y = some o ∧ pz_oc h A (R_number A x y) o := by
  obtain ⟨b, B, S⟩ := id C
  obtain ⟨P, p0⟩ := B.p S.2.1
  unfold f_X5_number R_number
  simp only [cq_1 B.1, Option.bind_some, aq_0 B.1 S.1, p0]
  rw [pq_ck P, s_numberOf P, Option.bind_some]
  simp only [pz_no_m1]
  by_cases q : pz_no A.1.1 x y = pz_X
  · rw [if_pos q, if_pos q]
    exact ⟨_, rfl, pz_oc.x rfl C pz_ag.rf⟩
  · rw [if_neg q, if_neg q]
    exact ⟨_, rfl, pz_oc.v rfl C pz_ag.rf⟩
theorem c_whyNot (C : pz_C h A) (x y : Int32) : ∃ o, f_X5_whyNot h 0 x y = some o ∧ pz_oc h A (R_whyNot A x y) o := by
  obtain ⟨b, B, S⟩ := id C
  obtain ⟨P, p0⟩ := B.p S.2.1
  have hnd := pz_nd_le S.2.1.T.1
  unfold f_X5_whyNot R_whyNot
  simp only [cq_1 B.1, Option.bind_some, aq_0 B.1 S.1, p0]
  rw [pq_ck P, s_numberOf P, Option.bind_some]
  simp only [pz_no_m1]
  by_cases q : pz_no A.1.1 x y = pz_X
  · rw [if_pos q, if_pos q]
    exact ⟨_, rfl, pz_oc.x rfl C pz_ag.rf⟩
  · have := (pz_no_or S.2.1.T.1 x y).resolve_left q
    rw [if_neg q, if_neg q, cq_ck B.1, s_hindrance B.1 S.1 S.2.1 (by omega), Option.bind_some]
    exact ⟨_, rfl, pz_oc.v rfl C pz_ag.rf⟩
theorem c_ifFlipped (C : pz_C h A) (x y : Int32) : ∃ o, f_X5_ifFlipped h 0 x y = some o ∧ pz_oc h A (R_ifFlipped A x y) o := by
  obtain ⟨b, B, S⟩ := id C
  obtain ⟨P, p0⟩ := B.p S.2.1
  have hnd := pz_nd_le S.2.1.T.1
  unfold f_X5_ifFlipped R_ifFlipped
  simp only [cq_1 B.1, Option.bind_some, aq_0 B.1 S.1, p0]
  rw [pq_ck P, s_numberOf P, Option.bind_some]
  simp only [pz_no_m1]
  by_cases q : pz_no A.1.1 x y = pz_X
  · rw [if_pos q, if_pos q]
    exact ⟨_, rfl, pz_oc.x rfl C pz_ag.rf⟩
  · have := (pz_no_or S.2.1.T.1 x y).resolve_left q
    obtain ⟨h', e1, e2, e3⟩ := s_freeDistanceBehind B S (d := pz_no A.1.1 x y) (by omega)
    rw [if_neg q, if_neg q, cq_ck B.1, e1, Option.bind_some]
    exact ⟨_, rfl, pz_oc.v rfl (pz_C.la S e2 e3) e2.kc⟩
theorem c_degree (C : pz_C h A) (x c : Int32) : ∃ o, f_X5_degree h 0 x c = some o ∧ pz_oc h A (R_degree A x c) o := by
  obtain ⟨b, B, S⟩ := id C
  obtain ⟨P, p0⟩ := B.p S.2.1
  have hg := S.2.1.T.1
  unfold f_X5_degree R_degree
  rw [s_isWhich, Option.bind_some]
  cases h1 : pz_inb 2 x with
  | false =>
    rw [if_pos rfl, if_neg (by simp)]
    exact ⟨_, rfl, pz_oc.x rfl C pz_ag.rf⟩
  | true =>
    obtain ⟨w, hw, rfl⟩ := pz_inb_of (by omega) h1
    rw [if_neg (by simp)]
    simp only [cq_1 B.1, Option.bind_some, aq_0 B.1 S.1, p0]
    rw [pq_ck P, s_isCorner P, Option.bind_some]
    cases h2 : pz_inb (A.1.1 + 4) c with
    | false =>
      rw [if_pos rfl, if_neg (by simp)]
      exact ⟨_, rfl, pz_oc.x rfl C pz_ag.rf⟩
    | true =>
      obtain ⟨a, ha, rfl⟩ := pz_inb_of (by omega) h2
      rw [if_neg (by simp), aq_ck B.1, s_mask B.1 S.1 hw, Option.bind_some, pq_ck P, s_degreeIn P (pz_T_nc hg (pz_w_T S.2.1 w)) ha, Option.bind_some, if_pos ⟨trivial, rfl⟩, nI_clamp (by omega), nI_clamp (by omega)]
      exact ⟨_, rfl, pz_oc.v rfl C pz_ag.rf⟩
theorem c_other (C : pz_C h A) (x y z : Int32) : ∃ o, f_X5_other h 0 x y z = some o ∧ pz_oc h A (R_other A x y z) o := by
  obtain ⟨b, B, S⟩ := id C
  obtain ⟨P, p0⟩ := B.p S.2.1
  have hg := S.2.1.T.1
  have hnd := pz_nd_le hg
  unfold f_X5_other R_other
  simp only [cq_1 B.1, Option.bind_some, aq_0 B.1 S.1, p0]
  rw [pq_ck P, s_numberOf P, Option.bind_some, s_isWhich, Option.bind_some]
  simp only [pz_no_m1]
  cases h1 : pz_inb 2 x with
  | false =>
    rw [if_pos rfl, if_neg (by simp)]
    exact ⟨_, rfl, pz_oc.x rfl C pz_ag.rf⟩
  | true =>
    obtain ⟨w, hw, rfl⟩ := pz_inb_of (by omega) h1
    rw [if_neg (by simp)]
    by_cases q : pz_no A.1.1 y z = pz_X
    · rw [if_pos q, if_neg (fun r => r.2 q)]
      exact ⟨_, rfl, pz_oc.x rfl C pz_ag.rf⟩
    · have := (pz_no_or hg y z).resolve_left q
      rw [if_neg q, if_pos ⟨rfl, q⟩, aq_ck B.1, s_mask B.1 S.1 hw, Option.bind_some, pq_ck P, s_otherOf P (pz_T_27 hg (pz_w_T S.2.1 w)) (by omega), Option.bind_some, nI_clamp (by omega)]
      exact ⟨_, rfl, pz_oc.v rfl C pz_ag.rf⟩
theorem s_takenSnapshots {b : Nat} (B : pz_CB h b A.2.2.2.2.1 A.2.2.2.2.2) (S : pz_CS h b A.1 A.2.1 A.2.2.1 A.2.2.2.1) : f_X5_takenSnapshots h 0 = some (nI (pz_so (A.2.2.2.1 0) + pz_so (A.2.2.2.1 1))) := by
  have C := B.1
  have hq : ∀ s, s < 2 → zq_gq h (83 + s) 3 0 = some (pz_r h (83 + s) 0) := fun s hs => pz_gq (by have := C.1; omega) (pz_sh3 _ (by omega))
  have hs : ∀ s, s < 2 → (pz_r h (83 + s) 0 = none ∧ pz_so (A.2.2.2.1 s) = 0) ∨ (pz_r h (83 + s) 0 ≠ none ∧ pz_so (A.2.2.2.1 s) = 1) := by
    intro s hs
    rcases S.2.2.2.2.2 s hs with ⟨d1, d2⟩ | ⟨m, d1, d2, -⟩
    · exact Or.inl ⟨d2, by rw [d1]; rfl⟩
    · exact Or.inr ⟨by rw [d2.1]; simp, by rw [d1]; rfl⟩
  unfold f_X5_takenSnapshots
  refine pz_lpB (fun i => (nI (if i = 0 then 0 else if i = 1 then pz_so (A.2.2.2.1 0) else pz_so (A.2.2.2.1 0) + pz_so (A.2.2.2.1 1)), nI i)) 2 (r := nI (pz_so (A.2.2.2.1 0) + pz_so (A.2.2.2.1 1))) rfl rfl ?_ ?_ (by omega)
  · intro i hi
    simp only [cq_4 C, Option.bind_some, cq_n82 C]
    rw [if_neg (nI_ge hi (by omega)), cq_sp C hi, Option.bind_some, hq i hi, Option.bind_some]
    rcases hs i hi with ⟨q1, q2⟩ | ⟨q1, q2⟩
    · rw [if_pos q1]
      simp only [zq_let, nI_1]
      rcases (show i = 0 ∨ i = 1 by omega) with r | r
      · subst r; simp [q2]
      · subst r; simp [q2]
    · rw [if_neg q1]
      simp only [zq_let, nI_1]
      rcases (show i = 0 ∨ i = 1 by omega) with r | r
      · subst r; simp [q2]
      · subst r; simp [q2]
  · simp only [cq_4 C, Option.bind_some, cq_n82 C]
    rw [if_pos (by decide)]
    rfl
theorem pz_case (y k : Nat) (hy : y < 1000) (hk : k < 1000) : (nI y = nI k) = (y = k) := pz_eqI (by omega) (by omega)
theorem s_countNumber {b : Nat} (B : pz_CB h b A.2.2.2.2.1 A.2.2.2.2.2) (S : pz_CS h b A.1 A.2.1 A.2.2.1 A.2.2.2.1) {y : Nat} (hy : y < 1000) : f_X5_countNumber h 0 (nI y) = some (pz_cnn A y) := by
  have C := B.1
  obtain ⟨P, p0⟩ := B.p S.2.1
  have G := (B.g S.2.1).1
  unfold f_X5_countNumber pz_cnn
  rw [show (0 : Int32) = nI 0 from rfl, show (1 : Int32) = nI 1 from rfl, show (2 : Int32) = nI 2 from rfl, show (3 : Int32) = nI 3 from rfl, show (4 : Int32) = nI 4 from rfl, show (5 : Int32) = nI 5 from rfl, show (6 : Int32) = nI 6 from rfl, show (7 : Int32) = nI 7 from rfl, show (8 : Int32) = nI 8 from rfl]
  simp only [pz_case y _ hy (show 0 < 1000 by omega), pz_case y 1 hy (by omega), pz_case y 2 hy (by omega), pz_case y 3 hy (by omega), pz_case y 4 hy (by omega), pz_case y 5 hy (by omega), pz_case y 6 hy (by omega), pz_case y 7 hy (by omega), pz_case y 8 hy (by omega), cq_1 C, Option.bind_some, aq_0 C S.1, p0, pq_0 P, pq_1 P, gq_1 G, gq_2 G, gq_3 G, aq_4 C S.1, aq_3 C S.1, cq_ck C, s_takenSnapshots B S, cq_i C, S.2.2.2.1, s_bc (show A.1.2.2.2.1 < 4294967296 by have := S.2.1.K; omega), pz_bc_nc S.2.1.T.1 S.2.1.nc]
  repeat' split
  all_goals rfl
theorem c_count (C : pz_C h A) (y : Int32) : ∃ o, f_X5_count h 0 y = some o ∧ pz_oc h A (R_count A y) o := by
  obtain ⟨b, B, S⟩ := id C
  unfold f_X5_count R_count pz_inb
  by_cases h1 : y < 0
  · rw [if_pos h1, if_neg (by simp [h1])]
    exact ⟨_, rfl, pz_oc.x rfl C pz_ag.rf⟩
  · obtain ⟨a, ha, rfl⟩ := nI_of h1
    rw [if_neg h1]
    by_cases h2 : a < 10
    · rw [if_pos (show nI a < (10 : Int32) from nI_lt (b := 10) h2 (by omega)), cq_ck B.1, s_countNumber B S (by omega), Option.bind_some, if_pos (by rw [decide_eq_true_eq]; exact ⟨h1, nI_ge h2 (by omega)⟩), nI_clamp ha]
      exact ⟨_, rfl, pz_oc.v rfl C pz_ag.rf⟩
    · rw [if_neg (show ¬ nI a < (10 : Int32) from nI_nlt (b := 10) (by omega) ha), if_neg (by rw [decide_eq_true_eq]; exact fun q => q.2 (nI_le (by omega) ha))]
      exact ⟨_, rfl, pz_oc.x rfl C pz_ag.rf⟩
theorem s_numberOfTriangulation {b : Nat} (B : pz_CB h b A.2.2.2.2.1 A.2.2.2.2.2) (S : pz_CS h b A.1 A.2.1 A.2.2.1 A.2.2.2.1) {w y : Nat} (hw : w < 2) (hy : y < 1000) : ∃ h', f_X5_numberOfTriangulation h 0 (nI w) (nI y) = some (pz_tn A.1 w y, h') ∧ pz_la h h' ∧ pz_CB h' b A.2.2.2.2.1 A.2.2.2.2.2 := by
  have C := B.1
  obtain ⟨P, p0⟩ := B.p S.2.1
  have hg := S.2.1.T.1
  have hT := pz_w_T S.2.1 w
  have hlt := pz_T_lt hg hT
  have hnc := pz_T_nc hg hT
  unfold f_X5_numberOfTriangulation pz_tn
  rw [show (0 : Int32) = nI 0 from rfl, show (1 : Int32) = nI 1 from rfl, show (2 : Int32) = nI 2 from rfl, show (3 : Int32) = nI 3 from rfl, show (4 : Int32) = nI 4 from rfl, show (5 : Int32) = nI 5 from rfl]
  simp only [pz_case y _ hy (show 0 < 1000 by omega), pz_case y 1 hy (by omega), pz_case y 2 hy (by omega), pz_case y 3 hy (by omega), pz_case y 4 hy (by omega), pz_case y 5 hy (by omega), cq_1 C, Option.bind_some, aq_0 C S.1, p0, aq_ck C, s_mask C S.1 hw, pq_ck P, s_leastImage P hlt, s_symmetries P hlt, s_ears P hnc, s_greatestDegree P hnc, pz_li_co hg hlt, pz_sy_lk hg hlt, cq_ck C]
  by_cases q0 : y = 0
  · rw [if_pos q0, if_pos q0]; exact ⟨h, rfl, pz_ag.rf, B⟩
  rw [if_neg q0, if_neg q0]
  by_cases q1 : y = 1
  · rw [if_pos q1, if_pos q1]; exact ⟨h, rfl, pz_ag.rf, B⟩
  rw [if_neg q1, if_neg q1]
  by_cases q2 : y = 2
  · rw [if_pos q2, if_pos q2]; exact ⟨h, rfl, pz_ag.rf, B⟩
  rw [if_neg q2, if_neg q2]
  by_cases q3 : y = 3
  · rw [if_pos q3, if_pos q3]; exact ⟨h, rfl, pz_ag.rf, B⟩
  rw [if_neg q3, if_neg q3]
  by_cases q4 : y = 4
  · rw [if_pos q4, if_pos q4]; exact ⟨h, rfl, pz_ag.rf, B⟩
  rw [if_neg q4, if_neg q4]
  obtain ⟨h', e1, e2, e3, M, sl, e4, e5, e6, e7⟩ := s_reachFrom B S hw
  by_cases q5 : y = 5
  · rw [if_pos q5, if_pos q5, e1, Option.bind_some, rk_ck e3.1 (by omega), s_farthest e4 e5 e6 hT e7]
    exact ⟨h', rfl, e2, e3⟩
  · rw [if_neg q5, if_neg q5, e1, Option.bind_some, rk_ck e3.1 (by omega), s_leastFarthest e4 e5 e6 hT e7]
    exact ⟨h', rfl, e2, e3⟩
theorem c_triangulation (C : pz_C h A) (x y : Int32) : ∃ o, f_X5_triangulation h 0 x y = some o ∧ pz_oc h A (R_triangulation A x y) o := by
  obtain ⟨b, B, S⟩ := id C
  unfold f_X5_triangulation R_triangulation
  rw [s_isWhich, Option.bind_some]
  cases h0 : pz_inb 2 x with
  | false =>
    rw [if_pos rfl, if_neg (by simp)]
    exact ⟨_, rfl, pz_oc.x rfl C pz_ag.rf⟩
  | true =>
    obtain ⟨w, hw, rfl⟩ := pz_inb_of (by omega) h0
    rw [if_neg (by simp), if_pos rfl, nI_clamp (by omega)]
    unfold pz_inb
    by_cases h1 : y < 0
    · rw [if_pos h1, if_neg (by simp [h1])]
      exact ⟨_, rfl, pz_oc.x rfl C pz_ag.rf⟩
    · obtain ⟨a, ha, rfl⟩ := nI_of h1
      rw [if_neg h1]
      by_cases h2 : a < 7
      · obtain ⟨h', e1, e2, e3⟩ := s_numberOfTriangulation B S hw (y := a) (by omega)
        rw [if_pos (show nI a < (7 : Int32) from nI_lt (b := 7) h2 (by omega)), cq_ck B.1, e1, Option.bind_some, if_pos (by rw [decide_eq_true_eq]; exact ⟨h1, nI_ge h2 (by omega)⟩), nI_clamp ha]
        exact ⟨_, rfl, pz_oc.v rfl (pz_C.la S e2 e3) e2.kc⟩
      · rw [if_neg (show ¬ nI a < (7 : Int32) from nI_nlt (b := 7) (by omega) ha), if_neg (by rw [decide_eq_true_eq]; exact fun q => q.2 (nI_le (by omega) ha))]
        exact ⟨_, rfl, pz_oc.x rfl C pz_ag.rf⟩
end PZCO
