/-! the reference's share and digest -/
section PZMD
variable {h : zq_H} {A : pz_A}
theorem m_share (H : pz_M h A) : ∃ h', f_X6_share h 104 = some (pz_sh A.1.1 (pz_dv A.1.1 A.1.2.1 A.1.2.2.1), h') ∧ pz_mg h h' := by
  have Hm := H.2.1.2.2.2.2.2.1
  have Hl := H.2.1.2.2.2.2.2.2.1
  have V := H.V
  obtain ⟨h', e1, e2⟩ := m_freeFrom H.1 H.d Hm Hl V.T.2.1 V.T.2.2.1 H.z2
  have H' := e2.M H
  have hd := pz_dv_di V.T.1 V.T.2.1 V.T.2.2.1
  refine ⟨h', ?_, e2⟩
  unfold f_X6_share
  rw [mq_0 H.1, Option.bind_some, mz_a1 H, Option.bind_some, mq_ck H.1, e1, Option.bind_some, mq_i H'.1, H'.2.1.2.2.2.2.2.2.2.2, Option.bind_some]
  exact pz_nn V.T.1 hd
theorem d_farShare (H : pz_M h A) : ∃ k, f_X6_farShare h 104 = some (pz_sh A.1.1 (pz_dv A.1.1 A.1.2.1 A.1.2.2.1), k) ∧ pz_i k 104 7 = 0 ∧ pz_M k A ∧ pz_km h k := by
  obtain ⟨h', e1, e2⟩ := m_share H.z0
  refine ⟨h', ?_, by rw [e2.th]; exact pz_i70, e2.M H.z0, pz_km0.tr e2.mt.km⟩
  unfold f_X6_farShare
  rw [mq_p H.1, Option.bind_some, mq_ck H.z0.1, e1]
  rfl
/-- the reference while it mixes -/
def pz_Q (h : zq_H) (A : pz_A) (k : zq_H) (X : Int64) : Prop := pz_M k A ∧ pz_j k 104 21 = X ∧ pz_i k 104 7 = 0 ∧ pz_km h k
theorem pz_Q.mg {k k' : zq_H} {X : Int64} (q : pz_Q h A k X) (l : pz_mg k k') : pz_Q h A k' X :=
  ⟨l.M q.1, by unfold pz_j; rw [l.2.1]; exact q.2.1, by rw [l.th]; exact q.2.2.1, q.2.2.2.tr l.mt.km⟩
theorem pz_Q.mix {k : zq_H} {X : Int64} (q : pz_Q h A k X) (v : Int64) : ∃ k', f_X6_mix k 104 v = some k' ∧ pz_Q h A k' (31 * X + v) := by
  have l : pz_mt k (pz_L k 104 21 (31 * X + v)) := ⟨rfl, fun _ _ => rfl, fun _ _ _ _ _ _ => rfl, fun a j ha => by rw [pz_L_j, if_neg (fun r => ha r.1)]⟩
  refine ⟨pz_L k 104 21 (31 * X + v), ?_, l.M q.1, by rw [pz_L_j, if_pos ⟨rfl, rfl⟩], q.2.2.1, q.2.2.2.tr l.km⟩
  unfold f_X6_mix
  have R := q.1.1
  rw [pz_gl (t := 104) (c := 6) (by have := R.1; omega) rfl, Option.bind_some, q.2.1, pz_pl (t := 104) (c := 6) (by have := R.1; omega) rfl]
  rfl
theorem m_dg_cnt {k0 : zq_H} {X : Int64} (Q0 : pz_Q h A k0 X) {α : Type} {k : zq_H → Option α} {P : α → Prop} (hk : ∀ h', pz_Q h A h' (pz_fd (fun y => pz_cnn A y) 10 X) → ∃ y, k h' = some y ∧ P y) :
    ∃ y, (zq_lp (σ := Int32 × zq_H) (ρ := zq_H) (fun s_5 => (if 10 ≤ s_5.1 then some (.inr s_5.2) else (zq_ck s_5.2 104 6 fun _ => (Option.bind (f_X6_counted s_5.2 104 s_5.1) fun v_14 => (zq_ck s_5.2 104 6 fun _ => (Option.bind (f_X6_mix s_5.2 104 (v_14 : Int32).toInt64) fun v_17 => (zq_let (s_5.1 + 1) fun v_20 => some (.inl (v_20, v_17))))))))) zq_N (0, k0)).bind k = some y ∧ P y := by
  refine pz_lpIB (fun i s => s.1 = nI i ∧ pz_Q h A s.2 (pz_fd (fun y => pz_cnn A y) i X)) 10 (fun r => pz_Q h A r (pz_fd (fun y => pz_cnn A y) 10 X)) hk ⟨rfl, Q0⟩ ?_ ?_ (by omega)
  · rintro i ⟨s1, k1⟩ hi ⟨e1, e2⟩
    simp only at e1 e2
    subst e1
    obtain ⟨k2, f1, f2⟩ := e2.mix (pz_cnn A i).toInt64
    simp only
    rw [if_neg (show ¬ (10 : Int32) ≤ nI i from nI_ge (a := i) (b := 10) hi (by omega)), mq_ck e2.1.1, m_counted e2.1 (by omega), Option.bind_some, mq_ck e2.1.1, f1, Option.bind_some]
    simp only [zq_let, nI_1]
    exact ⟨_, rfl, rfl, f2⟩
  · rintro ⟨s1, k1⟩ ⟨e1, e2⟩
    simp only at e1 e2
    subst e1
    exact ⟨_, if_pos (show (10 : Int32) ≤ nI 10 from nI_le (Nat.le_refl _) (by omega)), e2⟩
theorem m_dg_tri {k0 : zq_H} {X : Int64} (Q0 : pz_Q h A k0 X) {w : Nat} (hw : w < 2) {α : Type} {k : zq_H → Option α} {P : α → Prop} (hk : ∀ h', pz_Q h A h' (pz_mxt A.1 w X) → ∃ y, k h' = some y ∧ P y) :
    ∃ y, (zq_lp (σ := Int32 × zq_H) (ρ := zq_H) (fun s_31 => (if 7 ≤ s_31.1 then some (.inr s_31.2) else (zq_ck s_31.2 104 6 fun _ => (Option.bind (f_X6_triangulationNow s_31.2 104 (nI w) s_31.1) fun v_40 => (zq_ck v_40.2 104 6 fun _ => (Option.bind (f_X6_mix v_40.2 104 (v_40.1 : Int32).toInt64) fun v_43 => (zq_let (s_31.1 + 1) fun v_46 => some (.inl (v_46, v_43))))))))) zq_N (0, k0)).bind (fun y_34 : zq_H => ((zq_lp (σ := Int32 × zq_H) (ρ := zq_H) (fun s_48 => (Option.bind (zq_gr s_48.2 104 6 0) fun v_56 => (Option.bind (zq_ai s_48.2 v_56 0) fun v_58 => (if v_58 ≤ s_48.1 then some (.inr s_48.2) else (Option.bind (zq_gr s_48.2 104 6 0) fun v_61 => (Option.bind (zq_ai s_48.2 v_61 (1 + nI w)) fun v_63 => (zq_ck s_48.2 104 6 fun _ => (Option.bind (f_X6_degreeOf s_48.2 104 v_63 s_48.1) fun v_65 => (zq_ck s_48.2 104 6 fun _ => (Option.bind (f_X6_mix s_48.2 104 (v_65 : Int32).toInt64) fun v_68 => (zq_let (s_48.1 + 1) fun v_71 => some (.inl (v_71, v_68))))))))))))) zq_N (0, y_34)).bind k)) = some y ∧ P y := by
  have V := Q0.1.V
  have hg := V.T.1
  refine pz_lpIB (fun i s => s.1 = nI i ∧ pz_Q h A s.2 (pz_fd (fun y => pz_tn A.1 w y) i X)) 7 (fun r => pz_Q h A r (pz_fd (fun y => pz_tn A.1 w y) 7 X)) (fun k1 Q1 => ?_) ⟨rfl, Q0⟩ ?_ ?_ (by omega)
  · refine pz_lpIB (fun i s => s.1 = nI i ∧ pz_Q h A s.2 (pz_fd (fun c => nI (pz_de A.1.1 (pz_w A.1 w) c)) i (pz_fd (fun y => pz_tn A.1 w y) 7 X))) (A.1.1 + 4) (fun r => pz_Q h A r (pz_mxt A.1 w X)) hk ⟨rfl, Q1⟩ ?_ ?_ (by omega)
    · rintro i ⟨s1, k2⟩ hi ⟨e1, e2⟩
      simp only at e1 e2
      subst e1
      obtain ⟨k3, f1, f2⟩ := e2.mix (nI (pz_de A.1.1 (pz_w A.1 w) i)).toInt64
      simp only
      rw [mq_0 e2.1.1, Option.bind_some, mz_a0 e2.1, Option.bind_some, if_neg (nI_ge hi (by omega)), Option.bind_some, mz_w e2.1 hw, Option.bind_some, mq_ck e2.1.1, m_degreeOf e2.1.1 e2.1.d (pz_T_27 hg (pz_w_T V w)) hi, Option.bind_some, mq_ck e2.1.1, f1, Option.bind_some]
      simp only [zq_let, nI_1]
      exact ⟨_, rfl, rfl, f2⟩
    · rintro ⟨s1, k2⟩ ⟨e1, e2⟩
      simp only at e1 e2
      subst e1
      simp only
      rw [mq_0 e2.1.1, Option.bind_some, mz_a0 e2.1, Option.bind_some, if_pos (nI_le (Nat.le_refl _) (by omega))]
      exact ⟨_, rfl, e2⟩
  · rintro i ⟨s1, k1⟩ hi ⟨e1, e2⟩
    simp only at e1 e2
    subst e1
    obtain ⟨k2, g1, g2⟩ := m_triangulationNow e2.1 hw (y := i) (by omega)
    have Q2 := e2.mg g2
    obtain ⟨k3, f1, f2⟩ := Q2.mix (pz_tn A.1 w i).toInt64
    simp only
    rw [if_neg (show ¬ (7 : Int32) ≤ nI i from nI_ge (a := i) (b := 7) hi (by omega)), mq_ck e2.1.1, g1, Option.bind_some, mq_ck Q2.1.1, f1, Option.bind_some]
    simp only [zq_let, nI_1]
    exact ⟨_, rfl, rfl, f2⟩
  · rintro ⟨s1, k1⟩ ⟨e1, e2⟩
    simp only at e1 e2
    subst e1
    exact ⟨_, if_pos (show (7 : Int32) ≤ nI 7 from nI_le (Nat.le_refl _) (by omega)), e2⟩
theorem m_dg_dist {k0 : zq_H} {X : Int64} (Q0 : pz_Q h A k0 X) {α : Type} {k : zq_H → Option α} {P : α → Prop} (hk : ∀ h', pz_Q h A h' (pz_fd (fun y => pz_dn A.1 y) 6 X) → ∃ y, k h' = some y ∧ P y) :
    ∃ y, (zq_lp (σ := Int32 × zq_H) (ρ := zq_H) (fun s_75 => (if 6 ≤ s_75.1 then some (.inr s_75.2) else (zq_ck s_75.2 104 6 fun _ => (Option.bind (f_X6_distanceNow s_75.2 104 s_75.1) fun v_84 => (zq_ck v_84.2 104 6 fun _ => (Option.bind (f_X6_mix v_84.2 104 (v_84.1 : Int32).toInt64) fun v_87 => (zq_let (s_75.1 + 1) fun v_90 => some (.inl (v_90, v_87))))))))) zq_N (0, k0)).bind k = some y ∧ P y := by
  refine pz_lpIB (fun i s => s.1 = nI i ∧ pz_Q h A s.2 (pz_fd (fun y => pz_dn A.1 y) i X)) 6 (fun r => pz_Q h A r (pz_fd (fun y => pz_dn A.1 y) 6 X)) hk ⟨rfl, Q0⟩ ?_ ?_ (by omega)
  · rintro i ⟨s1, k1⟩ hi ⟨e1, e2⟩
    simp only at e1 e2
    subst e1
    obtain ⟨k2, g1, g2⟩ := m_distanceNow e2.1 (y := i) (by omega)
    have Q2 := e2.mg g2
    obtain ⟨k3, f1, f2⟩ := Q2.mix (pz_dn A.1 i).toInt64
    simp only
    rw [if_neg (show ¬ (6 : Int32) ≤ nI i from nI_ge (a := i) (b := 6) hi (by omega)), mq_ck e2.1.1, g1, Option.bind_some, mq_ck Q2.1.1, f1, Option.bind_some]
    simp only [zq_let, nI_1]
    exact ⟨_, rfl, rfl, f2⟩
  · rintro ⟨s1, k1⟩ ⟨e1, e2⟩
    simp only at e1 e2
    subst e1
    exact ⟨_, if_pos (show (6 : Int32) ≤ nI 6 from nI_le (Nat.le_refl _) (by omega)), e2⟩
theorem m_dg_dia {k0 : zq_H} {X : Int64} (Q0 : pz_Q h A k0 X) {α : Type} {k : zq_H → Option α} {P : α → Prop} (hk : ∀ h', pz_Q h A h' (pz_mxd A.1 (pz_nd A.1.1) X) → ∃ y, k h' = some y ∧ P y) :
    ∃ y, (zq_lp (σ := Int32 × zq_H) (ρ := zq_H) (fun s_92 => (Option.bind (zq_gi s_92.2 104 6 9) fun v_100 => (if v_100 ≤ s_92.1 then some (.inr s_92.2) else (zq_ck s_92.2 104 6 fun _ => (Option.bind (f_X6_otherNow s_92.2 104 0 s_92.1) fun v_103 => (zq_ck s_92.2 104 6 fun _ => (Option.bind (f_X6_mix s_92.2 104 (v_103 : Int32).toInt64) fun v_106 => (zq_ck v_106 104 6 fun _ => (Option.bind (f_X6_otherNow v_106 104 1 s_92.1) fun v_109 => (zq_ck v_106 104 6 fun _ => (Option.bind (f_X6_mix v_106 104 (v_109 : Int32).toInt64) fun v_112 => (zq_ck v_112 104 6 fun _ => (Option.bind (f_X6_reason v_112 104 s_92.1) fun v_115 => (zq_ck v_112 104 6 fun _ => (Option.bind (f_X6_mix v_112 104 (v_115 : Int32).toInt64) fun v_118 => (zq_ck v_118 104 6 fun _ => (Option.bind (f_X6_flippedThen v_118 104 s_92.1) fun v_121 => (zq_ck v_121.2 104 6 fun _ => (Option.bind (f_X6_mix v_121.2 104 (v_121.1 : Int32).toInt64) fun v_124 => (zq_let (s_92.1 + 1) fun v_127 => some (.inl (v_127, v_124)))))))))))))))))))))) zq_N (0, k0)).bind k = some y ∧ P y := by
  have V := Q0.1.V
  have hnd := pz_nd_le V.T.1
  refine pz_lpIB (fun i s => s.1 = nI i ∧ pz_Q h A s.2 (pz_mxd A.1 i X)) (pz_nd A.1.1) (fun r => pz_Q h A r (pz_mxd A.1 (pz_nd A.1.1) X)) hk ⟨rfl, Q0⟩ ?_ ?_ (by omega)
  · rintro i ⟨s1, k1⟩ hi ⟨e1, e2⟩
    simp only at e1 e2
    subst e1
    obtain ⟨k2, f1, Q2⟩ := e2.mix (nI (pz_ot A.1.1 A.1.2.1 i)).toInt64
    obtain ⟨k3, f3, Q3⟩ := Q2.mix (nI (pz_ot A.1.1 A.1.2.2.1 i)).toInt64
    obtain ⟨k4, f4, Q4⟩ := Q3.mix (pz_hi A.1 i).toInt64
    obtain ⟨k5, g1, g2⟩ := m_flippedThen Q4.1 (d := i) (by omega)
    have Q5 := Q4.mg g2
    obtain ⟨k6, f6, Q6⟩ := Q5.mix (pz_fb A.1 i).toInt64
    have o0 : f_X6_otherNow k1 104 0 (nI i) = some (nI (pz_ot A.1.1 A.1.2.1 i)) := m_otherNow e2.1 (w := 0) (by omega) (by omega)
    have o1 : f_X6_otherNow k2 104 1 (nI i) = some (nI (pz_ot A.1.1 A.1.2.2.1 i)) := m_otherNow Q2.1 (w := 1) (by omega) (by omega)
    simp only
    rw [mq_i e2.1.1, e2.1.d.2.2.1, Option.bind_some, if_neg (nI_ge hi (by omega)), mq_ck e2.1.1, o0, Option.bind_some, mq_ck e2.1.1, f1, Option.bind_some, mq_ck Q2.1.1, o1, Option.bind_some, mq_ck Q2.1.1, f3, Option.bind_some, mq_ck Q3.1.1, m_reason Q3.1 (by omega), Option.bind_some, mq_ck Q3.1.1, f4, Option.bind_some, mq_ck Q4.1.1, g1, Option.bind_some, mq_ck Q5.1.1, f6, Option.bind_some]
    simp only [zq_let, nI_1]
    exact ⟨_, rfl, rfl, Q6⟩
  · rintro ⟨s1, k1⟩ ⟨e1, e2⟩
    simp only at e1 e2
    subst e1
    simp only
    rw [mq_i e2.1.1, e2.1.d.2.2.1, Option.bind_some, if_pos (nI_le (Nat.le_refl _) (by omega))]
    exact ⟨_, rfl, e2⟩
theorem m_dg_tx {k0 : zq_H} {X : Int64} (Q0 : pz_Q h A k0 X) {α : Type} {k : zq_H → Option α} {P : α → Prop} (hk : ∀ h', pz_Q h A h' (pz_fd (fun j => nI (A.2.2.2.2.2 j)) A.2.2.2.2.1 X) → ∃ y, k h' = some y ∧ P y) :
    ∃ y, (zq_lp (σ := Int32 × zq_H) (ρ := zq_H) (fun s_142 => (Option.bind (zq_gi s_142.2 104 6 5) fun v_150 => (if v_150 ≤ s_142.1 then some (.inr s_142.2) else (Option.bind (zq_gr s_142.2 104 6 6) fun v_153 => (Option.bind (zq_ai s_142.2 v_153 s_142.1) fun v_155 => (zq_ck s_142.2 104 6 fun _ => (Option.bind (f_X6_mix s_142.2 104 (v_155 : Int32).toInt64) fun v_157 => (zq_let (s_142.1 + 1) fun v_160 => some (.inl (v_160, v_157)))))))))) zq_N (0, k0)).bind k = some y ∧ P y := by
  have hl := Q0.1.2.2.2.1
  refine pz_lpIB (fun i s => s.1 = nI i ∧ pz_Q h A s.2 (pz_fd (fun j => nI (A.2.2.2.2.2 j)) i X)) A.2.2.2.2.1 (fun r => pz_Q h A r (pz_fd (fun j => nI (A.2.2.2.2.2 j)) A.2.2.2.2.1 X)) hk ⟨rfl, Q0⟩ ?_ ?_ (by omega)
  · rintro i ⟨s1, k1⟩ hi ⟨e1, e2⟩
    simp only at e1 e2
    subst e1
    obtain ⟨k2, f1, Q2⟩ := e2.mix (nI (A.2.2.2.2.2 i)).toInt64
    simp only
    rw [mq_i e2.1.1, e2.1.2.2.2.2.1, Option.bind_some, if_neg (nI_ge hi (by omega)), mq_6 e2.1.1, Option.bind_some, m_tx e2.1 hi, Option.bind_some, mq_ck e2.1.1, f1, Option.bind_some]
    simp only [zq_let, nI_1]
    exact ⟨_, rfl, rfl, Q2⟩
  · rintro ⟨s1, k1⟩ ⟨e1, e2⟩
    simp only at e1 e2
    subst e1
    simp only
    rw [mq_i e2.1.1, e2.1.2.2.2.2.1, Option.bind_some, if_pos (nI_le (Nat.le_refl _) (by omega))]
    exact ⟨_, rfl, e2⟩
theorem d_digest (H : pz_M h A) : ∃ k, f_X6_digest h 104 = some (pz_dg2 A, k) ∧ pz_i k 104 7 = 0 ∧ pz_M k A ∧ pz_km h k := by
  have H0 := H.z0
  have hd := pz_dv_di H.V.T.1 H.V.T.2.1 H.V.T.2.2.1
  unfold f_X6_digest pz_dg2
  generalize (2477 : Int64) = x0
  rw [mq_p H.1, Option.bind_some, pz_pl (t := 104) (c := 6) (by have := H0.1.1; omega) rfl, Option.bind_some]
  have l : pz_mt (pz_S h 104 7 0) (pz_L (pz_S h 104 7 0) 104 21 x0) := ⟨rfl, fun _ _ => rfl, fun _ _ _ _ _ _ => rfl, fun a j ha => by rw [pz_L_j, if_neg (fun r => ha r.1)]⟩
  have Q0 : pz_Q h A (pz_L (pz_S h 104 7 0) 104 21 x0) x0 := ⟨l.M H0, by rw [pz_L_j, if_pos ⟨rfl, rfl⟩], pz_i70 (h := h), pz_km0.tr l.km⟩
  refine pz_pair (P := fun k => pz_i k 104 7 = 0 ∧ pz_M k A ∧ pz_km h k) (m_dg_cnt Q0 (fun k1 Q1 => ?_))
  generalize pz_fd (fun y => pz_cnn A y) 10 x0 = x1 at Q1 ⊢
  refine pz_lpIB (fun i s => s.1 = nI i ∧ pz_Q h A s.2 (if i = 0 then x1 else if i = 1 then pz_mxt A.1 0 x1 else pz_mxt A.1 1 (pz_mxt A.1 0 x1))) 2 (fun r => pz_Q h A r (pz_mxt A.1 1 (pz_mxt A.1 0 x1))) (fun k2 Q2 => ?_) ⟨rfl, Q1⟩ ?_ ?_ (by omega)
  · generalize pz_mxt A.1 1 (pz_mxt A.1 0 x1) = x3 at Q2 ⊢
    refine m_dg_dist Q2 (fun k3 Q3 => ?_)
    generalize pz_fd (fun y => pz_dn A.1 y) 6 x3 = x4 at Q3 ⊢
    refine m_dg_dia Q3 (fun k4 Q4 => ?_)
    generalize pz_mxd A.1 (pz_nd A.1.1) x4 = x5 at Q4 ⊢
    obtain ⟨k5, e1, e2⟩ := m_share Q4.1
    have Q5 := Q4.mg e2
    obtain ⟨k6, f1, Q6⟩ := Q5.mix (pz_sh A.1.1 (pz_dv A.1.1 A.1.2.1 A.1.2.2.1)).toInt64
    obtain ⟨k7, g1, Q7⟩ := Q6.mix (nI A.2.2.2.2.1).toInt64
    rw [mq_ck Q4.1.1, e1, Option.bind_some, s_longBits H.V.T.1 hd, Option.bind_some, mq_ck Q5.1.1, f1, Option.bind_some, mq_i Q6.1.1, Q6.1.2.2.2.2.1, Option.bind_some, mq_ck Q6.1.1, g1, Option.bind_some]
    refine m_dg_tx Q7 (fun k8 Q8 => ?_)
    rw [pz_gl (t := 104) (c := 6) (by have := Q8.1.1.1; omega) rfl, Option.bind_some, Q8.2.1]
    exact ⟨_, rfl, k8, rfl, Q8.2.2.1, Q8.1, Q8.2.2.2⟩
  · rintro i ⟨s1, k2⟩ hi ⟨e1, e2⟩
    simp only at e1 e2
    subst e1
    rw [if_neg (show ¬ (2 : Int32) ≤ nI i from nI_ge (a := i) (b := 2) hi (by omega))]
    refine pz_inl (m_dg_tri e2 hi (fun k3 Q3 => ?_))
    simp only [zq_let, nI_1]
    refine ⟨_, rfl, _, rfl, rfl, ?_⟩
    match i, hi with
    | 0, _ => exact Q3
    | 1, _ => exact Q3
  · rintro ⟨s1, k2⟩ ⟨e1, e2⟩
    simp only at e1 e2
    subst e1
    exact ⟨_, if_pos (show (2 : Int32) ≤ nI 2 from nI_le (Nat.le_refl _) (by omega)), e2⟩
end PZMD
