/-! the share of the way, and its bits -/
def pz_sh (g v : Nat) : UInt64 := FP.ddiv (FP.i2d (nI v)) (FP.i2d (nI (pz_di g)))
def pz_h00 : zq_H := (0, fun _ _ => 0, fun _ _ => 0, fun _ _ => none)
theorem pz_K25a : ∀ g, g < 6 → ∀ v, v < pz_di g + 1 → pz_sh g v &&& 0x7fffffffffffffff ≤ 0x7ff0000000000000 := by decide +kernel
theorem pz_K25b : ∀ g, g < 6 → ∀ v, v < pz_di g + 1 → f_Jxe99ae_doubleToLongBits_ccdee pz_h00 (pz_sh g v) = some (pz_sh g v).toInt64 := by decide +kernel
theorem pz_K25c : ∀ g, g < 6 → ∀ v, v < pz_di g + 1 → f_X5_bitsOf pz_h00 (pz_sh g v) = some (pz_sh g v).toInt64 := by decide +kernel
theorem s_bitsOf {h : zq_H} {g v : Nat} (hg : g < 6) (hv : v ≤ pz_di g) : f_X5_bitsOf h (pz_sh g v) = some (pz_sh g v).toInt64 := pz_K25c g hg v (by omega)
theorem s_longBits {h : zq_H} {g v : Nat} (hg : g < 6) (hv : v ≤ pz_di g) : f_Jxe99ae_doubleToLongBits_ccdee h (pz_sh g v) = some (pz_sh g v).toInt64 := pz_K25b g hg v (by omega)
theorem pz_di_pos : ∀ g, g < 6 → 0 < pz_di g ∧ pz_di g < 100 := by decide +kernel
theorem pz_dv_di {g s t : Nat} (hg : g < 6) (hs : pz_T g s) (ht : pz_T g t) : pz_dv g s t ≤ pz_di g := by
  obtain ⟨i, hi, rfl⟩ := hs
  obtain ⟨j, hj, rfl⟩ := ht
  exact (pz_diam hg).1 i j hi hj
theorem pz_nn {α : Type} {g v : Nat} {f : Unit → Option α} (hg : g < 6) (hv : v ≤ pz_di g) : zq_nn (pz_sh g v) f = f () := if_pos (pz_K25a g hg v (by omega))
/-- the digest -/
def pz_fd (f : Nat → Int32) : Nat → Int64 → Int64
  | 0, x => x
  | n + 1, x => 31 * pz_fd f n x + (f n).toInt64
noncomputable def pz_mxt (n : pz_5) (w : Nat) (x : Int64) : Int64 := pz_fd (fun c => nI (pz_de n.1 (pz_w n w) c)) (n.1 + 4) (pz_fd (fun y => pz_tn n w y) 7 x)
noncomputable def pz_mxd (n : pz_5) : Nat → Int64 → Int64
  | 0, x => x
  | d + 1, x => 31 * (31 * (31 * (31 * pz_mxd n d x + (nI (pz_ot n.1 n.2.1 d)).toInt64) + (nI (pz_ot n.1 n.2.2.1 d)).toInt64) + (pz_hi n d).toInt64) + (pz_fb n d).toInt64
noncomputable def pz_dg2 (A : pz_A) : Int64 := pz_fd (fun j => nI (A.2.2.2.2.2 j)) A.2.2.2.2.1 (31 * (31 * pz_mxd A.1 (pz_nd A.1.1) (pz_fd (fun y => pz_dn A.1 y) 6 (pz_mxt A.1 1 (pz_mxt A.1 0 (pz_fd (fun y => pz_cnn A y) 10 2477)))) + (pz_sh A.1.1 (pz_dv A.1.1 A.1.2.1 A.1.2.2.1)).toInt64) + (nI A.2.2.2.2.1).toInt64)
section PZDG
variable {h : zq_H} {A : pz_A} {b : Nat}
theorem s_shareOfWay (B : pz_CB h b A.2.2.2.2.1 A.2.2.2.2.2) (S : pz_CS h b A.1 A.2.1 A.2.2.1 A.2.2.2.1) : ∃ h', f_X5_shareOfWay h 0 = some (pz_sh A.1.1 (pz_dv A.1.1 A.1.2.1 A.1.2.2.1), h') ∧ pz_la h h' ∧ pz_CB h' b A.2.2.2.2.1 A.2.2.2.2.2 := by
  obtain ⟨h', e1, e2, e3⟩ := s_freeDistance B S
  have S' := pz_la.S e2 S
  have G := (e3.g S.2.1).1
  have hd := pz_dv_di S.2.1.T.1 S.2.1.T.2.1 S.2.1.T.2.2.1
  have hp := pz_di_pos A.1.1 S.2.1.T.1
  have G0 := (B.g S.2.1).1
  unfold f_X5_shareOfWay
  rw [cq_1 B.1, Option.bind_some, aq_0 B.1 S.1, Option.bind_some, gq_3 G0, Option.bind_some, if_neg (show ¬ nI (pz_di A.1.1) ≤ 0 from nI_ge hp.1 (by omega)), cq_ck B.1, e1, Option.bind_some]
  exact ⟨h', pz_nn S.2.1.T.1 hd, e2, e3⟩
theorem c_farShare (C : pz_C h A) : ∃ h', f_X5_farShare h 0 = some (pz_sh A.1.1 (pz_dv A.1.1 A.1.2.1 A.1.2.2.1), h') ∧ pz_C h' A ∧ pz_kc h h' := by
  obtain ⟨b, B, S⟩ := C
  obtain ⟨h', e1, e2, e3⟩ := s_shareOfWay B S
  refine ⟨h', ?_, pz_C.la S e2 e3, e2.kc⟩
  unfold f_X5_farShare
  rw [cq_ck B.1, e1]
  rfl
theorem s_mixTriangulation (B : pz_CB h b A.2.2.2.2.1 A.2.2.2.2.2) (S : pz_CS h b A.1 A.2.1 A.2.2.1 A.2.2.2.1) {w : Nat} (hw : w < 2) (x : Int64) : ∃ h', f_X5_mixTriangulation h 0 x (nI w) = some (pz_mxt A.1 w x, h') ∧ pz_la h h' ∧ pz_CB h' b A.2.2.2.2.1 A.2.2.2.2.2 := by
  have hg := S.2.1.T.1
  unfold f_X5_mixTriangulation
  refine pz_pair (pz_lpIB (fun i s => s.1 = pz_fd (fun y => pz_tn A.1 w y) i x ∧ s.2.1 = nI i ∧ pz_la h s.2.2 ∧ pz_CB s.2.2 b A.2.2.2.2.1 A.2.2.2.2.2) 7 (fun r => r.1 = pz_fd (fun y => pz_tn A.1 w y) 7 x ∧ pz_la h r.2 ∧ pz_CB r.2 b A.2.2.2.2.1 A.2.2.2.2.2) ?_ ⟨rfl, rfl, (by exact pz_ag.rf), B⟩ ?_ ?_ (by omega))
  · rintro ⟨r1, k⟩ ⟨q1, q2, q3⟩
    simp only at q1 q2 q3
    subst q1
    have Sk := pz_la.S q2 S
    obtain ⟨P, p0⟩ := q3.p S.2.1
    simp only [cq_1 q3.1, Option.bind_some, aq_0 q3.1 Sk.1, p0]
    refine ⟨(pz_mxt A.1 w x, k), ?_, k, rfl, q2, q3⟩
    refine pz_lpB (fun i => (pz_fd (fun c => nI (pz_de A.1.1 (pz_w A.1 w) c)) i (pz_fd (fun y => pz_tn A.1 w y) 7 x), nI i)) (A.1.1 + 4) (r := pz_mxt A.1 w x) rfl rfl ?_ ?_ (by omega)
    · intro i hi
      simp only
      rw [pq_0 P, Option.bind_some, if_neg (nI_ge hi (by omega)), aq_ck q3.1, s_mask q3.1 Sk.1 hw, Option.bind_some, pq_ck P, s_degreeIn P (pz_T_nc hg (pz_w_T S.2.1 w)) hi, Option.bind_some]
      simp only [zq_let, nI_1]
      rfl
    · simp only
      rw [pq_0 P, Option.bind_some, if_pos (nI_le (Nat.le_refl _) (by omega))]
      rfl
  · rintro i ⟨s1, s2, k⟩ hi ⟨e1, e2, e3, e4⟩
    simp only at e1 e2 e3 e4
    subst e1; subst e2
    have Sk := pz_la.S e3 S
    obtain ⟨k2, f1, f2, f3⟩ := s_numberOfTriangulation e4 Sk hw (y := i) (by omega)
    simp only
    rw [if_neg (show ¬ (7 : Int32) ≤ nI i from nI_ge (a := i) (b := 7) hi (by omega)), cq_ck e4.1, f1, Option.bind_some]
    simp only [zq_let, nI_1]
    exact ⟨_, rfl, rfl, rfl, e3.tr f2, f3⟩
  · rintro ⟨s1, s2, k⟩ ⟨e1, e2, e3, e4⟩
    simp only at e1 e2 e3 e4
    subst e1; subst e2
    exact ⟨_, if_pos (show (7 : Int32) ≤ nI 7 from nI_le (Nat.le_refl _) (by omega)), rfl, e3, e4⟩
theorem s_mixDiagonals (B : pz_CB h b A.2.2.2.2.1 A.2.2.2.2.2) (S : pz_CS h b A.1 A.2.1 A.2.2.1 A.2.2.2.1) (x : Int64) : ∃ h', f_X5_mixDiagonals h 0 x = some (pz_mxd A.1 (pz_nd A.1.1) x, h') ∧ pz_la h h' ∧ pz_CB h' b A.2.2.2.2.1 A.2.2.2.2.2 := by
  have hg := S.2.1.T.1
  have hnd := pz_nd_le hg
  obtain ⟨P, p0⟩ := B.p S.2.1
  unfold f_X5_mixDiagonals
  simp only [cq_1 B.1, Option.bind_some, aq_0 B.1 S.1, p0]
  refine pz_pair (pz_lpIB (fun i s => s.1 = pz_mxd A.1 i x ∧ s.2.1 = nI i ∧ pz_la h s.2.2 ∧ pz_CB s.2.2 b A.2.2.2.2.1 A.2.2.2.2.2) (pz_nd A.1.1) (fun r => r.1 = pz_mxd A.1 (pz_nd A.1.1) x ∧ pz_la h r.2 ∧ pz_CB r.2 b A.2.2.2.2.1 A.2.2.2.2.2) ?_ ⟨rfl, rfl, (by exact pz_ag.rf), B⟩ ?_ ?_ (by omega))
  · rintro ⟨r1, k⟩ ⟨q1, q2, q3⟩
    simp only at q1 q2 q3
    subst q1
    exact ⟨_, rfl, k, rfl, q2, q3⟩
  · rintro i ⟨s1, s2, k⟩ hi ⟨e1, e2, e3, e4⟩
    simp only at e1 e2 e3 e4
    subst e1; subst e2
    have Sk := pz_la.S e3 S
    obtain ⟨Pk, -⟩ := e4.p S.2.1
    obtain ⟨k2, f1, f2, f3⟩ := s_freeDistanceBehind e4 Sk (d := i) (by omega)
    have f1 : f_X5_freeDistanceBehind k 0 (nI i) = some (pz_fb A.1 i, k2) := f1
    have hh : f_X5_hindrance k 0 (nI i) = some (pz_hi A.1 i) := s_hindrance e4.1 Sk.1 S.2.1 (by omega)
    simp only
    rw [pq_1 Pk, Option.bind_some, if_neg (nI_ge hi (by omega)), cq_1 e4.1, Option.bind_some, aq_1 e4.1 Sk.1, Option.bind_some, pq_ck Pk, s_otherOf Pk (pz_T_27 hg S.2.1.T.2.1) (by omega), Option.bind_some]
    simp only [zq_let, Option.bind_some, aq_2 e4.1 Sk.1, pq_ck Pk, cq_ck e4.1]
    rw [s_otherOf Pk (pz_T_27 hg S.2.1.T.2.2.1) (by omega), Option.bind_some, hh, Option.bind_some, f1, Option.bind_some]
    simp only [nI_1]
    exact ⟨_, rfl, rfl, rfl, e3.tr f2, f3⟩
  · rintro ⟨s1, s2, k⟩ ⟨e1, e2, e3, e4⟩
    simp only at e1 e2 e3 e4
    subst e1; subst e2
    obtain ⟨Pk, -⟩ := e4.p S.2.1
    simp only
    rw [pq_1 Pk, Option.bind_some, if_pos (nI_le (Nat.le_refl _) (by omega))]
    exact ⟨_, rfl, rfl, e3, e4⟩
theorem s_mixInto {tl : Nat} {tx : Nat → Nat} (C : pz_Ca h) (T : pz_Ct h tl tx) (x : Int64) : f_X4_mixInto h 85 x = some (pz_fd (fun j => nI (tx j)) tl (31 * x + (nI tl).toInt64)) := by
  have hl := T.1
  unfold f_X4_mixInto
  rw [tq_1 C T, Option.bind_some]
  simp only [zq_let]
  refine pz_lpB (fun i => (pz_fd (fun j => nI (tx j)) i (31 * x + (nI tl).toInt64), nI i)) tl (r := pz_fd (fun j => nI (tx j)) tl (31 * x + (nI tl).toInt64)) rfl rfl ?_ ?_ (by omega)
  · intro i hi
    simp only
    rw [Option.bind_some, if_neg (nI_ge hi (by omega)), tq_0 C, Option.bind_some, tq_a C T hi, Option.bind_some, nI_1]
    rfl
  · simp only
    rw [Option.bind_some, if_pos (nI_le (Nat.le_refl _) (by omega))]
theorem s_dist6 (B : pz_CB h b A.2.2.2.2.1 A.2.2.2.2.2) (S : pz_CS h b A.1 A.2.1 A.2.2.1 A.2.2.2.1) (x : Int64) {α : Type} {k : Int64 × zq_H → Option α} {P : α → Prop} (hk : ∀ h', pz_la h h' → pz_CB h' b A.2.2.2.2.1 A.2.2.2.2.2 → ∃ y, k (pz_fd (fun y => pz_dn A.1 y) 6 x, h') = some y ∧ P y) :
    ∃ y, (zq_lp (σ := Int64 × Int32 × zq_H) (ρ := Int64 × zq_H) (fun s_23 => (if 6 ≤ s_23.2.1 then some (.inr (s_23.1, s_23.2.2)) else (zq_ck s_23.2.2 0 5 fun _ => (Option.bind (f_X5_distanceNumber s_23.2.2 0 s_23.2.1) fun v_32 => (zq_let ((31 * s_23.1) + (v_32.1 : Int32).toInt64) fun v_35 => (zq_let (s_23.2.1 + 1) fun v_37 => some (.inl (v_35, v_37, v_32.2)))))))) zq_N (x, 0, h)).bind k = some y ∧ P y := by
  refine pz_lpIB (fun i s => s.1 = pz_fd (fun y => pz_dn A.1 y) i x ∧ s.2.1 = nI i ∧ pz_la h s.2.2 ∧ pz_CB s.2.2 b A.2.2.2.2.1 A.2.2.2.2.2) 6 (fun r => r.1 = pz_fd (fun y => pz_dn A.1 y) 6 x ∧ pz_la h r.2 ∧ pz_CB r.2 b A.2.2.2.2.1 A.2.2.2.2.2) ?_ ⟨rfl, rfl, (by exact pz_ag.rf), B⟩ ?_ ?_ (by omega)
  · rintro ⟨r1, k3⟩ ⟨q1, q2, q3⟩
    simp only at q1 q2 q3
    subst q1
    exact hk k3 q2 q3
  · rintro i ⟨s1, s2, k3⟩ hi ⟨q1, q2, q3, q4⟩
    simp only at q1 q2 q3 q4
    subst q1; subst q2
    have S3 := pz_la.S q3 S
    obtain ⟨k4, g1, g2, g3⟩ := s_distanceNumber q4 S3 (y := i) (by omega)
    simp only
    rw [if_neg (show ¬ (6 : Int32) ≤ nI i from nI_ge (a := i) (b := 6) hi (by omega)), cq_ck q4.1, g1, Option.bind_some]
    simp only [zq_let, nI_1]
    exact ⟨_, rfl, rfl, rfl, q3.tr g2, g3⟩
  · rintro ⟨s1, s2, k3⟩ ⟨q1, q2, q3, q4⟩
    simp only at q1 q2 q3 q4
    subst q1; subst q2
    exact ⟨_, if_pos (show (6 : Int32) ≤ nI 6 from nI_le (Nat.le_refl _) (by omega)), rfl, q3, q4⟩
theorem s_cnt10 (B : pz_CB h b A.2.2.2.2.1 A.2.2.2.2.2) (S : pz_CS h b A.1 A.2.1 A.2.2.1 A.2.2.2.1) (x : Int64) {α : Type} {k : Int64 → Option α} {y : Option α} (hk : k (pz_fd (fun y => pz_cnn A y) 10 x) = y) :
    (zq_lp (σ := Int64 × Int32) (ρ := Int64) (fun s_1 => (if 10 ≤ s_1.2 then some (.inr s_1.1) else (zq_ck h 0 5 fun _ => (Option.bind (f_X5_countNumber h 0 s_1.2) fun v_10 => (zq_let ((31 * s_1.1) + (v_10 : Int32).toInt64) fun v_13 => (zq_let (s_1.2 + 1) fun v_15 => some (.inl (v_13, v_15)))))))) zq_N (x, 0)).bind k = y := by
  refine pz_lpB (fun i => (pz_fd (fun y => pz_cnn A y) i x, nI i)) 10 (r := pz_fd (fun y => pz_cnn A y) 10 x) hk rfl ?_ ?_ (by omega)
  · intro i hi
    simp only
    rw [if_neg (show ¬ (10 : Int32) ≤ nI i from nI_ge (a := i) (b := 10) hi (by omega)), cq_ck B.1, s_countNumber B S (y := i) (by omega), Option.bind_some]
    simp only [zq_let, nI_1]
    rfl
  · exact if_pos (show (10 : Int32) ≤ nI 10 from nI_le (Nat.le_refl _) (by omega))
theorem c_digest (C : pz_C h A) : ∃ h', f_X5_digest h 0 = some (pz_dg2 A, h') ∧ pz_C h' A ∧ pz_kc h h' := by
  obtain ⟨b, B, S⟩ := C
  have hd := pz_dv_di S.2.1.T.1 S.2.1.T.2.1 S.2.1.T.2.2.1
  unfold f_X5_digest pz_dg2
  generalize (2477 : Int64) = x0
  rw [s_cnt10 B S x0 rfl]
  generalize pz_fd (fun y => pz_cnn A y) 10 x0 = x1
  obtain ⟨k1, e1, e2, e3⟩ := s_mixTriangulation B S (w := 0) (by omega) x1
  have S1 := pz_la.S e2 S
  have e1 : f_X5_mixTriangulation h 0 x1 0 = some (_, k1) := e1
  rw [cq_ck B.1, e1, Option.bind_some]
  generalize pz_mxt A.1 0 x1 = x2
  obtain ⟨k2, f1, f2, f3⟩ := s_mixTriangulation e3 S1 (w := 1) (by omega) x2
  have S2 := pz_la.S f2 S1
  have f1 : f_X5_mixTriangulation k1 0 x2 1 = some (_, k2) := f1
  rw [cq_ck e3.1, f1, Option.bind_some]
  generalize pz_mxt A.1 1 x2 = x3
  refine pz_pair (P := fun k => pz_C k A ∧ pz_kc h k) (s_dist6 f3 S2 x3 (fun k3 q2 q3 => ?_))
  have S3 := pz_la.S q2 S2
  generalize pz_fd (fun y => pz_dn A.1 y) 6 x3 = x4
  obtain ⟨k4, g1, g2, g3⟩ := s_mixDiagonals q3 S3 x4
  have S4 := pz_la.S g2 S3
  obtain ⟨k5, i1, i2, i3⟩ := s_shareOfWay g3 S4
  have S5 := pz_la.S i2 S4
  simp only
  rw [cq_ck q3.1, g1, Option.bind_some, cq_ck g3.1, i1, Option.bind_some, s_bitsOf S.2.1.T.1 hd, Option.bind_some]
  simp only [zq_let]
  rw [cq_5 i3.1, Option.bind_some, tq_ck i3.1, s_mixInto i3.1 i3.2.2.2, Option.bind_some]
  exact ⟨_, rfl, k5, rfl, ⟨b, i3, S5⟩, ((((e2.tr f2).tr q2).tr g2).tr i2).kc⟩
end PZDG
