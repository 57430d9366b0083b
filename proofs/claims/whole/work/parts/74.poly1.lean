/-! a polygon is made: diagonals, crossings, images -/
section PZP1
variable {h : zq_H} {t g : Nat}
theorem s_nameDiagonals (P : pz_P0 h t g) (hz : ∀ c, c < g + 4 → pz_i h (t + 4) c = 0) : ∃ h', f_X1_nameDiagonals h t = some h' ∧ pz_pg t h h' ∧ pz_Nd h' t g (g + 4) (g + 6) := by
  have hg := P.1.1
  have hnd := pz_nd_le hg
  obtain ⟨h1, h2, h3⟩ := pz_cb_e hg
  obtain ⟨k1, f1, f2, f3, f4, f5⟩ := s_fill (h := h) (r := t + 3) (L := (g + 4) * (g + 4)) (by have := P.2.1; omega) P.1.2.2.2.2.1 (by have := (pz_sq_lt hg (show 0 < g + 4 by omega) (show 0 < g + 4 by omega)).2; omega) (-1)
  have l1 : pz_pg t h k1 := ⟨⟨f4, f5, fun a j k => f3 a j (by omega)⟩, fun a j k l => f3 a j (by omega)⟩
  unfold f_X1_nameDiagonals
  rw [oq_4 P, Option.bind_some, f1, Option.bind_some]
  refine pz_lpIB (fun a s => s.1 = nI (pz_cb g a (a + 2)) ∧ s.2.1 = nI a ∧ pz_pg t h s.2.2 ∧ pz_Nd s.2.2 t g a (a + 2)) (g + 4) (fun h' => pz_pg t h h' ∧ pz_Nd h' t g (g + 4) (g + 6)) (fun h' q => ⟨h', rfl, q.1, q.2⟩) ⟨by rw [h1]; rfl, rfl, l1, fun d hd => by rw [h1] at hd; exact absurd hd (Nat.not_lt_zero _), fun x y hx hy => ?_, fun c hc => by rw [h1, f3 (t + 4) c (by omega), hz c hc]; rfl⟩ ?_ ?_ (by omega)
  · rw [f2 _ (pz_sq_lt hg hx hy).1]
    by_cases qc : x < 0 ∨ (x = 0 ∧ y < 0 + 2)
    · rw [if_pos qc]
      obtain ⟨-, c2, -⟩ := h3 x hx
      rw [c2 y (by omega) hy]
      rfl
    · rw [if_neg qc]; rfl
  · rintro a ⟨cn, x, k2⟩ ha ⟨e0, e1, e2, e3⟩
    simp only at e0 e1 e2 e3
    subst e1; subst e0
    have P' := P.pf e2.1
    have e22 : nI a + 2 = nI (a + 2) := by rw [show (2 : Int32) = nI 2 from rfl, nI_add]
    have row := s_nameRow P' ha e3 (k := fun y_21 : Int32 × zq_H => zq_let (nI a + 1) fun v_69 => some ((Sum.inl (y_21.1, v_69, y_21.2)) : (Int32 × Int32 × zq_H) ⊕ zq_H)) (Q := fun z => ∃ h', z = Sum.inl (nI (pz_cb g (a + 1) (a + 3)), nI (a + 1), h') ∧ pz_pg t k2 h' ∧ pz_Nd h' t g (a + 1) (a + 3)) (fun h' w1 w2 => ⟨_, rfl, h', by rw [nI_1], w1, w2⟩)
    obtain ⟨y, y1, h', rfl, y2, y3⟩ := row
    refine ⟨(nI (pz_cb g (a + 1) (a + 3)), nI (a + 1), h'), ?_, rfl, rfl, e2.tr y2, y3⟩
    simp only
    rw [oq_0 P', Option.bind_some, if_neg (nI_ge ha (by omega)), e22]
    exact y1
  · rintro ⟨cn, x, k2⟩ ⟨e0, e1, e2, e3⟩
    simp only at e0 e1 e2 e3
    subst e1; subst e0
    have P' := P.pf e2.1
    rw [oq_0 P', Option.bind_some, if_pos (nI_le (Nat.le_refl _) (by omega))]
    exact ⟨_, rfl, e2, e3⟩
end PZP1
