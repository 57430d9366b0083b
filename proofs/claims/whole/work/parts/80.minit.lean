/-! the reference's object is made -/
section PZK2
variable {h : zq_H}
theorem m_new (h1 : h.1 = 105) (hz : ∀ j, pz_i h 104 j = 0) : ∃ h', f_X6_init h 104 = some h' ∧ h'.1 = 118 ∧ pz_M h' pz_A0 ∧ ∀ a, a < 104 → ∀ j, pz_i h' a j = pz_i h a j ∧ pz_j h' a j = pz_j h a j ∧ pz_r h' a j = pz_r h a j := by
  have y0 : h.1 = 105 := h1
  have a0 : zq_na h (104 + 1) 10 5 5 = some (zq_new h 105) := zn_a (L := 5) (B := 5) y0 rfl (by omega) (by omega)
  generalize h10 : pz_R (zq_new h 105) 104 0 105 = m1
  have b0 : zq_pr (zq_new h 105) 104 6 0 (104 + 1) = some m1 := by rw [← h10]; exact pz_pr (by rw [zn_1]; omega) rfl 105
  have y1 : m1.1 = 106 := by rw [← h10]; rfl
  have a1 : zq_na m1 (104 + 2) 10 30 30 = some (zq_new m1 106) := zn_a (L := 30) (B := 30) y1 rfl (by omega) (by omega)
  generalize h11 : pz_R (zq_new m1 106) 104 2 106 = m2
  have b1 : zq_pr (zq_new m1 106) 104 6 2 (104 + 2) = some m2 := by rw [← h11]; exact pz_pr (by rw [zn_1]; omega) rfl 106
  have y2 : m2.1 = 107 := by rw [← h11]; rfl
  have a2 : zq_na m2 (104 + 3) 10 10 10 = some (zq_new m2 107) := zn_a (L := 10) (B := 10) y2 rfl (by omega) (by omega)
  generalize h12 : pz_R (zq_new m2 107) 104 3 107 = m3
  have b2 : zq_pr (zq_new m2 107) 104 6 3 (104 + 3) = some m3 := by rw [← h12]; exact pz_pr (by rw [zn_1]; omega) rfl 107
  have y3 : m3.1 = 108 := by rw [← h12]; rfl
  have a3 : zq_na m3 (104 + 4) 10 2 2 = some (zq_new m3 108) := zn_a (L := 2) (B := 2) y3 rfl (by omega) (by omega)
  generalize h13 : pz_R (zq_new m3 108) 104 4 108 = m4
  have b3 : zq_pr (zq_new m3 108) 104 6 4 (104 + 4) = some m4 := by rw [← h13]; exact pz_pr (by rw [zn_1]; omega) rfl 108
  have y4 : m4.1 = 109 := by rw [← h13]; rfl
  have a4 : zq_na m4 (104 + 5) 10 60 60 = some (zq_new m4 109) := zn_a (L := 60) (B := 60) y4 rfl (by omega) (by omega)
  generalize h14 : pz_R (zq_new m4 109) 104 6 109 = m5
  have b4 : zq_pr (zq_new m4 109) 104 6 6 (104 + 5) = some m5 := by rw [← h14]; exact pz_pr (by rw [zn_1]; omega) rfl 109
  have y5 : m5.1 = 110 := by rw [← h14]; rfl
  have a5 : zq_na m5 (104 + 6) 10 27 27 = some (zq_new m5 110) := zn_a (L := 27) (B := 27) y5 rfl (by omega) (by omega)
  generalize h15 : pz_R (zq_new m5 110) 104 10 110 = m6
  have b5 : zq_pr (zq_new m5 110) 104 6 10 (104 + 6) = some m6 := by rw [← h15]; exact pz_pr (by rw [zn_1]; omega) rfl 110
  have y6 : m6.1 = 111 := by rw [← h15]; rfl
  have a6 : zq_na m6 (104 + 7) 10 27 27 = some (zq_new m6 111) := zn_a (L := 27) (B := 27) y6 rfl (by omega) (by omega)
  generalize h16 : pz_R (zq_new m6 111) 104 11 111 = m7
  have b6 : zq_pr (zq_new m6 111) 104 6 11 (104 + 7) = some m7 := by rw [← h16]; exact pz_pr (by rw [zn_1]; omega) rfl 111
  have y7 : m7.1 = 112 := by rw [← h16]; rfl
  have a7 : zq_na m7 (104 + 8) 10 81 81 = some (zq_new m7 112) := zn_a (L := 81) (B := 81) y7 rfl (by omega) (by omega)
  generalize h17 : pz_R (zq_new m7 112) 104 12 112 = m8
  have b7 : zq_pr (zq_new m7 112) 104 6 12 (104 + 8) = some m8 := by rw [← h17]; exact pz_pr (by rw [zn_1]; omega) rfl 112
  have y8 : m8.1 = 113 := by rw [← h17]; rfl
  have a8 : zq_na m8 (104 + 9) 10 429 429 = some (zq_new m8 113) := zn_a (L := 429) (B := 429) y8 rfl (by omega) (by omega)
  generalize h18 : pz_R (zq_new m8 113) 104 14 113 = m9
  have b8 : zq_pr (zq_new m8 113) 104 6 14 (104 + 9) = some m9 := by rw [← h18]; exact pz_pr (by rw [zn_1]; omega) rfl 113
  have y9 : m9.1 = 114 := by rw [← h18]; rfl
  have a9 : zq_na m9 (104 + 10) 10 2574 2574 = some (zq_new m9 114) := zn_a (L := 2574) (B := 2574) y9 rfl (by omega) (by omega)
  generalize h19 : pz_R (zq_new m9 114) 104 15 114 = m10
  have b9 : zq_pr (zq_new m9 114) 104 6 15 (104 + 10) = some m10 := by rw [← h19]; exact pz_pr (by rw [zn_1]; omega) rfl 114
  have y10 : m10.1 = 115 := by rw [← h19]; rfl
  have a10 : zq_na m10 (104 + 11) 10 429 429 = some (zq_new m10 115) := zn_a (L := 429) (B := 429) y10 rfl (by omega) (by omega)
  generalize h20 : pz_R (zq_new m10 115) 104 18 115 = m11
  have b10 : zq_pr (zq_new m10 115) 104 6 18 (104 + 11) = some m11 := by rw [← h20]; exact pz_pr (by rw [zn_1]; omega) rfl 115
  have y11 : m11.1 = 116 := by rw [← h20]; rfl
  have a11 : zq_na m11 (104 + 12) 10 429 429 = some (zq_new m11 116) := zn_a (L := 429) (B := 429) y11 rfl (by omega) (by omega)
  generalize h21 : pz_R (zq_new m11 116) 104 19 116 = m12
  have b11 : zq_pr (zq_new m11 116) 104 6 19 (104 + 12) = some m12 := by rw [← h21]; exact pz_pr (by rw [zn_1]; omega) rfl 116
  have y12 : m12.1 = 117 := by rw [← h21]; rfl
  have a12 : zq_na m12 (104 + 13) 10 429 429 = some (zq_new m12 117) := zn_a (L := 429) (B := 429) y12 rfl (by omega) (by omega)
  generalize h22 : pz_R (zq_new m12 117) 104 20 117 = m13
  have b12 : zq_pr (zq_new m12 117) 104 6 20 (104 + 13) = some m13 := by rw [← h22]; exact pz_pr (by rw [zn_1]; omega) rfl 117
  have y13 : m13.1 = 118 := by rw [← h22]; rfl
  have R : pz_Ms m13 := by
    rw [← h22, ← h21, ← h20, ← h19, ← h18, ← h17, ← h16, ← h15, ← h14, ← h13, ← h12, ← h11, ← h10]
    refine ⟨by rw [pz_R_1, zn_1]; omega, ?_⟩
    simp [pz_R_r, zn_r]
  have lo : ∀ a, a < 104 → ∀ j, pz_i m13 a j = pz_i h a j ∧ pz_j m13 a j = pz_j h a j ∧ pz_r m13 a j = pz_r h a j := fun a ha j => by
    rw [← h22, ← h21, ← h20, ← h19, ← h18, ← h17, ← h16, ← h15, ← h14, ← h13, ← h12, ← h11, ← h10]
    simp only [pz_R_i, pz_R_j, pz_R_r, zn_i, zn_j, zn_r]
    simp only [if_neg (show ¬ (a = 104 ∧ j = 0) by omega), if_neg (show ¬ (a = 104 ∧ j = 2) by omega), if_neg (show ¬ (a = 104 ∧ j = 3) by omega), if_neg (show ¬ (a = 104 ∧ j = 4) by omega), if_neg (show ¬ (a = 104 ∧ j = 6) by omega), if_neg (show ¬ (a = 104 ∧ j = 10) by omega), if_neg (show ¬ (a = 104 ∧ j = 11) by omega), if_neg (show ¬ (a = 104 ∧ j = 12) by omega), if_neg (show ¬ (a = 104 ∧ j = 14) by omega), if_neg (show ¬ (a = 104 ∧ j = 15) by omega), if_neg (show ¬ (a = 104 ∧ j = 18) by omega), if_neg (show ¬ (a = 104 ∧ j = 19) by omega), if_neg (show ¬ (a = 104 ∧ j = 20) by omega), if_neg (show ¬ a = 105 by omega), if_neg (show ¬ a = 106 by omega), if_neg (show ¬ a = 107 by omega), if_neg (show ¬ a = 108 by omega), if_neg (show ¬ a = 109 by omega), if_neg (show ¬ a = 110 by omega), if_neg (show ¬ a = 111 by omega), if_neg (show ¬ a = 112 by omega), if_neg (show ¬ a = 113 by omega), if_neg (show ¬ a = 114 by omega), if_neg (show ¬ a = 115 by omega), if_neg (show ¬ a = 116 by omega), if_neg (show ¬ a = 117 by omega)]
    exact ⟨trivial, trivial, trivial⟩
  have zz : ∀ j, pz_i m13 104 j = 0 := fun j => by
    rw [← h22, ← h21, ← h20, ← h19, ← h18, ← h17, ← h16, ← h15, ← h14, ← h13, ← h12, ← h11, ← h10]
    simp [pz_R_i, zn_i, hz]
  have zy : ∀ j, pz_i m13 105 j = 0 ∧ pz_i m13 108 j = 0 := fun j => by
    rw [← h22, ← h21, ← h20, ← h19, ← h18, ← h17, ← h16, ← h15, ← h14, ← h13, ← h12, ← h11, ← h10]
    simp [pz_R_i, zn_i]
  generalize hk0 : pz_S m13 105 0 6 = k0
  have R0 : pz_Ms k0 := by rw [← hk0]; exact R
  have i0 : ∀ a j, a ≠ 105 → pz_i k0 a j = pz_i m13 a j := fun a j q => by rw [← hk0, pz_S_i, if_neg (fun r => q r.1)]
  have c0 : pz_i k0 105 0 = nI (2 + 4) := by rw [← hk0, pz_S_i, if_pos ⟨rfl, rfl⟩]; rfl
  have c1 : ∀ j, j ≠ 0 → pz_i k0 105 j = 0 := fun j q => by rw [← hk0, pz_S_i, if_neg (fun r => q r.2)]; exact (zy j).1
  obtain ⟨k2, f1, f2, f3⟩ := m_layAll (g := 2) (by omega) R0 c0 (Or.inl (by rw [i0 104 8 (by omega)]; exact zz 8))
  have R2 : pz_Ms k2 := R0.rr f2.1 (fun j => by unfold pz_r; rw [f2.2.1])
  have z0 : pz_i k2 105 0 = nI (2 + 4) := by rw [f2.2.2 105 0 (by omega)]; exact c0
  have D2 := f3.d z0
  have hT := pz_fan (g := 2) (by omega) (show 0 < 2 + 4 by omega)
  have hfan : f_X6_fanOf k2 104 0 = some (nI (pz_fn 2 0)) := m_fanOf R2 D2 (c := 0) (by omega)
  generalize hk3 : pz_S k2 105 1 (nI (pz_fn 2 0)) = k3
  generalize hk4 : pz_S k3 105 2 (nI (pz_fn 2 0)) = k4
  have R3 : pz_Ms k3 := by rw [← hk3]; exact R2
  have R4 : pz_Ms k4 := by rw [← hk4]; exact R3
  have i4 : ∀ a j, a ≠ 105 → pz_i k4 a j = pz_i k2 a j := fun a j q => by
    rw [← hk4, pz_S_i, if_neg (fun r => q r.1), ← hk3, pz_S_i, if_neg (fun r => q r.1)]
  have D3 : pz_Md k3 2 := by
    have T3 : pz_Tb k3 2 := f3.of (fun a j q => by rw [← hk3, pz_S_i, if_neg (by omega)])
    exact T3.d (by rw [← hk3, pz_S_i, if_neg (by omega)]; exact z0)
  have hfan3 : f_X6_fanOf k3 104 0 = some (nI (pz_fn 2 0)) := m_fanOf R3 D3 (c := 0) (by omega)
  have w5 : ∀ j, j ≠ 1 → j ≠ 2 → pz_i k4 105 j = pz_i k0 105 j := fun j q1 q2 => by
    rw [← hk4, pz_S_i, if_neg (fun r => q2 r.2), ← hk3, pz_S_i, if_neg (fun r => q1 r.2)]
    exact f2.2.2 105 j (by omega)
  have g0 : ∀ {γ : Type} (m : zq_H) (f : Unit → Option γ), pz_Ms m → zq_is (zq_gr m 104 6 0) (104 + 1) f = f () := fun m f R => zi_ (mq_0 R)
  have s0 : zq_si m13 (104 + 1) 0 6 = some k0 := by rw [← hk0]; exact mz_s0 R 6
  have s1 : zq_si k2 (104 + 1) 1 (nI (pz_fn 2 0)) = some k3 := by rw [← hk3]; exact mz_s1 R2 _
  have s2 : zq_si k3 (104 + 1) 2 (nI (pz_fn 2 0)) = some k4 := by rw [← hk4]; exact mz_s2 R3 _
  unfold f_X6_init
  rw [a0, Option.bind_some, b0, Option.bind_some, a1, Option.bind_some, b1, Option.bind_some, a2, Option.bind_some, b2, Option.bind_some, a3, Option.bind_some, b3, Option.bind_some, a4, Option.bind_some, b4, Option.bind_some, a5, Option.bind_some, b5, Option.bind_some, a6, Option.bind_some, b6, Option.bind_some, a7, Option.bind_some, b7, Option.bind_some, a8, Option.bind_some, b8, Option.bind_some, a9, Option.bind_some, b9, Option.bind_some, a10, Option.bind_some, b10, Option.bind_some, a11, Option.bind_some, b11, Option.bind_some, a12, Option.bind_some, b12, Option.bind_some, g0 _ _ R, s0, Option.bind_some, mq_ck R0, f1, Option.bind_some, g0 _ _ R2, mq_ck R2, hfan, Option.bind_some, s1, Option.bind_some, g0 _ _ R3, mq_ck R3, hfan3, Option.bind_some, s2, Option.bind_some]
  refine ⟨k4, rfl, ?_, ⟨R4, f3.of (fun a j q => i4 a j (by omega)), ⟨⟨?_, ?_, ?_, ?_, ?_⟩, pz_V0.mono (by omega) (by omega), ?_, by show 0 ≤ 6; omega, fun i hi => absurd hi (Nat.not_lt_zero _), fun s hs => ⟨?_, fun m hm => by cases hm⟩⟩, ⟨by show 0 ≤ 60; omega, ?_, fun j hj => absurd hj (Nat.not_lt_zero _)⟩⟩, fun a ha j => ⟨?_, ?_, ?_⟩⟩
  · rw [← hk4, ← hk3, pz_S_1, pz_S_1, f2.1, ← hk0, pz_S_1]; exact y13
  · rw [w5 _ (by omega) (by omega)]; exact c0
  · rw [← hk4, pz_S_i, if_neg (by omega), ← hk3, pz_S_i, if_pos ⟨rfl, rfl⟩]; rfl
  · rw [← hk4, pz_S_i, if_pos ⟨rfl, rfl⟩]; rfl
  · rw [w5 _ (by omega) (by omega)]; exact c1 3 (by omega)
  · rw [w5 _ (by omega) (by omega)]; exact c1 4 (by omega)
  · rw [i4 104 1 (by omega), f2.2.2 104 1 (by omega), i0 104 1 (by omega)]; exact zz 1
  · rw [i4 108 s (by omega), f2.2.2 108 s (by omega), i0 108 s (by omega)]; exact (zy s).2
  · rw [i4 104 5 (by omega), f2.2.2 104 5 (by omega), i0 104 5 (by omega)]; exact zz 5
  · rw [i4 a j (by omega), f2.2.2 a j (by omega), i0 a j (by omega)]; exact (lo a ha j).1
  · rw [← hk4, ← hk3, pz_S_j, pz_S_j]
    refine Eq.trans ?_ (lo a ha j).2.1
    unfold pz_j
    rw [f2.2.1, ← hk0]
    rfl
  · rw [← hk4, ← hk3, pz_S_r, pz_S_r]
    refine Eq.trans ?_ (lo a ha j).2.2
    unfold pz_r
    rw [f2.2.1, ← hk0]
    rfl
end PZK2
