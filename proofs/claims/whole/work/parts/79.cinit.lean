/-! the class' object is made: text, measures, all of it -/
section PZK1
variable {h : zq_H} {α : Type} {Q : α → Prop}
theorem x_text (h1 : h.1 = 85) {k : zq_H → Option α} (hk : ∀ h', h'.1 = 87 → pz_fz 85 5 h h' → pz_r h' 0 5 = some 85 → pz_r h' 85 0 = some 86 → pz_i h' 85 1 = 0 → ∃ y, k h' = some y ∧ Q y) :
    ∃ y, (Option.bind (zq_nw1 h 85 4) fun h_265 => (zq_at h_265 (85 + 1) fun _ => (Option.bind (f_X4_init h_265 85) fun v_267 => (Option.bind (zq_pr v_267 0 5 5 85) k)))) = some y ∧ Q y := by
  generalize hm0 : zq_new h 85 = m0
  have y0 : m0.1 = 86 := by rw [← hm0]; rfl
  generalize hm1 : zq_new m0 86 = m1
  have y1 : m1.1 = 87 := by rw [← hm1]; rfl
  have n0 : zq_nw1 h 85 4 = some m0 := by rw [← hm0]; exact zn_w h1 rfl
  have n1 : zq_na m0 86 10 60 60 = some m1 := by rw [← hm1]; exact zn_a (L := 60) (B := 60) y0 rfl (by omega) (by omega)
  have n2 : zq_pr m1 85 4 0 86 = some (pz_R m1 85 0 86) := pz_pr (by omega) rfl 86
  have n3 : f_X4_init m0 85 = some (pz_R m1 85 0 86) := by
    unfold f_X4_init
    rw [n1, Option.bind_some, n2, Option.bind_some]
  have n4 : zq_pr (pz_R m1 85 0 86) 0 5 5 85 = some (pz_R (pz_R m1 85 0 86) 0 5 85) := pz_pr (by rw [pz_R_1]; omega) rfl 85
  rw [n0, Option.bind_some, zt_ (n := 85 + 1) y0, n3, Option.bind_some, n4, Option.bind_some]
  refine hk _ y1 ⟨by show h.1 ≤ m1.1; omega, fun a ha h0 j => ?_, fun j => ?_, fun j hj => ?_⟩ ?_ ?_ ?_
  · rw [← hm1, ← hm0]
    simp only [pz_R_i, pz_R_j, pz_R_r, zn_i, zn_j, zn_r]
    simp only [if_neg (show ¬ (a = 0 ∧ j = 5) by omega), if_neg (show ¬ (a = 85 ∧ j = 0) by omega), if_neg (show ¬ a = 85 by omega), if_neg (show ¬ a = 86 by omega)]
    exact ⟨trivial, trivial, trivial⟩
  · rw [← hm1, ← hm0]
    simp [pz_R_i, zn_i]
  · rw [← hm1, ← hm0]
    simp [pz_R_r, zn_r, hj]
  · simp [pz_R_r]
  · simp [pz_R_r]
  · rw [← hm1, ← hm0]
    simp [pz_R_i, zn_i]
theorem x_reach {r f : Nat} (h1 : h.1 = r) (hr : 86 < r) (H : pz_Rh r) (hz : pz_r h 0 0 = some 1) (hf : f ≠ 0) (h11 : pz_r h 1 0 = some 2) {k : zq_H → Option α} (hk : ∀ h', h'.1 = r + 4 → pz_fz r f h h' → pz_r h' 0 f = some r → pz_Rs h' r → pz_r h' r 3 = some 2 → pz_i h' r 4 = -1 → ∃ y, k h' = some y ∧ Q y) :
    ∃ y, (Option.bind (zq_nw1 h r 2) fun h_272 => (zq_is (zq_gr h_272 0 5 0) 1 fun _ => (Option.bind (zq_aq h_272 1 12 0) fun v_276 => (zq_at h_272 (r + 1) fun _ => (Option.bind (f_X2_init h_272 r v_276) fun v_278 => (Option.bind (zq_pr v_278 0 5 f r) k)))))) = some y ∧ Q y := by
  obtain ⟨c0, c1, c2, c3⟩ := id H
  have e0 : (zq_sh r).1 = 2 := by rw [c0]
  generalize hm0 : zq_new h r = m0
  have y0 : m0.1 = r + 1 := by rw [← hm0]; rfl
  generalize hm1 : pz_R (zq_new m0 (r + 1)) r 0 (r + 1) = m1
  have y1 : m1.1 = r + 2 := by rw [← hm1]; rfl
  generalize hm2 : pz_R (zq_new m1 (r + 2)) r 1 (r + 2) = m2
  have y2 : m2.1 = r + 3 := by rw [← hm2]; rfl
  generalize hm3 : pz_R (zq_new m2 (r + 3)) r 2 (r + 3) = m3
  have y3 : m3.1 = r + 4 := by rw [← hm3]; rfl
  have u0 : zq_gr m0 0 5 0 = some 1 := (pz_gr (by omega) rfl).trans (by rw [← hm0, zn_r, if_neg (by omega)]; exact hz)
  have u1 : zq_aq m0 1 12 0 = some 2 := (pz_aq (L := 6) (i := 0) (by omega) rfl (by omega) (by omega)).trans (by rw [← hm0, zn_r, if_neg (by omega)]; exact h11)
  have a1 : zq_na m0 (r + 1) 10 429 429 = some (zq_new m0 (r + 1)) := zn_a (L := 429) (B := 429) y0 c1 (by omega) (by omega)
  have a2 : zq_na m1 (r + 2) 10 429 429 = some (zq_new m1 (r + 2)) := zn_a (L := 429) (B := 429) y1 c2 (by omega) (by omega)
  have a3 : zq_na m2 (r + 3) 10 429 429 = some (zq_new m2 (r + 3)) := zn_a (L := 429) (B := 429) y2 c3 (by omega) (by omega)
  have n3 : f_X2_init m0 r 2 = some (pz_S (pz_R m3 r 3 2) r 4 (-1)) := by
    unfold f_X2_init
    rw [a1, Option.bind_some, pz_pr (by rw [zn_1]; omega) e0, Option.bind_some, hm1, a2, Option.bind_some, pz_pr (by rw [zn_1]; omega) e0, Option.bind_some, hm2, a3, Option.bind_some, pz_pr (by rw [zn_1]; omega) e0, Option.bind_some, hm3, pz_pr (by omega) e0, Option.bind_some, pz_pi (by rw [pz_R_1]; omega) e0, Option.bind_some]
  have n4 : zq_pr (pz_S (pz_R m3 r 3 2) r 4 (-1)) 0 5 f r = some (pz_R (pz_S (pz_R m3 r 3 2) r 4 (-1)) 0 f r) := pz_pr (by rw [pz_S_1, pz_R_1]; omega) rfl r
  rw [zn_w h1 e0, Option.bind_some, hm0, zi_ u0, u1, Option.bind_some, zt_ y0, n3, Option.bind_some, n4, Option.bind_some]
  have r0 : ¬ (0 : Nat) = r := by omega
  have r1 : ¬ r = 0 := by omega
  refine hk _ y3 ⟨by show h.1 ≤ m3.1; omega, fun a ha h0 j => ?_, fun j => ?_, fun j hj => ?_⟩ ?_ ⟨H, by show r + 3 < m3.1; omega, ?_, ?_, ?_⟩ ?_ ?_
  · rw [← hm3, ← hm2, ← hm1, ← hm0]
    simp only [pz_S_i, pz_S_j, pz_S_r, pz_R_i, pz_R_j, pz_R_r, zn_i, zn_j, zn_r]
    simp only [if_neg (show ¬ (a = 0 ∧ j = f) by omega), if_neg (show ¬ (a = r ∧ j = 0) by omega), if_neg (show ¬ (a = r ∧ j = 1) by omega), if_neg (show ¬ (a = r ∧ j = 2) by omega), if_neg (show ¬ (a = r ∧ j = 3) by omega), if_neg (show ¬ (a = r ∧ j = 4) by omega), if_neg (show ¬ a = r by omega), if_neg (show ¬ a = r + 1 by omega), if_neg (show ¬ a = r + 2 by omega), if_neg (show ¬ a = r + 3 by omega)]
    exact ⟨trivial, trivial, trivial⟩
  · rw [← hm3, ← hm2, ← hm1, ← hm0]
    simp [pz_S_i, pz_R_i, zn_i, r0]
  · rw [← hm3, ← hm2, ← hm1, ← hm0]
    simp [pz_S_r, pz_R_r, zn_r, hj, r0]
  · simp [pz_R_r]
  · rw [← hm3, ← hm2, ← hm1]
    simp [pz_S_r, pz_R_r, zn_r, r1]
  · rw [← hm3, ← hm2]
    simp [pz_S_r, pz_R_r, zn_r, r1]
  · rw [← hm3]
    simp [pz_S_r, pz_R_r, zn_r, r1]
  · simp [pz_S_r, pz_R_r, r1]
  · simp [pz_S_i, pz_R_i]
theorem pz_Rh_at : ∀ k, k < 4 → pz_Rh (87 + 4 * k) := by
  unfold pz_Rh
  decide
theorem pz_fz.mono {n m f : Nat} {h' : zq_H} (l : pz_fz n f h h') (hm : m ≤ n) : pz_fz m f h h' := ⟨l.1, fun a ha => l.2.1 a (by omega), l.2.2⟩
/-- the state at the start -/
def pz_A0 : pz_A := ((2, pz_fn 2 0, pz_fn 2 0, 0, 0), 0, fun _ => (2, pz_fn 2 0, pz_fn 2 0, 0, 0), fun _ => none, 0, fun _ => 0)
theorem pz_V0 : pz_V 3 (2, pz_fn 2 0, pz_fn 2 0, 0, 0) := ⟨by omega, by omega, pz_fan (by omega) (by omega), pz_fan (by omega) (by omega), by rw [Nat.zero_and]⟩
theorem s_flipPolygons (h1 : h.1 = 1) (z3 : pz_i h 0 3 = 0) : ∃ h', f_X5_init h 0 = some h' ∧ h'.1 = 104 ∧ pz_C h' pz_A0 := by
  generalize hk1 : zq_new h 1 = k1
  have y1 : k1.1 = 2 := by rw [← hk1]; rfl
  generalize hk2 : pz_R k1 0 0 1 = k2
  have y2 : k2.1 = 2 := by rw [← hk2]; exact y1
  have n1 : zq_na h (0 + 1) 12 6 6 = some k1 := by rw [← hk1]; exact zn_a (L := 6) (B := 6) h1 rfl (by omega) (by omega)
  have n2 : zq_pr k1 0 5 0 (0 + 1) = some k2 := by rw [← hk2]; exact pz_pr (by omega) rfl 1
  have X0 : pz_Xg k2 0 := ⟨y2, by rw [← hk2, pz_R_r, if_pos ⟨rfl, rfl⟩], by rw [← hk2, pz_R_i, ← hk1, zn_i, if_neg (by omega)]; exact z3, fun i hi => absurd hi (Nat.not_lt_zero _), fun i hi => absurd hi (Nat.not_lt_zero _)⟩
  unfold f_X5_init
  rw [n1, Option.bind_some, n2, Option.bind_some]
  refine x_graph (g := 0) X0 (by omega) rfl rfl (fun g1 X1 => ?_)
  refine x_graph (g := 1) X1 (by omega) rfl rfl (fun g2 X2 => ?_)
  refine x_graph (g := 2) X2 (by omega) rfl rfl (fun g3 X3 => ?_)
  refine x_graph (g := 3) X3 (by omega) rfl rfl (fun g4 X4 => ?_)
  refine x_graph (g := 4) X4 (by omega) rfl rfl (fun g5 X5 => ?_)
  refine x_graph (g := 5) X5 (by omega) rfl rfl (fun g6 X6 => ?_)
  have B0 : pz_Xb g6 0 := ⟨X6.1, X6.2.1, X6.2.2.1, X6.2.2.2.1, fun g hg => ⟨(X6.2.2.2.2 g hg).1, fun hb => absurd hb (Nat.not_lt_zero _), fun _ => (X6.2.2.2.2 g hg).2⟩⟩
  obtain ⟨a, a1, A⟩ := x_build B0
  have v0 : zq_gr g6 0 5 0 = some (0 + 1) := (pz_gr (by rw [X6.1]; omega) rfl).trans X6.2.1
  have v1 : zq_an g6 (0 + 1) = some 6 := (pz_an (c := 12) (L := 6) (by rw [X6.1]; omega) rfl (by omega) (by omega)).trans rfl
  have a1 : f_X5_buildUpTo g6 (0 + 1) 2 = some a := a1
  rw [zi_ v0, zi_ v1, zi_ v0, a1, Option.bind_some]
  refine x_now A (fun b b1 b2 b3 b4 => ?_)
  refine x_saved b1 (fun c c1 c2 c3 c4 => ?_)
  have v2 : zq_gr c 0 5 2 = some (0 + 75) := (pz_gr (by omega) rfl).trans c3
  have v3 : zq_an c (0 + 75) = some 6 := (pz_an (c := 13) (L := 6) (show 0 + 75 < c.1 by omega) rfl (by omega) (by omega)).trans rfl
  rw [zi_ v2, zi_ v3]
  refine x_snaps c1 (fun d d1 d2 d3 d4 => ?_)
  have v4 : zq_gr d 0 5 4 = some (0 + 82) := (pz_gr (by omega) rfl).trans d3
  have v5 : zq_an d (0 + 82) = some 2 := (pz_an (c := 13) (L := 2) (show 0 + 82 < d.1 by omega) rfl (by omega) (by omega)).trans rfl
  rw [zi_ v4, zi_ v5]
  refine x_text d1 (fun e e1 e2 e3 e4 e5 => ?_)
  have r0e : pz_r e 0 0 = some 1 := by rw [e2.2.2.2 0 (by omega), d2.2.2.2 0 (by omega), c2.2.2.2 0 (by omega), b2.2.2.2 0 (by omega)]; exact A.2.1
  have r1e : ∀ i, i < 6 → pz_r e 1 i = some (2 + 12 * i) := fun i hi => by rw [(e2.2.1 1 (by omega) (by omega) i).2.2, (d2.2.1 1 (by omega) (by omega) i).2.2, (c2.2.1 1 (by omega) (by omega) i).2.2, (b2.2.1 1 (by omega) (by omega) i).2.2]; exact A.2.2.2.1 i hi
  refine x_reach (r := 87) (f := 6) e1 (by omega) (pz_Rh_at 0 (by omega)) r0e (by omega) (r1e 0 (by omega)) (fun p p1 p2 p3 p4 p5 p6 => ?_)
  refine x_reach (r := 91) (f := 7) p1 (by omega) (pz_Rh_at 1 (by omega)) (by rw [p2.2.2.2 0 (by omega)]; exact r0e) (by omega) (by rw [(p2.2.1 1 (by omega) (by omega) 0).2.2]; exact r1e 0 (by omega)) (fun q q1 q2 q3 q4 q5 q6 => ?_)
  refine x_reach (r := 95) (f := 8) q1 (by omega) (pz_Rh_at 2 (by omega)) (by rw [q2.2.2.2 0 (by omega), p2.2.2.2 0 (by omega)]; exact r0e) (by omega) (by rw [(q2.2.1 1 (by omega) (by omega) 0).2.2, (p2.2.1 1 (by omega) (by omega) 0).2.2]; exact r1e 0 (by omega)) (fun u u1 u2 u3 u4 u5 u6 => ?_)
  refine x_reach (r := 99) (f := 9) u1 (by omega) (pz_Rh_at 3 (by omega)) (by rw [u2.2.2.2 0 (by omega), q2.2.2.2 0 (by omega), p2.2.2.2 0 (by omega)]; exact r0e) (by omega) (by rw [(u2.2.1 1 (by omega) (by omega) 0).2.2, (q2.2.1 1 (by omega) (by omega) 0).2.2, (p2.2.1 1 (by omega) (by omega) 0).2.2]; exact r1e 0 (by omega)) (fun w w1 w2 w3 w4 w5 w6 => ?_)
  have n8 : zq_na w (0 + 103) 10 7 7 = some (zq_new w 103) := zn_a (L := 7) (B := 7) w1 rfl (by omega) (by omega)
  have n9 : zq_pr (zq_new w 103) 0 5 10 (0 + 103) = some (pz_R (zq_new w 103) 0 10 103) := pz_pr (by rw [zn_1]; omega) rfl 103
  rw [n8, Option.bind_some, n9, Option.bind_some]
  generalize hz : pz_R (zq_new w 103) 0 10 103 = z
  have z1 : z.1 = 104 := by rw [← hz]; rfl
  have z2 : pz_fz 103 10 w z := by
    rw [← hz]
    refine ⟨by rw [pz_R_1, zn_1]; omega, fun a ha h0 j => ?_, fun j => ?_, fun j hj => ?_⟩
    · rw [pz_R_i, pz_R_j, pz_R_r, zn_i, zn_j, zn_r, if_neg (by omega), if_neg (by omega), if_neg (by omega), if_neg (by omega)]
      exact ⟨rfl, rfl, rfl⟩
    · rw [pz_R_i, zn_i, if_neg (by omega)]
    · rw [pz_R_r, zn_r, if_neg (fun r => hj r.2), if_neg (by omega)]
  refine ⟨z, rfl, z1, 3, ⟨⟨by omega, ?_, ?_, ?_, ?_, ?_, ?_, ?_, ?_, ?_, ?_, fun i hi => ?_, fun i hi => ?_, fun i hi => ?_, ?_⟩, fun g hg => ?_, fun k hk => ?_, ?_⟩, ?_⟩

  · rw [z2.2.2.2 0 (by omega), w2.2.2.2 0 (by omega), u2.2.2.2 0 (by omega), q2.2.2.2 0 (by omega), p2.2.2.2 0 (by omega)]; exact r0e
  · rw [z2.2.2.2 1 (by omega), w2.2.2.2 1 (by omega), u2.2.2.2 1 (by omega), q2.2.2.2 1 (by omega), p2.2.2.2 1 (by omega), e2.2.2.2 1 (by omega), d2.2.2.2 1 (by omega), c2.2.2.2 1 (by omega)]; exact b3
  · rw [z2.2.2.2 2 (by omega), w2.2.2.2 2 (by omega), u2.2.2.2 2 (by omega), q2.2.2.2 2 (by omega), p2.2.2.2 2 (by omega), e2.2.2.2 2 (by omega), d2.2.2.2 2 (by omega)]; exact c3
  · rw [z2.2.2.2 4 (by omega), w2.2.2.2 4 (by omega), u2.2.2.2 4 (by omega), q2.2.2.2 4 (by omega), p2.2.2.2 4 (by omega), e2.2.2.2 4 (by omega)]; exact d3
  · rw [z2.2.2.2 5 (by omega), w2.2.2.2 5 (by omega), u2.2.2.2 5 (by omega), q2.2.2.2 5 (by omega), p2.2.2.2 5 (by omega)]; exact e3
  · rw [z2.2.2.2 6 (by omega), w2.2.2.2 6 (by omega), u2.2.2.2 6 (by omega), q2.2.2.2 6 (by omega)]; exact p3
  · rw [z2.2.2.2 7 (by omega), w2.2.2.2 7 (by omega), u2.2.2.2 7 (by omega)]; exact q3
  · rw [z2.2.2.2 8 (by omega), w2.2.2.2 8 (by omega)]; exact u3
  · rw [z2.2.2.2 9 (by omega)]; exact w3
  · rw [← hz, pz_R_r, if_pos ⟨rfl, rfl⟩]
  · rw [(z2.2.1 1 (by omega) (by omega) i).2.2, (w2.2.1 1 (by omega) (by omega) i).2.2, (u2.2.1 1 (by omega) (by omega) i).2.2, (q2.2.1 1 (by omega) (by omega) i).2.2, (p2.2.1 1 (by omega) (by omega) i).2.2]; exact r1e i hi
  · rw [(z2.2.1 75 (by omega) (by omega) i).2.2, (w2.2.1 75 (by omega) (by omega) i).2.2, (u2.2.1 75 (by omega) (by omega) i).2.2, (q2.2.1 75 (by omega) (by omega) i).2.2, (p2.2.1 75 (by omega) (by omega) i).2.2, (e2.2.1 75 (by omega) (by omega) i).2.2, (d2.2.1 75 (by omega) (by omega) i).2.2]; exact (c4 i hi).1
  · rw [(z2.2.1 82 (by omega) (by omega) i).2.2, (w2.2.1 82 (by omega) (by omega) i).2.2, (u2.2.1 82 (by omega) (by omega) i).2.2, (q2.2.1 82 (by omega) (by omega) i).2.2, (p2.2.1 82 (by omega) (by omega) i).2.2, (e2.2.1 82 (by omega) (by omega) i).2.2]; exact (d4 i hi).1
  · rw [(z2.2.1 85 (by omega) (by omega) 0).2.2, (w2.2.1 85 (by omega) (by omega) 0).2.2, (u2.2.1 85 (by omega) (by omega) 0).2.2, (q2.2.1 85 (by omega) (by omega) 0).2.2, (p2.2.1 85 (by omega) (by omega) 0).2.2]; exact e4
  · have lz : pz_ag (fun x => x < 74 ∧ x ≠ 0) (z.1, a.2) z := ⟨rfl, fun x hx j => ?_⟩
    · obtain ⟨G, G1, G2⟩ := A.2.2.2.2 g hg
      have qq : ∀ i, i < 12 → (fun x => x < 74 ∧ x ≠ 0) (2 + 12 * g + i) := fun i hi => by
        show 2 + 12 * g + i < 74 ∧ 2 + 12 * g + i ≠ 0
        omega
      have G' : pz_Gs (z.1, a.2) (2 + 12 * g) g := ⟨G.1, by show 2 + 12 * g + 11 < z.1; omega, ⟨G.2.2.1.1, by show 2 + 12 * g + 1 + 7 < z.1; omega, G.2.2.1.2.2⟩, G.2.2.2⟩
      refine ⟨G'.ag lz qq, fun hb => ?_, fun hb => ?_⟩
      · obtain ⟨M, sl, B⟩ := G1 hb
        have B' : pz_Gb (z.1, a.2) (2 + 12 * g) g M sl := B
        exact ⟨M, sl, B'.ag lz qq⟩
      · exact ⟨(lz.i (qq 0 (by omega)) 8).trans (G2 hb).1, fun s hs => (lz.i (qq 11 (by omega)) s).trans ((G2 hb).2 s hs)⟩
    · have hx1 : x < 74 := hx.1
      have hx2 : x ≠ 0 := hx.2
      refine ⟨?_, ?_, ?_⟩
      · rw [(z2.2.1 x (by omega) (by omega) j).1, (w2.2.1 x (by omega) (by omega) j).1, (u2.2.1 x (by omega) (by omega) j).1, (q2.2.1 x (by omega) (by omega) j).1, (p2.2.1 x (by omega) (by omega) j).1, (e2.2.1 x (by omega) (by omega) j).1, (d2.2.1 x (by omega) (by omega) j).1, (c2.2.1 x (by omega) (by omega) j).1, (b2.2.1 x (by omega) (by omega) j).1]; rfl
      · rw [(z2.2.1 x (by omega) (by omega) j).2.1, (w2.2.1 x (by omega) (by omega) j).2.1, (u2.2.1 x (by omega) (by omega) j).2.1, (q2.2.1 x (by omega) (by omega) j).2.1, (p2.2.1 x (by omega) (by omega) j).2.1, (e2.2.1 x (by omega) (by omega) j).2.1, (d2.2.1 x (by omega) (by omega) j).2.1, (c2.2.1 x (by omega) (by omega) j).2.1, (b2.2.1 x (by omega) (by omega) j).2.1]; rfl
      · rw [(z2.2.1 x (by omega) (by omega) j).2.2, (w2.2.1 x (by omega) (by omega) j).2.2, (u2.2.1 x (by omega) (by omega) j).2.2, (q2.2.1 x (by omega) (by omega) j).2.2, (p2.2.1 x (by omega) (by omega) j).2.2, (e2.2.1 x (by omega) (by omega) j).2.2, (d2.2.1 x (by omega) (by omega) j).2.2, (c2.2.1 x (by omega) (by omega) j).2.2, (b2.2.1 x (by omega) (by omega) j).2.2]; rfl
  · have : k = 0 ∨ k = 1 ∨ k = 2 ∨ k = 3 := by omega
    rcases this with rfl | rfl | rfl | rfl
    · refine ⟨⟨p4.1, by show 87 + 3 < z.1; omega, ?_, ?_, ?_⟩, 0, by omega, ?_, Or.inl ?_⟩
      · show pz_r z 87 0 = _; rw [(z2.2.1 87 (by omega) (by omega) 0).2.2, (w2.2.1 87 (by omega) (by omega) 0).2.2, (u2.2.1 87 (by omega) (by omega) 0).2.2, (q2.2.1 87 (by omega) (by omega) 0).2.2]; exact p4.2.2.1
      · show pz_r z 87 1 = _; rw [(z2.2.1 87 (by omega) (by omega) 1).2.2, (w2.2.1 87 (by omega) (by omega) 1).2.2, (u2.2.1 87 (by omega) (by omega) 1).2.2, (q2.2.1 87 (by omega) (by omega) 1).2.2]; exact p4.2.2.2.1
      · show pz_r z 87 2 = _; rw [(z2.2.1 87 (by omega) (by omega) 2).2.2, (w2.2.1 87 (by omega) (by omega) 2).2.2, (u2.2.1 87 (by omega) (by omega) 2).2.2, (q2.2.1 87 (by omega) (by omega) 2).2.2]; exact p4.2.2.2.2
      · show pz_r z 87 3 = _; rw [(z2.2.1 87 (by omega) (by omega) 3).2.2, (w2.2.1 87 (by omega) (by omega) 3).2.2, (u2.2.1 87 (by omega) (by omega) 3).2.2, (q2.2.1 87 (by omega) (by omega) 3).2.2]; exact p5
      · show pz_i z 87 4 = _; rw [(z2.2.1 87 (by omega) (by omega) 4).1, (w2.2.1 87 (by omega) (by omega) 4).1, (u2.2.1 87 (by omega) (by omega) 4).1, (q2.2.1 87 (by omega) (by omega) 4).1]; exact p6
    · refine ⟨⟨q4.1, by show 91 + 3 < z.1; omega, ?_, ?_, ?_⟩, 0, by omega, ?_, Or.inl ?_⟩
      · show pz_r z 91 0 = _; rw [(z2.2.1 91 (by omega) (by omega) 0).2.2, (w2.2.1 91 (by omega) (by omega) 0).2.2, (u2.2.1 91 (by omega) (by omega) 0).2.2]; exact q4.2.2.1
      · show pz_r z 91 1 = _; rw [(z2.2.1 91 (by omega) (by omega) 1).2.2, (w2.2.1 91 (by omega) (by omega) 1).2.2, (u2.2.1 91 (by omega) (by omega) 1).2.2]; exact q4.2.2.2.1
      · show pz_r z 91 2 = _; rw [(z2.2.1 91 (by omega) (by omega) 2).2.2, (w2.2.1 91 (by omega) (by omega) 2).2.2, (u2.2.1 91 (by omega) (by omega) 2).2.2]; exact q4.2.2.2.2
      · show pz_r z 91 3 = _; rw [(z2.2.1 91 (by omega) (by omega) 3).2.2, (w2.2.1 91 (by omega) (by omega) 3).2.2, (u2.2.1 91 (by omega) (by omega) 3).2.2]; exact q5
      · show pz_i z 91 4 = _; rw [(z2.2.1 91 (by omega) (by omega) 4).1, (w2.2.1 91 (by omega) (by omega) 4).1, (u2.2.1 91 (by omega) (by omega) 4).1]; exact q6
    · refine ⟨⟨u4.1, by show 95 + 3 < z.1; omega, ?_, ?_, ?_⟩, 0, by omega, ?_, Or.inl ?_⟩
      · show pz_r z 95 0 = _; rw [(z2.2.1 95 (by omega) (by omega) 0).2.2, (w2.2.1 95 (by omega) (by omega) 0).2.2]; exact u4.2.2.1
      · show pz_r z 95 1 = _; rw [(z2.2.1 95 (by omega) (by omega) 1).2.2, (w2.2.1 95 (by omega) (by omega) 1).2.2]; exact u4.2.2.2.1
      · show pz_r z 95 2 = _; rw [(z2.2.1 95 (by omega) (by omega) 2).2.2, (w2.2.1 95 (by omega) (by omega) 2).2.2]; exact u4.2.2.2.2
      · show pz_r z 95 3 = _; rw [(z2.2.1 95 (by omega) (by omega) 3).2.2, (w2.2.1 95 (by omega) (by omega) 3).2.2]; exact u5
      · show pz_i z 95 4 = _; rw [(z2.2.1 95 (by omega) (by omega) 4).1, (w2.2.1 95 (by omega) (by omega) 4).1]; exact u6
    · refine ⟨⟨w4.1, by show 99 + 3 < z.1; omega, ?_, ?_, ?_⟩, 0, by omega, ?_, Or.inl ?_⟩
      · show pz_r z 99 0 = _; rw [(z2.2.1 99 (by omega) (by omega) 0).2.2]; exact w4.2.2.1
      · show pz_r z 99 1 = _; rw [(z2.2.1 99 (by omega) (by omega) 1).2.2]; exact w4.2.2.2.1
      · show pz_r z 99 2 = _; rw [(z2.2.1 99 (by omega) (by omega) 2).2.2]; exact w4.2.2.2.2
      · show pz_r z 99 3 = _; rw [(z2.2.1 99 (by omega) (by omega) 3).2.2]; exact w5
      · show pz_i z 99 4 = _; rw [(z2.2.1 99 (by omega) (by omega) 4).1]; exact w6
  · exact ⟨by show 0 ≤ 60; omega, by rw [(z2.2.1 85 (by omega) (by omega) 1).1, (w2.2.1 85 (by omega) (by omega) 1).1, (u2.2.1 85 (by omega) (by omega) 1).1, (q2.2.1 85 (by omega) (by omega) 1).1, (p2.2.1 85 (by omega) (by omega) 1).1]; exact e5, fun j hj => absurd hj (Nat.not_lt_zero _)⟩
  · obtain ⟨t1, t2, t3, t4, t5⟩ := b4
    refine ⟨⟨?_, ?_, ?_, ?_, ?_⟩, pz_V0, by show 0 ≤ 6; omega, ?_, fun i hi => absurd hi (Nat.not_lt_zero _), fun s hs => Or.inl ⟨rfl, ?_⟩⟩
    · rw [(z2.2.1 74 (by omega) (by omega) 0).2.2, (w2.2.1 74 (by omega) (by omega) 0).2.2, (u2.2.1 74 (by omega) (by omega) 0).2.2, (q2.2.1 74 (by omega) (by omega) 0).2.2, (p2.2.1 74 (by omega) (by omega) 0).2.2, (e2.2.1 74 (by omega) (by omega) 0).2.2, (d2.2.1 74 (by omega) (by omega) 0).2.2, (c2.2.1 74 (by omega) (by omega) 0).2.2]; exact t1
    · rw [(z2.2.1 74 (by omega) (by omega) 1).1, (w2.2.1 74 (by omega) (by omega) 1).1, (u2.2.1 74 (by omega) (by omega) 1).1, (q2.2.1 74 (by omega) (by omega) 1).1, (p2.2.1 74 (by omega) (by omega) 1).1, (e2.2.1 74 (by omega) (by omega) 1).1, (d2.2.1 74 (by omega) (by omega) 1).1, (c2.2.1 74 (by omega) (by omega) 1).1]; exact t2
    · rw [(z2.2.1 74 (by omega) (by omega) 2).1, (w2.2.1 74 (by omega) (by omega) 2).1, (u2.2.1 74 (by omega) (by omega) 2).1, (q2.2.1 74 (by omega) (by omega) 2).1, (p2.2.1 74 (by omega) (by omega) 2).1, (e2.2.1 74 (by omega) (by omega) 2).1, (d2.2.1 74 (by omega) (by omega) 2).1, (c2.2.1 74 (by omega) (by omega) 2).1]; exact t3
    · rw [(z2.2.1 74 (by omega) (by omega) 3).1, (w2.2.1 74 (by omega) (by omega) 3).1, (u2.2.1 74 (by omega) (by omega) 3).1, (q2.2.1 74 (by omega) (by omega) 3).1, (p2.2.1 74 (by omega) (by omega) 3).1, (e2.2.1 74 (by omega) (by omega) 3).1, (d2.2.1 74 (by omega) (by omega) 3).1, (c2.2.1 74 (by omega) (by omega) 3).1]; exact t4
    · rw [(z2.2.1 74 (by omega) (by omega) 4).1, (w2.2.1 74 (by omega) (by omega) 4).1, (u2.2.1 74 (by omega) (by omega) 4).1, (q2.2.1 74 (by omega) (by omega) 4).1, (p2.2.1 74 (by omega) (by omega) 4).1, (e2.2.1 74 (by omega) (by omega) 4).1, (d2.2.1 74 (by omega) (by omega) 4).1, (c2.2.1 74 (by omega) (by omega) 4).1]; exact t5
    · rw [z2.2.2.1 3, w2.2.2.1 3, u2.2.2.1 3, q2.2.2.1 3, p2.2.2.1 3, e2.2.2.1 3, d2.2.2.1 3, c2.2.2.1 3, b2.2.2.1 3]; exact A.2.2.1
    · rw [(z2.2.1 (83 + s) (by omega) (by omega) 0).2.2, (w2.2.1 (83 + s) (by omega) (by omega) 0).2.2, (u2.2.1 (83 + s) (by omega) (by omega) 0).2.2, (q2.2.1 (83 + s) (by omega) (by omega) 0).2.2, (p2.2.1 (83 + s) (by omega) (by omega) 0).2.2, (e2.2.1 (83 + s) (by omega) (by omega) 0).2.2]; exact (d4 s hs).2
end PZK1
