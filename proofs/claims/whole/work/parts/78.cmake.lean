/-! the class' object is made -/
section PZK0
variable {h : zq_H} {α : Type} {Q : α → Prop}
theorem zi_ {β : Type} [DecidableEq β] {o : Option β} {v : β} {f : Unit → Option α} (e : o = some v) : zq_is o v f = f () := if_pos e
theorem zt_ {n : Nat} {f : Unit → Option α} (e : h.1 = n) : zq_at h n f = f () := if_pos e
theorem zn_q {a c co L i v : Nat} (ha : a < h.1) (hs : zq_sh a = (c, L)) (hi : i < L) (hL : L < 2147483648) (hv : v < h.1) (hc : (zq_sh v).1 = co) : zq_sq h a c co (nI i) v = some (pz_R h a i v) := by
  unfold zq_sq
  rw [hs]
  have h1 := nI_clamp (n := i) (Nat.lt_trans hi hL)
  rw [if_pos ⟨ha, rfl, nI_in hi hL, hv, hc⟩, h1]
  rfl
/-- so many graphs are made -/
def pz_Xg (h : zq_H) (n : Nat) : Prop := h.1 = 2 + 12 * n ∧ pz_r h 0 0 = some 1 ∧ pz_i h 0 3 = 0 ∧ (∀ i, i < n → pz_r h 1 i = some (2 + 12 * i)) ∧ ∀ i, i < n → pz_Gs h (2 + 12 * i) i ∧ pz_Gf h (2 + 12 * i) i
theorem x_graph {g : Nat} (X : pz_Xg h g) (hg : g < 6) {k : zq_H → Option α} {v ix : Int32} (hv : v = nI (g + 4)) (hix : ix = nI g) (hk : ∀ h', pz_Xg h' (g + 1) → ∃ y, k h' = some y ∧ Q y) :
    ∃ y, (zq_is (zq_gr h 0 5 0) 1 fun _ => (zq_is (zq_an h 1) 6 fun _ => (zq_is (zq_gr h 0 5 0) 1 fun _ => (Option.bind (zq_nw1 h (2 + 12 * g) 0) fun h_12 => (Option.bind (zq_nw1 h_12 (2 + 12 * g + 1) 1) fun h_14 => (zq_at h_14 (2 + 12 * g + 1 + 1) fun _ => (Option.bind (f_X1_init h_14 (2 + 12 * g + 1) v) fun v_16 => (zq_at v_16 (2 + 12 * g + 9) fun _ => (Option.bind (f_X0_init v_16 (2 + 12 * g) (2 + 12 * g + 1)) fun v_19 => (Option.bind (zq_sq v_19 1 12 0 ix (2 + 12 * g)) k)))))))))) = some y ∧ Q y := by
  obtain ⟨x1, x2, x3, x4, x5⟩ := X
  subst hv; subst hix
  have S0 := pz_Hg_at g hg
  have S1 : pz_Sg g (2 + 12 * g + 1) := by have := pz_Sg_at g hg; rw [show 2 + 12 * g + 1 = 3 + 12 * g by omega]; exact this
  have r0 : zq_gr h 0 5 0 = some 1 := (pz_gr (by omega) rfl).trans x2
  have r1 : zq_an h 1 = some 6 := (pz_an (c := 12) (L := 6) (by omega) rfl (by omega) (by omega)).trans rfl
  generalize ht : 2 + 12 * g = t at *
  generalize hm1 : zq_new h t = m1
  have y1 : m1.1 = t + 1 := by rw [← hm1]; rfl
  generalize hm2 : zq_new m1 (t + 1) = m2
  have y2 : m2.1 = t + 1 + 1 := by rw [← hm2]; rfl
  obtain ⟨m3, e1, e2, e3, e4⟩ := s_polygon S1 y2
  have e3' : m3.1 = t + 9 := e3
  have z8 : pz_i m3 t 8 = 0 := by rw [e4.i (by omega), ← hm2, zn_i, if_neg (by omega), ← hm1, zn_i, if_pos rfl]
  obtain ⟨m4, f1, f2, f3, f4, f5⟩ := s_graph S0 e3' e2 z8
  have lw : pz_gw t h m4 := (((show pz_gw t h m1 by rw [← hm1]; exact pz_gw.new x1 (Nat.le_refl _)).tr (show pz_gw t m1 m2 by rw [← hm2]; exact pz_gw.new y1 (by omega))).tr (e4.mono (by omega))).tr f5
  have q4 : zq_sq m4 1 12 0 (nI g) t = some (pz_R m4 1 g t) := zn_q (L := 6) (by omega) rfl hg (by omega) (by omega) (by rw [S0.2.1])
  rw [zi_ r0, zi_ r1, zi_ r0, zn_w x1 (by rw [S0.2.1]), Option.bind_some, hm1, zn_w y1 (by rw [S1.2.1]), Option.bind_some, hm2, zt_ y2, e1, Option.bind_some, zt_ e3', f1, Option.bind_some, q4, Option.bind_some]
  have agq : pz_ag (fun a => a ≠ 1) m4 (pz_R m4 1 g t) := pz_ag.R (by simp)
  refine hk _ ⟨by rw [pz_R_1, f4]; omega, by rw [agq.r (by omega), lw.r (by omega)]; exact x2, by rw [agq.i (by omega), lw.i (by omega)]; exact x3, fun i hi => ?_, fun i hi => ?_⟩
  · rw [pz_R_r]
    by_cases q : i = g
    · subst q
      rw [if_pos ⟨rfl, rfl⟩, ht]
    · rw [if_neg (fun r => q r.2), lw.r (by omega)]
      exact x4 i (by omega)
  · have hne : ∀ j, j < 12 → (fun a => a ≠ 1) (2 + 12 * i + j) := fun j hj => by show 2 + 12 * i + j ≠ 1; omega
    by_cases q : i = g
    · subst q
      rw [ht] at hne ⊢
      exact ⟨f2.ag agq hne, by rw [agq.i (by omega)]; exact f3.1, fun s hs => by rw [agq.i (by omega)]; exact f3.2 s hs⟩
    · obtain ⟨v1, v2⟩ := x5 i (by omega)
      have v1' := v1.gw lw (by omega)
      have v2' := v2.gw lw (by omega)
      exact ⟨v1'.ag agq hne, by rw [agq.i (by omega)]; exact v2'.1, fun s hs => by rw [agq.i (by omega)]; exact v2'.2 s hs⟩
/-- the first b graphs are built -/
def pz_Xb (h : zq_H) (b : Nat) : Prop := h.1 = 74 ∧ pz_r h 0 0 = some 1 ∧ pz_i h 0 3 = 0 ∧ (∀ i, i < 6 → pz_r h 1 i = some (2 + 12 * i)) ∧ pz_Cg h b
theorem x_build (X : pz_Xb h 0) : ∃ h', f_X5_buildUpTo h 1 2 = some h' ∧ pz_Xb h' 3 := by
  unfold f_X5_buildUpTo
  refine pz_lpIB (fun i s => s.1 = nI i ∧ pz_Xb s.2 i) 3 (fun h' => pz_Xb h' 3) (fun h' q => ⟨h', rfl, q⟩) ⟨rfl, X⟩ ?_ ?_ (by omega)
  · rintro i ⟨x, k⟩ hi ⟨e1, e2⟩
    simp only at e1 e2
    subst e1
    obtain ⟨x1, x2, x3, x4, x5⟩ := e2
    obtain ⟨G, G1, G2⟩ := x5 i (by omega)
    have r1 : zq_an k 1 = some (nI 6) := pz_an (c := 12) (by omega) rfl (by omega) (by omega)
    have r2 : zq_aq k 1 12 (nI i) = some (2 + 12 * i) := (pz_aq (L := 6) (by omega) rfl (by omega) (by omega)).trans (x4 i (by omega))
    obtain ⟨k2, f1, f2, M, sl, f3⟩ := s_build_new G ((G2 (by omega)).ht (fun _ => 0))
    have l := f2.ag
    simp only
    rw [if_neg (show ¬ (2 : Int32) < nI i from nI_nlt (a := 2) (b := i) (by omega) (by omega)), r1, Option.bind_some, if_neg (nI_ge (show i < 6 by omega) (by omega)), r2, Option.bind_some, gq_ck G, f1, Option.bind_some]
    simp only [zq_let, nI_1]
    refine ⟨_, rfl, rfl, by rw [l.1]; exact x1, by rw [f2.r]; exact x2, by rw [l.i (by omega)]; exact x3, fun j hj => by rw [f2.r]; exact x4 j hj, fun g' hg' => ?_⟩
    obtain ⟨G', G1', G2'⟩ := x5 g' hg'
    by_cases q2 : g' = i
    · subst q2
      exact ⟨G.gag f2, fun _ => ⟨M, sl, f3⟩, fun h => by omega⟩
    · have qq : ∀ j, j < 12 → (fun a => a ≠ 2 + 12 * i ∧ a ≠ 2 + 12 * i + 9 ∧ a ≠ 2 + 12 * i + 10 ∧ a ≠ 2 + 12 * i + 11) (2 + 12 * g' + j) := fun j hj => by
        show 2 + 12 * g' + j ≠ 2 + 12 * i ∧ 2 + 12 * g' + j ≠ 2 + 12 * i + 9 ∧ 2 + 12 * g' + j ≠ 2 + 12 * i + 10 ∧ 2 + 12 * g' + j ≠ 2 + 12 * i + 11
        omega
      refine ⟨G'.ag l qq, fun hlt => ?_, fun hle => ?_⟩
      · obtain ⟨M', sl', Gb'⟩ := G1' (by omega)
        exact ⟨M', sl', Gb'.ag l qq⟩
      · have := G2' (by omega)
        exact ⟨by (show pz_i k2 (2 + 12 * g') 8 = nI 0; rw [l.i (t := 2 + 12 * g') (by omega)]; exact this.1), fun s hs => by (show pz_i k2 (2 + 12 * g' + 11) s = nI 0; rw [l.i (t := 2 + 12 * g' + 11) (by omega)]; exact this.2 s hs)⟩
  · rintro ⟨x, k⟩ ⟨e1, e2⟩
    simp only at e1 e2
    subst e1
    exact ⟨k, if_pos (show (2 : Int32) < nI 3 by decide), e2⟩
/-- the cells below n stay, but the class' own; of its fields f alone -/
def pz_fz (n f : Nat) (h h' : zq_H) : Prop := h.1 ≤ h'.1 ∧ (∀ a, a < n → a ≠ 0 → ∀ j, pz_i h' a j = pz_i h a j ∧ pz_j h' a j = pz_j h a j ∧ pz_r h' a j = pz_r h a j) ∧ (∀ j, pz_i h' 0 j = pz_i h 0 j) ∧ ∀ j, j ≠ f → pz_r h' 0 j = pz_r h 0 j

theorem x_now (X : pz_Xb h 3) {k : zq_H → Option α} (hk : ∀ h', h'.1 = 75 → pz_fz 74 1 h h' → pz_r h' 0 1 = some 74 → pz_At h' 74 (2, pz_fn 2 0, pz_fn 2 0, 0, 0) → ∃ y, k h' = some y ∧ Q y) :
    ∃ y, (Option.bind (zq_nw1 h 74 3) fun h_128 => (Option.bind (f_X3_init h_128 74) fun v_130 => (Option.bind (zq_pr h_128 0 5 1 74) fun h_132 => (zq_is (zq_gr h_132 0 5 1) 74 fun _ => (zq_is (zq_gr h_132 0 5 0) 1 fun _ => (Option.bind (zq_aq h_132 1 12 2) fun v_138 => (zq_ck h_132 74 3 fun _ => (Option.bind (f_X3_startWith h_132 74 v_138) k)))))))) = some y ∧ Q y := by
  obtain ⟨x1, x2, x3, x4, x5⟩ := X
  have G := (x5 2 (by omega)).1
  generalize hm1 : zq_new h 74 = m1
  have y1 : m1.1 = 75 := by rw [← hm1]; rfl
  generalize hm2 : pz_R m1 0 1 74 = m2
  have y2 : m2.1 = 75 := by rw [← hm2]; exact y1
  generalize hm3 : pz_R m2 74 0 26 = m3
  have y3 : m3.1 = 75 := by rw [← hm3]; exact y2
  have r0 : ∀ j, pz_r m2 0 j = if j = 1 then some 74 else pz_r h 0 j := fun j => by
    rw [← hm2, pz_R_r, ← hm1, zn_r, if_neg (show ¬ (0 : Nat) = 74 by omega)]
    by_cases q : j = 1
    · rw [if_pos ⟨rfl, q⟩, if_pos q]
    · rw [if_neg (fun r => q r.2), if_neg q]
  have lo : ∀ a, a < 74 → a ≠ 0 → ∀ j, pz_i m3 a j = pz_i h a j ∧ pz_j m3 a j = pz_j h a j ∧ pz_r m3 a j = pz_r h a j := fun a ha h0 j => by
    rw [← hm3, ← hm2, ← hm1, pz_R_i, pz_R_i, pz_R_j, pz_R_j, pz_R_r, pz_R_r, zn_i, zn_j, zn_r, if_neg (by omega), if_neg (by omega), if_neg (by omega), if_neg (by omega), if_neg (by omega)]
    exact ⟨rfl, rfl, rfl⟩
  have G3 : pz_Gs m3 26 2 := by
    have G1 : pz_Gs (m3.1, h.2) 26 2 := ⟨G.1, by show 26 + 11 < m3.1; omega, ⟨G.2.2.1.1, by show 26 + 1 + 7 < m3.1; omega, G.2.2.1.2.2⟩, G.2.2.2⟩
    exact G1.ag (Q := fun a => a < 74 ∧ a ≠ 0) ⟨rfl, fun a ha j => lo a ha.1 ha.2 j⟩ (fun i hi => by show 26 + i < 74 ∧ 26 + i ≠ 0; omega)
  have i0 : ∀ j, pz_i m3 0 j = pz_i h 0 j := fun j => by rw [← hm3, ← hm2, ← hm1, pz_R_i, pz_R_i, zn_i, if_neg (by omega)]
  have i74 : ∀ j, pz_i m3 74 j = 0 := fun j => by rw [← hm3, ← hm2, ← hm1, pz_R_i, pz_R_i, zn_i, if_pos rfl]
  have u1 : zq_gr m2 0 5 1 = some 74 := (pz_gr (by omega) rfl).trans ((r0 1).trans (if_pos rfl))
  have u2 : zq_gr m2 0 5 0 = some 1 := (pz_gr (by omega) rfl).trans (((r0 0).trans (if_neg (by omega))).trans x2)
  have u3 : zq_aq m2 1 12 2 = some 26 := (pz_aq (L := 6) (i := 2) (by omega) rfl (by omega) (by omega)).trans (by rw [← hm2, pz_R_r, if_neg (by omega), ← hm1, zn_r, if_neg (by omega)]; exact x4 2 (by omega))
  have u4 : zq_gr m3 26 0 0 = some 27 := gq_0 G3
  have u5 : f_X1_fanOf m3 27 0 = some (nI (pz_fn 2 0)) := s_fanOf (c := 0) G3.2.2.1 (by omega)
  have pi : ∀ (k : zq_H) (j : Nat) (v : Int32), k.1 = 75 → zq_pi k 74 3 j v = some (pz_S k 74 j v) := fun k j v hk => pz_pi (by rw [hk]; omega) rfl v
  have gi : ∀ (k : zq_H) (j : Nat), k.1 = 75 → zq_gi k 74 3 j = some (pz_i k 74 j) := fun k j hk => pz_gi (by rw [hk]; omega) rfl
  generalize hm4 : pz_S m3 74 1 (nI (pz_fn 2 0)) = m4
  have y4 : m4.1 = 75 := by rw [← hm4]; exact y3
  have w1 : pz_i m4 74 1 = nI (pz_fn 2 0) := by rw [← hm4, pz_S_i, if_pos ⟨rfl, rfl⟩]
  have v1 : f_X3_startWith m2 74 26 = some (pz_S (pz_S m4 74 2 (nI (pz_fn 2 0))) 74 3 0) := by
    unfold f_X3_startWith
    rw [pz_pr (c := 3) (by omega) rfl, Option.bind_some, hm3, u4, Option.bind_some, pq_ck G3.2.2.1, u5, Option.bind_some, pi _ _ _ y3, Option.bind_some, hm4, gi _ _ y4, w1, Option.bind_some, pi m4 _ _ y4, Option.bind_some, pi (pz_S m4 74 2 _) _ _ y4, Option.bind_some]
  have n1 : zq_nw1 h 74 3 = some m1 := by rw [← hm1]; exact zn_w x1 rfl
  have n2 : zq_pr m1 0 5 1 74 = some m2 := by rw [← hm2]; exact pz_pr (by omega) rfl 74
  have n3 : ∀ {γ : Type} {f : Unit → Option γ}, zq_ck m2 74 3 f = f () := pz_ck (by omega) rfl
  have n0 : f_X3_init m1 74 = some () := rfl
  rw [n1, Option.bind_some, n0, Option.bind_some, n2, Option.bind_some, zi_ u1, zi_ u2, u3, Option.bind_some, n3, v1, Option.bind_some]
  have lo4 : ∀ a, a ≠ 74 → ∀ j, pz_i (pz_S (pz_S m4 74 2 (nI (pz_fn 2 0))) 74 3 0) a j = pz_i m3 a j := fun a ha j => by rw [pz_S_i, if_neg (by omega), pz_S_i, if_neg (by omega), ← hm4, pz_S_i, if_neg (by omega)]
  have rr4 : ∀ a j, pz_r (pz_S (pz_S m4 74 2 (nI (pz_fn 2 0))) 74 3 0) a j = pz_r m3 a j := fun a j => by rw [← hm4]; rfl
  have jj4 : ∀ a j, pz_j (pz_S (pz_S m4 74 2 (nI (pz_fn 2 0))) 74 3 0) a j = pz_j m3 a j := fun a j => by rw [← hm4]; rfl
  refine hk _ y4 ⟨by show h.1 ≤ m4.1; omega, fun a ha h0 j => ?_, fun j => ?_, fun j hj => ?_⟩ ?_ ⟨?_, ?_, ?_, ?_, ?_⟩
  · rw [lo4 a (by omega), rr4, jj4]; exact lo a ha h0 j
  · rw [lo4 0 (by omega), i0]
  · rw [rr4, ← hm3, pz_R_r, if_neg (by omega), r0, if_neg hj]
  · rw [rr4, ← hm3, pz_R_r, if_neg (by omega), r0, if_pos rfl]
  · rw [rr4, ← hm3, pz_R_r, if_pos ⟨rfl, rfl⟩]
    rfl
  · rw [pz_S_i, if_neg (by omega), pz_S_i, if_neg (by omega), ← hm4, pz_S_i, if_pos ⟨rfl, rfl⟩]
  · rw [pz_S_i, if_neg (by omega), pz_S_i, if_pos ⟨rfl, rfl⟩]
  · rw [pz_S_i, if_pos ⟨rfl, rfl⟩]; rfl
  · rw [pz_S_i, if_neg (by omega), pz_S_i, if_neg (by omega), ← hm4, pz_S_i, if_neg (by omega), i74]

theorem e_st {f p L c i : Nat} {Lc ix : Int32} {k : zq_H → Option α} (h1 : h.1 = c) (h0 : 0 < c) (hf : pz_r h 0 f = some p) (hp : zq_sh p = (13, L)) (hpc : p < c) (hL : Lc = nI L) (hL2 : L < 100) (hx : ix = nI i) (hi : i < L) (hc : (zq_sh c).1 = 3) :
    (zq_is (zq_gr h 0 5 f) p fun _ => (zq_is (zq_an h p) Lc fun _ => (zq_is (zq_gr h 0 5 f) p fun _ => (Option.bind (zq_nw1 h c 3) fun h_154 => (Option.bind (f_X3_init h_154 c) fun _ => (Option.bind (zq_sq h_154 p 13 3 ix c) k)))))) = k (pz_R (zq_new h c) p i c) := by
  subst hL; subst hx
  have r0 : zq_gr h 0 5 f = some p := (pz_gr (by omega) rfl).trans hf
  have r1 : zq_an h p = some (nI L) := pz_an (by omega) hp (by omega) (by omega)
  have r2 : f_X3_init (zq_new h c) c = some () := rfl
  rw [zi_ r0, zi_ r1, zi_ r0, zn_w h1 hc, Option.bind_some, r2, Option.bind_some, zn_q (L := L) (by rw [zn_1]; omega) hp hi (by omega) (by rw [zn_1]; omega) hc, Option.bind_some]

theorem x_saved (h1 : h.1 = 75) {k : zq_H → Option α} (hk : ∀ h', h'.1 = 82 → pz_fz 75 2 h h' → pz_r h' 0 2 = some 75 → (∀ i, i < 6 → pz_r h' 75 i = some (76 + i) ∧ pz_r h' (76 + i) 0 = none) → ∃ y, k h' = some y ∧ Q y) :
    ∃ y, (Option.bind (zq_na h 75 13 6 6) fun h_143 => (Option.bind (zq_pr h_143 0 5 2 75) fun h_145 => (zq_is (zq_gr h_145 0 5 2) 75 fun _ => (zq_is (zq_an h_145 75) 6 fun _ => (zq_is (zq_gr h_145 0 5 2) 75 fun _ => (Option.bind (zq_nw1 h_145 76 3) fun h_154 => (Option.bind (f_X3_init h_154 76) fun v_156 => (Option.bind (zq_sq h_154 75 13 3 0 76) fun h_158 => (zq_is (zq_gr h_158 0 5 2) 75 fun _ => (zq_is (zq_an h_158 75) 6 fun _ => (zq_is (zq_gr h_158 0 5 2) 75 fun _ => (Option.bind (zq_nw1 h_158 77 3) fun h_167 => (Option.bind (f_X3_init h_167 77) fun v_169 => (Option.bind (zq_sq h_167 75 13 3 1 77) fun h_171 => (zq_is (zq_gr h_171 0 5 2) 75 fun _ => (zq_is (zq_an h_171 75) 6 fun _ => (zq_is (zq_gr h_171 0 5 2) 75 fun _ => (Option.bind (zq_nw1 h_171 78 3) fun h_180 => (Option.bind (f_X3_init h_180 78) fun v_182 => (Option.bind (zq_sq h_180 75 13 3 2 78) fun h_184 => (zq_is (zq_gr h_184 0 5 2) 75 fun _ => (zq_is (zq_an h_184 75) 6 fun _ => (zq_is (zq_gr h_184 0 5 2) 75 fun _ => (Option.bind (zq_nw1 h_184 79 3) fun h_193 => (Option.bind (f_X3_init h_193 79) fun v_195 => (Option.bind (zq_sq h_193 75 13 3 3 79) fun h_197 => (zq_is (zq_gr h_197 0 5 2) 75 fun _ => (zq_is (zq_an h_197 75) 6 fun _ => (zq_is (zq_gr h_197 0 5 2) 75 fun _ => (Option.bind (zq_nw1 h_197 80 3) fun h_206 => (Option.bind (f_X3_init h_206 80) fun v_208 => (Option.bind (zq_sq h_206 75 13 3 4 80) fun h_210 => (zq_is (zq_gr h_210 0 5 2) 75 fun _ => (zq_is (zq_an h_210 75) 6 fun _ => (zq_is (zq_gr h_210 0 5 2) 75 fun _ => (Option.bind (zq_nw1 h_210 81 3) fun h_219 => (Option.bind (f_X3_init h_219 81) fun v_221 => (Option.bind (zq_sq h_219 75 13 3 5 81) k)))))))))))))))))))))))))))))))))))))) = some y ∧ Q y := by
  generalize hm0 : pz_R (zq_new h 75) 0 2 75 = m0
  have y0 : m0.1 = 76 := by rw [← hm0]; rfl
  have r0 : pz_r m0 0 2 = some 75 := by rw [← hm0, pz_R_r, if_pos ⟨rfl, rfl⟩]
  have n0 : zq_na h 75 13 6 6 = some (zq_new h 75) := zn_a (L := 6) (B := 6) h1 rfl (by omega) (by omega)
  have n1 : zq_pr (zq_new h 75) 0 5 2 75 = some m0 := by rw [← hm0]; exact pz_pr (by rw [zn_1]; omega) rfl 75
  rw [n0, Option.bind_some, n1, Option.bind_some]
  rw [e_st (h := m0) (f := 2) (p := 75) (L := 6) (c := 76) (i := 0) (Lc := 6) (ix := 0) y0 (by omega) r0 rfl (by omega) rfl (by omega) rfl (by omega) rfl]
  generalize hm1 : pz_R (zq_new m0 76) 75 0 76 = m1
  have y1 : m1.1 = 77 := by rw [← hm1]; rfl
  have r1 : pz_r m1 0 2 = some 75 := by rw [← hm1, pz_R_r, if_neg (by omega), zn_r, if_neg (by omega)]; exact r0
  rw [e_st (h := m1) (f := 2) (p := 75) (L := 6) (c := 77) (i := 1) (Lc := 6) (ix := 1) y1 (by omega) r1 rfl (by omega) rfl (by omega) rfl (by omega) rfl]
  generalize hm2 : pz_R (zq_new m1 77) 75 1 77 = m2
  have y2 : m2.1 = 78 := by rw [← hm2]; rfl
  have r2 : pz_r m2 0 2 = some 75 := by rw [← hm2, pz_R_r, if_neg (by omega), zn_r, if_neg (by omega)]; exact r1
  rw [e_st (h := m2) (f := 2) (p := 75) (L := 6) (c := 78) (i := 2) (Lc := 6) (ix := 2) y2 (by omega) r2 rfl (by omega) rfl (by omega) rfl (by omega) rfl]
  generalize hm3 : pz_R (zq_new m2 78) 75 2 78 = m3
  have y3 : m3.1 = 79 := by rw [← hm3]; rfl
  have r3 : pz_r m3 0 2 = some 75 := by rw [← hm3, pz_R_r, if_neg (by omega), zn_r, if_neg (by omega)]; exact r2
  rw [e_st (h := m3) (f := 2) (p := 75) (L := 6) (c := 79) (i := 3) (Lc := 6) (ix := 3) y3 (by omega) r3 rfl (by omega) rfl (by omega) rfl (by omega) rfl]
  generalize hm4 : pz_R (zq_new m3 79) 75 3 79 = m4
  have y4 : m4.1 = 80 := by rw [← hm4]; rfl
  have r4 : pz_r m4 0 2 = some 75 := by rw [← hm4, pz_R_r, if_neg (by omega), zn_r, if_neg (by omega)]; exact r3
  rw [e_st (h := m4) (f := 2) (p := 75) (L := 6) (c := 80) (i := 4) (Lc := 6) (ix := 4) y4 (by omega) r4 rfl (by omega) rfl (by omega) rfl (by omega) rfl]
  generalize hm5 : pz_R (zq_new m4 80) 75 4 80 = m5
  have y5 : m5.1 = 81 := by rw [← hm5]; rfl
  have r5 : pz_r m5 0 2 = some 75 := by rw [← hm5, pz_R_r, if_neg (by omega), zn_r, if_neg (by omega)]; exact r4
  rw [e_st (h := m5) (f := 2) (p := 75) (L := 6) (c := 81) (i := 5) (Lc := 6) (ix := 5) y5 (by omega) r5 rfl (by omega) rfl (by omega) rfl (by omega) rfl]
  generalize hm6 : pz_R (zq_new m5 81) 75 5 81 = m6
  have y6 : m6.1 = 82 := by rw [← hm6]; rfl
  have r6 : pz_r m6 0 2 = some 75 := by rw [← hm6, pz_R_r, if_neg (by omega), zn_r, if_neg (by omega)]; exact r5
  refine hk m6 y6 ⟨by omega, fun a ha h0 j => ?_, fun j => ?_, fun j hj => ?_⟩ r6 (fun i hi => ?_)
  · rw [← hm6, ← hm5, ← hm4, ← hm3, ← hm2, ← hm1, ← hm0]
    simp only [pz_R_i, pz_R_j, pz_R_r, zn_i, zn_j, zn_r]
    simp only [if_neg (show ¬ (a = 0 ∧ j = 2) by omega), if_neg (show ¬ a = 75 by omega), if_neg (show ¬ a = 76 by omega), if_neg (show ¬ a = 77 by omega), if_neg (show ¬ a = 78 by omega), if_neg (show ¬ a = 79 by omega), if_neg (show ¬ a = 80 by omega), if_neg (show ¬ a = 81 by omega), if_neg (show ¬ (a = 75 ∧ j = 0) by omega), if_neg (show ¬ (a = 75 ∧ j = 1) by omega), if_neg (show ¬ (a = 75 ∧ j = 2) by omega), if_neg (show ¬ (a = 75 ∧ j = 3) by omega), if_neg (show ¬ (a = 75 ∧ j = 4) by omega), if_neg (show ¬ (a = 75 ∧ j = 5) by omega)]
    exact ⟨trivial, trivial, trivial⟩
  · rw [← hm6, ← hm5, ← hm4, ← hm3, ← hm2, ← hm1, ← hm0]
    simp [pz_R_i, zn_i]
  · rw [← hm6, ← hm5, ← hm4, ← hm3, ← hm2, ← hm1, ← hm0]
    simp [pz_R_r, zn_r, hj]
  · rw [← hm6, ← hm5, ← hm4, ← hm3, ← hm2, ← hm1, ← hm0]
    have : i = 0 ∨ i = 1 ∨ i = 2 ∨ i = 3 ∨ i = 4 ∨ i = 5 := by omega
    rcases this with rfl | rfl | rfl | rfl | rfl | rfl
    all_goals simp [pz_R_r, zn_r]
theorem x_snaps (h1 : h.1 = 82) {k : zq_H → Option α} (hk : ∀ h', h'.1 = 85 → pz_fz 82 4 h h' → pz_r h' 0 4 = some 82 → (∀ i, i < 2 → pz_r h' 82 i = some (83 + i) ∧ pz_r h' (83 + i) 0 = none) → ∃ y, k h' = some y ∧ Q y) :
    ∃ y, (Option.bind (zq_na h 82 13 2 2) fun h_230 => (Option.bind (zq_pr h_230 0 5 4 82) fun h_232 => (zq_is (zq_gr h_232 0 5 4) 82 fun _ => (zq_is (zq_an h_232 82) 2 fun _ => (zq_is (zq_gr h_232 0 5 4) 82 fun _ => (Option.bind (zq_nw1 h_232 83 3) fun h_241 => (Option.bind (f_X3_init h_241 83) fun v_243 => (Option.bind (zq_sq h_241 82 13 3 0 83) fun h_245 => (zq_is (zq_gr h_245 0 5 4) 82 fun _ => (zq_is (zq_an h_245 82) 2 fun _ => (zq_is (zq_gr h_245 0 5 4) 82 fun _ => (Option.bind (zq_nw1 h_245 84 3) fun h_254 => (Option.bind (f_X3_init h_254 84) fun v_256 => (Option.bind (zq_sq h_254 82 13 3 1 84) k)))))))))))))) = some y ∧ Q y := by
  generalize hm0 : pz_R (zq_new h 82) 0 4 82 = m0
  have y0 : m0.1 = 83 := by rw [← hm0]; rfl
  have r0 : pz_r m0 0 4 = some 82 := by rw [← hm0, pz_R_r, if_pos ⟨rfl, rfl⟩]
  have n0 : zq_na h 82 13 2 2 = some (zq_new h 82) := zn_a (L := 2) (B := 2) h1 rfl (by omega) (by omega)
  have n1 : zq_pr (zq_new h 82) 0 5 4 82 = some m0 := by rw [← hm0]; exact pz_pr (by rw [zn_1]; omega) rfl 82
  rw [n0, Option.bind_some, n1, Option.bind_some]
  rw [e_st (h := m0) (f := 4) (p := 82) (L := 2) (c := 83) (i := 0) (Lc := 2) (ix := 0) y0 (by omega) r0 rfl (by omega) rfl (by omega) rfl (by omega) rfl]
  generalize hm1 : pz_R (zq_new m0 83) 82 0 83 = m1
  have y1 : m1.1 = 84 := by rw [← hm1]; rfl
  have r1 : pz_r m1 0 4 = some 82 := by rw [← hm1, pz_R_r, if_neg (by omega), zn_r, if_neg (by omega)]; exact r0
  rw [e_st (h := m1) (f := 4) (p := 82) (L := 2) (c := 84) (i := 1) (Lc := 2) (ix := 1) y1 (by omega) r1 rfl (by omega) rfl (by omega) rfl (by omega) rfl]
  generalize hm2 : pz_R (zq_new m1 84) 82 1 84 = m2
  have y2 : m2.1 = 85 := by rw [← hm2]; rfl
  have r2 : pz_r m2 0 4 = some 82 := by rw [← hm2, pz_R_r, if_neg (by omega), zn_r, if_neg (by omega)]; exact r1
  refine hk m2 y2 ⟨by omega, fun a ha h0 j => ?_, fun j => ?_, fun j hj => ?_⟩ r2 (fun i hi => ?_)
  · rw [← hm2, ← hm1, ← hm0]
    simp only [pz_R_i, pz_R_j, pz_R_r, zn_i, zn_j, zn_r]
    simp only [if_neg (show ¬ (a = 0 ∧ j = 4) by omega), if_neg (show ¬ a = 82 by omega), if_neg (show ¬ a = 83 by omega), if_neg (show ¬ a = 84 by omega), if_neg (show ¬ (a = 82 ∧ j = 0) by omega), if_neg (show ¬ (a = 82 ∧ j = 1) by omega)]
    exact ⟨trivial, trivial, trivial⟩
  · rw [← hm2, ← hm1, ← hm0]
    simp [pz_R_i, zn_i]
  · rw [← hm2, ← hm1, ← hm0]
    simp [pz_R_r, zn_r, hj]
  · rw [← hm2, ← hm1, ← hm0]
    have : i = 0 ∨ i = 1 := by omega
    rcases this with rfl | rfl
    all_goals simp [pz_R_r, zn_r]
end PZK0
