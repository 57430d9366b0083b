/-! a polygon is made: images; all of it -/
section PZP3
variable {h : zq_H} {t g : Nat}
theorem zn_1 (h : zq_H) (n : Nat) : (zq_new h n).1 = n + 1 := rfl
theorem zn_i (h : zq_H) (n a j : Nat) : pz_i (zq_new h n) a j = if a = n then 0 else pz_i h a j := by
  unfold pz_i zq_new zq_row
  by_cases q : a = n
  · simp only [if_pos q]
  · simp only [if_neg q]
theorem zn_j (h : zq_H) (n a j : Nat) : pz_j (zq_new h n) a j = if a = n then 0 else pz_j h a j := by
  unfold pz_j zq_new zq_row
  by_cases q : a = n
  · simp only [if_pos q]
  · simp only [if_neg q]
theorem zn_r (h : zq_H) (n a j : Nat) : pz_r (zq_new h n) a j = if a = n then none else pz_r h a j := by
  unfold pz_r zq_new zq_row
  by_cases q : a = n
  · simp only [if_pos q]
  · simp only [if_neg q]
theorem zn_a {n c B L : Nat} (h1 : h.1 = n) (hs : zq_sh n = (c, L)) (hL : L ≤ B) (hB : B < 2147483648) : zq_na h n c B (nI L) = some (zq_new h n) := by
  unfold zq_na
  rw [hs, nI_clamp (by omega)]
  exact if_pos ⟨h1, rfl, nI_pos (by omega), rfl, hL⟩
theorem zn_w {n c : Nat} (h1 : h.1 = n) (hs : (zq_sh n).1 = c) : zq_nw1 h n c = some (zq_new h n) := if_pos ⟨h1, hs⟩
/-- all below n is the same, and nothing is lost -/
def pz_gw (n : Nat) (h h' : zq_H) : Prop := h.1 ≤ h'.1 ∧ ∀ a, a < n → ∀ j, pz_i h' a j = pz_i h a j ∧ pz_j h' a j = pz_j h a j ∧ pz_r h' a j = pz_r h a j
theorem pz_gw.rf {n : Nat} : pz_gw n h h := ⟨Nat.le_refl _, fun _ _ _ => ⟨rfl, rfl, rfl⟩⟩
theorem pz_gw.tr {n : Nat} {a b c : zq_H} (h1 : pz_gw n a b) (h2 : pz_gw n b c) : pz_gw n a c := ⟨Nat.le_trans h1.1 h2.1, fun x hx j => ⟨((h2.2 x hx j).1).trans (h1.2 x hx j).1, ((h2.2 x hx j).2.1).trans (h1.2 x hx j).2.1, ((h2.2 x hx j).2.2).trans (h1.2 x hx j).2.2⟩⟩
theorem pz_gw.mono {n m : Nat} {a b : zq_H} (h1 : pz_gw n a b) (hm : m ≤ n) : pz_gw m a b := ⟨h1.1, fun x hx => h1.2 x (by omega)⟩
theorem pz_gw.i {n : Nat} {a b : zq_H} (h1 : pz_gw n a b) {x : Nat} (hx : x < n) (j : Nat) : pz_i b x j = pz_i a x j := (h1.2 x hx j).1
theorem pz_gw.r {n : Nat} {a b : zq_H} (h1 : pz_gw n a b) {x : Nat} (hx : x < n) (j : Nat) : pz_r b x j = pz_r a x j := (h1.2 x hx j).2.2
theorem pz_gw.new {n m : Nat} (hm : h.1 = m) (hn : n ≤ m) : pz_gw n h (zq_new h m) := ⟨by rw [zn_1]; omega, fun x hx j => ⟨by rw [zn_i, if_neg (by omega)], by rw [zn_j, if_neg (by omega)], by rw [zn_r, if_neg (by omega)]⟩⟩
theorem pz_gw.S {n a j : Nat} {v : Int32} (hn : n ≤ a) : pz_gw n h (pz_S h a j v) := ⟨Nat.le_refl _, fun x hx k => ⟨by rw [pz_S_i, if_neg (by omega)], rfl, rfl⟩⟩
theorem pz_gw.R {n a j v : Nat} (hn : n ≤ a) : pz_gw n h (pz_R h a j v) := ⟨Nat.le_refl _, fun x hx k => ⟨rfl, rfl, by rw [pz_R_r, if_neg (by omega)]⟩⟩
theorem pz_pf.gw {h' : zq_H} (l : pz_pf t h h') : pz_gw (t + 1) h h' := ⟨by rw [l.1]; exact Nat.le_refl _, fun x hx j => ⟨l.2.2 x j (by omega), by unfold pz_j; rw [l.2.1], by unfold pz_r; rw [l.2.1]⟩⟩
/-- the numbers stand -/
def pz_Nn (h : zq_H) (t g : Nat) : Prop := ∀ x y, x < g + 4 → y < g + 4 → pz_i h (t + 3) (x * (g + 4) + y) = nI (pz_num g x y)
theorem o_isCorner (P : pz_P0 h t g) {x : Nat} (hx : x < g + 4) : f_X1_isCorner h t (nI x) = some true := by
  have hg := P.1.1
  unfold f_X1_isCorner
  rw [if_neg (nI_pos (by omega)), oq_0 P, Option.bind_some, if_neg (nI_ge hx (by omega))]
theorem o_numberOf (P : pz_P0 h t g) (U : pz_Nn h t g) {x y : Nat} (hx : x < g + 4) (hy : y < g + 4) : f_X1_numberOf h t (nI x) (nI y) = some (nI (pz_num g x y)) := by
  unfold f_X1_numberOf
  rw [oq_ck P, o_isCorner P hx, Option.bind_some, if_neg (by simp), oq_ck P, o_isCorner P hy, Option.bind_some, if_neg (by simp), oq_4 P, Option.bind_some, oq_0 P, Option.bind_some, pk_mul, nI_add, oa_3 P hx hy, U x y hx hy]
  rfl
def pz_p67 (t : Nat) (h h' : zq_H) : Prop := h'.1 = h.1 ∧ h'.2.2 = h.2.2 ∧ ∀ a j, a ≠ t + 6 → a ≠ t + 7 → pz_i h' a j = pz_i h a j
theorem pz_p67.tr {a b c : zq_H} (h1 : pz_p67 t a b) (h2 : pz_p67 t b c) : pz_p67 t a c := ⟨h2.1.trans h1.1, h2.2.1.trans h1.2.1, fun x j k l => (h2.2.2 x j k l).trans (h1.2.2 x j k l)⟩
theorem pz_p67.pf {h' : zq_H} (l : pz_p67 t h h') : pz_pf t h h' := ⟨l.1, l.2.1, fun a j q => l.2.2 a j (by omega) (by omega)⟩
theorem pz_p67.S6 {j : Nat} {v : Int32} : pz_p67 t h (pz_S h (t + 6) j v) := ⟨rfl, rfl, fun a b q _ => by rw [pz_S_i, if_neg (fun r => q r.1)]⟩
theorem pz_p67.S7 {j : Nat} {v : Int32} : pz_p67 t h (pz_S h (t + 7) j v) := ⟨rfl, rfl, fun a b _ q => by rw [pz_S_i, if_neg (fun r => q r.1)]⟩
theorem pz_im_n (hg : g < 6) {d : Nat} (hd : d < pz_nd g) : (pz_dg g d + 1 < g + 4 → pz_num g (pz_dl g d + 1) (pz_dg g d + 1) = pz_tp g d) ∧ (¬ pz_dg g d + 1 < g + 4 → pz_num g 0 (pz_dl g d + 1) = pz_tp g d) ∧ pz_num g (g + 3 - pz_dg g d) (g + 3 - pz_dl g d) = pz_mp g d := by
  obtain ⟨-, a2, a3, -⟩ := pz_dia hg hd
  obtain ⟨-, -, b1, b2⟩ := pz_turns hg hd
  have c1 : pz_tp g d = pz_rn g ((pz_dl g d + 1) % (g + 4)) ((pz_dg g d + 1) % (g + 4)) := b2 1 (by omega)
  rw [Nat.mod_eq_of_lt (show pz_dl g d + 1 < g + 4 by omega)] at c1
  refine ⟨fun q => ?_, fun q => ?_, ?_⟩
  · rw [Nat.mod_eq_of_lt q] at c1
    rw [c1, pz_rn, if_neg (by omega)]
  · have e : pz_dg g d + 1 = g + 4 := by omega
    rw [e, Nat.mod_self] at c1
    rw [c1, pz_rn, if_pos (by omega)]
  · rw [← b1, pz_rn, if_pos (by omega)]
theorem s_findImages (P : pz_P0 h t g) (N : pz_Nf h t g) (U : pz_Nn h t g) : ∃ h', f_X1_findImages h t = some h' ∧ pz_p67 t h h' ∧ ∀ d, d < pz_nd g → pz_i h' (t + 6) d = nI (pz_tp g d) ∧ pz_i h' (t + 7) d = nI (pz_mp g d) := by
  have hg := P.1.1
  have hnd := pz_nd_le hg
  unfold f_X1_findImages
  refine pz_lpIB (fun i s => s.1 = nI i ∧ pz_p67 t h s.2 ∧ ∀ d, d < i → pz_i s.2 (t + 6) d = nI (pz_tp g d) ∧ pz_i s.2 (t + 7) d = nI (pz_mp g d)) (pz_nd g) (fun h' => pz_p67 t h h' ∧ ∀ d, d < pz_nd g → pz_i h' (t + 6) d = nI (pz_tp g d) ∧ pz_i h' (t + 7) d = nI (pz_mp g d)) (fun h' q => ⟨h', rfl, q.1, q.2⟩) ⟨rfl, ⟨rfl, rfl, fun _ _ _ _ => rfl⟩, fun d hd => absurd hd (Nat.not_lt_zero _)⟩ ?_ ?_ (by omega)
  · rintro i ⟨x, k0⟩ hi ⟨e1, e2, e3⟩
    simp only at e1 e2 e3
    subst e1
    have P' := P.pf e2.pf
    obtain ⟨i1, i2⟩ := N i hi
    rw [← e2.2.2 (t + 1) i (by omega) (by omega)] at i1
    rw [← e2.2.2 (t + 2) i (by omega) (by omega)] at i2
    have U' : pz_Nn k0 t g := fun x y hx hy => by rw [e2.2.2 (t + 3) _ (by omega) (by omega)]; exact U x y hx hy
    obtain ⟨-, d2, d3, -⟩ := pz_dia hg hi
    obtain ⟨c1, c2, c3⟩ := pz_im_n hg hi
    have ai1 : zq_ai k0 (t + 1) (nI i) = some (nI (pz_dl g i)) := by rw [oa_1 P' hi, i1]
    have ai2 : zq_ai k0 (t + 2) (nI i) = some (nI (pz_dg g i)) := by rw [oa_2 P' hi, i2]
    generalize hk1 : pz_S k0 (t + 6) i (nI (pz_tp g i)) = k1
    have l1 : pz_p67 t k0 k1 := by rw [← hk1]; exact pz_p67.S6
    have P1 := P'.pf l1.pf
    have U1 : pz_Nn k1 t g := fun x y hx hy => by rw [l1.2.2 (t + 3) _ (by omega) (by omega)]; exact U' x y hx hy
    have hm : nI (g + 4) - 1 = nI (g + 3) := by rw [show (1 : Int32) = nI 1 from rfl, pk_sub (by omega)]; rfl
    have n3 : f_X1_numberOf k1 t (nI (g + 4) - 1 - nI (pz_dg g i)) (nI (g + 4) - 1 - nI (pz_dl g i)) = some (nI (pz_mp g i)) := by
      rw [hm, pk_sub (by omega), pk_sub (by omega), o_numberOf P1 U1 (by omega) (by omega), c3]
    refine ⟨(nI (i + 1), pz_S k1 (t + 7) i (nI (pz_mp g i))), ?_, rfl, (e2.tr l1).tr pz_p67.S7, fun d hd => ?_⟩
    · simp only [oq_1 P', oq_2 P', oq_3 P', oq_7 P', oq_0 P', Option.bind_some, ai1, ai2, nI_1]
      rw [if_neg (nI_ge hi (by omega))]
      by_cases q : pz_dg g i + 1 < g + 4
      · rw [if_neg (nI_ge q (by omega)), oq_ck P', o_numberOf P' U' (by omega) q, c1 q, Option.bind_some, os_6 P' hi, Option.bind_some, hk1, oq_8 P1, Option.bind_some, oq_0 P1, Option.bind_some, Option.bind_some, oq_ck P1, n3, Option.bind_some, os_7 P1 hi, Option.bind_some]
        rfl
      · rw [if_pos (nI_le (by omega) (by omega)), oq_ck P', show (0 : Int32) = nI 0 from rfl, o_numberOf P' U' (by omega) (by omega), c2 q, Option.bind_some, os_6 P' hi, Option.bind_some, hk1, oq_8 P1, Option.bind_some, oq_0 P1, Option.bind_some, Option.bind_some, oq_ck P1, n3, Option.bind_some, os_7 P1 hi, Option.bind_some]
        rfl
    · rw [pz_S_i, if_neg (by omega), pz_S_i, ← hk1, pz_S_i, pz_S_i]
      by_cases q : d = i
      · subst q
        rw [if_pos ⟨rfl, rfl⟩, if_pos ⟨rfl, rfl⟩]
        exact ⟨rfl, rfl⟩
      · rw [if_neg (fun r => q r.2), if_neg (fun r => q r.2), if_neg (by omega)]
        exact e3 d (by omega)
  · rintro ⟨x, k0⟩ ⟨e1, e2, e3⟩
    simp only at e1 e2 e3
    subst e1
    have P' := P.pf e2.pf
    refine ⟨k0, ?_, e2, e3⟩
    simp only [oq_1 P', Option.bind_some]
    rw [if_pos (nI_le (Nat.le_refl _) (by omega))]
theorem pz_nd_I : ∀ g, g < 6 → nI (g + 4) * (nI (g + 4) - 3) / 2 = nI (pz_nd g) := by decide +kernel
theorem s_polygon (S : pz_Sg g t) (h1 : h.1 = t + 1) : ∃ h', f_X1_init h t (nI (g + 4)) = some h' ∧ pz_Pt h' t g ∧ h'.1 = t + 8 ∧ pz_gw t h h' := by
  have hg := S.1
  have hnd := pz_nd_le hg
  obtain ⟨s0, s1, s2, s3, s4, s5, s6, s7, s8⟩ := id S
  have c1 : (zq_sh t).1 = 1 := by rw [s1]
  have hsq : (g + 4) * (g + 4) ≤ 81 := (pz_sq_lt hg (show 0 < g + 4 by omega) (show 0 < g + 4 by omega)).2
  generalize hk2 : pz_S (pz_S h t 0 (nI (g + 4))) t 1 (nI (pz_nd g)) = k2
  have a2 : k2.1 = t + 1 := by rw [← hk2]; exact h1
  have b2 : pz_i k2 t 0 = nI (g + 4) ∧ pz_i k2 t 1 = nI (pz_nd g) := by rw [← hk2]; simp [pz_S_i]
  have l2 : pz_gw t h k2 := by rw [← hk2]; exact (pz_gw.S (Nat.le_refl _)).tr (pz_gw.S (Nat.le_refl _))
  generalize hk4 : pz_R (zq_new k2 (t + 1)) t 2 (t + 1) = k4
  have a4 : k4.1 = t + 2 := by rw [← hk4]; rfl
  have b4 : ∀ j, pz_i k4 t j = pz_i k2 t j := fun j => by rw [← hk4, pz_R_i, zn_i, if_neg (by omega)]
  have l4 : pz_gw t k2 k4 := by rw [← hk4]; exact (pz_gw.new a2 (by omega)).tr (pz_gw.R (Nat.le_refl _))
  generalize hk6 : pz_R (zq_new k4 (t + 2)) t 3 (t + 2) = k6
  have a6 : k6.1 = t + 3 := by rw [← hk6]; rfl
  have b6 : ∀ j, pz_i k6 t j = pz_i k2 t j := fun j => by rw [← hk6, pz_R_i, zn_i, if_neg (by omega), b4]
  have l6 : pz_gw t k4 k6 := by rw [← hk6]; exact (pz_gw.new a4 (by omega)).tr (pz_gw.R (Nat.le_refl _))
  generalize hk8 : pz_R (zq_new k6 (t + 3)) t 4 (t + 3) = k8
  have a8 : k8.1 = t + 4 := by rw [← hk8]; rfl
  have b8 : ∀ j, pz_i k8 t j = pz_i k2 t j := fun j => by rw [← hk8, pz_R_i, zn_i, if_neg (by omega), b6]
  have l8 : pz_gw t k6 k8 := by rw [← hk8]; exact (pz_gw.new a6 (by omega)).tr (pz_gw.R (Nat.le_refl _))
  generalize hk10 : pz_R (zq_new k8 (t + 4)) t 5 (t + 4) = k10
  have a10 : k10.1 = t + 5 := by rw [← hk10]; rfl
  have b10 : ∀ j, pz_i k10 t j = pz_i k2 t j := fun j => by rw [← hk10, pz_R_i, zn_i, if_neg (by omega), b8]
  have l10 : pz_gw t k8 k10 := by rw [← hk10]; exact (pz_gw.new a8 (by omega)).tr (pz_gw.R (Nat.le_refl _))
  generalize hk12 : pz_R (zq_new k10 (t + 5)) t 6 (t + 5) = k12
  have a12 : k12.1 = t + 6 := by rw [← hk12]; rfl
  have b12 : ∀ j, pz_i k12 t j = pz_i k2 t j := fun j => by rw [← hk12, pz_R_i, zn_i, if_neg (by omega), b10]
  have l12 : pz_gw t k10 k12 := by rw [← hk12]; exact (pz_gw.new a10 (by omega)).tr (pz_gw.R (Nat.le_refl _))
  generalize hk14 : pz_R (zq_new k12 (t + 6)) t 7 (t + 6) = k14
  have a14 : k14.1 = t + 7 := by rw [← hk14]; rfl
  have b14 : ∀ j, pz_i k14 t j = pz_i k2 t j := fun j => by rw [← hk14, pz_R_i, zn_i, if_neg (by omega), b12]
  have l14 : pz_gw t k12 k14 := by rw [← hk14]; exact (pz_gw.new a12 (by omega)).tr (pz_gw.R (Nat.le_refl _))
  generalize hk16 : pz_R (zq_new k14 (t + 7)) t 8 (t + 7) = k16
  have a16 : k16.1 = t + 8 := by rw [← hk16]; rfl
  have b16 : ∀ j, pz_i k16 t j = pz_i k2 t j := fun j => by rw [← hk16, pz_R_i, zn_i, if_neg (by omega), b14]
  have l16 : pz_gw t k14 k16 := by rw [← hk16]; exact (pz_gw.new a14 (by omega)).tr (pz_gw.R (Nat.le_refl _))
  have z4 : ∀ j, pz_i k16 (t + 4) j = 0 := fun j => by
    rw [← hk16, pz_R_i, zn_i, if_neg (by omega), ← hk14, pz_R_i, zn_i, if_neg (by omega), ← hk12, pz_R_i, zn_i, if_neg (by omega), ← hk10, pz_R_i, zn_i, if_pos rfl]
  have z5 : ∀ j, pz_i k16 (t + 5) j = 0 := fun j => by
    rw [← hk16, pz_R_i, zn_i, if_neg (by omega), ← hk14, pz_R_i, zn_i, if_neg (by omega), ← hk12, pz_R_i, zn_i, if_pos rfl]
  have rr : pz_r k16 t 2 = some (t + 1) ∧ pz_r k16 t 3 = some (t + 2) ∧ pz_r k16 t 4 = some (t + 3) ∧ pz_r k16 t 5 = some (t + 4) ∧ pz_r k16 t 6 = some (t + 5) ∧ pz_r k16 t 7 = some (t + 6) ∧ pz_r k16 t 8 = some (t + 7) := by
    rw [← hk16, ← hk14, ← hk12, ← hk10, ← hk8, ← hk6, ← hk4]
    simp [pz_R_r, zn_r]
  have P : pz_P0 k16 t g := ⟨S, by omega, by rw [b16]; exact b2.1, by rw [b16]; exact b2.2, rr⟩
  obtain ⟨m1, e1, e2, e3⟩ := s_nameDiagonals P (fun c _ => z4 c)
  have P1 := P.pf e2.1
  obtain ⟨-, q2, -⟩ := pz_cb_e hg
  obtain ⟨n1, n2, n3⟩ := e3
  rw [q2] at n1 n3
  have N1 : pz_Nf m1 t g := n1
  obtain ⟨m2, f1, f2, f3⟩ := s_findCrossings P1 N1 (fun d _ => by rw [e2.2 (t + 5) d (by omega) (by omega), z5])
  have P2 := P1.pf f2.pf
  have U2 : pz_Nn m2 t g := fun x y hx hy => by rw [f2.2.2 (t + 3) _ (by omega), n2 x y hx hy, if_pos (Or.inl hx)]
  obtain ⟨m3, g1, g2, g3⟩ := s_findImages P2 (N1.p5 f2) U2
  have P3 := P2.pf g2.pf
  have lz : pz_gw t k16 m3 := ((e2.1.gw.tr f2.pf.gw).tr g2.pf.gw).mono (by omega)
  refine ⟨m3, ?_, ⟨P3.1, P3.2.1, P3.2.2.1, P3.2.2.2.1, P3.2.2.2.2, fun d hd => ?_, fun k hk => ?_, fun c hc => ?_⟩, ?_, (((((((l2.tr l4).tr l6).tr l8).tr l10).tr l12).tr l14).tr l16).tr lz⟩
  · unfold f_X1_init
    rw [pz_pi (by omega) c1, Option.bind_some, pz_nd_I g hg, pz_pi (by rw [pz_S_1]; omega) c1, Option.bind_some, hk2, pz_gi (by omega) c1, b2.2, Option.bind_some, zn_a (B := 27) a2 s2 (by omega) (by omega), Option.bind_some, pz_pr (by rw [zn_1]; omega) c1, Option.bind_some, hk4, pz_gi (by omega) c1, b4, b2.2, Option.bind_some, zn_a (B := 27) a4 s3 (by omega) (by omega), Option.bind_some, pz_pr (by rw [zn_1]; omega) c1, Option.bind_some, hk6, pk_mul, zn_a (B := 81) a6 s4 hsq (by omega), Option.bind_some, pz_pr (by rw [zn_1]; omega) c1, Option.bind_some, hk8, zn_a (B := 9) a8 s5 (by omega) (by omega), Option.bind_some, pz_pr (by rw [zn_1]; omega) c1, Option.bind_some, hk10, pz_gi (by omega) c1, b10, b2.2, Option.bind_some, zn_a (B := 27) a10 s6 (by omega) (by omega), Option.bind_some, pz_pr (by rw [zn_1]; omega) c1, Option.bind_some, hk12, pz_gi (by omega) c1, b12, b2.2, Option.bind_some, zn_a (B := 27) a12 s7 (by omega) (by omega), Option.bind_some, pz_pr (by rw [zn_1]; omega) c1, Option.bind_some, hk14, pz_gi (by omega) c1, b14, b2.2, Option.bind_some, zn_a (B := 27) a14 s8 (by omega) (by omega), Option.bind_some, pz_pr (by rw [zn_1]; omega) c1, Option.bind_some, hk16, oq_ck P, e1, Option.bind_some, oq_ck P1, f1, Option.bind_some, oq_ck P2, g1]
    rfl
  · obtain ⟨v1, v2⟩ := (N1.p5 f2) d hd
    obtain ⟨v3, v4⟩ := g3 d hd
    rw [← g2.2.2 (t + 1) d (by omega) (by omega)] at v1
    rw [← g2.2.2 (t + 2) d (by omega) (by omega)] at v2
    refine ⟨v1, v2, ?_, v3, v4⟩
    rw [g2.2.2 (t + 5) d (by omega) (by omega)]
    exact f3 d hd
  · have y1 : k % (g + 4) < g + 4 := Nat.mod_lt _ (by omega)
    have y2 : k / (g + 4) < g + 4 := Nat.div_lt_of_lt_mul hk
    have y3 := U2 (k / (g + 4)) (k % (g + 4)) y2 y1
    have y4 : k / (g + 4) * (g + 4) + k % (g + 4) = k := by rw [Nat.mul_comm]; exact Nat.div_add_mod k (g + 4)
    unfold pz_num at y3
    rw [y4] at y3
    rw [g2.2.2 (t + 3) k (by omega) (by omega)]
    exact y3
  · rw [g2.2.2 (t + 4) c (by omega) (by omega), f2.2.2 (t + 4) c (by omega), n3 c hc, Nat.eq_of_beq_eq_true (pz_al_e (pz_K26 g hg) c hc)]
  · rw [g2.1, f2.1, e2.1.1]
    exact a16
end PZP3
