/-! the reference lays its diagonals, and finds all triangulations -/
/-- how many diagonals are told ahead of (a, b) -/
def pz_cbk (g a b : Nat) : Nat → Nat
  | 0 => 0
  | d + 1 => pz_cbk g a b d + (bif pz_lt (pz_dl g d) a || (Nat.beq (pz_dl g d) a && pz_lt (pz_dg g d) b) then 1 else 0)
def pz_cb (g a b : Nat) : Nat := pz_cbk g a b (pz_nd g)
def pz_k17 (g : Nat) : Bool := Nat.beq (pz_cb g 0 2) 0 && Nat.beq (pz_cb g (g + 4) (g + 6)) (pz_nd g) && pz_al (fun a => Nat.beq (pz_cb g a (max (g + 4) (a + 2))) (pz_cb g (a + 1) (a + 3)) && pz_al (fun y => Nat.beq (pz_num g a y) pz_X) (min (a + 2) (g + 4)) &&
  pz_al (fun b => pz_lt b (a + 2) || (bif pz_lt (b - a) (g + 3) then Nat.beq (pz_num g a b) (pz_cb g a b) && Nat.beq (pz_cb g a (b + 1)) (pz_cb g a b + 1) && pz_lt (pz_cb g a b) (pz_nd g) && Nat.beq (pz_dl g (pz_cb g a b)) a && Nat.beq (pz_dg g (pz_cb g a b)) b else Nat.beq (pz_cb g a (b + 1)) (pz_cb g a b) && Nat.beq (pz_num g a b) pz_X)) (g + 4)) (g + 4)
theorem pz_K17 : ∀ g, g < 6 → pz_k17 g = true := by decide +kernel
theorem pz_cb_e {g : Nat} (hg : g < 6) : pz_cb g 0 2 = 0 ∧ pz_cb g (g + 4) (g + 6) = pz_nd g ∧ ∀ a, a < g + 4 → pz_cb g a (max (g + 4) (a + 2)) = pz_cb g (a + 1) (a + 3) ∧ (∀ y, y < a + 2 → y < g + 4 → pz_num g a y = pz_X) ∧
    ∀ b, a + 2 ≤ b → b < g + 4 → (b - a < g + 3 → pz_num g a b = pz_cb g a b ∧ pz_cb g a (b + 1) = pz_cb g a b + 1 ∧ pz_cb g a b < pz_nd g ∧ pz_dl g (pz_cb g a b) = a ∧ pz_dg g (pz_cb g a b) = b) ∧ (¬ b - a < g + 3 → pz_cb g a (b + 1) = pz_cb g a b ∧ pz_num g a b = pz_X) := by
  have h := pz_K17 g hg
  unfold pz_k17 at h
  simp only [Bool.and_eq_true] at h
  obtain ⟨⟨h1, h2⟩, h3⟩ := h
  refine ⟨Nat.eq_of_beq_eq_true h1, Nat.eq_of_beq_eq_true h2, fun a ha => ?_⟩
  have h := pz_al_e h3 a ha
  simp only [Bool.and_eq_true] at h
  obtain ⟨⟨h4, h5⟩, h6⟩ := h
  refine ⟨Nat.eq_of_beq_eq_true h4, fun y h7 h8 => Nat.eq_of_beq_eq_true (pz_al_e h5 y (by omega)), fun b hb hb2 => ?_⟩
  have h := pz_al_e h6 b hb2
  have hn : pz_lt b (a + 2) = false := by
    cases e : pz_lt b (a + 2) with
    | false => rfl
    | true => have := pz_lt_e e; omega
  rw [hn, Bool.false_or] at h
  constructor
  · intro q
    have hq : pz_lt (b - a) (g + 3) = true := Nat.ble_eq_true_of_le q
    rw [hq, cond_true] at h
    simp only [Bool.and_eq_true] at h
    obtain ⟨⟨⟨⟨k1, k2⟩, k3⟩, k4⟩, k5⟩ := h
    exact ⟨Nat.eq_of_beq_eq_true k1, Nat.eq_of_beq_eq_true k2, pz_lt_e k3, Nat.eq_of_beq_eq_true k4, Nat.eq_of_beq_eq_true k5⟩
  · intro q
    have hq : pz_lt (b - a) (g + 3) = false := by
      cases e : pz_lt (b - a) (g + 3) with
      | false => rfl
      | true => have := pz_lt_e e; omega
    rw [hq, cond_false] at h
    simp only [Bool.and_eq_true] at h
    exact ⟨Nat.eq_of_beq_eq_true h.1, Nat.eq_of_beq_eq_true h.2⟩
/-- only the reference's tables differ -/
def pz_lg (h h' : zq_H) : Prop := h'.1 = h.1 ∧ h'.2.2 = h.2.2 ∧ ∀ a j, (a < 104 ∨ (105 ≤ a ∧ a ≤ 109) ∨ 118 ≤ a ∨ (a = 104 ∧ j ≠ 9 ∧ j ≠ 13 ∧ j ≠ 16 ∧ j ≠ 17)) → pz_i h' a j = pz_i h a j
theorem pz_lg.rf {h : zq_H} : pz_lg h h := ⟨rfl, rfl, fun _ _ _ => rfl⟩
theorem pz_lg.tr {a b c : zq_H} (h1 : pz_lg a b) (h2 : pz_lg b c) : pz_lg a c := ⟨h2.1.trans h1.1, h2.2.1.trans h1.2.1, fun x j k => (h2.2.2 x j k).trans (h1.2.2 x j k)⟩
theorem pz_lg.S {h : zq_H} {a j : Nat} {v : Int32} (ha : (110 ≤ a ∧ a ≤ 117) ∨ (a = 104 ∧ (j = 9 ∨ j = 13 ∨ j = 16 ∨ j = 17))) : pz_lg h (pz_S h a j v) := ⟨rfl, rfl, fun x y k => by
  rw [pz_S_i, if_neg]
  rintro ⟨rfl, rfl⟩
  omega⟩
theorem pz_mg.lg {h h' : zq_H} (H : pz_mg h h') : pz_lg h h' := ⟨H.1, H.2.1, fun a j k => H.2.2 a j (by omega) (by omega) (by omega)⟩
theorem pz_lg.rr {h h' : zq_H} (H : pz_lg h h') (a j : Nat) : pz_r h' a j = pz_r h a j := by unfold pz_r; rw [H.2.1]
theorem pz_Ms.lg {h h' : zq_H} (R : pz_Ms h) (H : pz_lg h h') : pz_Ms h' := by
  unfold pz_Ms
  rw [H.1, H.rr, H.rr, H.rr, H.rr, H.rr, H.rr, H.rr, H.rr, H.rr, H.rr, H.rr, H.rr, H.rr]
  exact R
section PZLD
variable {h : zq_H} {g : Nat}
theorem ms_110 (R : pz_Ms h) {i : Nat} (hi : i < 27) (v : Int32) : zq_si h 110 (nI i) v = some (pz_S h 110 i v) := pz_si (L := 27) (by have := R.1; omega) rfl hi (by omega) v
theorem ms_111 (R : pz_Ms h) {i : Nat} (hi : i < 27) (v : Int32) : zq_si h 111 (nI i) v = some (pz_S h 111 i v) := pz_si (L := 27) (by have := R.1; omega) rfl hi (by omega) v
theorem ms_112 (R : pz_Ms h) {i : Nat} (hi : i < 81) (v : Int32) : zq_si h 112 (nI i) v = some (pz_S h 112 i v) := pz_si (L := 81) (by have := R.1; omega) rfl hi (by omega) v
theorem ms_113 (R : pz_Ms h) {i : Nat} (hi : i < 429) (v : Int32) : zq_si h 113 (nI i) v = some (pz_S h 113 i v) := pz_si (L := 429) (by have := R.1; omega) rfl hi (by omega) v
theorem ms_114 (R : pz_Ms h) {i : Nat} (hi : i < 2574) (v : Int32) : zq_si h 114 (nI i) v = some (pz_S h 114 i v) := pz_si (L := 2574) (by have := R.1; omega) rfl hi (by omega) v
/-- the diagonals told ahead of (a, b) are laid -/
def pz_Dl (h : zq_H) (g a b : Nat) : Prop := pz_i h 105 0 = nI (g + 4) ∧ pz_i h 104 9 = nI (pz_cb g a b) ∧ (∀ d, d < pz_cb g a b → pz_i h 110 d = nI (pz_dl g d) ∧ pz_i h 111 d = nI (pz_dg g d)) ∧ ∀ x y, x < g + 4 → y < g + 4 → pz_i h 112 (9 * x + y) = nI (if x < a ∨ (x = a ∧ y < b) then pz_num g x y else pz_X)
theorem m_layRow (hg : g < 6) (R : pz_Ms h) {a : Nat} (ha : a < g + 4) (H : pz_Dl h g a (a + 2)) {α : Type} {k : zq_H → Option α} {P : α → Prop} (hk : ∀ h', pz_lg h h' → pz_Dl h' g (a + 1) (a + 3) → ∃ y, k h' = some y ∧ P y) :
    ∃ y, (zq_lp (σ := Int32 × zq_H) (ρ := zq_H) (fun s_33 => (Option.bind (zq_gr s_33.2 104 6 0) fun v_41 => (Option.bind (zq_ai s_33.2 v_41 0) fun v_43 => (if v_43 ≤ s_33.1 then some (.inr s_33.2) else (Option.bind (zq_gr s_33.2 104 6 0) fun v_46 => (Option.bind (zq_ai s_33.2 v_46 0) fun v_48 => (if (v_48 - 1) ≤ (s_33.1 - (nI a)) then (zq_let (s_33.1 + 1) fun v_51 => some (.inl (v_51, s_33.2))) else (Option.bind (zq_gr s_33.2 104 6 10) fun v_53 => (Option.bind (zq_gi s_33.2 104 6 9) fun v_55 => (Option.bind (zq_si s_33.2 v_53 v_55 (nI a)) fun h_57 => (Option.bind (zq_gr h_57 104 6 11) fun v_59 => (Option.bind (zq_gi h_57 104 6 9) fun v_61 => (Option.bind (zq_si h_57 v_59 v_61 s_33.1) fun h_63 => (Option.bind (zq_gr h_63 104 6 12) fun v_65 => (Option.bind (zq_gi h_63 104 6 9) fun v_67 => (Option.bind (zq_si h_63 v_65 ((9 * (nI a)) + s_33.1) v_67) fun h_69 => (Option.bind (zq_gi h_69 104 6 9) fun v_71 => (Option.bind (zq_pi h_69 104 6 9 (v_71 + 1)) fun h_73 => (zq_let (s_33.1 + 1) fun v_75 => some (.inl (v_75, h_73))))))))))))))))))))) zq_N (nI (a + 2), h)).bind k = some y ∧ P y := by
  have hnd := pz_nd_le hg
  obtain ⟨-, -, h3⟩ := pz_cb_e hg
  obtain ⟨c1, c2, c3⟩ := h3 a ha
  refine pz_lpIB (fun i s => s.1 = nI (a + 2 + i) ∧ pz_lg h s.2 ∧ pz_Dl s.2 g a (a + 2 + i)) (max (g + 4) (a + 2) - (a + 2)) (fun h' => pz_lg h h' ∧ pz_Dl h' g (a + 1) (a + 3)) (fun h' q => hk h' q.1 q.2) ⟨rfl, pz_lg.rf, H⟩ ?_ ?_ (by omega)
  · rintro i ⟨x, k0⟩ hi ⟨e1, e2, e3⟩
    simp only at e1 e2 e3
    subst e1
    generalize hb : a + 2 + i = b at e3
    have hbn : b < g + 4 := by omega
    have R' := R.lg e2
    obtain ⟨d1, d2, d3, d4⟩ := e3
    have hz : zq_ai k0 105 0 = some (nI (g + 4)) := by rw [mq_z0 R', d1]
    obtain ⟨c4, c5⟩ := c3 b (by omega) hbn
    rw [show a + 2 + (i + 1) = b + 1 by omega]
    simp only [mq_0 R', Option.bind_some, hz]
    rw [if_neg (nI_ge hbn (by omega)), show (1 : Int32) = nI 1 from rfl, pk_sub (by omega), pk_sub (by omega), show g + 4 - 1 = g + 3 from rfl]
    by_cases q : b - a < g + 3
    · obtain ⟨k1, k2, k3, k4, k5⟩ := c4 q
      generalize hm1 : pz_S k0 110 (pz_cb g a b) (nI a) = m1
      generalize hm2 : pz_S m1 111 (pz_cb g a b) (nI b) = m2
      generalize hm3 : pz_S m2 112 (9 * a + b) (nI (pz_cb g a b)) = m3
      have l1 : pz_lg k0 m1 := by rw [← hm1]; exact pz_lg.S (by omega)
      have l2 : pz_lg k0 m2 := l1.tr (by rw [← hm2]; exact pz_lg.S (by omega))
      have l3 : pz_lg k0 m3 := l2.tr (by rw [← hm3]; exact pz_lg.S (by omega))
      have R1 := R'.lg l1
      have R2 := R'.lg l2
      have R3 := R'.lg l3
      have e9 : ∀ x, pz_i m3 104 x = pz_i k0 104 x := fun x => by
        rw [← hm3, pz_S_i, if_neg (by omega), ← hm2, pz_S_i, if_neg (by omega), ← hm1, pz_S_i, if_neg (by omega)]
      have e91 : pz_i m1 104 9 = pz_i k0 104 9 := by rw [← hm1, pz_S_i, if_neg (by omega)]
      have e92 : pz_i m2 104 9 = pz_i k0 104 9 := by rw [← hm2, pz_S_i, if_neg (by omega), e91]
      refine ⟨(nI (b + 1), pz_S m3 104 9 (nI (pz_cb g a b + 1))), ?_, rfl, e2.tr (l3.tr (pz_lg.S (by omega))), ?_⟩
      · rw [if_neg (nI_ge (by omega) (by omega)), mq_10 R', Option.bind_some, mq_i R', d2, Option.bind_some, ms_110 R' (by omega), Option.bind_some, hm1, mq_11 R1, Option.bind_some, mq_i R1, e91, d2, Option.bind_some, ms_111 R1 (by omega), Option.bind_some, hm2, mq_12 R2, Option.bind_some, mq_i R2, e92, d2, Option.bind_some, show (9 : Int32) = nI 9 from rfl, pk_mul, nI_add, ms_112 R2 (by omega), Option.bind_some, hm3, mq_i R3, e9, d2, Option.bind_some, nI_add, mq_p R3, Option.bind_some]
        simp only [zq_let, nI_add]
      · refine ⟨?_, ?_, fun d hd => ?_, fun x y hx hy => ?_⟩
        · rw [pz_S_i, if_neg (by omega), l3.2.2 105 0 (by omega)]; exact d1
        · rw [pz_S_i, if_pos ⟨rfl, rfl⟩, k2]
        · rw [k2] at hd
          rw [pz_S_i, if_neg (by omega), pz_S_i, if_neg (by omega), ← hm3, pz_S_i, if_neg (by omega), pz_S_i, if_neg (by omega), ← hm2, pz_S_i, if_neg (by omega), ← hm1, pz_S_i, pz_S_i]
          by_cases qd : d = pz_cb g a b
          · subst qd
            rw [if_pos ⟨rfl, rfl⟩, if_pos ⟨rfl, rfl⟩, k4, k5]
            exact ⟨rfl, rfl⟩
          · rw [if_neg (fun r => qd r.2), if_neg (fun r => qd r.2), pz_S_i, if_neg (by omega)]
            exact d3 d (by omega)
        · rw [pz_S_i, if_neg (by omega), ← hm3, pz_S_i]
          by_cases qx : x = a ∧ y = b
          · obtain ⟨qx1, qx2⟩ := qx
            subst qx1; subst qx2
            rw [if_pos ⟨rfl, rfl⟩, if_pos (by omega), k1]
          · rw [if_neg (by omega), ← hm2, pz_S_i, if_neg (by omega), ← hm1, pz_S_i, if_neg (by omega), d4 x y hx hy]
            by_cases qc : x < a ∨ (x = a ∧ y < b)
            · rw [if_pos qc, if_pos (by omega)]
            · rw [if_neg qc, if_neg (by omega)]
    · obtain ⟨k1, k2⟩ := c5 q
      rw [if_pos (nI_le (by omega) (by omega))]
      refine ⟨(nI (b + 1), k0), by simp only [zq_let, nI_add], rfl, e2, d1, by rw [k1]; exact d2, fun d hd => d3 d (by rw [k1] at hd; exact hd), fun x y hx hy => ?_⟩
      rw [d4 x y hx hy]
      by_cases qx : x = a ∧ y = b
      · obtain ⟨qx1, qx2⟩ := qx
        subst qx1; subst qx2
        rw [if_neg (by omega), if_pos (by omega), k2]
      · by_cases qc : x < a ∨ (x = a ∧ y < b)
        · rw [if_pos qc, if_pos (by omega)]
        · rw [if_neg qc, if_neg (by omega)]
  · rintro ⟨x, k0⟩ ⟨e1, e2, e3⟩
    simp only at e1 e2 e3
    subst e1
    have R' := R.lg e2
    have hz : zq_ai k0 105 0 = some (nI (g + 4)) := by rw [mq_z0 R', e3.1]
    rw [show a + 2 + (max (g + 4) (a + 2) - (a + 2)) = max (g + 4) (a + 2) by omega] at e3 ⊢
    obtain ⟨d1, d2, d3, d4⟩ := e3
    rw [c1] at d2 d3
    refine ⟨k0, ?_, e2, d1, d2, d3, fun x y hx hy => ?_⟩
    · simp only [mq_0 R', Option.bind_some, hz]
      rw [if_pos (nI_le (by omega) (by omega))]
    · rw [d4 x y hx hy]
      by_cases qc : x < a ∨ (x = a ∧ y < max (g + 4) (a + 2))
      · rw [if_pos qc, if_pos (by omega)]
      · rw [if_neg qc]
        by_cases qd : x < a + 1 ∨ (x = a + 1 ∧ y < a + 3)
        · rw [if_pos qd]
          have hx1 : x = a + 1 := by omega
          obtain ⟨-, c2', -⟩ := h3 x hx
          rw [c2' y (by omega) hy]
        · rw [if_neg qd]
theorem m_layDiagonals (hg : g < 6) (R : pz_Ms h) (hz : pz_i h 105 0 = nI (g + 4)) : ∃ h', f_X6_layDiagonals h 104 = some h' ∧ pz_lg h h' ∧ pz_Md h' g := by
  have hnd := pz_nd_le hg
  obtain ⟨h1, h2, h3⟩ := pz_cb_e hg
  have g0 : pz_lg h (pz_S h 104 9 0) := pz_lg.S (by omega)
  unfold f_X6_layDiagonals
  rw [mq_p R, Option.bind_some]
  refine pz_lpIB (fun i s => s.1 = nI i ∧ pz_lg h s.2 ∧ pz_i s.2 104 9 = 0 ∧ ∀ j, j < i → pz_i s.2 112 j = -1) 81 (fun h' => pz_lg h h' ∧ pz_i h' 104 9 = 0 ∧ ∀ j, j < 81 → pz_i h' 112 j = -1) ?_ ⟨rfl, g0, by rw [pz_S_i, if_pos ⟨rfl, rfl⟩], fun j hj => absurd hj (Nat.not_lt_zero _)⟩ ?_ ?_ (by omega)
  · rintro k1 ⟨l1, n1, n2⟩
    refine pz_lpIB (fun a s => s.1 = nI a ∧ pz_lg h s.2 ∧ pz_Dl s.2 g a (a + 2)) (g + 4) (fun h' => pz_lg h h' ∧ pz_Dl h' g (g + 4) (g + 6)) ?_ ⟨rfl, l1, ?_⟩ ?_ ?_ (by omega)
    · rintro k2 ⟨l2, d1, d2, d3, d4⟩
      rw [h2] at d2 d3
      refine ⟨k2, rfl, l2, hg, d1, d2, d3, fun x y hx hy => ?_⟩
      rw [d4 x y hx hy, if_pos (by omega)]
    · refine ⟨by rw [l1.2.2 105 0 (by omega)]; exact hz, by rw [n1, h1]; rfl, fun d hd => by rw [h1] at hd; exact absurd hd (Nat.not_lt_zero _), fun x y hx hy => ?_⟩
      rw [n2 _ (by omega)]
      by_cases qc : x < 0 ∨ (x = 0 ∧ y < 0 + 2)
      · rw [if_pos qc]
        obtain ⟨-, c2, -⟩ := h3 x hx
        rw [c2 y (by omega) hy]
        rfl
      · rw [if_neg qc]
        rfl
    · rintro a ⟨x, k2⟩ ha ⟨e1, e2, e3⟩
      simp only at e1 e2 e3
      subst e1
      have R' := R.lg e2
      have hz' : zq_ai k2 105 0 = some (nI (g + 4)) := by rw [mq_z0 R', e3.1]
      have row := m_layRow hg R' ha e3 (k := fun y_36 : zq_H => (zq_let (nI a + 1) fun v_77 => some ((Sum.inl (v_77, y_36)) : (Int32 × zq_H) ⊕ zq_H))) (P := fun z => ∃ h', z = Sum.inl (nI (a + 1), h') ∧ pz_lg k2 h' ∧ pz_Dl h' g (a + 1) (a + 3)) (fun h' w1 w2 => ⟨_, by simp only [zq_let, nI_1], h', rfl, w1, w2⟩)
      obtain ⟨y, y1, h', rfl, y2, y3⟩ := row
      refine ⟨(nI (a + 1), h'), ?_, rfl, e2.tr y2, y3⟩
      rw [mq_0 R', Option.bind_some, hz', Option.bind_some, if_neg (nI_ge ha (by omega))]
      show (zq_lp _ zq_N (nI a + nI 2, k2)).bind _ = _
      rw [nI_add]
      exact y1
    · rintro ⟨x, k2⟩ ⟨e1, e2, e3⟩
      simp only at e1 e2 e3
      subst e1
      have R' := R.lg e2
      have hz' : zq_ai k2 105 0 = some (nI (g + 4)) := by rw [mq_z0 R', e3.1]
      refine ⟨k2, ?_, e2, e3⟩
      rw [mq_0 R', Option.bind_some, hz', Option.bind_some, if_pos (nI_le (Nat.le_refl _) (by omega))]
  · rintro i ⟨x, k1⟩ hi ⟨e1, e2, e3, e4⟩
    simp only at e1 e2 e3 e4
    subst e1
    have R' := R.lg e2
    refine ⟨(nI (i + 1), pz_S k1 112 i (-1)), ?_, rfl, e2.tr (pz_lg.S (by omega)), by rw [pz_S_i, if_neg (by omega)]; exact e3, fun j hj => ?_⟩
    · rw [if_neg (show ¬ (81 : Int32) ≤ nI i from nI_ge (a := i) (b := 81) hi (by omega)), mq_12 R', Option.bind_some, ms_112 R' hi, Option.bind_some]
      simp only [zq_let, nI_1]
    · rw [pz_S_i]
      by_cases q : j = i
      · rw [if_pos ⟨rfl, q⟩]
      · rw [if_neg (fun r => q r.2)]; exact e4 j (by omega)
  · rintro ⟨x, k1⟩ ⟨e1, e2, e3, e4⟩
    simp only at e1 e2 e3 e4
    subst e1
    exact ⟨k1, if_pos (show (81 : Int32) ≤ nI 81 from nI_le (Nat.le_refl _) (by omega)), e2, e3, e4⟩
/-! all are found -/
def pz_kn (M : Nat → Nat) (x : Nat) : Nat → Bool
  | 0 => false
  | i + 1 => pz_kn M x i || decide (M i = x)
theorem pz_kn_e {M : Nat → Nat} {x : Nat} : ∀ {n : Nat}, pz_kn M x n = true ↔ ∃ i, i < n ∧ M i = x
  | 0 => by simp [pz_kn]
  | n + 1 => by
    unfold pz_kn
    rw [Bool.or_eq_true, pz_kn_e, decide_eq_true_eq]
    constructor
    · rintro (⟨i, h1, h2⟩ | h)
      · exact ⟨i, by omega, h2⟩
      · exact ⟨n, by omega, h⟩
    · rintro ⟨i, h1, h2⟩
      by_cases e : i = n
      · subst e; exact Or.inr h2
      · exact Or.inl ⟨i, by omega, h2⟩
/-- f masks M have been found -/
def pz_Fm (h : zq_H) (g : Nat) (M : Nat → Nat) (f : Nat) : Prop := f ≤ pz_cn g ∧ pz_i h 104 13 = nI f ∧ (∀ i, i < f → pz_i h 113 i = nI (M i) ∧ pz_T g (M i)) ∧ ∀ i j, i < f → j < f → M i = M j → i = j
theorem m_isKnown (hg : g < 6) (R : pz_Ms h) {M : Nat → Nat} {f x : Nat} (H : pz_Fm h g M f) (hx : x < 134217728) : f_X6_isKnown h 104 (nI x) = some (pz_kn M x f) := by
  have hcn := pz_cn_le hg
  have hf := H.1
  have hb : ∀ b : Bool, zq_b b = 0 ↔ b = false := fun b => zq_b0
  unfold f_X6_isKnown
  refine pz_lpB (fun i => (zq_b (pz_kn M x i), nI i)) f (r := zq_b (pz_kn M x f)) ?_ rfl ?_ ?_ (by omega)
  · cases pz_kn M x f <;> rfl
  · intro i hi
    have hT := pz_T_27 hg (H.2.2.1 i hi).2
    rw [mq_i R, H.2.1, Option.bind_some, if_neg (nI_ge hi (by omega))]
    simp only [zq_let, nI_1]
    have e : pz_kn M x (i + 1) = (pz_kn M x i || decide (M i = x)) := rfl
    rw [e]
    cases hk : pz_kn M x i with
    | true => rw [if_neg (show ¬ zq_b true = 0 by decide)]; rfl
    | false =>
      rw [if_pos (show zq_b false = 0 by decide), mq_14 R, Option.bind_some, mq_ma R (by omega), Option.bind_some, (H.2.2.1 i hi).1]
      simp only [pz_eqI (a := M i) (b := x) (by omega) (by omega)]
      by_cases q : M i = x
      · rw [if_pos q]; simp [q]; rfl
      · rw [if_neg q]; simp [q]; rfl
  · rw [mq_i R, H.2.1, Option.bind_some, if_pos (nI_le (Nat.le_refl _) (by omega))]
/-- the flips of what has been gone through are known -/
def pz_Fe (g : Nat) (M : Nat → Nat) (f : Nat) (D : Nat → Nat → Prop) : Prop := ∀ i d, D i d → (M i).testBit d = true → ∃ j, j < f ∧ M j = pz_fl g (M i) d
theorem m_add (hg : g < 6) {M : Nat → Nat} {f m : Nat} (H : pz_Fm h g M f) (hT : pz_T g m) (hn : ∀ i, i < f → M i ≠ m) : f < pz_cn g ∧ pz_Fm (pz_S (pz_S h 113 f (nI m)) 104 13 (nI (f + 1))) g (pz_up1 M f m) (f + 1) := by
  obtain ⟨c1, c2, c3, c4⟩ := H
  have hf : f < pz_cn g := by
    rcases Nat.lt_or_ge f (pz_cn g) with u | u
    · exact u
    · exfalso
      have : f = pz_cn g := by omega
      subst this
      obtain ⟨i, h1, h2⟩ := pz_full hg (fun i hi => (c3 i hi).2) c4 hT
      exact hn i h1 h2
  have hMo : ∀ i, i < f → pz_up1 M f m i = M i := fun i hi => pz_up1_n _ _ _ (by omega)
  refine ⟨hf, by omega, by rw [pz_S_i, if_pos ⟨rfl, rfl⟩], fun i hi => ?_, fun i j hi hj hij => ?_⟩
  · rw [pz_S_i, if_neg (by omega), pz_S_i]
    by_cases q : i = f
    · subst q
      rw [if_pos ⟨rfl, rfl⟩, pz_up1_s]
      exact ⟨rfl, hT⟩
    · rw [if_neg (fun r => q r.2), hMo i (by omega)]
      exact c3 i (by omega)
  · by_cases q1 : i = f
    · by_cases q2 : j = f
      · omega
      · rw [q1, pz_up1_s, hMo j (by omega)] at hij
        exact absurd hij.symm (hn j (by omega))
    · by_cases q2 : j = f
      · rw [q2, pz_up1_s, hMo i (by omega)] at hij
        exact absurd hij (hn i (by omega))
      · rw [hMo i (by omega), hMo j (by omega)] at hij
        exact c4 i j (by omega) (by omega) hij
theorem pz_Md.lg {h' : zq_H} (D : pz_Md h g) (H : pz_lg h h') (h9 : pz_i h' 104 9 = pz_i h 104 9) (h1 : ∀ a j, (a = 110 ∨ a = 111 ∨ a = 112) → pz_i h' a j = pz_i h a j) : pz_Md h' g := by
  obtain ⟨d1, d2, d3, d4, d5⟩ := D
  exact ⟨d1, by rw [H.2.2 105 0 (by omega)]; exact d2, by rw [h9]; exact d3, fun d hd => by rw [h1 110 d (by omega), h1 111 d (by omega)]; exact d4 d hd, fun a b ha hb => by rw [h1 112 _ (by omega)]; exact d5 a b ha hb⟩
/-- only what is found differs -/
def pz_fg (h h' : zq_H) : Prop := h'.1 = h.1 ∧ h'.2.2 = h.2.2 ∧ ∀ a j, ¬ (a = 104 ∧ j = 13) → a ≠ 113 → pz_i h' a j = pz_i h a j
theorem pz_fg.rf : pz_fg h h := ⟨rfl, rfl, fun _ _ _ _ => rfl⟩
theorem pz_fg.tr {a b c : zq_H} (h1 : pz_fg a b) (h2 : pz_fg b c) : pz_fg a c := ⟨h2.1.trans h1.1, h2.2.1.trans h1.2.1, fun x j k l => (h2.2.2 x j k l).trans (h1.2.2 x j k l)⟩
theorem pz_fg.lg {h' : zq_H} (H : pz_fg h h') : pz_lg h h' := ⟨H.1, H.2.1, fun a j k => H.2.2 a j (by omega) (by omega)⟩
theorem pz_Md.fg {h' : zq_H} (D : pz_Md h g) (H : pz_fg h h') : pz_Md h' g := D.lg H.lg (H.2.2 104 9 (by omega) (by omega)) (fun a j ha => H.2.2 a j (by omega) (by omega))
theorem m_findRow (R : pz_Ms h) (D : pz_Md h g) {M : Nat → Nat} {f a : Nat} (H : pz_Fm h g M f) (ha : a < f) (hfan : M 0 = pz_fn g 0) (hE : pz_Fe g M f (fun i _ => i < a)) {α : Type} {k : zq_H → Option α} {P : α → Prop}
    (hk : ∀ h' M' f', pz_fg h h' → pz_Fm h' g M' f' → a < f' → M' 0 = pz_fn g 0 → pz_Fe g M' f' (fun i _ => i < a + 1) → ∃ y, k h' = some y ∧ P y) :
    ∃ y, (zq_lp (σ := Int32 × zq_H) (ρ := zq_H) (fun s_21 => (Option.bind (zq_gi s_21.2 104 6 9) fun v_29 => (if v_29 ≤ s_21.1 then some (.inr s_21.2) else (Option.bind (zq_gr s_21.2 104 6 14) fun v_32 => (Option.bind (zq_ai s_21.2 v_32 (nI a)) fun v_34 => (Option.bind (f_X6_has s_21.2 v_34 s_21.1) fun v_36 => (if v_36 = false then (Option.bind (zq_gr s_21.2 104 6 14) fun v_39 => (Option.bind (zq_ai s_21.2 v_39 (nI a)) fun v_41 => (zq_ck s_21.2 104 6 fun _ => (Option.bind (f_X6_isKnown s_21.2 104 v_41) fun v_43 => (if v_43 = false then (Option.bind (zq_gr s_21.2 104 6 14) fun v_49 => (Option.bind (zq_gi s_21.2 104 6 13) fun v_51 => (Option.bind (zq_si s_21.2 v_49 v_51 v_41) fun h_53 => (Option.bind (zq_gi h_53 104 6 13) fun v_55 => (Option.bind (zq_pi h_53 104 6 13 (v_55 + 1)) fun h_57 => (zq_let (s_21.1 + 1) fun v_59 => some (.inl (v_59, h_57)))))))) else (zq_let (s_21.1 + 1) fun v_47 => some (.inl (v_47, s_21.2)))))))) else (Option.bind (zq_gr s_21.2 104 6 14) fun v_61 => (Option.bind (zq_ai s_21.2 v_61 (nI a)) fun v_63 => (zq_ck s_21.2 104 6 fun _ => (Option.bind (f_X6_behindFlip s_21.2 104 v_63 s_21.1) fun v_65 => (zq_ck s_21.2 104 6 fun _ => (Option.bind (f_X6_isKnown s_21.2 104 v_65) fun v_68 => (if v_68 = false then (Option.bind (zq_gr s_21.2 104 6 14) fun v_74 => (Option.bind (zq_gi s_21.2 104 6 13) fun v_76 => (Option.bind (zq_si s_21.2 v_74 v_76 v_65) fun h_78 => (Option.bind (zq_gi h_78 104 6 13) fun v_80 => (Option.bind (zq_pi h_78 104 6 13 (v_80 + 1)) fun h_82 => (zq_let (s_21.1 + 1) fun v_84 => some (.inl (v_84, h_82)))))))) else (zq_let (s_21.1 + 1) fun v_72 => some (.inl (v_72, s_21.2))))))))))))))))) zq_N (0, h)).bind k = some y ∧ P y := by
  have hg := D.1
  have hcn := pz_cn_le hg
  have hnd := pz_nd_le hg
  have hTa := (H.2.2.1 a ha).2
  generalize hma : M a = m at hTa
  have hm27 := pz_T_27 hg hTa
  refine pz_lpIB (fun d s => s.1 = nI d ∧ pz_fg h s.2 ∧ ∃ M' f', pz_Fm s.2 g M' f' ∧ a < f' ∧ M' a = m ∧ M' 0 = pz_fn g 0 ∧ pz_Fe g M' f' (fun i d' => i < a ∨ (i = a ∧ d' < d))) (pz_nd g) (fun h' => pz_fg h h' ∧ ∃ M' f', pz_Fm h' g M' f' ∧ a < f' ∧ M' 0 = pz_fn g 0 ∧ pz_Fe g M' f' (fun i _ => i < a + 1)) ?_ ?_ ?_ ?_ (by omega)
  · rintro h' ⟨q1, M', f', q2, q3, q4, q5⟩
    exact hk h' M' f' q1 q2 q3 q4 q5
  · exact ⟨rfl, pz_fg.rf, M, f, H, ha, hma, hfan, fun i d hD hb => hE i d (hD.elim id (fun q => absurd q.2 (Nat.not_lt_zero _))) hb⟩
  · rintro d ⟨x, k0⟩ hd ⟨e1, e2, M', f', e4, e5, e6, e7, e8⟩
    simp only at e1 e2 e4
    subst e1
    have R' := R.lg e2.lg
    have D' := D.fg e2
    have hf' := e4.1
    have hma' : zq_ai k0 113 (nI a) = some (nI m) := by rw [mq_ma R' (by omega), (e4.2.2.1 a e5).1, e6]
    have more : ∀ m', pz_T g m' → (m.testBit d = true → m' = pz_fl g m d) → ∃ s', (if pz_kn M' m' f' = false then (Option.bind (zq_gr k0 104 6 14) fun v_74 => (Option.bind (zq_gi k0 104 6 13) fun v_76 => (Option.bind (zq_si k0 v_74 v_76 (nI m')) fun h_78 => (Option.bind (zq_gi h_78 104 6 13) fun v_80 => (Option.bind (zq_pi h_78 104 6 13 (v_80 + 1)) fun h_82 => (zq_let (nI d + 1) fun v_84 => some ((Sum.inl (v_84, h_82)) : (Int32 × zq_H) ⊕ zq_H)))))))
        else (zq_let (nI d + 1) fun v_72 => some (Sum.inl (v_72, k0)))) = some (Sum.inl s') ∧ s'.1 = nI (d + 1) ∧ pz_fg h s'.2 ∧ ∃ M' f', pz_Fm s'.2 g M' f' ∧ a < f' ∧ M' a = m ∧ M' 0 = pz_fn g 0 ∧ pz_Fe g M' f' (fun i d' => i < a ∨ (i = a ∧ d' < d + 1)) := by
      intro m' hT' hmm
      cases hkn : pz_kn M' m' f' with
      | true =>
        obtain ⟨j, j1, j2⟩ := pz_kn_e.mp hkn
        rw [if_neg (by simp)]
        refine ⟨_, rfl, nI_1 d, e2, M', f', e4, e5, e6, e7, fun i d' hD hb => ?_⟩
        by_cases q : i = a ∧ d' = d
        · obtain ⟨q1, q2⟩ := q
          subst q1; subst q2
          rw [e6] at hb ⊢
          exact ⟨j, j1, by rw [j2, hmm hb]⟩
        · exact e8 i d' (by omega) hb
      | false =>
        have hn : ∀ i, i < f' → M' i ≠ m' := fun i hi hM => by
          have := pz_kn_e.mpr ⟨i, hi, hM⟩
          rw [hkn] at this; cases this
        obtain ⟨b1, b2⟩ := m_add hg e4 hT' hn
        have q1 : pz_fg k0 (pz_S k0 113 f' (nI m')) := ⟨rfl, rfl, fun x y _ l => by rw [pz_S_i, if_neg (fun r => l r.1)]⟩
        have q2 : pz_fg k0 (pz_S (pz_S k0 113 f' (nI m')) 104 13 (nI (f' + 1))) := q1.tr ⟨rfl, rfl, fun x y l _ => by rw [pz_S_i, if_neg l]⟩
        have Ra := R'.lg q1.lg
        rw [if_pos rfl, mq_14 R', Option.bind_some, mq_i R', e4.2.1, Option.bind_some, ms_113 R' (by omega), Option.bind_some, mq_i Ra, pz_S_i, if_neg (by omega), e4.2.1, Option.bind_some, nI_1, mq_p Ra, Option.bind_some]
        refine ⟨_, rfl, nI_1 d, e2.tr q2, pz_up1 M' f' m', f' + 1, b2, by omega, by rw [pz_up1_n _ _ _ (by omega)]; exact e6, by rw [pz_up1_n _ _ _ (by omega)]; exact e7, fun i d' hD hb => ?_⟩
        have hif : i < f' := by omega
        rw [pz_up1_n _ _ _ (show i ≠ f' by omega)] at hb ⊢
        by_cases q : i = a ∧ d' = d
        · obtain ⟨q1, q2⟩ := q
          subst q1; subst q2
          rw [e6] at hb ⊢
          exact ⟨f', by omega, by rw [pz_up1_s, hmm hb]⟩
        · obtain ⟨j, j1, j2⟩ := e8 i d' (by omega) hb
          exact ⟨j, by omega, by rw [pz_up1_n _ _ _ (by omega)]; exact j2⟩
    rw [mq_9 R' D', Option.bind_some, if_neg (nI_ge hd (by omega))]
    simp only [mq_14 R', Option.bind_some, hma']
    rw [s_has (by omega) (by omega), Option.bind_some]
    cases hb : m.testBit d with
    | false =>
      rw [if_pos rfl, mq_ck R', m_isKnown hg R' e4 hm27, Option.bind_some]
      have := more m hTa (fun q => by rw [hb] at q; cases q)
      simp only [mq_14 R', Option.bind_some] at this
      exact this
    | true =>
      obtain ⟨-, -, -, hflT, -⟩ := pz_flip hg hTa hb
      rw [if_neg (by simp), mq_ck R', m_behindFlip R' D' hTa hb, Option.bind_some, mq_ck R', m_isKnown hg R' e4 (pz_T_27 hg hflT), Option.bind_some]
      have := more _ hflT (fun _ => rfl)
      simp only [mq_14 R', Option.bind_some] at this
      exact this
  · rintro ⟨x, k0⟩ ⟨e1, e2, M', f', e4, e5, e6, e7, e8⟩
    simp only at e1 e2 e4
    subst e1
    have R' := R.lg e2.lg
    have D' := D.fg e2
    refine ⟨k0, ?_, e2, M', f', e4, e5, e7, fun i d hD hb => ?_⟩
    · rw [mq_9 R' D', Option.bind_some, if_pos (nI_le (Nat.le_refl _) (by omega))]
    · have hif : i < f' := by omega
      exact e8 i d (by
        have := pz_bit_lt (pz_T_lt hg (e4.2.2.1 i hif).2) hb
        omega) hb
theorem m_findAll (R : pz_Ms h) (D : pz_Md h g) : ∃ h', f_X6_findAll h 104 = some h' ∧ pz_fg h h' ∧ ∃ M, pz_Fm h' g M (pz_cn g) := by
  have hg := D.1
  have hcn := pz_cn_le hg
  have hT0 := pz_fan hg (show 0 < g + 4 by omega)
  have q1 : pz_fg h (pz_S h 113 0 (nI (pz_fn g 0))) := ⟨rfl, rfl, fun x y _ l => by rw [pz_S_i, if_neg (fun r => l r.1)]⟩
  have q2 : pz_fg h (pz_S (pz_S h 113 0 (nI (pz_fn g 0))) 104 13 1) := q1.tr ⟨rfl, rfl, fun x y l _ => by rw [pz_S_i, if_neg l]⟩
  have Ra := R.lg q1.lg
  unfold f_X6_findAll
  rw [mq_14 R, Option.bind_some, mq_ck R, show (0 : Int32) = nI 0 from rfl, m_fanOf R D (by omega), Option.bind_some, ms_113 R (by omega), Option.bind_some, mq_p Ra, Option.bind_some]
  refine pz_lpMB (fun s => ∃ a f M, s.1 = nI a ∧ a ≤ f ∧ 0 < f ∧ pz_fg h s.2 ∧ pz_Fm s.2 g M f ∧ M 0 = pz_fn g 0 ∧ pz_Fe g M f (fun i _ => i < a)) (fun s => pz_cn g - s.1.toNatClampNeg) (fun h' => pz_fg h h' ∧ ∃ f M, pz_Fm h' g M f ∧ 0 < f ∧ M 0 = pz_fn g 0 ∧ pz_Fe g M f (fun i _ => i < f)) ?_ ?_ (by simp only; omega) ?_
  · rintro h' ⟨q1, f, M', q2, q3, q4, q5⟩
    have hall : ∀ m, pz_T g m → ∃ i, i < f ∧ M' i = m := by
      intro m hm
      refine pz_closed hg (fun m => ∃ i, i < f ∧ M' i = m) ⟨0, q3, q4⟩ ?_ hm
      rintro m hm ⟨i, hi, rfl⟩ d hd
      exact q5 i d hi hd
    have hf : f = pz_cn g := by
      have h1 := pz_pigf (f := fun i => Classical.choose (hall (pz_tt g (if i < pz_cn g then i else 0)) (pz_tt_T (by split <;> omega)))) (k := pz_cn g) (n := f) (fun i j hi hj hij => by
        have a1 := (Classical.choose_spec (hall (pz_tt g (if i < pz_cn g then i else 0)) (pz_tt_T (by split <;> omega)))).2
        have a2 := (Classical.choose_spec (hall (pz_tt g (if j < pz_cn g then j else 0)) (pz_tt_T (by split <;> omega)))).2
        rw [hij, a2] at a1
        rw [if_pos hi, if_pos hj] at a1
        have e1 := (pz_tt_2 hg hi).1
        have e2 := (pz_tt_2 hg hj).1
        rw [← a1, e2] at e1
        omega) (fun i hi => (Classical.choose_spec (hall (pz_tt g (if i < pz_cn g then i else 0)) (pz_tt_T (by split <;> omega)))).1)
      have := q2.1
      omega
    subst hf
    exact ⟨h', rfl, q1, M', q2⟩
  · refine ⟨0, 1, fun _ => pz_fn g 0, rfl, by omega, by omega, q2, ⟨by omega, by rw [pz_S_i, if_pos ⟨rfl, rfl⟩]; rfl, fun i hi => ?_, fun i j hi hj _ => by omega⟩, rfl, fun i d hD => absurd hD (Nat.not_lt_zero _)⟩
    rw [show i = 0 by omega, pz_S_i, if_neg (by omega), pz_S_i, if_pos ⟨rfl, rfl⟩]
    exact ⟨rfl, hT0⟩
  · rintro ⟨x, k0⟩ ⟨a, f, M', e1, e2, e3, e4, e5, e6, e7⟩
    simp only at e1 e4 e5
    subst e1
    have R' := R.lg e4.lg
    have D' := D.fg e4
    have hfc := e5.1
    rcases Nat.lt_or_ge a f with q | q
    · refine Or.inl ?_
      have := m_findRow R' D' e5 q e6 e7 (k := fun y_24 : zq_H => (zq_let (nI a + 1) fun v_86 => some ((Sum.inl (v_86, y_24)) : (Int32 × zq_H) ⊕ zq_H))) (P := fun z => ∃ h', z = Sum.inl (nI (a + 1), h') ∧ ∃ f M, a + 1 ≤ f ∧ 0 < f ∧ pz_fg h h' ∧ pz_Fm h' g M f ∧ M 0 = pz_fn g 0 ∧ pz_Fe g M f (fun i _ => i < a + 1)) (fun h' M1 f1 w1 w2 w3 w4 w5 => ⟨Sum.inl (nI (a + 1), h'), by simp only [zq_let, nI_1], h', rfl, f1, M1, by omega, by omega, e4.tr w1, w2, w4, w5⟩)
      obtain ⟨y, v1, h', rfl, f1, M1, v2, v3, v4, v5, v6, v7⟩ := this
      refine ⟨(nI (a + 1), h'), ?_, ⟨a + 1, f1, M1, rfl, v2, v3, v4, v5, v6, v7⟩, ?_⟩
      · rw [mq_i R', e5.2.1, Option.bind_some, if_neg (nI_ge q (by omega))]
        exact v1
      · simp only
        rw [nI_clamp (by omega), nI_clamp (by omega)]
        omega
    · refine Or.inr ⟨k0, ?_, e4, f, M', e5, e3, e6, fun i d hD hb => e7 i d (by omega) hb⟩
      rw [mq_i R', e5.2.1, Option.bind_some, if_pos (nI_le q (by omega))]
end PZLD
