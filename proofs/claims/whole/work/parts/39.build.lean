/-! the class' graphs: they are built -/
/-- only the contents of the graph at t differ -/
def pz_gag (t : Nat) (h h' : zq_H) : Prop := h'.1 = h.1 ∧ h'.2.2 = h.2.2 ∧ ∀ a j, ¬ (a = t ∧ j = 8) → a ≠ t + 9 → a ≠ t + 10 → a ≠ t + 11 → pz_i h' a j = pz_i h a j
theorem pz_gag.rf {t : Nat} {h : zq_H} : pz_gag t h h := ⟨rfl, rfl, fun _ _ _ _ _ _ => rfl⟩
theorem pz_gag.tr {t : Nat} {a b c : zq_H} (h1 : pz_gag t a b) (h2 : pz_gag t b c) : pz_gag t a c :=
  ⟨h2.1.trans h1.1, h2.2.1.trans h1.2.1, fun x j k1 k2 k3 k4 => (h2.2.2 x j k1 k2 k3 k4).trans (h1.2.2 x j k1 k2 k3 k4)⟩
theorem pz_gag.S {t : Nat} {h : zq_H} {a j : Nat} {v : Int32} (ha : (a = t ∧ j = 8) ∨ a = t + 9 ∨ a = t + 10 ∨ a = t + 11) : pz_gag t h (pz_S h a j v) :=
  ⟨rfl, rfl, fun x y k1 k2 k3 k4 => by
    rw [pz_S_i, if_neg]
    rintro ⟨rfl, rfl⟩
    rcases ha with q | q | q | q
    · exact k1 q
    · exact k2 q
    · exact k3 q
    · exact k4 q⟩
theorem pz_gag.ag {t : Nat} {h h' : zq_H} (H : pz_gag t h h') : pz_ag (fun a => a ≠ t ∧ a ≠ t + 9 ∧ a ≠ t + 10 ∧ a ≠ t + 11) h h' :=
  ⟨H.1, fun a ha j => ⟨H.2.2 a j (fun e => ha.1 e.1) ha.2.1 ha.2.2.1 ha.2.2.2, by unfold pz_j; rw [H.2.1], by unfold pz_r; rw [H.2.1]⟩⟩
theorem pz_gag.r {t : Nat} {h h' : zq_H} (H : pz_gag t h h') (a j : Nat) : pz_r h' a j = pz_r h a j := by unfold pz_r; rw [H.2.1]
theorem pz_Gs.gag {t g : Nat} {h h' : zq_H} (G : pz_Gs h t g) (H : pz_gag t h h') : pz_Gs h' t g := by
  obtain ⟨h1, h2, h3, h4, h5, h6, h7, h8⟩ := G
  refine ⟨h1, by rw [H.1]; exact h2, h3.ag H.ag (fun i hi => ⟨by omega, by omega, by omega, by omega⟩), ?_, ?_, ?_, ?_, ?_⟩
  · rw [H.r, H.r, H.r, H.r]; exact h4
  · rw [H.2.2 t 1 (by omega) (by omega) (by omega) (by omega)]; exact h5
  · rw [H.2.2 t 2 (by omega) (by omega) (by omega) (by omega)]; exact h6
  · rw [H.2.2 t 3 (by omega) (by omega) (by omega) (by omega)]; exact h7
  · rw [H.2.2 t 4 (by omega) (by omega) (by omega) (by omega)]; exact h8
theorem pz_lo_le (r : Nat) : pz_lo r ≤ r := Nat.and_le_left
theorem pz_rs_lt {m : Nat} (hm : m < 134217728) : ∀ w, pz_rs m w < 134217728
  | 0 => hm
  | w + 1 => by
    have h := pz_rs_lt hm w
    exact Nat.xor_lt_two_pow (n := 27) h (Nat.lt_of_le_of_lt (pz_lo_le _) h)
theorem pz_bits {g m : Nat} (hg : g < 6) (hm : pz_T g m) : pz_rs m (g + 1) = 0 ∧ (∀ w, w < g + 1 → 0 < pz_rs m w ∧ pz_lo (pz_rs m w) = 2 ^ pz_se m w ∧ pz_se m w < pz_nd g ∧ m.testBit (pz_se m w) = true ∧ pz_rk m (pz_se m w) = w ∧ pz_rs m w &&& (pz_rs m w - 1) = pz_rs m (w + 1)) ∧
    (∀ d, d < pz_nd g → m.testBit d = true → pz_se m (pz_rk m d) = d ∧ pz_rk m d < g + 1) ∧ pz_rk m (pz_nd g) = g + 1 := by
  obtain ⟨i, hi, rfl⟩ := hm
  have h := pz_al_e (pz_K3 g hg) i hi
  unfold pz_k3m at h
  simp only [Bool.and_eq_true] at h
  obtain ⟨⟨⟨h1, h2⟩, h3⟩, h4⟩ := h
  refine ⟨Nat.eq_of_beq_eq_true h1, fun w hw => ?_, fun d hd hb => ?_, Nat.eq_of_beq_eq_true h4⟩
  · have h := pz_al_e h2 w hw
    simp only [Bool.and_eq_true] at h
    obtain ⟨⟨⟨⟨⟨k1, k2⟩, k3⟩, k4⟩, k5⟩, k6⟩ := h
    exact ⟨pz_lt_e k1, Nat.eq_of_beq_eq_true k2, pz_lt_e k3, k4, Nat.eq_of_beq_eq_true k5, Nat.eq_of_beq_eq_true k6⟩
  · have h := pz_al_e h3 d hd
    rw [hb] at h
    simp only [Bool.not_true, Bool.false_or, Bool.and_eq_true] at h
    exact ⟨Nat.eq_of_beq_eq_true h.1, pz_lt_e h.2⟩
/-- the lowest bit of an int -/
theorem pz_loI {r : Nat} (hr : r < 134217728) : nI r &&& -nI r = nI (pz_lo r) := by
  rw [pz_neg (by omega), pz_and (by omega) (Nat.mod_lt _ (by omega))]
  rfl
theorem pz_idx {F i a w w' : Nat} (h1 : w < F) (h2 : w' < F) (e : i * F + w' = a * F + w) : i = a ∧ w' = w := by
  rcases Nat.lt_trichotomy i a with h | h | h
  · exfalso
    have := Nat.mul_le_mul_right F (show i + 1 ≤ a from h)
    rw [Nat.succ_mul] at this
    omega
  · subst h
    exact ⟨rfl, by omega⟩
  · exfalso
    have := Nat.mul_le_mul_right F (show a + 1 ≤ i from h)
    rw [Nat.succ_mul] at this
    omega
theorem pz_idx_lt {F i w n : Nat} (h1 : w < F) (h2 : i < n) : i * F + w < n * F := by
  have := Nat.mul_le_mul_right F (show i + 1 ≤ n from h2)
  rw [Nat.succ_mul] at this
  omega
def pz_up1 (M : Nat → Nat) (f m : Nat) : Nat → Nat := fun i => if i = f then m else M i
theorem pz_up1_s (M : Nat → Nat) (f m : Nat) : pz_up1 M f m f = m := if_pos rfl
theorem pz_up1_n (M : Nat → Nat) (f m : Nat) {i : Nat} (h : i ≠ f) : pz_up1 M f m i = M i := if_neg h
section PZB
variable {h : zq_H} {t g f : Nat} {M sl : Nat → Nat}
theorem s_indexOf (G : pz_Gs h t g) (H : pz_HT h t g M sl f) {i : Nat} (hi : i < f) : f_X0_indexOf h t (nI (M i)) = some (nI i) := by
  have hm := pz_T_27 G.1.1 (H.2.2.1 i hi).2
  obtain ⟨e, h1, h2, -, h3⟩ := s_slotOf G H hm
  unfold f_X0_indexOf
  rw [gq_7 G, Option.bind_some, gq_ck G, h2, Option.bind_some, gq_sl G H (pz_po_lt _ _), Option.bind_some]
  rcases h3 with h3 | ⟨j, h3, h4, h5⟩
  · exact absurd rfl (h3.2 i hi)
  · rw [h4, nI_pred, H.2.2.2.1 j i h3 hi h5]
theorem s_ion_old (G : pz_Gs h t g) (H : pz_HT h t g M sl f) {i : Nat} (hi : i < f) : f_X0_indexOrNew h t (nI (M i)) = some (nI i, h) := by
  have hm := pz_T_27 G.1.1 (H.2.2.1 i hi).2
  obtain ⟨e, h1, h2, -, h3⟩ := s_slotOf G H hm
  have := pz_cn_le G.1.1
  have := H.1
  unfold f_X0_indexOrNew
  rw [gq_ck G, h2, Option.bind_some, gq_7 G, Option.bind_some, gq_sl G H (pz_po_lt _ _), Option.bind_some]
  rcases h3 with h3 | ⟨j, h3, h4, h5⟩
  · exact absurd rfl (h3.2 i hi)
  · rw [h4, if_neg (nI_ne0 (by omega) (by omega)), Option.bind_some, gq_sl G H (pz_po_lt _ _), Option.bind_some, h4, nI_pred, H.2.2.2.1 j i h3 hi h5]
theorem s_ion_new (G : pz_Gs h t g) (H : pz_HT h t g M sl f) {m : Nat} (hT : pz_T g m) (hn : ∀ i, i < f → M i ≠ m) (hf : f < pz_cn g) : ∃ h', f_X0_indexOrNew h t (nI m) = some (nI f, h') ∧ pz_gag t h h' ∧ (∀ j, pz_i h' (t + 10) j = pz_i h (t + 10) j) ∧ ∃ sl', pz_HT h' t g (pz_up1 M f m) sl' (f + 1) := by
  have hg := G.1.1
  have hm := pz_T_27 hg hT
  obtain ⟨e, h1, h2, hpre, h3⟩ := s_slotOf G H hm
  have hcn := pz_cn_le hg
  obtain ⟨hz1, hz2⟩ := pz_kz_le g hg
  have h0 : sl (pz_po g (nI m) e) = 0 := by
    rcases h3 with h3 | ⟨j, a, -, b⟩
    · exact h3.1
    · exact absurd b (hn j a)
  generalize hp : pz_po g (nI m) e = p at h0
  have hpl : p < 2 ^ pz_kz g := by rw [← hp]; exact pz_po_lt _ _
  obtain ⟨c1, c2, c3, c4, c5, c6, c7⟩ := id H
  have t1 : t < h.1 := by have := G.2.1; omega
  have t9 : t + 9 < h.1 := by have := G.2.1; omega
  have t11 : t + 11 < h.1 := G.2.1
  generalize hk1 : pz_S h (t + 9) f (nI m) = k1
  generalize hk2 : pz_S k1 t 8 (nI (f + 1)) = k2
  generalize hk3 : pz_S k2 (t + 11) p (nI (f + 1)) = k3
  have g1 : pz_gag t h k1 := by rw [← hk1]; exact pz_gag.S (Or.inr (Or.inl rfl))
  have g2 : pz_gag t h k2 := g1.tr (by rw [← hk2]; exact pz_gag.S (Or.inl ⟨rfl, rfl⟩))
  have g3 : pz_gag t h k3 := g2.tr (by rw [← hk3]; exact pz_gag.S (Or.inr (Or.inr (Or.inr rfl))))
  have G1 := G.gag g1
  have G2 := G.gag g2
  have G3 := G.gag g3
  have e8 : pz_i k1 t 8 = nI f := by rw [← hk1, pz_S_i, if_neg (by omega), c2]
  have e82 : pz_i k2 t 8 = nI (f + 1) := by rw [← hk2, pz_S_i, if_pos ⟨rfl, rfl⟩]
  have i3 : ∀ a j, pz_i k3 a j = if a = t + 11 ∧ j = p then nI (f + 1) else if a = t ∧ j = 8 then nI (f + 1) else if a = t + 9 ∧ j = f then nI m else pz_i h a j := by
    intro a j
    rw [← hk3, pz_S_i, ← hk2, pz_S_i, ← hk1, pz_S_i]
  refine ⟨k3, ?_, g3, fun j => ?_, pz_up1 sl p (f + 1), ?_⟩
  · unfold f_X0_indexOrNew
    rw [gq_ck G, h2, hp, Option.bind_some, gq_7 G, Option.bind_some, gq_sl G H hpl, Option.bind_some, h0, if_pos (show nI 0 = 0 from rfl), gq_8 G H, Option.bind_some, gq_5 G, Option.bind_some, gq_an9 G, Option.bind_some, if_neg (nI_ge hf (by omega)), Option.bind_some, Option.bind_some,
      pz_si t9 G.1.2.2.1 hf (by omega), Option.bind_some, hk1, pz_gi (by rw [g1.1]; exact t1) (by rw [G.1.2.1]), Option.bind_some, e8, nI_1, pz_pi (by rw [g1.1]; exact t1) (by rw [G.1.2.1]), Option.bind_some, hk2, gq_7 G2, Option.bind_some, pz_gi (by rw [g2.1]; exact t1) (by rw [G.1.2.1]), Option.bind_some, e82,
      pz_si (by rw [g2.1]; exact t11) G.1.2.2.2.2 hpl (by omega), Option.bind_some, hk3, gq_7 G3, Option.bind_some, pz_ai (by rw [g3.1]; exact t11) G.1.2.2.2.2 hpl (by omega), Option.bind_some, i3, if_pos ⟨rfl, rfl⟩, nI_pred]
  · rw [i3, if_neg (by omega), if_neg (by omega), if_neg (by omega)]
  · have hMo : ∀ i, i < f → pz_up1 M f m i = M i := fun i hi => if_neg (by omega)
    have hMf : pz_up1 M f m f = m := if_pos rfl
    refine ⟨by omega, ?_, ?_, ?_, ?_, ?_, ?_⟩
    · rw [i3, if_neg (by omega), if_pos ⟨rfl, rfl⟩]
    · intro i hi
      rw [i3, if_neg (by omega), if_neg (by omega)]
      by_cases q : i = f
      · subst q
        rw [if_pos ⟨rfl, rfl⟩, hMf]
        exact ⟨rfl, hT⟩
      · rw [if_neg (fun r => q r.2), hMo i (by omega)]
        exact c3 i (by omega)
    · intro i j hi hj hij
      by_cases q1 : i = f
      · by_cases q2 : j = f
        · omega
        · rw [q1, hMf, hMo j (by omega)] at hij
          exact absurd hij.symm (hn j (by omega))
      · by_cases q2 : j = f
        · rw [q2, hMf, hMo i (by omega)] at hij
          exact absurd hij (hn i (by omega))
        · rw [hMo i (by omega), hMo j (by omega)] at hij
          exact c4 i j (by omega) (by omega) hij
    · intro s hs
      rw [i3]
      by_cases q : s = p
      · subst q
        rw [if_pos ⟨rfl, rfl⟩, pz_up1_s]
        exact ⟨rfl, Nat.le_refl _⟩
      · rw [if_neg (fun r => q r.2), if_neg (by omega), if_neg (by omega), pz_up1_n _ _ _ q]
        exact ⟨(c5 s hs).1, by have := (c5 s hs).2; omega⟩
    · intro s s' hs hs' hs0 hss
      by_cases q1 : s = p
      · by_cases q2 : s' = p
        · omega
        · rw [q1, pz_up1_s, pz_up1_n _ _ _ q2] at hss
          have := (c5 s' hs').2
          omega
      · by_cases q2 : s' = p
        · rw [q2, pz_up1_s, pz_up1_n _ _ _ q1] at hss
          have := (c5 s hs).2
          omega
        · rw [pz_up1_n _ _ _ q1, pz_up1_n _ _ _ q2] at hss
          rw [pz_up1_n _ _ _ q1] at hs0
          exact c6 s s' hs hs' hs0 hss
    · intro i hi
      by_cases q : i = f
      · subst q
        refine ⟨e, h1, ?_, fun e' he' => ?_⟩
        · rw [hMf, hp, pz_up1_s]
        · rw [hMf]
          by_cases r : pz_po g (nI m) e' = p
          · rw [r, pz_up1_s]; omega
          · rw [pz_up1_n _ _ _ r]; exact hpre e' he'
      · obtain ⟨e1, k1, k2, k3⟩ := c7 i (by omega)
        refine ⟨e1, k1, ?_, fun e' he' => ?_⟩
        · rw [hMo i (by omega), pz_up1_n]
          · exact k2
          · intro r
            rw [r, h0] at k2
            omega
        · rw [hMo i (by omega)]
          by_cases r : pz_po g (nI (M i)) e' = p
          · rw [r, pz_up1_s]; omega
          · rw [pz_up1_n _ _ _ r]; exact k3 e' he'
/-- all of T known, if as many as T are known -/
theorem pz_full (hg : g < 6) (hT : ∀ i, i < pz_cn g → pz_T g (M i)) (hi : ∀ i j, i < pz_cn g → j < pz_cn g → M i = M j → i = j) {m : Nat} (hm : pz_T g m) : ∃ i, i < pz_cn g ∧ M i = m := by
  by_cases h : ∃ i, i < pz_cn g ∧ M i = m
  · exact h
  · exfalso
    have hc := pz_cn_le hg
    have h1 := pz_pigf (f := fun i => if i = pz_cn g then pz_ix g m else pz_ix g (M i)) (k := pz_cn g + 1) (n := pz_cn g) (fun i j hi' hj' hij => by
      by_cases q1 : i = pz_cn g
      · by_cases q2 : j = pz_cn g
        · omega
        · rw [if_pos q1, if_neg q2] at hij
          have a1 := (pz_T_ix hg hm).2
          have a2 := (pz_T_ix hg (hT j (by omega))).2
          rw [hij, a2] at a1
          exact absurd ⟨j, by omega, a1⟩ h
      · by_cases q2 : j = pz_cn g
        · rw [if_neg q1, if_pos q2] at hij
          have a1 := (pz_T_ix hg hm).2
          have a2 := (pz_T_ix hg (hT i (by omega))).2
          rw [← hij, a2] at a1
          exact absurd ⟨i, by omega, a1⟩ h
        · rw [if_neg q1, if_neg q2] at hij
          have a1 := (pz_T_ix hg (hT i (by omega))).2
          have a2 := (pz_T_ix hg (hT j (by omega))).2
          rw [hij, a2] at a1
          exact hi i j (by omega) (by omega) a1.symm) (fun i hi' => by
      by_cases q1 : i = pz_cn g
      · rw [if_pos q1]; exact (pz_T_ix hg hm).1
      · rw [if_neg q1]; exact (pz_T_ix hg (hT i (by omega))).1)
    omega
/-- a set with the fan that is closed under flips has all -/
theorem pz_closed (hg : g < 6) (A : Nat → Prop) (h0 : A (pz_fn g 0)) (hc : ∀ m, pz_T g m → A m → ∀ d, m.testBit d = true → A (pz_fl g m d)) {m : Nat} (hm : pz_T g m) : A m := by
  have key : ∀ k m, pz_T g m → 27 - pz_d0 g m ≤ k → A m := by
    intro k
    induction k with
    | zero =>
      intro m hm hk
      obtain ⟨i, hi, rfl⟩ := hm
      have h := pz_al_e (pz_K6 g hg) i hi
      rw [Bool.or_eq_true] at h
      rcases h with h | h
      · rw [Nat.eq_of_beq_eq_true h]; exact h0
      · exfalso
        have h1 := pz_ff_yes (fun d => (pz_tt g i).testBit d && pz_lt (pz_d0 g (pz_tt g i)) (pz_d0 g (pz_fl g (pz_tt g i) d))) (pz_nd g) 0 (by rw [Nat.zero_add]; exact pz_lt_e h)
        rw [Bool.and_eq_true] at h1
        have h2 := pz_lt_e h1.2
        have h3 : pz_d0 g (pz_fl g (pz_tt g i) (pz_ff (fun d => (pz_tt g i).testBit d && pz_lt (pz_d0 g (pz_tt g i)) (pz_d0 g (pz_fl g (pz_tt g i) d))) (pz_nd g) 0)) ≤ pz_nd g := pz_rk_le _ _
        have := pz_nd_le hg
        omega
    | succ k ih =>
      intro m hm hk
      have hm2 := hm
      obtain ⟨i, hi, rfl⟩ := hm2
      have h := pz_al_e (pz_K6 g hg) i hi
      rw [Bool.or_eq_true] at h
      rcases h with h | h
      · rw [Nat.eq_of_beq_eq_true h]; exact h0
      · have h1 := pz_ff_yes (fun d => (pz_tt g i).testBit d && pz_lt (pz_d0 g (pz_tt g i)) (pz_d0 g (pz_fl g (pz_tt g i) d))) (pz_nd g) 0 (by rw [Nat.zero_add]; exact pz_lt_e h)
        rw [Bool.and_eq_true] at h1
        generalize pz_ff (fun d => (pz_tt g i).testBit d && pz_lt (pz_d0 g (pz_tt g i)) (pz_d0 g (pz_fl g (pz_tt g i) d))) (pz_nd g) 0 = d at h1
        have h2 := pz_lt_e h1.2
        obtain ⟨-, -, -, b4, -⟩ := pz_flip hg hm h1.1
        obtain ⟨f1, f2, -⟩ := pz_flip_back hg hm h1.1
        have h3 : pz_d0 g (pz_fl g (pz_tt g i) d) ≤ pz_nd g := pz_rk_le _ _
        have h4 := pz_nd_le hg
        have h5 := hc _ b4 (ih _ b4 (by omega)) _ f1
        rw [f2] at h5
        exact h5
  exact key _ m hm (Nat.le_refl _)
/-- a graph that is built -/
def pz_Gb (h : zq_H) (t g : Nat) (M sl : Nat → Nat) : Prop := pz_HT h t g M sl (pz_cn g) ∧ (∀ m, pz_T g m → ∃ i, i < pz_cn g ∧ M i = m) ∧ ∀ i w, i < pz_cn g → w < g + 1 → ∃ j, j < pz_cn g ∧ M j = pz_fl g (M i) (pz_se (M i) w) ∧ pz_i h (t + 10) (i * (g + 1) + w) = nI j
/-- the edges from what has been gone through -/
def pz_Ed (h : zq_H) (t g : Nat) (M : Nat → Nat) (f : Nat) (D : Nat → Nat → Prop) : Prop := ∀ i w, D i w → w < g + 1 → ∃ j, j < f ∧ M j = pz_fl g (M i) (pz_se (M i) w) ∧ pz_i h (t + 10) (i * (g + 1) + w) = nI j
theorem s_build_in (G : pz_Gs h t g) (H : pz_HT h t g M sl f) {a : Nat} (ha : a < f) (hfan : M 0 = pz_fn g 0) (hE : pz_Ed h t g M f (fun i _ => i < a)) {α : Type} {k : zq_H → Option α} {P : α → Prop} (hk : ∀ h' M' sl' f', pz_gag t h h' → pz_HT h' t g M' sl' f' → a < f' → M' 0 = pz_fn g 0 → pz_Ed h' t g M' f' (fun i _ => i < a + 1) → ∃ y, k h' = some y ∧ P y) :
    ∃ y, (zq_lp (σ := Int32 × Int32 × zq_H) (ρ := zq_H) (fun s_32 => (Option.bind (zq_gi s_32.2.2 t 0 4) fun v_40 => (if v_40 ≤ s_32.2.1 then some (.inr s_32.2.2) else (if s_32.1 = 0 then some (.inr s_32.2.2) else (Option.bind (f_J6_bitCount_0f7a4 s_32.2.2 ((s_32.1 &&& (-s_32.1)) - 1)) fun v_44 => (Option.bind (zq_gr s_32.2.2 t 0 6) fun v_46 => (Option.bind (zq_gi s_32.2.2 t 0 4) fun v_48 => (Option.bind (zq_gr s_32.2.2 t 0 0) fun v_50 => (Option.bind (zq_gr s_32.2.2 t 0 5) fun v_52 => (Option.bind (zq_ai s_32.2.2 v_52 (nI a)) fun v_54 => (zq_ck s_32.2.2 v_50 1 fun _ => (Option.bind (f_X1_flipped s_32.2.2 v_50 v_54 v_44) fun v_56 => (zq_ck s_32.2.2 t 0 fun _ => (Option.bind (f_X0_indexOrNew s_32.2.2 t v_56) fun v_59 => (Option.bind (zq_si v_59.2 v_46 (((nI a) * v_48) + s_32.2.1) v_59.1) fun h_62 => (zq_let (s_32.1 &&& (s_32.1 - 1)) fun v_64 => (zq_let (s_32.2.1 + 1) fun v_66 => some (.inl (v_64, v_66, h_62))))))))))))))))))) zq_N (nI (M a), 0, h)).bind k = some y ∧ P y := by
  have hg := G.1.1
  have hcn := pz_cn_le hg
  have hnd := pz_nd_le hg
  have hTa := (H.2.2.1 a ha).2
  generalize hma : M a = m at hTa
  obtain ⟨r1, r2, r3, r4⟩ := pz_bits hg hTa
  have hm27 := pz_T_27 hg hTa
  refine pz_lpIB (fun w s => s.1 = nI (pz_rs m w) ∧ s.2.1 = nI w ∧ pz_gag t h s.2.2 ∧ ∃ M' sl' f', pz_HT s.2.2 t g M' sl' f' ∧ a < f' ∧ M' a = m ∧ M' 0 = pz_fn g 0 ∧ pz_Ed s.2.2 t g M' f' (fun i w' => i < a ∨ (i = a ∧ w' < w))) (g + 1) (fun h' => pz_gag t h h' ∧ ∃ M' sl' f', pz_HT h' t g M' sl' f' ∧ a < f' ∧ M' 0 = pz_fn g 0 ∧ pz_Ed h' t g M' f' (fun i _ => i < a + 1)) ?_ ?_ ?_ ?_ (by omega)
  · rintro h' ⟨q1, M', sl', f', q2, q3, q4, q5⟩
    exact hk h' M' sl' f' q1 q2 q3 q4 q5
  · exact ⟨rfl, rfl, pz_gag.rf, M, sl, f, H, ha, hma, hfan, fun i w hD hw => hE i w (hD.elim id (fun q => absurd q.2 (Nat.not_lt_zero _))) hw⟩
  · rintro w ⟨x, y, k0⟩ hw ⟨e1, e2, e3, M', sl', f', e4, e5, e6, e7, e8⟩
    simp only at e1 e2 e3 e4 e5 e8
    subst e1; subst e2
    have G' := G.gag e3
    have P' := G'.2.2.1
    obtain ⟨b1, b2, b3, b4, b5, b6⟩ := r2 w hw
    have hrl := pz_rs_lt hm27 w
    have hp2 : 2 ^ pz_se m w < 134217728 := Nat.pow_lt_pow_right (n := 27) (by omega) (by omega)
    have hp1 : 1 ≤ 2 ^ pz_se m w := Nat.one_le_two_pow
    have hfc : f' ≤ pz_cn g := e4.1
    obtain ⟨-, -, -, hflT, -⟩ := pz_flip hg hTa b4
    have hstart : ∀ {β : Type} (z : Int32 → zq_H → Option β), True := fun _ => trivial
    have hion : ∃ j h1 M1 sl1 f1, f_X0_indexOrNew k0 t (nI (pz_fl g m (pz_se m w))) = some (nI j, h1) ∧ pz_gag t k0 h1 ∧ (∀ q, pz_i h1 (t + 10) q = pz_i k0 (t + 10) q) ∧ pz_HT h1 t g M1 sl1 f1 ∧ j < f1 ∧ f' ≤ f1 ∧ M1 j = pz_fl g m (pz_se m w) ∧ ∀ i, i < f' → M1 i = M' i := by
      by_cases q : ∃ i, i < f' ∧ M' i = pz_fl g m (pz_se m w)
      · obtain ⟨i, q1, q2⟩ := q
        refine ⟨i, k0, M', sl', f', ?_, pz_gag.rf, fun _ => rfl, e4, q1, Nat.le_refl _, q2, fun _ _ => rfl⟩
        rw [← q2]
        exact s_ion_old G' e4 q1
      · have hf : f' < pz_cn g := by
          rcases Nat.lt_or_ge f' (pz_cn g) with u | u
          · exact u
          · exfalso
            have : f' = pz_cn g := by omega
            subst this
            exact q (pz_full hg (fun i hi => (e4.2.2.1 i hi).2) e4.2.2.2.1 hflT)
        obtain ⟨h1, u1, u2, u3, sl1, u4⟩ := s_ion_new G' e4 hflT (fun i hi hM => q ⟨i, hi, hM⟩) hf
        exact ⟨f', h1, _, sl1, f' + 1, u1, u2, u3, u4, by omega, by omega, if_pos rfl, fun i hi => if_neg (by omega)⟩
    obtain ⟨j, h1, M1, sl1, f1, u1, u2, u3, u4, u5, u6, u7, u8⟩ := hion
    have hix := pz_idx_lt (F := g + 1) hw (show a < pz_cn g by omega)
    have hix2 : pz_cn g * (g + 1) ≤ 429 * 6 := Nat.mul_le_mul hcn.1 (by omega)
    have t10 : t + 10 < h1.1 := by rw [u2.1, e3.1]; have := G.2.1; omega
    refine ⟨(nI (pz_rs m (w + 1)), nI (w + 1), pz_S h1 (t + 10) (a * (g + 1) + w) (nI j)), ?_, rfl, rfl, e3.tr (u2.tr (pz_gag.S (Or.inr (Or.inr (Or.inl rfl))))), M1, sl1, f1, ?_, by omega, by rw [u8 a e5]; exact e6, by rw [u8 0 (by omega)]; exact e7, ?_⟩
    · have ema := gq_ma G' e4 e5
      rw [e6] at ema
      simp only [gq_4 G', Option.bind_some]
      rw [if_neg (nI_ge hw (by omega)), if_neg (nI_ne0 b1 (by omega)), pz_loI hrl, b2, show (1 : Int32) = nI 1 from rfl, pk_sub hp1, s_bc (by omega), pz_bc_pow (by omega)]
      simp only [Option.bind_some, gq_6 G', gq_0 G', gq_5 G', ema]
      rw [pq_ck P', s_flipped P' hTa b4, Option.bind_some, gq_ck G', u1, Option.bind_some, pk_mul, nI_add, pz_si t10 G.1.2.2.2.1 hix (by omega), Option.bind_some]
      simp only [zq_let]
      rw [pk_sub b1, pz_and (by omega) (by omega), b6, nI_add]
    · obtain ⟨c1, c2, c3, c4, c5, c6, c7⟩ := u4
      refine ⟨c1, ?_, fun i hi => ?_, c4, fun s hs => ?_, c6, c7⟩
      · rw [pz_S_i, if_neg (by omega)]; exact c2
      · rw [pz_S_i, if_neg (by omega)]; exact c3 i hi
      · rw [pz_S_i, if_neg (by omega)]; exact c5 s hs
    · intro i w' hD hw'
      by_cases q : i = a ∧ w' = w
      · obtain ⟨q1, q2⟩ := q
        subst q1; subst q2
        refine ⟨j, u5, by rw [u8 _ e5, e6]; exact u7, ?_⟩
        rw [pz_S_i, if_pos ⟨rfl, rfl⟩]
      · have hD2 : i < a ∨ (i = a ∧ w' < w) := by
          rcases hD with d | ⟨d1, d2⟩
          · exact Or.inl d
          · exact Or.inr ⟨d1, by omega⟩
        obtain ⟨j', v1, v2, v3⟩ := e8 i w' hD2 hw'
        have hif : i < f' := by omega
        refine ⟨j', by omega, by rw [u8 j' v1, u8 i hif]; exact v2, ?_⟩
        rw [pz_S_i, if_neg (fun r => q (pz_idx hw hw' r.2)), u3]
        exact v3
  · rintro ⟨x, y, k0⟩ ⟨e1, e2, e3, M', sl', f', e4, e5, e6, e7, e8⟩
    simp only at e1 e2 e3 e4 e5 e8
    subst e1; subst e2
    have G' := G.gag e3
    refine ⟨k0, ?_, e3, M', sl', f', e4, e5, e7, fun i w' hD hw' => e8 i w' (by omega) hw'⟩
    simp only [gq_4 G', Option.bind_some]
    rw [if_pos (nI_le (Nat.le_refl _) (by omega))]
theorem s_build_new (G : pz_Gs h t g) (H : pz_HT h t g M (fun _ => 0) 0) : ∃ h', f_X0_build h t = some h' ∧ pz_gag t h h' ∧ ∃ M' sl', pz_Gb h' t g M' sl' := by
  have hg := G.1.1
  have hcn := pz_cn_le hg
  have hT0 := pz_fan hg (show 0 < g + 4 by omega)
  obtain ⟨h1, u1, u2, u3, sl1, u4⟩ := s_ion_new G H hT0 (fun i hi => absurd hi (Nat.not_lt_zero _)) hcn.2
  unfold f_X0_build
  rw [gq_8 G H, Option.bind_some, if_pos (show nI 0 ≤ 0 by decide), gq_0 G, Option.bind_some, pq_ck G.2.2.1, show (0 : Int32) = nI 0 from rfl, s_fanOf G.2.2.1 (by omega), Option.bind_some, gq_ck G, u1, Option.bind_some]
  refine pz_lpMB (fun s => ∃ a f M sl, s.1 = nI a ∧ a ≤ f ∧ 0 < f ∧ pz_gag t h s.2 ∧ pz_HT s.2 t g M sl f ∧ M 0 = pz_fn g 0 ∧ pz_Ed s.2 t g M f (fun i _ => i < a)) (fun s => pz_cn g - s.1.toNatClampNeg) (fun h' => pz_gag t h h' ∧ ∃ f M sl, pz_HT h' t g M sl f ∧ 0 < f ∧ M 0 = pz_fn g 0 ∧ pz_Ed h' t g M f (fun i _ => i < f)) ?_ ?_ (by simp only; omega) ?_
  · rintro h' ⟨q1, f, M', sl', q2, q3, q4, q5⟩
    have hall : ∀ m, pz_T g m → ∃ i, i < f ∧ M' i = m := by
      intro m hm
      refine pz_closed hg (fun m => ∃ i, i < f ∧ M' i = m) ⟨0, q3, q4⟩ ?_ hm
      rintro m hm ⟨i, hi, rfl⟩ d hd
      obtain ⟨-, -, r3, -⟩ := pz_bits hg hm
      obtain ⟨s1, s2⟩ := r3 d (pz_bit_lt (pz_T_lt hg hm) hd) hd
      obtain ⟨j, v1, v2, -⟩ := q5 i (pz_rk (M' i) d) hi s2
      rw [s1] at v2
      exact ⟨j, v1, v2⟩
    have hf : f = pz_cn g := by
      have h1 := pz_pigf (f := fun i => Classical.choose (hall (pz_tt g (if i < pz_cn g then i else 0)) (pz_tt_T (by split <;> omega)))) (k := pz_cn g) (n := f) (fun i j hi hj hij => by
        have a1 := (Classical.choose_spec (hall (pz_tt g (if i < pz_cn g then i else 0)) (pz_tt_T (by split <;> omega)))).2
        have a2 := (Classical.choose_spec (hall (pz_tt g (if j < pz_cn g then j else 0)) (pz_tt_T (by split <;> omega)))).2
        rw [hij, a2] at a1
        rw [if_pos hi, if_pos hj] at a1
        have e1 := (pz_tt_2 hg hi).1
        have e2 := (pz_tt_2 hg hj).1
        rw [← a1, e2] at e1
        omega) (fun i hi => (Classical.choose_spec (hall (pz_tt g (if i < pz_cn g then i else 0)) (pz_tt_T (by split <;> omega)))).1)
      have := q2.1
      omega
    subst hf
    exact ⟨h', rfl, q1, M', sl', q2, hall, fun i w hi hw => q5 i w hi hw⟩
  · exact ⟨0, 1, _, sl1, rfl, by omega, by omega, u2, u4, if_pos rfl, fun i w hD => absurd hD (Nat.not_lt_zero _)⟩
  · rintro ⟨x, k0⟩ ⟨a, f, M', sl', e1, e2, e3, e4, e5, e6, e7⟩
    simp only at e1 e4 e5 e7
    subst e1
    have G' := G.gag e4
    have hfc := e5.1
    rcases Nat.lt_or_ge a f with q | q
    · refine Or.inl ?_
      have := s_build_in G' e5 q e6 e7 (k := fun y_35 : zq_H => (zq_let (nI a + 1) fun v_68 => some ((Sum.inl (v_68, y_35)) : (Int32 × zq_H) ⊕ zq_H))) (P := fun z => ∃ h', z = Sum.inl (nI (a + 1), h') ∧ ∃ f M sl, a + 1 ≤ f ∧ 0 < f ∧ pz_gag t h h' ∧ pz_HT h' t g M sl f ∧ M 0 = pz_fn g 0 ∧ pz_Ed h' t g M f (fun i _ => i < a + 1)) (fun h' M1 sl1 f1 w1 w2 w3 w4 w5 => ⟨Sum.inl (nI (a + 1), h'), by simp only [zq_let, nI_1], h', rfl, f1, M1, sl1, by omega, by omega, e4.tr w1, w2, w4, w5⟩)
      obtain ⟨y, v1, h', rfl, f1, M1, sl2, v2, v3, v4, v5, v6, v7⟩ := this
      refine ⟨(nI (a + 1), h'), ?_, ⟨a + 1, f1, M1, sl2, rfl, v2, v3, v4, v5, v6, v7⟩, ?_⟩
      · simp only [gq_8 G' e5, Option.bind_some]
        rw [if_neg (nI_ge q (by omega))]
        simp only [gq_5 G', Option.bind_some, gq_an9 G']
        rw [if_neg (nI_ge (by omega) (by omega))]
        simp only [gq_ma G' e5 q, Option.bind_some]
        exact v1
      · simp only
        rw [nI_clamp (by omega), nI_clamp (by omega)]
        omega
    · refine Or.inr ⟨k0, ?_, e4, f, M', sl', e5, e3, e6, fun i w hD hw => e7 i w (by omega) hw⟩
      simp only [gq_8 G' e5, Option.bind_some]
      rw [if_pos (nI_le q (by omega))]
theorem s_build_old (G : pz_Gs h t g) (B : pz_Gb h t g M sl) : f_X0_build h t = some h := by
  have hcn := pz_cn_le G.1.1
  unfold f_X0_build
  rw [gq_8 G B.1, Option.bind_some, if_neg (nI_nle hcn.2 (by omega))]
theorem gq_an10 (G : pz_Gs h t g) : zq_an h (t + 10) = some (nI (pz_cn g * (g + 1))) := pz_an (by have := G.2.1; omega) G.1.2.2.2.1 (by omega) (by omega)
theorem s_neighborOf (G : pz_Gs h t g) {i w : Nat} (hi : i < pz_cn g) (hw : w < g + 1) : f_X0_neighborOf h t (nI i) (nI w) = some (pz_i h (t + 10) (i * (g + 1) + w)) := by
  have hcn := pz_cn_le G.1.1
  have hg := G.1.1
  have hix2 : pz_cn g * (g + 1) ≤ 429 * 6 := Nat.mul_le_mul hcn.1 (by omega)
  have hx := pz_idx_lt hw hi
  unfold f_X0_neighborOf
  rw [gq_4 G, Option.bind_some, pk_mul, nI_add]
  simp only [zq_let]
  rw [if_neg (nI_pos (by omega)), gq_6 G, Option.bind_some, gq_an10 G, Option.bind_some, if_neg (nI_ge hx (by omega)), Option.bind_some, pz_ai (by have := G.2.1; omega) G.1.2.2.2.1 hx (by omega)]
  rfl
theorem s_maskAt (G : pz_Gs h t g) (B : pz_Gb h t g M sl) {i : Nat} (hi : i < pz_cn g) : f_X0_maskAt h t (nI i) = some (nI (M i)) := by
  have hcn := pz_cn_le G.1.1
  have ema := gq_ma G B.1 hi
  unfold f_X0_maskAt
  rw [if_neg (nI_pos (by omega)), gq_5 G, Option.bind_some, gq_an9 G, Option.bind_some, if_neg (nI_ge hi (by omega)), Option.bind_some, ema]
  rfl
theorem s_maskAt0 (G : pz_Gs h t g) {i : Nat} (hi : pz_cn g ≤ i) (h2 : i < 1000) : f_X0_maskAt h t (nI i) = some 0 := by
  have hcn := pz_cn_le G.1.1
  unfold f_X0_maskAt
  rw [if_neg (nI_pos (by omega)), gq_5 G, Option.bind_some, gq_an9 G, Option.bind_some, if_pos (nI_le hi (by omega))]
end PZB
