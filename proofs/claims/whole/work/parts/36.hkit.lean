/-! heaps: reading and writing, what agrees; small functions of both; the class' polygons -/
def pz_i (h : zq_H) (t j : Nat) : Int32 := h.2.1 t j
def pz_j (h : zq_H) (t j : Nat) : Int64 := h.2.2.1 t j
def pz_r (h : zq_H) (t j : Nat) : Option Nat := h.2.2.2 t j
def pz_S (h : zq_H) (t j : Nat) (v : Int32) : zq_H := (h.1, zq_up h.2.1 t j v, h.2.2)
def pz_L (h : zq_H) (t j : Nat) (v : Int64) : zq_H := (h.1, h.2.1, zq_up h.2.2.1 t j v, h.2.2.2)
def pz_R (h : zq_H) (t j : Nat) (v : Nat) : zq_H := (h.1, h.2.1, h.2.2.1, zq_up h.2.2.2 t j (some v))
theorem pz_S_1 (h : zq_H) (t j : Nat) (v : Int32) : (pz_S h t j v).1 = h.1 := rfl
theorem pz_L_1 (h : zq_H) (t j : Nat) (v : Int64) : (pz_L h t j v).1 = h.1 := rfl
theorem pz_R_1 (h : zq_H) (t j v : Nat) : (pz_R h t j v).1 = h.1 := rfl
theorem pz_S_i (h : zq_H) (t j : Nat) (v : Int32) (a b : Nat) : pz_i (pz_S h t j v) a b = if a = t ∧ b = j then v else pz_i h a b := rfl
theorem pz_S_j (h : zq_H) (t j : Nat) (v : Int32) (a b : Nat) : pz_j (pz_S h t j v) a b = pz_j h a b := rfl
theorem pz_S_r (h : zq_H) (t j : Nat) (v : Int32) (a b : Nat) : pz_r (pz_S h t j v) a b = pz_r h a b := rfl
theorem pz_L_i (h : zq_H) (t j : Nat) (v : Int64) (a b : Nat) : pz_i (pz_L h t j v) a b = pz_i h a b := rfl
theorem pz_L_j (h : zq_H) (t j : Nat) (v : Int64) (a b : Nat) : pz_j (pz_L h t j v) a b = if a = t ∧ b = j then v else pz_j h a b := rfl
theorem pz_L_r (h : zq_H) (t j : Nat) (v : Int64) (a b : Nat) : pz_r (pz_L h t j v) a b = pz_r h a b := rfl
theorem pz_R_i (h : zq_H) (t j v : Nat) (a b : Nat) : pz_i (pz_R h t j v) a b = pz_i h a b := rfl
theorem pz_R_j (h : zq_H) (t j v : Nat) (a b : Nat) : pz_j (pz_R h t j v) a b = pz_j h a b := rfl
theorem pz_R_r (h : zq_H) (t j v : Nat) (a b : Nat) : pz_r (pz_R h t j v) a b = if a = t ∧ b = j then some v else pz_r h a b := rfl
section PZK
variable {h : zq_H} {t c j : Nat}
theorem pz_gi (ht : t < h.1) (hs : (zq_sh t).1 = c) : zq_gi h t c j = some (pz_i h t j) := if_pos ⟨ht, hs⟩
theorem pz_gl (ht : t < h.1) (hs : (zq_sh t).1 = c) : zq_gl h t c j = some (pz_j h t j) := if_pos ⟨ht, hs⟩
theorem pz_gr (ht : t < h.1) (hs : (zq_sh t).1 = c) : zq_gr h t c j = pz_r h t j := if_pos ⟨ht, hs⟩
theorem pz_gq (ht : t < h.1) (hs : (zq_sh t).1 = c) : zq_gq h t c j = some (pz_r h t j) := if_pos ⟨ht, hs⟩
theorem pz_pi (ht : t < h.1) (hs : (zq_sh t).1 = c) (v : Int32) : zq_pi h t c j v = some (pz_S h t j v) := if_pos ⟨ht, hs⟩
theorem pz_pl (ht : t < h.1) (hs : (zq_sh t).1 = c) (v : Int64) : zq_pl h t c j v = some (pz_L h t j v) := if_pos ⟨ht, hs⟩
theorem pz_pr (ht : t < h.1) (hs : (zq_sh t).1 = c) (v : Nat) : zq_pr h t c j v = some (pz_R h t j v) := if_pos ⟨ht, hs⟩
theorem pz_ck {α : Type} {f : Unit → Option α} (ht : t < h.1) (hs : (zq_sh t).1 = c) : zq_ck h t c f = f () := if_pos ⟨ht, hs⟩
theorem pz_ai {L i : Nat} (ht : t < h.1) (hs : zq_sh t = (10, L)) (hi : i < L) (hL : L < 2147483648) : zq_ai h t (nI i) = some (pz_i h t i) := by
  unfold zq_ai
  rw [hs]
  have h1 := nI_clamp (n := i) (Nat.lt_trans hi hL)
  rw [if_pos ⟨ht, rfl, nI_in hi hL⟩, h1]
  rfl
theorem pz_si {L i : Nat} (ht : t < h.1) (hs : zq_sh t = (10, L)) (hi : i < L) (hL : L < 2147483648) (v : Int32) : zq_si h t (nI i) v = some (pz_S h t i v) := by
  unfold zq_si
  rw [hs]
  have h1 := nI_clamp (n := i) (Nat.lt_trans hi hL)
  rw [if_pos ⟨ht, rfl, nI_in hi hL⟩, h1]
  rfl
theorem pz_aq {L i : Nat} (ht : t < h.1) (hs : zq_sh t = (c, L)) (hi : i < L) (hL : L < 2147483648) : zq_aq h t c (nI i) = pz_r h t i := by
  unfold zq_aq
  rw [hs]
  have h1 := nI_clamp (n := i) (Nat.lt_trans hi hL)
  rw [if_pos ⟨ht, rfl, nI_in hi hL⟩, h1]
  rfl
theorem pz_an {L : Nat} (ht : t < h.1) (hs : zq_sh t = (c, L)) (h1 : 10 ≤ c) (h2 : c ≤ 13) : zq_an h t = some (nI L) := by
  unfold zq_an
  rw [hs]
  exact if_pos ⟨ht, h1, h2⟩
end PZK
/-- two heaps that are the same at the places of P -/
def pz_ag (P : Nat → Prop) (h h' : zq_H) : Prop := h'.1 = h.1 ∧ ∀ t, P t → ∀ j, pz_i h' t j = pz_i h t j ∧ pz_j h' t j = pz_j h t j ∧ pz_r h' t j = pz_r h t j
theorem pz_ag.rf {P : Nat → Prop} {h : zq_H} : pz_ag P h h := ⟨rfl, fun _ _ _ => ⟨rfl, rfl, rfl⟩⟩
theorem pz_ag.tr {P : Nat → Prop} {a b c : zq_H} (h1 : pz_ag P a b) (h2 : pz_ag P b c) : pz_ag P a c :=
  ⟨h2.1.trans h1.1, fun t ht j => ⟨((h2.2 t ht j).1).trans (h1.2 t ht j).1, ((h2.2 t ht j).2.1).trans (h1.2 t ht j).2.1, ((h2.2 t ht j).2.2).trans (h1.2 t ht j).2.2⟩⟩
theorem pz_ag.mono {P Q : Nat → Prop} {a b : zq_H} (h : pz_ag P a b) (hq : ∀ t, Q t → P t) : pz_ag Q a b := ⟨h.1, fun t ht => h.2 t (hq t ht)⟩
theorem pz_ag.i {P : Nat → Prop} {a b : zq_H} (h : pz_ag P a b) {t : Nat} (ht : P t) (j : Nat) : pz_i b t j = pz_i a t j := (h.2 t ht j).1
theorem pz_ag.j {P : Nat → Prop} {a b : zq_H} (h : pz_ag P a b) {t : Nat} (ht : P t) (j : Nat) : pz_j b t j = pz_j a t j := (h.2 t ht j).2.1
theorem pz_ag.r {P : Nat → Prop} {a b : zq_H} (h : pz_ag P a b) {t : Nat} (ht : P t) (j : Nat) : pz_r b t j = pz_r a t j := (h.2 t ht j).2.2
theorem pz_ag.S {P : Nat → Prop} {h : zq_H} {t j : Nat} {v : Int32} (ht : ¬ P t) : pz_ag P h (pz_S h t j v) :=
  ⟨rfl, fun a ha b => ⟨by rw [pz_S_i, if_neg (fun e => ht (by rw [← e.1]; exact ha))], rfl, rfl⟩⟩
theorem pz_ag.L {P : Nat → Prop} {h : zq_H} {t j : Nat} {v : Int64} (ht : ¬ P t) : pz_ag P h (pz_L h t j v) :=
  ⟨rfl, fun a ha b => ⟨rfl, by rw [pz_L_j, if_neg (fun e => ht (by rw [← e.1]; exact ha))], rfl⟩⟩
theorem pz_ag.R {P : Nat → Prop} {h : zq_H} {t j v : Nat} (ht : ¬ P t) : pz_ag P h (pz_R h t j v) :=
  ⟨rfl, fun a ha b => ⟨rfl, rfl, by rw [pz_R_r, if_neg (fun e => ht (by rw [← e.1]; exact ha))]⟩⟩
theorem pz_bindE {α β : Type} {x : Option α} {f : α → Option β} {Q : α → Prop} {P : β → Prop} (h : ∃ r, x = some r ∧ Q r) (hf : ∀ r, Q r → ∃ y, f r = some y ∧ P y) : ∃ y, x.bind f = some y ∧ P y := by
  obtain ⟨r, h1, h2⟩ := h
  rw [h1]
  exact hf r h2
theorem pz_lpB {σ ρ τ : Type} {b : σ → Option (σ ⊕ ρ)} {f : ρ → Option τ} {y : Option τ} (st : Nat → σ) (n : Nat) {r : ρ} {s0 : σ} (hf : f r = y) (h0 : s0 = st 0) (hs : ∀ i, i < n → b (st i) = some (.inl (st (i + 1)))) (he : b (st n) = some (.inr r)) (hN : n < 4294967296) : (zq_lp b zq_N s0).bind f = y := by
  rw [pz_lp st n h0 hs he hN]
  exact hf
theorem pz_lpIB {σ ρ τ : Type} {b : σ → Option (σ ⊕ ρ)} {f : ρ → Option τ} {P : τ → Prop} (I : Nat → σ → Prop) (n : Nat) (Q : ρ → Prop) {s0 : σ} (hf : ∀ r, Q r → ∃ y, f r = some y ∧ P y) (h0 : I 0 s0) (hs : ∀ i s, i < n → I i s → ∃ s', b s = some (.inl s') ∧ I (i + 1) s') (he : ∀ s, I n s → ∃ r, b s = some (.inr r) ∧ Q r) (hN : n < 4294967296) : ∃ y, (zq_lp b zq_N s0).bind f = some y ∧ P y :=
  pz_bindE (pz_lpI I n Q h0 hs he hN) hf
theorem pz_lpMB {σ ρ τ : Type} {b : σ → Option (σ ⊕ ρ)} {f : ρ → Option τ} {P : τ → Prop} (I : σ → Prop) (μ : σ → Nat) (Q : ρ → Prop) {s0 : σ} (hf : ∀ r, Q r → ∃ y, f r = some y ∧ P y) (h0 : I s0) (hN : μ s0 < 4294967296) (hs : ∀ s, I s → (∃ s', b s = some (.inl s') ∧ I s' ∧ μ s' < μ s) ∨ ∃ r, b s = some (.inr r) ∧ Q r) : ∃ y, (zq_lp b zq_N s0).bind f = some y ∧ P y :=
  pz_bindE (pz_lpM I μ Q h0 hN hs) hf
/-! small functions -/
theorem s_isIn {h : zq_H} {m d : Nat} (hm : m < 2147483648) (hd : d < 32) : f_X5_isIn h (nI m) (nI d) = some (m.testBit d) := by
  unfold f_X5_isIn
  simp only [pz_has hm hd]
  cases m.testBit d <;> rfl
theorem s_has {h : zq_H} {m d : Nat} (hm : m < 2147483648) (hd : d < 32) : f_X6_has h (nI m) (nI d) = some (m.testBit d) := by
  unfold f_X6_has
  simp only [pz_has hm hd]
  cases m.testBit d <;> rfl
/-- from 0 to below n -/
def pz_inb (n : Nat) (x : Int32) : Bool := decide (¬ x < 0 ∧ ¬ nI n ≤ x)
theorem pz_inb_nI {n a : Nat} (hn : n < 2147483648) (ha : a < 2147483648) : pz_inb n (nI a) = decide (a < n) := by
  unfold pz_inb
  congr 1
  rw [nI_leI hn ha]
  exact propext ⟨fun h => by omega, fun h => ⟨nI_pos ha, by omega⟩⟩
theorem pz_inb_of {n : Nat} {x : Int32} (hn : n < 2147483648) (h : pz_inb n x = true) : ∃ a, a < n ∧ x = nI a := by
  have h := of_decide_eq_true h
  rcases pk_ix x hn with h1 | h1 | h1
  · exact absurd h1 h.1
  · exact absurd h1 h.2
  · exact h1
theorem s_bc {h : zq_H} {x : Nat} (hx : x < 4294967296) : f_J6_bitCount_0f7a4 h (nI x) = some (nI (pz_bc x)) := by
  have a1 : x / 2 &&& 1431655765 ≤ x := Nat.le_trans Nat.and_le_left (Nat.div_le_self _ _)
  have b1 : pz_b1 x < 4294967296 := by unfold pz_b1; omega
  have b2 : pz_b2 (pz_b1 x) < 1717986919 := by
    unfold pz_b2
    have h1 : pz_b1 x &&& 858993459 ≤ 858993459 := Nat.and_le_right
    have h2 : pz_b1 x / 4 &&& 858993459 ≤ 858993459 := Nat.and_le_right
    omega
  have b3 : pz_b3 (pz_b2 (pz_b1 x)) ≤ 252645135 := Nat.and_le_right
  have b4 : pz_b4 (pz_b3 (pz_b2 (pz_b1 x))) ≤ 300000000 := by unfold pz_b4; omega
  have s1 : ((nI x).toUInt32 >>> ((1 : Int32).toUInt32 &&& Int32.toUInt32 31)).toInt32 = nI (x / 2 ^ 1) := pk_ushrN hx 1 1 (by decide)
  have s2 : ((nI (pz_b1 x)).toUInt32 >>> ((2 : Int32).toUInt32 &&& Int32.toUInt32 31)).toInt32 = nI (pz_b1 x / 2 ^ 2) := pk_ushrN b1 2 2 (by decide)
  have s3 : ((nI (pz_b2 (pz_b1 x))).toUInt32 >>> ((4 : Int32).toUInt32 &&& Int32.toUInt32 31)).toInt32 = nI (pz_b2 (pz_b1 x) / 2 ^ 4) := pk_ushrN (by omega) 4 4 (by decide)
  have s4 : ((nI (pz_b3 (pz_b2 (pz_b1 x)))).toUInt32 >>> ((8 : Int32).toUInt32 &&& Int32.toUInt32 31)).toInt32 = nI (pz_b3 (pz_b2 (pz_b1 x)) / 2 ^ 8) := pk_ushrN (by omega) 8 8 (by decide)
  have s5 : ((nI (pz_b4 (pz_b3 (pz_b2 (pz_b1 x))))).toUInt32 >>> ((16 : Int32).toUInt32 &&& Int32.toUInt32 31)).toInt32 = nI (pz_b4 (pz_b3 (pz_b2 (pz_b1 x))) / 2 ^ 16) := pk_ushrN (by omega) 16 16 (by decide)
  have c1 : nI x - (nI (x / 2 ^ 1) &&& 1431655765) = nI (pz_b1 x) := by
    rw [show (1431655765 : Int32) = nI 1431655765 from rfl, pz_and (by omega) (by omega), pk_sub a1]
    rfl
  have c2 : (nI (pz_b1 x) &&& 858993459) + (nI (pz_b1 x / 2 ^ 2) &&& 858993459) = nI (pz_b2 (pz_b1 x)) := by
    rw [show (858993459 : Int32) = nI 858993459 from rfl, pz_and b1 (by omega), pz_and (by omega) (by omega), nI_add]
    rfl
  have c3 : (nI (pz_b2 (pz_b1 x)) + nI (pz_b2 (pz_b1 x) / 2 ^ 4)) &&& 252645135 = nI (pz_b3 (pz_b2 (pz_b1 x))) := by
    rw [show (252645135 : Int32) = nI 252645135 from rfl, nI_add, pz_and (by omega) (by omega)]
    rfl
  have c4 : nI (pz_b3 (pz_b2 (pz_b1 x))) + nI (pz_b3 (pz_b2 (pz_b1 x)) / 2 ^ 8) = nI (pz_b4 (pz_b3 (pz_b2 (pz_b1 x)))) := nI_add _ _
  have c5 : nI (pz_b4 (pz_b3 (pz_b2 (pz_b1 x)))) + nI (pz_b4 (pz_b3 (pz_b2 (pz_b1 x))) / 2 ^ 16) = nI (pz_b5 (pz_b4 (pz_b3 (pz_b2 (pz_b1 x))))) := nI_add _ _
  unfold f_J6_bitCount_0f7a4
  simp only [zq_let]
  rw [s1, c1, s2, c2, s3, c3, s4, c4, s5, c5, show (63 : Int32) = nI 63 from rfl, pz_and (by unfold pz_b5; omega) (by omega)]
  rfl
theorem s_ones {h : zq_H} {m : Nat} (hm : m < 2147483648) : f_X6_ones h (nI m) = some (nI (pz_rk m 27)) := by
  unfold f_X6_ones
  refine pz_lpB (fun i => (nI (pz_rk m i), nI i)) 27 (r := nI (pz_rk m 27)) rfl rfl ?_ ?_ (by omega)
  · intro i hi
    simp only [zq_let]
    rw [if_neg (show ¬ (27 : Int32) ≤ nI i from nI_ge (a := i) (b := 27) hi (by omega)), pz_hasE hm (by omega), nI_add, nI_1]
    rfl
  · exact if_pos (show (27 : Int32) ≤ nI 27 from nI_le (Nat.le_refl _) (by omega))
theorem s_fill {h : zq_H} {r L : Nat} (hr : r < h.1) (hs : zq_sh r = (10, L)) (hL : L < 2147483648) (v : Int32) : ∃ h', f_J7_fill_53178 h r v = some h' ∧ (∀ j, j < L → pz_i h' r j = v) ∧ (∀ t j, t ≠ r → pz_i h' t j = pz_i h t j) ∧ h'.1 = h.1 ∧ h'.2.2 = h.2.2 := by
  unfold f_J7_fill_53178
  rw [pz_an hr hs (by omega) (by omega), Option.bind_some]
  refine pz_lpIB (fun i s => s.1 = nI i ∧ (∀ j, j < i → pz_i s.2 r j = v) ∧ (∀ t j, t ≠ r → pz_i s.2 t j = pz_i h t j) ∧ s.2.1 = h.1 ∧ s.2.2.2 = h.2.2) L (fun h' => (∀ j, j < L → pz_i h' r j = v) ∧ (∀ t j, t ≠ r → pz_i h' t j = pz_i h t j) ∧ h'.1 = h.1 ∧ h'.2.2 = h.2.2)
    (fun r h => ⟨r, rfl, h⟩) ⟨rfl, fun j hj => absurd hj (Nat.not_lt_zero _), fun _ _ _ => rfl, rfl, rfl⟩ ?_ ?_ (by omega)
  · rintro i ⟨x, k⟩ hi ⟨e1, e2, e3, e4, e5⟩
    simp only at e1 e2 e3 e4 e5
    subst e1
    refine ⟨(nI (i + 1), pz_S k r i v), ?_, rfl, ?_, ?_, e4, e5⟩
    · rw [if_neg (show ¬ nI L ≤ nI i from nI_ge hi hL), pz_si (by rw [e4]; exact hr) hs hi hL, Option.bind_some]
      simp only [zq_let, nI_1]
    · intro j hj
      rw [pz_S_i]
      by_cases e : j = i
      · rw [if_pos ⟨rfl, e⟩]
      · rw [if_neg (fun q => e q.2)]
        exact e2 j (by omega)
    · intro t j ht
      rw [pz_S_i, if_neg (fun q => ht q.1)]
      exact e3 t j ht
  · rintro ⟨x, k⟩ ⟨e1, e2, e3, e4, e5⟩
    simp only at e1 e2 e3 e4 e5
    subst e1
    exact ⟨k, if_pos (nI_le (Nat.le_refl _) hL), e2, e3, e4, e5⟩
