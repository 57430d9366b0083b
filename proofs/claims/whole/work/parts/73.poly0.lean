/-! a polygon is made: diagonals are named -/
def pz_fx (g c : Nat) : Nat → Nat
  | 0 => 0
  | d + 1 => pz_fx g c d ||| (bif Nat.beq (pz_dl g d) c || Nat.beq (pz_dg g d) c then 2 ^ d else 0)
def pz_k26 (g : Nat) : Bool := pz_al (fun c => Nat.beq (pz_fx g c (pz_nd g)) (pz_fn g c)) (g + 4)
theorem pz_K26 : ∀ g, g < 6 → pz_k26 g = true := by decide +kernel
theorem pz_fx_s (g c d : Nat) : pz_fx g c (d + 1) = pz_fx g c d ||| (if pz_dl g d = c ∨ pz_dg g d = c then 2 ^ d else 0) := by
  show pz_fx g c d ||| (bif Nat.beq (pz_dl g d) c || Nat.beq (pz_dg g d) c then 2 ^ d else 0) = _
  have hb : ∀ a b : Nat, Nat.beq a b = decide (a = b) := fun a b => by
    cases q : Nat.beq a b with
    | true => exact (decide_eq_true (Nat.eq_of_beq_eq_true q)).symm
    | false => exact (decide_eq_false (fun r => by rw [r, Nat.beq_refl] at q; cases q)).symm
  rw [hb, hb]
  by_cases q1 : pz_dl g d = c
  · rw [decide_eq_true q1, Bool.true_or, cond_true, if_pos (Or.inl q1)]
  · rw [decide_eq_false q1, Bool.false_or]
    by_cases q2 : pz_dg g d = c
    · rw [decide_eq_true q2, cond_true, if_pos (Or.inr q2)]
    · rw [decide_eq_false q2, cond_false, if_neg (fun r => r.elim q1 q2)]
theorem pz_fx_lt (g c : Nat) : ∀ d, d ≤ 27 → pz_fx g c d < 134217728
  | 0, _ => by show 0 < 134217728; omega
  | d + 1, h => by
    rw [pz_fx_s]
    have := pz_fx_lt g c d (by omega)
    refine Nat.or_lt_two_pow (n := 27) this ?_
    split
    · exact Nat.pow_lt_pow_right (n := 27) (by omega) (by omega)
    · omega
def pz_P0 (h : zq_H) (t g : Nat) : Prop := pz_Sg g t ∧ t + 7 < h.1 ∧ pz_i h t 0 = nI (g + 4) ∧ pz_i h t 1 = nI (pz_nd g) ∧ (pz_r h t 2 = some (t + 1) ∧ pz_r h t 3 = some (t + 2) ∧ pz_r h t 4 = some (t + 3) ∧ pz_r h t 5 = some (t + 4) ∧ pz_r h t 6 = some (t + 5) ∧ pz_r h t 7 = some (t + 6) ∧ pz_r h t 8 = some (t + 7))
/-- only the polygon's arrays differ -/
def pz_pf (t : Nat) (h h' : zq_H) : Prop := h'.1 = h.1 ∧ h'.2.2 = h.2.2 ∧ ∀ a j, (a < t + 1 ∨ t + 7 < a) → pz_i h' a j = pz_i h a j
section PZP0
variable {h : zq_H} {t g : Nat}
theorem pz_pf.rf : pz_pf t h h := ⟨rfl, rfl, fun _ _ _ => rfl⟩
theorem pz_pf.tr {a b c : zq_H} (h1 : pz_pf t a b) (h2 : pz_pf t b c) : pz_pf t a c := ⟨h2.1.trans h1.1, h2.2.1.trans h1.2.1, fun x j k => (h2.2.2 x j k).trans (h1.2.2 x j k)⟩
theorem pz_pf.S {a j : Nat} {v : Int32} (h1 : t + 1 ≤ a) (h2 : a ≤ t + 7) : pz_pf t h (pz_S h a j v) := ⟨rfl, rfl, fun x y k => by rw [pz_S_i, if_neg (by omega)]⟩
theorem pz_P0.pf {h' : zq_H} (P : pz_P0 h t g) (l : pz_pf t h h') : pz_P0 h' t g := by
  obtain ⟨p1, p2, p3, p4, p5⟩ := P
  refine ⟨p1, by rw [l.1]; exact p2, by rw [l.2.2 t 0 (by omega)]; exact p3, by rw [l.2.2 t 1 (by omega)]; exact p4, ?_⟩
  unfold pz_r at p5 ⊢
  rw [l.2.1]
  exact p5
theorem oq_0 (P : pz_P0 h t g) : zq_gi h t 1 0 = some (nI (g + 4)) := by rw [pz_gi (by have := P.2.1; omega) (by rw [P.1.2.1]), P.2.2.1]
theorem oq_1 (P : pz_P0 h t g) : zq_gi h t 1 1 = some (nI (pz_nd g)) := by rw [pz_gi (by have := P.2.1; omega) (by rw [P.1.2.1]), P.2.2.2.1]
theorem oq_2 (P : pz_P0 h t g) : zq_gr h t 1 2 = some (t + 1) := by rw [pz_gr (by have := P.2.1; omega) (by rw [P.1.2.1]), P.2.2.2.2.1]
theorem oq_3 (P : pz_P0 h t g) : zq_gr h t 1 3 = some (t + 2) := by rw [pz_gr (by have := P.2.1; omega) (by rw [P.1.2.1]), P.2.2.2.2.2.1]
theorem oq_4 (P : pz_P0 h t g) : zq_gr h t 1 4 = some (t + 3) := by rw [pz_gr (by have := P.2.1; omega) (by rw [P.1.2.1]), P.2.2.2.2.2.2.1]
theorem oq_5 (P : pz_P0 h t g) : zq_gr h t 1 5 = some (t + 4) := by rw [pz_gr (by have := P.2.1; omega) (by rw [P.1.2.1]), P.2.2.2.2.2.2.2.1]
theorem oq_6 (P : pz_P0 h t g) : zq_gr h t 1 6 = some (t + 5) := by rw [pz_gr (by have := P.2.1; omega) (by rw [P.1.2.1]), P.2.2.2.2.2.2.2.2.1]
theorem oq_7 (P : pz_P0 h t g) : zq_gr h t 1 7 = some (t + 6) := by rw [pz_gr (by have := P.2.1; omega) (by rw [P.1.2.1]), P.2.2.2.2.2.2.2.2.2.1]
theorem oq_8 (P : pz_P0 h t g) : zq_gr h t 1 8 = some (t + 7) := by rw [pz_gr (by have := P.2.1; omega) (by rw [P.1.2.1]), P.2.2.2.2.2.2.2.2.2.2]
theorem oq_ck {α : Type} {f : Unit → Option α} (P : pz_P0 h t g) : zq_ck h t 1 f = f () := pz_ck (by have := P.2.1; omega) (by rw [P.1.2.1])
theorem oq_nd (P : pz_P0 h t g) : pz_nd g ≤ 27 := pz_nd_le P.1.1
theorem oa_1 (P : pz_P0 h t g) {d : Nat} (hd : d < pz_nd g) : zq_ai h (t + 1) (nI d) = some (pz_i h (t + 1) d) := pz_ai (by have := P.2.1; omega) P.1.2.2.1 hd (by have := oq_nd P; omega)
theorem oa_2 (P : pz_P0 h t g) {d : Nat} (hd : d < pz_nd g) : zq_ai h (t + 2) (nI d) = some (pz_i h (t + 2) d) := pz_ai (by have := P.2.1; omega) P.1.2.2.2.1 hd (by have := oq_nd P; omega)
theorem oa_4 (P : pz_P0 h t g) {c : Nat} (hc : c < g + 4) : zq_ai h (t + 4) (nI c) = some (pz_i h (t + 4) c) := pz_ai (by have := P.2.1; omega) P.1.2.2.2.2.2.1 hc (by have := P.1.1; omega)
theorem oa_5 (P : pz_P0 h t g) {d : Nat} (hd : d < pz_nd g) : zq_ai h (t + 5) (nI d) = some (pz_i h (t + 5) d) := pz_ai (by have := P.2.1; omega) P.1.2.2.2.2.2.2.1 hd (by have := oq_nd P; omega)
theorem pz_sq_lt (hg : g < 6) {a b : Nat} (ha : a < g + 4) (hb : b < g + 4) : a * (g + 4) + b < (g + 4) * (g + 4) ∧ (g + 4) * (g + 4) ≤ 81 := by
  have h1 : a * (g + 4) + b < (a + 1) * (g + 4) := by rw [Nat.succ_mul]; omega
  have h2 : (a + 1) * (g + 4) ≤ (g + 4) * (g + 4) := Nat.mul_le_mul_right _ ha
  have h3 : (g + 4) * (g + 4) ≤ 9 * 9 := Nat.mul_le_mul (by omega) (by omega)
  omega
theorem oa_3 (P : pz_P0 h t g) {a b : Nat} (ha : a < g + 4) (hb : b < g + 4) : zq_ai h (t + 3) (nI (a * (g + 4) + b)) = some (pz_i h (t + 3) (a * (g + 4) + b)) := pz_ai (by have := P.2.1; omega) P.1.2.2.2.2.1 (pz_sq_lt P.1.1 ha hb).1 (by have := (pz_sq_lt P.1.1 ha hb).2; omega)
theorem os_1 (P : pz_P0 h t g) {d : Nat} (hd : d < pz_nd g) (v : Int32) : zq_si h (t + 1) (nI d) v = some (pz_S h (t + 1) d v) := pz_si (by have := P.2.1; omega) P.1.2.2.1 hd (by have := oq_nd P; omega) v
theorem os_2 (P : pz_P0 h t g) {d : Nat} (hd : d < pz_nd g) (v : Int32) : zq_si h (t + 2) (nI d) v = some (pz_S h (t + 2) d v) := pz_si (by have := P.2.1; omega) P.1.2.2.2.1 hd (by have := oq_nd P; omega) v
theorem os_4 (P : pz_P0 h t g) {c : Nat} (hc : c < g + 4) (v : Int32) : zq_si h (t + 4) (nI c) v = some (pz_S h (t + 4) c v) := pz_si (by have := P.2.1; omega) P.1.2.2.2.2.2.1 hc (by have := P.1.1; omega) v
theorem os_5 (P : pz_P0 h t g) {d : Nat} (hd : d < pz_nd g) (v : Int32) : zq_si h (t + 5) (nI d) v = some (pz_S h (t + 5) d v) := pz_si (by have := P.2.1; omega) P.1.2.2.2.2.2.2.1 hd (by have := oq_nd P; omega) v
theorem os_6 (P : pz_P0 h t g) {d : Nat} (hd : d < pz_nd g) (v : Int32) : zq_si h (t + 6) (nI d) v = some (pz_S h (t + 6) d v) := pz_si (by have := P.2.1; omega) P.1.2.2.2.2.2.2.2.1 hd (by have := oq_nd P; omega) v
theorem os_7 (P : pz_P0 h t g) {d : Nat} (hd : d < pz_nd g) (v : Int32) : zq_si h (t + 7) (nI d) v = some (pz_S h (t + 7) d v) := pz_si (by have := P.2.1; omega) P.1.2.2.2.2.2.2.2.2 hd (by have := oq_nd P; omega) v
theorem os_3 (P : pz_P0 h t g) {a b : Nat} (ha : a < g + 4) (hb : b < g + 4) (v : Int32) : zq_si h (t + 3) (nI (a * (g + 4) + b)) v = some (pz_S h (t + 3) (a * (g + 4) + b) v) := pz_si (by have := P.2.1; omega) P.1.2.2.2.2.1 (pz_sq_lt P.1.1 ha hb).1 (by have := (pz_sq_lt P.1.1 ha hb).2; omega) v
theorem pz_sq_inj {x y a b : Nat} (hy : y < g + 4) (hb : b < g + 4) (h : x * (g + 4) + y = a * (g + 4) + b) : x = a ∧ y = b := by
  have h1 : x = a := by
    have e1 : (x * (g + 4) + y) / (g + 4) = x := by rw [Nat.mul_comm, Nat.mul_add_div (by omega), Nat.div_eq_of_lt hy]; omega
    have e2 : (a * (g + 4) + b) / (g + 4) = a := by rw [Nat.mul_comm, Nat.mul_add_div (by omega), Nat.div_eq_of_lt hb]; omega
    rw [← e1, ← e2, h]
  subst h1
  exact ⟨rfl, by omega⟩
/-- the diagonals told ahead of (a, b) are named -/
def pz_Nd (h : zq_H) (t g a b : Nat) : Prop := (∀ d, d < pz_cb g a b → pz_i h (t + 1) d = nI (pz_dl g d) ∧ pz_i h (t + 2) d = nI (pz_dg g d)) ∧ (∀ x y, x < g + 4 → y < g + 4 → pz_i h (t + 3) (x * (g + 4) + y) = nI (if x < a ∨ (x = a ∧ y < b) then pz_num g x y else pz_X)) ∧ ∀ c, c < g + 4 → pz_i h (t + 4) c = nI (pz_fx g c (pz_cb g a b))
/-- the arrays of crossings and images are kept -/
def pz_pg (t : Nat) (h h' : zq_H) : Prop := pz_pf t h h' ∧ ∀ a j, t + 5 ≤ a → a ≤ t + 7 → pz_i h' a j = pz_i h a j
theorem pz_pg.tr {a b c : zq_H} (h1 : pz_pg t a b) (h2 : pz_pg t b c) : pz_pg t a c := ⟨h1.1.tr h2.1, fun x j k l => (h2.2 x j k l).trans (h1.2 x j k l)⟩
theorem pz_pg.S {a j : Nat} {v : Int32} (h1 : t + 1 ≤ a) (h2 : a ≤ t + 4) : pz_pg t h (pz_S h a j v) := ⟨pz_pf.S h1 (by omega), fun x y k l => by rw [pz_S_i, if_neg (by omega)]⟩
theorem s_nameRow (P : pz_P0 h t g) {a : Nat} (ha : a < g + 4) (H : pz_Nd h t g a (a + 2)) {α : Type} {k : Int32 × zq_H → Option α} {Q : α → Prop} (hk : ∀ h', pz_pg t h h' → pz_Nd h' t g (a + 1) (a + 3) → ∃ y, k (nI (pz_cb g (a + 1) (a + 3)), h') = some y ∧ Q y) :
    ∃ y, (zq_lp (σ := Int32 × Int32 × zq_H) (ρ := Int32 × zq_H) (fun s_18 => (Option.bind (zq_gi s_18.2.2 t 1 0) fun v_26 => (if v_26 ≤ s_18.2.1 then some (.inr (s_18.1, s_18.2.2)) else (Option.bind (zq_gi s_18.2.2 t 1 0) fun v_29 => (if (v_29 - 1) ≤ (s_18.2.1 - (nI a)) then (zq_let (s_18.2.1 + 1) fun v_32 => some (.inl (s_18.1, v_32, s_18.2.2))) else (Option.bind (zq_gi s_18.2.2 t 1 1) fun v_34 => (if v_34 ≤ s_18.1 then (zq_let (s_18.2.1 + 1) fun v_37 => some (.inl (s_18.1, v_37, s_18.2.2))) else (Option.bind (zq_gr s_18.2.2 t 1 4) fun v_39 => (Option.bind (zq_gi s_18.2.2 t 1 0) fun v_41 => (Option.bind (zq_si s_18.2.2 v_39 (((nI a) * v_41) + s_18.2.1) s_18.1) fun h_43 => (Option.bind (zq_gr h_43 t 1 2) fun v_45 => (Option.bind (zq_si h_43 v_45 s_18.1 (nI a)) fun h_47 => (Option.bind (zq_gr h_47 t 1 3) fun v_49 => (Option.bind (zq_si h_47 v_49 s_18.1 s_18.2.1) fun h_51 => (Option.bind (zq_gr h_51 t 1 5) fun v_53 => (Option.bind (zq_ai h_51 v_53 (nI a)) fun v_55 => (Option.bind (zq_si h_51 v_53 (nI a) (v_55 ||| ((1 : Int32) <<< (s_18.1 &&& 31)))) fun h_57 => (Option.bind (zq_gr h_57 t 1 5) fun v_59 => (Option.bind (zq_ai h_57 v_59 s_18.2.1) fun v_61 => (Option.bind (zq_si h_57 v_59 s_18.2.1 (v_61 ||| ((1 : Int32) <<< (s_18.1 &&& 31)))) fun h_63 => (zq_let (s_18.1 + 1) fun v_65 => (zq_let (s_18.2.1 + 1) fun v_67 => some (.inl (v_65, v_67, h_63)))))))))))))))))))))))) zq_N (nI (pz_cb g a (a + 2)), nI (a + 2), h)).bind k = some y ∧ Q y := by
  have hg := P.1.1
  have hnd := pz_nd_le hg
  obtain ⟨-, -, h3⟩ := pz_cb_e hg
  obtain ⟨c1, c2, c3⟩ := h3 a ha
  refine pz_lpIB (fun i s => s.1 = nI (pz_cb g a (a + 2 + i)) ∧ s.2.1 = nI (a + 2 + i) ∧ pz_pg t h s.2.2 ∧ pz_Nd s.2.2 t g a (a + 2 + i)) (max (g + 4) (a + 2) - (a + 2)) (fun r => r.1 = nI (pz_cb g (a + 1) (a + 3)) ∧ pz_pg t h r.2 ∧ pz_Nd r.2 t g (a + 1) (a + 3)) (fun r q => by
    obtain ⟨r1, r2⟩ := r
    obtain ⟨q1, q2, q3⟩ := q
    simp only at q1
    subst q1
    exact hk r2 q2 q3) ⟨rfl, rfl, ⟨pz_pf.rf, fun _ _ _ _ => rfl⟩, H⟩ ?_ ?_ (by omega)
  · rintro i ⟨cn, x, k0⟩ hi ⟨e0, e1, e2, e3⟩
    simp only at e0 e1 e2 e3
    subst e1; subst e0
    generalize hb : a + 2 + i = b at e3
    have hbn : b < g + 4 := by omega
    have P' := P.pf e2.1
    obtain ⟨d2, d3, d4⟩ := e3
    obtain ⟨c4, c5⟩ := c3 b (by omega) hbn
    rw [show a + 2 + (i + 1) = b + 1 by omega]
    simp only [oq_0 P', Option.bind_some]
    have e3' : nI (g + 4) - 1 = nI (g + 3) := by rw [show (1 : Int32) = nI 1 from rfl, pk_sub (by omega)]; rfl
    rw [if_neg (nI_ge hbn (by omega)), e3', pk_sub (show a ≤ b by omega)]
    by_cases q : b - a < g + 3
    · obtain ⟨k1, k2, k3, k4, k5⟩ := c4 q
      have hfa := pz_fx_lt g a (pz_cb g a b) (by omega)
      have hfb := pz_fx_lt g b (pz_cb g a b) (by omega)
      have hp2 : 2 ^ pz_cb g a b < 134217728 := Nat.pow_lt_pow_right (n := 27) (by omega) (by omega)
      generalize hc : pz_cb g a b = c at *
      generalize hm1 : pz_S k0 (t + 3) (a * (g + 4) + b) (nI c) = m1
      generalize hm2 : pz_S m1 (t + 1) c (nI a) = m2
      generalize hm3 : pz_S m2 (t + 2) c (nI b) = m3
      generalize hm4 : pz_S m3 (t + 4) a (nI (pz_fx g a c ||| 2 ^ c)) = m4
      have l1 : pz_pg t k0 m1 := by rw [← hm1]; exact pz_pg.S (by omega) (by omega)
      have l2 : pz_pg t k0 m2 := l1.tr (by rw [← hm2]; exact pz_pg.S (by omega) (by omega))
      have l3 : pz_pg t k0 m3 := l2.tr (by rw [← hm3]; exact pz_pg.S (by omega) (by omega))
      have l4 : pz_pg t k0 m4 := l3.tr (by rw [← hm4]; exact pz_pg.S (by omega) (by omega))
      have P1 := P'.pf l1.1
      have P2 := P'.pf l2.1
      have P3 := P'.pf l3.1
      have P4 := P'.pf l4.1
      have f3 : ∀ x, pz_i m3 (t + 4) x = pz_i k0 (t + 4) x := fun x => by
        rw [← hm3, pz_S_i, if_neg (by omega), ← hm2, pz_S_i, if_neg (by omega), ← hm1, pz_S_i, if_neg (by omega)]
      have f4 : pz_i m4 (t + 4) b = nI (pz_fx g b c) := by rw [← hm4, pz_S_i, if_neg (by omega), f3]; exact d4 b hbn
      refine ⟨(nI (c + 1), nI (b + 1), pz_S m4 (t + 4) b (nI (pz_fx g b c ||| 2 ^ c))), ?_, by show _ = nI (pz_cb g a (b + 1)); rw [k2], rfl, e2.tr (l4.tr (pz_pg.S (by omega) (by omega))), ?_⟩
      · rw [if_neg (nI_ge q (by omega)), oq_1 P', Option.bind_some, if_neg (nI_ge k3 (by omega)), oq_4 P', Option.bind_some, pk_mul, nI_add, os_3 P' ha hbn, Option.bind_some, hm1, oq_2 P1, Option.bind_some, os_1 P1 k3, Option.bind_some, hm2, oq_3 P2, Option.bind_some, os_2 P2 k3, Option.bind_some, hm3, oq_5 P3, Option.bind_some, oa_4 P3 ha, f3, d4 a ha, Option.bind_some, pz_shl (by omega), pz_or (by omega) (by omega), os_4 P3 ha, Option.bind_some, hm4, oq_5 P4, Option.bind_some, oa_4 P4 hbn, f4, Option.bind_some, pz_or (by omega) (by omega), os_4 P4 hbn, Option.bind_some]
        simp only [zq_let, nI_1]
      · refine ⟨fun d hd => ?_, fun x y hx hy => ?_, fun x hx => ?_⟩
        · rw [k2] at hd
          have w1 : pz_i (pz_S m4 (t + 4) b (nI (pz_fx g b c ||| 2 ^ c))) (t + 1) d = if d = c then nI a else pz_i k0 (t + 1) d := by
            rw [pz_S_i, if_neg (by omega), ← hm4, pz_S_i, if_neg (by omega), ← hm3, pz_S_i, if_neg (by omega), ← hm2, pz_S_i]
            by_cases qd : d = c
            · rw [if_pos ⟨rfl, qd⟩, if_pos qd]
            · rw [if_neg (fun r => qd r.2), if_neg qd, ← hm1, pz_S_i, if_neg (by omega)]
          have w2 : pz_i (pz_S m4 (t + 4) b (nI (pz_fx g b c ||| 2 ^ c))) (t + 2) d = if d = c then nI b else pz_i k0 (t + 2) d := by
            rw [pz_S_i, if_neg (by omega), ← hm4, pz_S_i, if_neg (by omega), ← hm3, pz_S_i]
            by_cases qd : d = c
            · rw [if_pos ⟨rfl, qd⟩, if_pos qd]
            · rw [if_neg (fun r => qd r.2), if_neg qd, ← hm2, pz_S_i, if_neg (by omega), ← hm1, pz_S_i, if_neg (by omega)]
          rw [w1, w2]
          by_cases qd : d = c
          · rw [if_pos qd, if_pos qd, qd, k4, k5]; exact ⟨rfl, rfl⟩
          · rw [if_neg qd, if_neg qd]; exact d2 d (by omega)
        · rw [pz_S_i, if_neg (by omega), ← hm4, pz_S_i, if_neg (by omega), ← hm3, pz_S_i, if_neg (by omega), ← hm2, pz_S_i, if_neg (by omega), ← hm1, pz_S_i]
          by_cases qx : x = a ∧ y = b
          · obtain ⟨qx1, qx2⟩ := qx
            subst qx1; subst qx2
            rw [if_pos ⟨rfl, rfl⟩, if_pos (by omega), k1]
          · rw [if_neg (fun r => qx (pz_sq_inj hy hbn r.2)), d3 x y hx hy]
            by_cases qc : x < a ∨ (x = a ∧ y < b)
            · rw [if_pos qc, if_pos (by omega)]
            · rw [if_neg qc, if_neg (by omega)]
        · rw [k2, pz_fx_s, k4, k5, pz_S_i]
          by_cases qb : x = b
          · subst qb
            rw [if_pos ⟨rfl, rfl⟩, if_pos (Or.inr rfl)]
          · rw [if_neg (fun r => qb r.2), ← hm4, pz_S_i]
            by_cases qa : x = a
            · subst qa
              rw [if_pos ⟨rfl, rfl⟩, if_pos (Or.inl rfl)]
            · rw [if_neg (fun r => qa r.2), f3, d4 x hx, if_neg (fun r => r.elim (fun r => qa r.symm) (fun r => qb r.symm)), Nat.or_zero]
    · obtain ⟨k1, k2⟩ := c5 q
      rw [if_pos (nI_le (by omega) (by omega))]
      refine ⟨(nI (pz_cb g a b), nI (b + 1), k0), by simp only [zq_let, nI_1], by show _ = nI (pz_cb g a (b + 1)); rw [k1], rfl, e2, fun d hd => d2 d (by rw [k1] at hd; exact hd), fun x y hx hy => ?_, fun x hx => by rw [k1]; exact d4 x hx⟩
      rw [d3 x y hx hy]
      by_cases qx : x = a ∧ y = b
      · obtain ⟨qx1, qx2⟩ := qx
        subst qx1; subst qx2
        rw [if_neg (by omega), if_pos (by omega), k2]
      · by_cases qc : x < a ∨ (x = a ∧ y < b)
        · rw [if_pos qc, if_pos (by omega)]
        · rw [if_neg qc, if_neg (by omega)]
  · rintro ⟨cn, x, k0⟩ ⟨e0, e1, e2, e3⟩
    simp only at e0 e1 e2 e3
    subst e1; subst e0
    have P' := P.pf e2.1
    rw [show a + 2 + (max (g + 4) (a + 2) - (a + 2)) = max (g + 4) (a + 2) by omega] at e3 ⊢
    obtain ⟨d2, d3, d4⟩ := e3
    rw [c1] at d2 d4 ⊢
    refine ⟨(nI (pz_cb g (a + 1) (a + 3)), k0), ?_, rfl, e2, d2, fun x y hx hy => ?_, d4⟩
    · simp only [oq_0 P', Option.bind_some]
      rw [if_pos (nI_le (by omega) (by omega))]
    · rw [d3 x y hx hy]
      by_cases qc : x < a ∨ (x = a ∧ y < max (g + 4) (a + 2))
      · rw [if_pos qc, if_pos (by omega)]
      · rw [if_neg qc]
        by_cases qd : x < a + 1 ∨ (x = a + 1 ∧ y < a + 3)
        · rw [if_pos qd]
          have hx1 : x = a + 1 := by omega
          obtain ⟨-, c2', -⟩ := h3 x hx
          rw [c2' y (by omega) hy]
        · rw [if_neg qd]
end PZP0
