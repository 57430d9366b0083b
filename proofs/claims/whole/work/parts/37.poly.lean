/-! the class' polygons: what their functions answer -/
def pz_Sg (g t : Nat) : Prop := g < 6 ∧ zq_sh t = (1, 0) ∧ zq_sh (t + 1) = (10, pz_nd g) ∧ zq_sh (t + 2) = (10, pz_nd g) ∧ zq_sh (t + 3) = (10, (g + 4) * (g + 4)) ∧ zq_sh (t + 4) = (10, g + 4) ∧ zq_sh (t + 5) = (10, pz_nd g) ∧ zq_sh (t + 6) = (10, pz_nd g) ∧ zq_sh (t + 7) = (10, pz_nd g)
theorem pz_Sg_at : ∀ g, g < 6 → pz_Sg g (3 + 12 * g) := by
  unfold pz_Sg
  decide
/-- the polygon with g + 4 corners at t -/
def pz_Pt (h : zq_H) (t g : Nat) : Prop := pz_Sg g t ∧ t + 7 < h.1 ∧ pz_i h t 0 = nI (g + 4) ∧ pz_i h t 1 = nI (pz_nd g) ∧ (pz_r h t 2 = some (t + 1) ∧ pz_r h t 3 = some (t + 2) ∧ pz_r h t 4 = some (t + 3) ∧ pz_r h t 5 = some (t + 4) ∧ pz_r h t 6 = some (t + 5) ∧ pz_r h t 7 = some (t + 6) ∧ pz_r h t 8 = some (t + 7)) ∧
  (∀ d, d < pz_nd g → pz_i h (t + 1) d = nI (pz_dl g d) ∧ pz_i h (t + 2) d = nI (pz_dg g d) ∧ pz_i h (t + 5) d = nI (pz_cr g d) ∧ pz_i h (t + 6) d = nI (pz_tp g d) ∧ pz_i h (t + 7) d = nI (pz_mp g d)) ∧
  (∀ k, k < (g + 4) * (g + 4) → pz_i h (t + 3) k = nI (pz_g (pz_NU g) k)) ∧ ∀ c, c < g + 4 → pz_i h (t + 4) c = nI (pz_fn g c)
theorem pz_Pt.ag {h h' : zq_H} {t g : Nat} (H : pz_Pt h t g) {Q : Nat → Prop} (hq : pz_ag Q h h') (hQ : ∀ i, i < 8 → Q (t + i)) : pz_Pt h' t g := by
  obtain ⟨h1, h2, h3, h4, ⟨a1, a2, a3, a4, a5, a6, a7⟩, h6, h7, h8⟩ := H
  have q0 : Q t := hQ 0 (by omega)
  refine ⟨h1, by rw [hq.1]; exact h2, by rw [hq.i q0]; exact h3, by rw [hq.i q0]; exact h4, ⟨?_, ?_, ?_, ?_, ?_, ?_, ?_⟩, fun d hd => ?_, fun k hk => ?_, fun c hc => ?_⟩
  · rw [hq.r q0]; exact a1
  · rw [hq.r q0]; exact a2
  · rw [hq.r q0]; exact a3
  · rw [hq.r q0]; exact a4
  · rw [hq.r q0]; exact a5
  · rw [hq.r q0]; exact a6
  · rw [hq.r q0]; exact a7
  · obtain ⟨b1, b2, b3, b4, b5⟩ := h6 d hd
    exact ⟨by rw [hq.i (hQ 1 (by omega))]; exact b1, by rw [hq.i (hQ 2 (by omega))]; exact b2, by rw [hq.i (hQ 5 (by omega))]; exact b3, by rw [hq.i (hQ 6 (by omega))]; exact b4, by rw [hq.i (hQ 7 (by omega))]; exact b5⟩
  · rw [hq.i (hQ 3 (by omega))]; exact h7 k hk
  · rw [hq.i (hQ 4 (by omega))]; exact h8 c hc
/-- the number of what two corners tell, as the class answers -/
def pz_no (g : Nat) (x y : Int32) : Nat := if pz_inb (g + 4) x = true ∧ pz_inb (g + 4) y = true then pz_num g x.toNatClampNeg y.toNatClampNeg else pz_X
/-- the other diagonal, if there is one -/
def pz_ot (g m d : Nat) : Nat := if m.testBit d = true ∧ pz_oth g m d < pz_nd g then pz_oth g m d else pz_X
/-- the images that the class goes through -/
def pz_im (g m : Nat) : Nat → Nat
  | 0 => m
  | k + 1 => if k = g + 4 then pz_tu g (pz_mi g (pz_im g m k)) else pz_tu g (pz_im g m k)
def pz_li (g m : Nat) : Nat → Nat
  | 0 => m
  | k + 1 => if pz_im g m (k + 1) < pz_li g m k then pz_im g m (k + 1) else pz_li g m k
def pz_sy (g m : Nat) : Nat → Nat
  | 0 => 0
  | k + 1 => pz_sy g m k + if pz_im g m (k + 1) = m then 1 else 0
def pz_de (g m c : Nat) : Nat := pz_rk (m &&& pz_fn g c) 27
def pz_ea (g m : Nat) : Nat → Nat
  | 0 => 0
  | c + 1 => pz_ea g m c + if pz_de g m c = 0 then 1 else 0
def pz_gd (g m : Nat) : Nat → Nat
  | 0 => 0
  | c + 1 => if pz_gd g m c < pz_de g m c then pz_de g m c else pz_gd g m c
theorem pz_mv_lt {P : Nat → Nat} {m n : Nat} : ∀ {k : Nat}, (∀ d, d < k → P d < n) → pz_mv P m k < 2 ^ n
  | 0, _ => Nat.pow_pos (by omega)
  | k + 1, h => by
    unfold pz_mv
    refine Nat.or_lt_two_pow (pz_mv_lt (k := k) (fun d hd => h d (by omega))) ?_
    cases m.testBit k with
    | false => exact Nat.pow_pos (by omega)
    | true => exact Nat.pow_lt_pow_right (by omega) (h k (by omega))
theorem pz_tu_lt {g : Nat} (hg : g < 6) (m : Nat) : pz_tu g m < 2 ^ pz_nd g := pz_mv_lt (fun _ hd => (pz_dia hg hd).2.2.2.2.1)
theorem pz_mi_lt {g : Nat} (hg : g < 6) (m : Nat) : pz_mi g m < 2 ^ pz_nd g := pz_mv_lt (fun _ hd => (pz_dia hg hd).2.2.2.2.2)
theorem pz_tk_lt {g m : Nat} (hg : g < 6) (hm : m < 2 ^ pz_nd g) : ∀ k, pz_tk g m k < 2 ^ pz_nd g
  | 0 => hm
  | k + 1 => pz_tu_lt hg _
theorem pz_im_lt {g m : Nat} (hg : g < 6) (hm : m < 2 ^ pz_nd g) : ∀ k, pz_im g m k < 2 ^ pz_nd g
  | 0 => hm
  | k + 1 => by
    unfold pz_im
    by_cases h : k = g + 4
    · rw [if_pos h]; exact pz_tu_lt hg _
    · rw [if_neg h]; exact pz_tu_lt hg _
theorem pz_li_lt {g m : Nat} (hg : g < 6) (hm : m < 2 ^ pz_nd g) : ∀ k, pz_li g m k < 2 ^ pz_nd g
  | 0 => hm
  | k + 1 => by
    unfold pz_li
    by_cases h : pz_im g m (k + 1) < pz_li g m k
    · rw [if_pos h]; exact pz_im_lt hg hm _
    · rw [if_neg h]; exact pz_li_lt hg hm k
theorem pz_cr_lt (g d : Nat) : pz_cr g d < 4294967296 := pz_g_lt _ _
theorem pz_fn_lt (g c : Nat) : pz_fn g c < 4294967296 := pz_g_lt _ _
section PZP
variable {h : zq_H} {t g : Nat}
theorem pq_0 (P : pz_Pt h t g) : zq_gi h t 1 0 = some (nI (g + 4)) := by rw [pz_gi (by have := P.2.1; omega) (by rw [P.1.2.1]), P.2.2.1]
theorem pq_1 (P : pz_Pt h t g) : zq_gi h t 1 1 = some (nI (pz_nd g)) := by rw [pz_gi (by have := P.2.1; omega) (by rw [P.1.2.1]), P.2.2.2.1]
theorem pq_2 (P : pz_Pt h t g) : zq_gr h t 1 2 = some (t + 1) := by rw [pz_gr (by have := P.2.1; omega) (by rw [P.1.2.1]), P.2.2.2.2.1.1]
theorem pq_3 (P : pz_Pt h t g) : zq_gr h t 1 3 = some (t + 2) := by rw [pz_gr (by have := P.2.1; omega) (by rw [P.1.2.1]), P.2.2.2.2.1.2.1]
theorem pq_4 (P : pz_Pt h t g) : zq_gr h t 1 4 = some (t + 3) := by rw [pz_gr (by have := P.2.1; omega) (by rw [P.1.2.1]), P.2.2.2.2.1.2.2.1]
theorem pq_5 (P : pz_Pt h t g) : zq_gr h t 1 5 = some (t + 4) := by rw [pz_gr (by have := P.2.1; omega) (by rw [P.1.2.1]), P.2.2.2.2.1.2.2.2.1]
theorem pq_6 (P : pz_Pt h t g) : zq_gr h t 1 6 = some (t + 5) := by rw [pz_gr (by have := P.2.1; omega) (by rw [P.1.2.1]), P.2.2.2.2.1.2.2.2.2.1]
theorem pq_7 (P : pz_Pt h t g) : zq_gr h t 1 7 = some (t + 6) := by rw [pz_gr (by have := P.2.1; omega) (by rw [P.1.2.1]), P.2.2.2.2.1.2.2.2.2.2.1]
theorem pq_8 (P : pz_Pt h t g) : zq_gr h t 1 8 = some (t + 7) := by rw [pz_gr (by have := P.2.1; omega) (by rw [P.1.2.1]), P.2.2.2.2.1.2.2.2.2.2.2]
theorem pq_ck {α : Type} {f : Unit → Option α} (P : pz_Pt h t g) : zq_ck h t 1 f = f () := pz_ck (by have := P.2.1; omega) (by rw [P.1.2.1])
theorem pq_g (P : pz_Pt h t g) : g < 6 := P.1.1
theorem pq_n (P : pz_Pt h t g) : pz_nd g ≤ 27 := pz_nd_le P.1.1
theorem pq_dl (P : pz_Pt h t g) {d : Nat} (hd : d < pz_nd g) : zq_ai h (t + 1) (nI d) = some (nI (pz_dl g d)) := by
  rw [pz_ai (by have := P.2.1; omega) P.1.2.2.1 hd (by have := pq_n P; omega), (P.2.2.2.2.2.1 d hd).1]
theorem pq_dg (P : pz_Pt h t g) {d : Nat} (hd : d < pz_nd g) : zq_ai h (t + 2) (nI d) = some (nI (pz_dg g d)) := by
  rw [pz_ai (by have := P.2.1; omega) P.1.2.2.2.1 hd (by have := pq_n P; omega), (P.2.2.2.2.2.1 d hd).2.1]
theorem pq_cr (P : pz_Pt h t g) {d : Nat} (hd : d < pz_nd g) : zq_ai h (t + 5) (nI d) = some (nI (pz_cr g d)) := by
  rw [pz_ai (by have := P.2.1; omega) P.1.2.2.2.2.2.2.1 hd (by have := pq_n P; omega), (P.2.2.2.2.2.1 d hd).2.2.1]
theorem pq_nu (P : pz_Pt h t g) {a b : Nat} (ha : a < g + 4) (hb : b < g + 4) : zq_ai h (t + 3) (nI (a * (g + 4) + b)) = some (nI (pz_num g a b)) := by
  have hg := pq_g P
  have h1 : a * (g + 4) + b < (g + 4) * (g + 4) := by
    have : a * (g + 4) ≤ (g + 3) * (g + 4) := Nat.mul_le_mul_right _ (by omega)
    have e : (g + 4) * (g + 4) = (g + 3) * (g + 4) + (g + 4) := by rw [← Nat.succ_mul]
    omega
  have h2 : (g + 4) * (g + 4) ≤ 9 * 9 := Nat.mul_le_mul (by omega) (by omega)
  rw [pz_ai (by have := P.2.1; omega) P.1.2.2.2.2.1 h1 (by omega), P.2.2.2.2.2.2.1 _ h1]
  rfl
theorem pq_fn (P : pz_Pt h t g) {c : Nat} (hc : c < g + 4) : zq_ai h (t + 4) (nI c) = some (nI (pz_fn g c)) := by
  have hg := pq_g P
  rw [pz_ai (by have := P.2.1; omega) P.1.2.2.2.2.2.1 hc (by omega), P.2.2.2.2.2.2.2 c hc]
theorem s_isCorner (P : pz_Pt h t g) (x : Int32) : f_X1_isCorner h t x = some (pz_inb (g + 4) x) := by
  unfold f_X1_isCorner pz_inb
  rw [pq_0 P, Option.bind_some]
  by_cases h1 : x < 0
  · simp [h1]
  · rw [if_neg h1]
    by_cases h2 : nI (g + 4) ≤ x
    · simp [h2]
    · simp [h1, h2]
theorem s_numberOf (P : pz_Pt h t g) (x y : Int32) : f_X1_numberOf h t x y = some (nI (pz_no g x y)) := by
  have hg := pq_g P
  unfold f_X1_numberOf pz_no
  rw [pq_ck P, s_isCorner P, Option.bind_some]
  cases h1 : pz_inb (g + 4) x with
  | false => simp; rfl
  | true =>
    rw [if_neg (by simp), pq_ck P, s_isCorner P, Option.bind_some]
    cases h2 : pz_inb (g + 4) y with
    | false => simp; rfl
    | true =>
      obtain ⟨a, ha, rfl⟩ := pz_inb_of (by omega) h1
      obtain ⟨b, hb, rfl⟩ := pz_inb_of (by omega) h2
      rw [if_neg (by simp), pq_4 P, Option.bind_some, pq_0 P, Option.bind_some, pk_mul, nI_add, pq_nu P ha hb, if_pos ⟨rfl, rfl⟩, nI_clamp (by omega), nI_clamp (by omega)]
      rfl
theorem s_fanOf (P : pz_Pt h t g) {c : Nat} (hc : c < g + 4) : f_X1_fanOf h t (nI c) = some (nI (pz_fn g c)) := by
  have hg := pq_g P
  unfold f_X1_fanOf
  rw [pq_ck P, s_isCorner P, Option.bind_some, pz_inb_nI (by omega) (by omega), if_neg (by simp [hc]), pq_5 P, Option.bind_some, pq_fn P hc]
  rfl
theorem s_otherOf (P : pz_Pt h t g) {m d : Nat} (hm : m < 134217728) (hd : d < 27) : f_X1_otherOf h t (nI m) (nI d) = some (nI (pz_ot g m d)) := by
  have hn := pq_n P
  have hp : 2 ^ d < 134217728 := Nat.pow_lt_pow_right (n := 27) (by omega) hd
  unfold f_X1_otherOf
  simp only [zq_let]
  rw [pz_shl (by omega), pz_and (by omega) (by omega)]
  have hb : (m &&& 2 ^ d = 0) ↔ m.testBit d = false := by
    constructor
    · intro e
      have h1 := congrArg (fun x => x.testBit d) e
      simpa [Nat.testBit_two_pow] using h1
    · intro e
      apply Nat.eq_of_testBit_eq
      intro i
      rw [Nat.testBit_and, Nat.testBit_two_pow, Nat.zero_testBit]
      by_cases e2 : d = i
      · subst e2; simp [e]
      · simp [e2]
  unfold pz_ot
  cases hbit : m.testBit d with
  | false =>
    rw [if_pos (by rw [hb.mpr hbit]; rfl), if_neg (by simp)]
    rfl
  | true =>
    rw [if_neg (by rw [show (0 : Int32) = nI 0 from rfl, pz_eq (Nat.lt_of_le_of_lt Nat.and_le_left (by omega)) (by omega), hb, hbit]; simp)]
    have hle := pz_ff_le (fun j => Nat.beq (pz_cr g j &&& m) (2 ^ d)) (pz_nd g) 0
    have hstep : ∀ i, i < pz_nd g → (pz_cr g i &&& m < 4294967296) := fun i hi => Nat.lt_of_le_of_lt Nat.and_le_right (by omega)
    by_cases hj : pz_oth g m d < pz_nd g
    · rw [if_pos ⟨rfl, hj⟩]
      refine pz_lpB (fun i => nI i) (pz_oth g m d) (r := Sum.inr (nI (pz_oth g m d))) rfl rfl ?_ ?_ (by omega)
      · intro i hi
        have hno := pz_ff_no (fun j => Nat.beq (pz_cr g j &&& m) (2 ^ d)) (pz_nd g) 0 i (by omega) hi
        rw [pq_1 P, Option.bind_some, if_neg (nI_ge (by omega) (by omega)), pq_6 P, Option.bind_some, pq_cr P (by omega), Option.bind_some, pz_and (b := m) (pz_cr_lt g _) (by omega)]
        rw [if_neg (by rw [pz_eq (hstep i (by omega)) (by omega)]; intro e; simp [e] at hno), nI_1]
      · have hyes := pz_ff_yes (fun j => Nat.beq (pz_cr g j &&& m) (2 ^ d)) (pz_nd g) 0 (by rw [Nat.zero_add]; exact hj)
        rw [pq_1 P, Option.bind_some, if_neg (nI_ge (by omega) (by omega)), pq_6 P, Option.bind_some, pq_cr P (by omega), Option.bind_some, pz_and (b := m) (pz_cr_lt g _) (by omega)]
        exact if_pos (congrArg nI (Nat.eq_of_beq_eq_true hyes))
    · rw [if_neg (fun e => hj e.2)]
      refine pz_lpB (fun i => nI i) (pz_nd g) (r := Sum.inl ()) rfl rfl ?_ ?_ (by omega)
      · intro i hi
        have hno := pz_ff_no (fun j => Nat.beq (pz_cr g j &&& m) (2 ^ d)) (pz_nd g) 0 i (by omega) (by unfold pz_oth at hj; omega)
        rw [pq_1 P, Option.bind_some, if_neg (nI_ge (by omega) (by omega)), pq_6 P, Option.bind_some, pq_cr P (by omega), Option.bind_some, pz_and (b := m) (pz_cr_lt g _) (by omega)]
        rw [if_neg (by rw [pz_eq (hstep i (by omega)) (by omega)]; intro e; simp [e] at hno), nI_1]
      · rw [pq_1 P, Option.bind_some, if_pos (nI_le (Nat.le_refl _) (by omega))]
theorem pz_ot_T (hg : g < 6) {m d : Nat} (hm : pz_T g m) (hb : m.testBit d = true) : pz_ot g m d = pz_oth g m d := if_pos ⟨hb, (pz_flip hg hm hb).2.1⟩
theorem s_flipped (P : pz_Pt h t g) {m d : Nat} (hm : pz_T g m) (hb : m.testBit d = true) : f_X1_flipped h t (nI m) (nI d) = some (nI (pz_fl g m d)) := by
  have hg := pq_g P
  have hn := pq_n P
  obtain ⟨h1, h2, -⟩ := pz_flip hg hm hb
  have hm27 := pz_T_27 hg hm
  have hp1 : 2 ^ d < 134217728 := Nat.pow_lt_pow_right (n := 27) (by omega) (by omega)
  have hp2 : 2 ^ pz_oth g m d < 134217728 := Nat.pow_lt_pow_right (n := 27) (by omega) (by omega)
  unfold f_X1_flipped
  rw [pq_ck P, s_otherOf P hm27 (by omega), Option.bind_some, pz_ot_T hg hm hb]
  have hx : m ^^^ 2 ^ d < 134217728 := Nat.xor_lt_two_pow (n := 27) hm27 hp1
  simp only [pz_eqm1 (a := pz_oth g m d) (by omega), if_false]
  rw [pz_shl (by omega), pz_shl (by omega), pz_xor (by omega) (by omega), pz_xor (by omega) (by omega)]
  rfl
theorem s_moved {r : Nat} {Q : Nat → Nat} {m : Nat} (hg : g < 6) (hr : r < h.1) (hs : zq_sh r = (10, pz_nd g)) (hrow : ∀ d, d < pz_nd g → pz_i h r d = nI (Q d)) (hQ : ∀ d, d < pz_nd g → Q d < pz_nd g) (hm : m < 134217728) : f_X1_moved h (nI m) r = some (nI (pz_mv Q m (pz_nd g))) := by
  have hn := pz_nd_le hg
  unfold f_X1_moved
  refine pz_lpB (fun i => (nI (pz_mv Q m i), nI i)) (pz_nd g) (r := nI (pz_mv Q m (pz_nd g))) rfl rfl ?_ ?_ (by omega)
  · intro i hi
    have hlt : pz_mv Q m i < 134217728 := pz_p27 hg (pz_mv_lt (fun d hd => hQ d (by omega)))
    have hq := hQ i hi
    have hp : 2 ^ Q i < 134217728 := Nat.pow_lt_pow_right (n := 27) (by omega) (by omega)
    rw [pz_an hr hs (by omega) (by omega), Option.bind_some, if_neg (nI_ge hi (by omega)), s_isIn (by omega) (by omega), Option.bind_some]
    simp only [zq_let, nI_1]
    cases hb : m.testBit i with
    | false =>
      rw [if_pos rfl]
      simp [pz_mv, hb]
    | true =>
      rw [if_neg (by simp), pz_ai hr hs hi (by omega), hrow i hi, Option.bind_some, pz_shl (by omega), pz_or (by omega) (by omega)]
      simp [pz_mv, hb]
  · rw [pz_an hr hs (by omega) (by omega), Option.bind_some, if_pos (nI_le (Nat.le_refl _) (by omega))]
theorem s_movedT (P : pz_Pt h t g) {m : Nat} (hm : m < 134217728) : f_X1_moved h (nI m) (t + 6) = some (nI (pz_tu g m)) :=
  s_moved (pq_g P) (by have := P.2.1; omega) P.1.2.2.2.2.2.2.2.1 (fun d hd => (P.2.2.2.2.2.1 d hd).2.2.2.1) (fun d hd => (pz_dia (pq_g P) hd).2.2.2.2.1) hm
theorem s_mirrored (P : pz_Pt h t g) {m : Nat} (hm : m < 134217728) : f_X1_mirrored h t (nI m) = some (nI (pz_mi g m)) := by
  unfold f_X1_mirrored
  rw [pq_8 P, Option.bind_some, s_moved (Q := pz_mp g) (pq_g P) P.2.1 P.1.2.2.2.2.2.2.2.2 (fun d hd => (P.2.2.2.2.2.1 d hd).2.2.2.2) (fun d hd => (pz_dia (pq_g P) hd).2.2.2.2.2) hm]
  rfl
theorem s_turnedBy (P : pz_Pt h t g) {m k : Nat} (hm : m < 2 ^ pz_nd g) (hk : k < 100) : f_X1_turnedBy h t (nI m) (nI k) = some (nI (pz_tk g m k)) := by
  have hg := pq_g P
  unfold f_X1_turnedBy
  refine pz_lpB (fun i => (nI (pz_tk g m i), nI i)) k (r := nI (pz_tk g m k)) rfl rfl ?_ ?_ (by omega)
  · intro i hi
    rw [if_neg (nI_ge hi (by omega)), pq_7 P, Option.bind_some, s_movedT P (pz_p27 hg (pz_tk_lt hg hm i)), Option.bind_some]
    simp only [zq_let, nI_1]
    rfl
  · exact if_pos (nI_le (Nat.le_refl _) (by omega))
theorem s_nextImage (P : pz_Pt h t g) {m k : Nat} (hm : m < 134217728) (hk : k < 100) : f_X1_nextImage h t (nI m) (nI k) = some (nI (if k = g + 4 then pz_tu g (pz_mi g m) else pz_tu g m)) := by
  have hg := pq_g P
  unfold f_X1_nextImage
  rw [pq_0 P, Option.bind_some]
  by_cases e : k = g + 4
  · subst e
    rw [if_pos rfl, pq_ck P, s_mirrored P hm, Option.bind_some, pq_7 P, Option.bind_some, s_movedT P (pz_p27 hg (pz_mi_lt hg m)), if_pos rfl]
    rfl
  · rw [if_neg (by rw [nI_eq (by omega) (by omega)]; exact e), pq_7 P, Option.bind_some, s_movedT P hm, if_neg e]
    rfl
theorem s_leastImage (P : pz_Pt h t g) {m : Nat} (hm : m < 2 ^ pz_nd g) : f_X1_leastImage h t (nI m) = some (nI (pz_li g m (2 * (g + 4)))) := by
  have hg := pq_g P
  unfold f_X1_leastImage
  refine pz_lpB (fun i => (nI (pz_li g m i), nI (pz_im g m i), nI i)) (2 * (g + 4)) (r := nI (pz_li g m (2 * (g + 4)))) rfl rfl ?_ ?_ (by omega)
  · intro i hi
    have b1 := pz_p27 hg (pz_im_lt hg hm i)
    have b2 := pz_p27 hg (pz_im_lt hg hm (i + 1))
    have b3 := pz_p27 hg (pz_li_lt hg hm i)
    have e1 : (if i = g + 4 then pz_tu g (pz_mi g (pz_im g m i)) else pz_tu g (pz_im g m i)) = pz_im g m (i + 1) := rfl
    rw [pq_0 P, Option.bind_some, show (2 : Int32) = nI 2 from rfl, pk_mul, if_neg (nI_ge hi (by omega)), pq_ck P, s_nextImage P b1 (by omega), Option.bind_some, e1]
    simp only [zq_let, nI_1]
    by_cases e : pz_im g m (i + 1) < pz_li g m i
    · rw [if_pos (nI_lt e (by omega))]
      simp [pz_li, e]
    · rw [if_neg (nI_nlt (by omega) (by omega))]
      simp [pz_li, e]
  · rw [pq_0 P, Option.bind_some, show (2 : Int32) = nI 2 from rfl, pk_mul, if_pos (nI_le (Nat.le_refl _) (by omega))]
theorem s_symmetries (P : pz_Pt h t g) {m : Nat} (hm : m < 2 ^ pz_nd g) : f_X1_symmetries h t (nI m) = some (nI (pz_sy g m (2 * (g + 4)))) := by
  have hg := pq_g P
  have b0 := pz_p27 hg hm
  unfold f_X1_symmetries
  refine pz_lpB (fun i => (nI (pz_sy g m i), nI (pz_im g m i), nI i)) (2 * (g + 4)) (r := nI (pz_sy g m (2 * (g + 4)))) rfl rfl ?_ ?_ (by omega)
  · intro i hi
    have b1 := pz_p27 hg (pz_im_lt hg hm i)
    have b2 := pz_p27 hg (pz_im_lt hg hm (i + 1))
    have e1 : (if i = g + 4 then pz_tu g (pz_mi g (pz_im g m i)) else pz_tu g (pz_im g m i)) = pz_im g m (i + 1) := rfl
    rw [pq_0 P, Option.bind_some, show (2 : Int32) = nI 2 from rfl, pk_mul, if_neg (nI_ge hi (by omega)), pq_ck P, s_nextImage P b1 (by omega), Option.bind_some, e1]
    simp only [zq_let, nI_1]
    by_cases e : pz_im g m (i + 1) = m
    · rw [if_pos (by rw [e])]
      simp [pz_sy, e]
    · rw [if_neg (by rw [nI_eq (by omega) (by omega)]; exact e), show (0 : Int32) = nI 0 from rfl, nI_add]
      simp [pz_sy, e]
  · rw [pq_0 P, Option.bind_some, show (2 : Int32) = nI 2 from rfl, pk_mul, if_pos (nI_le (Nat.le_refl _) (by omega))]
theorem s_degreeIn (P : pz_Pt h t g) {m c : Nat} (hm : pz_nc g m) (hc : c < g + 4) : f_X1_degreeIn h t (nI m) (nI c) = some (nI (pz_de g m c)) := by
  have hg := pq_g P
  have hn : pz_nc g (m &&& pz_fn g c) := pz_nc_sub hm (fun i hi => by rw [Nat.testBit_and, Bool.and_eq_true] at hi; exact hi.1)
  have b1 := pz_p27 hg hm.1
  have b2 := pz_p27 hg hn.1
  unfold f_X1_degreeIn
  rw [pq_ck P, s_fanOf P hc, Option.bind_some, pz_and (by omega) (pz_fn_lt g c), s_bc (by omega), pz_bc_nc hg hn]
  rfl
theorem pz_de_lt (m c : Nat) : pz_de g m c ≤ 27 := pz_rk_le _ _
theorem pz_ea_le (m : Nat) : ∀ c, pz_ea g m c ≤ c
  | 0 => Nat.le_refl _
  | c + 1 => by
    unfold pz_ea
    have := pz_ea_le m c
    by_cases e : pz_de g m c = 0
    · rw [if_pos e]; omega
    · rw [if_neg e]; omega
theorem pz_gd_le (m : Nat) : ∀ c, pz_gd g m c ≤ 27
  | 0 => by simp [pz_gd]
  | c + 1 => by
    unfold pz_gd
    have := pz_gd_le m c
    have := pz_de_lt (g := g) m c
    by_cases e : pz_gd g m c < pz_de g m c
    · rw [if_pos e]; omega
    · rw [if_neg e]; omega
theorem s_ears (P : pz_Pt h t g) {m : Nat} (hm : pz_nc g m) : f_X1_ears h t (nI m) = some (nI (pz_ea g m (g + 4))) := by
  have hg := pq_g P
  unfold f_X1_ears
  refine pz_lpB (fun i => (nI (pz_ea g m i), nI i)) (g + 4) (r := nI (pz_ea g m (g + 4))) rfl rfl ?_ ?_ (by omega)
  · intro i hi
    have b1 := pz_de_lt (g := g) m i
    rw [pq_0 P, Option.bind_some, if_neg (nI_ge hi (by omega)), pq_ck P, s_degreeIn P hm hi, Option.bind_some]
    simp only [zq_let, nI_1]
    by_cases e : pz_de g m i = 0
    · rw [if_pos (by rw [e]; rfl)]
      simp [pz_ea, e]
    · rw [if_neg (nI_ne0 (by omega) (by omega)), show (0 : Int32) = nI 0 from rfl, nI_add]
      simp [pz_ea, e]
  · rw [pq_0 P, Option.bind_some, if_pos (nI_le (Nat.le_refl _) (by omega))]
theorem s_greatestDegree (P : pz_Pt h t g) {m : Nat} (hm : pz_nc g m) : f_X1_greatestDegree h t (nI m) = some (nI (pz_gd g m (g + 4))) := by
  have hg := pq_g P
  unfold f_X1_greatestDegree
  refine pz_lpB (fun i => (nI (pz_gd g m i), nI i)) (g + 4) (r := nI (pz_gd g m (g + 4))) rfl rfl ?_ ?_ (by omega)
  · intro i hi
    have b1 := pz_de_lt (g := g) m i
    have b2 := pz_gd_le (g := g) m i
    rw [pq_0 P, Option.bind_some, if_neg (nI_ge hi (by omega)), pq_ck P, s_degreeIn P hm hi, Option.bind_some]
    simp only [zq_let, nI_1]
    by_cases e : pz_gd g m i < pz_de g m i
    · rw [if_pos (nI_lt e (by omega))]
      simp [pz_gd, e]
    · rw [if_neg (nI_nlt (by omega) (by omega))]
      simp [pz_gd, e]
  · rw [pq_0 P, Option.bind_some, if_pos (nI_le (Nat.le_refl _) (by omega))]
end PZP
