/-! the reference's tables at 104, and what its functions answer -/
/-- what stays of the reference -/
def pz_Ms (h : zq_H) : Prop := 118 ≤ h.1 ∧ pz_r h 104 0 = some 105 ∧ pz_r h 104 2 = some 106 ∧ pz_r h 104 3 = some 107 ∧ pz_r h 104 4 = some 108 ∧ pz_r h 104 6 = some 109 ∧ pz_r h 104 10 = some 110 ∧ pz_r h 104 11 = some 111 ∧ pz_r h 104 12 = some 112 ∧ pz_r h 104 14 = some 113 ∧ pz_r h 104 15 = some 114 ∧ pz_r h 104 18 = some 115 ∧ pz_r h 104 19 = some 116 ∧ pz_r h 104 20 = some 117
/-- its diagonals -/
def pz_Md (h : zq_H) (g : Nat) : Prop := g < 6 ∧ pz_i h 105 0 = nI (g + 4) ∧ pz_i h 104 9 = nI (pz_nd g) ∧ (∀ d, d < pz_nd g → pz_i h 110 d = nI (pz_dl g d) ∧ pz_i h 111 d = nI (pz_dg g d)) ∧ ∀ a b, a < g + 4 → b < g + 4 → pz_i h 112 (9 * a + b) = nI (pz_num g a b)
/-- its masks, in their order -/
def pz_Mm (h : zq_H) (g : Nat) : Prop := pz_i h 104 13 = nI (pz_cn g) ∧ ∀ i, i < pz_cn g → pz_i h 113 i = nI (pz_tt g i)
def pz_fo (g c : Nat) : Nat → Nat
  | 0 => 0
  | d + 1 => pz_fo g c d ||| (bif Nat.beq (pz_dl g d) c || Nat.beq (pz_dg g d) c then 2 ^ d else 0)
theorem pz_K16 : ∀ g, g < 6 → pz_al (fun c => Nat.beq (pz_fo g c (pz_nd g)) (pz_fn g c)) (g + 4) = true := by decide +kernel
theorem pz_mv_bit {P : Nat → Nat} {m j : Nat} : ∀ {n : Nat}, (pz_mv P m n).testBit j = true ↔ ∃ d, d < n ∧ m.testBit d = true ∧ P d = j
  | 0 => by simp [pz_mv]
  | n + 1 => by
    unfold pz_mv
    rw [Nat.testBit_or, Bool.or_eq_true, pz_mv_bit]
    constructor
    · rintro (⟨d, h1, h2, h3⟩ | h)
      · exact ⟨d, by omega, h2, h3⟩
      · cases hb : m.testBit n with
        | false => rw [hb] at h; simp at h
        | true =>
          rw [hb] at h
          simp only [cond_true, Nat.testBit_two_pow, decide_eq_true_eq] at h
          exact ⟨n, by omega, hb, h⟩
    · rintro ⟨d, h1, h2, h3⟩
      by_cases e : d = n
      · subst e
        refine Or.inr ?_
        rw [h2]
        simp [Nat.testBit_two_pow, h3]
      · exact Or.inl ⟨d, by omega, h2, h3⟩
theorem pz_eq_bits {a b : Nat} (h : ∀ j, a.testBit j = true ↔ b.testBit j = true) : a = b := by
  apply Nat.eq_of_testBit_eq
  intro j
  have := h j
  cases ha : a.testBit j with
  | true => rw [this.mp ha]
  | false =>
    cases hb : b.testBit j with
    | false => rfl
    | true => rw [this.mpr hb] at ha; cases ha
theorem pz_pk_lt {g d : Nat} (hg : g < 6) (hd : d < pz_nd g) : ∀ k, pz_pk g d k < pz_nd g
  | 0 => hd
  | k + 1 => (pz_dia hg (pz_pk_lt hg hd k)).2.2.2.2.1
theorem pz_tk_mv {g m : Nat} (hg : g < 6) (hm : m < 2 ^ pz_nd g) : ∀ k, pz_tk g m k = pz_mv (fun d => pz_pk g d k) m (pz_nd g)
  | 0 => by
    apply pz_eq_bits
    intro j
    rw [pz_mv_bit]
    constructor
    · intro h
      exact ⟨j, pz_bit_lt hm h, h, rfl⟩
    · rintro ⟨d, -, h2, h3⟩
      have h3 : d = j := h3
      rw [← h3]; exact h2
  | k + 1 => by
    show pz_mv (pz_tp g) (pz_tk g m k) (pz_nd g) = _
    rw [pz_tk_mv hg hm k]
    apply pz_eq_bits
    intro j
    rw [pz_mv_bit, pz_mv_bit]
    constructor
    · rintro ⟨d, h1, h2, h3⟩
      rw [pz_mv_bit] at h2
      obtain ⟨e, k1, k2, k3⟩ := h2
      refine ⟨e, k1, k2, ?_⟩
      show pz_tp g (pz_pk g e k) = j
      rw [show pz_pk g e k = d from k3]
      exact h3
    · rintro ⟨e, k1, k2, k3⟩
      exact ⟨pz_pk g e k, pz_pk_lt hg k1 k, pz_mv_bit.mpr ⟨e, k1, k2, rfl⟩, k3⟩
theorem pz_turns {g d : Nat} (hg : g < 6) (hd : d < pz_nd g) : pz_pk g d (g + 4) = d ∧ pz_mp g (pz_mp g d) = d ∧ pz_rn g (g + 3 - pz_dl g d) (g + 3 - pz_dg g d) = pz_mp g d ∧ ∀ k, k < 10 → pz_pk g d k = pz_rn g ((pz_dl g d + k) % (g + 4)) ((pz_dg g d + k) % (g + 4)) := by
  have h := pz_al_e (pz_K9 g hg) d hd
  simp only [Bool.and_eq_true] at h
  obtain ⟨⟨⟨h1, h2⟩, h3⟩, h4⟩ := h
  exact ⟨Nat.eq_of_beq_eq_true h1, Nat.eq_of_beq_eq_true h2, Nat.eq_of_beq_eq_true h3, fun k hk => Nat.eq_of_beq_eq_true (pz_al_e h4 k hk)⟩
theorem pz_num_lt (g a b : Nat) : pz_num g a b < 4294967296 := pz_g_lt _ _
theorem pz_rn_lt (g a b : Nat) : pz_rn g a b < 4294967296 := by
  unfold pz_rn
  split
  · exact pz_num_lt _ _ _
  · exact pz_num_lt _ _ _
theorem pz_rn_or {g a b : Nat} (hg : g < 6) (ha : a < g + 4) (hb : b < g + 4) : pz_rn g a b = pz_X ∨ pz_rn g a b < pz_nd g := by
  unfold pz_rn
  split
  · rcases pz_numc hg hb ha with h | h
    · exact Or.inl h
    · exact Or.inr h.2.1
  · rcases pz_numc hg ha hb with h | h
    · exact Or.inl h
    · exact Or.inr h.2.1
def pz_lk (g m : Nat) : Nat → Nat
  | 0 => 0
  | k + 1 => pz_lk g m k + (if pz_tk g m k = m then 1 else 0) + (if pz_tk g (pz_mi g m) k = m then 1 else 0)
theorem pz_co_lt {g m : Nat} (hm : m < 134217728) : ∀ k, pz_co g m k < 134217728
  | 0 => hm
  | k + 1 => by
    unfold pz_co
    have := pz_co_lt (g := g) hm k
    omega
theorem pz_leI {a b : Nat} (ha : a < 2147483648) (hb : b < 2147483648) : (nI a ≤ nI b) = (a ≤ b) := propext (nI_leI ha hb)
theorem pz_eqI {a b : Nat} (ha : a < 2147483648) (hb : b < 2147483648) : (nI a = nI b) = (a = b) := propext (nI_eq ha hb)
theorem m_within {h : zq_H} {x : Int32} {n : Nat} (hn : 0 < n) (hn2 : n < 2147483648) : f_X6_within h x 0 (nI n - 1) = some (pz_inb n x) := by
  unfold f_X6_within pz_inb
  by_cases h1 : x < 0
  · simp [h1]
  · rw [if_neg h1]
    obtain ⟨a, ha, rfl⟩ := nI_of h1
    rw [show (1 : Int32) = nI 1 from rfl, pk_sub (by omega)]
    simp only [pz_leI hn2 ha]
    by_cases h2 : n ≤ a
    · rw [if_pos (nI_lt (by omega) ha)]
      simp [h2]
    · rw [if_neg (nI_nlt (by omega) (by omega))]
      simp [h1, h2]
section PZX
variable {h : zq_H} {g : Nat}
theorem mq_0 (R : pz_Ms h) : zq_gr h 104 6 0 = some 105 := (pz_gr (by have := R.1; omega) rfl).trans R.2.1
theorem mq_2 (R : pz_Ms h) : zq_gr h 104 6 2 = some 106 := (pz_gr (by have := R.1; omega) rfl).trans R.2.2.1
theorem mq_3 (R : pz_Ms h) : zq_gr h 104 6 3 = some 107 := (pz_gr (by have := R.1; omega) rfl).trans R.2.2.2.1
theorem mq_4 (R : pz_Ms h) : zq_gr h 104 6 4 = some 108 := (pz_gr (by have := R.1; omega) rfl).trans R.2.2.2.2.1
theorem mq_6 (R : pz_Ms h) : zq_gr h 104 6 6 = some 109 := (pz_gr (by have := R.1; omega) rfl).trans R.2.2.2.2.2.1
theorem mq_10 (R : pz_Ms h) : zq_gr h 104 6 10 = some 110 := (pz_gr (by have := R.1; omega) rfl).trans R.2.2.2.2.2.2.1
theorem mq_11 (R : pz_Ms h) : zq_gr h 104 6 11 = some 111 := (pz_gr (by have := R.1; omega) rfl).trans R.2.2.2.2.2.2.2.1
theorem mq_12 (R : pz_Ms h) : zq_gr h 104 6 12 = some 112 := (pz_gr (by have := R.1; omega) rfl).trans R.2.2.2.2.2.2.2.2.1
theorem mq_14 (R : pz_Ms h) : zq_gr h 104 6 14 = some 113 := (pz_gr (by have := R.1; omega) rfl).trans R.2.2.2.2.2.2.2.2.2.1
theorem mq_15 (R : pz_Ms h) : zq_gr h 104 6 15 = some 114 := (pz_gr (by have := R.1; omega) rfl).trans R.2.2.2.2.2.2.2.2.2.2.1
theorem mq_18 (R : pz_Ms h) : zq_gr h 104 6 18 = some 115 := (pz_gr (by have := R.1; omega) rfl).trans R.2.2.2.2.2.2.2.2.2.2.2.1
theorem mq_19 (R : pz_Ms h) : zq_gr h 104 6 19 = some 116 := (pz_gr (by have := R.1; omega) rfl).trans R.2.2.2.2.2.2.2.2.2.2.2.2.1
theorem mq_20 (R : pz_Ms h) : zq_gr h 104 6 20 = some 117 := (pz_gr (by have := R.1; omega) rfl).trans R.2.2.2.2.2.2.2.2.2.2.2.2.2
theorem mq_i (R : pz_Ms h) (j : Nat) : zq_gi h 104 6 j = some (pz_i h 104 j) := pz_gi (by have := R.1; omega) rfl
theorem mq_p (R : pz_Ms h) (j : Nat) (v : Int32) : zq_pi h 104 6 j v = some (pz_S h 104 j v) := pz_pi (by have := R.1; omega) rfl v
theorem mq_ck {α : Type} {k : Unit → Option α} (R : pz_Ms h) : zq_ck h 104 6 k = k () := pz_ck (by have := R.1; omega) rfl
theorem mq_z (R : pz_Ms h) {k : Nat} (hk : k < 5) : zq_ai h 105 (nI k) = some (pz_i h 105 k) := pz_ai (by have := R.1; omega) rfl hk (by omega)
theorem mq_z0 (R : pz_Ms h) : zq_ai h 105 0 = some (pz_i h 105 0) := mq_z R (k := 0) (by omega)
theorem mq_z1 (R : pz_Ms h) : zq_ai h 105 1 = some (pz_i h 105 1) := mq_z R (k := 1) (by omega)
theorem mq_z2 (R : pz_Ms h) : zq_ai h 105 2 = some (pz_i h 105 2) := mq_z R (k := 2) (by omega)
theorem mq_z3 (R : pz_Ms h) : zq_ai h 105 3 = some (pz_i h 105 3) := mq_z R (k := 3) (by omega)
theorem mq_n (R : pz_Ms h) (D : pz_Md h g) : zq_ai h 105 0 = some (nI (g + 4)) := by rw [mq_z0 R, D.2.1]
theorem mq_9 (R : pz_Ms h) (D : pz_Md h g) : zq_gi h 104 6 9 = some (nI (pz_nd g)) := by rw [mq_i R, D.2.2.1]
theorem mq_dl (R : pz_Ms h) (D : pz_Md h g) {d : Nat} (hd : d < pz_nd g) : zq_ai h 110 (nI d) = some (nI (pz_dl g d)) := by
  have := pz_nd_le D.1
  rw [pz_ai (L := 27) (by have := R.1; omega) rfl (by omega) (by omega), (D.2.2.2.1 d hd).1]
theorem mq_dg (R : pz_Ms h) (D : pz_Md h g) {d : Nat} (hd : d < pz_nd g) : zq_ai h 111 (nI d) = some (nI (pz_dg g d)) := by
  have := pz_nd_le D.1
  rw [pz_ai (L := 27) (by have := R.1; omega) rfl (by omega) (by omega), (D.2.2.2.1 d hd).2]
theorem mq_nu (R : pz_Ms h) (D : pz_Md h g) {a b : Nat} (ha : a < g + 4) (hb : b < g + 4) : zq_ai h 112 ((9 * nI a) + nI b) = some (nI (pz_num g a b)) := by
  have := D.1
  rw [show (9 : Int32) = nI 9 from rfl, pk_mul, nI_add, pz_ai (L := 81) (by have := R.1; omega) rfl (by omega) (by omega), D.2.2.2.2 a b ha hb]
theorem mq_ma (R : pz_Ms h) {i : Nat} (hi : i < 429) : zq_ai h 113 (nI i) = some (pz_i h 113 i) := pz_ai (by have := R.1; omega) rfl hi (by omega)
theorem m_numberOf (R : pz_Ms h) (D : pz_Md h g) {a b : Nat} (ha : a < g + 4) (hb : b < g + 4) : f_X6_numberOf h 104 (nI a) (nI b) = some (nI (pz_rn g a b)) := by
  have := D.1
  unfold f_X6_numberOf pz_rn
  by_cases e : b ≤ a
  · rw [if_pos (nI_le e (by omega)), mq_12 R, Option.bind_some, mq_nu R D hb ha, if_pos e]
    rfl
  · rw [if_neg (nI_ge (by omega) (by omega)), mq_12 R, Option.bind_some, mq_nu R D ha hb, if_neg e]
    rfl
theorem m_isDiagonal (R : pz_Ms h) (D : pz_Md h g) (x y : Int32) : f_X6_isDiagonal h 104 x y = some (decide (pz_no g x y ≠ pz_X)) := by
  have hg := D.1
  unfold f_X6_isDiagonal pz_no
  rw [mq_0 R, Option.bind_some, mq_n R D, Option.bind_some, m_within (by omega) (by omega), Option.bind_some]
  cases h1 : pz_inb (g + 4) x with
  | false => simp
  | true =>
    rw [if_neg (by simp), Option.bind_some, mq_n R D, Option.bind_some, m_within (by omega) (by omega), Option.bind_some]
    cases h2 : pz_inb (g + 4) y with
    | false => simp
    | true =>
      obtain ⟨a, ha, rfl⟩ := pz_inb_of (by omega) h1
      obtain ⟨b, hb, rfl⟩ := pz_inb_of (by omega) h2
      rw [if_neg (show ¬ (true = false) by simp), nI_clamp (by omega), nI_clamp (by omega)]
      simp only [and_self, if_true]
      by_cases e : b ≤ a
      · rw [if_pos (nI_le e (by omega))]
        rcases pz_numc hg ha hb with q | q
        · simp [q]
        · omega
      · rw [if_neg (nI_ge (by omega) (by omega)), mq_ck R, m_numberOf R D ha hb, Option.bind_some]
        unfold pz_rn
        simp only [if_neg e, pz_m1, pz_eq (pz_num_lt g a b) (show 4294967295 < 4294967296 by omega)]
        by_cases q : pz_num g a b = 4294967295
        · simp [q]
        · simp [q]
theorem m_fanOf (R : pz_Ms h) (D : pz_Md h g) {c : Nat} (hc : c < g + 4) : f_X6_fanOf h 104 (nI c) = some (nI (pz_fn g c)) := by
  have hg := D.1
  have hn := pz_nd_le hg
  have hK := Nat.eq_of_beq_eq_true (pz_al_e (pz_K16 g hg) c hc)
  rw [← hK]
  unfold f_X6_fanOf
  have hfo : ∀ i, i ≤ 27 → pz_fo g c i < 134217728 := by
    intro i
    induction i with
    | zero => intro _; simp [pz_fo]
    | succ i ih =>
      intro hi
      have h1 := ih (by omega)
      unfold pz_fo
      have h2 : 2 ^ i < 134217728 := Nat.pow_lt_pow_right (n := 27) (by omega) (by omega)
      refine Nat.or_lt_two_pow (n := 27) h1 ?_
      cases (Nat.beq (pz_dl g i) c || Nat.beq (pz_dg g i) c) with
      | true => exact h2
      | false => exact Nat.pow_pos (by omega)
  refine pz_lpB (fun i => (nI (pz_fo g c i), nI i)) (pz_nd g) (r := nI (pz_fo g c (pz_nd g))) rfl rfl ?_ ?_ (by omega)
  · intro i hi
    have b1 := hfo i (by omega)
    have b2 : 2 ^ i < 134217728 := Nat.pow_lt_pow_right (n := 27) (by omega) (by omega)
    obtain ⟨-, d1, d2, -⟩ := pz_dia hg hi
    rw [mq_9 R D, Option.bind_some, if_neg (nI_ge hi (by omega)), mq_10 R, Option.bind_some, mq_dl R D hi, Option.bind_some]
    simp only [zq_let, nI_1, pz_eqI (a := pz_dl g i) (b := c) (by omega) (by omega)]
    by_cases e1 : pz_dl g i = c
    · rw [if_pos e1, pz_shl (by omega), pz_or (by omega) (by omega)]
      simp [pz_fo, e1]
    · rw [if_neg e1, mq_11 R, Option.bind_some, mq_dg R D hi, Option.bind_some]
      simp only [pz_eqI (a := pz_dg g i) (b := c) (by omega) (by omega)]
      have e1' : Nat.beq (pz_dl g i) c = false := by
        cases q : Nat.beq (pz_dl g i) c with
        | false => rfl
        | true => exact absurd (Nat.eq_of_beq_eq_true q) e1
      by_cases e2 : pz_dg g i = c
      · rw [if_pos e2, pz_shl (by omega), pz_or (by omega) (by omega)]
        simp [pz_fo, e2]
      · have e2' : Nat.beq (pz_dg g i) c = false := by
          cases q : Nat.beq (pz_dg g i) c with
          | false => rfl
          | true => exact absurd (Nat.eq_of_beq_eq_true q) e2
        rw [if_neg e2, show (0 : Int32) = nI 0 from rfl, pz_or (by omega) (by omega)]
        simp [pz_fo, e1', e2']
  · rw [mq_9 R D, Option.bind_some, if_pos (nI_le (Nat.le_refl _) (by omega))]
theorem m_joined (R : pz_Ms h) (D : pz_Md h g) {m a b : Nat} (hm : m < 134217728) (ha : a < g + 4) (hb : b < g + 4) : f_X6_joined h 104 (nI m) (nI a) (nI b) = some (pz_jn g m a b) := by
  have hg := D.1
  have hn := pz_nd_le hg
  unfold f_X6_joined pz_jn
  rw [mq_ck R, m_numberOf R D ha hb, Option.bind_some]
  rcases pz_rn_or hg ha hb with q | q
  · rw [q, if_pos (by decide)]
    rfl
  · rw [if_neg (by rw [pz_eqm1 (by omega)]; exact id), s_has (by omega) (by omega), Option.bind_some]
    have e1' : Nat.beq (pz_rn g a b) pz_X = false := by
      cases e : Nat.beq (pz_rn g a b) pz_X with
      | false => rfl
      | true =>
        have := Nat.eq_of_beq_eq_true e
        rw [this] at q
        exact absurd q (by show ¬ 4294967295 < _; omega)
    rw [e1']
    cases m.testBit (pz_rn g a b) <;> rfl
theorem m_apex (R : pz_Ms h) (D : pz_Md h g) {m a b : Nat} (hm : m < 134217728) (ha : a < g + 4) (hb : b < g + 4) (hx : pz_axs g m a b < g + 4) : f_X6_apex h 104 (nI m) (nI a) (nI b) = some (nI (pz_ax g m a b)) := by
  have hg := D.1
  unfold f_X6_apex
  have hrem : ∀ c, c < 1000 → nI c - nI c / nI (g + 4) * nI (g + 4) = nI (c % (g + 4)) := fun c hc => pk_rem (by omega) (by omega) (by omega)
  have hnz : ∀ {α : Type} (f : Unit → Option α), zq_nz (nI (g + 4)) f = f () := fun f => if_pos (nI_ne0 (by omega) (by omega))
  have hmod : ∀ i, (a + 1 + i) % (g + 4) < g + 4 := fun i => Nat.mod_lt _ (by omega)
  rw [mq_0 R, Option.bind_some, mq_n R D, Option.bind_some, hnz]
  simp only [zq_let, nI_1]
  rw [hrem _ (by omega)]
  refine pz_lpB (fun i => nI ((a + 1 + i) % (g + 4))) (pz_axs g m a b) (r := nI (pz_ax g m a b)) rfl rfl ?_ ?_ (by omega)
  · intro i hi
    have hno := pz_ff_no (fun i => pz_jn g m a ((a + 1 + i) % (g + 4)) && pz_jn g m ((a + 1 + i) % (g + 4)) b) (g + 4) 0 i (by omega) hi
    have hs : ((a + 1 + i) % (g + 4) + 1) % (g + 4) = (a + 1 + (i + 1)) % (g + 4) := by rw [Nat.mod_add_mod, Nat.add_assoc]
    have hml := hmod i
    rw [mq_ck R, m_joined R D hm ha (hmod i), Option.bind_some]
    cases h1 : pz_jn g m a ((a + 1 + i) % (g + 4)) with
    | false =>
      rw [if_pos rfl, Option.bind_some, mq_n R D, Option.bind_some, hnz, nI_1, hrem ((a + 1 + i) % (g + 4) + 1) (by omega), hs]
    | true =>
      rw [if_neg (by simp), mq_ck R, m_joined R D hm (hmod i) hb, Option.bind_some]
      rw [h1, Bool.true_and] at hno
      rw [hno, if_pos rfl, Option.bind_some, mq_n R D, Option.bind_some, hnz, nI_1, hrem ((a + 1 + i) % (g + 4) + 1) (by omega), hs]
  · have hyes := pz_ff_yes (fun i => pz_jn g m a ((a + 1 + i) % (g + 4)) && pz_jn g m ((a + 1 + i) % (g + 4)) b) (g + 4) 0 (by rw [Nat.zero_add]; exact hx)
    have hyes : pz_jn g m a ((a + 1 + pz_axs g m a b) % (g + 4)) && pz_jn g m ((a + 1 + pz_axs g m a b) % (g + 4)) b := hyes
    rw [Bool.and_eq_true] at hyes
    rw [mq_ck R, m_joined R D hm ha (hmod _), Option.bind_some, hyes.1, if_neg (by simp), mq_ck R, m_joined R D hm (hmod _) hb, Option.bind_some, hyes.2, if_neg (by simp)]
    rfl
theorem m_flipped (R : pz_Ms h) (D : pz_Md h g) {m d : Nat} (hm : pz_T g m) (hb : m.testBit d = true) : f_X6_flipped h 104 (nI m) (nI d) = some (nI (pz_oth g m d)) := by
  have hg := D.1
  obtain ⟨hd, -, -, -, -, -, x1, x2, x3, -⟩ := pz_flip hg hm hb
  obtain ⟨-, d1, d2, -⟩ := pz_dia hg hd
  have hm27 := pz_T_27 hg hm
  have a1 : pz_ax g m (pz_dl g d) (pz_dg g d) < g + 4 := Nat.mod_lt _ (by omega)
  have a2 : pz_ax g m (pz_dg g d) (pz_dl g d) < g + 4 := Nat.mod_lt _ (by omega)
  unfold f_X6_flipped
  rw [mq_10 R, Option.bind_some, mq_dl R D hd, Option.bind_some, mq_11 R, Option.bind_some, mq_dg R D hd, Option.bind_some, mq_ck R, m_apex R D hm27 (by omega) (by omega) x1, Option.bind_some, mq_ck R, m_apex R D hm27 (by omega) (by omega) x2, Option.bind_some, mq_ck R, m_numberOf R D a1 a2, Option.bind_some, ← x3]
  rfl
theorem m_behindFlip (R : pz_Ms h) (D : pz_Md h g) {m d : Nat} (hm : pz_T g m) (hb : m.testBit d = true) : f_X6_behindFlip h 104 (nI m) (nI d) = some (nI (pz_fl g m d)) := by
  have hg := D.1
  obtain ⟨hd, ho, -, -, -, x5, -⟩ := pz_flip hg hm hb
  have hn := pz_nd_le hg
  have hm27 := pz_T_27 hg hm
  have p1 : 2 ^ d < 134217728 := Nat.pow_lt_pow_right (n := 27) (by omega) (by omega)
  have p2 : 2 ^ pz_oth g m d < 134217728 := Nat.pow_lt_pow_right (n := 27) (by omega) (by omega)
  have p3 : 2 ^ d ^^^ 4294967295 < 4294967296 := Nat.xor_lt_two_pow (n := 32) (by omega) (by omega)
  unfold f_X6_behindFlip
  rw [mq_ck R, m_flipped R D hm hb, Option.bind_some, pz_shl (by omega), pz_shl (by omega), pz_not (by omega), pz_and (by omega) p3, pz_or (Nat.lt_of_le_of_lt Nat.and_le_left (by omega)) (by omega), x5]
theorem m_bs (R : pz_Ms h) (hg : g < 6) (H : pz_Mm h g) {m : Nat} (hm : m < 134217728) : ∀ (k lo hi N : Nat), hi - lo < 2 ^ k → k < N → hi < pz_cn g → lo ≤ pz_cn g →
    zq_lp (σ := Int32 × Int32) (ρ := Int32) (fun s_5 => (if s_5.2 ≤ s_5.1 then some (.inr s_5.1) else (zq_let ((s_5.1 + s_5.2) / 2) fun v_14 => (Option.bind (some 113) fun v_16 => (Option.bind (zq_ai h v_16 v_14) fun v_18 => (if nI m ≤ v_18 then some (.inl (s_5.1, v_14)) else (zq_let (v_14 + 1) fun v_21 => some (.inl (v_21, s_5.2))))))))) N (nI lo, nI hi) = some (nI (pz_bs g m k lo hi))
  | _, _, _, 0, _, h, _, _ => absurd h (Nat.not_lt_zero _)
  | 0, lo, hi, N + 1, h1, _, h3, h4 => by
    have hcn := pz_cn_le hg
    rw [Nat.pow_zero] at h1
    unfold zq_lp pz_bs
    simp only
    rw [if_pos (show nI hi ≤ nI lo from nI_le (by omega) (by omega))]
  | k + 1, lo, hi, N + 1, h1, h2, h3, h4 => by
    have hcn := pz_cn_le hg
    unfold zq_lp pz_bs
    simp only
    by_cases e : hi ≤ lo
    · rw [if_pos e, if_pos (show nI hi ≤ nI lo from nI_le e (by omega))]
    · rw [if_neg (show ¬ nI hi ≤ nI lo from nI_ge (by omega) (by omega)), if_neg e]
      rw [Nat.pow_succ] at h1
      have hmid : (lo + hi) / 2 < pz_cn g := by omega
      obtain ⟨-, t2, -⟩ := pz_tt_2 hg hmid
      have t3 := pz_p27 hg t2
      have h5 : zq_ai h 113 (nI ((lo + hi) / 2)) = some (nI (pz_tt g ((lo + hi) / 2))) := by rw [mq_ma R (by omega), H.2 _ hmid]
      simp only [zq_let, Option.bind_some, nI_add]
      rw [show (2 : Int32) = nI 2 from rfl, pk_div (by omega) (by omega) (by omega), h5, Option.bind_some]
      simp only [pz_leI (a := m) (b := pz_tt g ((lo + hi) / 2)) (by omega) (by omega)]
      by_cases q : m ≤ pz_tt g ((lo + hi) / 2)
      · rw [if_pos q, if_pos q]
        exact m_bs R hg H hm k lo ((lo + hi) / 2) N (by omega) (by omega) (by omega) h4
      · rw [if_neg q, if_neg q, nI_1]
        exact m_bs R hg H hm k ((lo + hi) / 2 + 1) hi N (by omega) (by omega) h3 (by omega)
theorem m_indexOf (R : pz_Ms h) (hg : g < 6) (H : pz_Mm h g) {m : Nat} (hm : m < 134217728) : f_X6_indexOf h 104 (nI m) = some (nI (pz_ix g m)) := by
  have hcn := pz_cn_le hg
  unfold f_X6_indexOf
  rw [mq_i R, H.1, Option.bind_some, mq_14 R]
  show (zq_lp _ zq_N ((0 : Int32), nI (pz_cn g) - 1)).bind _ = _
  rw [show (1 : Int32) = nI 1 from rfl, pk_sub (by omega), show ((0 : Int32), nI (pz_cn g - 1)) = (nI 0, nI (pz_cn g - 1)) from rfl]
  have := m_bs R hg H hm 10 0 (pz_cn g - 1) zq_N (by omega) (by decide) (by omega) (by omega)
  rw [show (1 : Int32) = nI 1 from rfl] at this
  rw [this]
  rfl
theorem m_turned (R : pz_Ms h) (D : pz_Md h g) {m k : Nat} (hm : m < 2 ^ pz_nd g) (hk : k < 10) : f_X6_turned h 104 (nI m) (nI k) = some (nI (pz_tk g m k)) := by
  have hg := D.1
  have hn := pz_nd_le hg
  have hm27 := pz_p27 hg hm
  rw [pz_tk_mv hg hm]
  have hnz : ∀ {α : Type} (f : Unit → Option α), zq_nz (nI (g + 4)) f = f () := fun f => if_pos (nI_ne0 (by omega) (by omega))
  unfold f_X6_turned
  refine pz_lpB (fun i => (nI (pz_mv (fun d => pz_pk g d k) m i), nI i)) (pz_nd g) (r := nI (pz_mv (fun d => pz_pk g d k) m (pz_nd g))) rfl rfl ?_ ?_ (by omega)
  · intro i hi
    have hlt : pz_mv (fun d => pz_pk g d k) m i < 134217728 := pz_p27 hg (pz_mv_lt (fun d hd => pz_pk_lt hg (by omega) k))
    have hq := pz_pk_lt hg hi k
    have hp : 2 ^ pz_pk g i k < 134217728 := Nat.pow_lt_pow_right (n := 27) (by omega) (by omega)
    obtain ⟨-, d1, d2, -⟩ := pz_dia hg hi
    obtain ⟨-, -, -, t4⟩ := pz_turns hg hi
    rw [mq_9 R D, Option.bind_some, if_neg (nI_ge hi (by omega)), mq_10 R, Option.bind_some, mq_dl R D hi, Option.bind_some, mq_0 R, Option.bind_some, mq_n R D, Option.bind_some, hnz, mq_11 R, Option.bind_some, mq_dg R D hi, Option.bind_some, Option.bind_some, mq_n R D, Option.bind_some, hnz, mq_ck R, nI_add, nI_add, pk_rem (by omega) (by omega) (by omega), pk_rem (by omega) (by omega) (by omega), m_numberOf R D (Nat.mod_lt _ (by omega)) (Nat.mod_lt _ (by omega)), Option.bind_some, ← t4 k hk, s_has (by omega) (by omega), Option.bind_some]
    simp only [zq_let, nI_1]
    cases hb : m.testBit i with
    | false =>
      rw [if_pos rfl, show (0 : Int32) = nI 0 from rfl, pz_or (by omega) (by omega)]
      simp [pz_mv, hb]
    | true =>
      rw [if_neg (by simp), pz_shl (by omega), pz_or (by omega) (by omega)]
      simp [pz_mv, hb]
  · rw [mq_9 R D, Option.bind_some, if_pos (nI_le (Nat.le_refl _) (by omega))]
theorem m_mirrored (R : pz_Ms h) (D : pz_Md h g) {m : Nat} (hm27 : m < 134217728) : f_X6_mirrored h 104 (nI m) = some (nI (pz_mi g m)) := by
  have hg := D.1
  have hn := pz_nd_le hg
  unfold f_X6_mirrored
  refine pz_lpB (fun i => (nI (pz_mv (pz_mp g) m i), nI i)) (pz_nd g) (r := nI (pz_mi g m)) rfl rfl ?_ ?_ (by omega)
  · intro i hi
    have hlt : pz_mv (pz_mp g) m i < 134217728 := pz_p27 hg (pz_mv_lt (fun d hd => (pz_dia hg (by omega)).2.2.2.2.2))
    obtain ⟨-, d1, d2, -, -, hq⟩ := pz_dia hg hi
    have hp : 2 ^ pz_mp g i < 134217728 := Nat.pow_lt_pow_right (n := 27) (by omega) (by omega)
    obtain ⟨-, -, t3, -⟩ := pz_turns hg hi
    rw [mq_9 R D, Option.bind_some, if_neg (nI_ge hi (by omega)), mq_0 R, Option.bind_some, mq_n R D, Option.bind_some, mq_10 R, Option.bind_some, mq_dl R D hi, Option.bind_some, Option.bind_some, mq_n R D, Option.bind_some, mq_11 R, Option.bind_some, mq_dg R D hi, Option.bind_some, mq_ck R, show (1 : Int32) = nI 1 from rfl, pk_sub (by omega), pk_sub (by omega), pk_sub (by omega), show g + 4 - 1 = g + 3 from rfl, m_numberOf R D (by omega) (by omega), Option.bind_some, t3, s_has (by omega) (by omega), Option.bind_some]
    simp only [zq_let, nI_add]
    cases hb : m.testBit i with
    | false =>
      rw [if_pos rfl, show (0 : Int32) = nI 0 from rfl, pz_or (by omega) (by omega)]
      simp [pz_mv, hb]
    | true =>
      rw [if_neg (by simp), show nI 1 <<< (nI (pz_mp g i) &&& 31) = nI (2 ^ pz_mp g i) from pz_shl (by omega), pz_or (by omega) (by omega)]
      simp [pz_mv, hb]
  · rw [mq_9 R D, Option.bind_some, if_pos (nI_le (Nat.le_refl _) (by omega))]
    rfl
theorem m_codeOf (R : pz_Ms h) (D : pz_Md h g) {m : Nat} (hm : m < 2 ^ pz_nd g) : f_X6_codeOf h 104 (nI m) = some (nI (pz_co g m (g + 4))) := by
  have hg := D.1
  have hm27 := pz_p27 hg hm
  unfold f_X6_codeOf
  refine pz_lpB (fun i => (nI (pz_co g m i), nI i)) (g + 4) (r := nI (pz_co g m (g + 4))) rfl rfl ?_ ?_ (by omega)
  · intro i hi
    have b1 := pz_co_lt (g := g) hm27 i
    have b2 := pz_p27 hg (pz_tk_lt hg hm i)
    have b3 := pz_p27 hg (pz_tk_lt hg (pz_mi_lt hg m) i)
    rw [mq_0 R, Option.bind_some, mq_n R D, Option.bind_some, if_neg (nI_ge hi (by omega)), mq_ck R, m_turned R D hm (by omega), Option.bind_some, mq_ck R, m_mirrored R D hm27, Option.bind_some, mq_ck R, m_turned R D (pz_mi_lt hg m) (by omega), Option.bind_some]
    simp only [zq_let, nI_1, pz_leI (a := pz_co g m i) (b := pz_tk g m i) (by omega) (by omega), pz_leI (a := pz_co g m i) (b := pz_tk g (pz_mi g m) i) (by omega) (by omega), pz_leI (a := pz_tk g m i) (b := pz_tk g (pz_mi g m) i) (by omega) (by omega)]
    have e : pz_co g m (i + 1) = min (min (pz_co g m i) (pz_tk g m i)) (pz_tk g (pz_mi g m) i) := rfl
    rw [e]
    by_cases q1 : pz_co g m i ≤ pz_tk g m i
    · rw [if_pos q1, Nat.min_eq_left q1]
      by_cases q2 : pz_co g m i ≤ pz_tk g (pz_mi g m) i
      · rw [if_pos q2, Nat.min_eq_left q2]
      · rw [if_neg q2, Nat.min_eq_right (by omega)]
    · rw [if_neg q1, Nat.min_eq_right (a := pz_co g m i) (by omega)]
      by_cases q2 : pz_tk g m i ≤ pz_tk g (pz_mi g m) i
      · rw [if_pos q2, Nat.min_eq_left q2]
      · rw [if_neg q2, Nat.min_eq_right (by omega)]
  · rw [mq_0 R, Option.bind_some, mq_n R D, Option.bind_some, if_pos (nI_le (Nat.le_refl _) (by omega))]
theorem m_likenesses (R : pz_Ms h) (D : pz_Md h g) {m : Nat} (hm : m < 2 ^ pz_nd g) : f_X6_likenesses h 104 (nI m) = some (nI (pz_lk g m (g + 4))) := by
  have hg := D.1
  have hm27 := pz_p27 hg hm
  unfold f_X6_likenesses
  refine pz_lpB (fun i => (nI (pz_lk g m i), nI i)) (g + 4) (r := nI (pz_lk g m (g + 4))) rfl rfl ?_ ?_ (by omega)
  · intro i hi
    have b2 := pz_p27 hg (pz_tk_lt hg hm i)
    have b3 := pz_p27 hg (pz_tk_lt hg (pz_mi_lt hg m) i)
    rw [mq_0 R, Option.bind_some, mq_n R D, Option.bind_some, if_neg (nI_ge hi (by omega)), mq_ck R, m_turned R D hm (by omega), Option.bind_some]
    simp only [zq_let, nI_1, pz_eqI (a := pz_tk g m i) (b := m) (by omega) (by omega)]
    have e : pz_lk g m (i + 1) = pz_lk g m i + (if pz_tk g m i = m then 1 else 0) + (if pz_tk g (pz_mi g m) i = m then 1 else 0) := rfl
    rw [e, show (0 : Int32) = nI 0 from rfl]
    by_cases q1 : pz_tk g m i = m
    · rw [if_pos q1, if_pos q1, mq_ck R, m_mirrored R D hm27, Option.bind_some, mq_ck R, m_turned R D (pz_mi_lt hg m) (by omega), Option.bind_some]
      simp only [pz_eqI (a := pz_tk g (pz_mi g m) i) (b := m) (by omega) (by omega)]
      by_cases q2 : pz_tk g (pz_mi g m) i = m
      · rw [if_pos q2, if_pos q2]
      · rw [if_neg q2, if_neg q2, nI_add]
    · rw [if_neg q1, if_neg q1, mq_ck R, m_mirrored R D hm27, Option.bind_some, mq_ck R, m_turned R D (pz_mi_lt hg m) (by omega), Option.bind_some, nI_add]
      simp only [pz_eqI (a := pz_tk g (pz_mi g m) i) (b := m) (by omega) (by omega)]
      by_cases q2 : pz_tk g (pz_mi g m) i = m
      · rw [if_pos q2, if_pos q2, nI_1]
      · rw [if_neg q2, if_neg q2, nI_add]
  · rw [mq_0 R, Option.bind_some, mq_n R D, Option.bind_some, if_pos (nI_le (Nat.le_refl _) (by omega))]
theorem m_degreeOf (R : pz_Ms h) (D : pz_Md h g) {m c : Nat} (hm : m < 134217728) (hc : c < g + 4) : f_X6_degreeOf h 104 (nI m) (nI c) = some (nI (pz_de g m c)) := by
  unfold f_X6_degreeOf
  rw [mq_ck R, m_fanOf R D hc, Option.bind_some, pz_and (by omega) (pz_fn_lt g c), s_ones (Nat.lt_of_le_of_lt Nat.and_le_left (by omega))]
  rfl
theorem m_cornersOf (R : pz_Ms h) (D : pz_Md h g) {m : Nat} (hm : m < 134217728) (x : Int32) : f_X6_cornersOf h 104 (nI m) x = some (if x = 0 then nI (pz_gd g m (g + 4)) else nI (pz_ea g m (g + 4))) := by
  have hg := D.1
  unfold f_X6_cornersOf
  refine pz_lpB (fun i => (nI (pz_ea g m i), nI (pz_gd g m i), nI i)) (g + 4) (r := (nI (pz_ea g m (g + 4)), nI (pz_gd g m (g + 4)))) ?_ rfl ?_ ?_ (by omega)
  · simp only
    by_cases e : x = 0
    · rw [if_pos e, if_pos e]
    · rw [if_neg e, if_neg e]
  · intro i hi
    have b1 := pz_de_lt (g := g) m i
    have b2 := pz_gd_le (g := g) m i
    rw [mq_0 R, Option.bind_some, mq_n R D, Option.bind_some, if_neg (nI_ge hi (by omega)), mq_ck R, m_degreeOf R D hm hi, Option.bind_some]
    simp only [zq_let, nI_1, pz_leI (a := pz_de g m i) (b := pz_gd g m i) (by omega) (by omega)]
    have e1 : pz_ea g m (i + 1) = pz_ea g m i + if pz_de g m i = 0 then 1 else 0 := rfl
    have e2 : pz_gd g m (i + 1) = if pz_gd g m i < pz_de g m i then pz_de g m i else pz_gd g m i := rfl
    rw [e1, e2]
    by_cases q : pz_de g m i = 0
    · rw [if_pos (by rw [q]; rfl), if_pos q]
      by_cases q2 : pz_de g m i ≤ pz_gd g m i
      · rw [if_pos q2, if_neg (by omega)]
      · rw [if_neg q2, if_pos (by omega)]
    · rw [if_neg (nI_ne0 (by omega) (by omega)), if_neg q, show (0 : Int32) = nI 0 from rfl, nI_add]
      by_cases q2 : pz_de g m i ≤ pz_gd g m i
      · rw [if_pos q2, if_neg (by omega)]
      · rw [if_neg q2, if_pos (by omega)]
  · rw [mq_0 R, Option.bind_some, mq_n R D, Option.bind_some, if_pos (nI_le (Nat.le_refl _) (by omega))]
end PZX
