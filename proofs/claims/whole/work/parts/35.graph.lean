/-! what the kernel's facts say; the graph of flips; distances -/
/-- dissections: noncrossing sets of diagonals -/
def pz_nc (g C : Nat) : Prop := C < 2 ^ pz_nd g ∧ ∀ d, d < pz_nd g → C.testBit d = true → pz_cr g d &&& C = 0
/-- q of all dissections that begin with m and take the rest of the first k diagonals -/
def pz_dis (g : Nat) (q : Nat → Bool) : Nat → Nat → Bool
  | 0, m => q m
  | k + 1, m => pz_dis g q k m && (!(Nat.beq (pz_cr g k &&& m) 0) || pz_dis g q k (m ||| 2 ^ k))
theorem pz_nd_le {g : Nat} (hg : g < 6) : pz_nd g ≤ 27 := by
  have h : ∀ g, g < 6 → pz_nd g ≤ 27 := by decide
  exact h g hg
theorem pz_cn_le {g : Nat} (hg : g < 6) : pz_cn g ≤ 429 ∧ 0 < pz_cn g := by
  have h : ∀ g, g < 6 → pz_cn g ≤ 429 ∧ 0 < pz_cn g := by decide
  exact h g hg
theorem pz_p27 {g m : Nat} (hg : g < 6) (h : m < 2 ^ pz_nd g) : m < 134217728 :=
  Nat.lt_of_lt_of_le h (Nat.pow_le_pow_right (n := 2) (by omega) (pz_nd_le hg))
theorem pz_bit_lt {m n d : Nat} (h : m < 2 ^ n) (hd : m.testBit d = true) : d < n := by
  rcases Nat.lt_or_ge d n with e | e
  · exact e
  · rw [Nat.testBit_lt_two_pow (Nat.lt_of_lt_of_le h (Nat.pow_le_pow_right (by omega) e))] at hd
    cases hd
theorem pz_sub0 {a b c : Nat} (h : ∀ i, b.testBit i = true → c.testBit i = true) (h0 : a &&& c = 0) : a &&& b = 0 := by
  apply Nat.eq_of_testBit_eq
  intro i
  rw [Nat.testBit_and, Nat.zero_testBit]
  have h1 := congrArg (fun x => x.testBit i) h0
  simp only [Nat.testBit_and, Nat.zero_testBit] at h1
  cases hb : b.testBit i with
  | false => simp
  | true =>
    rw [h i hb] at h1
    simpa using h1
/-- the low k bits -/
theorem pz_mod_succ (C k : Nat) : C % 2 ^ (k + 1) = C % 2 ^ k ||| (if C.testBit k = true then 2 ^ k else 0) := by
  apply Nat.eq_of_testBit_eq
  intro i
  rw [Nat.testBit_or, Nat.testBit_mod_two_pow, Nat.testBit_mod_two_pow]
  by_cases hc : C.testBit k = true
  · rw [if_pos hc, Nat.testBit_two_pow]
    by_cases e : i = k
    · subst e; simp [hc]
    · have : ¬ k = i := fun h => e h.symm
      simp only [this, decide_false, Bool.or_false]
      by_cases e2 : i < k
      · simp [e2, Nat.lt_succ_of_lt e2]
      · have : ¬ i < k + 1 := by omega
        simp [e2, this]
  · rw [if_neg hc, Nat.zero_testBit, Bool.or_false]
    by_cases e : i = k
    · subst e; simp [hc]
    · by_cases e2 : i < k
      · simp [e2, Nat.lt_succ_of_lt e2]
      · have : ¬ i < k + 1 := by omega
        simp [e2, this]
theorem pz_dis_e {g : Nat} {q : Nat → Bool} {C : Nat} (hC : ∀ d, C.testBit d = true → pz_cr g d &&& C = 0) : ∀ (k m : Nat), pz_dis g q k m = true → (m ||| C % 2 ^ k = C) → q C = true
  | 0, m, h, e => by
    unfold pz_dis at h
    rw [Nat.pow_zero, Nat.mod_one, Nat.or_zero] at e
    rw [← e]; exact h
  | k + 1, m, h, e => by
    unfold pz_dis at h
    rw [Bool.and_eq_true] at h
    rw [pz_mod_succ] at e
    by_cases hk : C.testBit k = true
    · rw [if_pos hk] at e
      have h2 := h.2
      rw [Bool.or_eq_true] at h2
      rcases h2 with h2 | h2
      · exfalso
        have h3 : pz_cr g k &&& m = 0 := pz_sub0 (fun i hi => by rw [← e, Nat.testBit_or, hi]; rfl) (hC k hk)
        rw [h3] at h2
        cases h2
      · refine pz_dis_e hC k (m ||| 2 ^ k) h2 ?_
        rw [Nat.or_assoc, Nat.or_comm (2 ^ k)]
        exact e
    · rw [if_neg hk, Nat.or_zero] at e
      exact pz_dis_e hC k m h.1 e
/-- what the kernel finds of all dissections -/
theorem pz_dis_all {g C : Nat} {q : Nat → Bool} (h : pz_dis g q (pz_nd g) 0 = true) (hC : pz_nc g C) : q C = true :=
  pz_dis_e (fun d hd => hC.2 d (pz_bit_lt hC.1 hd) hd) _ 0 h (by rw [Nat.zero_or, Nat.mod_eq_of_lt hC.1])
/-- bitCount's numbers -/
def pz_b1 (x : Nat) : Nat := x - ((x / 2) &&& 1431655765)
def pz_b2 (x : Nat) : Nat := (x &&& 858993459) + ((x / 4) &&& 858993459)
def pz_b3 (x : Nat) : Nat := (x + x / 16) &&& 252645135
def pz_b4 (x : Nat) : Nat := x + x / 256
def pz_b5 (x : Nat) : Nat := x + x / 65536
def pz_bc (x : Nat) : Nat := pz_b5 (pz_b4 (pz_b3 (pz_b2 (pz_b1 x)))) &&& 63
theorem pz_K11 : ∀ g, g < 6 → pz_dis g (fun C => Nat.beq (pz_bc C) (pz_rk C 27)) (pz_nd g) 0 = true := by decide +kernel
theorem pz_K12 : pz_al (fun m => Nat.beq (pz_bc m) (pz_rk m 27)) 512 = true := by decide +kernel
theorem pz_K13 : pz_al (fun k => Nat.beq (pz_bc (2 ^ k - 1)) k) 28 = true := by decide +kernel
def pz_k14 (g : Nat) : Bool := pz_al (fun i => pz_al (fun d => !((pz_tt g i).testBit d) || Nat.beq (pz_cr g d &&& pz_tt g i) 0) (pz_nd g)) (pz_cn g)
theorem pz_K14 : ∀ g, g < 6 → pz_k14 g = true := by decide +kernel
theorem pz_bc_lt (x : Nat) : pz_bc x < 64 := Nat.lt_of_le_of_lt Nat.and_le_right (by omega)
section PZG
variable {g : Nat}
theorem pz_tt_2 (hg : g < 6) {i : Nat} (hi : i < pz_cn g) : pz_ix g (pz_tt g i) = i ∧ pz_tt g i < 2 ^ pz_nd g ∧ (i ≠ 0 → pz_tt g (i - 1) < pz_tt g i) := by
  have h := pz_al_e (pz_K2 g hg) i hi
  simp only [Bool.and_eq_true, Bool.or_eq_true] at h
  obtain ⟨⟨h1, h2⟩, h3⟩ := h
  refine ⟨Nat.eq_of_beq_eq_true h1, pz_lt_e h2, fun h0 => ?_⟩
  rcases h3 with h3 | h3
  · exact absurd (Nat.eq_of_beq_eq_true h3) h0
  · exact pz_lt_e h3
theorem pz_tt_T {i : Nat} (hi : i < pz_cn g) : pz_T g (pz_tt g i) := ⟨i, hi, rfl⟩
theorem pz_T_ix (hg : g < 6) {m : Nat} (h : pz_T g m) : pz_ix g m < pz_cn g ∧ pz_tt g (pz_ix g m) = m := by
  obtain ⟨i, hi, rfl⟩ := h
  rw [(pz_tt_2 hg hi).1]
  exact ⟨hi, rfl⟩
theorem pz_T_lt (hg : g < 6) {m : Nat} (h : pz_T g m) : m < 2 ^ pz_nd g := by
  obtain ⟨i, hi, rfl⟩ := h
  exact (pz_tt_2 hg hi).2.1
theorem pz_T_27 (hg : g < 6) {m : Nat} (h : pz_T g m) : m < 134217728 := pz_p27 hg (pz_T_lt hg h)
theorem pz_T_nc (hg : g < 6) {m : Nat} (h : pz_T g m) : pz_nc g m := by
  refine ⟨pz_T_lt hg h, fun d hd hb => ?_⟩
  obtain ⟨i, hi, rfl⟩ := h
  have h := pz_al_e (pz_al_e (pz_K14 g hg) i hi) d hd
  rw [hb] at h
  exact Nat.eq_of_beq_eq_true (by simpa using h)
theorem pz_nc_sub {C m : Nat} (h : pz_nc g m) (hs : ∀ i, C.testBit i = true → m.testBit i = true) : pz_nc g C := by
  have hlt : C < 2 ^ pz_nd g := by
    apply Nat.lt_pow_two_of_testBit
    intro i hi
    cases e : C.testBit i with
    | false => rfl
    | true => exact absurd (pz_bit_lt h.1 (hs i e)) (by omega)
  exact ⟨hlt, fun d hd hb => pz_sub0 hs (h.2 d hd (hs d hb))⟩
theorem pz_bc_nc (hg : g < 6) {C : Nat} (h : pz_nc g C) : pz_bc C = pz_rk C 27 := Nat.eq_of_beq_eq_true (pz_dis_all (C := C) (q := fun C => Nat.beq (pz_bc C) (pz_rk C 27)) (pz_K11 g hg) h)
theorem pz_bc_512 {m : Nat} (h : m < 512) : pz_bc m = pz_rk m 27 := Nat.eq_of_beq_eq_true (pz_al_e pz_K12 m h)
theorem pz_bc_pow {k : Nat} (h : k < 28) : pz_bc (2 ^ k - 1) = k := Nat.eq_of_beq_eq_true (pz_al_e pz_K13 k h)
/-- the numbers of diagonals -/
theorem pz_dia (hg : g < 6) {d : Nat} (hd : d < pz_nd g) : pz_num g (pz_dl g d) (pz_dg g d) = d ∧ pz_dl g d + 1 < pz_dg g d ∧ pz_dg g d < g + 4 ∧ pz_cr g d < 2 ^ pz_nd g ∧ pz_tp g d < pz_nd g ∧ pz_mp g d < pz_nd g := by
  have h := pz_K1 g hg
  unfold pz_k1 at h
  rw [Bool.and_eq_true] at h
  have h := pz_al_e h.1 d hd
  simp only [Bool.and_eq_true] at h
  obtain ⟨⟨⟨⟨⟨h1, h2⟩, h3⟩, h4⟩, h5⟩, h6⟩ := h
  exact ⟨Nat.eq_of_beq_eq_true h1, pz_lt_e h2, pz_lt_e h3, pz_lt_e h4, pz_lt_e h5, pz_lt_e h6⟩
theorem pz_numc (hg : g < 6) {a b : Nat} (ha : a < g + 4) (hb : b < g + 4) : pz_num g a b = pz_X ∨ (a < b ∧ pz_num g a b < pz_nd g ∧ pz_dl g (pz_num g a b) = a ∧ pz_dg g (pz_num g a b) = b) := by
  have h := pz_K1 g hg
  unfold pz_k1 at h
  rw [Bool.and_eq_true] at h
  have h := pz_al_e h.2 a ha
  simp only [Bool.and_eq_true] at h
  have h := pz_al_e h.2 b hb
  simp only [Bool.and_eq_true, Bool.or_eq_true] at h
  rcases h with h | ⟨⟨⟨h1, h2⟩, h3⟩, h4⟩
  · exact Or.inl (Nat.eq_of_beq_eq_true h)
  · exact Or.inr ⟨pz_lt_e h1, pz_lt_e h2, Nat.eq_of_beq_eq_true h3, Nat.eq_of_beq_eq_true h4⟩
theorem pz_fan (hg : g < 6) {c : Nat} (hc : c < g + 4) : pz_T g (pz_fn g c) := by
  have h := pz_K1 g hg
  unfold pz_k1 at h
  rw [Bool.and_eq_true] at h
  have h := pz_al_e h.2 c hc
  simp only [Bool.and_eq_true] at h
  exact pz_mem_T h.1.2
/-- the flips -/
theorem pz_flip (hg : g < 6) {m d : Nat} (hm : pz_T g m) (hb : m.testBit d = true) : d < pz_nd g ∧ pz_oth g m d < pz_nd g ∧ m.testBit (pz_oth g m d) = false ∧ pz_T g (pz_fl g m d) ∧ pz_oth g (pz_fl g m d) (pz_oth g m d) = d ∧ ((m &&& (2 ^ d ^^^ 4294967295)) ||| 2 ^ pz_oth g m d) = pz_fl g m d ∧
    pz_axs g m (pz_dl g d) (pz_dg g d) < g + 4 ∧ pz_axs g m (pz_dg g d) (pz_dl g d) < g + 4 ∧ pz_rf g m d = pz_oth g m d ∧ pz_ix g (pz_fl g m d) = pz_ld g (pz_ix g m) (pz_rk m d) := by
  have hd := pz_bit_lt (pz_T_lt hg hm) hb
  refine ⟨hd, ?_⟩
  obtain ⟨i, hi, rfl⟩ := hm
  have h := pz_al_e (pz_al_e (pz_K4 g hg) i hi) d hd
  rw [hb] at h
  simp only [Bool.not_true, Bool.false_or, pz_k4d, Bool.and_eq_true, Bool.not_eq_true'] at h
  obtain ⟨⟨⟨⟨⟨⟨⟨⟨h1, h2⟩, h3⟩, h4⟩, h5⟩, h6⟩, h7⟩, h8⟩, h9⟩ := h
  rw [(pz_tt_2 hg hi).1]
  exact ⟨pz_lt_e h1, h2, pz_mem_T h3, Nat.eq_of_beq_eq_true h4, Nat.eq_of_beq_eq_true h5, pz_lt_e h6, pz_lt_e h7, Nat.eq_of_beq_eq_true h8, Nat.eq_of_beq_eq_true h9⟩
theorem pz_fl_bit (m d j i : Nat) : (m ^^^ 2 ^ d ^^^ 2 ^ j).testBit i = ((m.testBit i ^^ decide (d = i)) ^^ decide (j = i)) := by
  rw [Nat.testBit_xor, Nat.testBit_xor, Nat.testBit_two_pow, Nat.testBit_two_pow]
/-- back by the same flip -/
theorem pz_flip_back (hg : g < 6) {m d : Nat} (hm : pz_T g m) (hb : m.testBit d = true) : (pz_fl g m d).testBit (pz_oth g m d) = true ∧ pz_fl g (pz_fl g m d) (pz_oth g m d) = m ∧ (∀ i, i ≠ pz_oth g m d → i ≠ d → (pz_fl g m d).testBit i = m.testBit i) ∧ (pz_fl g m d).testBit d = false := by
  obtain ⟨-, -, h2, -, h4, -⟩ := pz_flip hg hm hb
  have hne : d ≠ pz_oth g m d := fun e => by rw [← e, hb] at h2; cases h2
  refine ⟨?_, ?_, ?_, ?_⟩
  · unfold pz_fl
    rw [pz_fl_bit, h2]
    simp [hne]
  · show pz_fl g m d ^^^ 2 ^ pz_oth g m d ^^^ 2 ^ pz_oth g (pz_fl g m d) (pz_oth g m d) = m
    rw [h4]
    unfold pz_fl
    rw [Nat.xor_assoc (m ^^^ 2 ^ d), Nat.xor_self, Nat.xor_zero, Nat.xor_assoc, Nat.xor_self, Nat.xor_zero]
  · intro i h5 h6
    unfold pz_fl
    rw [pz_fl_bit]
    simp [Ne.symm h5, Ne.symm h6]
  · unfold pz_fl
    rw [pz_fl_bit, hb]
    simp [Ne.symm hne]
end PZG
/-- all diagonals of m that aren't locked, in their order, flipped -/
def pz_nl (g K m : Nat) : List Nat := ((List.range (pz_nd g)).filter (fun d => m.testBit d && !(K.testBit d))).map (pz_fl g m)
def pz_nb (g K m : Nat) : List Nat := if pz_mem g m = true ∧ K &&& m = K then pz_nl g K m else []
def pz_NN : Nat := 134217728
section PZH
variable {g K : Nat}
theorem pz_T_mem (hg : g < 6) {m : Nat} (h : pz_T g m) : pz_mem g m = true := by
  obtain ⟨h1, h2⟩ := pz_T_ix hg h
  unfold pz_mem
  rw [h2, Nat.beq_refl, Bool.and_true]
  exact Nat.ble_eq_true_of_le h1
theorem pz_nb_of (hg : g < 6) {m : Nat} (h : pz_T g m) (hK : K &&& m = K) : pz_nb g K m = pz_nl g K m := if_pos ⟨pz_T_mem hg h, hK⟩
theorem pz_sub_bit {m : Nat} (h : K &&& m = K) {i : Nat} (hi : K.testBit i = true) : m.testBit i = true := by
  rw [← h, Nat.testBit_and, Bool.and_eq_true] at hi
  exact hi.2
theorem pz_bit_sub {m : Nat} (h : ∀ i, K.testBit i = true → m.testBit i = true) : K &&& m = K := by
  apply Nat.eq_of_testBit_eq
  intro i
  rw [Nat.testBit_and]
  cases e : K.testBit i with
  | false => rfl
  | true => rw [h i e]; rfl
theorem pz_nb_mem (hg : g < 6) {m w : Nat} : w ∈ pz_nb g K m ↔ pz_T g m ∧ K &&& m = K ∧ ∃ d, m.testBit d = true ∧ K.testBit d = false ∧ pz_fl g m d = w := by
  unfold pz_nb
  by_cases h : pz_mem g m = true ∧ K &&& m = K
  · rw [if_pos h]
    unfold pz_nl
    simp only [List.mem_map, List.mem_filter, List.mem_range, Bool.and_eq_true, Bool.not_eq_true']
    constructor
    · rintro ⟨d, ⟨-, h1, h2⟩, h3⟩
      exact ⟨pz_mem_T h.1, h.2, d, h1, h2, h3⟩
    · rintro ⟨hT, -, d, h1, h2, h3⟩
      exact ⟨d, ⟨pz_bit_lt (pz_T_lt hg hT) h1, h1, h2⟩, h3⟩
  · rw [if_neg h]
    constructor
    · intro h2; cases h2
    · rintro ⟨hT, hK, -⟩
      exact absurd ⟨pz_T_mem hg hT, hK⟩ h
theorem pz_nb_T (hg : g < 6) {m w : Nat} (h : w ∈ pz_nb g K m) : pz_T g w ∧ K &&& w = K ∧ m ∈ pz_nb g K w := by
  obtain ⟨hT, hK, d, h1, h2, h3⟩ := (pz_nb_mem hg).mp h
  obtain ⟨-, -, e2, e3, -⟩ := pz_flip hg hT h1
  obtain ⟨f1, f2, f3, -⟩ := pz_flip_back hg hT h1
  rw [h3] at e3 f1 f2 f3
  have hKw : K &&& w = K := by
    refine pz_bit_sub (fun i hi => ?_)
    have h4 := pz_sub_bit hK hi
    rw [f3 i (fun e => by rw [e, e2] at h4; cases h4) (fun e => by rw [e, h2] at hi; cases hi)]
    exact h4
  refine ⟨e3, hKw, (pz_nb_mem hg).mpr ⟨e3, hKw, pz_oth g m d, f1, ?_, f2⟩⟩
  cases e : K.testBit (pz_oth g m d) with
  | false => rfl
  | true =>
    have := pz_sub_bit hK e
    rw [e2] at this
    cases this
theorem pz_nd_map {f : Nat → Nat} : ∀ {l : List Nat}, l.Nodup → (∀ a ∈ l, ∀ b ∈ l, f a = f b → a = b) → (l.map f).Nodup
  | [], _, _ => List.nodup_nil
  | a :: l, h, hf => by
    rw [List.nodup_cons] at h
    rw [List.map_cons, List.nodup_cons]
    refine ⟨fun hm => ?_, pz_nd_map h.2 (fun a ha b hb => hf a (List.mem_cons_of_mem _ ha) b (List.mem_cons_of_mem _ hb))⟩
    obtain ⟨b, hb, e⟩ := List.mem_map.mp hm
    have := hf b (List.mem_cons_of_mem _ hb) a List.mem_cons_self e
    rw [this] at hb
    exact h.1 hb
theorem pz_nb_nodup (hg : g < 6) (m : Nat) : (pz_nb g K m).Nodup := by
  unfold pz_nb
  by_cases h : pz_mem g m = true ∧ K &&& m = K
  · rw [if_pos h]
    have hT := pz_mem_T h.1
    refine pz_nd_map (List.Nodup.sublist List.filter_sublist List.nodup_range) ?_
    intro a ha b hb hab
    simp only [List.mem_filter, Bool.and_eq_true] at ha hb
    have h1 := (pz_flip_back hg hT ha.2.1).2.2.2
    have h2 := (pz_flip_back hg hT hb.2.1).2.2.1 a
    have h3 := (pz_flip hg hT hb.2.1).2.2.1
    by_cases e : a = b
    · exact e
    · have h4 := h2 (fun q => by rw [← q, ha.2.1] at h3; cases h3) e
      rw [hab] at h1
      rw [h1, ha.2.1] at h4
      cases h4
  · rw [if_neg h]
    exact List.nodup_nil
theorem pz_nb_N (hg : g < 6) : ∀ u, u < pz_NN → ∀ w ∈ pz_nb g K u, w < pz_NN := fun _ _ _ hw => pz_T_27 hg (pz_nb_T hg hw).1
theorem pz_nb_sym (hg : g < 6) (u v : Nat) : pz_ct u (pz_nb g K v) = pz_ct v (pz_nb g K u) := by
  by_cases h : u ∈ pz_nb g K v
  · rw [pz_ct_nd (pz_nb_nodup hg v) h, pz_ct_nd (pz_nb_nodup hg u) (pz_nb_T hg h).2.2]
  · rw [pz_ct_0 h, pz_ct_0 (fun h2 => h (pz_nb_T hg h2).2.2)]
/-- distance, and number of shortest ways -/
noncomputable def pz_ds (g K s m : Nat) : Option Nat := by
  classical exact if h : ∃ k, 0 < pz_wk (pz_nb g K) k s m then some (Classical.choose (pk_least _ h)) else none
noncomputable def pz_ws (g K s m : Nat) : Nat := match pz_ds g K s m with
  | none => 0
  | some k => pz_wk (pz_nb g K) k s m
theorem pz_ds_none {s m : Nat} : pz_ds g K s m = none ↔ ∀ k, pz_wk (pz_nb g K) k s m = 0 := by
  unfold pz_ds
  by_cases h : ∃ k, 0 < pz_wk (pz_nb g K) k s m
  · rw [dif_pos h]
    obtain ⟨k, hk⟩ := h
    constructor
    · intro h; cases h
    · intro h2
      have := h2 k
      omega
  · rw [dif_neg h]
    refine ⟨fun _ k => ?_, fun _ => rfl⟩
    rcases Nat.eq_zero_or_pos (pz_wk (pz_nb g K) k s m) with e | e
    · exact e
    · exact absurd ⟨k, e⟩ h
theorem pz_ds_some {s m k : Nat} : pz_ds g K s m = some k ↔ 0 < pz_wk (pz_nb g K) k s m ∧ ∀ j, j < k → pz_wk (pz_nb g K) j s m = 0 := by
  unfold pz_ds
  by_cases h : ∃ k, 0 < pz_wk (pz_nb g K) k s m
  · rw [dif_pos h]
    obtain ⟨h1, h2⟩ := Classical.choose_spec (pk_least _ h)
    generalize Classical.choose (pk_least _ h) = j at h1 h2
    constructor
    · intro e
      cases e
      exact ⟨h1, fun i hi => by have := h2 i hi; omega⟩
    · rintro ⟨e1, e2⟩
      rcases Nat.lt_trichotomy j k with e | e | e
      · have := e2 j e; omega
      · rw [e]
      · have := h2 k e; omega
  · rw [dif_neg h]
    constructor
    · intro e; cases e
    · rintro ⟨e1, -⟩
      exact absurd ⟨k, e1⟩ h
theorem pz_wk_symK (hg : g < 6) (k : Nat) {s m : Nat} (hs : s < pz_NN) (hm : m < pz_NN) : pz_wk (pz_nb g K) k s m = pz_wk (pz_nb g K) k m s :=
  pz_wk_sym (pz_nb_N hg) (fun u v _ _ => pz_nb_sym hg u v) k hs hm
theorem pz_ds_sym (hg : g < 6) {s m : Nat} (hs : s < pz_NN) (hm : m < pz_NN) : pz_ds g K s m = pz_ds g K m s := by
  cases h : pz_ds g K m s with
  | none => exact pz_ds_none.mpr (fun k => by rw [pz_wk_symK hg k hs hm]; exact pz_ds_none.mp h k)
  | some k =>
    obtain ⟨h1, h2⟩ := pz_ds_some.mp h
    exact pz_ds_some.mpr ⟨by rw [pz_wk_symK hg k hs hm]; exact h1, fun j hj => by rw [pz_wk_symK hg j hs hm]; exact h2 j hj⟩
theorem pz_ws_sym (hg : g < 6) {s m : Nat} (hs : s < pz_NN) (hm : m < pz_NN) : pz_ws g K s m = pz_ws g K m s := by
  unfold pz_ws
  rw [pz_ds_sym hg hs hm]
  cases pz_ds g K m s with
  | none => rfl
  | some k => exact pz_wk_symK hg k hs hm
/-- a search's end -/
theorem pz_end (hg : g < 6) {s : Nat} (hs : s < pz_NN) {S : pz_St} {done : List Nat} (h : pz_I pz_NN s (pz_nb g K) S done []) {m : Nat} (hm : m < pz_NN) : S.1 m = pz_ds g K s m ∧ S.2.1 m = pz_ws g K s m := by
  obtain ⟨h1, h2, h3⟩ := pz_Iend (pz_nb_N hg) hs h
  cases e : S.1 m with
  | none =>
    have : pz_ds g K s m = none := pz_ds_none.mpr (fun k => by
      rcases Nat.eq_zero_or_pos (pz_wk (pz_nb g K) k s m) with e0 | e0
      · exact e0
      · obtain ⟨j, a, -⟩ := h1 k m hm e0
        rw [e] at a; cases a)
    unfold pz_ws
    rw [this]
    exact ⟨rfl, h3 m e⟩
  | some k =>
    obtain ⟨a, b⟩ := h2 m k e
    have : pz_ds g K s m = some k := pz_ds_some.mpr ⟨a, fun j hj => by
      rcases Nat.eq_zero_or_pos (pz_wk (pz_nb g K) j s m) with e0 | e0
      · exact e0
      · obtain ⟨i, a1, a2⟩ := h1 j m hm e0
        rw [e] at a1; cases a1
        omega⟩
    unfold pz_ws
    rw [this]
    exact ⟨rfl, b⟩
end PZH
