/-! the free distance is the sum of the parts': ranks, parts, steps -/
theorem pz_rk_s (m k : Nat) : pz_rk m (k + 1) = pz_rk m k + if m.testBit k = true then 1 else 0 := by
  show pz_rk m k + m / 2 ^ k % 2 = _
  rw [Nat.testBit_eq_decide_div_mod_eq]
  have := Nat.mod_lt (m / 2 ^ k) (show 2 > 0 by omega)
  by_cases q : m / 2 ^ k % 2 = 1
  · simp [q]
  · simp [q]; omega
theorem pz_rk_mon (m : Nat) {a b : Nat} (h : a ≤ b) : pz_rk m a ≤ pz_rk m b := by
  induction h with
  | refl => exact Nat.le_refl _
  | step _ ih => rw [Nat.succ_eq_add_one, pz_rk_s]; omega
theorem pz_rk_lt {m a b : Nat} (ha : m.testBit a = true) (h : a < b) : pz_rk m a < pz_rk m b := by
  have h1 := pz_rk_mon m (show a + 1 ≤ b from h)
  rw [pz_rk_s, if_pos ha] at h1
  omega
theorem pz_rk_iff {m a b : Nat} (ha : m.testBit a = true) (hb : m.testBit b = true) : pz_rk m a < pz_rk m b ↔ a < b := by
  constructor
  · intro h
    rcases Nat.lt_or_ge a b with q | q
    · exact q
    · have := pz_rk_mon m q; omega
  · exact pz_rk_lt ha
theorem pz_rk_inj {m a b : Nat} (ha : m.testBit a = true) (hb : m.testBit b = true) (h : pz_rk m a = pz_rk m b) : a = b := by
  rcases Nat.lt_trichotomy a b with q | q | q
  · have := pz_rk_lt ha q; omega
  · exact q
  · have := pz_rk_lt hb q; omega
theorem pz_rk_sel {m i : Nat} : ∀ {k : Nat}, i < pz_rk m k → ∃ a, a < k ∧ m.testBit a = true ∧ pz_rk m a = i
  | 0, h => absurd h (Nat.not_lt_zero _)
  | k + 1, h => by
    rw [pz_rk_s] at h
    by_cases q : i < pz_rk m k
    · obtain ⟨a, h1, h2⟩ := pz_rk_sel q
      exact ⟨a, by omega, h2⟩
    · by_cases r : m.testBit k = true
      · rw [if_pos r] at h
        exact ⟨k, by omega, r, by omega⟩
      · rw [if_neg r] at h; omega
theorem pz_rk_top {m n : Nat} (hm : m < 2 ^ n) : ∀ j, pz_rk m (n + j) = pz_rk m n
  | 0 => rfl
  | j + 1 => by
    show pz_rk m (n + j + 1) = _
    rw [pz_rk_s, pz_rk_top hm j, if_neg]
    · rfl
    rw [Nat.testBit_lt_two_pow (Nat.lt_of_lt_of_le hm (Nat.pow_le_pow_right (by omega) (show n ≤ n + j by omega)))]
    simp
def pz_k24 (g : Nat) : Bool := pz_al (fun a => pz_al (fun b => (!(Nat.beq (pz_num g a b) pz_X)) == (Nat.ble (a + 2) b && !(Nat.beq a 0 && Nat.beq b (g + 3)))) (g + 4)) (g + 4)
theorem pz_K24 : ∀ g, g < 6 → pz_k24 g = true := by decide +kernel
theorem pz_num_ne {g a b : Nat} (hg : g < 6) (ha : a < g + 4) (hb : b < g + 4) : pz_num g a b ≠ pz_X ↔ a + 2 ≤ b ∧ ¬ (a = 0 ∧ b = g + 3) := by
  have h := pz_al_e (pz_al_e (pz_K24 g hg) a ha) b hb
  have h := eq_of_beq h
  have b1 : Nat.beq (pz_num g a b) pz_X = decide (pz_num g a b = pz_X) := by
    cases q : Nat.beq (pz_num g a b) pz_X with
    | true => exact (decide_eq_true (Nat.eq_of_beq_eq_true q)).symm
    | false => exact (decide_eq_false (fun r => by rw [r] at q; cases q)).symm
  have b2 : Nat.ble (a + 2) b = decide (a + 2 ≤ b) := by
    cases q : Nat.ble (a + 2) b with
    | true => exact (decide_eq_true (Nat.le_of_ble_eq_true q)).symm
    | false => exact (decide_eq_false (fun r => by rw [Nat.ble_eq_true_of_le r] at q; cases q)).symm
  have b3 : Nat.beq a 0 = decide (a = 0) := by
    cases q : Nat.beq a 0 with
    | true => exact (decide_eq_true (Nat.eq_of_beq_eq_true q)).symm
    | false => exact (decide_eq_false (fun r => by rw [r] at q; cases q)).symm
  have b4 : Nat.beq b (g + 3) = decide (b = g + 3) := by
    cases q : Nat.beq b (g + 3) with
    | true => exact (decide_eq_true (Nat.eq_of_beq_eq_true q)).symm
    | false => exact (decide_eq_false (fun r => by rw [r, Nat.beq_refl] at q; cases q)).symm
  rw [b1, b2, b3, b4] at h
  by_cases q1 : pz_num g a b = pz_X
  · rw [decide_eq_true q1] at h
    refine ⟨fun r => absurd q1 r, fun ⟨r1, r2⟩ => ?_⟩
    rw [decide_eq_true r1] at h
    simp at h
    exact absurd h r2
  · rw [decide_eq_false q1] at h
    refine ⟨fun _ => ?_, fun _ => q1⟩
    simp at h
    exact ⟨h.1, fun r => h.2.elim (fun x => x r.1) (fun x => x r.2)⟩
theorem pz_wk1_bit {g S i : Nat} : ∀ {k : Nat}, (pz_wk1 g S k).testBit i = true ↔ i < k ∧ S.testBit (pz_dl g i) = true ∧ S.testBit (pz_dg g i) = true ∧ pz_ro g S i ≠ pz_X
  | 0 => by
    unfold pz_wk1
    rw [Nat.zero_testBit]
    exact ⟨fun q => (by cases q), fun q => absurd q.1 (Nat.not_lt_zero _)⟩
  | k + 1 => by
    unfold pz_wk1
    rw [Nat.testBit_or, Bool.or_eq_true, pz_wk1_bit]
    have hc : (pz_in g S k && !(Nat.beq (pz_ro g S k) pz_X)) = true ↔ S.testBit (pz_dl g k) = true ∧ S.testBit (pz_dg g k) = true ∧ pz_ro g S k ≠ pz_X := by
      unfold pz_in
      rw [pz_tf_e, pz_tf_e, Bool.and_eq_true, Bool.and_eq_true, Bool.not_eq_true', and_assoc]
      refine and_congr_right (fun _ => and_congr_right (fun _ => ?_))
      constructor
      · intro q r; rw [r] at q; cases q
      · intro q
        cases r : Nat.beq (pz_ro g S k) pz_X with
        | false => rfl
        | true => exact absurd (Nat.eq_of_beq_eq_true r) q
    constructor
    · rintro (⟨h1, h2⟩ | h)
      · exact ⟨by omega, h2⟩
      · cases e : (pz_in g S k && !(Nat.beq (pz_ro g S k) pz_X)) with
        | false => rw [e, cond_false, Nat.zero_testBit] at h; cases h
        | true =>
          rw [e, cond_true, Nat.testBit_two_pow, decide_eq_true_eq] at h
          subst h
          exact ⟨by omega, hc.mp e⟩
    · rintro ⟨h1, h2⟩
      by_cases q : i = k
      · subst q; right; rw [hc.mpr h2, cond_true, Nat.testBit_two_pow]; simp
      · exact Or.inl ⟨by omega, h2⟩
theorem pz_wi_bit {g S i : Nat} : (pz_wi g S).testBit i = true ↔ 4 ≤ pz_rk S 9 ∧ i < pz_nd g ∧ S.testBit (pz_dl g i) = true ∧ S.testBit (pz_dg g i) = true ∧ pz_ro g S i ≠ pz_X := by
  unfold pz_wi
  cases e : Nat.ble 4 (pz_rk S 9) with
  | false =>
    rw [cond_false, Nat.zero_testBit]
    refine ⟨fun q => (by cases q), fun q => ?_⟩
    have := Nat.ble_eq_true_of_le q.1
    rw [e] at this; cases this
  | true =>
    rw [cond_true, pz_wk1_bit]
    exact ⟨fun q => ⟨Nat.le_of_ble_eq_true e, q⟩, fun q => q.2⟩
section PZPS
variable {g S : Nat}
/-- a part's size -/
theorem pz_qg_e (hg : g < 6) (hS : S < 2 ^ (g + 4)) (h4 : 4 ≤ pz_rk S 9) : pz_qg S + 4 = pz_rk S 9 ∧ pz_qg S ≤ g ∧ pz_rk S 9 = pz_rk S (g + 4) := by
  have h1 := pz_rk_top hS (5 - g)
  rw [show g + 4 + (5 - g) = 9 by omega] at h1
  have h2 := pz_rk_le S (g + 4)
  unfold pz_qg
  omega
theorem pz_ro_e (hg : g < 6) (hS : S < 2 ^ (g + 4)) {d : Nat} (h : (pz_wi g S).testBit d = true) : pz_ro g S d < pz_nd (pz_qg S) ∧ pz_dl (pz_qg S) (pz_ro g S d) = pz_rk S (pz_dl g d) ∧ pz_dg (pz_qg S) (pz_ro g S d) = pz_rk S (pz_dg g d) := by
  obtain ⟨h4, hd, a, b, x⟩ := pz_wi_bit.mp h
  obtain ⟨s1, s2, s3⟩ := pz_qg_e hg hS h4
  have hb := (pz_dia hg hd).2
  have ra := pz_rk_lt a (show pz_dl g d < 9 by omega)
  have rb := pz_rk_lt b (show pz_dg g d < 9 by omega)
  have hc := pz_numc (g := pz_qg S) (by omega) (show pz_rk S (pz_dl g d) < pz_qg S + 4 by omega) (show pz_rk S (pz_dg g d) < pz_qg S + 4 by omega)
  rcases hc with q | q
  · exact absurd q x
  · exact ⟨q.2.1, q.2.2.1, q.2.2.2⟩
theorem pz_ro_inj (hg : g < 6) (hS : S < 2 ^ (g + 4)) {d e : Nat} (hd : (pz_wi g S).testBit d = true) (he : (pz_wi g S).testBit e = true) (h : pz_ro g S d = pz_ro g S e) : d = e := by
  obtain ⟨-, d1, d2⟩ := pz_ro_e hg hS hd
  obtain ⟨-, e1, e2⟩ := pz_ro_e hg hS he
  obtain ⟨-, dn, da, db, -⟩ := pz_wi_bit.mp hd
  obtain ⟨-, en, ea, eb, -⟩ := pz_wi_bit.mp he
  rw [h] at d1 d2
  have h1 := pz_rk_inj da ea (d1.symm.trans e1)
  have h2 := pz_rk_inj db eb (d2.symm.trans e2)
  rw [← (pz_dia hg dn).1, ← (pz_dia hg en).1, h1, h2]
theorem pz_ro_onto (hg : g < 6) (hS : S < 2 ^ (g + 4)) (h4 : 4 ≤ pz_rk S 9) {j : Nat} (hj : j < pz_nd (pz_qg S)) : ∃ d, (pz_wi g S).testBit d = true ∧ pz_ro g S d = j := by
  obtain ⟨s1, s2, s3⟩ := pz_qg_e hg hS h4
  have hg' : pz_qg S < 6 := by omega
  obtain ⟨n1, n2, n3, -⟩ := pz_dia hg' hj
  obtain ⟨a, a1, a2, a3⟩ := pz_rk_sel (m := S) (i := pz_dl (pz_qg S) j) (k := g + 4) (by omega)
  obtain ⟨b, b1, b2, b3⟩ := pz_rk_sel (m := S) (i := pz_dg (pz_qg S) j) (k := g + 4) (by omega)
  have hX : pz_num (pz_qg S) (pz_dl (pz_qg S) j) (pz_dg (pz_qg S) j) ≠ pz_X := by
    rw [n1]
    have := pz_nd_le hg'
    show j ≠ 4294967295
    omega
  have hne := (pz_num_ne hg' (by omega) n3).mp hX
  have hab : a + 2 ≤ b := by
    refine Classical.byContradiction (fun q => ?_)
    have h1 := pz_rk_mon S (show b ≤ a + 1 by omega)
    rw [pz_rk_s, if_pos a2] at h1
    omega
  have hends : ¬ (a = 0 ∧ b = g + 3) := by
    rintro ⟨q1, q2⟩
    subst q1; subst q2
    have h1 : pz_rk S (g + 3 + 1) = _ := pz_rk_s S (g + 3)
    rw [if_pos b2] at h1
    have h0 : pz_rk S 0 = 0 := rfl
    exact hne.2 ⟨by omega, by have h2 : pz_rk S (g + 4) = pz_rk S (g + 3) + 1 := h1; omega⟩
  have hN := (pz_num_ne hg a1 b1).mpr ⟨hab, hends⟩
  obtain ⟨c1, c2, c3, c4⟩ := (pz_numc hg a1 b1).resolve_left hN
  have hr : pz_ro g S (pz_num g a b) = j := by
    unfold pz_ro
    rw [c3, c4, a3, b3, n1]
  refine ⟨pz_num g a b, pz_wi_bit.mpr ⟨h4, c2, by rw [c3]; exact a2, by rw [c4]; exact b2, ?_⟩, hr⟩
  rw [hr]
  have := pz_nd_le hg'
  show j ≠ 4294967295
  omega
theorem pz_ro_cr (hg : g < 6) (hS : S < 2 ^ (g + 4)) {d e : Nat} (hd : (pz_wi g S).testBit d = true) (he : (pz_wi g S).testBit e = true) : (pz_cr (pz_qg S) (pz_ro g S d)).testBit (pz_ro g S e) = (pz_cr g d).testBit e := by
  obtain ⟨d0, d1, d2⟩ := pz_ro_e hg hS hd
  obtain ⟨e0, e1, e2⟩ := pz_ro_e hg hS he
  obtain ⟨h4, dn, da, db, -⟩ := pz_wi_bit.mp hd
  obtain ⟨-, en, ea, eb, -⟩ := pz_wi_bit.mp he
  obtain ⟨s1, s2, s3⟩ := pz_qg_e hg hS h4
  rw [(pz_cr_sym hg dn en).2, (pz_cr_sym (g := pz_qg S) (by omega) d0 e0).2, d1, d2, e1, e2]
  simp only [pz_lt_d]
  rw [decide_eq_decide.mpr (pz_rk_iff da ea), decide_eq_decide.mpr (pz_rk_iff ea db), decide_eq_decide.mpr (pz_rk_iff db eb), decide_eq_decide.mpr (pz_rk_iff ea da), decide_eq_decide.mpr (pz_rk_iff da eb), decide_eq_decide.mpr (pz_rk_iff eb db)]
/-- the part of a mask, in the part's own numbers -/
def pz_pj (g S m : Nat) : Nat := pz_mv (pz_ro g S) (m &&& pz_wi g S) (pz_nd g)
theorem pz_pj_bit {m j : Nat} : (pz_pj g S m).testBit j = true ↔ ∃ d, m.testBit d = true ∧ (pz_wi g S).testBit d = true ∧ pz_ro g S d = j := by
  unfold pz_pj
  rw [pz_mv_bit]
  constructor
  · rintro ⟨d, h1, h2, h3⟩
    rw [Nat.testBit_and, Bool.and_eq_true] at h2
    exact ⟨d, h2.1, h2.2, h3⟩
  · rintro ⟨d, h1, h2, h3⟩
    exact ⟨d, (pz_wi_bit.mp h2).2.1, by rw [Nat.testBit_and, h1, h2]; rfl, h3⟩
end PZPS
theorem pz_bitf {m i : Nat} (h : ¬ m.testBit i = true) : m.testBit i = false := by
  cases q : m.testBit i with
  | false => rfl
  | true => exact absurd q h
section PZPT
variable {g C : Nat}
/-- what a triangulation has beside C lies within the parts -/
theorem pz_beside (hg : g < 6) (hC : pz_nc g C) {m d : Nat} (hm : pz_T g m) (hs : C &&& m = C) (hd : m.testBit d = true) (hc : C.testBit d = false) : d < pz_nd g ∧ C.testBit d = false ∧ ∀ c, C.testBit c = true → (pz_cr g c).testBit d = false :=
  ⟨pz_bit_lt (pz_T_lt hg hm) hd, hc, fun c hcc => pz_bitf (fun q => pz_ncb hg hm (pz_sub_bit hs hcc) hd q)⟩
theorem pz_pj_T (hg : g < 6) (hC : pz_nc g C) {m S : Nat} (hm : pz_T g m) (hs : C &&& m = C) (hS : S ∈ pz_cu g C (pz_nd g)) (h4 : 4 ≤ pz_rk S 9) : pz_T (pz_qg S) (pz_pj g S m) := by
  obtain ⟨-, l1, -, l3, l4⟩ := pz_dsc hg hC
  have hS2 := l1 S hS
  obtain ⟨s1, s2, s3⟩ := pz_qg_e hg hS2 h4
  have hg' : pz_qg S < 6 := by omega
  refine pz_max hg' ⟨?_, ?_⟩ ?_
  · apply Nat.lt_pow_two_of_testBit
    intro i hi
    refine pz_bitf (fun q => ?_)
    obtain ⟨d, -, d2, d3⟩ := pz_pj_bit.mp q
    have := (pz_ro_e hg hS2 d2).1
    omega
  · intro j hj hb
    obtain ⟨d, d1, d2, rfl⟩ := pz_pj_bit.mp hb
    refine Classical.byContradiction (fun q => ?_)
    obtain ⟨i, i1, i2⟩ := pz_bitn q
    obtain ⟨e, e1, e2, rfl⟩ := pz_pj_bit.mp i2
    rw [pz_ro_cr hg hS2 d2 e2] at i1
    exact pz_ncb hg hm d1 e1 i1
  · intro j hj hb
    obtain ⟨d, d1, rfl⟩ := pz_ro_onto hg hS2 h4 hj
    have hd := (pz_wi_bit.mp d1).2.1
    have hmd : m.testBit d = false := pz_bitf (fun q => by
      rw [pz_pj_bit.mpr ⟨d, q, d1, rfl⟩] at hb; cases hb)
    obtain ⟨e, e1, e2⟩ := pz_bitn (pz_max2 hg hm hd hmd).1
    have hX := (l3 d).mp ⟨S, hS, d1⟩
    have hCe : C.testBit e = false := pz_bitf (fun q => by
      have := (pz_crs hg hd e1).2
      rw [hX.2.2 e q] at this; cases this)
    have heS := l4 S hS d e d1 e1 hCe (pz_beside hg hC hm hs e2 hCe).2.2
    intro z
    exact pz_bit0 z (i := pz_ro g S e) (by rw [pz_ro_cr hg hS2 d1 heS]; exact e1) (pz_pj_bit.mpr ⟨e, e2, heS, rfl⟩)
theorem pz_pw {f : Nat → Nat} {A B i : Nat} : ∀ {L : List Nat}, L.Pairwise (fun A B => f A &&& f B = 0) → A ∈ L → B ∈ L → (f A).testBit i = true → (f B).testBit i = true → A = B
  | [], _, hA, _, _, _ => by cases hA
  | S :: L, h, hA, hB, a, b => by
    rw [List.pairwise_cons] at h
    rcases List.mem_cons.mp hA with q | q
    · rcases List.mem_cons.mp hB with r | r
      · rw [q, r]
      · subst q
        exact (pz_bit0 (h.1 B r) a b).elim
    · rcases List.mem_cons.mp hB with r | r
      · subst r
        exact (pz_bit0 (h.1 A q) b a).elim
      · exact pz_pw h.2 q r a b
/-- a flip is a flip in one part -/
theorem pz_pstep (hg : g < 6) (hC : pz_nc g C) {m d : Nat} (hm : pz_T g m) (hs : C &&& m = C) (hd : m.testBit d = true) (hc : C.testBit d = false) : (∃ S ∈ pz_cu g C (pz_nd g), (pz_wi g S).testBit d = true) ∧ ∀ S ∈ pz_cu g C (pz_nd g), ((pz_wi g S).testBit d = false → pz_pj g S (pz_fl g m d) = pz_pj g S m) ∧ ((pz_wi g S).testBit d = true → (pz_pj g S m).testBit (pz_ro g S d) = true ∧ pz_pj g S (pz_fl g m d) = pz_fl (pz_qg S) (pz_pj g S m) (pz_ro g S d)) := by
  obtain ⟨-, l1, l2, l3, l4⟩ := pz_dsc hg hC
  have hX := pz_beside hg hC hm hs hd hc
  have hex := (l3 d).mpr hX
  refine ⟨hex, fun S hS => ?_⟩
  obtain ⟨-, en, em, wT, -⟩ := pz_flip hg hm hd
  obtain ⟨we, -, wo, wd⟩ := pz_flip_back hg hm hd
  have hw := pz_nb_T (K := C) hg ((pz_nb_mem hg).mpr ⟨hm, hs, d, hd, hc, rfl⟩)
  generalize pz_oth g m d = e at en em we wo
  have hce : C.testBit e = false := pz_bitf (fun q => by rw [pz_sub_bit hs q] at em; cases em)
  have hXe := pz_beside hg hC wT hw.2.1 we hce
  have hde : (pz_cr g d).testBit e = true := by
    obtain ⟨i, i1, i2⟩ := pz_bitn (pz_max2 hg hm en em).1
    have hie : i ≠ e := fun q => by rw [q, em] at i2; cases i2
    by_cases q : i = d
    · subst q; exact (pz_crs hg en i1).2
    · exact (pz_ncb hg wT we (by rw [wo i hie q]; exact i2) i1).elim
  have both : ∀ S', S' ∈ pz_cu g C (pz_nd g) → (pz_wi g S').testBit e = (pz_wi g S').testBit d := by
    intro S' hS'
    obtain ⟨S0, h0, h1⟩ := hex
    have h2 := l4 S0 h0 d e h1 hde hce hXe.2.2
    cases q1 : (pz_wi g S').testBit d with
    | true => exact l4 S' hS' d e q1 hde hce hXe.2.2
    | false =>
      refine pz_bitf (fun q2 => ?_)
      have := pz_pw l2 h0 hS' h2 q2
      rw [← this, h1] at q1; cases q1
  refine ⟨fun q => ?_, fun q => ?_⟩
  · have qe := both S hS
    rw [q] at qe
    unfold pz_pj
    congr 1
    apply Nat.eq_of_testBit_eq
    intro i
    rw [Nat.testBit_and, Nat.testBit_and]
    by_cases r1 : i = d
    · subst r1; rw [q, Bool.and_false, Bool.and_false]
    · by_cases r2 : i = e
      · subst r2; rw [qe, Bool.and_false, Bool.and_false]
      · rw [wo i r2 r1]
  · have qe := both S hS
    rw [q] at qe
    have hS2 := l1 S hS
    have h4 := (pz_wi_bit.mp q).1
    obtain ⟨s1, s2, s3⟩ := pz_qg_e hg hS2 h4
    have hb1 : (pz_pj g S m).testBit (pz_ro g S d) = true := pz_pj_bit.mpr ⟨d, hd, q, rfl⟩
    refine ⟨hb1, pz_fl_u (e := pz_ro g S e) (by omega) (pz_pj_T hg hC hm hs hS h4) (pz_pj_T hg hC wT hw.2.1 hS h4) hb1 ?_ (pz_pj_bit.mpr ⟨e, we, qe, rfl⟩) ?_ ?_⟩
    · refine pz_bitf (fun r => ?_)
      obtain ⟨i, i1, i2, i3⟩ := pz_pj_bit.mp r
      have := pz_ro_inj hg hS2 i2 qe i3
      rw [this, em] at i1; cases i1
    · refine pz_bitf (fun r => ?_)
      obtain ⟨i, i1, i2, i3⟩ := pz_pj_bit.mp r
      have := pz_ro_inj hg hS2 i2 q i3
      rw [this, wd] at i1; cases i1
    · intro j j1 j2
      have key : (pz_pj g S (pz_fl g m d)).testBit j = true ↔ (pz_pj g S m).testBit j = true := by
        rw [pz_pj_bit, pz_pj_bit]
        constructor
        · rintro ⟨i, i1, i2, i3⟩
          exact ⟨i, by rw [← wo i (fun r => j2 (by rw [← i3, r])) (fun r => j1 (by rw [← i3, r]))]; exact i1, i2, i3⟩
        · rintro ⟨i, i1, i2, i3⟩
          exact ⟨i, by rw [wo i (fun r => j2 (by rw [← i3, r])) (fun r => j1 (by rw [← i3, r]))]; exact i1, i2, i3⟩
      cases c1 : (pz_pj g S m).testBit j with
      | true => exact key.mpr c1
      | false => exact pz_bitf (fun r => by rw [key.mp r] at c1; cases c1)
end PZPT
