/-! the free distance is the sum of the parts' -/
def pz_k22 (g : Nat) : Bool := pz_dis g (fun C => pz_mem g C || !(pz_al (fun d => pz_tf C d || !(Nat.beq (Nat.land (pz_cr g d) C) 0)) (pz_nd g))) (pz_nd g) 0
theorem pz_K22 : ∀ g, g < 6 → pz_k22 g = true := by decide +kernel
def pz_k23 (g : Nat) : Bool := pz_al (fun i => pz_fc (pz_tt g i) fun m => pz_al (fun d => pz_tf m d || pz_fc (Nat.land (pz_cr g d) m) fun x => !(Nat.beq x 0) && (!(Nat.beq (Nat.pow 2 (Nat.log2 x)) x) || Nat.beq (pz_oth g m (Nat.log2 x)) d)) (pz_nd g)) (pz_cn g)
theorem pz_K23 : ∀ g, g < 6 → pz_k23 g = true := by decide +kernel
theorem pz_max {g C : Nat} (hg : g < 6) (hC : pz_nc g C) (h : ∀ d, d < pz_nd g → C.testBit d = false → pz_cr g d &&& C ≠ 0) : pz_T g C := by
  have h1 := pz_dis_all (C := C) (q := fun C => pz_mem g C || !(pz_al (fun d => pz_tf C d || !(Nat.beq (Nat.land (pz_cr g d) C) 0)) (pz_nd g))) (pz_K22 g hg) hC
  rw [Bool.or_eq_true] at h1
  rcases h1 with h1 | h1
  · exact pz_mem_T h1
  · exfalso
    rw [Bool.not_eq_true'] at h1
    have h2 : pz_al (fun d => pz_tf C d || !(Nat.beq (Nat.land (pz_cr g d) C) 0)) (pz_nd g) = true := pz_al_m (fun d hd => by
      rw [pz_tf_e]
      cases e : C.testBit d with
      | true => rfl
      | false =>
        have := h d hd e
        show (false || !(Nat.beq (pz_cr g d &&& C) 0)) = true
        cases r : Nat.beq (pz_cr g d &&& C) 0 with
        | false => rfl
        | true => exact absurd (Nat.eq_of_beq_eq_true r) this)
    rw [h2] at h1
    cases h1
theorem pz_max2 {g m : Nat} (hg : g < 6) (hm : pz_T g m) {d : Nat} (hd : d < pz_nd g) (hb : m.testBit d = false) : pz_cr g d &&& m ≠ 0 ∧ ∀ e, pz_cr g d &&& m = 2 ^ e → pz_oth g m e = d := by
  obtain ⟨i, hi, rfl⟩ := hm
  have h := pz_al_e (pz_K23 g hg) i hi
  rw [pz_fc_e] at h
  have h := pz_al_e h d hd
  rw [pz_tf_e, hb, Bool.false_or, pz_fc_e, Bool.and_eq_true, Bool.not_eq_true'] at h
  obtain ⟨h1, h2⟩ := h
  refine ⟨fun e => ?_, fun e he => ?_⟩
  · have h1 : Nat.beq (pz_cr g d &&& pz_tt g i) 0 = false := h1
    rw [e] at h1; cases h1
  · have h2 : (!(Nat.beq (2 ^ (pz_cr g d &&& pz_tt g i).log2) (pz_cr g d &&& pz_tt g i)) || Nat.beq (pz_oth g (pz_tt g i) (pz_cr g d &&& pz_tt g i).log2) d) = true := h2
    rw [he, Nat.log2_two_pow, Nat.beq_refl] at h2
    exact Nat.eq_of_beq_eq_true (by simpa using h2)
theorem pz_bit0 {a b : Nat} (h : a &&& b = 0) {i : Nat} (ha : a.testBit i = true) (hb : b.testBit i = true) : False := by
  have := congrArg (fun x => x.testBit i) h
  simp only [Nat.testBit_and, Nat.zero_testBit, ha, hb] at this
  cases this
theorem pz_bitn {a b : Nat} (h : a &&& b ≠ 0) : ∃ i, a.testBit i = true ∧ b.testBit i = true := by
  refine Classical.byContradiction (fun q => h ?_)
  apply Nat.eq_of_testBit_eq
  intro i
  rw [Nat.testBit_and, Nat.zero_testBit]
  cases ha : a.testBit i with
  | false => rfl
  | true =>
    cases hb : b.testBit i with
    | false => rfl
    | true => exact absurd ⟨i, ha, hb⟩ q
theorem pz_crs {g d e : Nat} (hg : g < 6) (hd : d < pz_nd g) (h : (pz_cr g d).testBit e = true) : e < pz_nd g ∧ (pz_cr g e).testBit d = true := by
  have he := pz_bit_lt (pz_dia hg hd).2.2.2.1 h
  exact ⟨he, by rw [← (pz_cr_sym hg hd he).1]; exact h⟩
theorem pz_ncb {g m d e : Nat} (hg : g < 6) (hm : pz_T g m) (hd : m.testBit d = true) (he : m.testBit e = true) (h : (pz_cr g d).testBit e = true) : False :=
  pz_bit0 ((pz_T_nc hg hm).2 d (pz_bit_lt (pz_T_lt hg hm) hd) hd) h he
/-- what comes of a flip is told by what goes and what comes -/
theorem pz_fl_u {g m w d e : Nat} (hg : g < 6) (hm : pz_T g m) (hw : pz_T g w) (hd : m.testBit d = true) (he : m.testBit e = false) (hwe : w.testBit e = true) (hwd : w.testBit d = false) (ho : ∀ i, i ≠ d → i ≠ e → w.testBit i = m.testBit i) : w = pz_fl g m d := by
  have hen := pz_bit_lt (pz_T_lt hg hw) hwe
  obtain ⟨h1, h2⟩ := pz_max2 hg hm hen he
  have only : ∀ i, (pz_cr g e).testBit i = true → m.testBit i = true → i = d := by
    intro i c1 c2
    refine Classical.byContradiction (fun q => ?_)
    have : w.testBit i = true := by
      rw [ho i q (fun r => by rw [r, he] at c2; cases c2)]; exact c2
    exact pz_ncb hg hw hwe this c1
  obtain ⟨i, i1, i2⟩ := pz_bitn h1
  have hid := only i i1 i2
  subst hid
  have hoth := h2 i (by
    apply Nat.eq_of_testBit_eq
    intro j
    rw [Nat.testBit_and, Nat.testBit_two_pow]
    by_cases q : i = j
    · subst q; rw [i1, i2]; simp
    · rw [decide_eq_false q]
      cases c1 : (pz_cr g e).testBit j with
      | false => rfl
      | true =>
        cases c2 : m.testBit j with
        | false => rfl
        | true => exact absurd (only j c1 c2).symm q)
  apply Nat.eq_of_testBit_eq
  intro j
  unfold pz_fl
  rw [hoth, pz_fl_bit]
  by_cases q1 : i = j
  · subst q1
    have : ¬ e = i := fun r => by rw [r, hd] at he; cases he
    rw [hwd, hd]; simp [this]
  · by_cases q2 : e = j
    · subst q2
      rw [hwe, he]; simp [q1]
    · rw [ho j (Ne.symm q1) (Ne.symm q2)]; simp [q1, q2]
/-! the dissection's facts -/
theorem pz_xf_bit {g C i : Nat} : ∀ {k : Nat}, (pz_xf g C k).testBit i = true ↔ ∃ d, d < k ∧ C.testBit d = true ∧ (pz_cr g d).testBit i = true
  | 0 => by
    unfold pz_xf
    rw [Nat.zero_testBit]
    exact ⟨fun q => (by cases q), fun ⟨d, hd, _⟩ => absurd hd (Nat.not_lt_zero _)⟩
  | k + 1 => by
    unfold pz_xf
    rw [Nat.testBit_or, Bool.or_eq_true, pz_xf_bit, pz_tf_e]
    constructor
    · rintro (⟨d, h1, h2, h3⟩ | h)
      · exact ⟨d, by omega, h2, h3⟩
      · cases e : C.testBit k with
        | false => rw [e, cond_false, Nat.zero_testBit] at h; cases h
        | true => rw [e, cond_true] at h; exact ⟨k, by omega, e, h⟩
    · rintro ⟨d, h1, h2, h3⟩
      by_cases q : d = k
      · subst q; right; rw [h2, cond_true]; exact h3
      · exact Or.inl ⟨d, by omega, h2, h3⟩
theorem pz_dq_e {g C : Nat} {q : Nat → Nat → List Nat → Bool} (hg : g < 6) (hC : pz_nc g C) : ∀ k d, d + k = pz_nd g → pz_dq g q k d (C % 2 ^ d) (pz_xf g C d) (pz_cu g C d) = true → q C (pz_xf g C (pz_nd g)) (pz_cu g C (pz_nd g)) = true
  | 0, d, hd, h => by
    unfold pz_dq at h
    have : d = pz_nd g := by omega
    subst this
    rw [Nat.mod_eq_of_lt hC.1] at h
    exact h
  | k + 1, d, hd, h => by
    unfold pz_dq at h
    rw [pz_fc_e, Bool.and_eq_true] at h
    have ih := pz_dq_e (q := q) hg hC k (d + 1) (by omega)
    have hm := pz_mod_succ C d
    cases e : C.testBit d with
    | false =>
      rw [e, if_neg (by simp), Nat.or_zero] at hm
      have e1 : pz_xf g C (d + 1) = pz_xf g C d := by
        show pz_xf g C d ||| (bif pz_tf C d then pz_cr g d else 0) = _
        rw [pz_tf_e, e, cond_false, Nat.or_zero]
      have e2 : pz_cu g C (d + 1) = pz_cu g C d := by
        show (bif pz_tf C d then _ else pz_cu g C d) = _
        rw [pz_tf_e, e]; rfl
      rw [hm, e1, e2] at ih
      exact ih h.1
    | true =>
      rw [e, if_pos rfl] at hm
      have e1 : pz_xf g C (d + 1) = pz_xf g C d ||| pz_cr g d := by
        show pz_xf g C d ||| (bif pz_tf C d then pz_cr g d else 0) = _
        rw [pz_tf_e, e, cond_true]
      have e2 : pz_cu g C (d + 1) = pz_c1 (pz_dl g d) (pz_dg g d) (pz_cu g C d) := by
        show (bif pz_tf C d then _ else pz_cu g C d) = _
        rw [pz_tf_e, e]; rfl
      rw [hm, e1, e2] at ih
      have h2 := h.2
      rw [Bool.or_eq_true] at h2
      rcases h2 with h2 | h2
      · exfalso
        rw [pz_tf_e] at h2
        obtain ⟨c, c1, c2, c3⟩ := pz_xf_bit.mp h2
        exact pz_bit0 (hC.2 c (by omega) c2) c3 e
      · rw [pz_fc_e, pz_fc_e, pz_fl2_e] at h2
        exact ih h2
theorem pz_WT_e {g S : Nat} (hg : g < 6) (hS : S < 2 ^ (g + 4)) : pz_wt g S = pz_wi g S ∧ pz_wo g S = pz_xf g (pz_wi g S) (pz_nd g) := by
  have h := pz_al_e (pz_K20 g hg) S hS
  rw [Bool.and_eq_true, pz_fc_e] at h
  have h1 := Nat.eq_of_beq_eq_true h.1
  have h2 := Nat.eq_of_beq_eq_true h.2
  rw [h1] at h2
  exact ⟨h1, h2⟩
theorem pz_pc_e {g X : Nat} (hg : g < 6) : ∀ {L : List Nat} {acc : Nat}, pz_pc g X L acc = true → (∀ S ∈ L, S < 2 ^ (g + 4) ∧ (pz_xf g (pz_wi g S) (pz_nd g) &&& X) ||| pz_wi g S = pz_wi g S ∧ acc &&& pz_wi g S = 0) ∧ L.Pairwise (fun A B => pz_wi g A &&& pz_wi g B = 0) ∧ ∀ i, X.testBit i = true ↔ acc.testBit i = true ∨ ∃ S ∈ L, (pz_wi g S).testBit i = true
  | [], acc, h => by
    unfold pz_pc at h
    have := Nat.eq_of_beq_eq_true h
    subst this
    exact ⟨fun S hS => (by cases hS), List.Pairwise.nil, fun i => ⟨Or.inl, fun q => q.elim id (fun ⟨S, hS, _⟩ => (by cases hS))⟩⟩
  | S :: L, acc, h => by
    unfold pz_pc at h
    rw [Bool.and_eq_true] at h
    have hS : S < 2 ^ (g + 4) := Nat.le_of_ble_eq_true h.1
    have h2 := h.2
    obtain ⟨w1, w2⟩ := pz_WT_e hg hS
    rw [pz_fc_e, pz_fc_e, w1, w2, Bool.and_eq_true, Bool.and_eq_true] at h2
    obtain ⟨⟨a1, a2⟩, a3⟩ := h2
    have a1 : acc &&& pz_wi g S = 0 := Nat.eq_of_beq_eq_true a1
    have a2 : (pz_xf g (pz_wi g S) (pz_nd g) &&& X) ||| pz_wi g S = pz_wi g S := Nat.eq_of_beq_eq_true a2
    obtain ⟨b1, b2, b3⟩ := pz_pc_e hg a3
    have b3 : ∀ i, X.testBit i = true ↔ (acc ||| pz_wi g S).testBit i = true ∨ ∃ S ∈ L, (pz_wi g S).testBit i = true := b3
    have b1 : ∀ S' ∈ L, S' < 2 ^ (g + 4) ∧ (pz_xf g (pz_wi g S') (pz_nd g) &&& X) ||| pz_wi g S' = pz_wi g S' ∧ (acc ||| pz_wi g S) &&& pz_wi g S' = 0 := b1
    have low : ∀ S' ∈ L, acc &&& pz_wi g S' = 0 ∧ pz_wi g S &&& pz_wi g S' = 0 := fun S' hS' => by
      have c := (b1 S' hS').2.2
      constructor
      · refine Classical.byContradiction (fun q => ?_)
        obtain ⟨i, i1, i2⟩ := pz_bitn q
        exact pz_bit0 c (i := i) (by rw [Nat.testBit_or, i1]; rfl) i2
      · refine Classical.byContradiction (fun q => ?_)
        obtain ⟨i, i1, i2⟩ := pz_bitn q
        exact pz_bit0 c (i := i) (by rw [Nat.testBit_or, i1, Bool.or_true]) i2
    refine ⟨fun S' hS' => ?_, List.Pairwise.cons (fun S' hS' => (low S' hS').2) b2, fun i => ?_⟩
    · rcases List.mem_cons.mp hS' with q | q
      · subst q; exact ⟨hS, a2, a1⟩
      · exact ⟨(b1 S' q).1, (b1 S' q).2.1, (low S' q).1⟩
    · rw [b3 i, Nat.testBit_or, Bool.or_eq_true]
      constructor
      · rintro ((q | q) | ⟨S', q1, q2⟩)
        · exact Or.inl q
        · exact Or.inr ⟨S, List.mem_cons_self, q⟩
        · exact Or.inr ⟨S', List.mem_cons_of_mem _ q1, q2⟩
      · rintro (q | ⟨S', q1, q2⟩)
        · exact Or.inl (Or.inl q)
        · rcases List.mem_cons.mp q1 with r | r
          · subst r; exact Or.inl (Or.inr q2)
          · exact Or.inr ⟨S', r, q2⟩
theorem pz_len_e : ∀ L : List Nat, pz_len L = L.length
  | [] => rfl
  | _ :: L => by
    show pz_len L + 1 = _
    rw [pz_len_e L]; rfl
/-- the parts of a dissection -/
theorem pz_dsc {g C : Nat} (hg : g < 6) (hC : pz_nc g C) : ((pz_cu g C (pz_nd g)).length ≤ 7 ∧ (pz_cu g C (pz_nd g)).length = pz_rk C (pz_nd g) + 1) ∧ (∀ S ∈ pz_cu g C (pz_nd g), S < 2 ^ (g + 4)) ∧ (pz_cu g C (pz_nd g)).Pairwise (fun A B => pz_wi g A &&& pz_wi g B = 0) ∧
    (∀ i, (∃ S ∈ pz_cu g C (pz_nd g), (pz_wi g S).testBit i = true) ↔ i < pz_nd g ∧ C.testBit i = false ∧ ∀ c, C.testBit c = true → (pz_cr g c).testBit i = false) ∧
    ∀ S ∈ pz_cu g C (pz_nd g), ∀ d e, (pz_wi g S).testBit d = true → (pz_cr g d).testBit e = true → C.testBit e = false → (∀ c, C.testBit c = true → (pz_cr g c).testBit e = false) → (pz_wi g S).testBit e = true := by
  have h := pz_dq_e hg hC (q := pz_q21 g) (pz_nd g) 0 (by omega) (by rw [Nat.pow_zero, Nat.mod_one]; exact pz_K21 g hg)
  unfold pz_q21 at h
  rw [pz_fc_e, Bool.and_eq_true, Bool.and_eq_true, pz_len_e] at h
  have hl : (pz_cu g C (pz_nd g)).length ≤ 7 ∧ (pz_cu g C (pz_nd g)).length = pz_rk C (pz_nd g) + 1 := ⟨Nat.le_of_ble_eq_true h.1.1, Nat.eq_of_beq_eq_true h.1.2⟩
  obtain ⟨b1, b2, b3⟩ := pz_pc_e hg h.2
  have hX : ∀ i, (Nat.xor (2 ^ pz_nd g - 1) (Nat.lor C (pz_xf g C (pz_nd g)))).testBit i = true ↔ i < pz_nd g ∧ C.testBit i = false ∧ ∀ c, C.testBit c = true → (pz_cr g c).testBit i = false := by
    intro i
    show ((2 ^ pz_nd g - 1) ^^^ (C ||| pz_xf g C (pz_nd g))).testBit i = true ↔ _
    rw [Nat.testBit_xor, Nat.testBit_or, Nat.testBit_two_pow_sub_one]
    have hF : (pz_xf g C (pz_nd g)).testBit i = true ↔ ∃ c, C.testBit c = true ∧ (pz_cr g c).testBit i = true := by
      rw [pz_xf_bit]
      exact ⟨fun ⟨d, _, h2, h3⟩ => ⟨d, h2, h3⟩, fun ⟨d, h2, h3⟩ => ⟨d, pz_bit_lt hC.1 h2, h2, h3⟩⟩
    have hCi : C.testBit i = true → i < pz_nd g := pz_bit_lt hC.1
    have hFi : (pz_xf g C (pz_nd g)).testBit i = true → i < pz_nd g := fun q => by
      obtain ⟨c, c1, c2⟩ := hF.mp q
      exact (pz_crs hg (pz_bit_lt hC.1 c1) c2).1
    constructor
    · intro q
      have hi : i < pz_nd g := by
        refine Classical.byContradiction (fun r => ?_)
        cases c1 : C.testBit i with
        | true => exact r (hCi c1)
        | false =>
          cases c2 : (pz_xf g C (pz_nd g)).testBit i with
          | true => exact r (hFi c2)
          | false => rw [c1, c2, decide_eq_false r] at q; cases q
      rw [decide_eq_true hi] at q
      cases c1 : C.testBit i with
      | true => rw [c1] at q; simp at q
      | false =>
        cases c2 : (pz_xf g C (pz_nd g)).testBit i with
        | true => rw [c2] at q; simp at q
        | false =>
          refine ⟨hi, rfl, fun c hc => ?_⟩
          cases c3 : (pz_cr g c).testBit i with
          | false => rfl
          | true => rw [hF.mpr ⟨c, hc, c3⟩] at c2; cases c2
    · rintro ⟨hi, c1, c2⟩
      have c3 : (pz_xf g C (pz_nd g)).testBit i = false := by
        cases r : (pz_xf g C (pz_nd g)).testBit i with
        | false => rfl
        | true =>
          obtain ⟨c, d1, d2⟩ := hF.mp r
          rw [c2 c d1] at d2; cases d2
      rw [decide_eq_true hi, c1, c3]; rfl
  refine ⟨hl, fun S hS => (b1 S hS).1, b2, fun i => ?_, fun S hS d e h1 h2 h3 h4 => ?_⟩
  · rw [← hX i, b3 i, Nat.zero_testBit]
    exact ⟨Or.inr, fun q => q.elim (fun r => by cases r) id⟩
  · have hw27 : ∀ i, (pz_wi g S).testBit i = true → i < pz_nd g := fun i hi => ((hX i).mp ((b3 i).mpr (Or.inr ⟨S, hS, hi⟩))).1
    have hd := hw27 d h1
    have he := (pz_crs hg hd h2).1
    rw [← (b1 S hS).2.1, Nat.testBit_or, Nat.testBit_and, (hX e).mpr ⟨he, h3, h4⟩, pz_xf_bit.mpr ⟨d, hd, h1, h2⟩]
    rfl
