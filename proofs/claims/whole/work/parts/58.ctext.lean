/-! the class' texts -/
def pz_k18 (g : Nat) : Bool := pz_al (fun d => !((pz_cr g d).testBit d) && pz_al (fun e => (pz_cr g d).testBit e == (pz_cr g e).testBit d && (pz_cr g d).testBit e == ((pz_lt (pz_dl g d) (pz_dl g e) && pz_lt (pz_dl g e) (pz_dg g d) && pz_lt (pz_dg g d) (pz_dg g e)) || (pz_lt (pz_dl g e) (pz_dl g d) && pz_lt (pz_dl g d) (pz_dg g e) && pz_lt (pz_dg g e) (pz_dg g d)))) (pz_nd g)) (pz_nd g)
theorem pz_K18 : ∀ g, g < 6 → pz_k18 g = true := by decide +kernel
theorem pz_cr_self {g d : Nat} (hg : g < 6) (hd : d < pz_nd g) : (pz_cr g d).testBit d = false := by
  have h := pz_al_e (pz_K18 g hg) d hd
  rw [Bool.and_eq_true, Bool.not_eq_true'] at h
  exact h.1
theorem pz_cr_sym {g d e : Nat} (hg : g < 6) (hd : d < pz_nd g) (he : e < pz_nd g) : (pz_cr g d).testBit e = (pz_cr g e).testBit d ∧ (pz_cr g d).testBit e = ((pz_lt (pz_dl g d) (pz_dl g e) && pz_lt (pz_dl g e) (pz_dg g d) && pz_lt (pz_dg g d) (pz_dg g e)) || (pz_lt (pz_dl g e) (pz_dl g d) && pz_lt (pz_dl g d) (pz_dg g e) && pz_lt (pz_dg g e) (pz_dg g d))) := by
  have h := pz_al_e (pz_K18 g hg) d hd
  rw [Bool.and_eq_true] at h
  have h := pz_al_e h.2 e he
  rw [Bool.and_eq_true, beq_iff_eq, beq_iff_eq] at h
  exact h
theorem pz_rk_or {m d : Nat} (hd : m.testBit d = false) : ∀ k, pz_rk (m ||| 2 ^ d) k = pz_rk m k + if d < k then 1 else 0
  | 0 => rfl
  | k + 1 => by
    have ih := pz_rk_or hd k
    show pz_rk (m ||| 2 ^ d) k + (m ||| 2 ^ d) / 2 ^ k % 2 = pz_rk m k + m / 2 ^ k % 2 + _
    rw [ih]
    have hb : ∀ x : Nat, x / 2 ^ k % 2 = if x.testBit k = true then 1 else 0 := by
      intro x
      rw [Nat.testBit_eq_decide_div_mod_eq]
      have := Nat.mod_lt (x / 2 ^ k) (show 2 > 0 by omega)
      by_cases q : x / 2 ^ k % 2 = 1
      · simp [q]
      · simp [q]; omega
    rw [hb, hb, Nat.testBit_or, Nat.testBit_two_pow]
    by_cases q : d = k
    · subst q
      simp [hd]
    · have q2 : (d < k + 1) = (d < k) := propext ⟨fun _ => by omega, fun _ => by omega⟩
      simp only [q, decide_false, Bool.or_false, q2]
      omega
theorem pz_nc_add {g m d : Nat} (hg : g < 6) (hm : pz_nc g m) (hd : d < pz_nd g) (hb : m.testBit d = false) (hc : pz_cr g d &&& m = 0) : pz_nc g (m ||| 2 ^ d) := by
  refine ⟨Nat.or_lt_two_pow hm.1 (Nat.pow_lt_pow_right (by omega) hd), fun e he hbe => ?_⟩
  apply Nat.eq_of_testBit_eq
  intro i
  rw [Nat.testBit_and, Nat.testBit_or, Nat.testBit_two_pow, Nat.zero_testBit]
  have z : ∀ a b j : Nat, a &&& b = 0 → (a.testBit j && b.testBit j) = false := by
    intro a b j h
    rw [← Nat.testBit_and, h, Nat.zero_testBit]
  rw [Nat.testBit_or, Bool.or_eq_true, Nat.testBit_two_pow, decide_eq_true_eq] at hbe
  by_cases q : d = i
  · subst q
    rcases hbe with hbe | hbe
    · have h1 := z _ _ e hc
      rw [hbe, Bool.and_true] at h1
      rw [← (pz_cr_sym hg hd he).1, h1]; rfl
    · subst hbe
      rw [pz_cr_self hg hd]; rfl
  · rcases hbe with hbe | hbe
    · have h1 := z _ _ i (hm.2 e he hbe)
      simp only [q, decide_false, Bool.or_false]
      exact h1
    · subst hbe
      have h1 := z _ _ i hc
      simp only [q, decide_false, Bool.or_false]
      exact h1
/-- as many diagonals as a triangulation has, noncrossing, are one -/
theorem pz_ok_e {g C : Nat} (hC : ∀ d, C.testBit d = true → pz_cr g d &&& C = 0) : ∀ (k m c : Nat), pz_ok g k m c = true → (m ||| C % 2 ^ k = C) → pz_rk C k = c → pz_T g C
  | 0, m, c, h, e, hr => by
    unfold pz_ok at h
    rw [Nat.pow_zero, Nat.mod_one, Nat.or_zero] at e
    have hc : c = 0 := hr.symm
    subst hc; subst e
    simp at h
    exact pz_mem_T h
  | k + 1, m, c, h, e, hr => by
    have hrs : pz_rk C (k + 1) = pz_rk C k + C / 2 ^ k % 2 := rfl
    unfold pz_ok at h
    by_cases hc : c = 0
    · subst hc
      rw [Nat.beq_refl, cond_true] at h
      have key : ∀ j, pz_rk C j = 0 → C % 2 ^ j = 0 := by
        intro j
        induction j with
        | zero => intro _; rw [Nat.pow_zero, Nat.mod_one]
        | succ j ih =>
          intro hj
          have h1 : pz_rk C (j + 1) = pz_rk C j + C / 2 ^ j % 2 := rfl
          rw [pz_mod_succ, ih (by omega), if_neg]
          · rfl
          · rw [Nat.testBit_eq_decide_div_mod_eq, decide_eq_true_eq]
            omega
      rw [key _ hr, Nat.or_zero] at e
      rw [← e]
      exact pz_mem_T h
    · have hb : Nat.beq c 0 = false := by
        cases q : Nat.beq c 0 with
        | false => rfl
        | true => exact absurd (Nat.eq_of_beq_eq_true q) hc
      rw [hb, cond_false] at h
      have hle := pz_rk_le C (k + 1)
      have hl : pz_lt (k + 1) c = false := by
        cases q : pz_lt (k + 1) c with
        | false => rfl
        | true => have := pz_lt_e q; omega
      rw [hl, cond_false, Bool.and_eq_true] at h
      rw [pz_mod_succ] at e
      by_cases hk : C.testBit k = true
      · have hk1 : C / 2 ^ k % 2 = 1 := by
          rw [Nat.testBit_eq_decide_div_mod_eq] at hk
          exact of_decide_eq_true hk
        rw [if_pos hk] at e
        have h2 := h.2
        rw [Bool.or_eq_true] at h2
        rcases h2 with h2 | h2
        · exfalso
          have h3 : pz_cr g k &&& m = 0 := pz_sub0 (fun i hi => by rw [← e, Nat.testBit_or, hi]; rfl) (hC k hk)
          rw [h3] at h2
          cases h2
        · refine pz_ok_e hC k (m ||| 2 ^ k) (c - 1) h2 ?_ (by omega)
          rw [Nat.or_assoc, Nat.or_comm (2 ^ k)]
          exact e
      · have hk0 : C / 2 ^ k % 2 = 0 := by
          rw [Nat.testBit_eq_decide_div_mod_eq, decide_eq_true_eq] at hk
          omega
        rw [if_neg hk, Nat.or_zero] at e
        exact pz_ok_e hC k m c h.1 e (by omega)
theorem pz_nc_T {g C : Nat} (hg : g < 6) (h : pz_nc g C) (hr : pz_rk C (pz_nd g) = g + 1) : pz_T g C :=
  pz_ok_e (fun d hd => h.2 d (pz_bit_lt h.1 hd) hd) _ 0 (g + 1) (pz_K5 g hg) (by rw [Nat.zero_or, Nat.mod_eq_of_lt h.1]) hr
theorem pz_mk_nc {g : Nat} {tx : Nat → Nat} (hg : g < 6) : ∀ {k m : Nat}, (∀ p, p < k → pz_ta g tx p < pz_nd g) → pz_mk g tx k = some m → pz_nc g m ∧ pz_rk m (pz_nd g) = k
  | 0, m, _, h => by
    have e : (0 : Nat) = m := Option.some.inj h
    subst e
    refine ⟨⟨Nat.pow_pos (by omega), fun d _ hb => by simp at hb⟩, ?_⟩
    have : ∀ j, pz_rk 0 j = 0 := by
      intro j
      induction j with
      | zero => rfl
      | succ j ih => show pz_rk 0 j + 0 / 2 ^ j % 2 = 0; rw [ih]; simp
    exact this _
  | k + 1, m, ht, h => by
    unfold pz_mk at h
    cases e : pz_mk g tx k with
    | none => rw [e] at h; cases h
    | some m0 =>
      rw [e] at h
      simp only at h
      obtain ⟨i1, i2⟩ := pz_mk_nc hg (fun p hp => ht p (by omega)) e
      by_cases q : m0.testBit (pz_ta g tx k) = true ∨ pz_cr g (pz_ta g tx k) &&& m0 ≠ 0
      · rw [if_pos q] at h; cases h
      · rw [if_neg q] at h
        have hm : m0 ||| 2 ^ pz_ta g tx k = m := Option.some.inj h
        have hb : m0.testBit (pz_ta g tx k) = false := by
          cases r : m0.testBit (pz_ta g tx k) with
          | false => rfl
          | true => exact absurd (Or.inl r) q
        have hc : pz_cr g (pz_ta g tx k) &&& m0 = 0 := by
          by_cases r : pz_cr g (pz_ta g tx k) &&& m0 = 0
          · exact r
          · exact absurd (Or.inr r) q
        rw [← hm]
        refine ⟨pz_nc_add hg i1 (ht k (by omega)) hb hc, ?_⟩
        rw [pz_rk_or hb, if_pos (ht k (by omega)), i2]
section PZTX
variable {h : zq_H} {t g tl : Nat} {tx : Nat → Nat}
theorem tq_0 (C : pz_Ca h) : zq_gr h 85 4 0 = some 86 := (pz_gr (by have := C.1; omega) rfl).trans C.2.2.2.2.2.2.2.2.2.2.2.2.2.2
theorem tq_1 (C : pz_Ca h) (T : pz_Ct h tl tx) : zq_gi h 85 4 1 = some (nI tl) := (pz_gi (by have := C.1; omega) rfl).trans (by rw [T.2.1])
theorem tq_ck {α : Type} {k : Unit → Option α} (C : pz_Ca h) : zq_ck h 85 4 k = k () := pz_ck (by have := C.1; omega) rfl
theorem tq_a (C : pz_Ca h) (T : pz_Ct h tl tx) {k : Nat} (hk : k < tl) : zq_ai h 86 (nI k) = some (nI (tx k)) := by
  have := T.1
  rw [pz_ai (L := 60) (by have := C.1; omega) rfl (by omega) (by omega), (T.2.2 k hk).1]
theorem tq_n (C : pz_Ca h) : zq_an h 86 = some (nI 60) := pz_an (c := 10) (by have := C.1; omega) rfl (by omega) (by omega)
theorem s_cornerAt (C : pz_Ca h) (T : pz_Ct h tl tx) {k : Nat} (hk : k < tl) : f_X4_cornerAt h 85 (nI k) = some (nI (tx k) - 48) := by
  have := T.1
  unfold f_X4_cornerAt
  rw [if_neg (nI_pos (by omega)), tq_1 C T, Option.bind_some, if_neg (nI_ge hk (by omega)), tq_0 C, Option.bind_some, tq_a C T hk]
  rfl
theorem s_fullLength (P : pz_Pt h t g) : f_X4_fullLength h t = some (nI (3 * (g + 1) - 1)) := by
  unfold f_X4_fullLength
  rw [pq_0 P, Option.bind_some, show (3 : Int32) = nI 3 from rfl, show (1 : Int32) = nI 1 from rfl, pk_sub (by omega), pk_mul, pk_sub (by omega)]
  rfl
theorem s_fits (C : pz_Ca h) (T : pz_Ct h tl tx) (P : pz_Pt h t g) {k : Nat} (hk : k < tl) : f_X4_fits h 85 t (nI k) = some (if k % 3 = 0 then pz_inb (g + 2) (nI (tx k) - 48) else if k % 3 = 1 then decide (pz_no g (nI (tx (k - 1)) - 48) (nI (tx k) - 48) ≠ pz_X) else decide (tx k = 44)) := by
  have hl := T.1
  have hg := pq_g P
  have hm : nI k - nI k / 3 * 3 = nI (k % 3) := pk_rem (d := 3) (by omega) (by omega) (by omega)
  unfold f_X4_fits
  rw [hm]
  have e0 : (nI (k % 3) = 0) = (k % 3 = 0) := pz_eqI (a := k % 3) (b := 0) (by omega) (by omega)
  have e1 : (nI (k % 3) = 1) = (k % 3 = 1) := pz_eqI (a := k % 3) (b := 1) (by omega) (by omega)
  simp only [e0, e1]
  by_cases q0 : k % 3 = 0
  · rw [if_pos q0, if_pos q0, tq_ck C, s_cornerAt C T hk, Option.bind_some]
    unfold f_X4_beginsDiagonal pz_inb
    rw [pq_0 P, show (2 : Int32) = nI 2 from rfl, Option.bind_some, pk_sub (by omega), show g + 4 - 2 = g + 2 from rfl]
    by_cases h1 : nI (tx k) - 48 < 0
    · rw [if_pos h1]; simp [h1]
    · rw [if_neg h1]
      by_cases h2 : nI (g + 2) ≤ nI (tx k) - 48
      · rw [if_pos h2]; simp [h2]
      · rw [if_neg h2]; simp [h1, h2]
  · rw [if_neg q0, if_neg q0]
    by_cases q1 : k % 3 = 1
    · have hk1 : nI k - 1 = nI (k - 1) := pk_sub (b := 1) (by omega)
      rw [if_pos q1, if_pos q1, tq_ck C, hk1, s_cornerAt C T (show k - 1 < tl by omega), Option.bind_some, tq_ck C, s_cornerAt C T hk, Option.bind_some, pq_ck P, s_numberOf P, Option.bind_some]
      simp only [pz_no_m1]
      by_cases q : pz_no g (nI (tx (k - 1)) - 48) (nI (tx k) - 48) = pz_X
      · rw [if_pos q]; simp [q]
      · rw [if_neg q]; simp [q]
    · have hx := (T.2.2 k hk).2
      rw [if_neg q1, if_neg q1, tq_0 C, Option.bind_some, tq_a C T hk, Option.bind_some]
      simp only [show (44 : Int32) = nI 44 from rfl, pz_eqI (a := tx k) (b := 44) (by omega) (by omega)]
      by_cases q : tx k = 44
      · rw [if_pos q]; simp [q]
      · rw [if_neg q]; simp [q]
theorem s_firstWrong (C : pz_Ca h) (T : pz_Ct h tl tx) (P : pz_Pt h t g) : f_X4_firstWrong h 85 t = some (nI (pz_fw2 g tl tx)) := by
  have hl := T.1
  have hg := pq_g P
  have hle := pz_ff_le (fun k => !(pz_fit g tx k)) tl 0
  unfold f_X4_firstWrong pz_fw2
  rw [s_fullLength P, Option.bind_some]
  have step : ∀ i, i < tl → pz_fit g tx i = true → ∀ {β : Type} (u v : β), (if nI (3 * (g + 1) - 1) ≤ nI i then u else v) = v := fun i hi hf β u v => by
    unfold pz_fit at hf
    rw [Bool.and_eq_true, decide_eq_true_eq] at hf
    exact if_neg (nI_ge hf.1 (by omega))
  have fit2 : ∀ i, pz_fit g tx i = true → (if i % 3 = 0 then pz_inb (g + 2) (nI (tx i) - 48) else if i % 3 = 1 then decide (pz_no g (nI (tx (i - 1)) - 48) (nI (tx i) - 48) ≠ pz_X) else decide (tx i = 44)) = true := fun i hf => by
    unfold pz_fit at hf
    rw [Bool.and_eq_true] at hf
    exact hf.2
  by_cases hlt : pz_ff (fun k => !(pz_fit g tx k)) tl 0 < tl
  · refine pz_lpB (fun i => nI i) (pz_ff (fun k => !(pz_fit g tx k)) tl 0) (r := Sum.inr (nI (pz_ff (fun k => !(pz_fit g tx k)) tl 0))) rfl rfl ?_ ?_ (by omega)
    · intro i hi
      have hno := pz_ff_no (fun k => !(pz_fit g tx k)) tl 0 i (by omega) hi
      have hf : pz_fit g tx i = true := by simpa using hno
      rw [tq_1 C T, Option.bind_some, if_neg (nI_ge (show i < tl by omega) (by omega)), step i (by omega) hf, tq_ck C, s_fits C T P (by omega), Option.bind_some, fit2 i hf, if_neg (show ¬ (true = false) by simp)]
      simp only [zq_let, nI_1]
    · have hyes := pz_ff_yes (fun k => !(pz_fit g tx k)) tl 0 (by omega)
      generalize pz_ff (fun k => !(pz_fit g tx k)) tl 0 = i at hyes hlt hle ⊢
      have hf : pz_fit g tx i = false := by simpa using hyes
      rw [tq_1 C T, Option.bind_some, if_neg (nI_ge hlt (by omega))]
      by_cases q : 3 * (g + 1) - 1 ≤ i
      · rw [if_pos (nI_le q (by omega))]
      · unfold pz_fit at hf
        rw [decide_eq_true (show i < 3 * (g + 1) - 1 by omega), Bool.true_and] at hf
        rw [if_neg (nI_ge (by omega) (by omega)), tq_ck C, s_fits C T P (by omega), Option.bind_some, hf, if_pos rfl]
  · have he : pz_ff (fun k => !(pz_fit g tx k)) tl 0 = tl := by omega
    refine pz_lpB (fun i => nI i) tl (r := Sum.inl ()) ?_ rfl ?_ ?_ (by omega)
    · show (Option.bind (zq_gi h 85 4 1) fun v_21 => some v_21) = _
      rw [tq_1 C T, he]
      rfl
    · intro i hi
      have hno := pz_ff_no (fun k => !(pz_fit g tx k)) tl 0 i (by omega) (by omega)
      have hf : pz_fit g tx i = true := by simpa using hno
      rw [tq_1 C T, Option.bind_some, if_neg (nI_ge (show i < tl by omega) (by omega)), step i (by omega) hf, tq_ck C, s_fits C T P (by omega), Option.bind_some, fit2 i hf, if_neg (show ¬ (true = false) by simp)]
      simp only [zq_let, nI_1]
    · rw [tq_1 C T, Option.bind_some, if_pos (nI_le (Nat.le_refl _) (by omega))]
theorem pz_fw2_le : pz_fw2 g tl tx ≤ tl := by
  have := pz_ff_le (fun k => !(pz_fit g tx k)) tl 0
  unfold pz_fw2
  omega
theorem s_isComplete (C : pz_Ca h) (T : pz_Ct h tl tx) (P : pz_Pt h t g) : f_X4_isComplete h 85 t = some (decide (tl = 3 * (g + 1) - 1 ∧ pz_fw2 g tl tx = tl)) := by
  have hl := T.1
  have hg := pq_g P
  have hle := pz_fw2_le (g := g) (tl := tl) (tx := tx)
  unfold f_X4_isComplete
  rw [tq_1 C T, Option.bind_some, s_fullLength P, Option.bind_some]
  simp only [pz_eqI (a := tl) (b := 3 * (g + 1) - 1) (by omega) (by omega)]
  by_cases q : tl = 3 * (g + 1) - 1
  · rw [if_pos q, tq_ck C, s_firstWrong C T P, Option.bind_some, Option.bind_some]
    simp only [pz_eqI (a := pz_fw2 g tl tx) (b := tl) (by omega) (by omega)]
    by_cases q2 : pz_fw2 g tl tx = tl
    · rw [if_pos q2, decide_eq_true ⟨q, q2⟩]
    · rw [if_neg q2, decide_eq_false (fun r => q2 r.2)]
  · rw [if_neg q, decide_eq_false (fun r => q r.1)]
/-- the parts of a complete text are diagonals -/
theorem pz_ta_lt (hg : g < 6) (h1 : tl = 3 * (g + 1) - 1) (h2 : pz_fw2 g tl tx = tl) {p : Nat} (hp : p < g + 1) : pz_ta g tx p < pz_nd g := by
  have hno := pz_ff_no (fun k => !(pz_fit g tx k)) tl 0 (3 * p + 1) (by omega) (by unfold pz_fw2 at h2; omega)
  have hf : pz_fit g tx (3 * p + 1) = true := by simpa using hno
  unfold pz_fit at hf
  rw [Bool.and_eq_true, if_neg (by omega), if_pos (by omega), decide_eq_true_eq] at hf
  have h3 := hf.2
  rw [Nat.add_sub_cancel] at h3
  exact (pz_no_or hg _ _).resolve_left (of_decide_eq_true h3)
theorem s_maskIn (C : pz_Ca h) (T : pz_Ct h tl tx) (P : pz_Pt h t g) (h1 : tl = 3 * (g + 1) - 1) (h2 : pz_fw2 g tl tx = tl) : f_X4_maskIn h 85 t = some (match pz_mk g tx (g + 1) with
    | none => -1
    | some m => nI m) := by
  have hl := T.1
  have hg := pq_g P
  have hnd := pq_n P
  have hta := fun p (hp : p < g + 1) => pz_ta_lt (g := g) (tl := tl) (tx := tx) hg h1 h2 hp
  unfold f_X4_maskIn
  have stop : ∀ k j, pz_mk g tx k = none → pz_mk g tx (k + j) = none := by
    intro k j hk
    induction j with
    | zero => exact hk
    | succ j ih =>
      show pz_mk g tx (k + j + 1) = none
      unfold pz_mk
      rw [ih]
  have main : ∃ y, (zq_lp (σ := Int32 × Int32) (ρ := Int32 ⊕ Int32) (fun s_1 => (Option.bind (zq_gi h 85 4 1) fun v_9 => (if v_9 ≤ (s_1.2 + 1) then some (.inr (.inl s_1.1)) else (zq_ck h 85 4 fun _ => (Option.bind (f_X4_cornerAt h 85 s_1.2) fun v_12 => (zq_ck h 85 4 fun _ => (Option.bind (f_X4_cornerAt h 85 (s_1.2 + 1)) fun v_15 => (zq_ck h t 1 fun _ => (Option.bind (f_X1_numberOf h t v_12 v_15) fun v_18 => (if v_18 = (-1) then some (.inr (.inr ((-1)))) else (Option.bind (f_X5_isIn h s_1.1 v_18) fun v_22 => (if v_22 = false then (Option.bind (zq_gr h t 1 6) fun v_25 => (Option.bind (zq_ai h v_25 v_18) fun v_27 => (if (v_27 &&& s_1.1) = 0 then (zq_let (s_1.1 ||| ((1 : Int32) <<< (v_18 &&& 31))) fun v_30 => (zq_let (s_1.2 + 3) fun v_32 => some (.inl (v_30, v_32)))) else some (.inr (.inr ((-1))))))) else some (.inr (.inr ((-1)))))))))))))))) zq_N (0, 0)).bind (Sum.elim (fun y_4 : Int32 => some (y_4)) (fun z_5 => some z_5)) = some y ∧ y = (match pz_mk g tx (g + 1) with
    | none => -1
    | some m => nI m) := by
    refine pz_lpMB (fun s => ∃ p m, s.1 = nI m ∧ s.2 = nI (3 * p) ∧ p ≤ g + 1 ∧ pz_mk g tx p = some m) (fun s => 1000 - s.2.toNatClampNeg) (fun r => (r = Sum.inr (-1) ∧ pz_mk g tx (g + 1) = none) ∨ ∃ m, r = Sum.inl (nI m) ∧ pz_mk g tx (g + 1) = some m) ?_ ⟨0, 0, rfl, rfl, by omega, rfl⟩ (by simp only; omega) ?_
    · rintro r (⟨rfl, q⟩ | ⟨m, rfl, q⟩)
      · rw [q]; exact ⟨_, rfl, rfl⟩
      · rw [q]; exact ⟨_, rfl, rfl⟩
    · rintro ⟨s1, s2⟩ ⟨p, m, e1, e2, e3, e4⟩
      simp only at e1 e2
      subst e1; subst e2
      have hn : nI (3 * p) + 1 = nI (3 * p + 1) := nI_1 _
      obtain ⟨n1, n2⟩ := pz_mk_nc hg (fun q hq => hta q (by omega)) e4
      have hm27 := pz_p27 hg n1.1
      by_cases hp : p < g + 1
      · have hd := hta p hp
        have hds : pz_ta g tx p = pz_no g (nI (tx (3 * p)) - 48) (nI (tx (3 * p + 1)) - 48) := rfl
        have hcl := pz_cr_lt g (pz_ta g tx p)
        have hms : pz_mk g tx (p + 1) = if m.testBit (pz_ta g tx p) = true ∨ pz_cr g (pz_ta g tx p) &&& m ≠ 0 then none else some (m ||| 2 ^ pz_ta g tx p) := by
          show (match pz_mk g tx p with
            | none => none
            | some m => if m.testBit (pz_ta g tx p) = true ∨ pz_cr g (pz_ta g tx p) &&& m ≠ 0 then none else some (m ||| 2 ^ pz_ta g tx p)) = _
          rw [e4]
        have dead : pz_mk g tx (p + 1) = none → pz_mk g tx (g + 1) = none := fun q => by
          have := stop (p + 1) (g - p) q
          rw [show p + 1 + (g - p) = g + 1 by omega] at this
          exact this
        rw [tq_1 C T, Option.bind_some, hn, if_neg (nI_ge (by omega) (by omega)), tq_ck C, s_cornerAt C T (by omega), Option.bind_some, tq_ck C, s_cornerAt C T (by omega), Option.bind_some, pq_ck P, s_numberOf P, Option.bind_some, ← hds, if_neg (show ¬ nI (pz_ta g tx p) = -1 by rw [pz_eqm1 (by omega)]; exact id), s_isIn (by omega) (by omega), Option.bind_some]
        cases hb : m.testBit (pz_ta g tx p) with
        | true =>
          rw [if_pos (Or.inl hb)] at hms
          rw [if_neg (show ¬ (true = false) by simp)]
          exact Or.inr ⟨_, rfl, Or.inl ⟨rfl, dead hms⟩⟩
        | false =>
          rw [if_pos rfl, pq_6 P, Option.bind_some, pq_cr P hd, Option.bind_some, pz_and hcl (by omega)]
          have hz : (nI (pz_cr g (pz_ta g tx p) &&& m) = 0) = (pz_cr g (pz_ta g tx p) &&& m = 0) := pz_eq (b := 0) (Nat.lt_of_le_of_lt Nat.and_le_left hcl) (by omega)
          by_cases hc : pz_cr g (pz_ta g tx p) &&& m = 0
          · rw [if_neg (fun r => r.elim (fun r => by rw [hb] at r; cases r) (fun r => r hc))] at hms
            have hp2 : 2 ^ pz_ta g tx p < 134217728 := Nat.pow_lt_pow_right (n := 27) (by omega) (by omega)
            rw [if_pos (by rw [hz]; exact hc), pz_shl (by omega), pz_or (by omega) (by omega)]
            simp only [zq_let]
            refine Or.inl ⟨(nI (m ||| 2 ^ pz_ta g tx p), nI (3 * (p + 1))), ?_, ⟨p + 1, _, rfl, rfl, by omega, hms⟩, ?_⟩
            · rw [show (3 : Int32) = nI 3 from rfl, nI_add]
              rfl
            · simp only
              rw [nI_clamp (by omega), nI_clamp (by omega)]
              omega
          · rw [if_pos (Or.inr hc)] at hms
            rw [if_neg (by rw [hz]; exact hc)]
            exact Or.inr ⟨_, rfl, Or.inl ⟨rfl, dead hms⟩⟩
      · have : p = g + 1 := by omega
        subst this
        rw [tq_1 C T, Option.bind_some, hn, if_pos (nI_le (by omega) (by omega))]
        exact Or.inr ⟨_, rfl, Or.inr ⟨m, rfl, e4⟩⟩
  obtain ⟨y, y1, rfl⟩ := main
  exact y1
variable {A : pz_A}
theorem c_append (C : pz_C h A) (x : Int32) : ∃ o, f_X5_append h 0 x = some o ∧ pz_oc h A (R_append A x) o := by
  obtain ⟨b, B, S⟩ := id C
  obtain ⟨Ca, Cg, Cr, T⟩ := id B
  have hl := T.1
  unfold f_X5_append R_append pz_bt2
  by_cases h1 : x < 33
  · rw [if_pos h1, if_neg (show ¬ (decide (¬ x < 33 ∧ ¬ 126 < x) = true) by simp [h1])]
    exact ⟨_, rfl, pz_oc.x rfl C pz_ag.rf⟩
  · rw [if_neg h1]
    have hx0 : ¬ x < 0 := fun e => h1 (Int32.lt_trans e (by decide))
    obtain ⟨k, hk, rfl⟩ := nI_of hx0
    by_cases h2 : k ≤ 126
    · have hk1 : 33 ≤ k := by
        rcases Nat.lt_or_ge k 33 with e | e
        · exact absurd (nI_lt (b := 33) e (by omega)) h1
        · exact e
      rw [if_pos (show nI k ≤ (126 : Int32) from nI_le (b := 126) h2 (by omega)), if_pos (show decide (¬ nI k < 33 ∧ ¬ 126 < nI k) = true by rw [decide_eq_true_eq]; exact ⟨h1, nI_nlt (a := 126) h2 (by omega)⟩), cq_5 Ca, Option.bind_some, tq_ck Ca, nI_clamp hk]
      unfold f_X4_isFull f_X4_add
      simp only [tq_1 Ca T, tq_0 Ca, tq_n Ca, Option.bind_some]
      by_cases q : A.2.2.2.2.1 = 60
      · rw [if_neg (show ¬ nI A.2.2.2.2.1 < nI 60 by rw [q]; decide), if_pos q, Option.bind_some, if_neg (show ¬ (true = false) by simp)]
        exact ⟨_, rfl, pz_oc.x rfl C pz_ag.rf⟩
      · have hs : zq_si h 86 (nI A.2.2.2.2.1) (nI k) = some (pz_S h 86 A.2.2.2.2.1 (nI k)) := pz_si (L := 60) (by have := Ca.1; omega) rfl (by omega) (by omega) _
        have C1 : pz_Ca (pz_S h 86 A.2.2.2.2.1 (nI k)) := Ca
        have C2 : pz_Ca (pz_S (pz_S h 86 A.2.2.2.2.1 (nI k)) 85 1 (nI (A.2.2.2.2.1 + 1))) := Ca
        have l : pz_ag (fun a => a ≠ 85 ∧ a ≠ 86) h (pz_S (pz_S h 86 A.2.2.2.2.1 (nI k)) 85 1 (nI (A.2.2.2.2.1 + 1))) := (pz_ag.S (by simp)).tr (pz_ag.S (by simp))
        rw [if_pos (nI_lt (by omega) (by omega)), if_neg q, Option.bind_some, if_pos rfl, tq_ck Ca, if_neg (nI_ge (by omega) (by omega)), hs, Option.bind_some, pz_gi (t := 85) (c := 4) (by have := C1.1; omega) rfl, Option.bind_some, pz_S_i, if_neg (by omega), T.2.1, nI_1, pz_pi (t := 85) (c := 4) (by have := C1.1; omega) rfl, Option.bind_some, Option.bind_some, cq_5 C2, Option.bind_some, pz_gi (t := 85) (c := 4) (by have := C2.1; omega) rfl, Option.bind_some, pz_S_i, if_pos ⟨rfl, rfl⟩]
        refine ⟨_, rfl, pz_oc.v rfl ⟨b, ⟨C2, Cg.ag l (fun a h1 h2 => by omega), Cr.ag l (fun a h1 h2 => by omega), by show A.2.2.2.2.1 + 1 ≤ 60; omega, by rw [pz_S_i, if_pos ⟨rfl, rfl⟩]; rfl, fun j hj => ?_⟩, S.ag l ⟨by omega, fun a h1 h2 => by omega⟩⟩ (l.mono (fun a ha => by omega))⟩
        have hj : j < A.2.2.2.2.1 + 1 := hj
        show pz_i _ 86 j = nI (pz_up1 A.2.2.2.2.2 A.2.2.2.2.1 k j) ∧ 33 ≤ pz_up1 A.2.2.2.2.2 A.2.2.2.2.1 k j ∧ pz_up1 A.2.2.2.2.2 A.2.2.2.2.1 k j ≤ 126
        rw [pz_S_i, if_neg (by omega), pz_S_i]
        by_cases r : j = A.2.2.2.2.1
        · rw [if_pos ⟨rfl, r⟩, r, pz_up1_s]
          exact ⟨rfl, hk1, h2⟩
        · rw [if_neg (fun e => r e.2), pz_up1_n _ _ _ r]
          exact T.2.2 j (by omega)
    · rw [if_neg (show ¬ nI k ≤ (126 : Int32) from nI_ge (a := 126) (by omega) hk), if_neg (show ¬ (decide (¬ nI k < 33 ∧ ¬ 126 < nI k) = true) by rw [decide_eq_true_eq]; exact fun q => q.2 (nI_lt (a := 126) (by omega) hk))]
      exact ⟨_, rfl, pz_oc.x rfl C pz_ag.rf⟩
theorem s_clear {b : Nat} {n : pz_5} {sn : Nat} {sv : Nat → pz_5} {sp : Nat → Option pz_5} (B : pz_CB h b tl tx) (S : pz_CS h b n sn sv sp) : f_X4_clear h 85 = some (pz_S h 85 1 0) ∧ pz_CB (pz_S h 85 1 0) b 0 tx ∧ pz_CS (pz_S h 85 1 0) b n sn sv sp ∧ pz_kc h (pz_S h 85 1 0) := by
  obtain ⟨Ca, Cg, Cr, T⟩ := B
  have l : pz_ag (fun a => a ≠ 85) h (pz_S h 85 1 0) := pz_ag.S (by simp)
  refine ⟨?_, ⟨Ca, Cg.ag l (fun a h1 h2 => by omega), Cr.ag l (fun a h1 h2 => by omega), by omega, by rw [pz_S_i, if_pos ⟨rfl, rfl⟩]; rfl, fun j hj => absurd hj (Nat.not_lt_zero _)⟩, S.ag l ⟨by omega, fun a h1 h2 => by omega⟩, l.mono (fun a ha => by omega)⟩
  unfold f_X4_clear
  rw [pz_pi (t := 85) (c := 4) (by have := Ca.1; omega) rfl]
  rfl
theorem c_clear (C : pz_C h A) : ∃ h', f_X5_clearBuffer h 0 = some (nI A.2.2.2.2.1, h') ∧ pz_C h' (pz_tb A 0 A.2.2.2.2.2) ∧ pz_kc h h' := by
  obtain ⟨b, B, S⟩ := C
  obtain ⟨e1, e2, e3, e4⟩ := s_clear B S
  refine ⟨_, ?_, ⟨b, e2, e3⟩, e4⟩
  unfold f_X5_clearBuffer
  simp only [cq_5 B.1, Option.bind_some, tq_1 B.1 B.2.2.2, tq_ck B.1, e1]
theorem c_firstError (C : pz_C h A) : f_X5_firstError h 0 = some (nI (pz_fw2 A.1.1 A.2.2.2.2.1 A.2.2.2.2.2)) := by
  obtain ⟨b, B, S⟩ := C
  obtain ⟨P, p0⟩ := B.p S.2.1
  unfold f_X5_firstError
  simp only [cq_5 B.1, cq_1 B.1, Option.bind_some, aq_0 B.1 S.1, p0, tq_ck B.1]
  rw [s_firstWrong B.1 B.2.2.2 P]
  rfl
theorem c_read (C : pz_C h A) (x : Int32) : ∃ o, f_X5_read h 0 x = some o ∧ pz_oc h A (R_read A x) o := by
  obtain ⟨b, B, S⟩ := id C
  obtain ⟨P, p0⟩ := B.p S.2.1
  have hg := S.2.1.T.1
  unfold f_X5_read R_read
  rw [s_isWhich, Option.bind_some]
  cases h1 : pz_inb 2 x with
  | false =>
    rw [if_pos rfl, if_neg (show ¬ (false = true) by simp)]
    exact ⟨_, rfl, pz_oc.x rfl C pz_ag.rf⟩
  | true =>
    obtain ⟨w, hw, rfl⟩ := pz_inb_of (by omega) h1
    rw [if_neg (show ¬ (true = false) by simp), if_pos (show true = true from rfl)]
    simp only [cq_5 B.1, cq_1 B.1, Option.bind_some, aq_0 B.1 S.1, p0, tq_ck B.1]
    rw [s_isComplete B.1 B.2.2.2 P, Option.bind_some]
    by_cases q : A.2.2.2.2.1 = 3 * (A.1.1 + 1) - 1 ∧ pz_fw2 A.1.1 A.2.2.2.2.1 A.2.2.2.2.2 = A.2.2.2.2.1
    · rw [if_pos q, decide_eq_true q, if_neg (show ¬ (true = false) by simp), s_maskIn B.1 B.2.2.2 P q.1 q.2, Option.bind_some]
      cases hm : pz_mk A.1.1 A.2.2.2.2.2 (A.1.1 + 1) with
      | none =>
        simp only
        exact ⟨_, rfl, pz_oc.x rfl C pz_ag.rf⟩
      | some m =>
        obtain ⟨n1, n2⟩ := pz_mk_nc hg (fun p hp => pz_ta_lt hg q.1 q.2 hp) hm
        have hT := pz_nc_T hg n1 n2
        have hm27 := pz_T_27 hg hT
        obtain ⟨k1, e1, B1, S1, e2⟩ := s_saveState B S
        obtain ⟨k2, f1, f2, f3⟩ := s_putNew B1.1 S1.1 hw m
        have B2 := B1.now f3
        have S2 := S1.now f3 f2 (pz_pn_V S.2.1 w hT)
        obtain ⟨g1, g2, g3, g4⟩ := s_clear B2 S2
        simp only
        rw [if_neg (show ¬ nI m = -1 by rw [pz_eqm1 (by omega)]; exact id), cq_ck B.1, e1, Option.bind_some, cq_ck B1.1, f1, Option.bind_some, cq_5 B2.1, Option.bind_some, tq_ck B2.1, g1, Option.bind_some, nI_clamp (by omega)]
        exact ⟨_, rfl, pz_oc.v rfl ⟨b, g2, g3⟩ ((e2.tr (pz_kc.now f3)).tr g4)⟩
    · rw [if_neg q, decide_eq_false q, if_pos (show false = false from rfl)]
      exact ⟨_, rfl, pz_oc.x rfl C pz_ag.rf⟩
end PZTX
