/-! the reference's texts -/
theorem pz_lt_d (a b : Nat) : pz_lt a b = decide (a < b) := by
  cases q : pz_lt a b with
  | true => exact (decide_eq_true (pz_lt_e q)).symm
  | false =>
    refine (decide_eq_false (fun r => ?_)).symm
    have : pz_lt a b = true := Nat.ble_eq_true_of_le r
    rw [this] at q
    cases q
theorem pz_ltI {a b : Nat} (ha : a < 2147483648) (hb : b < 2147483648) : (nI a < nI b) = (a < b) := propext ⟨fun q => by
    rcases Nat.lt_or_ge a b with e | e
    · exact e
    · exact absurd q (nI_nlt e ha), fun q => nI_lt q hb⟩
/-- the mask told so far -/
theorem pz_mk_s (g : Nat) (tx : Nat → Nat) {k m : Nat} (e : pz_mk g tx k = some m) : pz_mk g tx (k + 1) = if m.testBit (pz_ta g tx k) = true ∨ pz_cr g (pz_ta g tx k) &&& m ≠ 0 then none else some (m ||| 2 ^ pz_ta g tx k) := by
  show (match pz_mk g tx k with
    | none => none
    | some m => if m.testBit (pz_ta g tx k) = true ∨ pz_cr g (pz_ta g tx k) &&& m ≠ 0 then none else some (m ||| 2 ^ pz_ta g tx k)) = _
  rw [e]
theorem pz_mk_n (g : Nat) (tx : Nat → Nat) {k : Nat} (e : pz_mk g tx k = none) : pz_mk g tx (k + 1) = none := by
  show (match pz_mk g tx k with
    | none => none
    | some m => if m.testBit (pz_ta g tx k) = true ∨ pz_cr g (pz_ta g tx k) &&& m ≠ 0 then none else some (m ||| 2 ^ pz_ta g tx k)) = _
  rw [e]
theorem pz_mk_bit {g : Nat} {tx : Nat → Nat} : ∀ {k m : Nat}, pz_mk g tx k = some m → ∀ d, m.testBit d = true ↔ ∃ j, j < k ∧ pz_ta g tx j = d
  | 0, m, h, d => by
    have e : (0 : Nat) = m := Option.some.inj h
    subst e
    rw [Nat.zero_testBit]
    exact ⟨fun q => (by cases q), fun ⟨j, hj, _⟩ => absurd hj (Nat.not_lt_zero _)⟩
  | k + 1, m, h, d => by
    cases e : pz_mk g tx k with
    | none => rw [pz_mk_n g tx e] at h; cases h
    | some m0 =>
      rw [pz_mk_s g tx e] at h
      have ih := pz_mk_bit e d
      by_cases q : m0.testBit (pz_ta g tx k) = true ∨ pz_cr g (pz_ta g tx k) &&& m0 ≠ 0
      · rw [if_pos q] at h; cases h
      · rw [if_neg q] at h
        have hm : m0 ||| 2 ^ pz_ta g tx k = m := Option.some.inj h
        rw [← hm, Nat.testBit_or, Nat.testBit_two_pow, Bool.or_eq_true, decide_eq_true_eq, ih]
        constructor
        · rintro (⟨j, h1, h2⟩ | h1)
          · exact ⟨j, by omega, h2⟩
          · exact ⟨k, by omega, h1⟩
        · rintro ⟨j, h1, h2⟩
          by_cases r : j = k
          · subst r; exact Or.inr h2
          · exact Or.inl ⟨j, by omega, h2⟩
theorem pz_al_m {p : Nat → Bool} : ∀ {n : Nat}, (∀ i, i < n → p i = true) → pz_al p n = true
  | 0, _ => rfl
  | n + 1, h => by
    unfold pz_al
    rw [h n (by omega), pz_al_m (fun i hi => h i (by omega))]
    rfl
/-- apart, and not crossing -/
def pz_oj (g : Nat) (tx : Nat → Nat) (i j : Nat) : Bool := !(decide (pz_ta g tx i = pz_ta g tx j)) && !((pz_cr g (pz_ta g tx i)).testBit (pz_ta g tx j))
def pz_mkb (g : Nat) (tx : Nat → Nat) (k : Nat) : Bool := (pz_mk g tx k).isSome
theorem pz_mkb_s (g : Nat) (tx : Nat → Nat) (k : Nat) : pz_mkb g tx (k + 1) = (pz_mkb g tx k && pz_al (fun j => pz_oj g tx k j) k) := by
  unfold pz_mkb
  cases e : pz_mk g tx k with
  | none => rw [pz_mk_n g tx e]; rfl
  | some m =>
    have hb := pz_mk_bit e
    rw [pz_mk_s g tx e]
    by_cases q : m.testBit (pz_ta g tx k) = true ∨ pz_cr g (pz_ta g tx k) &&& m ≠ 0
    · rw [if_pos q]
      cases r : pz_al (fun j => pz_oj g tx k j) k with
      | false => rfl
      | true =>
        exfalso
        have h1 := fun j hj => pz_al_e r j hj
        rcases q with q | q
        · obtain ⟨j, j1, j2⟩ := (hb _).mp q
          have := h1 j j1
          unfold pz_oj at this
          rw [j2] at this
          simp at this
        · apply q
          apply Nat.eq_of_testBit_eq
          intro i
          rw [Nat.testBit_and, Nat.zero_testBit]
          cases hi : m.testBit i with
          | false => rw [Bool.and_false]
          | true =>
            obtain ⟨j, j1, j2⟩ := (hb _).mp hi
            have := h1 j j1
            unfold pz_oj at this
            rw [j2, Bool.and_eq_true, Bool.not_eq_true', Bool.not_eq_true'] at this
            rw [this.2]; rfl
    · rw [if_neg q]
      symm
      show (true && _) = true
      rw [Bool.true_and]
      refine pz_al_m (fun j hj => ?_)
      have hj' := (hb _).mpr ⟨j, hj, rfl⟩
      unfold pz_oj
      rw [Bool.and_eq_true, Bool.not_eq_true', Bool.not_eq_true', decide_eq_false_iff_not]
      refine ⟨fun r => q (Or.inl (by rw [r]; exact hj')), ?_⟩
      cases r : (pz_cr g (pz_ta g tx k)).testBit (pz_ta g tx j) with
      | false => rfl
      | true =>
        exfalso
        refine q (Or.inr (fun z => ?_))
        have : (pz_cr g (pz_ta g tx k) &&& m).testBit (pz_ta g tx j) = true := by rw [Nat.testBit_and, r, hj']; rfl
        rw [z, Nat.zero_testBit] at this
        cases this
section PZMT
variable {h : zq_H} {A : pz_A}
theorem m_cross {g : Nat} (R : pz_Ms h) (D : pz_Md h g) {d e : Nat} (hd : d < pz_nd g) (he : e < pz_nd g) : f_X6_cross h 104 (nI d) (nI e) = some ((pz_cr g d).testBit e) := by
  have hg := D.1
  have d1 := (pz_dia hg hd).2.1
  have d2 := (pz_dia hg hd).2.2.1
  have e1 := (pz_dia hg he).2.1
  have e2 := (pz_dia hg he).2.2.1
  rw [(pz_cr_sym hg hd he).2]
  unfold f_X6_cross
  rw [mq_10 R, Option.bind_some, mq_dl R D hd, Option.bind_some, mq_11 R, Option.bind_some, mq_dg R D hd, Option.bind_some, Option.bind_some, mq_dl R D he, Option.bind_some, Option.bind_some, mq_dg R D he, Option.bind_some]
  simp only [pz_leI (a := pz_dl g e) (b := pz_dl g d) (by omega) (by omega), pz_leI (a := pz_dl g d) (b := pz_dl g e) (by omega) (by omega), pz_leI (a := pz_dg g e) (b := pz_dl g d) (by omega) (by omega), pz_leI (a := pz_dg g d) (b := pz_dg g e) (by omega) (by omega), pz_leI (a := pz_dg g d) (b := pz_dl g e) (by omega) (by omega), pz_ltI (a := pz_dg g d) (b := pz_dg g e) (by omega) (by omega)]
  simp only [pz_lt_d]
  generalize pz_dl g d = a at *
  generalize pz_dg g d = b at *
  generalize pz_dl g e = c at *
  generalize pz_dg g e = f at *
  split <;> (try split) <;> (try split) <;> (try split) <;> (try split) <;> (try split) <;> simp <;> omega
theorem m_tx (H : pz_M h A) {k : Nat} (hk : k < A.2.2.2.2.1) : zq_ai h 109 (nI k) = some (nI (A.2.2.2.2.2 k)) := by
  have := H.2.2.2.1
  rw [pz_ai (L := 60) (by have := H.1.1; omega) rfl (by omega) (by omega), (H.2.2.2.2.2 k hk).1]
theorem m_toldAt (H : pz_M h A) {p : Nat} (hp : 3 * p + 1 < A.2.2.2.2.1) (hq : pz_ta A.1.1 A.2.2.2.2.2 p ≠ pz_X) : f_X6_toldAt h 104 (nI p) = some (nI (pz_ta A.1.1 A.2.2.2.2.2 p)) := by
  unfold f_X6_toldAt
  rw [mq_6 H.1, Option.bind_some, show (3 : Int32) = nI 3 from rfl, pk_mul, m_tx H (by omega), Option.bind_some, Option.bind_some, nI_1, m_tx H hp, Option.bind_some, mq_ck H.1]
  exact by rw [m_noN H hq]; rfl
theorem m_canStand (H : pz_M h A) {k : Nat} (hk : k < A.2.2.2.2.1) : f_X6_canStand h 104 (nI k) = some (pz_fit A.1.1 A.2.2.2.2.2 k) := by
  have hl := H.2.2.2.1
  have hg := H.V.T.1
  have hx := (H.2.2.2.2.2 k hk).2
  have hm : nI k - nI k / 3 * 3 = nI (k % 3) := pk_rem (d := 3) (by omega) (by omega) (by omega)
  have e0 : (nI (k % 3) = 0) = (k % 3 = 0) := pz_eqI (a := k % 3) (b := 0) (by omega) (by omega)
  have e1 : (nI (k % 3) = 1) = (k % 3 = 1) := pz_eqI (a := k % 3) (b := 1) (by omega) (by omega)
  have ef : 3 * (nI (A.1.1 + 4) - 3) - 1 = nI (3 * (A.1.1 + 1) - 1) := by
    rw [show (3 : Int32) = nI 3 from rfl, show (1 : Int32) = nI 1 from rfl, pk_sub (by omega), pk_mul, pk_sub (by omega)]
    rfl
  unfold f_X6_canStand pz_fit
  rw [mq_6 H.1, Option.bind_some, m_tx H hk, Option.bind_some]
  simp only [zq_let, mq_0 H.1, Option.bind_some, mz_a0 H]
  rw [ef, hm]
  simp only [e0, e1]
  by_cases q : k < 3 * (A.1.1 + 1) - 1
  · rw [if_pos (nI_lt q (by omega)), decide_eq_true q, Bool.true_and]
    by_cases q0 : k % 3 = 0
    · rw [if_pos q0, if_pos q0, show nI (A.1.1 + 4) - 3 = nI (A.1.1 + 2) - 1 by rw [show (3 : Int32) = nI 3 from rfl, show (1 : Int32) = nI 1 from rfl, pk_sub (by omega), pk_sub (by omega)]; rfl, m_within (by omega) (by omega), Option.bind_some]
    · rw [if_neg q0, if_neg q0]
      by_cases q1 : k % 3 = 1
      · have hk1 : nI k - 1 = nI (k - 1) := pk_sub (b := 1) (by omega)
        rw [if_pos q1, if_pos q1, hk1, m_tx H (by omega), Option.bind_some, mq_ck H.1, m_isDia H, Option.bind_some]
      · rw [if_neg q1, if_neg q1, m_tx H hk, Option.bind_some]
        simp only [show (44 : Int32) = nI 44 from rfl, pz_eqI (a := A.2.2.2.2.2 k) (b := 44) (by omega) (by omega)]
        by_cases r : A.2.2.2.2.2 k = 44
        · rw [if_pos r, decide_eq_true r]
        · rw [if_neg r, decide_eq_false r]
  · rw [if_neg (nI_nlt (by omega) (by omega)), decide_eq_false q, Bool.false_and]
theorem m_rightUpTo (H : pz_M h A) : f_X6_rightUpTo h 104 = some (nI (pz_fw2 A.1.1 A.2.2.2.2.1 A.2.2.2.2.2)) := by
  have hl := H.2.2.2.1
  have hle := pz_fw2_le (g := A.1.1) (tl := A.2.2.2.2.1) (tx := A.2.2.2.2.2)
  have h5 : zq_gi h 104 6 5 = some (nI A.2.2.2.2.1) := by rw [mq_i H.1, H.2.2.2.2.1]
  unfold f_X6_rightUpTo
  have fit : ∀ i, i < pz_fw2 A.1.1 A.2.2.2.2.1 A.2.2.2.2.2 → pz_fit A.1.1 A.2.2.2.2.2 i = true := fun i hi => by
    have hno := pz_ff_no (fun k => !(pz_fit A.1.1 A.2.2.2.2.2 k)) A.2.2.2.2.1 0 i (by omega) hi
    simpa using hno
  refine pz_lpB (fun i => nI i) (pz_fw2 A.1.1 A.2.2.2.2.1 A.2.2.2.2.2) (r := nI (pz_fw2 A.1.1 A.2.2.2.2.1 A.2.2.2.2.2)) rfl rfl ?_ ?_ (by omega)
  · intro i hi
    rw [h5, Option.bind_some, if_neg (nI_ge (show i < A.2.2.2.2.1 by omega) (by omega)), mq_ck H.1, m_canStand H (by omega), Option.bind_some, fit i hi, if_neg (show ¬ (true = false) by simp)]
    simp only [zq_let, nI_1]
  · rw [h5, Option.bind_some]
    by_cases q : pz_fw2 A.1.1 A.2.2.2.2.1 A.2.2.2.2.2 < A.2.2.2.2.1
    · have hyes := pz_ff_yes (fun k => !(pz_fit A.1.1 A.2.2.2.2.2 k)) A.2.2.2.2.1 0 (by unfold pz_fw2 at q; omega)
      have hf : pz_fit A.1.1 A.2.2.2.2.2 (pz_fw2 A.1.1 A.2.2.2.2.1 A.2.2.2.2.2) = false := by unfold pz_fw2; simpa using hyes
      rw [if_neg (nI_ge q (by omega)), mq_ck H.1, m_canStand H q, Option.bind_some, hf, if_pos rfl]
    · rw [if_pos (nI_le (by omega) (by omega))]
theorem d_firstError (H : pz_M h A) : ∃ o, f_X6_firstError h 104 = some o ∧ pz_om cdC h A (R_firstError A) o := by
  unfold f_X6_firstError R_firstError
  rw [mq_p H.1, Option.bind_some, mq_ck H.z0.1, m_rightUpTo H.z0, Option.bind_some]
  exact ⟨_, rfl, pz_om.v pz_i70 H.z0 pz_km0⟩
/-- the text differs alone -/
theorem pz_M.tx {h' : zq_H} (H : pz_M h A) (l1 : h'.1 = h.1) (l2 : h'.2.2 = h.2.2) (l3 : ∀ a j, a ≠ 109 → ¬ (a = 104 ∧ j = 5) → pz_i h' a j = pz_i h a j) {tl : Nat} {tx : Nat → Nat} (X : pz_Mx h' tl tx) : pz_M h' (pz_tb A tl tx) :=
  ⟨H.1.rr l1 (fun j => by unfold pz_r; rw [l2]), H.2.1.of (fun a j q => l3 a j (by omega) (by omega)), H.2.2.1.of (fun a j q => l3 a j (by omega) (by omega)), X⟩
theorem d_clear (H : pz_M h A) : ∃ o, f_X6_clearBuffer h 104 = some o ∧ pz_om cdC h A (R_clear A) o := by
  unfold f_X6_clearBuffer R_clear
  have H0 := H.z0
  have h5 : zq_gi (pz_S h 104 7 0) 104 6 5 = some (nI A.2.2.2.2.1) := by rw [mq_i H0.1, H0.2.2.2.2.1]
  rw [mq_p H.1, Option.bind_some, h5, Option.bind_some, mq_p H0.1, Option.bind_some]
  refine ⟨_, rfl, pz_om.v (by rw [pz_S_i, if_neg (by omega)]; exact pz_i70) (pz_M.tx (h' := pz_S (pz_S h 104 7 0) 104 5 0) (tl := 0) H0 rfl rfl (fun a j u v => by rw [pz_S_i, if_neg v]) ⟨by omega, by rw [pz_S_i, if_pos ⟨rfl, rfl⟩]; rfl, fun j hj => absurd hj (Nat.not_lt_zero _)⟩) ⟨rfl, fun a ha j => ⟨by rw [pz_S_i, if_neg (by omega), pz_S_i, if_neg (by omega)], rfl, rfl⟩⟩⟩
theorem d_append (H : pz_M h A) (x : Int32) : ∃ o, f_X6_append h 104 x = some o ∧ pz_om cdB h A (R_append A x) o := by
  unfold f_X6_append R_append
  rw [m_within3, Option.bind_some]
  cases hb : pz_bt2 33 126 x with
  | false =>
    rw [if_pos (show false = false from rfl), if_neg (show ¬ (false = true) by simp), mq_p H.1, Option.bind_some]
    exact ⟨_, rfl, pz_om.t H rfl⟩
  | true =>
    obtain ⟨h1, h2⟩ := of_decide_eq_true hb
    have hx0 : ¬ x < 0 := fun e => h1 (Int32.lt_trans e (by decide))
    obtain ⟨k, hk, rfl⟩ := nI_of hx0
    have hk1 : 33 ≤ k := by
      rcases Nat.lt_or_ge k 33 with e | e
      · exact absurd (nI_lt (b := 33) e (by omega)) h1
      · exact e
    have hk2 : k ≤ 126 := by
      rcases Nat.lt_or_ge 126 k with e | e
      · exact absurd (nI_lt (a := 126) e hk) h2
      · exact e
    have hl := H.2.2.2.1
    rw [if_neg (show ¬ (true = false) by simp), if_pos (show true = true from rfl), nI_clamp hk, mq_i H.1, H.2.2.2.2.1, Option.bind_some]
    have e60 : (nI A.2.2.2.2.1 = 60) = (A.2.2.2.2.1 = 60) := pz_eqI (b := 60) (by omega) (by omega)
    by_cases q : A.2.2.2.2.1 = 60
    · rw [if_pos q, if_pos (by rw [e60]; exact q), mq_p H.1, Option.bind_some]
      exact ⟨_, rfl, pz_om.t H rfl⟩
    · have H0 := H.z0
      have h5 : zq_gi (pz_S h 104 7 0) 104 6 5 = some (nI A.2.2.2.2.1) := by rw [mq_i H0.1, H0.2.2.2.2.1]
      have hs : zq_si (pz_S h 104 7 0) 109 (nI A.2.2.2.2.1) (nI k) = some (pz_S (pz_S h 104 7 0) 109 A.2.2.2.2.1 (nI k)) := pz_si (L := 60) (by have := H0.1.1; omega) rfl (by omega) (by omega) _
      have R1 : pz_Ms (pz_S (pz_S h 104 7 0) 109 A.2.2.2.2.1 (nI k)) := H0.1
      have R2 : pz_Ms (pz_S (pz_S (pz_S h 104 7 0) 109 A.2.2.2.2.1 (nI k)) 104 5 (nI (A.2.2.2.2.1 + 1))) := H0.1
      rw [if_neg q, if_neg (by rw [e60]; exact q), mq_p H.1, Option.bind_some, mq_6 H0.1, Option.bind_some, h5, Option.bind_some, hs, Option.bind_some, mq_i R1, pz_S_i, if_neg (by omega), H0.2.2.2.2.1, Option.bind_some, nI_1, mq_p R1, Option.bind_some, mq_i R2, pz_S_i, if_pos ⟨rfl, rfl⟩, Option.bind_some]
      refine ⟨_, rfl, pz_om.v (by rw [pz_S_i, if_neg (by omega), pz_S_i, if_neg (by omega)]; exact pz_i70) (pz_M.tx (h' := pz_S (pz_S (pz_S h 104 7 0) 109 A.2.2.2.2.1 (nI k)) 104 5 (nI (A.2.2.2.2.1 + 1))) (tl := A.2.2.2.2.1 + 1) (tx := pz_up1 A.2.2.2.2.2 A.2.2.2.2.1 k) H0 rfl rfl (fun a j u v => by rw [pz_S_i, if_neg v, pz_S_i, if_neg (fun r => u r.1)]) ⟨by omega, by rw [pz_S_i, if_pos ⟨rfl, rfl⟩], fun j hj => ?_⟩) ⟨rfl, fun a ha j => ⟨by rw [pz_S_i, if_neg (by omega), pz_S_i, if_neg (by omega), pz_S_i, if_neg (by omega)], rfl, rfl⟩⟩⟩
      show pz_i _ 109 j = nI (pz_up1 A.2.2.2.2.2 A.2.2.2.2.1 k j) ∧ 33 ≤ pz_up1 A.2.2.2.2.2 A.2.2.2.2.1 k j ∧ pz_up1 A.2.2.2.2.2 A.2.2.2.2.1 k j ≤ 126
      rw [pz_S_i, if_neg (by omega), pz_S_i]
      by_cases r : j = A.2.2.2.2.1
      · rw [if_pos ⟨rfl, r⟩, r, pz_up1_s]
        exact ⟨rfl, hk1, hk2⟩
      · rw [if_neg (fun e => r e.2), pz_up1_n _ _ _ r]
        exact H0.2.2.2.2.2 j (by omega)
theorem m_zb {α : Type} {f : Bool → Option α} (b : Bool) : zq_z (if b = true then (1 : Int32) else 0) f = f b := by
  cases b <;> rfl
theorem m_isTriangulation (H : pz_M h A) (h1 : A.2.2.2.2.1 = 3 * (A.1.1 + 1) - 1) (h2 : pz_fw2 A.1.1 A.2.2.2.2.1 A.2.2.2.2.2 = A.2.2.2.2.1) : f_X6_isTriangulation h 104 = some (pz_mkb A.1.1 A.2.2.2.2.2 (A.1.1 + 1)) := by
  have hg := H.V.T.1
  have hnd := pz_nd_le hg
  have hta := fun p (hp : p < A.1.1 + 1) => pz_ta_lt (g := A.1.1) (tl := A.2.2.2.2.1) (tx := A.2.2.2.2.2) hg h1 h2 hp
  have hX : pz_X = 4294967295 := rfl
  have tl := fun p (hp : p < A.1.1 + 1) => m_toldAt H (p := p) (by omega) (by have := hta p hp; omega)
  have ef : nI (A.1.1 + 4) - 3 = nI (A.1.1 + 1) := by
    rw [show (3 : Int32) = nI 3 from rfl, pk_sub (by omega)]
    rfl
  generalize hG : A.1.1 = g at *
  generalize hX : A.2.2.2.2.2 = tx at *
  have ha0 : zq_ai h 105 0 = some (nI (g + 4)) := by rw [mz_a0 H, hG]
  have D : pz_Md h g := by rw [← hG]; exact H.d
  unfold f_X6_isTriangulation
  refine pz_lpB (fun i => (if pz_mkb g tx i = true then (1 : Int32) else 0, nI i)) (g + 1) (r := if pz_mkb g tx (g + 1) = true then (1 : Int32) else 0) (by rw [m_zb]) rfl ?_ ?_ (by omega)
  · intro i hi
    simp only
    rw [mq_0 H.1, Option.bind_some, ha0, Option.bind_some, ef, if_neg (nI_ge hi (by omega))]
    refine pz_lpB (fun j => (if (pz_mkb g tx i && pz_al (fun j => pz_oj g tx i j) j) = true then (1 : Int32) else 0, nI j)) i (r := if (pz_mkb g tx i && pz_al (fun j => pz_oj g tx i j) i) = true then (1 : Int32) else 0) ?_ (by show _ = (if (pz_mkb g tx i && true) = true then (1 : Int32) else 0, nI 0); rw [Bool.and_true]; rfl) ?_ ?_ (by omega)
    · simp only [zq_let, nI_1]
      rw [pz_mkb_s]
    · intro j hj
      simp only
      have hs : pz_al (fun j => pz_oj g tx i j) (j + 1) = (pz_oj g tx i j && pz_al (fun j => pz_oj g tx i j) j) := rfl
      rw [hs, if_neg (nI_ge hj (by omega))]
      cases hb : (pz_mkb g tx i && pz_al (fun j => pz_oj g tx i j) j) with
      | false =>
        have hb2 : (pz_mkb g tx i && (pz_oj g tx i j && pz_al (fun j => pz_oj g tx i j) j)) = false := by
          revert hb
          cases pz_mkb g tx i <;> cases pz_oj g tx i j <;> simp
        rw [hb2, if_neg (show ¬ (false = true) by simp), if_pos rfl]
        simp only [zq_let, nI_1]
      | true =>
        rw [Bool.and_eq_true] at hb
        rw [hb.1, hb.2, Bool.true_and, Bool.and_true, if_pos (show true = true from rfl), if_neg (show ¬ (1 : Int32) = 0 by decide), mq_ck H.1, tl i hi, Option.bind_some, mq_ck H.1, tl j (by omega), Option.bind_some]
        have d1 := hta i hi
        have d2 := hta j (by omega)
        have ee : (nI (pz_ta g tx i) = nI (pz_ta g tx j)) = (pz_ta g tx i = pz_ta g tx j) := pz_eqI (by omega) (by omega)
        unfold pz_oj
        by_cases q : pz_ta g tx i = pz_ta g tx j
        · rw [if_pos (by rw [ee]; exact q), decide_eq_true q]
          simp only [zq_let, nI_1]
          rfl
        · rw [if_neg (by rw [ee]; exact q), decide_eq_false q, mq_ck H.1, Option.bind_some, mq_ck H.1, Option.bind_some, mq_ck H.1, m_cross H.1 D d1 d2, Option.bind_some]
          simp only [zq_let, nI_1]
          cases (pz_cr g (pz_ta g tx i)).testBit (pz_ta g tx j) <;> rfl
    · simp only
      rw [if_pos (nI_le (Nat.le_refl _) (by omega))]
  · simp only
    rw [mq_0 H.1, Option.bind_some, ha0, Option.bind_some, ef, if_pos (nI_le (Nat.le_refl _) (by omega))]
theorem d_read (H : pz_M h A) (x : Int32) : ∃ o, f_X6_read h 104 x = some o ∧ pz_om cdD h A (R_read A x) o := by
  have hg := H.V.T.1
  have hnd := pz_nd_le hg
  have hl := H.2.2.2.1
  have hle := pz_fw2_le (g := A.1.1) (tl := A.2.2.2.2.1) (tx := A.2.2.2.2.2)
  have h5 : zq_gi h 104 6 5 = some (nI A.2.2.2.2.1) := by rw [mq_i H.1, H.2.2.2.2.1]
  have ef : 3 * (nI (A.1.1 + 4) - 3) - 1 = nI (3 * (A.1.1 + 1) - 1) := by
    rw [show (3 : Int32) = nI 3 from rfl, show (1 : Int32) = nI 1 from rfl, pk_sub (by omega), pk_mul, pk_sub (by omega)]
    rfl
  have ef2 : nI (A.1.1 + 4) - 3 = nI (A.1.1 + 1) := by
    rw [show (3 : Int32) = nI 3 from rfl, pk_sub (by omega)]
    rfl
  have bad : ∀ (q : ¬ (A.2.2.2.2.1 = 3 * (A.1.1 + 1) - 1 ∧ pz_fw2 A.1.1 A.2.2.2.2.1 A.2.2.2.2.2 = A.2.2.2.2.1)), ∃ o, (Option.bind (f_X6_isWhich h x) fun v_7 => (if v_7 = false then (Option.bind (zq_pi h 104 6 7 1) fun h_16 => some (((0 : Int32), h_16))) else (Option.bind (zq_pi h 104 6 7 2) fun h_11 => some (((0 : Int32), h_11))))) = some o ∧ pz_om cdD h A (R_read A x) o := by
    intro q
    unfold R_read
    rw [m_isWhich, Option.bind_some]
    cases h1 : pz_inb 2 x with
    | false =>
      rw [if_pos (show false = false from rfl), if_neg (show ¬ (false = true) by simp), mq_p H.1, Option.bind_some]
      exact ⟨_, rfl, pz_om.t H rfl⟩
    | true =>
      rw [if_neg (show ¬ (true = false) by simp), if_pos (show true = true from rfl), if_neg q, mq_p H.1, Option.bind_some]
      exact ⟨_, rfl, pz_om.t H rfl⟩
  unfold f_X6_read
  rw [mq_ck H.1, m_rightUpTo H, Option.bind_some, h5, Option.bind_some]
  by_cases q2 : pz_fw2 A.1.1 A.2.2.2.2.1 A.2.2.2.2.2 = A.2.2.2.2.1
  · rw [if_pos (by rw [q2]), Option.bind_some, mq_0 H.1, Option.bind_some, mz_a0 H, Option.bind_some, ef]
    by_cases q1 : A.2.2.2.2.1 = 3 * (A.1.1 + 1) - 1
    · have q : A.2.2.2.2.1 = 3 * (A.1.1 + 1) - 1 ∧ pz_fw2 A.1.1 A.2.2.2.2.1 A.2.2.2.2.2 = A.2.2.2.2.1 := ⟨q1, q2⟩
      rw [if_pos (by rw [← q1]), m_isWhich, Option.bind_some]
      unfold R_read
      cases h1 : pz_inb 2 x with
      | false =>
        rw [if_pos (show false = false from rfl), if_neg (show ¬ (false = true) by simp), mq_p H.1, Option.bind_some]
        exact ⟨_, rfl, pz_om.t H rfl⟩
      | true =>
        obtain ⟨w, hw, rfl⟩ := pz_inb_of (by omega) h1
        rw [if_neg (show ¬ (true = false) by simp), if_pos (show true = true from rfl), if_pos q, mq_ck H.1, m_isTriangulation H q1 q2, Option.bind_some]
        unfold pz_mkb
        cases hm : pz_mk A.1.1 A.2.2.2.2.2 (A.1.1 + 1) with
        | none =>
          rw [if_pos (show Option.isSome (none : Option Nat) = false from rfl), mq_p H.1, Option.bind_some]
          exact ⟨_, rfl, pz_om.t H rfl⟩
        | some m =>
          have hta := fun p (hp : p < A.1.1 + 1) => pz_ta_lt (g := A.1.1) (tl := A.2.2.2.2.1) (tx := A.2.2.2.2.2) hg q1 q2 hp
          obtain ⟨n1, n2⟩ := pz_mk_nc hg hta hm
          have hT := pz_nc_T hg n1 n2
          have hm27 := pz_T_27 hg hT
          have hX : pz_X = 4294967295 := rfl
          obtain ⟨k, e1, e2, e3, e4⟩ := m_begin0 H
          have tl : ∀ p, p < A.1.1 + 1 → f_X6_toldAt k 104 (nI p) = some (nI (pz_ta A.1.1 A.2.2.2.2.2 p)) := fun p hp => m_toldAt (A := pz_sa A A.1) e2 (p := p) (show 3 * p + 1 < A.2.2.2.2.1 by omega) (show pz_ta A.1.1 A.2.2.2.2.2 p ≠ pz_X by have := hta p hp; omega)
          have a0 : zq_ai k 105 0 = some (nI (A.1.1 + 4)) := mz_a0 (A := pz_sa A A.1) e2
          simp only
          rw [if_neg (show ¬ (Option.isSome (some m) = false) by simp), mq_p H.1, Option.bind_some, mq_ck H.z0.1, e1, Option.bind_some, nI_clamp (by omega)]
          refine pz_lpIB (fun i s => ∃ mm, pz_mk A.1.1 A.2.2.2.2.2 i = some mm ∧ s.1 = nI mm ∧ s.2 = nI i) (A.1.1 + 1) (fun r => r = nI m) ?_ ⟨0, rfl, rfl, rfl⟩ ?_ ?_ (by omega)
          · rintro r rfl
            have R1 : pz_Ms (pz_S k 104 5 0) := e2.1
            have H1 : pz_M (pz_S k 104 5 0) (pz_tb (pz_sa A A.1) 0 A.2.2.2.2.2) := pz_M.tx (h' := pz_S k 104 5 0) (tl := 0) (tx := A.2.2.2.2.2) e2 rfl rfl (fun a j u v => by rw [pz_S_i, if_neg v]) ⟨by omega, by rw [pz_S_i, if_pos ⟨rfl, rfl⟩]; rfl, fun j hj => absurd hj (Nat.not_lt_zero _)⟩
            obtain ⟨h', f1, f2, f3⟩ := m_lay R1 H1.2.2.1.1 hw m
            rw [mq_p e2.1, Option.bind_some, mq_ck R1, f1, Option.bind_some]
            have k5 : pz_km k (pz_S k 104 5 0) := ⟨rfl, fun a ha j => ⟨by rw [pz_S_i, if_neg (by omega)], rfl, rfl⟩⟩
            have hpn : (pz_pn A.1 w m).1 = A.1.1 := by unfold pz_pn; split <;> rfl
            have H2 : pz_M h' (pz_tb (pz_sa A (pz_pn A.1 w m)) 0 A.2.2.2.2.2) := f2.M (A := pz_tb (pz_sa A A.1) 0 A.2.2.2.2.2) H1 f3 (pz_pn_V H.V w hT) hpn
            refine ⟨_, rfl, pz_om.v (by rw [f2.2.2 104 7 (by omega), pz_S_i, if_neg (by omega)]; exact e4) H2 ((e3.tr k5).tr f2.km)⟩
          · rintro i ⟨s1, s2⟩ hi ⟨mm, g1, g2, g3⟩
            simp only at g2 g3
            subst g2; subst g3
            obtain ⟨n1', n2'⟩ := pz_mk_nc hg (fun p hp => hta p (by omega)) g1
            have hmm27 := pz_p27 hg n1'.1
            have hd := hta i hi
            have hp2 : 2 ^ pz_ta A.1.1 A.2.2.2.2.2 i < 134217728 := Nat.pow_lt_pow_right (n := 27) (by omega) (by omega)
            have hnext : pz_mk A.1.1 A.2.2.2.2.2 (i + 1) = some (mm ||| 2 ^ pz_ta A.1.1 A.2.2.2.2.2 i) := by
              have dead : pz_mk A.1.1 A.2.2.2.2.2 (i + 1) ≠ none := by
                intro z
                have : ∀ j, pz_mk A.1.1 A.2.2.2.2.2 (i + 1 + j) = none := by
                  intro j
                  induction j with
                  | zero => exact z
                  | succ j ih => exact pz_mk_n _ _ ih
                have := this (A.1.1 - i)
                rw [show i + 1 + (A.1.1 - i) = A.1.1 + 1 by omega, hm] at this
                cases this
              have hs := pz_mk_s A.1.1 A.2.2.2.2.2 g1
              by_cases r : mm.testBit (pz_ta A.1.1 A.2.2.2.2.2 i) = true ∨ pz_cr A.1.1 (pz_ta A.1.1 A.2.2.2.2.2 i) &&& mm ≠ 0
              · rw [if_pos r] at hs; exact absurd hs dead
              · rw [if_neg r] at hs; exact hs
            refine ⟨(nI (mm ||| 2 ^ pz_ta A.1.1 A.2.2.2.2.2 i), nI (i + 1)), ?_, _, hnext, rfl, rfl⟩
            simp only
            rw [mq_0 e2.1, Option.bind_some, a0, Option.bind_some, ef2, if_neg (nI_ge hi (by omega)), mq_ck e2.1, tl i hi, Option.bind_some, pz_shl (by omega), pz_or (by omega) (by omega)]
            simp only [zq_let, nI_1]
          · rintro ⟨s1, s2⟩ ⟨mm, g1, g2, g3⟩
            simp only at g2 g3
            subst g2; subst g3
            rw [hm] at g1
            have g1 := Option.some.inj g1
            subst g1
            simp only
            rw [mq_0 e2.1, Option.bind_some, a0, Option.bind_some, ef2, if_pos (nI_le (Nat.le_refl _) (by omega))]
            exact ⟨_, rfl, rfl⟩
    · rw [if_neg (show ¬ nI A.2.2.2.2.1 = nI (3 * (A.1.1 + 1) - 1) by rw [pz_eqI (by omega) (by omega)]; exact q1)]
      exact bad (fun r => q1 r.1)
  · rw [if_neg (show ¬ nI (pz_fw2 A.1.1 A.2.2.2.2.1 A.2.2.2.2.2) = nI A.2.2.2.2.1 by rw [pz_eqI (by omega) (by omega)]; exact q2)]
    exact bad (fun r => q2 r.2)
end PZMT
