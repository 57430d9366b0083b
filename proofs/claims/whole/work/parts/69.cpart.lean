/-! the class' parts: lists, counts -/
theorem pz_gd_app {x : Nat} : ∀ {L : List Nat} {k : Nat}, k ≤ L.length → (L ++ [x]).getD k 0 = if k = L.length then x else L.getD k 0
  | [], k, h => by
    have : k = 0 := Nat.le_zero.mp h
    subst this; rfl
  | S :: L, 0, h => rfl
  | S :: L, k + 1, h => by
    have ih := pz_gd_app (x := x) (L := L) (k := k) (Nat.le_of_succ_le_succ h)
    show (L ++ [x]).getD k 0 = if k + 1 = L.length + 1 then x else L.getD k 0
    rw [ih]
    by_cases q : k = L.length
    · rw [if_pos q, if_pos (by omega)]
    · rw [if_neg q, if_neg (by omega)]
theorem pz_c1_le (a b : Nat) : ∀ L : List Nat, (pz_c1 a b L).length ≤ L.length + 1
  | [] => by unfold pz_c1; simp
  | S :: L => by
    have ih := pz_c1_le a b L
    unfold pz_c1
    cases (pz_tf S a && pz_tf S b) with
    | true => rw [cond_true, List.length_cons, List.length_append, List.length_cons]; simp
    | false => rw [cond_false, List.length_cons, List.length_cons]; omega
theorem pz_c1_e {a b : Nat} : ∀ {L : List Nat}, (pz_c1 a b L).length = L.length + 1 → ∃ i, i < L.length ∧ (∀ j, j < i → ¬ ((L.getD j 0).testBit a = true ∧ (L.getD j 0).testBit b = true)) ∧ ((L.getD i 0).testBit a = true ∧ (L.getD i 0).testBit b = true) ∧ ∀ k, k ≤ L.length → (pz_c1 a b L).getD k 0 = if k = i then pz_sp1 (L.getD i 0) a b else if k = L.length then pz_sp2 (L.getD i 0) a b else L.getD k 0
  | [], h => by unfold pz_c1 at h; simp at h
  | S :: L, h => by
    unfold pz_c1 at h ⊢
    rw [pz_tf_e, pz_tf_e] at h ⊢
    cases q : (S.testBit a && S.testBit b) with
    | true =>
      rw [Bool.and_eq_true] at q
      refine ⟨0, by simp, fun j hj => absurd hj (Nat.not_lt_zero _), q, fun k hk => ?_⟩
      rw [cond_true]
      cases k with
      | zero => rfl
      | succ k =>
        show (L ++ [pz_sp2 S a b]).getD k 0 = if k + 1 = 0 then _ else if k + 1 = L.length + 1 then pz_sp2 S a b else L.getD k 0
        rw [pz_gd_app (Nat.le_of_succ_le_succ hk), if_neg (show ¬ k + 1 = 0 by omega)]
        by_cases r : k = L.length
        · rw [if_pos r, if_pos (show k + 1 = L.length + 1 by omega)]
        · rw [if_neg r, if_neg (show ¬ k + 1 = L.length + 1 by omega)]
    | false =>
      rw [q, cond_false, List.length_cons, List.length_cons] at h
      obtain ⟨i, i1, i2, i3, i4⟩ := pz_c1_e (a := a) (b := b) (L := L) (by omega)
      refine ⟨i + 1, by rw [List.length_cons]; omega, fun j hj => ?_, i3, fun k hk => ?_⟩
      · cases j with
        | zero =>
          intro r
          have r : S.testBit a = true ∧ S.testBit b = true := r
          rw [r.1, r.2] at q; cases q
        | succ j => exact i2 j (by omega)
      · rw [cond_false]
        cases k with
        | zero =>
          show S = if 0 = i + 1 then _ else if 0 = L.length + 1 then _ else S
          rw [if_neg (by omega), if_neg (by omega)]
        | succ k =>
          have := i4 k (Nat.le_of_succ_le_succ hk)
          show (pz_c1 a b L).getD k 0 = if k + 1 = i + 1 then pz_sp1 (L.getD i 0) a b else if k + 1 = L.length + 1 then pz_sp2 (L.getD i 0) a b else L.getD k 0
          rw [this]
          by_cases r1 : k = i
          · rw [if_pos r1, if_pos (show k + 1 = i + 1 by omega)]
          · rw [if_neg r1, if_neg (show ¬ k + 1 = i + 1 by omega)]
            by_cases r2 : k = L.length
            · rw [if_pos r2, if_pos (show k + 1 = L.length + 1 by omega)]
            · rw [if_neg r2, if_neg (show ¬ k + 1 = L.length + 1 by omega)]
theorem pz_cu_s (g C k : Nat) : pz_cu g C (k + 1) = if C.testBit k = true then pz_c1 (pz_dl g k) (pz_dg g k) (pz_cu g C k) else pz_cu g C k := by
  show (bif pz_tf C k then _ else _) = _
  rw [pz_tf_e]
  cases C.testBit k <;> rfl
theorem pz_cu_grow (g C k : Nat) : ∀ j, (pz_cu g C (k + j)).length ≤ (pz_cu g C k).length + (pz_rk C (k + j) - pz_rk C k)
  | 0 => by rw [Nat.add_zero]; omega
  | j + 1 => by
    have ih := pz_cu_grow g C k j
    have hm := pz_rk_mon C (show k ≤ k + j by omega)
    show (pz_cu g C (k + j + 1)).length ≤ _ + (pz_rk C (k + j + 1) - _)
    rw [pz_cu_s, pz_rk_s]
    by_cases q : C.testBit (k + j) = true
    · rw [if_pos q, if_pos q]
      have := pz_c1_le (pz_dl g (k + j)) (pz_dg g (k + j)) (pz_cu g C (k + j))
      omega
    · rw [if_neg q, if_neg q]; omega
/-- each cut adds one part -/
theorem pz_cu_len {g C : Nat} (hg : g < 6) (hC : pz_nc g C) {k : Nat} (hk : k ≤ pz_nd g) : (pz_cu g C k).length = pz_rk C k + 1 := by
  have h1 := (pz_dsc hg hC).1.2
  have h2 := pz_cu_grow g C k (pz_nd g - k)
  have h3 := pz_cu_grow g C 0 k
  have h0 : (pz_cu g C 0).length = 1 := rfl
  have h4 : pz_rk C 0 = 0 := rfl
  have h5 := pz_rk_mon C hk
  rw [show k + (pz_nd g - k) = pz_nd g by omega] at h2
  rw [Nat.zero_add] at h3
  omega
theorem pz_rk_and {S a : Nat} : ∀ {k : Nat}, k ≤ a → pz_rk (S &&& (2 ^ a - 1)) k = pz_rk S k
  | 0, _ => rfl
  | k + 1, h => by
    rw [pz_rk_s, pz_rk_s, pz_rk_and (by omega), Nat.testBit_and, Nat.testBit_two_pow_sub_one, decide_eq_true (show k < a by omega), Bool.and_true]
theorem pz_rk_low {S a : Nat} (ha : a ≤ 27) : pz_rk (S &&& (2 ^ a - 1)) 27 = pz_rk S a := by
  have h1 : S &&& (2 ^ a - 1) < 2 ^ a := Nat.lt_of_le_of_lt Nat.and_le_right (by have := Nat.two_pow_pos a; omega)
  have h2 := pz_rk_top h1 (27 - a)
  rw [show a + (27 - a) = 27 by omega] at h2
  rw [h2, pz_rk_and (Nat.le_refl _)]
theorem pz_ends (S a b : Nat) : S &&& (2 ^ a ||| 2 ^ b) = 2 ^ a ||| 2 ^ b ↔ S.testBit a = true ∧ S.testBit b = true := by
  constructor
  · intro h
    have ha := congrArg (fun x => x.testBit a) h
    have hb := congrArg (fun x => x.testBit b) h
    simp only [Nat.testBit_and, Nat.testBit_or, Nat.testBit_two_pow] at ha hb
    simp at ha hb
    exact ⟨ha, hb⟩
  · rintro ⟨ha, hb⟩
    apply Nat.eq_of_testBit_eq
    intro i
    rw [Nat.testBit_and, Nat.testBit_or, Nat.testBit_two_pow, Nat.testBit_two_pow]
    by_cases q1 : a = i
    · subst q1; rw [ha]; simp
    · by_cases q2 : b = i
      · subst q2; rw [hb]; simp
      · simp [q1, q2]
section PZCP
variable {h : zq_H} {t g : Nat}
theorem s_maskInPart {t2 S m : Nat} (P : pz_Pt h t g) (hS : S < 2 ^ (g + 4)) (h4 : 4 ≤ pz_rk S 9) (P2 : pz_Pt h t2 (pz_qg S)) (hm : m < 134217728) : f_X1_maskInPart h t (nI m) (nI S) t2 = some (nI (pz_pj g S m)) := by
  have hg := pq_g P
  have hn := pq_n P
  obtain ⟨s1, s2, s3⟩ := pz_qg_e hg hS h4
  have hn2 := pq_n P2
  have hS9 : S < 512 := Nat.lt_of_lt_of_le hS (Nat.pow_le_pow_right (n := 2) (by omega) (show g + 4 ≤ 9 by omega))
  unfold f_X1_maskInPart
  have hlt : ∀ k, pz_mv (pz_ro g S) (m &&& pz_wi g S) k < 134217728 := fun k => Nat.lt_pow_two_of_testBit (n := 27) _ (fun i hi => pz_bitf (fun q => by
    obtain ⟨d, d1, d2, d3⟩ := pz_mv_bit.mp q
    rw [Nat.testBit_and, Bool.and_eq_true] at d2
    have := (pz_ro_e hg hS d2.2).1
    omega))
  refine pz_lpB (fun d => (nI (pz_mv (pz_ro g S) (m &&& pz_wi g S) d), nI d)) (pz_nd g) (r := nI (pz_mv (pz_ro g S) (m &&& pz_wi g S) (pz_nd g))) rfl rfl ?_ ?_ (by omega)
  · intro d hd
    have hds : pz_mv (pz_ro g S) (m &&& pz_wi g S) (d + 1) = pz_mv (pz_ro g S) (m &&& pz_wi g S) d ||| (bif (m &&& pz_wi g S).testBit d then 2 ^ pz_ro g S d else 0) := rfl
    have hdl := pz_dia hg hd
    have hl0 := hlt d
    generalize pz_mv (pz_ro g S) (m &&& pz_wi g S) d = X at hds hl0
    rw [hds]
    have two : ∀ {c : Nat}, c < 32 → (1 : Int32) <<< (nI c &&& 31) = nI (2 ^ c) := fun hc => pz_shl hc
    have p27 : ∀ {c : Nat}, c < 27 → 2 ^ c < 134217728 := fun hc => Nat.pow_lt_pow_right (n := 27) (by omega) hc
    have pa := p27 (show pz_dl g d < 27 by omega)
    have pb := p27 (show pz_dg g d < 27 by omega)
    have hor : 2 ^ pz_dl g d ||| 2 ^ pz_dg g d < 134217728 := Nat.or_lt_two_pow (n := 27) pa pb
    simp only
    rw [pq_1 P, Option.bind_some, if_neg (nI_ge hd (by omega)), pq_2 P, Option.bind_some, pq_dl P hd, Option.bind_some, pq_3 P, Option.bind_some, pq_dg P hd, Option.bind_some, two (by omega), two (by omega), pz_or (by omega) (by omega)]
    simp only [zq_let]
    rw [s_isIn (by omega) (by omega), Option.bind_some, Nat.testBit_and]
    cases hb : m.testBit d with
    | false =>
      rw [if_pos (show false = false from rfl), Bool.false_and, cond_false, Nat.or_zero, nI_1]
    | true =>
      rw [if_neg (show ¬ (true = false) by simp), Bool.true_and, pz_and (by omega) (by omega)]
      have hE : (nI (S &&& (2 ^ pz_dl g d ||| 2 ^ pz_dg g d)) = nI (2 ^ pz_dl g d ||| 2 ^ pz_dg g d)) = (S.testBit (pz_dl g d) = true ∧ S.testBit (pz_dg g d) = true) := by
        rw [pz_eq (Nat.lt_of_le_of_lt Nat.and_le_left (by omega)) (by omega)]
        exact propext (pz_ends S _ _)
      by_cases q : S.testBit (pz_dl g d) = true ∧ S.testBit (pz_dg g d) = true
      · have cnt : ∀ c, c ≤ 9 → f_J6_bitCount_0f7a4 h (nI S &&& (nI (2 ^ c) - 1)) = some (nI (pz_rk S c)) := fun c hc => by
          have hp : 2 ^ c ≤ 512 := Nat.pow_le_pow_right (n := 2) (by omega) hc
          have hp1 := Nat.two_pow_pos c
          have hlow : S &&& (2 ^ c - 1) < 512 := Nat.lt_of_le_of_lt Nat.and_le_left hS9
          rw [show (1 : Int32) = nI 1 from rfl, pk_sub (by omega), pz_and (by omega) (by omega), s_bc (by omega), pz_bc_512 hlow, pz_rk_low (by omega)]
        have ra := pz_rk_lt q.1 (show pz_dl g d < 9 by omega)
        have rb := pz_rk_lt q.2 (show pz_dg g d < 9 by omega)
        rw [if_pos (by rw [hE]; exact q), Option.bind_some, pq_dl P hd, Option.bind_some, two (by omega), cnt _ (by omega), Option.bind_some, Option.bind_some, pq_dg P hd, Option.bind_some, two (by omega), cnt _ (by omega), Option.bind_some, pq_ck P2, s_numberOf P2, Option.bind_some]
        have hno : pz_no (pz_qg S) (nI (pz_rk S (pz_dl g d))) (nI (pz_rk S (pz_dg g d))) = pz_ro g S d := by
          unfold pz_no pz_ro
          rw [pz_inb_nI (by omega) (by omega), pz_inb_nI (by omega) (by omega), if_pos ⟨by rw [decide_eq_true_eq]; omega, by rw [decide_eq_true_eq]; omega⟩, nI_clamp (by omega), nI_clamp (by omega)]
        rw [hno]
        by_cases x : pz_ro g S d = pz_X
        · have hw : (pz_wi g S).testBit d = false := pz_bitf (fun r => (pz_wi_bit.mp r).2.2.2.2 x)
          rw [x, if_pos (show nI pz_X = -1 by decide), hw, cond_false, Nat.or_zero, show (0 : Int32) = nI 0 from rfl, pz_or (by omega) (by omega), Nat.or_zero, nI_1]
        · have hw : (pz_wi g S).testBit d = true := pz_wi_bit.mpr ⟨h4, hd, q.1, q.2, x⟩
          have hro := (pz_ro_e hg hS hw).1
          have pr := p27 (show pz_ro g S d < 27 by omega)
          rw [if_neg (show ¬ nI (pz_ro g S d) = -1 by rw [pz_eqm1 (by omega)]; exact id), hw, cond_true, two (by omega), pz_or (by omega) (by omega), nI_1]
      · have hw : (pz_wi g S).testBit d = false := pz_bitf (fun r => q ⟨(pz_wi_bit.mp r).2.2.1, (pz_wi_bit.mp r).2.2.2.1⟩)
        rw [if_neg (by rw [hE]; exact q), hw, cond_false, Nat.or_zero, nI_1]
  · simp only
    rw [pq_1 P, Option.bind_some, if_pos (nI_le (Nat.le_refl _) (by omega))]
end PZCP
