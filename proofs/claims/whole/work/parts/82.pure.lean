/-! the law: every script comes to its end with 1 -/
section PZL2
def zq_h0 : zq_H := (0, fun _ _ => 0, fun _ _ => 0, fun _ _ => none)
theorem z_fin {x : Option (zq_H ⊕ Int32)} (hx : ∃ r, x = some r ∧ ∃ hh, r = Sum.inl hh) : x.bind (Sum.elim (fun _ : zq_H => some (1 : Int32)) (fun z_23 => some z_23)) = some 1 := by
  obtain ⟨r, e1, hh, e2⟩ := hx
  subst e2
  rw [e1]
  rfl
theorem z_small : ∀ L, L < 4 → nI L - 4 < nI 0 := by decide
theorem z_end {L : Nat} (hL : L ≤ 2048) : nI L - 4 < nI (4 * (L / 4)) := by
  by_cases q : L < 4
  · rw [Nat.div_eq_of_lt q]
    exact z_small L q
  · rw [show (4 : Int32) = nI 4 from rfl, pk_sub (by omega)]
    exact nI_lt (by omega) (by omega)
theorem z_go {L n : Nat} (hL : L ≤ 2048) (hn : n < L / 4) : ¬ nI L - 4 < nI (4 * n) := by
  rw [show (4 : Int32) = nI 4 from rfl, pk_sub (by omega)]
  exact nI_nlt (by omega) (by omega)
theorem z_init : ∃ a c, f_X5_init (zq_new zq_h0 0) 0 = some a ∧ a.1 = 104 ∧ f_X6_init (zq_new a 104) 104 = some c ∧ c.1 = 118 ∧ pz_LI (zq_new c 118) pz_A0 := by
  obtain ⟨a, a1, a2, b, ⟨c1, c2, c3, c4⟩, c5⟩ := s_flipPolygons (h := zq_new zq_h0 0) rfl rfl
  have z104 : ∀ j, pz_i (zq_new a 104) 104 j = 0 := fun j => by rw [zn_i, if_pos rfl]
  obtain ⟨c, d1, d2, d3, d4⟩ := m_new (h := zq_new a 104) (by rw [zn_1]) z104
  refine ⟨a, c, a1, a2, d1, d2, by rw [zn_1], ⟨b, ?_, ?_⟩, ?_⟩
  · have lz : pz_ag (fun x => x < 104) ((zq_new c 118).1, a.2) (zq_new c 118) := ⟨rfl, fun x hx j => by
      have hx : x < 104 := hx
      rw [zn_i, zn_j, zn_r, if_neg (by omega), if_neg (by omega), if_neg (by omega), (d4 x hx j).1, (d4 x hx j).2.1, (d4 x hx j).2.2, zn_i, zn_j, zn_r, if_neg (by omega), if_neg (by omega), if_neg (by omega)]
      exact ⟨rfl, rfl, rfl⟩⟩
    have e1 : pz_Ca ((zq_new c 118).1, a.2) := ⟨by show 103 < 118 + 1; omega, c1.2⟩
    have e2 : pz_Cg ((zq_new c 118).1, a.2) b := fun g hg => by
      obtain ⟨G, G1, G2⟩ := c2 g hg
      exact ⟨⟨G.1, by show 2 + 12 * g + 11 < 118 + 1; omega, ⟨G.2.2.1.1, by show 2 + 12 * g + 1 + 7 < 118 + 1; omega, G.2.2.1.2.2⟩, G.2.2.2⟩, G1, G2⟩
    have e3 : pz_Cr ((zq_new c 118).1, a.2) := fun k hk => ⟨⟨(c3 k hk).1.1, by show 87 + 4 * k + 3 < 118 + 1; omega, (c3 k hk).1.2.2⟩, (c3 k hk).2⟩
    exact ⟨e1.r lz.1 (fun x j hx => pz_ag.r lz (t := x) (by omega) j), e2.ag lz (fun x h1 h2 => by omega), e3.ag lz (fun x h1 h2 => by omega), pz_Ct.ag (h := ((zq_new c 118).1, a.2)) c4 lz (by omega)⟩
  · have lz : pz_ag (fun x => x < 104) ((zq_new c 118).1, a.2) (zq_new c 118) := ⟨rfl, fun x hx j => by
      have hx : x < 104 := hx
      rw [zn_i, zn_j, zn_r, if_neg (by omega), if_neg (by omega), if_neg (by omega), (d4 x hx j).1, (d4 x hx j).2.1, (d4 x hx j).2.2, zn_i, zn_j, zn_r, if_neg (by omega), if_neg (by omega), if_neg (by omega)]
      exact ⟨rfl, rfl, rfl⟩⟩
    exact pz_CS.ag (h := ((zq_new c 118).1, a.2)) c5 lz ⟨by omega, fun x h1 h2 => by omega⟩
  · have ii : ∀ x, x < 118 → ∀ j, pz_i (zq_new c 118) x j = pz_i c x j := fun x hx j => by rw [zn_i, if_neg (by omega)]
    obtain ⟨R, T, S, X⟩ := d3
    refine ⟨?_, T.of (fun x j q => ii x (by omega) j), S.of (fun x j q => ii x (by omega) j), X.of (fun x j q => ii x (by omega) j)⟩
    have rr : ∀ j, pz_r (zq_new c 118) 104 j = pz_r c 104 j := fun j => by rw [zn_r, if_neg (by omega)]
    unfold pz_Ms
    rw [rr, rr, rr, rr, rr, rr, rr, rr, rr, rr, rr, rr, rr]
    exact ⟨by show 118 ≤ 118 + 1; omega, R.2⟩
set_option maxHeartbeats 4000000 in
theorem law_pure (L : Nat) (xs : Nat → Int32) (hL : L ≤ 2048) : f_L_law zq_h0 L xs = some 1 := by
  obtain ⟨a, c, i1, i2, i3, i4, i5⟩ := z_init
  have w1 : zq_nw1 zq_h0 0 5 = some (zq_new zq_h0 0) := zn_w rfl rfl
  have w2 : zq_nw1 a 104 6 = some (zq_new a 104) := zn_w i2 rfl
  have w3 : zq_na c 118 11 1 1 = some (zq_new c 118) := zn_a (L := 1) (B := 1) i4 rfl (by omega) (by omega)
  unfold f_L_law
  rw [w1, Option.bind_some, zt_ (h := zq_new zq_h0 0) (n := 0 + 1) rfl, i1, Option.bind_some, zl_, w2, Option.bind_some, zt_ (h := zq_new a 104) (n := 104 + 1) rfl, i3, Option.bind_some, zl_, w3, Option.bind_some, zl_]
  refine z_fin (pz_lpI_go (I := fun n s => s.1 = nI (4 * n) ∧ ∃ A, pz_LI s.2 A) (Q := fun r => ∃ hh, r = Sum.inl hh) (n := L / 4) ?_ ?_ (L / 4) 0 513 (0, zq_new c 118) (by omega) (by omega) ⟨rfl, pz_A0, i5⟩)
  · rintro n ⟨x, k⟩ hn ⟨e1, A, I⟩
    simp only at e1 I
    subst e1
    have hi : nI (4 * n) + 4 = nI (4 * (n + 1)) := by rw [show (4 : Int32) = nI 4 from rfl, nI_add, Nat.mul_add]
    have hk : 104 < k.1 := by rw [I.1]; omega
    have sx0 : zq_sx L xs (nI (4 * n)) = some (xs (4 * n)) := z_sx0 hL (by omega)
    have sx1 : zq_sx L xs (nI (4 * n) + 1) = some (xs (4 * n + 1)) := z_sx (j := 1) hL (by omega)
    have sx2 : zq_sx L xs (nI (4 * n) + 2) = some (xs (4 * n + 2)) := z_sx (j := 2) hL (by omega)
    have sx3 : zq_sx L xs (nI (4 * n) + 3) = some (xs (4 * n + 3)) := z_sx (j := 3) hL (by omega)
    dsimp only
    rw [if_neg (z_go hL hn), sx0, Option.bind_some]
    by_cases q0 : (xs (4 * n) &&& 31) = 0
    · rw [if_pos q0]
      simp only [sx1, Option.bind_some]
      unfold f_L_begin
      rw [z_ck0 hk]
      refine law_step (R := R_begin A (xs (4 * n + 1))) (fm := fun m => f_X6_begin m 104 (xs (4 * n + 1))) I hi (c_begin I.2.1 (xs (4 * n + 1))) (fun m H => d_begin H (xs (4 * n + 1))) (fun q => rfl) ?_
      intro k q hR
      unfold R_begin at hR
      repeat' split at hR
      all_goals first | (cases hR; done) | (cases hR; exact ⟨rfl, by decide⟩)
    rw [if_neg q0]
    by_cases q1 : (xs (4 * n) &&& 31) = 1
    · rw [if_pos q1]
      simp only [sx1, sx2, sx3, Option.bind_some]
      unfold f_L_flip
      rw [z_ck0 hk]
      refine law_step (R := R_flip A (xs (4 * n + 1)) (xs (4 * n + 2)) (xs (4 * n + 3))) (fm := fun m => f_X6_flip m 104 (xs (4 * n + 1)) (xs (4 * n + 2)) (xs (4 * n + 3))) I hi (c_flip I.2.1 (xs (4 * n + 1)) (xs (4 * n + 2)) (xs (4 * n + 3))) (fun m H => d_flip H (xs (4 * n + 1)) (xs (4 * n + 2)) (xs (4 * n + 3))) (fun q => rfl) ?_
      intro k q hR
      unfold R_flip at hR
      repeat' split at hR
      all_goals first | (cases hR; done) | (cases hR; exact ⟨rfl, by decide⟩)
    rw [if_neg q1]
    by_cases q2 : (xs (4 * n) &&& 31) = 2
    · rw [if_pos q2]
      simp only [sx1, sx2, Option.bind_some]
      unfold f_L_fan
      rw [z_ck0 hk]
      refine law_step (R := R_fan A (xs (4 * n + 1)) (xs (4 * n + 2))) (fm := fun m => f_X6_fan m 104 (xs (4 * n + 1)) (xs (4 * n + 2))) I hi (c_fan I.2.1 (xs (4 * n + 1)) (xs (4 * n + 2))) (fun m H => d_fan H (xs (4 * n + 1)) (xs (4 * n + 2))) (fun q => rfl) ?_
      intro k q hR
      unfold R_fan at hR
      repeat' split at hR
      all_goals first | (cases hR; done) | (cases hR; exact ⟨rfl, by decide⟩)
    rw [if_neg q2]
    by_cases q3 : (xs (4 * n) &&& 31) = 3
    · rw [if_pos q3]
      simp only [sx1, sx2, Option.bind_some]
      unfold f_L_turn
      rw [z_ck0 hk]
      refine law_step (R := R_turn A (xs (4 * n + 1)) (xs (4 * n + 2))) (fm := fun m => f_X6_turn m 104 (xs (4 * n + 1)) (xs (4 * n + 2))) I hi (c_turn I.2.1 (xs (4 * n + 1)) (xs (4 * n + 2))) (fun m H => d_turn H (xs (4 * n + 1)) (xs (4 * n + 2))) (fun q => rfl) ?_
      intro k q hR
      unfold R_turn at hR
      repeat' split at hR
      all_goals first | (cases hR; done) | (cases hR; exact ⟨rfl, by decide⟩)
    rw [if_neg q3]
    by_cases q4 : (xs (4 * n) &&& 31) = 4
    · rw [if_pos q4]
      simp only [sx1, Option.bind_some]
      unfold f_L_mirror
      rw [z_ck0 hk]
      refine law_step (R := R_mirror A (xs (4 * n + 1))) (fm := fun m => f_X6_mirror m 104 (xs (4 * n + 1))) I hi (c_mirror I.2.1 (xs (4 * n + 1))) (fun m H => d_mirror H (xs (4 * n + 1))) (fun q => rfl) ?_
      intro k q hR
      unfold R_mirror at hR
      repeat' split at hR
      all_goals first | (cases hR; done) | (cases hR; exact ⟨rfl, by decide⟩)
    rw [if_neg q4]
    by_cases q5 : (xs (4 * n) &&& 31) = 5
    · rw [if_pos q5]
      rw [z_ck0 hk]
      refine law_plain (v := nI A.1.2.2.1) (A' := pz_sa A (A.1.1, A.1.2.2.1, A.1.2.1, 0, A.1.2.2.2.2)) (fm := fun m => f_X6_exchange m 104) (P := fun a b h2 => if a = b then (zq_let (nI (4 * n) + 4) fun v_166 => some (.inl (v_166, h2))) else some (.inr (.inr (0 : Int32)))) I hi ?_ ?_ (fun h2 => if_pos rfl)
      · obtain ⟨v, h1, u1, u2, u3, u4⟩ := c_exchange I.2.1
        have u5 : nI A.1.2.2.1 = v := (Prod.mk.inj (Sum.inl.inj u2)).1
        exact ⟨h1, by rw [u5]; exact u1, u3, u4⟩
      · intro h1 H
        obtain ⟨v, h2, u1, u2, -, u3, u4⟩ := d_exchange H
        have u5 : nI A.1.2.2.1 = v := (Prod.mk.inj (Sum.inl.inj u2)).1
        exact ⟨h2, by rw [u5]; exact u1, u3, u4⟩
    rw [if_neg q5]
    by_cases q6 : (xs (4 * n) &&& 31) = 6
    · rw [if_pos q6]
      simp only [sx1, sx2, sx3, Option.bind_some]
      by_cases qz : xs (4 * n + 3) = 0
      · simp only [if_pos qz]
        unfold f_L_lock
        rw [z_ck0 hk]
        refine law_step (R := R_lock A (xs (4 * n + 1)) (xs (4 * n + 2)) 0) (fm := fun m => f_X6_lock m 104 (xs (4 * n + 1)) (xs (4 * n + 2)) 0) I hi (c_lock I.2.1 (xs (4 * n + 1)) (xs (4 * n + 2)) 0) (fun m H => d_lock H (xs (4 * n + 1)) (xs (4 * n + 2)) 0) (fun q => rfl) ?_
        intro k q hR
        unfold R_lock at hR
        repeat' split at hR
        all_goals first | (cases hR; done) | (cases hR; exact ⟨rfl, by decide⟩)
      · simp only [if_neg qz]
        unfold f_L_lock
        rw [z_ck0 hk]
        refine law_step (R := R_lock A (xs (4 * n + 1)) (xs (4 * n + 2)) 1) (fm := fun m => f_X6_lock m 104 (xs (4 * n + 1)) (xs (4 * n + 2)) 1) I hi (c_lock I.2.1 (xs (4 * n + 1)) (xs (4 * n + 2)) 1) (fun m H => d_lock H (xs (4 * n + 1)) (xs (4 * n + 2)) 1) (fun q => rfl) ?_
        intro k q hR
        unfold R_lock at hR
        repeat' split at hR
        all_goals first | (cases hR; done) | (cases hR; exact ⟨rfl, by decide⟩)
    rw [if_neg q6]
    by_cases q7 : (xs (4 * n) &&& 31) = 7
    · rw [if_pos q7]
      simp only [sx1, Option.bind_some]
      unfold f_L_walk
      rw [z_ck0 hk]
      refine law_step (R := R_walk A (xs (4 * n + 1))) (fm := fun m => f_X6_walk m 104 (xs (4 * n + 1))) I hi (c_walk I.2.1 (xs (4 * n + 1))) (fun m H => d_walk H (xs (4 * n + 1))) (fun q => rfl) ?_
      intro k q hR
      unfold R_walk at hR
      repeat' split at hR
      all_goals first | (cases hR; done) | (cases hR; exact ⟨rfl, by decide⟩)
    rw [if_neg q7]
    by_cases q8 : (xs (4 * n) &&& 31) = 8
    · rw [if_pos q8]
      simp only [sx1, Option.bind_some]
      unfold f_L_append
      rw [z_ck0 hk]
      refine law_step (R := R_append A (xs (4 * n + 1))) (fm := fun m => f_X6_append m 104 (xs (4 * n + 1))) I hi (c_append I.2.1 (xs (4 * n + 1))) (fun m H => d_append H (xs (4 * n + 1))) (fun q => rfl) ?_
      intro k q hR
      unfold R_append at hR
      repeat' split at hR
      all_goals first | (cases hR; done) | (cases hR; exact ⟨rfl, by decide⟩)
    rw [if_neg q8]
    by_cases q9 : (xs (4 * n) &&& 31) = 9
    · rw [if_pos q9]
      rw [z_ck0 hk]
      refine law_plain (v := nI A.2.2.2.2.1) (A' := pz_tb A 0 A.2.2.2.2.2) (fm := fun m => f_X6_clearBuffer m 104) (P := fun a b h2 => if a = b then (zq_let (nI (4 * n) + 4) fun v_166 => some (.inl (v_166, h2))) else some (.inr (.inr (0 : Int32)))) I hi (c_clear I.2.1) ?_ (fun h2 => if_pos rfl)
      intro h1 H
      obtain ⟨⟨v, h2⟩, u1, u2, -, u3, u4⟩ := d_clear H
      simp only at u2 u3 u4
      subst u2
      exact ⟨h2, u1, u3, u4⟩
    rw [if_neg q9]
    by_cases q10 : (xs (4 * n) &&& 31) = 10
    · rw [if_pos q10]
      obtain ⟨⟨v, h2⟩, u1, u2, -, u3, u4⟩ := d_firstError I.2.2
      simp only at u2 u3 u4
      subst u2
      rw [z_ck0 hk, c_firstError I.2.1, Option.bind_some, z_ck hk, u1, Option.bind_some, if_pos rfl, zl_]
      exact ⟨_, rfl, hi, A, by rw [u4.1]; exact I.1, I.2.1.km u4, u3⟩
    rw [if_neg q10]
    by_cases q11 : (xs (4 * n) &&& 31) = 11
    · rw [if_pos q11]
      simp only [sx1, Option.bind_some]
      unfold f_L_read
      rw [z_ck0 hk]
      refine law_step (R := R_read A (xs (4 * n + 1))) (fm := fun m => f_X6_read m 104 (xs (4 * n + 1))) I hi (c_read I.2.1 (xs (4 * n + 1))) (fun m H => d_read H (xs (4 * n + 1))) (fun q => rfl) ?_
      intro k q hR
      unfold R_read at hR
      repeat' split at hR
      all_goals first | (cases hR; done) | (cases hR; exact ⟨rfl, by decide⟩)
    rw [if_neg q11]
    by_cases q12 : (xs (4 * n) &&& 31) = 12
    · rw [if_pos q12]
      simp only [sx1, Option.bind_some]
      unfold f_L_take
      rw [z_ck0 hk]
      refine law_step (R := R_take A (xs (4 * n + 1))) (fm := fun m => f_X6_take m 104 (xs (4 * n + 1))) I hi (c_take I.2.1 (xs (4 * n + 1))) (fun m H => d_take H (xs (4 * n + 1))) (fun q => rfl) ?_
      intro k q hR
      unfold R_take at hR
      repeat' split at hR
      all_goals first | (cases hR; done) | (cases hR; exact ⟨rfl, by decide⟩)
    rw [if_neg q12]
    by_cases q13 : (xs (4 * n) &&& 31) = 13
    · rw [if_pos q13]
      simp only [sx1, Option.bind_some]
      unfold f_L_restore
      rw [z_ck0 hk]
      refine law_step (R := R_restore A (xs (4 * n + 1))) (fm := fun m => f_X6_restore m 104 (xs (4 * n + 1))) I hi (c_restore I.2.1 (xs (4 * n + 1))) (fun m H => d_restore H (xs (4 * n + 1))) (fun q => rfl) ?_
      intro k q hR
      unfold R_restore at hR
      repeat' split at hR
      all_goals first | (cases hR; done) | (cases hR; exact ⟨rfl, by decide⟩)
    rw [if_neg q13]
    by_cases q14 : (xs (4 * n) &&& 31) = 14
    · rw [if_pos q14]
      unfold f_L_undo
      rw [z_ck0 hk]
      refine law_step (R := R_undo A ) (fm := fun m => f_X6_undo m 104 ) I hi (c_undo I.2.1 ) (fun m H => d_undo H ) (fun q => rfl) ?_
      intro k q hR
      unfold R_undo at hR
      repeat' split at hR
      all_goals first | (cases hR; done) | (cases hR; exact ⟨rfl, by decide⟩)
    rw [if_neg q14]
    by_cases q15 : (xs (4 * n) &&& 31) = 15
    · rw [if_pos q15]
      simp only [sx1, sx2, Option.bind_some]
      unfold f_L_number
      rw [z_ck0 hk]
      refine law_step (R := R_number A (xs (4 * n + 1)) (xs (4 * n + 2))) (fm := fun m => f_X6_number m 104 (xs (4 * n + 1)) (xs (4 * n + 2))) I hi (c_number I.2.1 (xs (4 * n + 1)) (xs (4 * n + 2))) (fun m H => d_number H (xs (4 * n + 1)) (xs (4 * n + 2))) (fun q => rfl) ?_
      intro k q hR
      unfold R_number at hR
      repeat' split at hR
      all_goals first | (cases hR; done) | (cases hR; exact ⟨rfl, by decide⟩)
    rw [if_neg q15]
    by_cases q16 : (xs (4 * n) &&& 31) = 16
    · rw [if_pos q16]
      simp only [sx1, sx2, Option.bind_some]
      unfold f_L_triangulation
      rw [z_ck0 hk]
      refine law_step (R := R_triangulation A (xs (4 * n + 1)) (xs (4 * n + 2))) (fm := fun m => f_X6_triangulation m 104 (xs (4 * n + 1)) (xs (4 * n + 2))) I hi (c_triangulation I.2.1 (xs (4 * n + 1)) (xs (4 * n + 2))) (fun m H => d_triangulation H (xs (4 * n + 1)) (xs (4 * n + 2))) (fun q => rfl) ?_
      intro k q hR
      unfold R_triangulation at hR
      repeat' split at hR
      all_goals first | (cases hR; done) | (cases hR; exact ⟨rfl, by decide⟩)
    rw [if_neg q16]
    by_cases q17 : (xs (4 * n) &&& 31) = 17
    · rw [if_pos q17]
      simp only [sx1, sx2, Option.bind_some]
      unfold f_L_degree
      rw [z_ck0 hk]
      refine law_step (R := R_degree A (xs (4 * n + 1)) (xs (4 * n + 2))) (fm := fun m => f_X6_degree m 104 (xs (4 * n + 1)) (xs (4 * n + 2))) I hi (c_degree I.2.1 (xs (4 * n + 1)) (xs (4 * n + 2))) (fun m H => d_degree H (xs (4 * n + 1)) (xs (4 * n + 2))) (fun q => rfl) ?_
      intro k q hR
      unfold R_degree at hR
      repeat' split at hR
      all_goals first | (cases hR; done) | (cases hR; exact ⟨rfl, by decide⟩)
    rw [if_neg q17]
    by_cases q18 : (xs (4 * n) &&& 31) = 18
    · rw [if_pos q18]
      simp only [sx1, sx2, sx3, Option.bind_some]
      unfold f_L_other
      rw [z_ck0 hk]
      refine law_step (R := R_other A (xs (4 * n + 1)) (xs (4 * n + 2)) (xs (4 * n + 3))) (fm := fun m => f_X6_other m 104 (xs (4 * n + 1)) (xs (4 * n + 2)) (xs (4 * n + 3))) I hi (c_other I.2.1 (xs (4 * n + 1)) (xs (4 * n + 2)) (xs (4 * n + 3))) (fun m H => d_other H (xs (4 * n + 1)) (xs (4 * n + 2)) (xs (4 * n + 3))) (fun q => rfl) ?_
      intro k q hR
      unfold R_other at hR
      repeat' split at hR
      all_goals first | (cases hR; done) | (cases hR; exact ⟨rfl, by decide⟩)
    rw [if_neg q18]
    by_cases q19 : (xs (4 * n) &&& 31) = 19
    · rw [if_pos q19]
      simp only [sx1, sx2, Option.bind_some]
      unfold f_L_whyNot
      rw [z_ck0 hk]
      refine law_step (R := R_whyNot A (xs (4 * n + 1)) (xs (4 * n + 2))) (fm := fun m => f_X6_whyNot m 104 (xs (4 * n + 1)) (xs (4 * n + 2))) I hi (c_whyNot I.2.1 (xs (4 * n + 1)) (xs (4 * n + 2))) (fun m H => d_whyNot H (xs (4 * n + 1)) (xs (4 * n + 2))) (fun q => rfl) ?_
      intro k q hR
      unfold R_whyNot at hR
      repeat' split at hR
      all_goals first | (cases hR; done) | (cases hR; exact ⟨rfl, by decide⟩)
    rw [if_neg q19]
    by_cases q20 : (xs (4 * n) &&& 31) = 20
    · rw [if_pos q20]
      simp only [sx1, Option.bind_some]
      unfold f_L_distance
      rw [z_ck0 hk]
      refine law_step (R := R_distance A (xs (4 * n + 1))) (fm := fun m => f_X6_distance m 104 (xs (4 * n + 1))) I hi (c_distance I.2.1 (xs (4 * n + 1))) (fun m H => d_distance H (xs (4 * n + 1))) (fun q => rfl) ?_
      intro k q hR
      unfold R_distance at hR
      repeat' split at hR
      all_goals first | (cases hR; done) | (cases hR; exact ⟨rfl, by decide⟩)
    rw [if_neg q20]
    by_cases q21 : (xs (4 * n) &&& 31) = 21
    · rw [if_pos q21]
      simp only [sx1, sx2, Option.bind_some]
      unfold f_L_ifFlipped
      rw [z_ck0 hk]
      refine law_step (R := R_ifFlipped A (xs (4 * n + 1)) (xs (4 * n + 2))) (fm := fun m => f_X6_ifFlipped m 104 (xs (4 * n + 1)) (xs (4 * n + 2))) I hi (c_ifFlipped I.2.1 (xs (4 * n + 1)) (xs (4 * n + 2))) (fun m H => d_ifFlipped H (xs (4 * n + 1)) (xs (4 * n + 2))) (fun q => rfl) ?_
      intro k q hR
      unfold R_ifFlipped at hR
      repeat' split at hR
      all_goals first | (cases hR; done) | (cases hR; exact ⟨rfl, by decide⟩)
    rw [if_neg q21]
    by_cases q22 : (xs (4 * n) &&& 31) = 22
    · rw [if_pos q22]
      simp only [sx1, Option.bind_some]
      unfold f_L_count
      rw [z_ck0 hk]
      refine law_step (R := R_count A (xs (4 * n + 1))) (fm := fun m => f_X6_count m 104 (xs (4 * n + 1))) I hi (c_count I.2.1 (xs (4 * n + 1))) (fun m H => d_count H (xs (4 * n + 1))) (fun q => rfl) ?_
      intro k q hR
      unfold R_count at hR
      repeat' split at hR
      all_goals first | (cases hR; done) | (cases hR; exact ⟨rfl, by decide⟩)
    rw [if_neg q22]
    by_cases q23 : (xs (4 * n) &&& 31) = 23
    · rw [if_pos q23]
      rw [z_ck0 hk]
      refine law_plain (v := pz_sh A.1.1 (pz_dv A.1.1 A.1.2.1 A.1.2.2.1)) (A' := A) (fm := fun m => f_X6_farShare m 104) (P := fun a b h2 => (if (Op.cmpValue (FP.dcmp a b) .l) = 0 then (zq_let (nI (4 * n) + 4) fun v_614 => some (.inl (v_614, h2))) else (if (Op.cmpValue (FP.dcmp a a) .l) = 0 then some (.inr (.inr (0 : Int32))) else (if (Op.cmpValue (FP.dcmp b b) .l) = 0 then some (.inr (.inr (0 : Int32))) else (zq_let (nI (4 * n) + 4) fun v_618 => some (.inl (v_618, h2))))))) I hi (c_farShare I.2.1) ?_ ?_
      · intro h1 H
        obtain ⟨h2, u1, -, u2, u3⟩ := d_farShare H
        exact ⟨h2, u1, u2, u3⟩
      · intro h2
        generalize Op.cmpValue (FP.dcmp (pz_sh A.1.1 (pz_dv A.1.1 A.1.2.1 A.1.2.2.1)) (pz_sh A.1.1 (pz_dv A.1.1 A.1.2.1 A.1.2.2.1))) .l = w
        by_cases qw : w = 0
        · rw [if_pos qw]; rfl
        · rw [if_neg qw, if_neg qw, if_neg qw]; rfl
    rw [if_neg q23]
    by_cases q24 : (xs (4 * n) &&& 31) = 24
    · rw [if_pos q24]
      rw [z_ck0 hk]
      refine law_plain (v := pz_dg2 A) (A' := A) (fm := fun m => f_X6_digest m 104) (P := fun a b h2 => (if (lg_cmp a b) = 0 then (zq_let (nI (4 * n) + 4) fun v_628 => some (.inl (v_628, h2))) else some (.inr (.inr (0 : Int32))))) I hi (c_digest I.2.1) ?_ (fun h2 => if_pos (z_cmp _))
      intro h1 H
      obtain ⟨h2, u1, -, u2, u3⟩ := d_digest H
      exact ⟨h2, u1, u2, u3⟩
    rw [if_neg q24]
    rw [zl_]
    exact ⟨_, rfl, hi, A, I⟩
  · rintro ⟨x, k⟩ ⟨e1, A, I⟩
    simp only at e1 I
    subst e1
    dsimp only
    exact ⟨_, if_pos (z_end hL), k, rfl⟩
end PZL2
