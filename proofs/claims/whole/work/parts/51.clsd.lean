/-! the class' next flip -/
section PZC4
variable {h h' : zq_H} {b tl sn : Nat} {tx : Nat → Nat} {n : pz_5} {sv : Nat → pz_5} {sp : Nat → Option pz_5}
theorem s_nextFlip (B : pz_CB h b tl tx) (S : pz_CS h b n sn sv sp) : ∃ h', f_X5_nextFlip h 0 = some (nI (pz_nf n.1 n.2.2.2.1 n.2.1 n.2.2.1), h') ∧ pz_la h h' ∧ pz_CB h' b tl tx := by
  have hg := S.2.1.T.1
  have hP := S.2.1.T.2.1
  have hG := S.2.1.T.2.2.1
  have hK := S.2.1.T.2.2.2
  have hP27 := pz_T_27 hg hP
  have hG27 := pz_T_27 hg hG
  have hK27 := S.2.1.K
  have hnd := pz_nd_le hg
  unfold f_X5_nextFlip
  rw [cq_ck B.1, s_hasDistance B.1 S.1 S.2.1, Option.bind_some]
  by_cases q : n.2.2.2.1 &&& n.2.2.1 = n.2.2.2.1
  · obtain ⟨k, h', hk, e1, e2, e3, M, sl, e4, e5, e6, e7⟩ := s_reachWithLocks B S q
    have S' := pz_la.S e2 S
    obtain ⟨P, p0⟩ := e3.p S.2.1
    rw [if_neg (by simp [q]), cq_ck B.1, e1, Option.bind_some, cq_1 e3.1, Option.bind_some, aq_1 e3.1 S'.1, Option.bind_some, rk_ck e3.1 hk, s_flipsTo e4 e5 e6 e7 hP, Option.bind_some, pz_ds_sym hg hG27 hP27]
    simp only [zq_let]
    cases hds : pz_ds n.1 n.2.2.2.1 n.2.1 n.2.2.1 with
    | none =>
      rw [if_neg (show ¬ (0 : Int32) ≤ pz_cd none - 1 by decide), pz_nf_X (Or.inl hds)]
      exact ⟨h', rfl, e2, e3⟩
    | some k0 =>
      cases k0 with
      | zero =>
        rw [if_neg (show ¬ (0 : Int32) ≤ pz_cd (some 0) - 1 by decide), pz_nf_X (Or.inr hds)]
        exact ⟨h', rfl, e2, e3⟩
      | succ c =>
        have hcl := pz_ds_lt hg hP hG27 hds
        have hcd : pz_cd (some (c + 1)) = nI (c + 1) := rfl
        rw [hcd, nI_pred, if_pos (nI_pos' (by omega)), pz_nf_s hds]
        simp only [cq_1 e3.1, Option.bind_some, aq_0 e3.1 S'.1, p0, aq_1 e3.1 S'.1, aq_3 e3.1 S'.1, pq_1 P, rk_ck e3.1 hk, pq_ck P]
        have hx : n.2.2.2.1 ^^^ 4294967295 < 4294967296 := Nat.xor_lt_two_pow (n := 32) (by omega) (by omega)
        have hopen : n.2.1 &&& (n.2.2.2.1 ^^^ 4294967295) < 134217728 := Nat.lt_of_le_of_lt Nat.and_le_left hP27
        rw [pz_not (by omega), pz_and (by omega) hx]
        have hbit : ∀ d, d < 27 → (n.2.1 &&& (n.2.2.2.1 ^^^ 4294967295)).testBit d = (n.2.1.testBit d && !(n.2.2.2.1.testBit d)) := by
          intro d hd
          have h2 : ∀ i, i < 27 → (4294967295 : Nat).testBit i = true := by decide
          rw [Nat.testBit_and, Nat.testBit_xor, h2 d hd]
          cases n.2.2.2.1.testBit d <;> rfl
        generalize hp : (fun d => n.2.1.testBit d && !(n.2.2.2.1.testBit d) && decide (pz_ds n.1 n.2.2.2.1 (pz_fl n.1 n.2.1 d) n.2.2.1 = some c)) = p
        have hnf : pz_nfi n.1 n.2.2.2.1 n.2.1 n.2.2.1 c = pz_ff p (pz_nd n.1) 0 := by rw [← hp]; rfl
        rw [hnf]
        have hle := pz_ff_le p (pz_nd n.1) 0
        have flt : ∀ d, n.2.1.testBit d = true → f_X2_flipsTo h' (87 + 4 * k) (nI (pz_fl n.1 n.2.1 d)) = some (pz_cd (pz_ds n.1 n.2.2.2.1 (pz_fl n.1 n.2.1 d) n.2.2.1)) := by
          intro d hd
          obtain ⟨-, -, -, hfT, -⟩ := pz_flip hg hP hd
          rw [s_flipsTo e4 e5 e6 e7 hfT, pz_ds_sym hg hG27 (pz_T_27 hg hfT)]
        refine pz_pair (pz_lpIB (fun i s => s = nI i) (pz_ff p (pz_nd n.1) 0) (fun r => r = if pz_ff p (pz_nd n.1) 0 < pz_nd n.1 then Sum.inr (nI (pz_ff p (pz_nd n.1) 0), h') else Sum.inl ()) ?_ rfl ?_ ?_ (by omega))
        · rintro r rfl
          by_cases hlt : pz_ff p (pz_nd n.1) 0 < pz_nd n.1
          · rw [if_pos hlt, if_pos hlt]
            exact ⟨_, rfl, h', rfl, e2, e3⟩
          · rw [if_neg hlt, if_neg hlt]
            exact ⟨_, rfl, h', rfl, e2, e3⟩
        · intro i s hi hs
          subst hs
          have hno := pz_ff_no p (pz_nd n.1) 0 i (by omega) hi
          have hno3 : ¬ (n.2.1.testBit i = true ∧ n.2.2.2.1.testBit i = false ∧ pz_ds n.1 n.2.2.2.1 (pz_fl n.1 n.2.1 i) n.2.2.1 = some c) := by
            rintro ⟨a1, a2, a3⟩
            have : p i = true := by
              rw [← hp]
              show (n.2.1.testBit i && !(n.2.2.2.1.testBit i) && decide (pz_ds n.1 n.2.2.2.1 (pz_fl n.1 n.2.1 i) n.2.2.1 = some c)) = true
              rw [a1, a2, decide_eq_true a3]
              rfl
            rw [hno] at this
            cases this
          rw [if_neg (nI_ge (show i < pz_nd n.1 by omega) (by omega)), s_isIn (by omega) (by omega), Option.bind_some, hbit i (by omega)]
          cases h1 : n.2.1.testBit i with
          | false =>
            rw [Bool.false_and, if_pos rfl]
            exact ⟨_, rfl, nI_1 i⟩
          | true =>
            cases h2 : n.2.2.2.1.testBit i with
            | true =>
              rw [Bool.not_true, Bool.and_false, if_pos rfl]
              exact ⟨_, rfl, nI_1 i⟩
            | false =>
              obtain ⟨-, -, -, hfT, -⟩ := pz_flip hg hP h1
              have hne : ¬ pz_cd (pz_ds n.1 n.2.2.2.1 (pz_fl n.1 n.2.1 i) n.2.2.1) = nI c := by
                rw [pz_cd_eq (fun j hj => pz_ds_lt hg hfT hG27 hj) (by omega)]
                exact fun e => hno3 ⟨h1, h2, e⟩
              rw [Bool.not_false, Bool.and_true, if_neg (show ¬ true = false by simp), s_flipped P hP h1, Option.bind_some, flt i h1, Option.bind_some, if_neg hne]
              exact ⟨_, rfl, nI_1 i⟩
        · rintro s rfl
          by_cases hlt : pz_ff p (pz_nd n.1) 0 < pz_nd n.1
          · have hyes := pz_ff_yes p (pz_nd n.1) 0 (by omega)
            rw [if_pos hlt]
            generalize pz_ff p (pz_nd n.1) 0 = i at hyes hlt hle ⊢
            rw [← hp] at hyes
            simp only [Bool.and_eq_true, Bool.not_eq_true', decide_eq_true_eq] at hyes
            obtain ⟨⟨hb1, hb2⟩, hd⟩ := hyes
            rw [if_neg (nI_ge hlt (by omega)), s_isIn (by omega) (by omega), Option.bind_some, hbit i (by omega), hb1, hb2, if_neg (by simp), s_flipped P hP hb1, Option.bind_some, flt i hb1, Option.bind_some, hd, if_pos (show pz_cd (some c) = nI c from rfl)]
            exact ⟨_, rfl, rfl⟩
          · rw [if_pos (nI_le (by omega) (by omega)), if_neg hlt]
            exact ⟨_, rfl, rfl⟩
  · rw [if_pos (by simp [q]), pz_nf_X (Or.inl (pz_no_dist S.2.1 q))]
    exact ⟨h, rfl, pz_ag.rf, B⟩
end PZC4
