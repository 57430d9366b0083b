/-! the class' looks at distances -/
section PZC2
variable {h h' : zq_H} {b tl sn : Nat} {tx : Nat → Nat} {n : pz_5} {sv : Nat → pz_5} {sp : Nat → Option pz_5}
/-- a Reach that has been measured -/
theorem s_meas (B : pz_CB h b tl tx) {g k s K : Nat} (hg : g < b) (hg6 : g < 6) (hk : k < 4) (hs : pz_T g s) (hK : K &&& s = K) : ∃ h', f_X2_measure h (87 + 4 * k) (2 + 12 * g) (nI s) (nI K) = some h' ∧ pz_la h h' ∧ pz_CB h' b tl tx ∧ ∃ M sl, pz_Gs h' (2 + 12 * g) g ∧ pz_Gb h' (2 + 12 * g) g M sl ∧ pz_Rs h' (87 + 4 * k) ∧ pz_Rm h' (87 + 4 * k) (2 + 12 * g) g M K s := by
  obtain ⟨C, Cg, Cr, Ct⟩ := B
  obtain ⟨G, G2, -⟩ := Cg g hg6
  obtain ⟨M, sl, Gb⟩ := G2 hg
  obtain ⟨R, Rc⟩ := Cr k hk
  obtain ⟨h', e1, e2, e3, e4⟩ := s_measure G Gb R Rc rfl (by omega) hs hK
  have l : pz_la h h' := e2.mono (fun a ha => by omega)
  have Gb' := Gb.ag e2 (fun i hi => by omega)
  refine ⟨h', e1, l, ⟨C.r l.1 (fun a j ha => l.r (by omega) j), Cg.ag l (fun a h1 h2 => by omega), fun k' hk' => ?_, Ct.ag l (by omega)⟩, M, sl, G.ag e2 (fun i hi => by omega), Gb', e3, e4⟩
  by_cases q : k' = k
  · subst q
    exact ⟨e3, e4.c Gb' hg6 rfl hs hK⟩
  · exact ⟨(Cr k' hk').1.ag e2 (by omega), (Cr k' hk').2.ag e2 (fun i hi => by omega) (fun a h1 h2 => by omega)⟩
theorem pz_la.S (l : pz_la h h') (S : pz_CS h b n sn sv sp) : pz_CS h' b n sn sv sp := S.ag l ⟨Or.inl (by omega), fun a h1 h2 => Or.inl (by omega)⟩
theorem pz_la.tr {a b c : zq_H} (h1 : pz_la a b) (h2 : pz_la b c) : pz_la a c := pz_ag.tr h1 h2
theorem rk_ck {α : Type} {k : Unit → Option α} (C : pz_Ca h) {j : Nat} (hj : j < 4) : zq_ck h (87 + 4 * j) 2 k = k () := by
  match j, hj with
  | 0, _ => exact pz_ck (by have := C.1; omega) rfl
  | 1, _ => exact pz_ck (by have := C.1; omega) rfl
  | 2, _ => exact pz_ck (by have := C.1; omega) rfl
  | 3, _ => exact pz_ck (by have := C.1; omega) rfl
theorem s_reachFrom (B : pz_CB h b tl tx) (S : pz_CS h b n sn sv sp) {w : Nat} (hw : w < 2) : ∃ h', f_X5_reachFrom h 0 (nI w) = some (87 + 4 * w, h') ∧ pz_la h h' ∧ pz_CB h' b tl tx ∧ ∃ M sl, pz_Gs h' (2 + 12 * n.1) n.1 ∧ pz_Gb h' (2 + 12 * n.1) n.1 M sl ∧ pz_Rs h' (87 + 4 * w) ∧ pz_Rm h' (87 + 4 * w) (2 + 12 * n.1) n.1 M 0 (pz_w n w) := by
  obtain ⟨h', e1, e2⟩ := s_meas B (k := w) (s := pz_w n w) (K := 0) S.2.1.1 S.2.1.T.1 (by omega) (pz_w_T S.2.1 w) (by simp)
  refine ⟨h', ?_, e2⟩
  have e1 : f_X2_measure h (87 + 4 * w) (2 + 12 * n.1) (nI (pz_w n w)) 0 = some h' := e1
  unfold f_X5_reachFrom
  match w, hw with
  | 0, _ =>
    rw [if_pos (show nI 0 = 0 from rfl), cq_6 B.1, Option.bind_some, cq_1 B.1, Option.bind_some, aq_0 B.1 S.1, Option.bind_some, Option.bind_some, aq_ck B.1, s_mask B.1 S.1 (w := 0) (by omega), Option.bind_some, rk_ck B.1 (j := 0) (by omega), e1]
    rfl
  | 1, _ =>
    rw [if_neg (show ¬ nI 1 = 0 by decide), cq_7 B.1, Option.bind_some, cq_1 B.1, Option.bind_some, aq_0 B.1 S.1, Option.bind_some, Option.bind_some, aq_ck B.1, s_mask B.1 S.1 (w := 1) (by omega), Option.bind_some, rk_ck B.1 (j := 1) (by omega), e1]
    rfl
theorem s_reachWithLocks (B : pz_CB h b tl tx) (S : pz_CS h b n sn sv sp) (hK : n.2.2.2.1 &&& n.2.2.1 = n.2.2.2.1) : ∃ k h', k < 4 ∧ f_X5_reachWithLocks h 0 = some (87 + 4 * k, h') ∧ pz_la h h' ∧ pz_CB h' b tl tx ∧ ∃ M sl, pz_Gs h' (2 + 12 * n.1) n.1 ∧ pz_Gb h' (2 + 12 * n.1) n.1 M sl ∧ pz_Rs h' (87 + 4 * k) ∧ pz_Rm h' (87 + 4 * k) (2 + 12 * n.1) n.1 M n.2.2.2.1 n.2.2.1 := by
  have k2 := S.2.1.K
  unfold f_X5_reachWithLocks
  simp only [cq_1 B.1, Option.bind_some, aq_3 B.1 S.1, aq_0 B.1 S.1, aq_2 B.1 S.1, cq_7 B.1, cq_8 B.1]
  by_cases q : nI n.2.2.2.1 = 0
  · obtain ⟨h', e1, e2⟩ := s_meas B (k := 1) (s := n.2.2.1) (K := n.2.2.2.1) S.2.1.1 S.2.1.T.1 (by omega) S.2.1.T.2.2.1 hK
    have e1 : f_X2_measure h 91 (2 + 12 * n.1) (nI n.2.2.1) (nI n.2.2.2.1) = some h' := e1
    refine ⟨1, h', by omega, ?_, e2⟩
    rw [if_pos q, rk_ck B.1 (j := 1) (by omega), e1]
    rfl
  · obtain ⟨h', e1, e2⟩ := s_meas B (k := 2) (s := n.2.2.1) (K := n.2.2.2.1) S.2.1.1 S.2.1.T.1 (by omega) S.2.1.T.2.2.1 hK
    have e1 : f_X2_measure h 95 (2 + 12 * n.1) (nI n.2.2.1) (nI n.2.2.2.1) = some h' := e1
    refine ⟨2, h', by omega, ?_, e2⟩
    rw [if_neg q, rk_ck B.1 (j := 2) (by omega), e1]
    rfl
theorem s_hasDistance (C : pz_Ca h) (A : pz_At h 74 n) (V : pz_V b n) : f_X5_hasDistance h 0 = some (decide (n.2.2.2.1 &&& n.2.2.1 = n.2.2.2.1)) := by
  have k2 := V.K
  have k1 := pz_T_27 V.T.1 V.T.2.2.1
  have hx : n.2.2.1 ^^^ 4294967295 < 4294967296 := Nat.xor_lt_two_pow (n := 32) (by omega) (by omega)
  unfold f_X5_hasDistance
  simp only [cq_1 C, Option.bind_some, aq_3 C A, aq_2 C A]
  rw [pz_not (by omega), pz_and (by omega) hx]
  have e : (nI (n.2.2.2.1 &&& (n.2.2.1 ^^^ 4294967295)) = 0) = (n.2.2.2.1 &&& n.2.2.1 = n.2.2.2.1) := by
    rw [show (0 : Int32) = nI 0 from rfl, pz_eq (Nat.lt_of_le_of_lt Nat.and_le_left (by omega)) (by omega)]
    apply propext
    constructor
    · intro q
      refine pz_bit_sub (fun i hi => ?_)
      have h1 := congrArg (fun x => x.testBit i) q
      simp only [Nat.testBit_and, Nat.testBit_xor, hi, Nat.zero_testBit, Bool.true_and] at h1
      have h2 : (4294967295 : Nat).testBit i = true := by
        have hi27 := pz_bit_lt (n := 27) (by omega) hi
        have : ∀ i, i < 27 → (4294967295 : Nat).testBit i = true := by decide
        exact this i hi27
      rw [h2] at h1
      simpa using h1
    · intro q
      apply Nat.eq_of_testBit_eq
      intro i
      rw [Nat.testBit_and, Nat.testBit_xor, Nat.zero_testBit]
      cases hi : n.2.2.2.1.testBit i with
      | false => rfl
      | true =>
        have hi27 := pz_bit_lt (n := 27) (by omega) hi
        have h2 : ∀ i, i < 27 → (4294967295 : Nat).testBit i = true := by decide
        rw [pz_sub_bit q hi, h2 i hi27]
        rfl
  simp only [e]
  by_cases q : n.2.2.2.1 &&& n.2.2.1 = n.2.2.2.1
  · rw [if_pos q]; simp [q]
  · rw [if_neg q]; simp [q]
end PZC2
