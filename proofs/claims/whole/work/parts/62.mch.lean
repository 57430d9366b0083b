/-! the reference's calls: changes -/
section PZMC
variable {h : zq_H} {A : pz_A}
theorem mq_z4 (R : pz_Ms h) : zq_ai h 105 4 = some (pz_i h 105 4) := mq_z R (k := 4) (by omega)
theorem z5_put {n : pz_5} (S : pz_5r h 105 0 n) {w : Nat} (hw : w < 2) (m : Nat) : pz_5r (pz_S h 105 (1 + w) (nI m)) 105 0 (pz_pu n w m) := by
  obtain ⟨s0, s1, s2, s3, s4⟩ := S
  match w, hw with
  | 0, _ => exact ⟨by rw [pz_S_i, if_neg (by omega)]; exact s0, by rw [pz_S_i, if_pos ⟨rfl, rfl⟩]; rfl, by rw [pz_S_i, if_neg (by omega)]; exact s2, by rw [pz_S_i, if_neg (by omega)]; exact s3, by rw [pz_S_i, if_neg (by omega)]; exact s4⟩
  | 1, _ => exact ⟨by rw [pz_S_i, if_neg (by omega)]; exact s0, by rw [pz_S_i, if_neg (by omega)]; exact s1, by rw [pz_S_i, if_pos ⟨rfl, rfl⟩]; rfl, by rw [pz_S_i, if_neg (by omega)]; exact s3, by rw [pz_S_i, if_neg (by omega)]; exact s4⟩
theorem z5_k {n : pz_5} (S : pz_5r h 105 0 n) (K : Nat) : pz_5r (pz_S h 105 3 (nI K)) 105 0 (n.1, n.2.1, n.2.2.1, K, n.2.2.2.2) := by
  obtain ⟨s0, s1, s2, s3, s4⟩ := S
  exact ⟨by rw [pz_S_i, if_neg (by omega)]; exact s0, by rw [pz_S_i, if_neg (by omega)]; exact s1, by rw [pz_S_i, if_neg (by omega)]; exact s2, by rw [pz_S_i, if_pos ⟨rfl, rfl⟩], by rw [pz_S_i, if_neg (by omega)]; exact s4⟩
theorem z5_f {n : pz_5} (S : pz_5r h 105 0 n) (F : Int32) : pz_5r (pz_S h 105 4 F) 105 0 (n.1, n.2.1, n.2.2.1, n.2.2.2.1, F) := by
  obtain ⟨s0, s1, s2, s3, s4⟩ := S
  exact ⟨by rw [pz_S_i, if_neg (by omega)]; exact s0, by rw [pz_S_i, if_neg (by omega)]; exact s1, by rw [pz_S_i, if_neg (by omega)]; exact s2, by rw [pz_S_i, if_neg (by omega)]; exact s3, by rw [pz_S_i, if_pos ⟨rfl, rfl⟩]⟩
theorem m_1w {w : Nat} : (1 : Int32) + nI w = nI (1 + w) := nI_add 1 w
theorem mz_sw (R : pz_Ms h) {w : Nat} (hw : w < 2) (v : Int32) : zq_si h 105 (1 + nI w) v = some (pz_S h 105 (1 + w) v) := by
  rw [m_1w]
  exact mz_s R (by omega) v
theorem mz_s3 (R : pz_Ms h) (v : Int32) : zq_si h 105 3 v = some (pz_S h 105 3 v) := mz_s R (k := 3) (by omega) v
theorem mz_s4 (R : pz_Ms h) (v : Int32) : zq_si h 105 4 v = some (pz_S h 105 4 v) := mz_s R (k := 4) (by omega) v
theorem mz_s1 (R : pz_Ms h) (v : Int32) : zq_si h 105 1 v = some (pz_S h 105 1 v) := mz_s R (k := 1) (by omega) v
theorem mz_s2 (R : pz_Ms h) (v : Int32) : zq_si h 105 2 v = some (pz_S h 105 2 v) := mz_s R (k := 2) (by omega) v
theorem mz_s0 (R : pz_Ms h) (v : Int32) : zq_si h 105 0 v = some (pz_S h 105 0 v) := mz_s R (k := 0) (by omega) v
/-- a call's first steps: nothing is thrown, all is saved -/
theorem m_begin0 (H : pz_M h A) : ∃ k, f_X6_save (pz_S h 104 7 0) 104 = some k ∧ pz_M k (pz_sa A A.1) ∧ pz_km h k ∧ pz_i k 104 7 = 0 := by
  obtain ⟨k, e1, e2, e3, e4⟩ := m_save H.z0
  exact ⟨k, e1, e2, pz_km0.tr e3, by rw [e4]; exact pz_i70⟩
/-- and its end -/
theorem m_fin {cd : Nat → Int32} {k k' : zq_H} {v : Int32} {n' : pz_5} (Hk : pz_M k (pz_sa A A.1)) (km : pz_km h k) (k7 : pz_i k 104 7 = 0) (l : pz_mz k k') (h5 : pz_5r k' 105 0 n') (V : pz_V 6 n') (hg : n'.1 = A.1.1) : pz_om cd h A (.inl (v, pz_sa A n')) (v, k') := by
  have H' := l.M Hk h5 V hg
  exact ⟨rfl, by show pz_i k' 104 7 = 0; rw [l.2.2 104 7 (by omega)]; exact k7, H', km.tr l.km⟩
theorem z5_a {k : zq_H} {n : pz_5} (S : pz_5r k 105 0 n) (m K : Nat) : pz_5r (pz_S (pz_S k 105 1 (nI m)) 105 3 (nI K)) 105 0 (n.1, m, n.2.2.1, K, n.2.2.2.2) := by
  obtain ⟨s0, s1, s2, s3, s4⟩ := S
  refine ⟨?_, ?_, ?_, ?_, ?_⟩
  · rw [pz_S_i, if_neg (by omega), pz_S_i, if_neg (by omega)]; exact s0
  · rw [pz_S_i, if_neg (by omega), pz_S_i, if_pos ⟨rfl, rfl⟩]
  · rw [pz_S_i, if_neg (by omega), pz_S_i, if_neg (by omega)]; exact s2
  · rw [pz_S_i, if_pos ⟨rfl, rfl⟩]
  · rw [pz_S_i, if_neg (by omega), pz_S_i, if_neg (by omega)]; exact s4
theorem z5_b {k : zq_H} {n : pz_5} (S : pz_5r k 105 0 n) (m K : Nat) : pz_5r (pz_S (pz_S k 105 2 (nI m)) 105 3 (nI K)) 105 0 (n.1, n.2.1, m, K, n.2.2.2.2) := by
  obtain ⟨s0, s1, s2, s3, s4⟩ := S
  refine ⟨?_, ?_, ?_, ?_, ?_⟩
  · rw [pz_S_i, if_neg (by omega), pz_S_i, if_neg (by omega)]; exact s0
  · rw [pz_S_i, if_neg (by omega), pz_S_i, if_neg (by omega)]; exact s1
  · rw [pz_S_i, if_neg (by omega), pz_S_i, if_pos ⟨rfl, rfl⟩]
  · rw [pz_S_i, if_pos ⟨rfl, rfl⟩]
  · rw [pz_S_i, if_neg (by omega), pz_S_i, if_neg (by omega)]; exact s4
theorem d_exchange (H : pz_M h A) : ∃ v h', f_X6_exchange h 104 = some (v, h') ∧ R_exchange A = .inl (v, pz_sa A (A.1.1, A.1.2.2.1, A.1.2.1, 0, A.1.2.2.2.2)) ∧ pz_i h' 104 7 = 0 ∧ pz_M h' (pz_sa A (A.1.1, A.1.2.2.1, A.1.2.1, 0, A.1.2.2.2.2)) ∧ pz_km h h' := by
  obtain ⟨k, e1, e2, e3, e4⟩ := m_begin0 H
  have R := e2.1
  have V := H.V
  have R1 : pz_Ms (pz_S k 105 1 (nI A.1.2.2.1)) := R
  have R2 : pz_Ms (pz_S (pz_S k 105 1 (nI A.1.2.2.1)) 105 2 (nI A.1.2.1)) := R
  have R3 : pz_Ms (pz_S (pz_S (pz_S k 105 1 (nI A.1.2.2.1)) 105 2 (nI A.1.2.1)) 105 3 (nI 0)) := R
  have l : pz_mz k (pz_S (pz_S (pz_S k 105 1 (nI A.1.2.2.1)) 105 2 (nI A.1.2.1)) 105 3 (nI 0)) := (pz_mz.S.tr pz_mz.S).tr pz_mz.S
  have h5 := z5_k (z5_put (z5_put e2.2.2.1.1 (w := 0) (by omega) A.1.2.2.1) (w := 1) (by omega) A.1.2.1) 0
  have V' : pz_V 6 (A.1.1, A.1.2.2.1, A.1.2.1, 0, A.1.2.2.2.2) := ⟨V.1, V.2.1, V.2.2.2.1, V.2.2.1, Nat.zero_and _⟩
  refine ⟨_, _, ?_, rfl, ?_, l.M e2 h5 V' rfl, e3.tr l.km⟩
  · have a1 : zq_ai k 105 1 = some (nI A.1.2.1) := mz_a1 (A := pz_sa A A.1) e2
    have a2 : zq_ai k 105 2 = some (nI A.1.2.2.1) := mz_a2 (A := pz_sa A A.1) e2
    unfold f_X6_exchange
    rw [mq_p H.1, Option.bind_some, mq_ck H.z0.1, e1, Option.bind_some, mq_0 R, Option.bind_some, a1, Option.bind_some, Option.bind_some, Option.bind_some, a2, Option.bind_some, mz_s1 R, Option.bind_some, mq_0 R1, Option.bind_some, mz_s2 R1, Option.bind_some, mq_0 R2, Option.bind_some, show (0 : Int32) = nI 0 from rfl, mz_s3 R2, Option.bind_some, mq_0 R3, Option.bind_some, mq_z1 R3, Option.bind_some, pz_S_i, if_neg (by omega), pz_S_i, if_neg (by omega), pz_S_i, if_pos ⟨rfl, rfl⟩]
  · rw [l.2.2 104 7 (by omega)]; exact e4
theorem m_lay {n : pz_5} (R : pz_Ms h) (S : pz_5r h 105 0 n) {w : Nat} (hw : w < 2) (m : Nat) : ∃ h', f_X6_lay h 104 (nI w) (nI m) = some h' ∧ pz_mz h h' ∧ pz_5r h' 105 0 (pz_pn n w m) := by
  have R1 : pz_Ms (pz_S h 105 (1 + w) (nI m)) := R
  have S1 := z5_put S hw m
  unfold f_X6_lay
  rw [mq_0 R, Option.bind_some, mz_sw R hw, Option.bind_some, mq_0 R1, Option.bind_some]
  match w, hw with
  | 0, _ =>
    rw [if_pos (show nI 0 = 0 from rfl), show (0 : Int32) = nI 0 from rfl, mz_s3 R1, Option.bind_some]
    exact ⟨_, rfl, pz_mz.S.tr pz_mz.S, z5_k S1 0⟩
  | 1, _ =>
    rw [if_neg (show ¬ nI 1 = 0 by decide), Option.bind_some, mq_z3 R1, Option.bind_some, mz_s3 R1, Option.bind_some]
    have e : pz_i (pz_S h 105 (1 + 1) (nI m)) 105 3 = nI n.2.2.2.1 := S1.2.2.2.1
    rw [e]
    exact ⟨_, rfl, pz_mz.S.tr pz_mz.S, z5_k S1 n.2.2.2.1⟩
theorem d_fan (H : pz_M h A) (x c : Int32) : ∃ o, f_X6_fan h 104 x c = some o ∧ pz_om cdA h A (R_fan A x c) o := by
  have hg := H.V.T.1
  unfold f_X6_fan R_fan
  rw [m_isWhich, Option.bind_some]
  cases h1 : pz_inb 2 x with
  | false =>
    rw [if_pos (show false = false from rfl), if_neg (fun r => by have := r.1; simp at this), mq_p H.1, Option.bind_some]
    exact ⟨_, rfl, pz_om.t H rfl⟩
  | true =>
    obtain ⟨w, hw, rfl⟩ := pz_inb_of (by omega) h1
    rw [if_neg (show ¬ (true = false) by simp), mq_ck H.1, m_isCorner H, Option.bind_some]
    cases h2 : pz_inb (A.1.1 + 4) c with
    | false =>
      rw [if_pos (show false = false from rfl), if_neg (fun r => by have := r.2; simp at this), mq_p H.1, Option.bind_some]
      exact ⟨_, rfl, pz_om.t H rfl⟩
    | true =>
      obtain ⟨a, ha, rfl⟩ := pz_inb_of (by omega) h2
      obtain ⟨k, e1, e2, e3, e4⟩ := m_begin0 H
      have hT := pz_w_T H.V w
      have h27 := pz_T_27 hg hT
      obtain ⟨k', f1, f2, f3⟩ := m_lay e2.1 e2.2.2.1.1 hw (pz_fn A.1.1 a)
      have hfan : f_X6_fanOf k 104 (nI a) = some (nI (pz_fn A.1.1 a)) := m_fanOf e2.1 e2.d ha
      have hw' : zq_ai k 105 (1 + nI w) = some (nI (pz_w A.1 w)) := mz_w (A := pz_sa A A.1) e2 hw
      rw [if_neg (show ¬ (true = false) by simp), if_pos ⟨rfl, rfl⟩, nI_clamp (by omega), nI_clamp (by omega), mq_p H.1, Option.bind_some, mq_ck H.z0.1, e1, Option.bind_some, mq_0 e2.1, Option.bind_some, hw', Option.bind_some, mq_ck e2.1, hfan, Option.bind_some, pz_and (by omega) (pz_fn_lt _ _), s_ones (Nat.lt_of_le_of_lt Nat.and_le_left (by omega)), Option.bind_some, mq_ck e2.1, Option.bind_some, mq_ck e2.1, f1, Option.bind_some]
      refine ⟨_, rfl, m_fin e2 e3 e4 f2 f3 (pz_pn_V H.V w (pz_fan hg ha)) ?_⟩
      unfold pz_pn
      split <;> rfl
theorem d_turn (H : pz_M h A) (x y : Int32) : ∃ o, f_X6_turn h 104 x y = some o ∧ pz_om cdA h A (R_turn A x y) o := by
  have hg := H.V.T.1
  unfold f_X6_turn R_turn
  rw [m_isWhich, Option.bind_some]
  cases h1 : pz_inb 2 x with
  | false =>
    rw [if_pos (show false = false from rfl), if_neg (show ¬ (false = true) by simp), mq_p H.1, Option.bind_some]
    exact ⟨_, rfl, pz_om.t H rfl⟩
  | true =>
    obtain ⟨w, hw, rfl⟩ := pz_inb_of (by omega) h1
    rw [if_neg (show ¬ (true = false) by simp), if_pos (show true = true from rfl), show (8 : Int32) = nI 9 - 1 by decide, pz_inbw 9 (by omega) (by omega), Option.bind_some]
    cases h2 : pz_inb 9 y with
    | false =>
      rw [if_pos (show false = false from rfl), if_neg (show ¬ (false = true) by simp), mq_p H.1, Option.bind_some]
      exact ⟨_, rfl, pz_om.t H rfl⟩
    | true =>
      obtain ⟨a, ha, rfl⟩ := pz_inb_of (by omega) h2
      obtain ⟨k, e1, e2, e3, e4⟩ := m_begin0 H
      have hT := pz_w_T H.V w
      have hK := H.V.nc.1
      have R1 : pz_Ms (pz_S k 105 (1 + w) (nI (pz_tk A.1.1 (pz_w A.1 w) a))) := e2.1
      have S1 := z5_put e2.2.2.1.1 hw (pz_tk A.1.1 (pz_w A.1 w) a)
      have hw' : zq_ai k 105 (1 + nI w) = some (nI (pz_w A.1 w)) := mz_w (A := pz_sa A A.1) e2 hw
      have D1 : pz_Md (pz_S k 105 (1 + w) (nI (pz_tk A.1.1 (pz_w A.1 w) a))) A.1.1 := by
        have T1 : pz_Tb (pz_S k 105 (1 + w) (nI (pz_tk A.1.1 (pz_w A.1 w) a))) A.1.1 := e2.2.1.of (fun a j q => by rw [pz_S_i, if_neg (by omega)])
        exact T1.d (by rw [pz_S_i, if_neg (by omega)]; exact e2.2.2.1.1.1)
      have htu : f_X6_turned k 104 (nI (pz_w A.1 w)) (nI a) = some (nI (pz_tk A.1.1 (pz_w A.1 w) a)) := m_turned e2.1 e2.d (pz_T_lt hg hT) (by omega)
      rw [if_neg (show ¬ (true = false) by simp), if_pos (show true = true from rfl), nI_clamp (by omega), nI_clamp (by omega), mq_p H.1, Option.bind_some, mq_ck H.z0.1, e1, Option.bind_some, mq_0 e2.1, Option.bind_some, Option.bind_some, hw', Option.bind_some, mq_ck e2.1, htu, Option.bind_some, mz_sw e2.1 hw, Option.bind_some, mq_0 R1, Option.bind_some]
      generalize hX : (pz_tk A.1.1 (pz_w A.1 w) a) = X at R1 D1 htu S1 ⊢
      have S0 : pz_5r k 105 0 A.1 := e2.2.2.1.1
      rcases (show w = 0 ∨ w = 1 by omega) with rfl | rfl
      · skip
        have hX' : X = (pz_tk A.1.1 A.1.2.1 a) := hX.symm
        have R2 : pz_Ms (pz_S (pz_S k 105 1 (nI X)) 105 3 (nI (pz_tk A.1.1 A.1.2.2.2.1 a))) := e2.1
        have k3 : pz_i (pz_S k 105 1 (nI X)) 105 3 = nI A.1.2.2.2.1 := by rw [pz_S_i, if_neg (by omega)]; exact S0.2.2.2.1
        have R1' : pz_Ms (pz_S k 105 1 (nI X)) := e2.1
        rw [if_pos (show nI 0 = 0 from rfl), Option.bind_some]
        show ∃ o, (Option.bind (zq_ai (pz_S k 105 1 (nI X)) 105 3) _) = some o ∧ _
        have D1' : pz_Md (pz_S k 105 1 (nI X)) A.1.1 := D1
        have hSA := mz_s3 R1' (nI (pz_tk A.1.1 A.1.2.2.2.1 a))
        have hZZ : zq_ai (pz_S (pz_S k 105 1 (nI X)) 105 3 (nI (pz_tk A.1.1 A.1.2.2.2.1 a))) 105 (1 + nI 0) = some (nI X) := by
          rw [m_1w, mq_z R2 (by omega), pz_S_i, if_neg (by omega), pz_S_i, if_pos ⟨rfl, rfl⟩]
        rw [mq_z3 R1', k3, Option.bind_some, mq_ck R1', m_turned R1' D1' hK (by omega), Option.bind_some, hSA, Option.bind_some, mq_0 R2, Option.bind_some, hZZ, Option.bind_some]
        have S2 := z5_a S0 X (pz_tk A.1.1 A.1.2.2.2.1 a)
        have hN : pz_tr2 A.1 0 a = (A.1.1, X, A.1.2.2.1, (pz_tk A.1.1 A.1.2.2.2.1 a), A.1.2.2.2.2) := by rw [hX']; rfl
        rw [hN]
        have VV := pz_tr2_V H.V 0 a
        rw [hN] at VV
        exact ⟨_, rfl, m_fin e2 e3 e4 (pz_mz.S.tr pz_mz.S) S2 VV rfl⟩
      · skip
        have hX' : X = (pz_tk A.1.1 A.1.2.2.1 a) := hX.symm
        have R2 : pz_Ms (pz_S (pz_S k 105 2 (nI X)) 105 3 (nI A.1.2.2.2.1)) := e2.1
        have k3 : pz_i (pz_S k 105 2 (nI X)) 105 3 = nI A.1.2.2.2.1 := by rw [pz_S_i, if_neg (by omega)]; exact S0.2.2.2.1
        have R1' : pz_Ms (pz_S k 105 2 (nI X)) := e2.1
        rw [if_neg (show ¬ nI 1 = 0 by decide), Option.bind_some]
        show ∃ o, (Option.bind (zq_ai (pz_S k 105 2 (nI X)) 105 3) _) = some o ∧ _
        have hSA := mz_s3 R1' (nI A.1.2.2.2.1)
        have hZZ : zq_ai (pz_S (pz_S k 105 2 (nI X)) 105 3 (nI A.1.2.2.2.1)) 105 (1 + nI 1) = some (nI X) := by
          rw [m_1w, mq_z R2 (by omega), pz_S_i, if_neg (by omega), pz_S_i, if_pos ⟨rfl, rfl⟩]
        rw [mq_z3 R1', k3, Option.bind_some, hSA, Option.bind_some, mq_0 R2, Option.bind_some, hZZ, Option.bind_some]
        have S2 := z5_b S0 X A.1.2.2.2.1
        have hN : pz_tr2 A.1 1 a = (A.1.1, A.1.2.1, X, A.1.2.2.2.1, A.1.2.2.2.2) := by rw [hX']; rfl
        rw [hN]
        have VV := pz_tr2_V H.V 1 a
        rw [hN] at VV
        exact ⟨_, rfl, m_fin e2 e3 e4 (pz_mz.S.tr pz_mz.S) S2 VV rfl⟩
theorem d_mirror (H : pz_M h A) (x : Int32) : ∃ o, f_X6_mirror h 104 x = some o ∧ pz_om cdA h A (R_mirror A x) o := by
  have hg := H.V.T.1
  unfold f_X6_mirror R_mirror
  rw [m_isWhich, Option.bind_some]
  cases h1 : pz_inb 2 x with
  | false =>
    rw [if_pos (show false = false from rfl), if_neg (show ¬ (false = true) by simp), mq_p H.1, Option.bind_some]
    exact ⟨_, rfl, pz_om.t H rfl⟩
  | true =>
    obtain ⟨w, hw, rfl⟩ := pz_inb_of (by omega) h1
    obtain ⟨k, e1, e2, e3, e4⟩ := m_begin0 H
    have hT := pz_w_T H.V w
    have R1 : pz_Ms (pz_S k 105 (1 + w) (nI (pz_mi A.1.1 (pz_w A.1 w)))) := e2.1
    have S1 := z5_put e2.2.2.1.1 hw (pz_mi A.1.1 (pz_w A.1 w))
    have hw' : zq_ai k 105 (1 + nI w) = some (nI (pz_w A.1 w)) := mz_w (A := pz_sa A A.1) e2 hw
    have D1 : pz_Md (pz_S k 105 (1 + w) (nI (pz_mi A.1.1 (pz_w A.1 w)))) A.1.1 := by
      have T1 : pz_Tb (pz_S k 105 (1 + w) (nI (pz_mi A.1.1 (pz_w A.1 w)))) A.1.1 := e2.2.1.of (fun a j q => by rw [pz_S_i, if_neg (by omega)])
      exact T1.d (by rw [pz_S_i, if_neg (by omega)]; exact e2.2.2.1.1.1)
    have htu : f_X6_mirrored k 104 (nI (pz_w A.1 w)) = some (nI (pz_mi A.1.1 (pz_w A.1 w))) := m_mirrored e2.1 e2.d (pz_T_27 hg hT)
    rw [if_neg (show ¬ (true = false) by simp), if_pos (show true = true from rfl), nI_clamp (by omega), mq_p H.1, Option.bind_some, mq_ck H.z0.1, e1, Option.bind_some, mq_0 e2.1, Option.bind_some, Option.bind_some, hw', Option.bind_some, mq_ck e2.1, htu, Option.bind_some, mz_sw e2.1 hw, Option.bind_some, mq_0 R1, Option.bind_some]
    generalize hX : (pz_mi A.1.1 (pz_w A.1 w)) = X at R1 D1 htu S1 ⊢
    have S0 : pz_5r k 105 0 A.1 := e2.2.2.1.1
    rcases (show w = 0 ∨ w = 1 by omega) with rfl | rfl
    · skip
      have hX' : X = (pz_mi A.1.1 A.1.2.1) := hX.symm
      have R2 : pz_Ms (pz_S (pz_S k 105 1 (nI X)) 105 3 (nI (pz_mi A.1.1 A.1.2.2.2.1))) := e2.1
      have k3 : pz_i (pz_S k 105 1 (nI X)) 105 3 = nI A.1.2.2.2.1 := by rw [pz_S_i, if_neg (by omega)]; exact S0.2.2.2.1
      have R1' : pz_Ms (pz_S k 105 1 (nI X)) := e2.1
      rw [if_pos (show nI 0 = 0 from rfl), Option.bind_some]
      show ∃ o, (Option.bind (zq_ai (pz_S k 105 1 (nI X)) 105 3) _) = some o ∧ _
      have D1' : pz_Md (pz_S k 105 1 (nI X)) A.1.1 := D1
      have hSA := mz_s3 R1' (nI (pz_mi A.1.1 A.1.2.2.2.1))
      have hZZ : zq_ai (pz_S (pz_S k 105 1 (nI X)) 105 3 (nI (pz_mi A.1.1 A.1.2.2.2.1))) 105 (1 + nI 0) = some (nI X) := by
        rw [m_1w, mq_z R2 (by omega), pz_S_i, if_neg (by omega), pz_S_i, if_pos ⟨rfl, rfl⟩]
      rw [mq_z3 R1', k3, Option.bind_some, mq_ck R1', m_mirrored R1' D1' H.V.K, Option.bind_some, hSA, Option.bind_some, mq_0 R2, Option.bind_some, hZZ, Option.bind_some]
      have S2 := z5_a S0 X (pz_mi A.1.1 A.1.2.2.2.1)
      have hN : pz_mr2 A.1 0 = (A.1.1, X, A.1.2.2.1, (pz_mi A.1.1 A.1.2.2.2.1), A.1.2.2.2.2) := by rw [hX']; rfl
      rw [hN]
      have VV := pz_mr2_V H.V 0
      rw [hN] at VV
      exact ⟨_, rfl, m_fin e2 e3 e4 (pz_mz.S.tr pz_mz.S) S2 VV rfl⟩
    · skip
      have hX' : X = (pz_mi A.1.1 A.1.2.2.1) := hX.symm
      have R2 : pz_Ms (pz_S (pz_S k 105 2 (nI X)) 105 3 (nI A.1.2.2.2.1)) := e2.1
      have k3 : pz_i (pz_S k 105 2 (nI X)) 105 3 = nI A.1.2.2.2.1 := by rw [pz_S_i, if_neg (by omega)]; exact S0.2.2.2.1
      have R1' : pz_Ms (pz_S k 105 2 (nI X)) := e2.1
      rw [if_neg (show ¬ nI 1 = 0 by decide), Option.bind_some]
      show ∃ o, (Option.bind (zq_ai (pz_S k 105 2 (nI X)) 105 3) _) = some o ∧ _
      have hSA := mz_s3 R1' (nI A.1.2.2.2.1)
      have hZZ : zq_ai (pz_S (pz_S k 105 2 (nI X)) 105 3 (nI A.1.2.2.2.1)) 105 (1 + nI 1) = some (nI X) := by
        rw [m_1w, mq_z R2 (by omega), pz_S_i, if_neg (by omega), pz_S_i, if_pos ⟨rfl, rfl⟩]
      rw [mq_z3 R1', k3, Option.bind_some, hSA, Option.bind_some, mq_0 R2, Option.bind_some, hZZ, Option.bind_some]
      have S2 := z5_b S0 X A.1.2.2.2.1
      have hN : pz_mr2 A.1 1 = (A.1.1, A.1.2.1, X, A.1.2.2.2.1, A.1.2.2.2.2) := by rw [hX']; rfl
      rw [hN]
      have VV := pz_mr2_V H.V 1
      rw [hN] at VV
      exact ⟨_, rfl, m_fin e2 e3 e4 (pz_mz.S.tr pz_mz.S) S2 VV rfl⟩
theorem d_lock (H : pz_M h A) (x y z : Int32) : ∃ o, f_X6_lock h 104 x y z = some o ∧ pz_om cdA h A (R_lock A x y z) o := by
  have hg := H.V.T.1
  have hnd := pz_nd_le hg
  have hP27 := pz_T_27 hg H.V.T.2.1
  unfold f_X6_lock R_lock
  rw [mq_ck H.1, m_isDia H, Option.bind_some]
  by_cases q : pz_no A.1.1 x y = pz_X
  · rw [decide_eq_false (fun r => r q), if_pos (show false = false from rfl), if_pos q, mq_p H.1, Option.bind_some]
    exact ⟨_, rfl, pz_om.t H rfl⟩
  · have hd := (pz_no_or hg x y).resolve_left q
    rw [decide_eq_true q, if_neg (show ¬ (true = false) by simp), if_neg q, mq_p H.1, Option.bind_some, mq_0 H.z0.1, Option.bind_some, mz_a1 H.z0, Option.bind_some, mq_ck H.z0.1, m_noN H.z0 q, Option.bind_some, s_has (by omega) (by omega), Option.bind_some]
    cases hb : A.1.2.1.testBit (pz_no A.1.1 x y) with
    | false =>
      rw [if_pos (show false = false from rfl), if_pos (show false = false from rfl), mq_p H.z0.1, Option.bind_some]
      have l := (pz_mt.t (h := pz_S h 104 7 0) 2)
      exact ⟨_, rfl, pz_om.x (by rw [pz_S_i, if_pos ⟨rfl, rfl⟩]; rfl) (l.M H.z0) (pz_km0.tr l.km)⟩
    | true =>
      have H00 : pz_M (pz_S (pz_S h 104 7 0) 104 7 0) A := H.z0.z0
      obtain ⟨k, e1, e2, e3, e4⟩ := m_begin0 H.z0
      have e3 := pz_km0.tr e3
      have VV := pz_lo2_V H.V hb z
      have hK := H.V.K
      have hp2 : 2 ^ pz_no A.1.1 x y < 134217728 := Nat.pow_lt_pow_right (n := 27) (by omega) (by omega)
      have hx : 2 ^ pz_no A.1.1 x y ^^^ 4294967295 < 4294967296 := Nat.xor_lt_two_pow (n := 32) (by omega) (by omega)
      have hK2 : pz_lo2 A.1.2.2.2.1 (pz_no A.1.1 x y) z < 134217728 := VV.K
      have hno : f_X6_numberOf k 104 x y = some (nI (pz_no A.1.1 x y)) := m_noN (A := pz_sa A A.1) e2 q
      have a3 : zq_ai k 105 3 = some (nI A.1.2.2.2.1) := mz_a3 (A := pz_sa A A.1) e2
      have R2 : pz_Ms (pz_S k 105 3 (nI (pz_lo2 A.1.2.2.2.1 (pz_no A.1.1 x y) z))) := e2.1
      have fin : pz_om cdA h A (.inl (nI (pz_rk (pz_lo2 A.1.2.2.2.1 (pz_no A.1.1 x y) z) 27), pz_sa A (A.1.1, A.1.2.1, A.1.2.2.1, pz_lo2 A.1.2.2.2.1 (pz_no A.1.1 x y) z, A.1.2.2.2.2))) (nI (pz_rk (pz_lo2 A.1.2.2.2.1 (pz_no A.1.1 x y) z) 27), pz_S k 105 3 (nI (pz_lo2 A.1.2.2.2.1 (pz_no A.1.1 x y) z))) := m_fin e2 e3 e4 pz_mz.S (z5_k e2.2.2.1.1 _) VV rfl
      rw [if_neg (show ¬ (true = false) by simp), if_neg (show ¬ (true = false) by simp), mq_p H.z0.1, Option.bind_some, mq_ck H00.1, e1, Option.bind_some, mq_ck e2.1, hno, Option.bind_some]
      simp only [zq_let]
      rw [pz_shl (by omega), mq_0 e2.1, Option.bind_some]
      by_cases qz : z = 0
      · have hl : pz_lo2 A.1.2.2.2.1 (pz_no A.1.1 x y) z = A.1.2.2.2.1 &&& (2 ^ pz_no A.1.1 x y ^^^ 4294967295) := if_pos qz
        rw [if_pos qz, Option.bind_some, a3, Option.bind_some, pz_not (by omega), pz_and (by omega) hx, ← hl, mz_s3 e2.1, Option.bind_some, mq_0 R2, Option.bind_some, mq_z3 R2, pz_S_i, if_pos ⟨rfl, rfl⟩, Option.bind_some, s_ones (by omega), Option.bind_some]
        exact ⟨_, rfl, fin⟩
      · have hl : pz_lo2 A.1.2.2.2.1 (pz_no A.1.1 x y) z = A.1.2.2.2.1 ||| 2 ^ pz_no A.1.1 x y := if_neg qz
        rw [if_neg qz, Option.bind_some, a3, Option.bind_some, pz_or (by omega) (by omega), ← hl, mz_s3 e2.1, Option.bind_some, mq_0 R2, Option.bind_some, mq_z3 R2, pz_S_i, if_pos ⟨rfl, rfl⟩, Option.bind_some, s_ones (by omega), Option.bind_some]
        exact ⟨_, rfl, fin⟩
theorem m_canFlip (H : pz_M h A) {w d : Nat} (hw : w < 2) (hd : d < 27) : f_X6_canFlip h 104 (nI w) (nI d) = some (decide ((pz_w A.1 w).testBit d = true ∧ (w = 0 → A.1.2.2.2.1.testBit d = false))) := by
  have hg := H.V.T.1
  have h27 := pz_T_27 hg (pz_w_T H.V w)
  have hK := H.V.K
  unfold f_X6_canFlip
  rw [mq_0 H.1, Option.bind_some, mz_w H hw, Option.bind_some, s_has (by omega) (by omega), Option.bind_some]
  cases hb : (pz_w A.1 w).testBit d with
  | false => rw [if_pos (show false = false from rfl), decide_eq_false (fun r => by have := r.1; simp at this)]
  | true =>
    rw [if_neg (show ¬ (true = false) by simp)]
    match w, hw with
    | 0, _ =>
      rw [if_neg (show ¬ nI 0 = 1 by decide), Option.bind_some, mz_a3 H, Option.bind_some, s_has (by omega) (by omega), Option.bind_some]
      cases hb2 : A.1.2.2.2.1.testBit d with
      | false => simp
      | true => simp
    | 1, _ =>
      rw [if_pos (show nI 1 = 1 from rfl), decide_eq_true ⟨rfl, fun r => by omega⟩]
theorem d_flip (H : pz_M h A) (x y z : Int32) : ∃ o, f_X6_flip h 104 x y z = some o ∧ pz_om cdA h A (R_flip A x y z) o := by
  have hg := H.V.T.1
  have hnd := pz_nd_le hg
  unfold f_X6_flip R_flip
  rw [m_isWhich, Option.bind_some]
  cases h1 : pz_inb 2 x with
  | false =>
    rw [if_pos (show false = false from rfl), if_neg (fun r => by have := r.1; simp at this), mq_p H.1, Option.bind_some]
    exact ⟨_, rfl, pz_om.t H rfl⟩
  | true =>
    obtain ⟨w, hw, rfl⟩ := pz_inb_of (by omega) h1
    rw [if_neg (show ¬ (true = false) by simp), mq_ck H.1, m_isDia H, Option.bind_some]
    by_cases q : pz_no A.1.1 y z = pz_X
    · rw [decide_eq_false (fun r => r q), if_pos (show false = false from rfl), if_neg (fun r => r.2 q), mq_p H.1, Option.bind_some]
      exact ⟨_, rfl, pz_om.t H rfl⟩
    · have hd := (pz_no_or hg y z).resolve_left q
      rw [decide_eq_true q, if_neg (show ¬ (true = false) by simp), if_pos ⟨rfl, q⟩, nI_clamp (by omega), mq_p H.1, Option.bind_some, mq_ck H.z0.1, m_noN H.z0 q, Option.bind_some, mq_ck H.z0.1, m_canFlip H.z0 hw (by omega), Option.bind_some]
      by_cases c : (pz_w A.1 w).testBit (pz_no A.1.1 y z) = true ∧ (w = 0 → A.1.2.2.2.1.testBit (pz_no A.1.1 y z) = false)
      · obtain ⟨k, e1, e2, e3, e4⟩ := m_begin0 H.z0
        have e3 := pz_km0.tr e3
        have H00 : pz_M (pz_S (pz_S h 104 7 0) 104 7 0) A := H.z0.z0
        have hT := pz_w_T H.V w
        have hw' : zq_ai k 105 (1 + nI w) = some (nI (pz_w A.1 w)) := mz_w (A := pz_sa A A.1) e2 hw
        have hno : f_X6_numberOf k 104 y z = some (nI (pz_no A.1.1 y z)) := m_noN (A := pz_sa A A.1) e2 q
        have f1 : f_X6_flipped k 104 (nI (pz_w A.1 w)) (nI (pz_no A.1.1 y z)) = some (nI (pz_oth A.1.1 (pz_w A.1 w) (pz_no A.1.1 y z))) := m_flipped e2.1 e2.d hT c.1
        have f2 : f_X6_behindFlip k 104 (nI (pz_w A.1 w)) (nI (pz_no A.1.1 y z)) = some (nI (pz_fl A.1.1 (pz_w A.1 w) (pz_no A.1.1 y z))) := m_behindFlip e2.1 e2.d hT c.1
        have R1 : pz_Ms (pz_S k 105 (1 + w) (nI (pz_fl A.1.1 (pz_w A.1 w) (pz_no A.1.1 y z)))) := e2.1
        have S1 := z5_put e2.2.2.1.1 hw (pz_fl A.1.1 (pz_w A.1 w) (pz_no A.1.1 y z))
        have a4 : pz_i (pz_S k 105 (1 + w) (nI (pz_fl A.1.1 (pz_w A.1 w) (pz_no A.1.1 y z)))) 105 4 = A.1.2.2.2.2 := by
          rw [pz_S_i, if_neg (by omega)]; exact e2.2.2.1.1.2.2.2.2
        have S2 := z5_f S1 (A.1.2.2.2.2 + 1)
        have hm : ((pz_pu A.1 w (pz_fl A.1.1 (pz_w A.1 w) (pz_no A.1.1 y z))).1, (pz_pu A.1 w (pz_fl A.1.1 (pz_w A.1 w) (pz_no A.1.1 y z))).2.1, (pz_pu A.1 w (pz_fl A.1.1 (pz_w A.1 w) (pz_no A.1.1 y z))).2.2.1, (pz_pu A.1 w (pz_fl A.1.1 (pz_w A.1 w) (pz_no A.1.1 y z))).2.2.2.1, A.1.2.2.2.2 + 1) = pz_mf A.1 w (pz_no A.1.1 y z) := by
          unfold pz_mf pz_pu
          split <;> rfl
        have S2' : pz_5r (pz_S (pz_S k 105 (1 + w) (nI (pz_fl A.1.1 (pz_w A.1 w) (pz_no A.1.1 y z)))) 105 4 (A.1.2.2.2.2 + 1)) 105 0 (pz_mf A.1 w (pz_no A.1.1 y z)) := by
          rw [← hm]; exact S2
        rw [if_pos c, decide_eq_true c, if_neg (show ¬ (true = false) by simp), mq_p H.z0.1, Option.bind_some, mq_ck H00.1, e1, Option.bind_some, mq_0 e2.1, Option.bind_some, hw', Option.bind_some, mq_ck e2.1, hno, Option.bind_some, mq_ck e2.1, f1, Option.bind_some, Option.bind_some, Option.bind_some, hw', Option.bind_some, mq_ck e2.1, Option.bind_some, mq_ck e2.1, f2, Option.bind_some, mz_sw e2.1 hw, Option.bind_some, mq_0 R1, Option.bind_some, mq_z4 R1, a4, Option.bind_some, mz_s4 R1, Option.bind_some]
        refine ⟨_, rfl, m_fin e2 e3 e4 (pz_mz.S.tr pz_mz.S) S2' (pz_mf_V H.V c.1 c.2) ?_⟩
        unfold pz_mf pz_pu
        split <;> rfl
      · rw [if_neg c, decide_eq_false c, if_pos (show false = false from rfl), mq_p H.z0.1, Option.bind_some]
        have l := (pz_mt.t (h := pz_S h 104 7 0) 2)
        exact ⟨_, rfl, pz_om.x (by rw [pz_S_i, if_pos ⟨rfl, rfl⟩]; rfl) (l.M H.z0) (pz_km0.tr l.km)⟩
end PZMC
