/-! the class' calls: begin, walk, texts -/
theorem pz_nf_bit {g K P G : Nat} (h : pz_nf g K P G ≠ pz_X) : pz_nf g K P G < pz_nd g ∧ P.testBit (pz_nf g K P G) = true ∧ K.testBit (pz_nf g K P G) = false := by
  cases e : pz_ds g K P G with
  | none => exact absurd (pz_nf_X (Or.inl e)) h
  | some k0 =>
    cases k0 with
    | zero => exact absurd (pz_nf_X (Or.inr e)) h
    | succ k =>
      have h1 := pz_nf_s e
      by_cases q : pz_nfi g K P G k < pz_nd g
      · rw [if_pos q] at h1
        have h2 := pz_ff_yes (fun d => P.testBit d && !(K.testBit d) && decide (pz_ds g K (pz_fl g P d) G = some k)) (pz_nd g) 0 (by rw [Nat.zero_add]; exact q)
        have h3 : (P.testBit (pz_nfi g K P G k) && !(K.testBit (pz_nfi g K P G k)) && decide (pz_ds g K (pz_fl g P (pz_nfi g K P G k)) G = some k)) = true := h2
        rw [h1]
        rw [Bool.and_eq_true, Bool.and_eq_true, Bool.not_eq_true'] at h3
        exact ⟨q, h3.1.1, h3.1.2⟩
      · rw [if_neg q] at h1
        exact absurd h1 h
theorem pz_wa_s (n : pz_5) (k : Nat) : pz_wa n (k + 1) = if pz_nf (pz_wa n k).2.1 (pz_wa n k).2.2.2.2.1 (pz_wa n k).2.2.1 (pz_wa n k).2.2.2.1 = pz_X then pz_wa n k else ((pz_wa n k).1 + 1, pz_mf (pz_wa n k).2 0 (pz_nf (pz_wa n k).2.1 (pz_wa n k).2.2.2.2.1 (pz_wa n k).2.2.1 (pz_wa n k).2.2.2.1)) := rfl
theorem pz_wa_le (n : pz_5) : ∀ k, (pz_wa n k).1 ≤ k
  | 0 => Nat.le_refl _
  | k + 1 => by
    have h := pz_wa_le n k
    rw [pz_wa_s]
    split
    · omega
    · show (pz_wa n k).1 + 1 ≤ k + 1
      omega
theorem pz_wa_stop {n : pz_5} {k : Nat} (h : pz_nf (pz_wa n k).2.1 (pz_wa n k).2.2.2.2.1 (pz_wa n k).2.2.1 (pz_wa n k).2.2.2.1 = pz_X) : ∀ j, pz_wa n (k + j) = pz_wa n k
  | 0 => rfl
  | j + 1 => by
    have ih := pz_wa_stop h j
    show pz_wa n (k + j + 1) = _
    rw [pz_wa_s, ih, if_pos h]
section PZBW
variable {h : zq_H} {A : pz_A}
theorem c_walk (C : pz_C h A) (x : Int32) : ∃ o, f_X5_walk h 0 x = some o ∧ pz_oc h A (R_walk A x) o := by
  obtain ⟨b, B, S⟩ := id C
  have hg := S.2.1.T.1
  unfold f_X5_walk R_walk pz_bt2
  by_cases h1 : x < 1
  · rw [if_pos h1, if_neg (show ¬ (decide (¬ x < 1 ∧ ¬ 20 < x) = true) by simp [h1])]
    exact ⟨_, rfl, pz_oc.x rfl C pz_ag.rf⟩
  · rw [if_neg h1]
    have hx0 : ¬ x < 0 := fun e => h1 (Int32.lt_trans e (by decide))
    obtain ⟨k, hk, rfl⟩ := nI_of hx0
    by_cases h2 : k ≤ 20
    · have hk1 : 1 ≤ k := by
        rcases Nat.eq_zero_or_pos k with e | e
        · exact absurd (by rw [e]; decide) h1
        · exact e
      obtain ⟨h', e1, e2, e3⟩ := s_distanceWithLocks B S
      have S' := pz_la.S e2 S
      rw [if_pos (show nI k ≤ (20 : Int32) from nI_le (b := 20) h2 (by omega)), if_pos (show decide (¬ nI k < 1 ∧ ¬ 20 < nI k) = true by rw [decide_eq_true_eq]; exact ⟨h1, nI_nlt (a := 20) h2 (by omega)⟩), cq_ck B.1, e1, Option.bind_some, nI_clamp hk]
      cases hd : pz_ds A.1.1 A.1.2.2.2.1 A.1.2.1 A.1.2.2.1 with
      | none =>
        rw [if_pos (show pz_cd none = -1 from rfl), if_pos rfl]
        exact ⟨_, rfl, pz_oc.x rfl (pz_C.la S e2 e3) e2.kc⟩
      | some d0 =>
        have hdl := pz_ds_lt hg S.2.1.T.2.1 (pz_T_27 hg S.2.1.T.2.2.1) hd
        obtain ⟨k1, f1, B1, S1, f2⟩ := s_saveState e3 S'
        rw [if_neg (show ¬ pz_cd (some d0) = -1 by show ¬ nI d0 = -1; rw [pz_eqm1 (by omega)]; exact id), if_neg (by simp), cq_ck e3.1, f1, Option.bind_some]
        refine pz_lpMB (fun s => ∃ i, s.2.1 = nI i ∧ i ≤ k ∧ s.1 = nI (pz_wa A.1 i).1 ∧ pz_CB s.2.2 b A.2.2.2.2.1 A.2.2.2.2.2 ∧ pz_CS s.2.2 b (pz_wa A.1 i).2 (pz_sn A.2.1) (pz_sv A.1 A.2.1 A.2.2.1) A.2.2.2.1 ∧ pz_kc h s.2.2) (fun s => 100 - s.2.1.toNatClampNeg) (fun r => r.1 = nI (pz_wa A.1 k).1 ∧ pz_CB r.2 b A.2.2.2.2.1 A.2.2.2.2.2 ∧ pz_CS r.2 b (pz_wa A.1 k).2 (pz_sn A.2.1) (pz_sv A.1 A.2.1 A.2.2.1) A.2.2.2.1 ∧ pz_kc h r.2) ?_ ⟨0, rfl, by omega, rfl, B1, S1, e2.kc.tr f2⟩ (by simp only; omega) ?_
        · rintro ⟨r1, r2⟩ ⟨q1, q2, q3, q4⟩
          simp only at q1 q2 q3 q4
          subst q1
          exact ⟨_, rfl, pz_oc.v rfl ⟨b, q2, q3⟩ q4⟩
        · rintro ⟨s1, s2, s3⟩ ⟨i, q1, q2, q3, q4, q5, q6⟩
          simp only at q1 q3 q4 q5 q6
          subst q1; subst q3
          by_cases hi : k ≤ i
          · have : i = k := by omega
            subst this
            exact Or.inr ⟨_, if_pos (nI_le (Nat.le_refl _) (by omega)), rfl, q4, q5, q6⟩
          · rw [if_neg (nI_ge (by omega) hk)]
            obtain ⟨k2, g1, g2, g3⟩ := s_nextFlip q4 q5
            rw [cq_ck q4.1, g1, Option.bind_some]
            have S2 := pz_la.S g2 q5
            by_cases hX : pz_nf (pz_wa A.1 i).2.1 (pz_wa A.1 i).2.2.2.2.1 (pz_wa A.1 i).2.2.1 (pz_wa A.1 i).2.2.2.1 = pz_X
            · rw [hX, if_pos (show nI pz_X = -1 by decide)]
              have hst := pz_wa_stop hX (k - i)
              rw [show i + (k - i) = k by omega] at hst
              exact Or.inr ⟨_, rfl, by rw [hst], g3, by rw [hst]; exact S2, q6.tr g2.kc⟩
            · obtain ⟨b1, b2, b3⟩ := pz_nf_bit hX
              have hnd := pz_nd_le S2.2.1.T.1
              have hws := pz_wa_s A.1 i
              rw [if_neg hX] at hws
              generalize pz_nf (pz_wa A.1 i).2.1 (pz_wa A.1 i).2.2.2.2.1 (pz_wa A.1 i).2.2.1 (pz_wa A.1 i).2.2.2.1 = d at b1 b2 b3 hX hws ⊢
              obtain ⟨k3, m1, m2, m3, m4⟩ := s_makeFlip g3 S2 (w := 0) (d := d) (by omega) b2 (fun _ => b3)
              have m1 : f_X5_makeFlip k2 0 0 (nI d) = some (nI (pz_oth (pz_wa A.1 i).2.1 (pz_w (pz_wa A.1 i).2 0) d), k3) := m1
              rw [if_neg (show ¬ nI d = -1 by rw [pz_eqm1 (by omega)]; exact id), cq_ck g3.1, m1, Option.bind_some]
              simp only [zq_let, nI_1]
              refine Or.inl ⟨_, rfl, ⟨i + 1, rfl, by omega, by rw [hws], m2, by rw [hws]; exact m3, (q6.tr g2.kc).tr m4⟩, ?_⟩
              simp only
              rw [nI_clamp (by omega), nI_clamp (by omega)]
              omega
    · rw [if_neg (show ¬ nI k ≤ (20 : Int32) from nI_ge (a := 20) (by omega) hk), if_neg (show ¬ (decide (¬ nI k < 1 ∧ ¬ 20 < nI k) = true) by rw [decide_eq_true_eq]; exact fun q => q.2 (nI_lt (a := 20) (by omega) hk))]
      exact ⟨_, rfl, pz_oc.x rfl C pz_ag.rf⟩
/-- the smaller graphs are built, too -/
theorem s_buildUpTo {b tl : Nat} {tx : Nat → Nat} (B : pz_CB h b tl tx) (hb : b ≤ 6) {g : Nat} (hg : g < 6) : ∃ h', f_X5_buildUpTo h 1 (nI g) = some h' ∧ pz_CB h' (max b (g + 1)) tl tx ∧ pz_ag (fun a => a < 2 ∨ 74 ≤ a) h h' := by
  unfold f_X5_buildUpTo
  refine pz_lpIB (fun i s => s.1 = nI i ∧ pz_CB s.2 (max b i) tl tx ∧ pz_ag (fun a => a < 2 ∨ 74 ≤ a) h s.2) (g + 1) (fun h' => pz_CB h' (max b (g + 1)) tl tx ∧ pz_ag (fun a => a < 2 ∨ 74 ≤ a) h h') (fun h' q => ⟨h', rfl, q⟩) ⟨rfl, by rw [show max b 0 = b by omega]; exact B, pz_ag.rf⟩ ?_ ?_ (by omega)
  · rintro i ⟨x, k⟩ hi ⟨e1, e2, e3⟩
    simp only at e1 e2 e3
    subst e1
    have hi6 : i < 6 := by omega
    obtain ⟨G, G1, G2⟩ := e2.2.1 i hi6
    rw [if_neg (nI_nlt (show i ≤ g by omega) (by omega)), cq_n1 e2.1, Option.bind_some, if_neg (nI_ge hi6 (by omega)), cq_gr e2.1 hi6, Option.bind_some, gq_ck G]
    by_cases q : i < b
    · obtain ⟨M, sl, Gb⟩ := G1 (by omega)
      rw [s_build_old G Gb, Option.bind_some]
      simp only [zq_let, nI_1]
      rw [show max b i = max b (i + 1) by omega] at e2
      exact ⟨_, rfl, rfl, e2, e3⟩
    · obtain ⟨k2, f1, f2, M, sl, f3⟩ := s_build_new G ((G2 (by omega)).ht (fun _ => 0))
      rw [f1, Option.bind_some]
      simp only [zq_let, nI_1]
      have l := f2.ag
      refine ⟨_, rfl, rfl, ⟨e2.1.r l.1 (fun a j ha => f2.r a j), fun g' hg' => ?_, fun k' hk' => ⟨(e2.2.2.1 k' hk').1.ag l (by omega), ?_⟩, e2.2.2.2.ag l (by omega)⟩, e3.tr (l.mono (fun a ha => by omega))⟩
      · obtain ⟨G', G1', G2'⟩ := e2.2.1 g' hg'
        by_cases q2 : g' = i
        · subst q2
          exact ⟨G.gag f2, fun _ => ⟨M, sl, f3⟩, fun h => by omega⟩
        · have qq : ∀ j, j < 12 → (fun a => a ≠ 2 + 12 * i ∧ a ≠ 2 + 12 * i + 9 ∧ a ≠ 2 + 12 * i + 10 ∧ a ≠ 2 + 12 * i + 11) (2 + 12 * g' + j) := fun j hj => by
            show 2 + 12 * g' + j ≠ 2 + 12 * i ∧ 2 + 12 * g' + j ≠ 2 + 12 * i + 9 ∧ 2 + 12 * g' + j ≠ 2 + 12 * i + 10 ∧ 2 + 12 * g' + j ≠ 2 + 12 * i + 11
            omega
          refine ⟨G'.ag l qq, fun hlt => ?_, fun hle => ?_⟩
          · obtain ⟨M', sl', Gb'⟩ := G1' (by omega)
            exact ⟨M', sl', Gb'.ag l qq⟩
          · have := G2' (by omega)
            exact ⟨by (show pz_i k2 (2 + 12 * g') 8 = nI 0; rw [l.i (t := 2 + 12 * g') (by omega)]; exact this.1), fun s hs => by (show pz_i k2 (2 + 12 * g' + 11) s = nI 0; rw [l.i (t := 2 + 12 * g' + 11) (by omega)]; exact this.2 s hs)⟩
      · obtain ⟨g2, r1, r2, r3⟩ := (e2.2.2.1 k' hk').2
        refine ⟨g2, r1, by (show pz_r k2 (87 + 4 * k') 3 = some (2 + 12 * g2); rw [l.r (t := 87 + 4 * k') (by omega)]; exact r2), ?_⟩
        rcases r3 with r3 | ⟨M', sl', s', K', d1, d2, d3, d4⟩
        · exact Or.inl (by (show pz_i k2 (87 + 4 * k') 4 = -1; rw [l.i (t := 87 + 4 * k') (by omega)]; exact r3))
        · have hne : g2 ≠ i := by
            intro e
            subst e
            have hcn := pz_cn_le hi6
            have a1 := d1.1.2.1
            rw [(G2 (by omega)).1, nI_eq (by omega) (by omega)] at a1
            omega
          have qq : ∀ j, j < 12 → (fun a => a ≠ 2 + 12 * i ∧ a ≠ 2 + 12 * i + 9 ∧ a ≠ 2 + 12 * i + 10 ∧ a ≠ 2 + 12 * i + 11) (2 + 12 * g2 + j) := fun j hj => by
            show 2 + 12 * g2 + j ≠ 2 + 12 * i ∧ 2 + 12 * g2 + j ≠ 2 + 12 * i + 9 ∧ 2 + 12 * g2 + j ≠ 2 + 12 * i + 10 ∧ 2 + 12 * g2 + j ≠ 2 + 12 * i + 11
            omega
          exact Or.inr ⟨M', sl', s', K', d1.ag l qq, d2, d3, d4.ag l (fun j hj => by
            show 87 + 4 * k' + j ≠ 2 + 12 * i ∧ 87 + 4 * k' + j ≠ 2 + 12 * i + 9 ∧ 87 + 4 * k' + j ≠ 2 + 12 * i + 10 ∧ 87 + 4 * k' + j ≠ 2 + 12 * i + 11
            omega)⟩
  · rintro ⟨x, k⟩ ⟨e1, e2, e3⟩
    simp only at e1 e2 e3
    subst e1
    exact ⟨k, if_pos (nI_lt (by omega) (by omega)), e2, e3⟩
theorem pz_CS.lv {b b' sn : Nat} {n : pz_5} {sv : Nat → pz_5} {sp : Nat → Option pz_5} (S : pz_CS h b n sn sv sp) (h1 : b ≤ b') (h2 : b' ≤ 6) : pz_CS h b' n sn sv sp := by
  obtain ⟨a1, a2, a3, a4, a5, a6⟩ := S
  refine ⟨a1, a2.mono h1 h2, a3, a4, fun i hi => ⟨(a5 i hi).1, (a5 i hi).2.mono h1 h2⟩, fun s hs => ?_⟩
  rcases a6 s hs with d | ⟨m, d1, d2, d3⟩
  · exact Or.inl d
  · exact Or.inr ⟨m, d1, d2, d3.mono h1 h2⟩
theorem s_startWith {b tl : Nat} {tx : Nat → Nat} (B : pz_CB h b tl tx) {n : pz_5} (A0 : pz_At h 74 n ∨ pz_i h 74 4 = n.2.2.2.2) {g : Nat} (hg : g < 6) : ∃ h', f_X3_startWith h 74 (2 + 12 * g) = some h' ∧ pz_At h' 74 (g, pz_fn g 0, pz_fn g 0, 0, n.2.2.2.2) ∧ pz_ag (fun a => a ≠ 74) h h' := by
  have C := B.1
  have hF : pz_i h 74 4 = n.2.2.2.2 := A0.elim (fun A => A.2.2.2.2) id
  have hl : 74 < h.1 := by have := C.1; omega
  have e : 2 + 12 * g + 1 = 3 + 12 * g := by omega
  have l1 : pz_ag (fun a => a ≠ 74) h (pz_R h 74 0 (2 + 12 * g)) := pz_ag.R (by simp)
  have B1 := B.now l1
  have G1 := (B1.2.1 g hg).1
  have P1 := G1.2.2.1
  have g0 := gq_0 G1
  rw [e] at P1 g0
  have pi : ∀ (k : zq_H) (j : Nat) (v : Int32), k.1 = h.1 → zq_pi k 74 3 j v = some (pz_S k 74 j v) := fun k j v hk => pz_pi (by rw [hk]; exact hl) rfl v
  have gi : ∀ (k : zq_H) (j : Nat), k.1 = h.1 → zq_gi k 74 3 j = some (pz_i k 74 j) := fun k j hk => pz_gi (by rw [hk]; exact hl) rfl
  refine ⟨pz_S (pz_S (pz_S (pz_R h 74 0 (2 + 12 * g)) 74 1 (nI (pz_fn g 0))) 74 2 (nI (pz_fn g 0))) 74 3 (nI 0), ?_, ⟨?_, ?_, ?_, ?_, ?_⟩, ((l1.tr (pz_ag.S (by simp))).tr (pz_ag.S (by simp))).tr (pz_ag.S (by simp))⟩
  · unfold f_X3_startWith
    rw [pz_pr (c := 3) hl rfl, Option.bind_some, g0, Option.bind_some, pq_ck P1, show (0 : Int32) = nI 0 from rfl, s_fanOf P1 (by omega), Option.bind_some, pi _ _ _ (by rfl), Option.bind_some, gi _ _ (by rfl), pz_S_i, if_pos ⟨rfl, rfl⟩, Option.bind_some, pi _ _ _ (by rfl), Option.bind_some, pi _ _ _ (by rfl), Option.bind_some]
  · simp [pz_S_r, pz_R_r]
  · simp [pz_S_i]
  · simp [pz_S_i]
  · simp [pz_S_i]
  · simp [pz_S_i, pz_R_i, hF]
theorem c_begin (C : pz_C h A) (x : Int32) : ∃ o, f_X5_begin h 0 x = some o ∧ pz_oc h A (R_begin A x) o := by
  obtain ⟨b, B, S⟩ := id C
  unfold f_X5_begin R_begin pz_bt2
  simp only [zq_let]
  by_cases h1 : x < 4
  · rw [if_pos h1, if_neg (show ¬ (decide (¬ x < 4 ∧ ¬ 9 < x) = true) by simp [h1])]
    exact ⟨_, rfl, pz_oc.x rfl C pz_ag.rf⟩
  · rw [if_neg h1]
    by_cases h2 : 9 < x
    · rw [if_pos h2, if_neg (show ¬ (decide (¬ x < 4 ∧ ¬ 9 < x) = true) by simp [h2])]
      exact ⟨_, rfl, pz_oc.x rfl C pz_ag.rf⟩
    · have hx0 : ¬ x < 0 := fun e => h1 (Int32.lt_trans e (by decide))
      obtain ⟨k, hk, rfl⟩ := nI_of hx0
      have hk4 : 4 ≤ k := by
        rcases Nat.lt_or_ge k 4 with e | e
        · exact absurd (nI_lt (b := 4) e (by omega)) h1
        · exact e
      have hk9 : k ≤ 9 := by
        rcases Nat.lt_or_ge 9 k with e | e
        · exact absurd (nI_lt (a := 9) e hk) h2
        · exact e
      rw [if_neg h2, if_pos (show decide (¬ nI k < 4 ∧ ¬ 9 < nI k) = true by rw [decide_eq_true_eq]; exact ⟨h1, h2⟩), nI_clamp hk]
      obtain ⟨g, rfl⟩ : ∃ g, k = g + 4 := ⟨k - 4, by omega⟩
      have hg : g < 6 := by omega
      rw [show nI (g + 4) - 4 = nI g by rw [show (4 : Int32) = nI 4 from rfl, pk_sub (by omega), Nat.add_sub_cancel], Nat.add_sub_cancel]
      obtain ⟨k1, e1, B1, S1, e2⟩ := s_saveState B S
      obtain ⟨P1, p1⟩ := B1.p S1.2.1
      obtain ⟨k2, f1, B2, f2⟩ := s_buildUpTo B1 S.2.1.2.1 hg
      have S2 := S1.ag f2 ⟨by omega, fun a h1 h2 => by omega⟩
      obtain ⟨k3, g1, g2, g3⟩ := s_startWith B2 (n := A.1) (Or.inl S2.1) hg
      rw [cq_0 B.1, Option.bind_some, cq_n1 B.1, Option.bind_some, if_pos (nI_lt hg (by omega)), cq_ck B.1, e1, Option.bind_some]
      simp only [cq_1 B1.1, Option.bind_some, aq_0 B1.1 S1.1, p1, pq_0 P1, cq_0 B1.1]
      rw [f1, Option.bind_some, cq_1 B2.1, Option.bind_some, cq_0 B2.1, Option.bind_some, cq_gr B2.1 hg, Option.bind_some, aq_ck B2.1, g1, Option.bind_some]
      have hb := S.2.1.2.1
      have hT := pz_fan hg (show 0 < g + 4 by omega)
      exact ⟨_, rfl, pz_oc.v rfl ⟨max b (g + 1), B2.now g3, (S2.lv (by omega) (by omega)).now g3 g2 ⟨show g < max b (g + 1) by omega, by omega, hT, hT, Nat.zero_and _⟩⟩ ((e2.tr (f2.mono (fun a ha => by omega))).tr (pz_kc.now g3))⟩
end PZBW
