/-! the reference's calls: begin, snapshots, undo, walk -/
section PZME
variable {h : zq_H} {A : pz_A}
/-- its tables are laid anew, where n is another -/
theorem m_relay {k : zq_H} {g0 : Nat} (R : pz_Ms k) (T : pz_Tb k g0) (S : pz_MS k A.1 A.2.1 A.2.2.1 A.2.2.2.1) (X : pz_Mx k A.2.2.2.2.1 A.2.2.2.2.2) : ∃ h', f_X6_layAll k 104 = some h' ∧ pz_M h' A ∧ pz_km k h' ∧ pz_i h' 104 7 = pz_i k 104 7 ∧ pz_i h' 104 1 = pz_i k 104 1 := by
  obtain ⟨h', e1, e2, e3⟩ := m_layAll S.2.1.T.1 R S.1.1 (Or.inr ⟨g0, T⟩)
  refine ⟨h', e1, ⟨R.rr e2.1 (fun j => by unfold pz_r; rw [e2.2.1]), e3, S.of (fun a j q => e2.2.2 a j (by omega)), X.of (fun a j q => e2.2.2 a j (by omega))⟩, ⟨e2.1, fun a ha j => ⟨e2.2.2 a j (by omega), by unfold pz_j; rw [e2.2.1], by unfold pz_r; rw [e2.2.1]⟩⟩, e2.2.2 104 7 (by omega), e2.2.2 104 1 (by omega)⟩
theorem d_begin (H : pz_M h A) (x : Int32) : ∃ o, f_X6_begin h 104 x = some o ∧ pz_om cdB h A (R_begin A x) o := by
  unfold f_X6_begin R_begin
  rw [m_within3, Option.bind_some]
  cases hb : pz_bt2 4 9 x with
  | false =>
    rw [if_pos (show false = false from rfl), if_neg (show ¬ (false = true) by simp), mq_p H.1, Option.bind_some]
    exact ⟨_, rfl, pz_om.t H rfl⟩
  | true =>
    obtain ⟨h1, h2⟩ := of_decide_eq_true hb
    have hx0 : ¬ x < 0 := fun e => h1 (Int32.lt_trans e (by decide))
    obtain ⟨k0, hk, rfl⟩ := nI_of hx0
    have hk4 : 4 ≤ k0 := by
      rcases Nat.lt_or_ge k0 4 with e | e
      · exact absurd (nI_lt (b := 4) e (by omega)) h1
      · exact e
    have hk9 : k0 ≤ 9 := by
      rcases Nat.lt_or_ge 9 k0 with e | e
      · exact absurd (nI_lt (a := 9) e hk) h2
      · exact e
    obtain ⟨g, rfl⟩ : ∃ g, k0 = g + 4 := ⟨k0 - 4, by omega⟩
    have hg : g < 6 := by omega
    obtain ⟨k, e1, e2, e3, e4⟩ := m_begin0 H
    have R1 : pz_Ms (pz_S k 105 0 (nI (g + 4))) := e2.1
    have T1 : pz_Tb (pz_S k 105 0 (nI (g + 4))) A.1.1 := e2.2.1.of (fun a j q => by rw [pz_S_i, if_neg (by omega)])
    obtain ⟨k2, f1, f2, f3⟩ := m_layAll hg R1 (by rw [pz_S_i, if_pos ⟨rfl, rfl⟩]) (Or.inr ⟨_, T1⟩)
    have R2 : pz_Ms k2 := R1.rr f2.1 (fun j => by unfold pz_r; rw [f2.2.1])
    have z0 : pz_i k2 105 0 = nI (g + 4) := by rw [f2.2.2 105 0 (by omega), pz_S_i, if_pos ⟨rfl, rfl⟩]
    have z4 : pz_i k2 105 4 = A.1.2.2.2.2 := by rw [f2.2.2 105 4 (by omega), pz_S_i, if_neg (by omega)]; exact e2.2.2.1.1.2.2.2.2
    have D2 := f3.d z0
    have hT := pz_fan hg (show 0 < g + 4 by omega)
    generalize hF : pz_fn g 0 = F0 at hT
    have hfan : f_X6_fanOf k2 104 0 = some (nI F0) := by rw [← hF]; exact m_fanOf R2 D2 (c := 0) (by omega)
    generalize hk3 : pz_S k2 105 1 (nI F0) = k3
    generalize hk4 : pz_S k3 105 2 (nI F0) = k4
    generalize hk5 : pz_S k4 105 3 (nI 0) = k5
    have R3 : pz_Ms k3 := by rw [← hk3]; exact R2
    have R4 : pz_Ms k4 := by rw [← hk4]; exact R3
    have i5 : ∀ a j, a ≠ 105 → pz_i k5 a j = pz_i k2 a j := fun a j q => by
      rw [← hk5, pz_S_i, if_neg (fun r => q r.1), ← hk4, pz_S_i, if_neg (fun r => q r.1), ← hk3, pz_S_i, if_neg (fun r => q r.1)]
    have D3 : pz_Md k3 g := by
      have T3 : pz_Tb k3 g := f3.of (fun a j q => by rw [← hk3, pz_S_i, if_neg (by omega)])
      exact T3.d (by rw [← hk3, pz_S_i, if_neg (by omega)]; exact z0)
    have hfan3 : f_X6_fanOf k3 104 0 = some (nI F0) := by rw [← hF]; exact m_fanOf R3 D3 (c := 0) (by omega)
    have za : zq_ai k 105 0 = some (nI (A.1.1 + 4)) := mz_a0 (A := pz_sa A A.1) e2
    rw [if_neg (show ¬ (true = false) by simp), if_pos (show true = true from rfl), nI_clamp hk, Nat.add_sub_cancel, hF, mq_p H.1, Option.bind_some, mq_ck H.z0.1, e1, Option.bind_some, mq_0 e2.1, Option.bind_some, za, Option.bind_some, Option.bind_some, mz_s0 e2.1, Option.bind_some, mq_ck R1, f1, Option.bind_some, mq_0 R2, Option.bind_some, mq_ck R2, hfan, Option.bind_some, mz_s1 R2, Option.bind_some, hk3, mq_0 R3, Option.bind_some, mq_ck R3, hfan3, Option.bind_some, mz_s2 R3, Option.bind_some, hk4, mq_0 R4, Option.bind_some, show (0 : Int32) = nI 0 from rfl, mz_s3 R4, Option.bind_some, hk5]
    have R5 : pz_Ms k5 := by rw [← hk5]; exact R4
    have S0 := e2.2.2.1
    have ee : ∀ a j, (a = 104 ∧ j = 1) ∨ (a = 104 ∧ j = 5) ∨ (a = 104 ∧ j = 7) ∨ (106 ≤ a ∧ a ≤ 109) → pz_i k5 a j = pz_i k a j := fun a j q => by
      rw [i5 a j (by omega), f2.2.2 a j (by omega), pz_S_i, if_neg (by omega)]
    refine ⟨_, rfl, rfl, by rw [ee 104 7 (by omega)]; exact e4, ⟨R5, f3.of (fun a j q => i5 a j (by omega)), ⟨⟨?_, ?_, ?_, ?_, ?_⟩, ⟨hg, by omega, hT, hT, Nat.zero_and _⟩, ?_, S0.2.2.2.1, fun i hi => ⟨(S0.2.2.2.2.1 i hi).1.eq (fun c _ => ee _ _ (by omega)), (S0.2.2.2.2.1 i hi).2⟩, fun s hs => ⟨?_, fun m hm => ⟨((S0.2.2.2.2.2 s hs).2 m hm).1.eq (fun c _ => ee _ _ (by omega)), ((S0.2.2.2.2.2 s hs).2 m hm).2⟩⟩⟩, e2.2.2.2.of (fun a j q => ee a j (by omega))⟩, e3.tr ⟨?_, fun a ha j => ⟨?_, ?_, ?_⟩⟩⟩
    · rw [← hk5, pz_S_i, if_neg (by omega), ← hk4, pz_S_i, if_neg (by omega), ← hk3, pz_S_i, if_neg (by omega)]; exact z0
    · rw [← hk5, pz_S_i, if_neg (by omega), ← hk4, pz_S_i, if_neg (by omega), ← hk3, pz_S_i, if_pos ⟨rfl, rfl⟩]; rfl
    · rw [← hk5, pz_S_i, if_neg (by omega), ← hk4, pz_S_i, if_pos ⟨rfl, rfl⟩]; rfl
    · rw [← hk5, pz_S_i, if_pos ⟨rfl, rfl⟩]; rfl
    · rw [← hk5, pz_S_i, if_neg (by omega), ← hk4, pz_S_i, if_neg (by omega), ← hk3, pz_S_i, if_neg (by omega)]; exact z4
    · rw [ee 104 1 (by omega)]; exact S0.2.2.1
    · rw [ee 108 s (by omega)]; exact (S0.2.2.2.2.2 s hs).1
    · rw [← hk5, ← hk4, ← hk3]; exact f2.1
    · rw [i5 a j (by omega), f2.2.2 a j (by omega), pz_S_i, if_neg (by omega)]
    · rw [← hk5, ← hk4, ← hk3]
      show pz_j k2 a j = _
      unfold pz_j
      rw [f2.2.1]
      rfl
    · rw [← hk5, ← hk4, ← hk3]
      show pz_r k2 a j = _
      unfold pz_r
      rw [f2.2.1]
      rfl
theorem mq_107 (R : pz_Ms h) {k : Nat} (hk : k < 10) : zq_ai h 107 (nI k) = some (pz_i h 107 k) := pz_ai (L := 10) (by have := R.1; omega) rfl hk (by omega)
theorem ms_107 (R : pz_Ms h) {k : Nat} (hk : k < 10) (v : Int32) : zq_si h 107 (nI k) v = some (pz_S h 107 k v) := pz_si (L := 10) (by have := R.1; omega) rfl hk (by omega) v
theorem mq_108 (R : pz_Ms h) {k : Nat} (hk : k < 2) : zq_ai h 108 (nI k) = some (pz_i h 108 k) := pz_ai (L := 2) (by have := R.1; omega) rfl hk (by omega)
theorem ms_108 (R : pz_Ms h) {k : Nat} (hk : k < 2) (v : Int32) : zq_si h 108 (nI k) v = some (pz_S h 108 k v) := pz_si (L := 2) (by have := R.1; omega) rfl hk (by omega) v
theorem d_take (H : pz_M h A) (x : Int32) : ∃ o, f_X6_take h 104 x = some o ∧ pz_om cdA h A (R_take A x) o := by
  unfold f_X6_take R_take
  rw [m_isSnapshot, Option.bind_some]
  cases h1 : pz_inb 2 x with
  | false =>
    rw [if_pos (show false = false from rfl), if_neg (show ¬ (false = true) by simp), mq_p H.1, Option.bind_some]
    exact ⟨_, rfl, pz_om.t H rfl⟩
  | true =>
    obtain ⟨s, hs, rfl⟩ := pz_inb_of (by omega) h1
    have H0 := H.z0
    rw [if_neg (show ¬ (true = false) by simp), if_pos (show true = true from rfl), nI_clamp (by omega), mq_p H.1, Option.bind_some, mq_4 H0.1, Option.bind_some, ms_108 H0.1 hs, Option.bind_some]
    generalize hk1 : pz_S (pz_S h 104 7 0) 108 s 1 = k1
    have R1 : pz_Ms k1 := by rw [← hk1]; exact H.1
    refine pz_lpIB (fun i st => st.1 = nI i ∧ st.2.1 = k1.1 ∧ st.2.2.2 = k1.2.2 ∧ (∀ a j, ¬ (a = 107 ∧ 5 * s ≤ j ∧ j < 5 * s + 5) → pz_i st.2 a j = pz_i k1 a j) ∧ ∀ c, c < i → pz_i st.2 107 (5 * s + c) = pz_i k1 105 c) 5 (fun h' => h'.1 = k1.1 ∧ h'.2.2 = k1.2.2 ∧ (∀ a j, ¬ (a = 107 ∧ 5 * s ≤ j ∧ j < 5 * s + 5) → pz_i h' a j = pz_i k1 a j) ∧ ∀ c, c < 5 → pz_i h' 107 (5 * s + c) = pz_i k1 105 c) ?_ ⟨rfl, rfl, rfl, fun _ _ _ => rfl, fun c hc => absurd hc (Nat.not_lt_zero _)⟩ ?_ ?_ (by omega)
    · rintro h' ⟨q1, q2, q3, q4⟩
      have R' : pz_Ms h' := R1.rr q1 (fun j => by unfold pz_r; rw [q2])
      have i1 : ∀ a j, ¬ (a = 108 ∧ j = s) → ¬ (a = 104 ∧ j = 7) → pz_i k1 a j = pz_i h a j := fun a j u v => by
        rw [← hk1, pz_S_i, if_neg u, pz_S_i, if_neg v]
      have ii : ∀ a j, ¬ (a = 107 ∧ 5 * s ≤ j ∧ j < 5 * s + 5) → ¬ (a = 108 ∧ j = s) → ¬ (a = 104 ∧ j = 7) → pz_i h' a j = pz_i h a j := fun a j u v w => by
        rw [q3 a j u, i1 a j v w]
      obtain ⟨s1, s2, s3, s4, s5, s6⟩ := id H.2.2.1
      have S1 : pz_5r h' 105 0 A.1 := s1.eq (fun c _ => ii _ _ (by omega) (by omega) (by omega))
      rw [mq_0 R', Option.bind_some, mq_z0 R', S1.1, Option.bind_some]
      refine ⟨_, rfl, rfl, ?_, ⟨R', H.2.1.of (fun a j u => ii a j (by omega) (by omega) (by omega)), ⟨S1, s2, by rw [ii 104 1 (by omega) (by omega) (by omega)]; exact s3, s4, fun i hi => ⟨(s5 i hi).1.eq (fun c _ => ii _ _ (by omega) (by omega) (by omega)), (s5 i hi).2⟩, fun s' hs' => ?_⟩, H.2.2.2.of (fun a j u => ii a j (by omega) (by omega) (by omega))⟩, ⟨?_, fun a ha j => ⟨ii a j (by omega) (by omega) (by omega), ?_, ?_⟩⟩⟩
      · show pz_i h' 104 7 = 0
        rw [q3 104 7 (by omega), ← hk1, pz_S_i, if_neg (by omega), pz_S_i, if_pos ⟨rfl, rfl⟩]
      · by_cases q : s' = s
        · subst q
          have e : pz_us A.2.2.2.1 s' A.1 s' = some A.1 := if_pos rfl
          show pz_i h' 108 s' = nI (pz_so (pz_us A.2.2.2.1 s' A.1 s')) ∧ ∀ m, pz_us A.2.2.2.1 s' A.1 s' = some m → pz_5r h' 107 (5 * s') m ∧ pz_V 6 m
          rw [e]
          refine ⟨by rw [q3 108 s' (by omega), ← hk1, pz_S_i, if_pos ⟨rfl, rfl⟩]; rfl, fun m hm => ?_⟩
          cases hm
          exact ⟨s1.eq (fun c hc => by rw [q4 c hc, i1 105 c (by omega) (by omega), Nat.zero_add]), s2⟩
        · have e : pz_us A.2.2.2.1 s A.1 s' = A.2.2.2.1 s' := if_neg q
          show pz_i h' 108 s' = nI (pz_so (pz_us A.2.2.2.1 s A.1 s')) ∧ ∀ m, pz_us A.2.2.2.1 s A.1 s' = some m → pz_5r h' 107 (5 * s') m ∧ pz_V 6 m
          rw [e]
          exact ⟨by rw [ii 108 s' (by omega) (by omega) (by omega)]; exact (s6 s' hs').1, fun m hm => ⟨((s6 s' hs').2 m hm).1.eq (fun c _ => ii _ _ (by omega) (by omega) (by omega)), ((s6 s' hs').2 m hm).2⟩⟩
      · show h'.1 = h.1
        rw [q1, ← hk1]; rfl
      · show pz_j h' a j = pz_j h a j
        unfold pz_j; rw [q2, ← hk1]; rfl
      · show pz_r h' a j = pz_r h a j
        unfold pz_r; rw [q2, ← hk1]; rfl
    · rintro i ⟨x, k0⟩ hi ⟨e1, e2, e3, e4, e5⟩
      simp only at e1 e2 e3 e4 e5
      subst e1
      have R' : pz_Ms k0 := R1.rr e2 (fun j => by unfold pz_r; rw [e3])
      refine ⟨(nI (i + 1), pz_S k0 107 (5 * s + i) (pz_i k1 105 i)), ?_, rfl, e2, e3, fun a j u => ?_, fun c hc => ?_⟩
      · rw [if_neg (show ¬ (5 : Int32) ≤ nI i from nI_ge (a := i) (b := 5) hi (by omega)), mq_3 R', Option.bind_some, mq_0 R', Option.bind_some, mq_z R' hi, e4 105 i (by omega), Option.bind_some, show (5 : Int32) = nI 5 from rfl, pk_mul, nI_add, ms_107 R' (by omega), Option.bind_some]
        simp only [zq_let, nI_1]
      · rw [pz_S_i, if_neg (by omega)]; exact e4 a j u
      · rw [pz_S_i]
        by_cases q : c = i
        · subst q; rw [if_pos ⟨rfl, rfl⟩]
        · rw [if_neg (by omega)]; exact e5 c (by omega)
    · rintro ⟨x, k0⟩ ⟨e1, e2, e3, e4, e5⟩
      simp only at e1 e2 e3 e4 e5
      subst e1
      exact ⟨k0, if_pos (show (5 : Int32) ≤ nI 5 from nI_le (Nat.le_refl _) (by omega)), e2, e3, e4, e5⟩
/-- a row of five is copied into the present -/
theorem m_copy5 (R : pz_Ms h) {L o r : Nat} (hL : L ≤ 5) (hr : r ≠ 105) {body : Int32 × zq_H → Option ((Int32 × zq_H) ⊕ zq_H)}
    (hb : ∀ (k0 : zq_H) (i : Nat), pz_Ms k0 → pz_mz h k0 → i < L → body (nI i, k0) = some (.inl (nI (i + 1), pz_S k0 105 i (pz_i h r (o + i)))))
    (he : ∀ k0 : zq_H, body (nI L, k0) = some (.inr k0))
    {α : Type} {k : zq_H → Option α} {P : α → Prop} (hk : ∀ h', pz_mz h h' → (∀ c, c < L → pz_i h' 105 c = pz_i h r (o + c)) → (∀ c, L ≤ c → pz_i h' 105 c = pz_i h 105 c) → ∃ y, k h' = some y ∧ P y) :
    ∃ y, (zq_lp (σ := Int32 × zq_H) (ρ := zq_H) body zq_N (0, h)).bind k = some y ∧ P y := by
  refine pz_lpIB (fun i st => st.1 = nI i ∧ pz_mz h st.2 ∧ (∀ c, c < i → pz_i st.2 105 c = pz_i h r (o + c)) ∧ ∀ c, i ≤ c → pz_i st.2 105 c = pz_i h 105 c) L (fun h' => pz_mz h h' ∧ (∀ c, c < L → pz_i h' 105 c = pz_i h r (o + c)) ∧ ∀ c, L ≤ c → pz_i h' 105 c = pz_i h 105 c) (fun h' q => hk h' q.1 q.2.1 q.2.2) ⟨rfl, pz_mz.rf, fun c hc => absurd hc (Nat.not_lt_zero _), fun _ _ => rfl⟩ ?_ ?_ (by omega)
  · rintro i ⟨x, k0⟩ hi ⟨e1, e2, e3, e4⟩
    simp only at e1 e2 e3 e4
    subst e1
    have R' : pz_Ms k0 := R.rr e2.1 (fun j => by unfold pz_r; rw [e2.2.1])
    refine ⟨(nI (i + 1), pz_S k0 105 i (pz_i h r (o + i))), hb k0 i R' e2 hi, rfl, e2.tr pz_mz.S, fun c hc => ?_, fun c hc => ?_⟩
    · rw [pz_S_i]
      by_cases q : c = i
      · subst q; rw [if_pos ⟨rfl, rfl⟩]
      · rw [if_neg (by omega)]; exact e3 c (by omega)
    · rw [pz_S_i, if_neg (by omega)]; exact e4 c (by omega)
  · rintro ⟨x, k0⟩ ⟨e1, e2, e3, e4⟩
    simp only at e1 e2 e3 e4
    subst e1
    exact ⟨k0, he k0, e2, e3, e4⟩
theorem d_restore (H : pz_M h A) (x : Int32) : ∃ o, f_X6_restore h 104 x = some o ∧ pz_om cdA h A (R_restore A x) o := by
  unfold f_X6_restore R_restore
  rw [m_isSnapshot, Option.bind_some]
  cases h1 : pz_inb 2 x with
  | false =>
    rw [if_pos (show false = false from rfl), if_neg (show ¬ (false = true) by simp), mq_p H.1, Option.bind_some]
    exact ⟨_, rfl, pz_om.t H rfl⟩
  | true =>
    obtain ⟨s, hs, rfl⟩ := pz_inb_of (by omega) h1
    have H0 := H.z0
    have H00 := H0.z0
    obtain ⟨p1, p2⟩ := H0.2.2.1.2.2.2.2.2 s hs
    rw [if_neg (show ¬ (true = false) by simp), if_pos (show true = true from rfl), nI_clamp (by omega), mq_p H.1, Option.bind_some, mq_4 H0.1, Option.bind_some, mq_108 H0.1 hs, Option.bind_some, p1]
    cases hm : A.2.2.2.1 s with
    | none =>
      rw [if_neg (show ¬ nI (pz_so none) = 1 by decide), mq_p H0.1, Option.bind_some]
      have l := (pz_mt.t (h := pz_S h 104 7 0) 2)
      exact ⟨_, rfl, pz_om.x (by rw [pz_S_i, if_pos ⟨rfl, rfl⟩]; rfl) (l.M H0) (pz_km0.tr l.km)⟩
    | some m =>
      obtain ⟨k, e1, e2, e3, e4⟩ := m_begin0 H0
      rw [if_pos (show nI (pz_so (some m)) = 1 by rfl), mq_p H0.1, Option.bind_some, mq_ck H00.1, e1, Option.bind_some]
      obtain ⟨s1, s2, s3, s4, s5, s6⟩ := id e2.2.2.1
      obtain ⟨m1, m2⟩ := (s6 s hs).2 m hm
      refine m_copy5 e2.1 (L := 4) (o := 5 * s) (r := 107) (by omega) (by omega) (fun k0 i R' l hi => ?_) (fun k0 => if_pos (show (4 : Int32) ≤ nI 4 from nI_le (Nat.le_refl _) (by omega))) (fun h' l c1 c2 => ?_)
      · show (if (4 : Int32) ≤ nI i then _ else _) = _
        rw [if_neg (show ¬ (4 : Int32) ≤ nI i from nI_ge (a := i) (b := 4) hi (by omega)), mq_0 R', Option.bind_some, mq_3 R', Option.bind_some, show (5 : Int32) = nI 5 from rfl, pk_mul, nI_add, mq_107 R' (by omega), l.2.2 107 _ (by omega), Option.bind_some, mz_s R' (by omega), Option.bind_some]
        simp only [zq_let, nI_1]
      · have R' : pz_Ms h' := e2.1.rr l.1 (fun j => by unfold pz_r; rw [l.2.1])
        have V' : pz_V 6 (m.1, m.2.1, m.2.2.1, m.2.2.2.1, A.1.2.2.2.2) := m2
        have S' : pz_MS h' (m.1, m.2.1, m.2.2.1, m.2.2.2.1, A.1.2.2.2.2) (pz_sn A.2.1) (pz_sv A.1 A.2.1 A.2.2.1) A.2.2.2.1 := ⟨⟨(c1 0 (by omega)).trans m1.1, (c1 1 (by omega)).trans m1.2.1, (c1 2 (by omega)).trans m1.2.2.1, (c1 3 (by omega)).trans m1.2.2.2.1, (c2 4 (by omega)).trans s1.2.2.2.2⟩, V', by rw [l.2.2 104 1 (by omega)]; exact s3, s4, fun i hi => ⟨(s5 i hi).1.eq (fun c _ => l.2.2 _ _ (by omega)), (s5 i hi).2⟩, fun s' hs' => ⟨by rw [l.2.2 108 s' (by omega)]; exact (s6 s' hs').1, fun m' hm' => ⟨((s6 s' hs').2 m' hm').1.eq (fun c _ => l.2.2 _ _ (by omega)), ((s6 s' hs').2 m' hm').2⟩⟩⟩
        have T' : pz_Tb h' A.1.1 := e2.2.1.of (fun a j q => l.2.2 a j (by omega))
        obtain ⟨h'', f1, f2, f3, f4, f5⟩ := m_relay (A := pz_sa A (m.1, m.2.1, m.2.2.1, m.2.2.2.1, A.1.2.2.2.2)) R' T' S' (e2.2.2.2.of (fun a j q => l.2.2 a j (by omega)))
        have z0 : pz_i h'' 105 0 = nI (m.1 + 4) := f2.2.2.1.1.1
        rw [mq_ck R', f1, Option.bind_some, mq_0 f2.1, Option.bind_some, mq_z0 f2.1, z0, Option.bind_some]
        exact ⟨_, rfl, rfl, by rw [f4, l.2.2 104 7 (by omega)]; exact e4, f2, ((pz_km0.tr e3).tr l.km).tr f3⟩
theorem d_undo (H : pz_M h A) : ∃ o, f_X6_undo h 104 = some o ∧ pz_om cdC h A (R_undo A) o := by
  unfold f_X6_undo R_undo
  obtain ⟨s1, s2, s3, s4, s5, s6⟩ := id H.2.2.1
  rw [mq_i H.1, s3, Option.bind_some]
  by_cases h0 : A.2.1 = 0
  · rw [if_pos h0, if_pos (show nI A.2.1 ≤ 0 by rw [h0]; decide), mq_p H.1, Option.bind_some]
    exact ⟨_, rfl, pz_om.t H rfl⟩
  · obtain ⟨sn, hsn⟩ : ∃ sn, A.2.1 = sn + 1 := ⟨A.2.1 - 1, by omega⟩
    have H0 := H.z0
    obtain ⟨v1, v2⟩ := s5 sn (by omega)
    rw [if_neg h0, if_neg (show ¬ nI A.2.1 ≤ 0 from nI_ge (a := 0) (by omega) (by omega)), mq_p H.1, Option.bind_some, mq_i H0.1, pz_S_i, if_neg (by omega), s3, Option.bind_some, hsn, show nI (sn + 1) - 1 = nI sn by rw [show (1 : Int32) = nI 1 from rfl, pk_sub (by omega)]; rfl, mq_p H0.1, Option.bind_some]
    generalize hk1 : pz_S (pz_S h 104 7 0) 104 1 (nI sn) = k1
    have R1 : pz_Ms k1 := by rw [← hk1]; exact H.1
    have ii : ∀ a j, ¬ (a = 104 ∧ j = 1) → ¬ (a = 104 ∧ j = 7) → pz_i k1 a j = pz_i h a j := fun a j u v => by rw [← hk1, pz_S_i, if_neg u, pz_S_i, if_neg v]
    have i1 : pz_i k1 104 1 = nI sn := by rw [← hk1, pz_S_i, if_pos ⟨rfl, rfl⟩]
    have i7 : pz_i k1 104 7 = 0 := by rw [← hk1, pz_S_i, if_neg (by omega), pz_S_i, if_pos ⟨rfl, rfl⟩]
    have kk : pz_km h k1 := ⟨by rw [← hk1]; rfl, fun a ha j => ⟨ii a j (by omega) (by omega), by rw [← hk1]; rfl, by rw [← hk1]; rfl⟩⟩
    refine m_copy5 R1 (L := 5) (o := 5 * sn) (r := 106) (by omega) (by omega) (fun k0 i R' l hi => ?_) (fun k0 => if_pos (show (5 : Int32) ≤ nI 5 from nI_le (Nat.le_refl _) (by omega))) (fun h' l c1 c2 => ?_)
    · show (if (5 : Int32) ≤ nI i then _ else _) = _
      rw [if_neg (show ¬ (5 : Int32) ≤ nI i from nI_ge (a := i) (b := 5) hi (by omega)), mq_0 R', Option.bind_some, mq_2 R', Option.bind_some, mq_i R', l.2.2 104 1 (by omega), i1, Option.bind_some, show (5 : Int32) = nI 5 from rfl, pk_mul, nI_add, mq_106 R' (by omega), l.2.2 106 _ (by omega), Option.bind_some, mz_s R' (by omega), Option.bind_some]
      simp only [zq_let, nI_1]
    · have R' : pz_Ms h' := R1.rr l.1 (fun j => by unfold pz_r; rw [l.2.1])
      have jj : ∀ a j, a ≠ 105 → ¬ (a = 104 ∧ j = 1) → ¬ (a = 104 ∧ j = 7) → pz_i h' a j = pz_i h a j := fun a j u v w => by rw [l.2.2 a j u, ii a j v w]
      have S' : pz_MS h' (A.2.2.1 sn) sn A.2.2.1 A.2.2.2.1 := ⟨v1.eq (fun c hc => by rw [Nat.zero_add, c1 c hc, ii 106 _ (by omega) (by omega)]), v2, by rw [l.2.2 104 1 (by omega)]; exact i1, by omega, fun i hi => ⟨(s5 i (by omega)).1.eq (fun c _ => jj _ _ (by omega) (by omega) (by omega)), (s5 i (by omega)).2⟩, fun s' hs' => ⟨by rw [jj 108 s' (by omega) (by omega) (by omega)]; exact (s6 s' hs').1, fun m' hm' => ⟨((s6 s' hs').2 m' hm').1.eq (fun c _ => jj _ _ (by omega) (by omega) (by omega)), ((s6 s' hs').2 m' hm').2⟩⟩⟩
      have T' : pz_Tb h' A.1.1 := H.2.1.of (fun a j q => jj a j (by omega) (by omega) (by omega))
      obtain ⟨h'', f1, f2, f3, f4, f5⟩ := m_relay (A := (A.2.2.1 sn, sn, A.2.2)) R' T' S' (H.2.2.2.of (fun a j q => jj a j (by omega) (by omega) (by omega)))
      have z1 : pz_i h'' 104 1 = nI sn := f2.2.2.1.2.2.1
      rw [mq_ck R', f1, Option.bind_some, mq_i f2.1, z1, Option.bind_some]
      exact ⟨_, rfl, rfl, by rw [f4, l.2.2 104 7 (by omega)]; exact i7, f2, (kk.tr l.km).tr f3⟩
theorem m_nf {n : pz_5} (H : pz_M h (pz_sa A n)) : ∃ h', f_X6_nextFlip h 104 = some (nI (pz_nf n.1 n.2.2.2.1 n.2.1 n.2.2.1), h') ∧ pz_mg h h' := by
  have V : pz_V 6 n := H.V
  exact m_nextFlip (g := n.1) H.1 H.d H.2.1.2.2.2.2.2.1 H.2.1.2.2.2.2.2.2.1 V.T.2.1 V.T.2.2.2 V.T.2.2.1 H.z1 H.z2 H.z3
theorem d_walk (H : pz_M h A) (x : Int32) : ∃ o, f_X6_walk h 104 x = some o ∧ pz_om cdB h A (R_walk A x) o := by
  have hg := H.V.T.1
  unfold f_X6_walk R_walk
  rw [m_within3, Option.bind_some]
  cases hb : pz_bt2 1 20 x with
  | false =>
    rw [if_pos (show false = false from rfl), if_neg (show ¬ (false = true) by simp), mq_p H.1, Option.bind_some]
    exact ⟨_, rfl, pz_om.t H rfl⟩
  | true =>
    obtain ⟨h1, h2⟩ := of_decide_eq_true hb
    have hx0 : ¬ x < 0 := fun e => h1 (Int32.lt_trans e (by decide))
    obtain ⟨k, hk, rfl⟩ := nI_of hx0
    have hk20 : k ≤ 20 := by
      rcases Nat.lt_or_ge 20 k with e | e
      · exact absurd (nI_lt (a := 20) e hk) h2
      · exact e
    have Hm := H.2.1.2.2.2.2.2.1
    have Hl := H.2.1.2.2.2.2.2.2.1
    obtain ⟨h', e1, e2⟩ := m_lockedFrom H.1 H.d Hm Hl H.V.T.2.1 H.V.T.2.2.2 H.V.T.2.2.1 H.z2 H.z3
    have H' := e2.M H
    rw [if_neg (show ¬ (true = false) by simp), if_pos (show true = true from rfl), nI_clamp hk, mq_0 H.1, Option.bind_some, mz_a1 H, Option.bind_some, mq_ck H.1, e1, Option.bind_some]
    cases hd : pz_ds A.1.1 A.1.2.2.2.1 A.1.2.1 A.1.2.2.1 with
    | none =>
      rw [if_pos (show pz_cd none = -1 from rfl), if_pos rfl, mq_p H'.1, Option.bind_some]
      have l := (pz_mt.t (h := h') 2)
      exact ⟨_, rfl, pz_om.x (by rw [pz_S_i, if_pos ⟨rfl, rfl⟩]; rfl) (l.M H') (e2.mt.km.tr l.km)⟩
    | some d0 =>
      have hdl := pz_ds_lt hg H.V.T.2.1 (pz_T_27 hg H.V.T.2.2.1) hd
      obtain ⟨k1, f1, f2, f3, f4⟩ := m_begin0 H'
      obtain ⟨k2, g1, g2⟩ := m_nf f2
      have M2 : pz_M k2 (pz_sa A A.1) := g2.M f2
      rw [if_neg (show ¬ pz_cd (some d0) = -1 by show ¬ nI d0 = -1; rw [pz_eqm1 (by omega)]; exact id), if_neg (by simp), mq_p H'.1, Option.bind_some, mq_ck H'.z0.1, f1, Option.bind_some, mq_ck f2.1, g1, Option.bind_some]
      refine pz_lpMB (fun s => ∃ i, (pz_wa A.1 i).1 = i ∧ i ≤ k ∧ s.1 = nI i ∧ s.2.1 = nI (pz_nf (pz_wa A.1 i).2.1 (pz_wa A.1 i).2.2.2.2.1 (pz_wa A.1 i).2.2.1 (pz_wa A.1 i).2.2.2.1) ∧ pz_M s.2.2 (pz_sa A (pz_wa A.1 i).2) ∧ pz_i s.2.2 104 7 = 0 ∧ pz_km h s.2.2) (fun s => 100 - s.1.toNatClampNeg) (fun r => r.1 = nI (pz_wa A.1 k).1 ∧ pz_M r.2 (pz_sa A (pz_wa A.1 k).2) ∧ pz_i r.2 104 7 = 0 ∧ pz_km h r.2) ?_ ⟨0, rfl, by omega, rfl, rfl, M2, by rw [g2.th]; exact f4, (e2.mt.km.tr f3).tr g2.mt.km⟩ (by simp only; omega) ?_
      · rintro ⟨r1, r2⟩ ⟨q1, q2, q3, q4⟩
        simp only at q1 q2 q3 q4
        subst q1
        exact ⟨_, rfl, rfl, q3, q2, q4⟩
      · rintro ⟨s1, s2, s3⟩ ⟨i, q0, q1, q2, q3, q4, q5, q6⟩
        simp only at q1 q2 q3 q4 q5 q6
        subst q2; subst q3
        by_cases hi : k ≤ i
        · have : i = k := by omega
          subst this
          exact Or.inr ⟨_, if_pos (nI_le (Nat.le_refl _) (by omega)), by show _ = nI _; rw [q0], q4, q5, q6⟩
        · rw [if_neg (nI_ge (by omega) hk)]
          by_cases hX : pz_nf (pz_wa A.1 i).2.1 (pz_wa A.1 i).2.2.2.2.1 (pz_wa A.1 i).2.2.1 (pz_wa A.1 i).2.2.2.1 = pz_X
          · rw [hX, if_pos (show nI pz_X = -1 by decide)]
            have hst := pz_wa_stop hX (k - i)
            rw [show i + (k - i) = k by omega] at hst
            exact Or.inr ⟨_, rfl, by rw [hst, q0], by rw [hst]; exact q4, q5, q6⟩
          · obtain ⟨b1, b2, b3⟩ := pz_nf_bit hX
            have hws := pz_wa_s A.1 i
            rw [if_neg hX] at hws
            generalize pz_nf (pz_wa A.1 i).2.1 (pz_wa A.1 i).2.2.2.2.1 (pz_wa A.1 i).2.2.1 (pz_wa A.1 i).2.2.2.1 = d at b1 b2 b3 hX hws ⊢
            generalize hn : (pz_wa A.1 i).2 = n at b1 b2 b3 hX hws q4 ⊢
            have V : pz_V 6 n := q4.V
            have hnd := pz_nd_le V.T.1
            have a1 : zq_ai s3 105 1 = some (nI n.2.1) := mz_a1 (A := pz_sa A n) q4
            have Dn : pz_Md s3 n.1 := q4.d
            have R1 : pz_Ms (pz_S s3 105 1 (nI (pz_fl n.1 n.2.1 d))) := q4.1
            have S1 : pz_5r (pz_S s3 105 (1 + 0) (nI (pz_fl n.1 n.2.1 d))) 105 0 _ := z5_put q4.2.2.1.1 (w := 0) (by omega) (pz_fl n.1 n.2.1 d)
            have a4 : pz_i (pz_S s3 105 1 (nI (pz_fl n.1 n.2.1 d))) 105 4 = n.2.2.2.2 := by
              rw [pz_S_i, if_neg (by omega)]; exact q4.2.2.1.1.2.2.2.2
            have S2 := z5_f S1 (n.2.2.2.2 + 1)
            have l : pz_mz s3 (pz_S (pz_S s3 105 1 (nI (pz_fl n.1 n.2.1 d))) 105 4 (n.2.2.2.2 + 1)) := pz_mz.S.tr pz_mz.S
            have M4 : pz_M (pz_S (pz_S s3 105 1 (nI (pz_fl n.1 n.2.1 d))) 105 4 (n.2.2.2.2 + 1)) (pz_sa A (pz_mf n 0 d)) := l.M (A := pz_sa A n) q4 S2 (pz_mf_V V (w := 0) b2 (fun _ => b3)) rfl
            obtain ⟨k5, u1, u2⟩ := m_nf M4
            have M5 : pz_M k5 (pz_sa A (pz_mf n 0 d)) := u2.M M4
            rw [if_neg (show ¬ nI d = -1 by rw [pz_eqm1 (by omega)]; exact id), mq_0 q4.1, Option.bind_some, Option.bind_some, a1, Option.bind_some, mq_ck q4.1, m_behindFlip q4.1 Dn V.T.2.1 b2, Option.bind_some, mz_s1 q4.1, Option.bind_some, mq_0 R1, Option.bind_some, mq_z4 R1, a4, Option.bind_some, mz_s4 R1, Option.bind_some]
            simp only [zq_let, nI_1]
            rw [mq_ck M4.1, u1, Option.bind_some]
            refine Or.inl ⟨_, rfl, ⟨i + 1, by rw [hws]; show _ + 1 = _; rw [q0], by omega, rfl, by rw [hws], by rw [hws]; exact M5, ?_, (q6.tr l.km).tr u2.mt.km⟩, ?_⟩
            · show pz_i k5 104 7 = 0
              rw [u2.th, l.2.2 104 7 (by omega)]; exact q5
            · simp only
              rw [nI_clamp (by omega), nI_clamp (by omega)]
              omega
end PZME
