/-! the class: its states change -/
/-- only the State at p differs -/
theorem s_copy {h : zq_H} {p q : Nat} {n : pz_5} (hp : p < h.1) (hq : q < h.1) (sp : (zq_sh p).1 = 3) (sq : (zq_sh q).1 = 3) (hpq : p ≠ q) (A : pz_At h q n) : ∃ h', f_X3_copy h p q = some h' ∧ pz_At h' p n ∧ pz_ag (fun a => a ≠ p) h h' := by
  have g0 : zq_gr h q 3 0 = some (2 + 12 * n.1) := (pz_gr hq sq).trans A.1
  refine ⟨pz_S (pz_S (pz_S (pz_S (pz_R h p 0 (2 + 12 * n.1)) p 1 (nI n.2.1)) p 2 (nI n.2.2.1)) p 3 (nI n.2.2.2.1)) p 4 n.2.2.2.2, ?_, ?_, ?_⟩
  · unfold f_X3_copy
    have gi : ∀ (k : zq_H) (j : Nat), k.1 = h.1 → zq_gi k q 3 j = some (pz_i k q j) := fun k j hk => pz_gi (by rw [hk]; exact hq) sq
    have pi : ∀ (k : zq_H) (j : Nat) (v : Int32), k.1 = h.1 → zq_pi k p 3 j v = some (pz_S k p j v) := fun k j v hk => pz_pi (by rw [hk]; exact hp) sp v
    rw [g0, Option.bind_some, pz_pr hp sp, Option.bind_some, gi _ _ (by rfl), Option.bind_some, pz_R_i, A.2.1, pi _ _ _ (by rfl), Option.bind_some, gi _ _ (by rfl), Option.bind_some, pz_S_i, if_neg (by omega), pz_R_i, A.2.2.1, pi _ _ _ (by rfl), Option.bind_some, gi _ _ (by rfl), Option.bind_some, pz_S_i, if_neg (by omega), pz_S_i, if_neg (by omega), pz_R_i, A.2.2.2.1, pi _ _ _ (by rfl), Option.bind_some, gi _ _ (by rfl), Option.bind_some, pz_S_i, if_neg (by omega), pz_S_i, if_neg (by omega), pz_S_i, if_neg (by omega), pz_R_i, A.2.2.2.2, pi _ _ _ (by rfl), Option.bind_some]
  · refine ⟨?_, ?_, ?_, ?_, ?_⟩
    · simp only [pz_S_r, pz_R_r, and_self, if_true]
    · simp [pz_S_i]
    · simp [pz_S_i]
    · simp [pz_S_i]
    · simp [pz_S_i]
  · exact ((((pz_ag.R (by simp)).tr (pz_ag.S (by simp))).tr (pz_ag.S (by simp))).tr (pz_ag.S (by simp))).tr (pz_ag.S (by simp))
/-- the abstract state -/
abbrev pz_A : Type := pz_5 × Nat × (Nat → pz_5) × (Nat → Option pz_5) × Nat × (Nat → Nat)
def pz_C (h : zq_H) (A : pz_A) : Prop := ∃ b, pz_CB h b A.2.2.2.2.1 A.2.2.2.2.2 ∧ pz_CS h b A.1 A.2.1 A.2.2.1 A.2.2.2.1
/-- the class keeps its hands off what isn't its own -/
def pz_kc (h h' : zq_H) : Prop := pz_ag (fun a => 104 ≤ a) h h'
theorem pz_la.kc {h h' : zq_H} (l : pz_la h h') : pz_kc h h' := pz_ag.mono l (fun a ha => Or.inr ha)
theorem pz_kc.tr {a b c : zq_H} (h1 : pz_kc a b) (h2 : pz_kc b c) : pz_kc a c := pz_ag.tr h1 h2
/-- what a call of the class tells: a value, or the kind of what it throws -/
def pz_oc (h : zq_H) (A : pz_A) (R : (Int32 × pz_A) ⊕ Nat) (o : (Int32 × zq_H) ⊕ (Nat × zq_H)) : Prop := match R with
  | .inl r => ∃ h', o = .inl (r.1, h') ∧ pz_C h' r.2 ∧ pz_kc h h'
  | .inr k => ∃ h', o = .inr (k, h') ∧ pz_C h' A ∧ pz_kc h h'
def pz_sn (sn : Nat) : Nat := if sn = 6 then 6 else sn + 1
def pz_sv (n : pz_5) (sn : Nat) (sv : Nat → pz_5) : Nat → pz_5 := fun i => if sn = 6 then (if i < 5 then sv (i + 1) else n) else if i = sn then n else sv i
section PZST
variable {h h' : zq_H} {b tl sn : Nat} {tx : Nat → Nat} {n : pz_5} {sv : Nat → pz_5} {sp : Nat → Option pz_5}
/-- states alone differ -/
def pz_sf (h h' : zq_H) : Prop := pz_ag (fun a => (1 ≤ a ∧ a ≤ 73) ∨ a = 75 ∨ a = 82 ∨ 85 ≤ a) h h' ∧ ∀ j, pz_r h' 0 j = pz_r h 0 j
theorem pz_sf.rf : pz_sf h h := ⟨pz_ag.rf, fun _ => rfl⟩
theorem pz_sf.tr {a b c : zq_H} (h1 : pz_sf a b) (h2 : pz_sf b c) : pz_sf a c := ⟨h1.1.tr h2.1, fun j => (h2.2 j).trans (h1.2 j)⟩
theorem pz_sf.B (l : pz_sf h h') (B : pz_CB h b tl tx) : pz_CB h' b tl tx := by
  obtain ⟨C, Cg, Cr, Ct⟩ := B
  refine ⟨C.r l.1.1 (fun a j ha => ?_), Cg.ag l.1 (fun a h1 h2 => by omega), Cr.ag l.1 (fun a h1 h2 => by omega), Ct.ag l.1 (by omega)⟩
  by_cases q : a = 0
  · rw [q]; exact l.2 j
  · exact l.1.r (by omega) j
theorem pz_sf.kc (l : pz_sf h h') : pz_kc h h' := l.1.mono (fun a ha => by omega)
theorem pz_sf.S {p j : Nat} {v : Int32} (hp : p = 74 ∨ (p = 0) ∨ (76 ≤ p ∧ p ≤ 81) ∨ (83 ≤ p ∧ p ≤ 84)) : pz_sf h (pz_S h p j v) := ⟨pz_ag.S (by omega), fun _ => rfl⟩
theorem pz_sf.of {p : Nat} (hp : p = 74 ∨ (76 ≤ p ∧ p ≤ 81) ∨ (83 ≤ p ∧ p ≤ 84)) (l : pz_ag (fun a => a ≠ p) h h') : pz_sf h h' := ⟨l.mono (fun a ha => by omega), fun j => l.r (by omega) j⟩
theorem pz_sh3 : ∀ p, (p = 74 ∨ (76 ≤ p ∧ p ≤ 81) ∨ (83 ≤ p ∧ p ≤ 84)) → (zq_sh p).1 = 3 := by
  intro p hp
  have h1 : ∀ p, p < 85 → (p = 74 ∨ (76 ≤ p ∧ p ≤ 81) ∨ (83 ≤ p ∧ p ≤ 84)) → (zq_sh p).1 = 3 := by decide
  exact h1 p (by omega) hp
theorem sv_ck {α : Type} {k : Unit → Option α} (C : pz_Ca h) {p : Nat} (hp : p = 74 ∨ (76 ≤ p ∧ p ≤ 81) ∨ (83 ≤ p ∧ p ≤ 84)) : zq_ck h p 3 k = k () := pz_ck (by have := C.1; omega) (pz_sh3 p hp)
theorem s_saveState (B : pz_CB h b tl tx) (S : pz_CS h b n sn sv sp) : ∃ h', f_X5_saveState h 0 = some h' ∧ pz_CB h' b tl tx ∧ pz_CS h' b n (pz_sn sn) (pz_sv n sn sv) sp ∧ pz_kc h h' := by
  have C := B.1
  obtain ⟨a1, a2, a3, a4, a5, a6⟩ := S
  unfold f_X5_saveState
  rw [cq_i C, a4, Option.bind_some, cq_2 C, Option.bind_some, cq_n75 C, Option.bind_some]
  by_cases hs : sn = 6
  · subst hs
    rw [if_neg (by decide)]
    have hn : pz_sn 6 = 6 := rfl
    have hv : ∀ i, pz_sv n 6 sv i = if i < 5 then sv (i + 1) else n := fun i => if_pos rfl
    rw [hn]
    refine pz_lpIB (fun i s => s.1 = nI (i + 1) ∧ pz_sf h s.2 ∧ pz_i s.2 0 3 = nI 6 ∧ pz_At s.2 74 n ∧ (∀ j, j < 2 → ∀ x, pz_i s.2 (83 + j) x = pz_i h (83 + j) x ∧ pz_r s.2 (83 + j) x = pz_r h (83 + j) x) ∧ ∀ j, j < 6 → pz_At s.2 (76 + j) (if j < i then sv (j + 1) else sv j)) 5 (fun h' => pz_sf h h' ∧ pz_i h' 0 3 = nI 6 ∧ pz_At h' 74 n ∧ (∀ j, j < 2 → ∀ x, pz_i h' (83 + j) x = pz_i h (83 + j) x ∧ pz_r h' (83 + j) x = pz_r h (83 + j) x) ∧ ∀ j, j < 5 → pz_At h' (76 + j) (sv (j + 1))) ?_ ⟨rfl, pz_sf.rf, a4, a1, fun _ _ _ => ⟨rfl, rfl⟩, fun j hj => by rw [if_neg (by omega)]; exact (a5 j hj).1⟩ ?_ ?_ (by omega)
    · rintro k1 ⟨l1, b1, b2, b3, b4⟩
      have B1 := l1.B B
      have C1 := B1.1
      have l2 : pz_sf k1 (pz_S k1 0 3 (nI 5)) := pz_sf.S (by omega)
      have B2 := l2.B B1
      have A2 : pz_At (pz_S k1 0 3 (nI 5)) 74 n := b2.ag (Q := fun a => a ≠ 0) (pz_ag.S (by simp)) (by decide)
      obtain ⟨k2, e1, e2, e3⟩ := s_copy (h := pz_S k1 0 3 (nI 5)) (p := 81) (q := 74) (n := n) (by have := B2.1.1; omega) (by have := B2.1.1; omega) rfl rfl (by omega) A2
      have l3 : pz_sf (pz_S k1 0 3 (nI 5)) k2 := pz_sf.of (by omega) e3
      have B3 := l3.B B2
      have e4 : pz_i k2 0 3 = nI 5 := by rw [e3.i (by omega), pz_S_i, if_pos ⟨rfl, rfl⟩]
      have e1' : f_X3_copy (pz_S k1 0 3 (nI 5)) (76 + 5) 74 = some k2 := e1
      rw [cq_2 C1, Option.bind_some, cq_n75 C1, Option.bind_some, show nI 6 - 1 = nI 5 from rfl, cq_p C1, Option.bind_some, cq_2 B2.1, Option.bind_some, cq_i B2.1, pz_S_i, if_pos ⟨rfl, rfl⟩, Option.bind_some, cq_sv B2.1 (by omega), Option.bind_some, cq_1 B2.1, Option.bind_some, sv_ck B2.1 (by omega), e1', Option.bind_some, cq_i B3.1, e4, Option.bind_some, nI_1, cq_p B3.1, Option.bind_some]
      have l4 : pz_sf k2 (pz_S k2 0 3 (nI 6)) := pz_sf.S (by omega)
      have agz : pz_ag (fun a => a ≠ 0) k2 (pz_S k2 0 3 (nI 6)) := pz_ag.S (by simp)
      refine ⟨_, rfl, l4.B B3, ⟨?_, a2, by omega, by rw [pz_S_i, if_pos ⟨rfl, rfl⟩], fun i hi => ?_, fun s hs => ?_⟩, (l1.kc.tr l2.kc).tr (l3.kc.tr l4.kc)⟩
      · exact (A2.ag e3 (by omega)).ag agz (by omega)
      · rw [hv]
        by_cases q : i < 5
        · rw [if_pos q]
          exact ⟨(((b4 i q).ag (Q := fun a => a ≠ 0) (pz_ag.S (by simp)) (by omega)).ag e3 (by omega)).ag agz (by omega), (a5 (i + 1) (by omega)).2⟩
        · rw [if_neg q]
          have : i = 5 := by omega
          subst this
          exact ⟨e2.ag agz (by omega), a2⟩
      · have hr : ∀ x, pz_r (pz_S k2 0 3 (nI 6)) (83 + s) x = pz_r h (83 + s) x := fun x => by
          rw [pz_S_r, e3.r (by omega), pz_S_r, (b3 s hs x).2]
        have hi : ∀ x, pz_i (pz_S k2 0 3 (nI 6)) (83 + s) x = pz_i h (83 + s) x := fun x => by
          rw [pz_S_i, if_neg (by omega), e3.i (by omega), pz_S_i, if_neg (by omega), (b3 s hs x).1]
        rcases a6 s hs with ⟨d1, d2⟩ | ⟨m, d1, d2, d3⟩
        · exact Or.inl ⟨d1, by rw [hr]; exact d2⟩
        · refine Or.inr ⟨m, d1, ?_, d3⟩
          unfold pz_At
          rw [hr, hi, hi, hi, hi]
          exact d2
    · rintro i ⟨x, k1⟩ hi ⟨b0, l1, b1, b2, b3, b4⟩
      simp only at b0 l1 b1 b2 b3 b4
      subst b0
      have B1 := l1.B B
      have C1 := B1.1
      have A1 := b4 (i + 1) (by omega)
      rw [if_neg (by omega)] at A1
      obtain ⟨k2, e1, e2, e3⟩ := s_copy (h := k1) (p := 76 + i) (q := 76 + (i + 1)) (by have := C1.1; omega) (by have := C1.1; omega) (pz_sh3 _ (by omega)) (pz_sh3 _ (by omega)) (by omega) A1
      have l3 : pz_sf k1 k2 := pz_sf.of (by omega) e3
      refine ⟨(nI (i + 2), k2), ?_, rfl, l1.tr l3, by rw [e3.i (by omega)]; exact b1, b2.ag e3 (by omega), fun j hj x => by rw [e3.i (by omega), e3.r (by omega)]; exact b3 j hj x, fun j hj => ?_⟩
      · simp only [cq_2 C1, Option.bind_some, cq_n75 C1]
        rw [if_neg (nI_ge (show i + 1 < 6 by omega) (by omega)), nI_pred, cq_sv C1 (by omega), Option.bind_some, cq_sv C1 (by omega), Option.bind_some, sv_ck C1 (by omega), e1, Option.bind_some]
        simp only [zq_let, nI_1]
      · by_cases q : j = i
        · subst q
          rw [if_pos (by omega)]
          exact e2
        · have := (b4 j hj).ag e3 (by omega)
          by_cases q2 : j < i
          · rw [if_pos q2] at this
            rw [if_pos (by omega)]; exact this
          · rw [if_neg q2] at this
            rw [if_neg (by omega)]; exact this
    · rintro ⟨x, k1⟩ ⟨b0, l1, b1, b2, b3, b4⟩
      simp only at b0 l1 b1 b2 b3 b4
      subst b0
      have C1 := (l1.B B).1
      refine ⟨k1, ?_, l1, b1, b2, b3, fun j hj => ?_⟩
      · simp only [cq_2 C1, Option.bind_some, cq_n75 C1]
        rw [if_pos (by decide)]
      · have := b4 j (by omega)
        rw [if_pos hj] at this
        exact this
  · rw [if_pos (nI_lt (show sn < 6 by omega) (by omega))]
    have hn : pz_sn sn = sn + 1 := if_neg hs
    have hv : ∀ i, pz_sv n sn sv i = if i = sn then n else sv i := fun i => if_neg hs
    rw [hn]
    obtain ⟨k2, e1, e2, e3⟩ := s_copy (h := h) (p := 76 + sn) (q := 74) (n := n) (by have := C.1; omega) (by have := C.1; omega) (pz_sh3 _ (by omega)) rfl (by omega) a1
    have l3 : pz_sf h k2 := pz_sf.of (by omega) e3
    have B3 := l3.B B
    have e4 : pz_i k2 0 3 = nI sn := by rw [e3.i (by omega)]; exact a4
    rw [Option.bind_some, Option.bind_some, cq_sv C (by omega), Option.bind_some, cq_1 C, Option.bind_some, sv_ck C (by omega), e1, Option.bind_some, cq_i B3.1, e4, Option.bind_some, nI_1, cq_p B3.1, Option.bind_some]
    have l4 : pz_sf k2 (pz_S k2 0 3 (nI (sn + 1))) := pz_sf.S (by omega)
    have agz : pz_ag (fun a => a ≠ 0) k2 (pz_S k2 0 3 (nI (sn + 1))) := pz_ag.S (by simp)
    refine ⟨_, rfl, l4.B B3, ⟨(a1.ag e3 (by omega)).ag agz (by omega), a2, by omega, by rw [pz_S_i, if_pos ⟨rfl, rfl⟩], fun i hi => ?_, fun s hs => ?_⟩, l3.kc.tr l4.kc⟩
    · rw [hv]
      by_cases q : i = sn
      · rw [if_pos q]
        subst q
        exact ⟨e2.ag agz (by omega), a2⟩
      · rw [if_neg q]
        exact ⟨((a5 i (by omega)).1.ag e3 (by omega)).ag agz (by omega), (a5 i (by omega)).2⟩
    · rcases a6 s hs with ⟨d1, d2⟩ | ⟨m, d1, d2, d3⟩
      · exact Or.inl ⟨d1, by rw [pz_S_r, e3.r (by omega)]; exact d2⟩
      · exact Or.inr ⟨m, d1, (d2.ag e3 (by omega)).ag agz (by omega), d3⟩
/-- the present state changes alone -/
theorem pz_CS.now {n' : pz_5} (S : pz_CS h b n sn sv sp) (l : pz_ag (fun a => a ≠ 74) h h') (A : pz_At h' 74 n') (V : pz_V b n') : pz_CS h' b n' sn sv sp := by
  obtain ⟨a1, a2, a3, a4, a5, a6⟩ := S
  refine ⟨A, V, a3, by rw [l.i (by omega)]; exact a4, fun i hi => ⟨(a5 i hi).1.ag l (by omega), (a5 i hi).2⟩, fun s hs => ?_⟩
  rcases a6 s hs with ⟨d1, d2⟩ | ⟨m, d1, d2, d3⟩
  · exact Or.inl ⟨d1, by rw [l.r (by omega)]; exact d2⟩
  · exact Or.inr ⟨m, d1, d2.ag l (by omega), d3⟩
theorem pz_CB.now (B : pz_CB h b tl tx) (l : pz_ag (fun a => a ≠ 74) h h') : pz_CB h' b tl tx := (pz_sf.of (by omega) l).B B
theorem pz_kc.now (l : pz_ag (fun a => a ≠ 74) h h') : pz_kc h h' := l.mono (fun a ha => by omega)
/-- a mask is put in -/
def pz_pu (n : pz_5) (w m : Nat) : pz_5 := if w = 0 then (n.1, m, n.2.2) else (n.1, n.2.1, m, n.2.2.2)
theorem s_put (C : pz_Ca h) (A : pz_At h 74 n) {w : Nat} (hw : w < 2) (m : Nat) : ∃ h', f_X3_put h 74 (nI w) (nI m) = some h' ∧ pz_At h' 74 (pz_pu n w m) ∧ pz_ag (fun a => a ≠ 74) h h' := by
  unfold f_X3_put
  match w, hw with
  | 0, _ =>
    rw [if_pos (show nI 0 = 0 from rfl), aq_p C, Option.bind_some]
    refine ⟨_, rfl, ⟨?_, ?_, ?_, ?_, ?_⟩, pz_ag.S (by simp)⟩
    · exact A.1
    · rw [pz_S_i, if_pos ⟨rfl, rfl⟩]; rfl
    · rw [pz_S_i, if_neg (by omega)]; exact A.2.2.1
    · rw [pz_S_i, if_neg (by omega)]; exact A.2.2.2.1
    · rw [pz_S_i, if_neg (by omega)]; exact A.2.2.2.2
  | 1, _ =>
    rw [if_neg (show ¬ nI 1 = 0 by decide), aq_p C, Option.bind_some]
    refine ⟨_, rfl, ⟨?_, ?_, ?_, ?_, ?_⟩, pz_ag.S (by simp)⟩
    · exact A.1
    · rw [pz_S_i, if_neg (by omega)]; exact A.2.1
    · rw [pz_S_i, if_pos ⟨rfl, rfl⟩]; rfl
    · rw [pz_S_i, if_neg (by omega)]; exact A.2.2.2.1
    · rw [pz_S_i, if_neg (by omega)]; exact A.2.2.2.2
theorem pz_At.k (A : pz_At h 74 n) (K : Nat) : pz_At (pz_S h 74 3 (nI K)) 74 (n.1, n.2.1, n.2.2.1, K, n.2.2.2.2) := by
  refine ⟨A.1, ?_, ?_, ?_, ?_⟩
  · rw [pz_S_i, if_neg (by omega)]; exact A.2.1
  · rw [pz_S_i, if_neg (by omega)]; exact A.2.2.1
  · rw [pz_S_i, if_pos ⟨rfl, rfl⟩]
  · rw [pz_S_i, if_neg (by omega)]; exact A.2.2.2.2
theorem pz_At.f (A : pz_At h 74 n) (F : Int32) : pz_At (pz_S h 74 4 F) 74 (n.1, n.2.1, n.2.2.1, n.2.2.2.1, F) := by
  refine ⟨A.1, ?_, ?_, ?_, ?_⟩
  · rw [pz_S_i, if_neg (by omega)]; exact A.2.1
  · rw [pz_S_i, if_neg (by omega)]; exact A.2.2.1
  · rw [pz_S_i, if_neg (by omega)]; exact A.2.2.2.1
  · rw [pz_S_i, if_pos ⟨rfl, rfl⟩]
/-- a new triangulation: of the present one all locks are gone -/
def pz_pn (n : pz_5) (w m : Nat) : pz_5 := if w = 0 then (n.1, m, n.2.2.1, 0, n.2.2.2.2) else (n.1, n.2.1, m, n.2.2.2)
theorem s_putNew (C : pz_Ca h) (A : pz_At h 74 n) {w : Nat} (hw : w < 2) (m : Nat) : ∃ h', f_X5_putNew h 0 (nI w) (nI m) = some h' ∧ pz_At h' 74 (pz_pn n w m) ∧ pz_ag (fun a => a ≠ 74) h h' := by
  obtain ⟨k, e1, e2, e3⟩ := s_put C A hw m
  have Ck : pz_Ca k := C.r e3.1 (fun a j ha => e3.r (by omega) j)
  unfold f_X5_putNew
  rw [cq_1 C, Option.bind_some, aq_ck C, e1, Option.bind_some]
  match w, hw with
  | 0, _ =>
    rw [if_pos (show nI 0 = 0 from rfl), cq_1 Ck, Option.bind_some, aq_p Ck, Option.bind_some]
    exact ⟨_, rfl, e2.k 0, e3.tr (pz_ag.S (by simp))⟩
  | 1, _ =>
    rw [if_neg (show ¬ nI 1 = 0 by decide)]
    exact ⟨k, rfl, e2, e3⟩
/-- a flip -/
def pz_mf (n : pz_5) (w d : Nat) : pz_5 := ((pz_pu n w (pz_fl n.1 (pz_w n w) d)).1, (pz_pu n w (pz_fl n.1 (pz_w n w) d)).2.1, (pz_pu n w (pz_fl n.1 (pz_w n w) d)).2.2.1, n.2.2.2.1, n.2.2.2.2 + 1)
theorem pz_mf_V {w d : Nat} (V : pz_V b n) (hb : (pz_w n w).testBit d = true) (hl : w = 0 → n.2.2.2.1.testBit d = false) : pz_V b (pz_mf n w d) := by
  obtain ⟨v1, v2, v3, v4, v5⟩ := V
  have hg : n.1 < 6 := by omega
  by_cases q : w = 0
  · subst q
    have hw : pz_w n 0 = n.2.1 := rfl
    rw [hw] at hb
    have hm : pz_mf n 0 d = (n.1, pz_fl n.1 n.2.1 d, n.2.2.1, n.2.2.2.1, n.2.2.2.2 + 1) := rfl
    rw [hm]
    have hn := pz_nb_T hg ((pz_nb_mem (K := n.2.2.2.1) hg).mpr ⟨v3, v5, d, hb, hl rfl, rfl⟩)
    exact ⟨v1, v2, hn.1, v4, hn.2.1⟩
  · have hw : pz_w n w = n.2.2.1 := if_neg q
    have hm : pz_mf n w d = (n.1, n.2.1, pz_fl n.1 n.2.2.1 d, n.2.2.2.1, n.2.2.2.2 + 1) := by
      unfold pz_mf pz_pu
      rw [if_neg q, hw]
    rw [hm]
    rw [hw] at hb
    exact ⟨v1, v2, v3, (pz_flip hg v4 hb).2.2.2.1, v5⟩
theorem s_makeFlip (B : pz_CB h b tl tx) (S : pz_CS h b n sn sv sp) {w d : Nat} (hw : w < 2) (hb : (pz_w n w).testBit d = true) (hl : w = 0 → n.2.2.2.1.testBit d = false) : ∃ h', f_X5_makeFlip h 0 (nI w) (nI d) = some (nI (pz_oth n.1 (pz_w n w) d), h') ∧ pz_CB h' b tl tx ∧ pz_CS h' b (pz_mf n w d) sn sv sp ∧ pz_kc h h' := by
  have C := B.1
  have hg := S.2.1.T.1
  have hT := pz_w_T S.2.1 w
  have hd := (pz_flip hg hT hb).1
  have hnd := pz_nd_le hg
  obtain ⟨P, p0⟩ := B.p S.2.1
  obtain ⟨k, e1, e2, e3⟩ := s_put C S.1 hw (pz_fl n.1 (pz_w n w) d)
  have Ck : pz_Ca k := C.r e3.1 (fun a j ha => e3.r (by omega) j)
  unfold f_X5_makeFlip
  simp only [cq_1 C, Option.bind_some, aq_ck C]
  rw [s_mask C S.1 hw, Option.bind_some]
  simp only [aq_0 C S.1, Option.bind_some, p0]
  rw [pq_ck P, s_otherOf P (pz_T_27 hg hT) (by omega), Option.bind_some, pz_ot_T hg hT hb, pq_ck P, s_flipped P hT hb, Option.bind_some, e1, Option.bind_some, cq_1 Ck, Option.bind_some, aq_4 Ck e2, Option.bind_some, aq_p Ck, Option.bind_some]
  have e5 : pz_ag (fun a => a ≠ 74) h (pz_S k 74 4 ((pz_pu n w (pz_fl n.1 (pz_w n w) d)).2.2.2.2 + 1)) := e3.tr (pz_ag.S (by simp))
  have e6 : (pz_pu n w (pz_fl n.1 (pz_w n w) d)).2.2.2.2 = n.2.2.2.2 := by unfold pz_pu; split <;> rfl
  have e7 : (pz_pu n w (pz_fl n.1 (pz_w n w) d)).2.2.2.1 = n.2.2.2.1 := by unfold pz_pu; split <;> rfl
  have e8 := e2.f ((pz_pu n w (pz_fl n.1 (pz_w n w) d)).2.2.2.2 + 1)
  rw [e7, e6] at e8
  rw [e6] at e5 ⊢
  exact ⟨_, rfl, B.now e5, S.now e5 e8 (pz_mf_V S.2.1 hb hl), pz_kc.now e5⟩
end PZST
