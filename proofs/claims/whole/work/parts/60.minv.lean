/-! the reference: what holds between calls; it saves -/
def pz_5r (h : zq_H) (a o : Nat) (n : pz_5) : Prop := pz_i h a o = nI (n.1 + 4) ∧ pz_i h a (o + 1) = nI n.2.1 ∧ pz_i h a (o + 2) = nI n.2.2.1 ∧ pz_i h a (o + 3) = nI n.2.2.2.1 ∧ pz_i h a (o + 4) = n.2.2.2.2
theorem pz_5r.eq {h h' : zq_H} {a a' o o' : Nat} {n : pz_5} (H : pz_5r h a o n) (e : ∀ k, k < 5 → pz_i h' a' (o' + k) = pz_i h a (o + k)) : pz_5r h' a' o' n := by
  obtain ⟨h1, h2, h3, h4, h5⟩ := H
  exact ⟨(e 0 (by omega)).trans h1, (e 1 (by omega)).trans h2, (e 2 (by omega)).trans h3, (e 3 (by omega)).trans h4, (e 4 (by omega)).trans h5⟩
def pz_MS (h : zq_H) (n : pz_5) (sn : Nat) (sv : Nat → pz_5) (sp : Nat → Option pz_5) : Prop := pz_5r h 105 0 n ∧ pz_V 6 n ∧ pz_i h 104 1 = nI sn ∧ sn ≤ 6 ∧ (∀ i, i < sn → pz_5r h 106 (5 * i) (sv i) ∧ pz_V 6 (sv i)) ∧ ∀ s, s < 2 → pz_i h 108 s = nI (pz_so (sp s)) ∧ ∀ m, sp s = some m → pz_5r h 107 (5 * s) m ∧ pz_V 6 m
def pz_Mx (h : zq_H) (tl : Nat) (tx : Nat → Nat) : Prop := tl ≤ 60 ∧ pz_i h 104 5 = nI tl ∧ ∀ j, j < tl → pz_i h 109 j = nI (tx j) ∧ 33 ≤ tx j ∧ tx j ≤ 126
def pz_M (h : zq_H) (A : pz_A) : Prop := pz_Ms h ∧ pz_Tb h A.1.1 ∧ pz_MS h A.1 A.2.1 A.2.2.1 A.2.2.2.1 ∧ pz_Mx h A.2.2.2.2.1 A.2.2.2.2.2
def pz_km (h h' : zq_H) : Prop := pz_ag (fun a => a < 104 ∨ 118 ≤ a) h h'
theorem pz_km.tr {a b c : zq_H} (h1 : pz_km a b) (h2 : pz_km b c) : pz_km a c := pz_ag.tr h1 h2
/-- the search's rows, and what is thrown, differ alone -/
def pz_mt (h h' : zq_H) : Prop := h'.1 = h.1 ∧ (∀ a j, pz_r h' a j = pz_r h a j) ∧ (∀ a j, a ≠ 115 → a ≠ 116 → a ≠ 117 → ¬ (a = 104 ∧ j = 7) → pz_i h' a j = pz_i h a j) ∧ ∀ a j, a ≠ 104 → pz_j h' a j = pz_j h a j
theorem pz_mt.rf {h : zq_H} : pz_mt h h := ⟨rfl, fun _ _ => rfl, fun _ _ _ _ _ _ => rfl, fun _ _ _ => rfl⟩
theorem pz_mt.tr {a b c : zq_H} (h1 : pz_mt a b) (h2 : pz_mt b c) : pz_mt a c := ⟨h2.1.trans h1.1, fun x j => (h2.2.1 x j).trans (h1.2.1 x j), fun x j k1 k2 k3 k4 => (h2.2.2.1 x j k1 k2 k3 k4).trans (h1.2.2.1 x j k1 k2 k3 k4), fun x j k => (h2.2.2.2 x j k).trans (h1.2.2.2 x j k)⟩
theorem pz_mt.t {h : zq_H} (v : Int32) : pz_mt h (pz_S h 104 7 v) := ⟨rfl, fun _ _ => rfl, fun a j _ _ _ k => by rw [pz_S_i, if_neg k], fun _ _ _ => rfl⟩
theorem pz_mg.mt {h h' : zq_H} (H : pz_mg h h') : pz_mt h h' := ⟨H.1, fun a j => H.rr a j, fun a j k1 k2 k3 _ => H.2.2 a j k1 k2 k3, fun a j _ => by unfold pz_j; rw [H.2.1]⟩
theorem pz_mt.km {h h' : zq_H} (H : pz_mt h h') : pz_km h h' := ⟨H.1, fun a ha j => ⟨H.2.2.1 a j (by omega) (by omega) (by omega) (by omega), H.2.2.2 a j (by omega), H.2.1 a j⟩⟩
theorem pz_Ms.rr {h h' : zq_H} (R : pz_Ms h) (h1 : h'.1 = h.1) (h2 : ∀ j, pz_r h' 104 j = pz_r h 104 j) : pz_Ms h' := by
  unfold pz_Ms
  rw [h1, h2, h2, h2, h2, h2, h2, h2, h2, h2, h2, h2, h2, h2]
  exact R
theorem pz_Tb.of {h h' : zq_H} {g : Nat} (T : pz_Tb h g) (e : ∀ a j, (a = 104 ∧ (j = 8 ∨ j = 9 ∨ j = 13 ∨ j = 16 ∨ j = 17)) ∨ (110 ≤ a ∧ a ≤ 114) → pz_i h' a j = pz_i h a j) : pz_Tb h' g := by
  obtain ⟨t1, t2, t3, t4, t5, t6, t7, t8, t9⟩ := T
  refine ⟨t1, ?_, ?_, fun d hd => ?_, fun a b ha hb => ?_, ⟨?_, fun i hi => ?_⟩, fun i w hi hw => ?_, ?_, ?_⟩
  · rw [e 104 8 (by omega)]; exact t2
  · rw [e 104 9 (by omega)]; exact t3
  · rw [e 110 d (by omega), e 111 d (by omega)]; exact t4 d hd
  · rw [e 112 _ (by omega)]; exact t5 a b ha hb
  · rw [e 104 13 (by omega)]; exact t6.1
  · rw [e 113 i (by omega)]; exact t6.2 i hi
  · rw [e 114 _ (by omega)]; exact t7 i w hi hw
  · rw [e 104 16 (by omega)]; exact t8
  · rw [e 104 17 (by omega)]; exact t9
theorem pz_MS.of {h h' : zq_H} {n : pz_5} {sn : Nat} {sv : Nat → pz_5} {sp : Nat → Option pz_5} (S : pz_MS h n sn sv sp) (e : ∀ a j, (a = 104 ∧ j = 1) ∨ (105 ≤ a ∧ a ≤ 108) → pz_i h' a j = pz_i h a j) : pz_MS h' n sn sv sp := by
  obtain ⟨s1, s2, s3, s4, s5, s6⟩ := S
  exact ⟨s1.eq (fun k _ => e _ _ (by omega)), s2, by rw [e 104 1 (by omega)]; exact s3, s4, fun i hi => ⟨(s5 i hi).1.eq (fun k _ => e _ _ (by omega)), (s5 i hi).2⟩, fun s hs => ⟨by rw [e 108 s (by omega)]; exact (s6 s hs).1, fun m hm => ⟨((s6 s hs).2 m hm).1.eq (fun k _ => e _ _ (by omega)), ((s6 s hs).2 m hm).2⟩⟩⟩
theorem pz_Mx.of {h h' : zq_H} {tl : Nat} {tx : Nat → Nat} (X : pz_Mx h tl tx) (e : ∀ a j, (a = 104 ∧ j = 5) ∨ a = 109 → pz_i h' a j = pz_i h a j) : pz_Mx h' tl tx :=
  ⟨X.1, by rw [e 104 5 (by omega)]; exact X.2.1, fun j hj => by rw [e 109 j (by omega)]; exact X.2.2 j hj⟩
theorem pz_mt.M {h h' : zq_H} {A : pz_A} (l : pz_mt h h') (H : pz_M h A) : pz_M h' A :=
  ⟨H.1.rr l.1 (fun j => l.2.1 104 j), H.2.1.of (fun a j q => l.2.2.1 a j (by omega) (by omega) (by omega) (by omega)), H.2.2.1.of (fun a j q => l.2.2.1 a j (by omega) (by omega) (by omega) (by omega)), H.2.2.2.of (fun a j q => l.2.2.1 a j (by omega) (by omega) (by omega) (by omega))⟩
/-- row 105, and what is thrown, differ alone -/
def pz_mz (h h' : zq_H) : Prop := h'.1 = h.1 ∧ h'.2.2 = h.2.2 ∧ ∀ a j, a ≠ 105 → pz_i h' a j = pz_i h a j
theorem pz_mz.rf {h : zq_H} : pz_mz h h := ⟨rfl, rfl, fun _ _ _ => rfl⟩
theorem pz_mz.tr {a b c : zq_H} (h1 : pz_mz a b) (h2 : pz_mz b c) : pz_mz a c := ⟨h2.1.trans h1.1, h2.2.1.trans h1.2.1, fun x j k => (h2.2.2 x j k).trans (h1.2.2 x j k)⟩
theorem pz_mz.S {h : zq_H} {j : Nat} {v : Int32} : pz_mz h (pz_S h 105 j v) := ⟨rfl, rfl, fun a b k => by rw [pz_S_i, if_neg (fun e => k e.1)]⟩
theorem pz_mz.km {h h' : zq_H} (H : pz_mz h h') : pz_km h h' := ⟨H.1, fun a ha j => ⟨H.2.2 a j (by omega), by unfold pz_j; rw [H.2.1], by unfold pz_r; rw [H.2.1]⟩⟩
theorem pz_mz.M {h h' : zq_H} {A : pz_A} (l : pz_mz h h') (H : pz_M h A) {n' : pz_5} (h5 : pz_5r h' 105 0 n') (V : pz_V 6 n') (hg : n'.1 = A.1.1) : pz_M h' (n', A.2) := by
  obtain ⟨R, T, S, X⟩ := H
  refine ⟨R.rr l.1 (fun j => by unfold pz_r; rw [l.2.1]), by show pz_Tb h' n'.1; rw [hg]; exact T.of (fun a j q => l.2.2 a j (by omega)), ?_, X.of (fun a j q => l.2.2 a j (by omega))⟩
  obtain ⟨s1, s2, s3, s4, s5, s6⟩ := S
  exact ⟨h5, V, by rw [l.2.2 104 1 (by omega)]; exact s3, s4, fun i hi => ⟨(s5 i hi).1.eq (fun k _ => l.2.2 _ _ (by omega)), (s5 i hi).2⟩, fun s hs => ⟨by rw [l.2.2 108 s (by omega)]; exact (s6 s hs).1, fun m hm => ⟨((s6 s hs).2 m hm).1.eq (fun k _ => l.2.2 _ _ (by omega)), ((s6 s hs).2 m hm).2⟩⟩⟩
/-- what a call of the reference tells -/
def pz_om (cd : Nat → Int32) (h : zq_H) (A : pz_A) (R : pz_R1) (o : Int32 × zq_H) : Prop := match R with
  | .inl r => o.1 = r.1 ∧ pz_i o.2 104 7 = 0 ∧ pz_M o.2 r.2 ∧ pz_km h o.2
  | .inr k => pz_i o.2 104 7 = cd k ∧ pz_M o.2 A ∧ pz_km h o.2
section PZMI
variable {h : zq_H} {A : pz_A}
theorem pz_M.d (H : pz_M h A) : pz_Md h A.1.1 := H.2.1.d H.2.2.1.1.1
theorem pz_M.z1 (H : pz_M h A) : pz_i h 105 1 = nI A.1.2.1 := H.2.2.1.1.2.1
theorem pz_M.z2 (H : pz_M h A) : pz_i h 105 2 = nI A.1.2.2.1 := H.2.2.1.1.2.2.1
theorem pz_M.z3 (H : pz_M h A) : pz_i h 105 3 = nI A.1.2.2.2.1 := H.2.2.1.1.2.2.2.1
theorem pz_M.z4 (H : pz_M h A) : pz_i h 105 4 = A.1.2.2.2.2 := H.2.2.1.1.2.2.2.2
theorem pz_M.V (H : pz_M h A) : pz_V 6 A.1 := H.2.2.1.2.1
theorem mz_a0 (H : pz_M h A) : zq_ai h 105 0 = some (nI (A.1.1 + 4)) := mq_n H.1 H.d
theorem mz_a1 (H : pz_M h A) : zq_ai h 105 1 = some (nI A.1.2.1) := by rw [mq_z1 H.1, H.z1]
theorem mz_a2 (H : pz_M h A) : zq_ai h 105 2 = some (nI A.1.2.2.1) := by rw [mq_z2 H.1, H.z2]
theorem mz_a3 (H : pz_M h A) : zq_ai h 105 3 = some (nI A.1.2.2.2.1) := by rw [mq_z3 H.1, H.z3]
theorem mz_a4 (H : pz_M h A) : zq_ai h 105 4 = some A.1.2.2.2.2 := (mq_z H.1 (k := 4) (by omega)).trans (by rw [H.z4])
theorem mz_w (H : pz_M h A) {w : Nat} (hw : w < 2) : zq_ai h 105 (1 + nI w) = some (nI (pz_w A.1 w)) := by
  match w, hw with
  | 0, _ => exact mz_a1 H
  | 1, _ => exact mz_a2 H
theorem mz_s (R : pz_Ms h) {k : Nat} (hk : k < 5) (v : Int32) : zq_si h 105 (nI k) v = some (pz_S h 105 k v) := pz_si (L := 5) (by have := R.1; omega) rfl hk (by omega) v
theorem m_isWhich (x : Int32) : f_X6_isWhich h x = some (pz_inb 2 x) := by
  unfold f_X6_isWhich
  have := m_within (h := h) (x := x) (n := 2) (by omega) (by omega)
  rw [show (1 : Int32) = nI 2 - 1 by decide, this]
  rfl
theorem m_isSnapshot (x : Int32) : f_X6_isSnapshot h x = some (pz_inb 2 x) := by
  unfold f_X6_isSnapshot
  have := m_within (h := h) (x := x) (n := 2) (by omega) (by omega)
  rw [show (1 : Int32) = nI 2 - 1 by decide, this]
  rfl
theorem m_isCorner (H : pz_M h A) (x : Int32) : f_X6_isCorner h 104 x = some (pz_inb (A.1.1 + 4) x) := by
  have hg := H.V.T.1
  unfold f_X6_isCorner
  rw [mq_0 H.1, Option.bind_some, mz_a0 H, Option.bind_some, m_within (by omega) (by omega)]
  rfl
theorem m_within3 (x lo hi : Int32) : f_X6_within h x lo hi = some (pz_bt2 lo hi x) := by
  unfold f_X6_within pz_bt2
  by_cases h1 : x < lo
  · rw [if_pos h1, decide_eq_false (fun q => q.1 h1)]
  · rw [if_neg h1]
    by_cases h2 : hi < x
    · rw [if_pos h2, decide_eq_false (fun q => q.2 h2)]
    · rw [if_neg h2, decide_eq_true ⟨h1, h2⟩]
theorem m_isDia (H : pz_M h A) (x y : Int32) : f_X6_isDiagonal h 104 x y = some (decide (pz_no A.1.1 x y ≠ pz_X)) := m_isDiagonal H.1 H.d x y
theorem m_noN (H : pz_M h A) {x y : Int32} (hq : pz_no A.1.1 x y ≠ pz_X) : f_X6_numberOf h 104 x y = some (nI (pz_no A.1.1 x y)) := by
  have hg := H.V.T.1
  unfold pz_no at hq ⊢
  by_cases c : pz_inb (A.1.1 + 4) x = true ∧ pz_inb (A.1.1 + 4) y = true
  · rw [if_pos c] at hq ⊢
    obtain ⟨a, ha, rfl⟩ := pz_inb_of (by omega) c.1
    obtain ⟨b, hb, rfl⟩ := pz_inb_of (by omega) c.2
    rw [nI_clamp (by omega), nI_clamp (by omega)] at hq ⊢
    have hlt := ((pz_numc hg ha hb).resolve_left hq).1
    rw [m_numberOf H.1 H.d ha hb]
    unfold pz_rn
    rw [if_neg (by omega)]
  · rw [if_neg c] at hq
    exact absurd rfl hq
theorem pz_om.v {cd : Nat → Int32} {v : Int32} {A' : pz_A} {h' : zq_H} (h7 : pz_i h' 104 7 = 0) (H : pz_M h' A') (k : pz_km h h') : pz_om cd h A (.inl (v, A')) (v, h') := ⟨rfl, h7, H, k⟩
theorem pz_om.x {cd : Nat → Int32} {v : Int32} {k : Nat} {h' : zq_H} (h7 : pz_i h' 104 7 = cd k) (H : pz_M h' A) (km : pz_km h h') : pz_om cd h A (.inr k) (v, h') := ⟨h7, H, km⟩
/-- it throws -/
theorem pz_om.t {cd : Nat → Int32} {v c : Int32} {k : Nat} (H : pz_M h A) (hc : c = cd k) : pz_om cd h A (.inr k) (v, pz_S h 104 7 c) := ⟨by show pz_i (pz_S h 104 7 c) 104 7 = cd k; rw [pz_S_i, if_pos ⟨rfl, rfl⟩, hc], (pz_mt.t c).M H, (pz_mt.t c).km⟩
theorem ms_106 (R : pz_Ms h) {k : Nat} (hk : k < 30) (v : Int32) : zq_si h 106 (nI k) v = some (pz_S h 106 k v) := pz_si (L := 30) (by have := R.1; omega) rfl hk (by omega) v
theorem mq_106 (R : pz_Ms h) {k : Nat} (hk : k < 30) : zq_ai h 106 (nI k) = some (pz_i h 106 k) := pz_ai (L := 30) (by have := R.1; omega) rfl hk (by omega)
/-- the history, and how many, differ alone -/
def pz_mh (h h' : zq_H) : Prop := h'.1 = h.1 ∧ h'.2.2 = h.2.2 ∧ ∀ a j, a ≠ 106 → ¬ (a = 104 ∧ j = 1) → pz_i h' a j = pz_i h a j
theorem pz_mh.rf : pz_mh h h := ⟨rfl, rfl, fun _ _ _ _ => rfl⟩
theorem pz_mh.tr {a b c : zq_H} (h1 : pz_mh a b) (h2 : pz_mh b c) : pz_mh a c := ⟨h2.1.trans h1.1, h2.2.1.trans h1.2.1, fun x j k l => (h2.2.2 x j k l).trans (h1.2.2 x j k l)⟩
theorem pz_mh.S6 {j : Nat} {v : Int32} : pz_mh h (pz_S h 106 j v) := ⟨rfl, rfl, fun a b k _ => by rw [pz_S_i, if_neg (fun e => k e.1)]⟩
theorem pz_mh.S1 {v : Int32} : pz_mh h (pz_S h 104 1 v) := ⟨rfl, rfl, fun a b _ k => by rw [pz_S_i, if_neg k]⟩
theorem pz_mh.Ms {h' : zq_H} (l : pz_mh h h') (R : pz_Ms h) : pz_Ms h' := R.rr l.1 (fun j => by unfold pz_r; rw [l.2.1])
theorem pz_mh.km {h' : zq_H} (H : pz_mh h h') : pz_km h h' := ⟨H.1, fun a ha j => ⟨H.2.2 a j (by omega) (by omega), by unfold pz_j; rw [H.2.1], by unfold pz_r; rw [H.2.1]⟩⟩
theorem m_put5 (R : pz_Ms h) {s : Nat} (hs : s < 6) (h1 : pz_i h 104 1 = nI s) {α : Type} {k : zq_H → Option α} {P : α → Prop} (hk : ∀ h', pz_mh h h' → pz_i h' 104 1 = nI s → (∀ c, c < 5 → pz_i h' 106 (5 * s + c) = pz_i h 105 c) → (∀ j, j < 5 * s → pz_i h' 106 j = pz_i h 106 j) → ∃ y, k h' = some y ∧ P y) :
    ∃ y, (zq_lp (σ := Int32 × zq_H) (ρ := zq_H) (fun s_4 => (if 5 ≤ s_4.1 then some (.inr s_4.2) else (Option.bind (zq_gr s_4.2 104 6 2) fun v_13 => (Option.bind (zq_gi s_4.2 104 6 1) fun v_15 => (Option.bind (zq_gr s_4.2 104 6 0) fun v_17 => (Option.bind (zq_ai s_4.2 v_17 s_4.1) fun v_19 => (Option.bind (zq_si s_4.2 v_13 ((5 * v_15) + s_4.1) v_19) fun h_21 => (zq_let (s_4.1 + 1) fun v_23 => some (.inl (v_23, h_21)))))))))) zq_N (0, h)).bind k = some y ∧ P y := by
  refine pz_lpIB (fun i st => st.1 = nI i ∧ pz_mh h st.2 ∧ pz_i st.2 104 1 = nI s ∧ (∀ c, c < i → pz_i st.2 106 (5 * s + c) = pz_i h 105 c) ∧ (∀ j, j < 5 * s → pz_i st.2 106 j = pz_i h 106 j)) 5 (fun h' => pz_mh h h' ∧ pz_i h' 104 1 = nI s ∧ (∀ c, c < 5 → pz_i h' 106 (5 * s + c) = pz_i h 105 c) ∧ (∀ j, j < 5 * s → pz_i h' 106 j = pz_i h 106 j)) (fun h' q => hk h' q.1 q.2.1 q.2.2.1 q.2.2.2) ⟨rfl, pz_mh.rf, h1, fun c hc => absurd hc (Nat.not_lt_zero _), fun _ _ => rfl⟩ ?_ ?_ (by omega)
  · rintro i ⟨x, k0⟩ hi ⟨e1, e2, e3, e4, e5⟩
    simp only at e1 e2 e3 e4 e5
    subst e1
    have R' := e2.Ms R
    refine ⟨(nI (i + 1), pz_S k0 106 (5 * s + i) (pz_i h 105 i)), ?_, rfl, e2.tr pz_mh.S6, by rw [pz_S_i, if_neg (by omega)]; exact e3, fun c hc => ?_, fun j hj => ?_⟩
    · rw [if_neg (show ¬ (5 : Int32) ≤ nI i from nI_ge (a := i) (b := 5) hi (by omega)), mq_2 R', Option.bind_some, mq_i R', e3, Option.bind_some, mq_0 R', Option.bind_some, mq_z R' hi, e2.2.2 105 i (by omega) (by omega), Option.bind_some, show (5 : Int32) = nI 5 from rfl, pk_mul, nI_add, ms_106 R' (by omega), Option.bind_some]
      simp only [zq_let, nI_1]
    · rw [pz_S_i]
      by_cases q : c = i
      · subst q
        rw [if_pos ⟨rfl, rfl⟩]
      · rw [if_neg (by omega)]
        exact e4 c (by omega)
    · rw [pz_S_i, if_neg (by omega)]
      exact e5 j hj
  · rintro ⟨x, k0⟩ ⟨e1, e2, e3, e4, e5⟩
    simp only at e1 e2 e3 e4 e5
    subst e1
    exact ⟨k0, if_pos (show (5 : Int32) ≤ nI 5 from nI_le (Nat.le_refl _) (by omega)), e2, e3, e4, e5⟩
theorem m_saved (H : pz_M h A) {h' : zq_H} (l : pz_mh h h') (h1 : pz_i h' 104 1 = nI (pz_sn A.2.1)) (h2 : ∀ i, i < pz_sn A.2.1 → pz_5r h' 106 (5 * i) (pz_sv A.1 A.2.1 A.2.2.1 i) ∧ pz_V 6 (pz_sv A.1 A.2.1 A.2.2.1 i)) : pz_M h' (pz_sa A A.1) := by
  obtain ⟨R, T, S, X⟩ := H
  obtain ⟨s1, s2, s3, s4, s5, s6⟩ := S
  refine ⟨l.Ms R, T.of (fun a j q => l.2.2 a j (by omega) (by omega)), ⟨s1.eq (fun k _ => l.2.2 _ _ (by omega) (by omega)), s2, h1, ?_, h2, fun s hs => ⟨by rw [l.2.2 108 s (by omega) (by omega)]; exact (s6 s hs).1, fun m hm => ⟨((s6 s hs).2 m hm).1.eq (fun k _ => l.2.2 _ _ (by omega) (by omega)), ((s6 s hs).2 m hm).2⟩⟩⟩, X.of (fun a j q => l.2.2 a j (by omega) (by omega))⟩
  show pz_sn A.2.1 ≤ 6
  unfold pz_sn
  split <;> omega
theorem m_save (H : pz_M h A) : ∃ h', f_X6_save h 104 = some h' ∧ pz_M h' (pz_sa A A.1) ∧ pz_km h h' ∧ pz_i h' 104 7 = pz_i h 104 7 := by
  have R := H.1
  obtain ⟨s1, s2, s3, s4, s5, s6⟩ := id H.2.2.1
  have key : ∀ (k : zq_H) (s : Nat) (n : pz_5), (∀ c, c < 5 → pz_i k 106 (5 * s + c) = pz_i h 105 c) → n = A.1 → pz_5r k 106 (5 * s) n := by
    intro k s n hk hn
    subst hn
    exact s1.eq (fun c hc => by rw [Nat.zero_add]; exact hk c hc)
  unfold f_X6_save
  rw [mq_i R, s3, Option.bind_some]
  by_cases hs : A.2.1 = 6
  · rw [hs, if_pos (show nI 6 = 6 from rfl)]
    refine pz_lpIB (fun i st => st.1 = nI (i + 5) ∧ pz_mh h st.2 ∧ pz_i st.2 104 1 = nI 6 ∧ (∀ j, j < i → pz_i st.2 106 j = pz_i h 106 (j + 5)) ∧ ∀ j, i ≤ j → j < 30 → pz_i st.2 106 j = pz_i h 106 j) 25 (fun h' => pz_mh h h' ∧ pz_i h' 104 1 = nI 6 ∧ ∀ j, j < 25 → pz_i h' 106 j = pz_i h 106 (j + 5)) ?_ ⟨rfl, pz_mh.rf, by rw [s3, hs], fun j hj => absurd hj (Nat.not_lt_zero _), fun _ _ _ => rfl⟩ ?_ ?_ (by omega)
    · rintro k1 ⟨l1, b1, b2⟩
      have R1 := l1.Ms R
      have l2 : pz_mh k1 (pz_S k1 104 1 (nI 5)) := pz_mh.S1
      have R2 := l2.Ms R1
      rw [mq_i R1, b1, Option.bind_some, show nI 6 - 1 = nI 5 from rfl, mq_p R1, Option.bind_some]
      refine m_put5 R2 (s := 5) (by omega) (by rw [pz_S_i, if_pos ⟨rfl, rfl⟩]) (fun k2 l3 c1 c2 c3 => ?_)
      have R3 := l3.Ms R2
      rw [mq_i R3, c1, Option.bind_some, nI_1, mq_p R3, Option.bind_some]
      have l4 : pz_mh k2 (pz_S k2 104 1 (nI 6)) := pz_mh.S1
      have lall : pz_mh h (pz_S k2 104 1 (nI 6)) := ((l1.tr l2).tr l3).tr l4
      have hsn : pz_sn A.2.1 = 6 := if_pos hs
      refine ⟨_, rfl, m_saved H lall (by rw [hsn, pz_S_i, if_pos ⟨rfl, rfl⟩]) (fun i hi => ?_), lall.km, lall.2.2 104 7 (by omega) (by omega)⟩
      have hv : pz_sv A.1 A.2.1 A.2.2.1 i = if i < 5 then A.2.2.1 (i + 1) else A.1 := if_pos hs
      rw [hv]
      by_cases q : i < 5
      · rw [if_pos q]
        refine ⟨(s5 (i + 1) (by omega)).1.eq (fun c hc => ?_), (s5 (i + 1) (by omega)).2⟩
        rw [pz_S_i, if_neg (by omega), c3 _ (by omega), pz_S_i, if_neg (by omega), b2 _ (by omega)]
        rw [show 5 * i + c + 5 = 5 * (i + 1) + c by omega]
      · rw [if_neg q]
        have : i = 5 := by omega
        subst this
        refine ⟨key _ 5 _ (fun c hc => ?_) rfl, s2⟩
        rw [pz_S_i, if_neg (by omega), c2 c hc, pz_S_i, if_neg (by omega), l1.2.2 105 c (by omega) (by omega)]
    · rintro i ⟨x, k0⟩ hi ⟨e1, e2, e3, e4, e5⟩
      simp only at e1 e2 e3 e4 e5
      subst e1
      have R' := e2.Ms R
      refine ⟨(nI (i + 1 + 5), pz_S k0 106 i (pz_i h 106 (i + 5))), ?_, rfl, e2.tr pz_mh.S6, by rw [pz_S_i, if_neg (by omega)]; exact e3, fun j hj => ?_, fun j hj hj2 => ?_⟩
      · rw [if_neg (show ¬ (30 : Int32) ≤ nI (i + 5) from nI_ge (a := i + 5) (b := 30) (by omega) (by omega)), mq_2 R', Option.bind_some, Option.bind_some, mq_106 R' (by omega), e5 _ (by omega) (by omega), Option.bind_some, show (5 : Int32) = nI 5 from rfl, pk_sub (by omega), Nat.add_sub_cancel, ms_106 R' (by omega), Option.bind_some]
        simp only [zq_let, nI_1]
      · rw [pz_S_i]
        by_cases q : j = i
        · subst q; rw [if_pos ⟨rfl, rfl⟩]
        · rw [if_neg (fun r => q r.2)]; exact e4 j (by omega)
      · rw [pz_S_i, if_neg (by omega)]; exact e5 j (by omega) hj2
    · rintro ⟨x, k0⟩ ⟨e1, e2, e3, e4, e5⟩
      simp only at e1 e2 e3 e4 e5
      subst e1
      exact ⟨k0, if_pos (show (30 : Int32) ≤ nI 30 from nI_le (Nat.le_refl _) (by omega)), e2, e3, e4⟩
  · rw [if_neg (show ¬ nI A.2.1 = 6 from fun e => hs ((nI_eq (b := 6) (by omega) (by omega)).mp e))]
    refine m_put5 R (s := A.2.1) (by omega) s3 (fun k2 l3 c1 c2 c3 => ?_)
    have R3 := l3.Ms R
    rw [mq_i R3, c1, Option.bind_some, nI_1, mq_p R3, Option.bind_some]
    have lall : pz_mh h (pz_S k2 104 1 (nI (A.2.1 + 1))) := l3.tr pz_mh.S1
    have hsn : pz_sn A.2.1 = A.2.1 + 1 := if_neg hs
    refine ⟨_, rfl, m_saved H lall (by rw [hsn, pz_S_i, if_pos ⟨rfl, rfl⟩]) (fun i hi => ?_), lall.km, lall.2.2 104 7 (by omega) (by omega)⟩
    rw [hsn] at hi
    have hv : pz_sv A.1 A.2.1 A.2.2.1 i = if i = A.2.1 then A.1 else A.2.2.1 i := if_neg hs
    rw [hv]
    by_cases q : i = A.2.1
    · rw [if_pos q]
      subst q
      refine ⟨key _ _ _ (fun c hc => ?_) rfl, s2⟩
      rw [pz_S_i, if_neg (by omega), c2 c hc]
    · rw [if_neg q]
      refine ⟨(s5 i (by omega)).1.eq (fun c hc => ?_), (s5 i (by omega)).2⟩
      rw [pz_S_i, if_neg (by omega), c3 _ (by omega)]
end PZMI
