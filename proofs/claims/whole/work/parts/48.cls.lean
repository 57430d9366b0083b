/-! the class: what holds between calls; its looks -/
/-- g, the present one, the goal, locks, flips -/
abbrev pz_5 : Type := Nat × Nat × Nat × Nat × Int32
def pz_V (b : Nat) (n : pz_5) : Prop := n.1 < b ∧ b ≤ 6 ∧ pz_T n.1 n.2.1 ∧ pz_T n.1 n.2.2.1 ∧ n.2.2.2.1 &&& n.2.1 = n.2.2.2.1
/-- a State at p -/
def pz_At (h : zq_H) (p : Nat) (n : pz_5) : Prop := pz_r h p 0 = some (2 + 12 * n.1) ∧ pz_i h p 1 = nI n.2.1 ∧ pz_i h p 2 = nI n.2.2.1 ∧ pz_i h p 3 = nI n.2.2.2.1 ∧ pz_i h p 4 = n.2.2.2.2
theorem pz_At.ag {h h' : zq_H} {p : Nat} {n : pz_5} (H : pz_At h p n) {Q : Nat → Prop} (hq : pz_ag Q h h') (q : Q p) : pz_At h' p n := by
  unfold pz_At
  rw [hq.r q, hq.i q, hq.i q, hq.i q, hq.i q]
  exact H
def pz_Ca (h : zq_H) : Prop := 103 < h.1 ∧ pz_r h 0 0 = some 1 ∧ pz_r h 0 1 = some 74 ∧ pz_r h 0 2 = some 75 ∧ pz_r h 0 4 = some 82 ∧ pz_r h 0 5 = some 85 ∧ pz_r h 0 6 = some 87 ∧ pz_r h 0 7 = some 91 ∧ pz_r h 0 8 = some 95 ∧ pz_r h 0 9 = some 99 ∧ pz_r h 0 10 = some 103 ∧
  (∀ i, i < 6 → pz_r h 1 i = some (2 + 12 * i)) ∧ (∀ i, i < 6 → pz_r h 75 i = some (76 + i)) ∧ (∀ i, i < 2 → pz_r h 82 i = some (83 + i)) ∧ pz_r h 85 0 = some 86
theorem pz_Ca.r {h h' : zq_H} (C : pz_Ca h) (h1 : h'.1 = h.1) (h2 : ∀ a j, (a = 0 ∨ a = 1 ∨ a = 75 ∨ a = 82 ∨ a = 85) → pz_r h' a j = pz_r h a j) : pz_Ca h' := by
  obtain ⟨c0, c1, c2, c3, c4, c5, c6, c7, c8, c9, c10, c11, c12, c13, c14⟩ := C
  refine ⟨by rw [h1]; exact c0, ?_, ?_, ?_, ?_, ?_, ?_, ?_, ?_, ?_, ?_, fun i hi => ?_, fun i hi => ?_, fun i hi => ?_, ?_⟩
  · rw [h2 0 _ (by omega)]; exact c1
  · rw [h2 0 _ (by omega)]; exact c2
  · rw [h2 0 _ (by omega)]; exact c3
  · rw [h2 0 _ (by omega)]; exact c4
  · rw [h2 0 _ (by omega)]; exact c5
  · rw [h2 0 _ (by omega)]; exact c6
  · rw [h2 0 _ (by omega)]; exact c7
  · rw [h2 0 _ (by omega)]; exact c8
  · rw [h2 0 _ (by omega)]; exact c9
  · rw [h2 0 _ (by omega)]; exact c10
  · rw [h2 1 _ (by omega)]; exact c11 i hi
  · rw [h2 75 _ (by omega)]; exact c12 i hi
  · rw [h2 82 _ (by omega)]; exact c13 i hi
  · rw [h2 85 _ (by omega)]; exact c14
/-- a graph that isn't built -/
def pz_Gf (h : zq_H) (t g : Nat) : Prop := pz_i h t 8 = nI 0 ∧ ∀ s, s < 2 ^ pz_kz g → pz_i h (t + 11) s = nI 0
theorem pz_Gf.ht {h : zq_H} {t g : Nat} (F : pz_Gf h t g) (M : Nat → Nat) : pz_HT h t g M (fun _ => 0) 0 :=
  ⟨Nat.zero_le _, F.1, fun i hi => absurd hi (Nat.not_lt_zero _), fun i j hi => absurd hi (Nat.not_lt_zero _), fun s hs => ⟨F.2 s hs, Nat.le_refl _⟩, fun s s' _ _ h => absurd rfl h, fun i hi => absurd hi (Nat.not_lt_zero _)⟩
def pz_Cg (h : zq_H) (b : Nat) : Prop := ∀ g, g < 6 → pz_Gs h (2 + 12 * g) g ∧ (g < b → ∃ M sl, pz_Gb h (2 + 12 * g) g M sl) ∧ (b ≤ g → pz_Gf h (2 + 12 * g) g)
theorem pz_Cg.ag {h h' : zq_H} {b : Nat} (C : pz_Cg h b) {Q : Nat → Prop} (hq : pz_ag Q h h') (q : ∀ a, 2 ≤ a → a ≤ 73 → Q a) : pz_Cg h' b := by
  intro g hg
  obtain ⟨c1, c2, c3⟩ := C g hg
  refine ⟨c1.ag hq (fun i hi => q _ (by omega) (by omega)), fun hb => ?_, fun hb => ?_⟩
  · obtain ⟨M, sl, B⟩ := c2 hb
    exact ⟨M, sl, B.ag hq (fun i hi => q _ (by omega) (by omega))⟩
  · exact ⟨by rw [hq.i (q _ (by omega) (by omega))]; exact (c3 hb).1, fun s hs => by rw [hq.i (q _ (by omega) (by omega))]; exact (c3 hb).2 s hs⟩
theorem pz_Rs.ag {h h' : zq_H} {r : Nat} (R : pz_Rs h r) {Q : Nat → Prop} (hq : pz_ag Q h h') (q : Q r) : pz_Rs h' r :=
  ⟨R.1, by rw [hq.1]; exact R.2.1, by rw [hq.r q, hq.r q, hq.r q]; exact R.2.2⟩
theorem pz_Rm.ag {h h' : zq_H} {r t g K s : Nat} {M : Nat → Nat} (R : pz_Rm h r t g M K s) {Q : Nat → Prop} (hq : pz_ag Q h h') (q : ∀ i, i < 4 → Q (r + i)) : pz_Rm h' r t g M K s := by
  have q0 : Q r := q 0 (by omega)
  exact ⟨by rw [hq.r q0]; exact R.1, by rw [hq.i q0]; exact R.2.1, by rw [hq.i q0]; exact R.2.2.1, fun i hi => by rw [hq.i (q 1 (by omega)), hq.i (q 2 (by omega))]; exact R.2.2.2.1 i hi, fun i h1 h2 => by rw [hq.i (q 1 (by omega))]; exact R.2.2.2.2 i h1 h2⟩
theorem pz_Rc.ag {h h' : zq_H} {r : Nat} (R : pz_Rc h r) {Q : Nat → Prop} (hq : pz_ag Q h h') (q : ∀ i, i < 4 → Q (r + i)) (q2 : ∀ a, 2 ≤ a → a ≤ 73 → Q a) : pz_Rc h' r := by
  have q0 : Q r := q 0 (by omega)
  obtain ⟨g, c1, c2, c3⟩ := R
  refine ⟨g, c1, by rw [hq.r q0]; exact c2, ?_⟩
  rcases c3 with c3 | ⟨M, sl, s, K, d1, d2, d3, d4⟩
  · exact Or.inl (by rw [hq.i q0]; exact c3)
  · exact Or.inr ⟨M, sl, s, K, d1.ag hq (fun i hi => q2 _ (by omega) (by omega)), d2, d3, d4.ag hq q⟩
def pz_Cr (h : zq_H) : Prop := ∀ k, k < 4 → pz_Rs h (87 + 4 * k) ∧ pz_Rc h (87 + 4 * k)
theorem pz_Cr.ag {h h' : zq_H} (C : pz_Cr h) {Q : Nat → Prop} (hq : pz_ag Q h h') (q : ∀ a, 2 ≤ a → (a ≤ 73 ∨ (87 ≤ a ∧ a ≤ 102)) → Q a) : pz_Cr h' :=
  fun k hk => ⟨(C k hk).1.ag hq (q _ (by omega) (by omega)), (C k hk).2.ag hq (fun i hi => q _ (by omega) (by omega)) (fun a h1 h2 => q a h1 (by omega))⟩
def pz_Ct (h : zq_H) (tl : Nat) (tx : Nat → Nat) : Prop := tl ≤ 60 ∧ pz_i h 85 1 = nI tl ∧ ∀ j, j < tl → pz_i h 86 j = nI (tx j) ∧ 33 ≤ tx j ∧ tx j ≤ 126
theorem pz_Ct.ag {h h' : zq_H} {tl : Nat} {tx : Nat → Nat} (C : pz_Ct h tl tx) {Q : Nat → Prop} (hq : pz_ag Q h h') (q : Q 85 ∧ Q 86) : pz_Ct h' tl tx :=
  ⟨C.1, by rw [hq.i q.1]; exact C.2.1, fun j hj => by rw [hq.i q.2]; exact C.2.2 j hj⟩
def pz_CB (h : zq_H) (b tl : Nat) (tx : Nat → Nat) : Prop := pz_Ca h ∧ pz_Cg h b ∧ pz_Cr h ∧ pz_Ct h tl tx
def pz_CS (h : zq_H) (b : Nat) (n : pz_5) (sn : Nat) (sv : Nat → pz_5) (sp : Nat → Option pz_5) : Prop :=
  pz_At h 74 n ∧ pz_V b n ∧ sn ≤ 6 ∧ pz_i h 0 3 = nI sn ∧ (∀ i, i < sn → pz_At h (76 + i) (sv i) ∧ pz_V b (sv i)) ∧ ∀ s, s < 2 → (sp s = none ∧ pz_r h (83 + s) 0 = none) ∨ ∃ m, sp s = some m ∧ pz_At h (83 + s) m ∧ pz_V b m
theorem pz_CS.ag {h h' : zq_H} {b sn : Nat} {n : pz_5} {sv : Nat → pz_5} {sp : Nat → Option pz_5} (C : pz_CS h b n sn sv sp) {Q : Nat → Prop} (hq : pz_ag Q h h') (q : Q 0 ∧ ∀ a, 74 ≤ a → a ≤ 84 → Q a) : pz_CS h' b n sn sv sp := by
  obtain ⟨c1, c2, c3, c4, c5, c6⟩ := C
  refine ⟨c1.ag hq (q.2 74 (by omega) (by omega)), c2, c3, by rw [hq.i q.1]; exact c4, fun i hi => ⟨(c5 i hi).1.ag hq (q.2 _ (by omega) (by omega)), (c5 i hi).2⟩, fun s hs => ?_⟩
  rcases c6 s hs with ⟨d1, d2⟩ | ⟨m, d1, d2, d3⟩
  · exact Or.inl ⟨d1, by rw [hq.r (q.2 _ (by omega) (by omega))]; exact d2⟩
  · exact Or.inr ⟨m, d1, d2.ag hq (q.2 _ (by omega) (by omega)), d3⟩
/-- looks change the Reaches, and the list of parts, alone -/
def pz_la (h h' : zq_H) : Prop := pz_ag (fun a => a < 87 ∨ 104 ≤ a) h h'
theorem pz_V.T {b : Nat} {n : pz_5} (V : pz_V b n) : n.1 < 6 ∧ pz_T n.1 n.2.1 ∧ pz_T n.1 n.2.2.1 ∧ n.2.2.2.1 &&& n.2.1 = n.2.2.2.1 := ⟨by have := V.1; have := V.2.1; omega, V.2.2.1, V.2.2.2.1, V.2.2.2.2⟩
theorem pz_V.K {b : Nat} {n : pz_5} (V : pz_V b n) : n.2.2.2.1 < 134217728 := by
  obtain ⟨h1, h2, -, h4⟩ := V.T
  rw [← h4]
  exact Nat.lt_of_le_of_lt Nat.and_le_right (pz_T_27 h1 h2)
theorem pz_V.nc {b : Nat} {n : pz_5} (V : pz_V b n) : pz_nc n.1 n.2.2.2.1 := by
  obtain ⟨h1, h2, -, h4⟩ := V.T
  exact pz_nc_sub (pz_T_nc h1 h2) (fun i hi => pz_sub_bit h4 hi)
section PZC
variable {h : zq_H} {b tl sn : Nat} {tx : Nat → Nat} {n : pz_5} {sv : Nat → pz_5} {sp : Nat → Option pz_5}
theorem cq_0 (C : pz_Ca h) : zq_gr h 0 5 0 = some 1 := (pz_gr (by have := C.1; omega) rfl).trans C.2.1
theorem cq_1 (C : pz_Ca h) : zq_gr h 0 5 1 = some 74 := (pz_gr (by have := C.1; omega) rfl).trans C.2.2.1
theorem cq_2 (C : pz_Ca h) : zq_gr h 0 5 2 = some 75 := (pz_gr (by have := C.1; omega) rfl).trans C.2.2.2.1
theorem cq_4 (C : pz_Ca h) : zq_gr h 0 5 4 = some 82 := (pz_gr (by have := C.1; omega) rfl).trans C.2.2.2.2.1
theorem cq_5 (C : pz_Ca h) : zq_gr h 0 5 5 = some 85 := (pz_gr (by have := C.1; omega) rfl).trans C.2.2.2.2.2.1
theorem cq_6 (C : pz_Ca h) : zq_gr h 0 5 6 = some 87 := (pz_gr (by have := C.1; omega) rfl).trans C.2.2.2.2.2.2.1
theorem cq_7 (C : pz_Ca h) : zq_gr h 0 5 7 = some 91 := (pz_gr (by have := C.1; omega) rfl).trans C.2.2.2.2.2.2.2.1
theorem cq_8 (C : pz_Ca h) : zq_gr h 0 5 8 = some 95 := (pz_gr (by have := C.1; omega) rfl).trans C.2.2.2.2.2.2.2.2.1
theorem cq_9 (C : pz_Ca h) : zq_gr h 0 5 9 = some 99 := (pz_gr (by have := C.1; omega) rfl).trans C.2.2.2.2.2.2.2.2.2.1
theorem cq_10 (C : pz_Ca h) : zq_gr h 0 5 10 = some 103 := (pz_gr (by have := C.1; omega) rfl).trans C.2.2.2.2.2.2.2.2.2.2.1
theorem cq_i (C : pz_Ca h) (j : Nat) : zq_gi h 0 5 j = some (pz_i h 0 j) := pz_gi (by have := C.1; omega) rfl
theorem cq_p (C : pz_Ca h) (j : Nat) (v : Int32) : zq_pi h 0 5 j v = some (pz_S h 0 j v) := pz_pi (by have := C.1; omega) rfl v
theorem cq_ck {α : Type} {k : Unit → Option α} (C : pz_Ca h) : zq_ck h 0 5 k = k () := pz_ck (by have := C.1; omega) rfl
theorem cq_gr (C : pz_Ca h) {i : Nat} (hi : i < 6) : zq_aq h 1 12 (nI i) = some (2 + 12 * i) := (pz_aq (L := 6) (by have := C.1; omega) rfl hi (by omega)).trans (C.2.2.2.2.2.2.2.2.2.2.2.1 i hi)
theorem cq_sv (C : pz_Ca h) {i : Nat} (hi : i < 6) : zq_aq h 75 13 (nI i) = some (76 + i) := (pz_aq (L := 6) (by have := C.1; omega) rfl hi (by omega)).trans (C.2.2.2.2.2.2.2.2.2.2.2.2.1 i hi)
theorem cq_sp (C : pz_Ca h) {i : Nat} (hi : i < 2) : zq_aq h 82 13 (nI i) = some (83 + i) := (pz_aq (L := 2) (by have := C.1; omega) rfl hi (by omega)).trans (C.2.2.2.2.2.2.2.2.2.2.2.2.2.1 i hi)
theorem cq_n1 (C : pz_Ca h) : zq_an h 1 = some (nI 6) := pz_an (c := 12) (by have := C.1; omega) rfl (by omega) (by omega)
theorem cq_n75 (C : pz_Ca h) : zq_an h 75 = some (nI 6) := pz_an (c := 13) (by have := C.1; omega) rfl (by omega) (by omega)
theorem cq_n82 (C : pz_Ca h) : zq_an h 82 = some (nI 2) := pz_an (c := 13) (by have := C.1; omega) rfl (by omega) (by omega)
theorem aq_ck {α : Type} {k : Unit → Option α} (C : pz_Ca h) : zq_ck h 74 3 k = k () := pz_ck (by have := C.1; omega) rfl
theorem aq_0 (C : pz_Ca h) (A : pz_At h 74 n) : zq_gr h 74 3 0 = some (2 + 12 * n.1) := (pz_gr (by have := C.1; omega) rfl).trans A.1
theorem aq_1 (C : pz_Ca h) (A : pz_At h 74 n) : zq_gi h 74 3 1 = some (nI n.2.1) := (pz_gi (by have := C.1; omega) rfl).trans (by rw [A.2.1])
theorem aq_2 (C : pz_Ca h) (A : pz_At h 74 n) : zq_gi h 74 3 2 = some (nI n.2.2.1) := (pz_gi (by have := C.1; omega) rfl).trans (by rw [A.2.2.1])
theorem aq_3 (C : pz_Ca h) (A : pz_At h 74 n) : zq_gi h 74 3 3 = some (nI n.2.2.2.1) := (pz_gi (by have := C.1; omega) rfl).trans (by rw [A.2.2.2.1])
theorem aq_4 (C : pz_Ca h) (A : pz_At h 74 n) : zq_gi h 74 3 4 = some n.2.2.2.2 := (pz_gi (by have := C.1; omega) rfl).trans (by rw [A.2.2.2.2])
theorem aq_p (C : pz_Ca h) (j : Nat) (v : Int32) : zq_pi h 74 3 j v = some (pz_S h 74 j v) := pz_pi (by have := C.1; omega) rfl v
theorem s_mask0 (C : pz_Ca h) (A : pz_At h 74 n) : f_X3_mask h 74 0 = some (nI n.2.1) := by
  unfold f_X3_mask
  rw [if_pos rfl, aq_1 C A]; rfl
theorem s_mask1 (C : pz_Ca h) (A : pz_At h 74 n) : f_X3_mask h 74 1 = some (nI n.2.2.1) := by
  unfold f_X3_mask
  rw [if_neg (by decide), aq_2 C A]; rfl
/-- which of both -/
def pz_w (n : pz_5) (w : Nat) : Nat := if w = 0 then n.2.1 else n.2.2.1
theorem s_mask (C : pz_Ca h) (A : pz_At h 74 n) {w : Nat} (hw : w < 2) : f_X3_mask h 74 (nI w) = some (nI (pz_w n w)) := by
  match w, hw with
  | 0, _ => exact s_mask0 C A
  | 1, _ => exact s_mask1 C A
theorem pz_w_T {b : Nat} (V : pz_V b n) (w : Nat) : pz_T n.1 (pz_w n w) := by
  unfold pz_w
  split
  · exact V.T.2.1
  · exact V.T.2.2.1
/-- the graph of the present polygon -/
theorem pz_CB.g (B : pz_CB h b tl tx) (V : pz_V b n) : pz_Gs h (2 + 12 * n.1) n.1 ∧ ∃ M sl, pz_Gb h (2 + 12 * n.1) n.1 M sl := ⟨(B.2.1 n.1 V.T.1).1, (B.2.1 n.1 V.T.1).2.1 V.1⟩
theorem s_isWhich (x : Int32) : f_X5_isWhich h x = some (pz_inb 2 x) := by
  unfold f_X5_isWhich pz_inb
  by_cases h0 : x = 0
  · subst h0; rfl
  · rw [if_neg h0]
    by_cases h1 : x = 1
    · subst h1; rfl
    · rw [if_neg h1]
      congr 1
      symm
      rw [decide_eq_false_iff_not]
      rintro ⟨q1, q2⟩
      rcases pk_ix x (n := 2) (by omega) with q | q | ⟨j, q, rfl⟩
      · exact q1 q
      · exact q2 q
      · rcases (show j = 0 ∨ j = 1 by omega) with r | r
        · exact h0 (by rw [r]; rfl)
        · exact h1 (by rw [r]; rfl)
theorem s_isSnapshot (C : pz_Ca h) (x : Int32) : f_X5_isSnapshot h 0 x = some (pz_inb 2 x) := by
  unfold f_X5_isSnapshot pz_inb
  by_cases h1 : x < 0
  · simp [h1]
  · rw [if_neg h1, cq_4 C, Option.bind_some, cq_n82 C, Option.bind_some]
    by_cases h2 : nI 2 ≤ x
    · simp [h2]
    · simp [h1, h2]
theorem s_hindrance (C : pz_Ca h) (A : pz_At h 74 n) (V : pz_V b n) {d : Nat} (hd : d < 27) : f_X5_hindrance h 0 (nI d) = some (if n.2.1.testBit d = false then 1 else if n.2.2.2.1.testBit d = false then 0 else 2) := by
  have k1 := pz_T_27 V.T.1 V.T.2.1
  have k2 := V.K
  unfold f_X5_hindrance
  rw [cq_1 C, Option.bind_some, aq_1 C A, Option.bind_some, s_isIn (by omega) (by omega), Option.bind_some]
  cases n.2.1.testBit d with
  | false => rfl
  | true =>
    rw [if_neg (by simp), Option.bind_some, aq_3 C A, Option.bind_some, s_isIn (by omega) (by omega), Option.bind_some]
    cases n.2.2.2.1.testBit d <;> rfl
end PZC
