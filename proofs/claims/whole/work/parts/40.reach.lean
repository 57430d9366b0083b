/-! searches in breadth over rows of a heap; the class' Reach -/
def pz_k15 (g : Nat) : Bool := pz_al (fun i => decide ((List.range (pz_nd g)).filter (fun d => (pz_tt g i).testBit d) = (List.range (g + 1)).map (pz_se (pz_tt g i)))) (pz_cn g)
theorem pz_K15 : ∀ g, g < 6 → pz_k15 g = true := by decide +kernel
theorem pz_bl_list {g m : Nat} (hg : g < 6) (hm : pz_T g m) : (List.range (pz_nd g)).filter (fun d => m.testBit d) = (List.range (g + 1)).map (pz_se m) := by
  obtain ⟨i, hi, rfl⟩ := hm
  exact of_decide_eq_true (pz_al_e (pz_K15 g hg) i hi)
/-- the flips of the w lowest bits that aren't locked -/
def pz_lw (g K u w : Nat) : List Nat := (((List.range w).map (pz_se u)).filter (fun d => !(K.testBit d))).map (pz_fl g u)
theorem pz_lw_all {g K u : Nat} (hg : g < 6) (hu : pz_T g u) : pz_lw g K u (g + 1) = pz_nl g K u := by
  unfold pz_lw pz_nl
  rw [← pz_bl_list hg hu, List.filter_filter]
  congr 2
  funext d
  exact Bool.and_comm _ _
theorem pz_lw_s (g K u w : Nat) : pz_lw g K u (w + 1) = pz_lw g K u w ++ if K.testBit (pz_se u w) = true then [] else [pz_fl g u (pz_se u w)] := by
  unfold pz_lw
  rw [List.range_succ, List.map_append, List.filter_append, List.map_append]
  congr 1
  cases hk : K.testBit (pz_se u w) with
  | false => simp [hk]
  | true => simp [hk]
/-- the flips of the first d diagonals that are there and aren't locked -/
def pz_ln (g K u d : Nat) : List Nat := ((List.range d).filter (fun d => u.testBit d && !(K.testBit d))).map (pz_fl g u)
theorem pz_ln_s (g K u d : Nat) : pz_ln g K u (d + 1) = pz_ln g K u d ++ if u.testBit d = true ∧ K.testBit d = false then [pz_fl g u d] else [] := by
  unfold pz_ln
  rw [List.range_succ, List.filter_append, List.map_append]
  congr 1
  cases h1 : u.testBit d with
  | false => simp [h1]
  | true =>
    cases h2 : K.testBit d with
    | false => simp [h1, h2]
    | true => simp [h1, h2]
def pz_cd : Option Nat → Int32
  | none => -1
  | some k => nI k
/-- the rows a, b, c of n places M hold far, ways, order -/
def pz_Sim (h : zq_H) (a b c : Nat) (M : Nat → Nat) (n : Nat) (S : pz_St) : Prop :=
  (∀ i, i < n → pz_i h a i = pz_cd (S.1 (M i)) ∧ pz_i h b i = nI (S.2.1 (M i))) ∧ ∀ j, j < S.2.2.length → ∃ i, i < n ∧ M i = S.2.2.getD j 0 ∧ pz_i h c j = nI i
section PZS
variable {h : zq_H} {a b c n fu wu j : Nat} {M : Nat → Nat} {S : pz_St}
theorem pz_Sim.none (H : pz_Sim h a b c M n S) (hM : ∀ i j, i < n → j < n → M i = M j → i = j) (hab : a ≠ b) (hac : a ≠ c) (hbc : b ≠ c) (hj : j < n) (h0 : S.1 (M j) = none) :
    pz_Sim (pz_S (pz_S (pz_S h a j (nI (fu + 1))) c S.2.2.length (nI j)) b j (nI (S.2.1 (M j) + wu))) a b c M n (pz_e fu wu S (M j)) := by
  unfold pz_e
  rw [h0]
  simp only
  refine ⟨fun i hi => ?_, fun q hq => ?_⟩
  · simp only [pz_S_i]
    rw [if_neg (fun e => hab e.1), if_neg (fun e => hac e.1)]
    by_cases e : i = j
    · subst e
      simp [pz_cd]
    · have e2 : M i ≠ M j := fun q => e (hM i j hi hj q)
      simp only [e, e2, and_false, if_false]
      rw [if_neg (fun q => hbc q.1)]
      exact H.1 i hi
  · simp only at hq
    rw [List.length_append, List.length_singleton] at hq
    simp only [pz_S_i]
    rw [if_neg (fun e => hbc e.1.symm)]
    by_cases e : q = S.2.2.length
    · subst e
      refine ⟨j, hj, ?_, by simp⟩
      simp [List.getD]
    · obtain ⟨i, h1, h2, h3⟩ := H.2 q (by omega)
      refine ⟨i, h1, ?_, ?_⟩
      · rw [h2]
        simp only [List.getD]
        rw [List.getElem?_append_left (by omega)]
      · rw [if_neg (fun q => e q.2), if_neg (fun e => hac e.1.symm)]
        exact h3
theorem pz_Sim.some (H : pz_Sim h a b c M n S) (hM : ∀ i j, i < n → j < n → M i = M j → i = j) (hab : a ≠ b) (hbc : b ≠ c) (hj : j < n) (h0 : S.1 (M j) = some (fu + 1)) :
    pz_Sim (pz_S h b j (nI (S.2.1 (M j) + wu))) a b c M n (pz_e fu wu S (M j)) := by
  unfold pz_e
  rw [h0]
  simp only [if_true]
  refine ⟨fun i hi => ?_, fun q hq => ?_⟩
  · simp only [pz_S_i]
    rw [if_neg (fun e => hab e.1)]
    refine ⟨(H.1 i hi).1, ?_⟩
    by_cases e : i = j
    · subst e
      simp
    · have e2 : M i ≠ M j := fun q => e (hM i j hi hj q)
      simp only [e, e2, and_false, if_false]
      exact (H.1 i hi).2
  · simp only at hq
    simp only [pz_S_i]
    rw [if_neg (fun e => hbc e.1.symm)]
    exact H.2 q hq
theorem pz_Sim.same (H : pz_Sim h a b c M n S) (hab : a ≠ b) (hbc : b ≠ c) (hj : j < n) : pz_Sim (pz_S h b j (nI (S.2.1 (M j)))) a b c M n S := by
  refine ⟨fun i hi => ?_, fun q hq => ?_⟩
  · simp only [pz_S_i]
    rw [if_neg (fun e => hab e.1)]
    refine ⟨(H.1 i hi).1, ?_⟩
    by_cases e : i = j
    · subst e; simp
    · simp only [e, and_false, if_false]
      exact (H.1 i hi).2
  · simp only [pz_S_i]
    rw [if_neg (fun e => hbc e.1.symm)]
    exact H.2 q hq
theorem pz_Sim.mono {h' : zq_H} (H : pz_Sim h a b c M n S) (h1 : ∀ j, pz_i h' a j = pz_i h a j) (h2 : ∀ j, pz_i h' b j = pz_i h b j) (h3 : ∀ j, pz_i h' c j = pz_i h c j) : pz_Sim h' a b c M n S :=
  ⟨fun i hi => by rw [h1, h2]; exact H.1 i hi, fun q hq => by rw [h3]; exact H.2 q hq⟩
theorem pz_e_skip {k : Nat} (h0 : S.1 j = some k) (hk : k ≠ fu + 1) : pz_e fu wu S j = S := by
  unfold pz_e
  rw [h0]
  exact if_neg hk
end PZS
/-- the order of a search is a list of triangulations without doubles -/
def pz_Ok (g : Nat) (S : pz_St) : Prop := S.2.2.Nodup ∧ (∀ x ∈ S.2.2, pz_T g x) ∧ ∀ x, x ∈ S.2.2 ↔ S.1 x ≠ none
theorem pz_Ok.len {g : Nat} {S : pz_St} (hg : g < 6) (H : pz_Ok g S) : S.2.2.length ≤ pz_cn g := by
  have h1 := pz_nd_map (f := pz_ix g) H.1 (fun a ha b hb hab => by
    have e1 := (pz_T_ix hg (H.2.1 a ha)).2
    have e2 := (pz_T_ix hg (H.2.1 b hb)).2
    rw [← e1, ← e2, hab])
  have h2 := pz_pig h1 (n := pz_cn g) (fun x hx => by
    obtain ⟨y, hy, rfl⟩ := List.mem_map.mp hx
    exact (pz_T_ix hg (H.2.1 y hy)).1)
  simpa using h2
theorem pz_Ok.e {g fu wu : Nat} {S : pz_St} {v : Nat} (H : pz_Ok g S) (hv : pz_T g v) : pz_Ok g (pz_e fu wu S v) := by
  unfold pz_Ok
  rw [pz_e_ord]
  cases h0 : S.1 v with
  | some k =>
    rw [if_neg (by simp), List.append_nil]
    refine ⟨H.1, H.2.1, fun x => ?_⟩
    rw [H.2.2]
    cases hx : S.1 x with
    | some j => rw [pz_e_some hx]
    | none =>
      rw [pz_e_none hx, if_neg (fun e => by rw [e, h0] at hx; cases hx)]
  | none =>
    rw [if_pos rfl]
    refine ⟨?_, ?_, fun x => ?_⟩
    · rw [List.nodup_append]
      refine ⟨H.1, by simp, fun a ha b hb hab => ?_⟩
      rw [List.mem_singleton] at hb
      rw [hab, hb] at ha
      exact (H.2.2 v).mp ha h0
    · intro x hx
      rcases List.mem_append.mp hx with hx | hx
      · exact H.2.1 x hx
      · rw [List.mem_singleton] at hx
        rw [hx]; exact hv
    · rw [List.mem_append, H.2.2, List.mem_singleton]
      cases hx : S.1 x with
      | some j => rw [pz_e_some hx]; simp
      | none =>
        rw [pz_e_none hx]
        by_cases e : x = v
        · simp [e]
        · simp [e]
theorem pz_Ok.room {g : Nat} {S : pz_St} (hg : g < 6) (H : pz_Ok g S) {v : Nat} (hv : pz_T g v) (h0 : S.1 v = none) : S.2.2.length < pz_cn g := by
  have h1 := (H.e (fu := 0) (wu := 0) hv).len hg
  rw [pz_e_ord, if_pos h0, List.length_append, List.length_singleton] at h1
  omega
def pz_Rh (r : Nat) : Prop := zq_sh r = (2, 0) ∧ zq_sh (r + 1) = (10, 429) ∧ zq_sh (r + 2) = (10, 429) ∧ zq_sh (r + 3) = (10, 429)
/-- what stays of a Reach at r -/
def pz_Rs (h : zq_H) (r : Nat) : Prop := pz_Rh r ∧ r + 3 < h.1 ∧ pz_r h r 0 = some (r + 1) ∧ pz_r h r 1 = some (r + 2) ∧ pz_r h r 2 = some (r + 3)
section PZR
variable {h : zq_H} {r t g : Nat} {M sl : Nat → Nat}
theorem rq_0 (R : pz_Rs h r) : zq_gr h r 2 0 = some (r + 1) := by rw [pz_gr (by have := R.2.1; omega) (by rw [R.1.1]), R.2.2.1]
theorem rq_1 (R : pz_Rs h r) : zq_gr h r 2 1 = some (r + 2) := by rw [pz_gr (by have := R.2.1; omega) (by rw [R.1.1]), R.2.2.2.1]
theorem rq_2 (R : pz_Rs h r) : zq_gr h r 2 2 = some (r + 3) := by rw [pz_gr (by have := R.2.1; omega) (by rw [R.1.1]), R.2.2.2.2]
theorem rq_3 (R : pz_Rs h r) : zq_gr h r 2 3 = pz_r h r 3 := pz_gr (by have := R.2.1; omega) (by rw [R.1.1])
theorem rq_4 (R : pz_Rs h r) : zq_gi h r 2 4 = some (pz_i h r 4) := pz_gi (by have := R.2.1; omega) (by rw [R.1.1])
theorem rq_5 (R : pz_Rs h r) : zq_gi h r 2 5 = some (pz_i h r 5) := pz_gi (by have := R.2.1; omega) (by rw [R.1.1])
theorem rq_ck {α : Type} {k : Unit → Option α} (R : pz_Rs h r) : zq_ck h r 2 k = k () := pz_ck (by have := R.2.1; omega) (by rw [R.1.1])
theorem rq_a1 (R : pz_Rs h r) {i : Nat} (hi : i < 429) : zq_ai h (r + 1) (nI i) = some (pz_i h (r + 1) i) := pz_ai (by have := R.2.1; omega) R.1.2.1 hi (by omega)
theorem rq_a2 (R : pz_Rs h r) {i : Nat} (hi : i < 429) : zq_ai h (r + 2) (nI i) = some (pz_i h (r + 2) i) := pz_ai (by have := R.2.1; omega) R.1.2.2.1 hi (by omega)
theorem rq_a3 (R : pz_Rs h r) {i : Nat} (hi : i < 429) : zq_ai h (r + 3) (nI i) = some (pz_i h (r + 3) i) := pz_ai (by have := R.2.1; omega) R.1.2.2.2 hi (by omega)
theorem rq_s1 (R : pz_Rs h r) {i : Nat} (hi : i < 429) (v : Int32) : zq_si h (r + 1) (nI i) v = some (pz_S h (r + 1) i v) := pz_si (by have := R.2.1; omega) R.1.2.1 hi (by omega) v
theorem rq_s2 (R : pz_Rs h r) {i : Nat} (hi : i < 429) (v : Int32) : zq_si h (r + 2) (nI i) v = some (pz_S h (r + 2) i v) := pz_si (by have := R.2.1; omega) R.1.2.2.1 hi (by omega) v
theorem rq_s3 (R : pz_Rs h r) {i : Nat} (hi : i < 429) (v : Int32) : zq_si h (r + 3) (nI i) v = some (pz_S h (r + 3) i v) := pz_si (by have := R.2.1; omega) R.1.2.2.2 hi (by omega) v
theorem rq_n1 (R : pz_Rs h r) : zq_an h (r + 1) = some (nI 429) := pz_an (by have := R.2.1; omega) R.1.2.1 (by omega) (by omega)
theorem rq_n2 (R : pz_Rs h r) : zq_an h (r + 2) = some (nI 429) := pz_an (by have := R.2.1; omega) R.1.2.2.1 (by omega) (by omega)
theorem rq_n3 (R : pz_Rs h r) : zq_an h (r + 3) = some (nI 429) := pz_an (by have := R.2.1; omega) R.1.2.2.2 (by omega) (by omega)
/-- only the rows of the Reach differ -/
def pz_rg (r : Nat) (h h' : zq_H) : Prop := h'.1 = h.1 ∧ h'.2.2 = h.2.2 ∧ ∀ a j, a ≠ r + 1 → a ≠ r + 2 → a ≠ r + 3 → pz_i h' a j = pz_i h a j
theorem pz_rg.rf : pz_rg r h h := ⟨rfl, rfl, fun _ _ _ _ _ => rfl⟩
theorem pz_rg.tr {a b c : zq_H} (h1 : pz_rg r a b) (h2 : pz_rg r b c) : pz_rg r a c := ⟨h2.1.trans h1.1, h2.2.1.trans h1.2.1, fun x j k1 k2 k3 => (h2.2.2 x j k1 k2 k3).trans (h1.2.2 x j k1 k2 k3)⟩
theorem pz_rg.S {a j : Nat} {v : Int32} (ha : a = r + 1 ∨ a = r + 2 ∨ a = r + 3) : pz_rg r h (pz_S h a j v) := ⟨rfl, rfl, fun x y k1 k2 k3 => by
  rw [pz_S_i, if_neg]
  rintro ⟨rfl, rfl⟩
  rcases ha with q | q | q
  · exact k1 q
  · exact k2 q
  · exact k3 q⟩
theorem pz_rg.rr {h' : zq_H} (H : pz_rg r h h') (a j : Nat) : pz_r h' a j = pz_r h a j := by unfold pz_r; rw [H.2.1]
theorem pz_rg.ag {h' : zq_H} (H : pz_rg r h h') : pz_ag (fun a => a ≠ r + 1 ∧ a ≠ r + 2 ∧ a ≠ r + 3) h h' :=
  ⟨H.1, fun a ha j => ⟨H.2.2 a j ha.1 ha.2.1 ha.2.2, by unfold pz_j; rw [H.2.1], by unfold pz_r; rw [H.2.1]⟩⟩
theorem pz_Rs.rg {h' : zq_H} (R : pz_Rs h r) (H : pz_rg r h h') : pz_Rs h' r := ⟨R.1, by rw [H.1]; exact R.2.1, by rw [H.rr, H.rr, H.rr]; exact R.2.2⟩
theorem pz_Gs.ag {h' : zq_H} (G : pz_Gs h t g) {Q : Nat → Prop} (hq : pz_ag Q h h') (hQ : ∀ i, i < 12 → Q (t + i)) : pz_Gs h' t g := by
  obtain ⟨h1, h2, h3, h4, h5, h6, h7, h8⟩ := G
  have q0 : Q t := hQ 0 (by omega)
  refine ⟨h1, by rw [hq.1]; exact h2, h3.ag hq (fun i hi => by rw [Nat.add_assoc]; exact hQ (1 + i) (by omega)), ?_, ?_, ?_, ?_, ?_⟩
  · rw [hq.r q0, hq.r q0, hq.r q0, hq.r q0]; exact h4
  · rw [hq.i q0]; exact h5
  · rw [hq.i q0]; exact h6
  · rw [hq.i q0]; exact h7
  · rw [hq.i q0]; exact h8
theorem pz_HT.ag {h' : zq_H} {f : Nat} (H : pz_HT h t g M sl f) {Q : Nat → Prop} (hq : pz_ag Q h h') (hQ : ∀ i, i < 12 → Q (t + i)) : pz_HT h' t g M sl f := by
  obtain ⟨c1, c2, c3, c4, c5, c6, c7⟩ := H
  have q0 : Q t := hQ 0 (by omega)
  exact ⟨c1, by rw [hq.i q0]; exact c2, fun i hi => by rw [hq.i (hQ 9 (by omega))]; exact c3 i hi, c4, fun s hs => by rw [hq.i (hQ 11 (by omega))]; exact c5 s hs, c6, c7⟩
theorem pz_Gb.ag {h' : zq_H} (B : pz_Gb h t g M sl) {Q : Nat → Prop} (hq : pz_ag Q h h') (hQ : ∀ i, i < 12 → Q (t + i)) : pz_Gb h' t g M sl :=
  ⟨B.1.ag hq hQ, B.2.1, fun i w hi hw => by rw [hq.i (hQ 10 (by omega))]; exact B.2.2 i w hi hw⟩
theorem pz_f_app (fu wu : Nat) (S : pz_St) (l m : List Nat) : pz_f fu wu S (l ++ m) = pz_f fu wu (pz_f fu wu S l) m := by
  unfold pz_f
  rw [List.foldl_append]
theorem pz_f_val {fu wu x k : Nat} {S : pz_St} {l : List Nat} (h : (pz_f fu wu S l).1 x = some k) : S.1 x = some k ∨ k = fu + 1 := by
  cases hx : S.1 x with
  | some j =>
    rw [pz_f_some hx] at h
    exact Or.inl h
  | none =>
    rw [pz_f_none hx] at h
    by_cases e : x ∈ l
    · rw [if_pos e] at h
      injection h with h
      exact Or.inr h.symm
    · rw [if_neg e] at h
      cases h
/-- the far cells behind the triangulations stay -/
def pz_up (r n : Nat) (h h' : zq_H) : Prop := ∀ i, n ≤ i → pz_i h' (r + 1) i = pz_i h (r + 1) i
theorem pz_up.rf {n : Nat} : pz_up r n h h := fun _ _ => rfl
theorem pz_up.tr {n : Nat} {a b c : zq_H} (h1 : pz_up r n a b) (h2 : pz_up r n b c) : pz_up r n a c := fun i hi => (h2 i hi).trans (h1 i hi)
theorem pz_up.S {n a j : Nat} {v : Int32} (ha : a ≠ r + 1 ∨ j < n) : pz_up r n h (pz_S h a j v) := fun i hi => by
  rw [pz_S_i, if_neg]
  rintro ⟨q, rfl⟩
  rcases ha with e | e
  · exact e q.symm
  · omega
theorem s_spreadOn (G : pz_Gs h t g) (B : pz_Gb h t g M sl) (R : pz_Rs h r) (h3 : pz_r h r 3 = some t) (htr : t + 11 < r) {K : Nat} (hK : K < 134217728) (h5 : pz_i h r 5 = nI K) {S : pz_St} (HS : pz_Sim h (r + 1) (r + 2) (r + 3) M (pz_cn g) S) (HO : pz_Ok g S) {i u fu : Nat} (hi : i < pz_cn g) (hu : M i = u) (hfu : S.1 u = some fu) (hfl : fu < 1000) (hbd : ∀ x k, S.1 x = some k → k < 1000) :
    ∃ h', f_X2_spreadOn h r (nI i) (nI S.2.2.length) = some (nI (pz_f fu (S.2.1 u) S (pz_nl g K u)).2.2.length, h') ∧ pz_rg r h h' ∧ pz_Sim h' (r + 1) (r + 2) (r + 3) M (pz_cn g) (pz_f fu (S.2.1 u) S (pz_nl g K u)) ∧ pz_Ok g (pz_f fu (S.2.1 u) S (pz_nl g K u)) ∧ pz_up r (pz_cn g) h h' := by
  have hg := G.1.1
  have hcn := pz_cn_le hg
  have hnd := pz_nd_le hg
  have hT : pz_T g u := by rw [← hu]; exact (B.1.2.2.1 i hi).2
  have hu27 := pz_T_27 hg hT
  have hinj := B.1.2.2.2.1
  obtain ⟨r1, r2, r3, r4⟩ := pz_bits hg hT
  have ema := gq_ma G B.1 hi
  rw [hu] at ema
  generalize hwu : S.2.1 u = wu
  unfold f_X2_spreadOn
  rw [rq_3 R, h3, Option.bind_some, gq_ck G, s_maskAt G B hi, hu, Option.bind_some]
  have main := pz_lpIB (b := fun s_7 : Int32 × Int32 × Int32 × zq_H => (Option.bind (zq_gr s_7.2.2.2 r 2 3) fun v_15 => (Option.bind (zq_gi s_7.2.2.2 v_15 0 4) fun v_17 => (if v_17 ≤ s_7.2.2.1 then some (.inr (s_7.1, s_7.2.2.2)) else (if s_7.2.1 = 0 then some (.inr (s_7.1, s_7.2.2.2)) else (zq_let (s_7.2.1 &&& (-s_7.2.1)) fun v_21 => (zq_let (s_7.2.1 ^^^ v_21) fun v_23 => (Option.bind (zq_gi s_7.2.2.2 r 2 5) fun v_25 => (if (v_21 &&& v_25) = 0 then (Option.bind (zq_gr s_7.2.2.2 r 2 3) fun v_31 => (zq_ck s_7.2.2.2 v_31 0 fun _ => (Option.bind (f_X0_neighborOf s_7.2.2.2 v_31 (nI i) s_7.2.2.1) fun v_33 => (if v_33 < 0 then (zq_let (s_7.2.2.1 + 1) fun v_37 => some (.inl (s_7.1, v_23, v_37, s_7.2.2.2))) else (Option.bind (zq_gr s_7.2.2.2 r 2 0) fun v_39 => (Option.bind (zq_an s_7.2.2.2 v_39) fun v_41 => (if v_33 < v_41 then (Option.bind (zq_gr s_7.2.2.2 r 2 0) fun v_44 => (Option.bind (zq_ai s_7.2.2.2 v_44 v_33) fun v_46 => (if v_46 = (-1) then (Option.bind (zq_gr s_7.2.2.2 r 2 2) fun v_72 => (Option.bind (zq_an s_7.2.2.2 v_72) fun v_74 => (if v_74 ≤ s_7.1 then (Option.bind (zq_gr s_7.2.2.2 r 2 0) fun v_77 => (Option.bind (zq_ai s_7.2.2.2 v_77 v_33) fun v_79 => (Option.bind (zq_gr s_7.2.2.2 r 2 0) fun v_81 => (Option.bind (zq_ai s_7.2.2.2 v_81 (nI i)) fun v_83 => (if v_79 = (v_83 + 1) then (Option.bind (zq_gr s_7.2.2.2 r 2 1) fun v_88 => (Option.bind (zq_ai s_7.2.2.2 v_88 v_33) fun v_90 => (Option.bind (zq_gr s_7.2.2.2 r 2 1) fun v_92 => (Option.bind (zq_ai s_7.2.2.2 v_92 (nI i)) fun v_94 => (Option.bind (zq_si s_7.2.2.2 v_88 v_33 (v_90 + v_94)) fun h_96 => (zq_let (s_7.2.2.1 + 1) fun v_98 => some (.inl (s_7.1, v_23, v_98, h_96)))))))) else (zq_let (s_7.2.2.1 + 1) fun v_86 => some (.inl (s_7.1, v_23, v_86, s_7.2.2.2)))))))) else (Option.bind (zq_gr s_7.2.2.2 r 2 0) fun v_100 => (Option.bind (zq_gr s_7.2.2.2 r 2 0) fun v_102 => (Option.bind (zq_ai s_7.2.2.2 v_102 (nI i)) fun v_104 => (Option.bind (zq_si s_7.2.2.2 v_100 v_33 (v_104 + 1)) fun h_106 => (Option.bind (zq_gr h_106 r 2 2) fun v_108 => (Option.bind (zq_si h_106 v_108 s_7.1 v_33) fun h_110 => (zq_let (s_7.1 + 1) fun v_112 => (Option.bind (zq_gr h_110 r 2 0) fun v_114 => (Option.bind (zq_ai h_110 v_114 v_33) fun v_116 => (Option.bind (zq_gr h_110 r 2 0) fun v_118 => (Option.bind (zq_ai h_110 v_118 (nI i)) fun v_120 => (if v_116 = (v_120 + 1) then (Option.bind (zq_gr h_110 r 2 1) fun v_125 => (Option.bind (zq_ai h_110 v_125 v_33) fun v_127 => (Option.bind (zq_gr h_110 r 2 1) fun v_129 => (Option.bind (zq_ai h_110 v_129 (nI i)) fun v_131 => (Option.bind (zq_si h_110 v_125 v_33 (v_127 + v_131)) fun h_133 => (zq_let (s_7.2.2.1 + 1) fun v_135 => some (.inl (v_112, v_23, v_135, h_133)))))))) else (zq_let (s_7.2.2.1 + 1) fun v_123 => some (.inl (v_112, v_23, v_123, h_110)))))))))))))))))) else (Option.bind (zq_gr s_7.2.2.2 r 2 0) fun v_49 => (Option.bind (zq_ai s_7.2.2.2 v_49 v_33) fun v_51 => (Option.bind (zq_gr s_7.2.2.2 r 2 0) fun v_53 => (Option.bind (zq_ai s_7.2.2.2 v_53 (nI i)) fun v_55 => (if v_51 = (v_55 + 1) then (Option.bind (zq_gr s_7.2.2.2 r 2 1) fun v_60 => (Option.bind (zq_ai s_7.2.2.2 v_60 v_33) fun v_62 => (Option.bind (zq_gr s_7.2.2.2 r 2 1) fun v_64 => (Option.bind (zq_ai s_7.2.2.2 v_64 (nI i)) fun v_66 => (Option.bind (zq_si s_7.2.2.2 v_60 v_33 (v_62 + v_66)) fun h_68 => (zq_let (s_7.2.2.1 + 1) fun v_70 => some (.inl (s_7.1, v_23, v_70, h_68)))))))) else (zq_let (s_7.2.2.1 + 1) fun v_58 => some (.inl (s_7.1, v_23, v_58, s_7.2.2.2))))))))))) else (zq_let (s_7.2.2.1 + 1) fun v_137 => some (.inl (s_7.1, v_23, v_137, s_7.2.2.2)))))))))) else (zq_let (s_7.2.2.1 + 1) fun v_29 => some (.inl (s_7.1, v_23, v_29, s_7.2.2.2)))))))))))) (f := fun y_10 : Int32 × zq_H => some (y_10.1, y_10.2)) (s0 := (nI S.2.2.length, nI u, 0, h))
    (P := fun y => ∃ h', y = (nI (pz_f fu wu S (pz_nl g K u)).2.2.length, h') ∧ pz_rg r h h' ∧ pz_Sim h' (r + 1) (r + 2) (r + 3) M (pz_cn g) (pz_f fu wu S (pz_nl g K u)) ∧ pz_Ok g (pz_f fu wu S (pz_nl g K u)) ∧ pz_up r (pz_cn g) h h')
    (fun w s => s.1 = nI (pz_f fu wu S (pz_lw g K u w)).2.2.length ∧ s.2.1 = nI (pz_rs u w) ∧ s.2.2.1 = nI w ∧ pz_rg r h s.2.2.2 ∧ pz_Sim s.2.2.2 (r + 1) (r + 2) (r + 3) M (pz_cn g) (pz_f fu wu S (pz_lw g K u w)) ∧ pz_Ok g (pz_f fu wu S (pz_lw g K u w)) ∧ pz_up r (pz_cn g) h s.2.2.2) (g + 1)
    (fun y => ∃ h', y = (nI (pz_f fu wu S (pz_nl g K u)).2.2.length, h') ∧ pz_rg r h h' ∧ pz_Sim h' (r + 1) (r + 2) (r + 3) M (pz_cn g) (pz_f fu wu S (pz_nl g K u)) ∧ pz_Ok g (pz_f fu wu S (pz_nl g K u)) ∧ pz_up r (pz_cn g) h h')
    (fun y hy => ⟨y, rfl, hy⟩) ⟨rfl, rfl, rfl, pz_rg.rf, HS, HO, pz_up.rf⟩ ?_ ?_ (by omega)
  · obtain ⟨y, y1, h', rfl, y2⟩ := main
    exact ⟨h', y1, y2⟩
  · rintro w ⟨x1, x2, x3, k⟩ hw ⟨e1, e2, e3, e4, e5, e6, e8⟩
    simp only at e1 e2 e3 e4 e5 e6 e8
    subst e1; subst e2; subst e3
    generalize hSw : pz_f fu wu S (pz_lw g K u w) = Sw at e5 e6
    have hSw1 : Sw.1 u = some fu := by rw [← hSw]; exact pz_f_some hfu
    have hSw2 : Sw.2.1 u = wu := by
      rw [← hSw, pz_f_ways, pz_f_some hfu, if_neg (by intro q; injection q; omega)]
      exact hwu
    have hnext : pz_f fu wu S (pz_lw g K u (w + 1)) = if K.testBit (pz_se u w) = true then Sw else pz_e fu wu Sw (pz_fl g u (pz_se u w)) := by
      rw [pz_lw_s, pz_f_app, hSw]
      cases K.testBit (pz_se u w) <;> rfl
    obtain ⟨b1, b2, b3, b4, b5, b6⟩ := r2 w hw
    have hrl := pz_rs_lt hu27 w
    have hp2 : 2 ^ pz_se u w < 134217728 := Nat.pow_lt_pow_right (n := 27) (by omega) (by omega)
    have hag := e4.ag
    have G' := G.ag hag (fun i hi => ⟨by omega, by omega, by omega⟩)
    have B' := B.ag hag (fun i hi => ⟨by omega, by omega, by omega⟩)
    have R' := R.rg e4
    have h3' : pz_r k r 3 = some t := by rw [e4.rr]; exact h3
    have h5' : pz_i k r 5 = nI K := by rw [e4.2.2 r 5 (by omega) (by omega) (by omega)]; exact h5
    obtain ⟨j, j1, j2, j3⟩ := B'.2.2 i w hi hw
    rw [hu] at j2
    obtain ⟨-, -, -, hflT, -⟩ := pz_flip hg hT b4
    have hxr : pz_rs u w ^^^ 2 ^ pz_se u w = pz_rs u (w + 1) := by
      rw [← b2]; rfl
    have hlen := e6.len hg
    have hbar : (nI (2 ^ pz_se u w) &&& nI K = 0) = (K.testBit (pz_se u w) = false) := by
      rw [pz_and (by omega) (by omega), show (0 : Int32) = nI 0 from rfl, pz_eq (Nat.lt_of_le_of_lt Nat.and_le_right (by omega : K < 4294967296)) (by omega)]
      apply propext
      constructor
      · intro q
        have h1 := congrArg (fun x => x.testBit (pz_se u w)) q
        simpa [Nat.testBit_two_pow] using h1
      · intro q
        apply Nat.eq_of_testBit_eq
        intro z
        rw [Nat.testBit_and, Nat.testBit_two_pow, Nat.zero_testBit]
        by_cases e2 : pz_se u w = z
        · subst e2; simp [q]
        · simp [e2]
    have hij : i ≠ j := by
      intro q
      subst q
      rw [hu] at j2
      have := (pz_flip_back hg hT b4).2.2.2
      rw [← j2, b4] at this
      cases this
    have sfrom : pz_i k (r + 1) i = nI fu := by rw [(e5.1 i hi).1, hu, hSw1]; rfl
    have wfrom : pz_i k (r + 2) i = nI wu := by rw [(e5.1 i hi).2, hu, hSw2]
    have wto : pz_i k (r + 2) j = nI (Sw.2.1 (M j)) := (e5.1 j j1).2
    have sto : pz_i k (r + 1) j = pz_cd (Sw.1 (M j)) := (e5.1 j j1).1
    simp only [rq_3 R', h3', Option.bind_some, gq_4 G']
    rw [if_neg (show ¬ nI (g + 1) ≤ nI w from nI_ge hw (by omega)), if_neg (show ¬ nI (pz_rs u w) = 0 from nI_ne0 b1 (by omega)), pz_loI hrl, b2]
    simp only [zq_let, rq_5 R', h5', Option.bind_some, hbar]
    rw [pz_xor (by omega) (by omega), hxr]
    cases hkb : K.testBit (pz_se u w) with
    | true =>
      rw [hkb, if_pos rfl] at hnext
      refine ⟨_, if_neg (by simp), ?_, rfl, nI_1 w, e4, ?_, ?_, e8⟩
      · show nI Sw.2.2.length = nI (pz_f fu wu S (pz_lw g K u (w + 1))).2.2.length
        rw [hnext]
      · rw [hnext]; exact e5
      · rw [hnext]; exact e6
    | false =>
      rw [hkb, if_neg (by simp), ← j2] at hnext
      rw [if_pos rfl, gq_ck G', s_neighborOf G' hi hw, j3, Option.bind_some, if_neg (nI_pos (by omega))]
      simp only [rq_0 R', rq_1 R', rq_2 R', rq_n1 R', rq_n3 R', Option.bind_some]
      rw [if_pos (nI_lt (by omega) (by omega)), rq_a1 R' (by omega), Option.bind_some, sto]
      cases hto : Sw.1 (M j) with
      | none =>
        have hroom := e6.room hg (by rw [j2]; exact hflT) hto
        have e7 := e5.none (fu := fu) (wu := wu) hinj (by omega) (by omega) (by omega) j1 hto
        have q1 : pz_rg r k (pz_S k (r + 1) j (nI (fu + 1))) := pz_rg.S (Or.inl rfl)
        have q2 : pz_rg r k (pz_S (pz_S k (r + 1) j (nI (fu + 1))) (r + 3) Sw.2.2.length (nI j)) := q1.tr (pz_rg.S (Or.inr (Or.inr rfl)))
        have Ra := R'.rg q1
        have Rb := R'.rg q2
        have v1 : pz_i (pz_S (pz_S k (r + 1) j (nI (fu + 1))) (r + 3) Sw.2.2.length (nI j)) (r + 1) j = nI (fu + 1) := by
          rw [pz_S_i, if_neg (by omega), pz_S_i, if_pos ⟨rfl, rfl⟩]
        have v2 : pz_i (pz_S (pz_S k (r + 1) j (nI (fu + 1))) (r + 3) Sw.2.2.length (nI j)) (r + 1) i = nI fu := by
          simp only [pz_S_i]
          rw [if_neg (by omega), if_neg (fun q => hij q.2), sfrom]
        have v3 : ∀ z, pz_i (pz_S (pz_S k (r + 1) j (nI (fu + 1))) (r + 3) Sw.2.2.length (nI j)) (r + 2) z = pz_i k (r + 2) z := by
          intro z
          simp only [pz_S_i]
          rw [if_neg (by omega), if_neg (by omega)]
        rw [if_pos (show pz_cd none = -1 from rfl), if_neg (nI_ge (by omega) (by omega)), rq_a1 R' (i := i) (by omega), Option.bind_some, sfrom, nI_1, rq_s1 R' (by omega), Option.bind_some, rq_2 Ra, Option.bind_some, rq_s3 Ra (by omega), Option.bind_some]
        simp only [rq_0 Rb, rq_1 Rb, Option.bind_some]
        rw [rq_a1 Rb (i := j) (by omega), Option.bind_some, rq_a1 Rb (i := i) (by omega), Option.bind_some, v1, v2, nI_1, if_pos rfl, rq_a2 Rb (i := j) (by omega), Option.bind_some, rq_a2 Rb (i := i) (by omega), Option.bind_some, v3, v3, wto, wfrom, nI_add, rq_s2 Rb (by omega), Option.bind_some]
        refine ⟨_, rfl, ?_, rfl, nI_1 w, e4.tr (q2.tr (pz_rg.S (Or.inr (Or.inl rfl)))), by rw [hnext]; exact e7, by rw [hnext]; exact e6.e (by rw [j2]; exact hflT), e8.tr ((pz_up.S (Or.inr j1)).tr ((pz_up.S (Or.inl (by omega))).tr (pz_up.S (Or.inl (by omega)))))⟩
        show nI Sw.2.2.length + 1 = nI (pz_f fu wu S (pz_lw g K u (w + 1))).2.2.length
        rw [hnext, pz_e_ord, if_pos hto, List.length_append, List.length_singleton, nI_1]
      | some kt =>
        have hkt : kt ≤ 1000 := by
          rw [← hSw] at hto
          rcases pz_f_val hto with q | q
          · have := hbd _ _ q; omega
          · omega
        have hcdk : pz_cd (some kt) = nI kt := rfl
        rw [hcdk, if_neg (by rw [pz_eqm1 (by omega)]; exact id), rq_a1 R' (i := i) (by omega), Option.bind_some, Option.bind_some, sfrom, nI_1]
        by_cases hk : kt = fu + 1
        · subst hk
          rw [if_pos rfl, rq_a2 R' (i := j) (by omega), Option.bind_some, rq_a2 R' (i := i) (by omega), Option.bind_some, wto, wfrom, nI_add, rq_s2 R' (by omega), Option.bind_some]
          refine ⟨_, rfl, ?_, rfl, nI_1 w, e4.tr (pz_rg.S (Or.inr (Or.inl rfl))), by rw [hnext]; exact e5.some hinj (by omega) (by omega) j1 hto, by rw [hnext]; exact e6.e (by rw [j2]; exact hflT), e8.tr (pz_up.S (Or.inl (by omega)))⟩
          show nI Sw.2.2.length = nI (pz_f fu wu S (pz_lw g K u (w + 1))).2.2.length
          rw [hnext, pz_e_ord, if_neg (by rw [hto]; simp), List.append_nil]
        · rw [if_neg (by rw [nI_eq (by omega) (by omega)]; exact hk)]
          rw [pz_e_skip hto hk] at hnext
          refine ⟨_, rfl, ?_, rfl, nI_1 w, e4, by rw [hnext]; exact e5, by rw [hnext]; exact e6, e8⟩
          show nI Sw.2.2.length = nI (pz_f fu wu S (pz_lw g K u (w + 1))).2.2.length
          rw [hnext]
  · rintro ⟨x1, x2, x3, k⟩ ⟨e1, e2, e3, e4, e5, e6, e8⟩
    simp only at e1 e2 e3 e4 e5 e6 e8
    subst e1; subst e2; subst e3
    rw [pz_lw_all hg hT] at e5 e6 ⊢
    have hag := e4.ag
    have G' := G.ag hag (fun i hi => ⟨by omega, by omega, by omega⟩)
    have R' := R.rg e4
    have h3' : pz_r k r 3 = some t := by rw [e4.rr]; exact h3
    refine ⟨(nI (pz_f fu wu S (pz_nl g K u)).2.2.length, k), ?_, k, rfl, e4, e5, e6, e8⟩
    simp only [rq_3 R', h3', Option.bind_some, gq_4 G']
    rw [if_pos (nI_le (Nat.le_refl _) (by omega))]
end PZR
