/-! a polygon is made: crossings and images -/
section PZP2
variable {h : zq_H} {t g : Nat}
def pz_cL (g x y : Nat) : Prop := pz_dl g x < pz_dl g y ∧ pz_dl g y < pz_dg g x ∧ pz_dg g x < pz_dg g y
def pz_Nf (h : zq_H) (t g : Nat) : Prop := ∀ d, d < pz_nd g → pz_i h (t + 1) d = nI (pz_dl g d) ∧ pz_i h (t + 2) d = nI (pz_dg g d)
def pz_p5 (t : Nat) (h h' : zq_H) : Prop := h'.1 = h.1 ∧ h'.2.2 = h.2.2 ∧ ∀ a j, a ≠ t + 5 → pz_i h' a j = pz_i h a j
theorem pz_p5.tr {a b c : zq_H} (h1 : pz_p5 t a b) (h2 : pz_p5 t b c) : pz_p5 t a c := ⟨h2.1.trans h1.1, h2.2.1.trans h1.2.1, fun x j k => (h2.2.2 x j k).trans (h1.2.2 x j k)⟩
theorem pz_p5.pf {h' : zq_H} (l : pz_p5 t h h') : pz_pf t h h' := ⟨l.1, l.2.1, fun a j q => l.2.2 a j (by omega)⟩
theorem pz_p5.S {j : Nat} {v : Int32} : pz_p5 t h (pz_S h (t + 5) j v) := ⟨rfl, rfl, fun a b q => by rw [pz_S_i, if_neg (fun r => q r.1)]⟩
theorem pz_Nf.p5 {h' : zq_H} (N : pz_Nf h t g) (l : pz_p5 t h h') : pz_Nf h' t g := fun d hd => by rw [l.2.2 (t + 1) d (by omega), l.2.2 (t + 2) d (by omega)]; exact N d hd
/-- what is crossed, told so far -/
def pz_Wx (h : zq_H) (t g i j : Nat) : Prop := ∃ W : Nat → Nat, ∀ d, d < pz_nd g → pz_i h (t + 5) d = nI (W d) ∧ W d < 134217728 ∧ ∀ e, (W d).testBit e = true ↔ e < pz_nd g ∧ ((pz_cL g d e ∧ (d < i ∨ (d = i ∧ e < j))) ∨ (pz_cL g e d ∧ (e < i ∨ (e = i ∧ d < j))))
theorem s_crossRow (P : pz_P0 h t g) (N : pz_Nf h t g) {i : Nat} (hi : i < pz_nd g) (H : pz_Wx h t g i 0) {α : Type} {k : zq_H → Option α} {Q : α → Prop} (hk : ∀ h', pz_p5 t h h' → pz_Wx h' t g (i + 1) 0 → ∃ y, k h' = some y ∧ Q y) :
    ∃ y, (zq_lp (σ := Int32 × zq_H) (ρ := zq_H) (fun s_12 => (Option.bind (zq_gi s_12.2 t 1 1) fun v_20 => (if v_20 ≤ s_12.1 then some (.inr s_12.2) else (Option.bind (zq_gr s_12.2 t 1 2) fun v_23 => (Option.bind (zq_ai s_12.2 v_23 (nI i)) fun v_25 => (Option.bind (zq_gr s_12.2 t 1 2) fun v_27 => (Option.bind (zq_ai s_12.2 v_27 s_12.1) fun v_29 => (if v_29 ≤ v_25 then (zq_let (s_12.1 + 1) fun v_33 => some (.inl (v_33, s_12.2))) else (Option.bind (zq_gr s_12.2 t 1 2) fun v_35 => (Option.bind (zq_ai s_12.2 v_35 s_12.1) fun v_37 => (Option.bind (zq_gr s_12.2 t 1 3) fun v_39 => (Option.bind (zq_ai s_12.2 v_39 (nI i)) fun v_41 => (if v_41 ≤ v_37 then (zq_let (s_12.1 + 1) fun v_45 => some (.inl (v_45, s_12.2))) else (Option.bind (zq_gr s_12.2 t 1 3) fun v_48 => (Option.bind (zq_ai s_12.2 v_48 (nI i)) fun v_50 => (Option.bind (zq_gr s_12.2 t 1 3) fun v_52 => (Option.bind (zq_ai s_12.2 v_52 s_12.1) fun v_54 => (if v_54 ≤ v_50 then (zq_let (s_12.1 + 1) fun v_57 => some (.inl (v_57, s_12.2))) else (Option.bind (zq_gr s_12.2 t 1 6) fun v_59 => (Option.bind (zq_ai s_12.2 v_59 (nI i)) fun v_61 => (Option.bind (zq_si s_12.2 v_59 (nI i) (v_61 ||| ((1 : Int32) <<< (s_12.1 &&& 31)))) fun h_63 => (Option.bind (zq_gr h_63 t 1 6) fun v_65 => (Option.bind (zq_ai h_63 v_65 s_12.1) fun v_67 => (Option.bind (zq_si h_63 v_65 s_12.1 (v_67 ||| ((1 : Int32) <<< ((nI i) &&& 31)))) fun h_69 => (zq_let (s_12.1 + 1) fun v_71 => some (.inl (v_71, h_69))))))))))))))))))))))))))) zq_N (0, h)).bind k = some y ∧ Q y := by
  have hg := P.1.1
  have hnd := pz_nd_le hg
  refine pz_lpIB (fun j s => s.1 = nI j ∧ pz_p5 t h s.2 ∧ pz_Wx s.2 t g i j) (pz_nd g) (fun h' => pz_p5 t h h' ∧ pz_Wx h' t g (i + 1) 0) (fun h' q => hk h' q.1 q.2) ⟨rfl, ⟨rfl, rfl, fun _ _ _ => rfl⟩, H⟩ ?_ ?_ (by omega)
  · rintro j ⟨x, k0⟩ hj ⟨e1, e2, W, e3⟩
    simp only at e1 e2 e3
    subst e1
    have P' := P.pf e2.pf
    have N' := N.p5 e2
    obtain ⟨i1, i2⟩ := N' i hi
    obtain ⟨j1, j2⟩ := N' j hj
    have di := pz_dia hg hi
    have dj := pz_dia hg hj
    have ai1 : zq_ai k0 (t + 1) (nI i) = some (nI (pz_dl g i)) := by rw [oa_1 P' hi, i1]
    have ai2 : zq_ai k0 (t + 2) (nI i) = some (nI (pz_dg g i)) := by rw [oa_2 P' hi, i2]
    have aj1 : zq_ai k0 (t + 1) (nI j) = some (nI (pz_dl g j)) := by rw [oa_1 P' hj, j1]
    have aj2 : zq_ai k0 (t + 2) (nI j) = some (nI (pz_dg g j)) := by rw [oa_2 P' hj, j2]
    have skip : ¬ pz_cL g i j → ∃ s' : Int32 × zq_H, some ((Sum.inl (nI (j + 1), k0)) : (Int32 × zq_H) ⊕ zq_H) = some (Sum.inl s') ∧ s'.1 = nI (j + 1) ∧ pz_p5 t h s'.2 ∧ pz_Wx s'.2 t g i (j + 1) := by
      intro q
      refine ⟨(nI (j + 1), k0), rfl, rfl, e2, W, fun d hd => ⟨(e3 d hd).1, (e3 d hd).2.1, fun e => ?_⟩⟩
      rw [(e3 d hd).2.2 e]
      refine and_congr_right (fun _ => ?_)
      constructor
      · rintro (⟨c, r⟩ | ⟨c, r⟩)
        · exact Or.inl ⟨c, by omega⟩
        · exact Or.inr ⟨c, by omega⟩
      · rintro (⟨c, r⟩ | ⟨c, r⟩)
        · refine Or.inl ⟨c, ?_⟩
          rcases r with r | ⟨r1, r2⟩
          · exact Or.inl r
          · refine Or.inr ⟨r1, ?_⟩
            rcases Nat.lt_succ_iff_lt_or_eq.mp r2 with s | s
            · exact s
            · subst r1; subst s; exact absurd c q
        · refine Or.inr ⟨c, ?_⟩
          rcases r with r | ⟨r1, r2⟩
          · exact Or.inl r
          · refine Or.inr ⟨r1, ?_⟩
            rcases Nat.lt_succ_iff_lt_or_eq.mp r2 with s | s
            · exact s
            · subst r1; subst s; exact absurd c q
    simp only [oq_1 P', oq_2 P', oq_3 P', Option.bind_some, ai1, aj1, ai2, aj2]
    rw [if_neg (nI_ge hj (by omega))]
    by_cases q1 : pz_dl g j ≤ pz_dl g i
    · rw [if_pos (nI_le q1 (by omega))]
      simp only [zq_let, nI_1]
      exact skip (fun c => by have := c.1; omega)
    · rw [if_neg (nI_ge (by omega) (by omega))]
      by_cases q2 : pz_dg g i ≤ pz_dl g j
      · rw [if_pos (nI_le q2 (by omega))]
        simp only [zq_let, nI_1]
        exact skip (fun c => by have := c.2.1; omega)
      · rw [if_neg (nI_ge (by omega) (by omega))]
        by_cases q3 : pz_dg g j ≤ pz_dg g i
        · rw [if_pos (nI_le q3 (by omega))]
          simp only [zq_let, nI_1]
          exact skip (fun c => by have := c.2.2; omega)
        · rw [if_neg (nI_ge (by omega) (by omega))]
          have hc : pz_cL g i j := ⟨by omega, by omega, by omega⟩
          have hij : i ≠ j := fun r => by subst r; omega
          obtain ⟨wi, wi2, wi3⟩ := e3 i hi
          obtain ⟨wj, wj2, wj3⟩ := e3 j hj
          have p27 : ∀ {c : Nat}, c < 27 → 2 ^ c < 134217728 := fun hc => Nat.pow_lt_pow_right (n := 27) (by omega) hc
          have pi := p27 (show i < 27 by omega)
          have pj := p27 (show j < 27 by omega)
          generalize hm1 : pz_S k0 (t + 5) i (nI (W i ||| 2 ^ j)) = m1
          have l1 : pz_p5 t k0 m1 := by rw [← hm1]; exact pz_p5.S
          have P1 := P'.pf l1.pf
          have f1 : pz_i m1 (t + 5) j = nI (W j) := by rw [← hm1, pz_S_i, if_neg (fun r => hij r.2.symm)]; exact wj
          rw [oq_6 P', Option.bind_some, oa_5 P' hi, wi, Option.bind_some, pz_shl (by omega), pz_or (by omega) (by omega), os_5 P' hi, Option.bind_some, hm1, oq_6 P1, Option.bind_some, oa_5 P1 hj, f1, Option.bind_some, pz_shl (by omega), pz_or (by omega) (by omega), os_5 P1 hj, Option.bind_some]
          simp only [zq_let, nI_1]
          refine ⟨_, rfl, rfl, (e2.tr l1).tr pz_p5.S, fun d => if d = j then W j ||| 2 ^ i else if d = i then W i ||| 2 ^ j else W d, fun d hd => ?_⟩
          simp only
          by_cases dj : d = j
          · subst dj
            rw [if_pos rfl, pz_S_i, if_pos ⟨rfl, rfl⟩]
            refine ⟨rfl, Nat.or_lt_two_pow (n := 27) wj2 pi, fun e => ?_⟩
            rw [Nat.testBit_or, Nat.testBit_two_pow, Bool.or_eq_true, decide_eq_true_eq, wj3 e]
            constructor
            · rintro (⟨r1, r2⟩ | r)
              · refine ⟨r1, ?_⟩
                rcases r2 with ⟨c, r⟩ | ⟨c, r⟩
                · exact Or.inl ⟨c, by omega⟩
                · exact Or.inr ⟨c, by omega⟩
              · subst r
                exact ⟨hi, Or.inr ⟨hc, by omega⟩⟩
            · rintro ⟨r1, r2⟩
              rcases r2 with ⟨c, r⟩ | ⟨c, r⟩
              · left
                exact ⟨r1, Or.inl ⟨c, by omega⟩⟩
              · by_cases ei : e = i
                · right; exact ei.symm
                · left
                  exact ⟨r1, Or.inr ⟨c, by omega⟩⟩
          · rw [if_neg dj, pz_S_i, if_neg (fun r => dj r.2), ← hm1, pz_S_i]
            by_cases di : d = i
            · subst di
              rw [if_pos rfl, if_pos ⟨rfl, rfl⟩]
              refine ⟨rfl, Nat.or_lt_two_pow (n := 27) wi2 pj, fun e => ?_⟩
              rw [Nat.testBit_or, Nat.testBit_two_pow, Bool.or_eq_true, decide_eq_true_eq, wi3 e]
              constructor
              · rintro (⟨r1, r2⟩ | r)
                · refine ⟨r1, ?_⟩
                  rcases r2 with ⟨c, r⟩ | ⟨c, r⟩
                  · exact Or.inl ⟨c, by omega⟩
                  · exact Or.inr ⟨c, by omega⟩
                · subst r
                  exact ⟨hj, Or.inl ⟨hc, by omega⟩⟩
              · rintro ⟨r1, r2⟩
                rcases r2 with ⟨c, r⟩ | ⟨c, r⟩
                · by_cases ej : e = j
                  · right; exact ej.symm
                  · left
                    exact ⟨r1, Or.inl ⟨c, by omega⟩⟩
                · left
                  exact ⟨r1, Or.inr ⟨c, by omega⟩⟩
            · rw [if_neg di, if_neg (fun r => di r.2)]
              obtain ⟨w1, w2, w3⟩ := e3 d hd
              refine ⟨w1, w2, fun e => ?_⟩
              rw [w3 e]
              refine and_congr_right (fun _ => ?_)
              constructor
              · rintro (⟨c, r⟩ | ⟨c, r⟩)
                · exact Or.inl ⟨c, by omega⟩
                · exact Or.inr ⟨c, by omega⟩
              · rintro (⟨c, r⟩ | ⟨c, r⟩)
                · exact Or.inl ⟨c, by omega⟩
                · exact Or.inr ⟨c, by omega⟩
  · rintro ⟨x, k0⟩ ⟨e1, e2, W, e3⟩
    simp only at e1 e2 e3
    subst e1
    have P' := P.pf e2.pf
    refine ⟨k0, ?_, e2, W, fun d hd => ⟨(e3 d hd).1, (e3 d hd).2.1, fun e => ?_⟩⟩
    · simp only [oq_1 P', Option.bind_some]
      rw [if_pos (nI_le (Nat.le_refl _) (by omega))]
    · rw [(e3 d hd).2.2 e]
      refine and_congr_right (fun he => ?_)
      constructor
      · rintro (⟨c, r⟩ | ⟨c, r⟩)
        · exact Or.inl ⟨c, by omega⟩
        · exact Or.inr ⟨c, by omega⟩
      · rintro (⟨c, r⟩ | ⟨c, r⟩)
        · exact Or.inl ⟨c, by omega⟩
        · exact Or.inr ⟨c, by omega⟩
theorem s_findCrossings (P : pz_P0 h t g) (N : pz_Nf h t g) (hz : ∀ d, d < pz_nd g → pz_i h (t + 5) d = 0) : ∃ h', f_X1_findCrossings h t = some h' ∧ pz_p5 t h h' ∧ ∀ d, d < pz_nd g → pz_i h' (t + 5) d = nI (pz_cr g d) := by
  have hg := P.1.1
  have hnd := pz_nd_le hg
  unfold f_X1_findCrossings
  refine pz_lpIB (fun i s => s.1 = nI i ∧ pz_p5 t h s.2 ∧ pz_Wx s.2 t g i 0) (pz_nd g) (fun h' => pz_p5 t h h' ∧ ∀ d, d < pz_nd g → pz_i h' (t + 5) d = nI (pz_cr g d)) (fun h' q => ⟨h', rfl, q.1, q.2⟩) ⟨rfl, ⟨rfl, rfl, fun _ _ _ => rfl⟩, fun _ => 0, fun d hd => ⟨hz d hd, (by show 0 < 134217728; omega), fun e => ?_⟩⟩ ?_ ?_ (by omega)
  · rw [Nat.zero_testBit]
    refine ⟨fun q => (by cases q), ?_⟩
    rintro ⟨-, ⟨-, r⟩ | ⟨-, r⟩⟩
    · omega
    · omega
  · rintro i ⟨x, k0⟩ hi ⟨e1, e2, e3⟩
    simp only at e1 e2 e3
    subst e1
    have P' := P.pf e2.pf
    have row := s_crossRow P' (N.p5 e2) hi e3 (k := fun y_15 : zq_H => zq_let (nI i + 1) fun v_73 => some ((Sum.inl (v_73, y_15)) : (Int32 × zq_H) ⊕ zq_H)) (Q := fun z => ∃ h', z = Sum.inl (nI (i + 1), h') ∧ pz_p5 t k0 h' ∧ pz_Wx h' t g (i + 1) 0) (fun h' w1 w2 => ⟨_, rfl, h', by rw [nI_1], w1, w2⟩)
    obtain ⟨y, y1, h', rfl, y2, y3⟩ := row
    refine ⟨(nI (i + 1), h'), ?_, rfl, e2.tr y2, y3⟩
    simp only
    rw [oq_1 P', Option.bind_some, if_neg (nI_ge hi (by omega))]
    exact y1
  · rintro ⟨x, k0⟩ ⟨e1, e2, W, e3⟩
    simp only at e1 e2 e3
    subst e1
    have P' := P.pf e2.pf
    refine ⟨k0, ?_, e2, fun d hd => ?_⟩
    · simp only [oq_1 P', Option.bind_some]
      rw [if_pos (nI_le (Nat.le_refl _) (by omega))]
    · rw [(e3 d hd).1]
      congr 1
      apply Nat.eq_of_testBit_eq
      intro e
      have key : (W d).testBit e = true ↔ (pz_cr g d).testBit e = true := by
        rw [(e3 d hd).2.2 e]
        constructor
        · rintro ⟨he, r⟩
          rw [(pz_cr_sym hg hd he).2]
          simp only [pz_lt_d, Bool.or_eq_true, Bool.and_eq_true, decide_eq_true_eq]
          rcases r with ⟨c, -⟩ | ⟨c, -⟩
          · exact Or.inl ⟨⟨c.1, c.2.1⟩, c.2.2⟩
          · exact Or.inr ⟨⟨c.1, c.2.1⟩, c.2.2⟩
        · intro q
          have he := (pz_crs hg hd q).1
          rw [(pz_cr_sym hg hd he).2] at q
          simp only [pz_lt_d, Bool.or_eq_true, Bool.and_eq_true, decide_eq_true_eq] at q
          refine ⟨he, ?_⟩
          rcases q with ⟨⟨c1, c2⟩, c3⟩ | ⟨⟨c1, c2⟩, c3⟩
          · exact Or.inl ⟨⟨c1, c2, c3⟩, by omega⟩
          · exact Or.inr ⟨⟨c1, c2, c3⟩, by omega⟩
      cases c1 : (pz_cr g d).testBit e with
      | true => exact key.mpr c1
      | false => exact pz_bitf (fun r => by rw [key.mp r] at c1; cases c1)
end PZP2
