/-! the reference sorts, lays its leads, and counts -/
theorem pz_incr {f : Nat → Nat} {n : Nat} (h : ∀ i j, i < j → j < n → f i < f j) (hn : ∀ i, i < n → f i < n) : ∀ i, i < n → f i = i := by
  have h1 : ∀ i, i < n → i ≤ f i := by
    intro i
    induction i with
    | zero => intro _; omega
    | succ i ih =>
      intro hi
      have := ih (by omega)
      have := h i (i + 1) (by omega) hi
      omega
  have h2 : ∀ d i, i + d < n → f i + d ≤ f (i + d) := by
    intro d
    induction d with
    | zero => intro i _; exact Nat.le_refl _
    | succ d ih =>
      intro i hi
      have a1 := ih i (by omega)
      have a2 := h (i + d) (i + d + 1) (by omega) hi
      rw [Nat.add_assoc] at a2
      omega
  intro i hi
  have a1 := h1 i hi
  have a2 := h2 (n - 1 - i) i (by omega)
  have a3 := hn (i + (n - 1 - i)) (by omega)
  omega
theorem pz_sorted {g : Nat} (hg : g < 6) {M : Nat → Nat} (hT : ∀ i, i < pz_cn g → pz_T g (M i)) (hs : ∀ i j, i < j → j < pz_cn g → M i < M j) : ∀ i, i < pz_cn g → M i = pz_tt g i := by
  have h1 := pz_incr (f := fun i => pz_ix g (M i)) (n := pz_cn g) (fun i j hij hj => by
    have a := hs i j hij hj
    obtain ⟨i1, i2⟩ := pz_T_ix hg (hT i (by omega))
    obtain ⟨j1, j2⟩ := pz_T_ix hg (hT j hj)
    rcases Nat.lt_trichotomy (pz_ix g (M i)) (pz_ix g (M j)) with q | q | q
    · exact q
    · exfalso; rw [q, j2] at i2; omega
    · exfalso
      have := pz_tt_mono hg q i1
      omega) (fun i hi => (pz_T_ix hg (hT i hi)).1)
  intro i hi
  have h2 := (pz_T_ix hg (hT i hi)).2
  have h3 : pz_ix g (M i) = i := h1 i hi
  rw [h3] at h2
  exact h2.symm
/-- where the entry at i comes from when the one at k is put at p -/
def pz_sg (p k i : Nat) : Nat := if i < p then i else if i = p then k else if i ≤ k then i - 1 else i
theorem pz_sg_lt {p k n i : Nat} (hp : p ≤ k) (hk : k < n) (hi : i < n) : pz_sg p k i < n := by
  unfold pz_sg
  by_cases h1 : i < p
  · rw [if_pos h1]; omega
  · rw [if_neg h1]
    by_cases h2 : i = p
    · rw [if_pos h2]; exact hk
    · rw [if_neg h2]
      by_cases h3 : i ≤ k
      · rw [if_pos h3]; omega
      · rw [if_neg h3]; exact hi
theorem pz_sg_inj {p k i j : Nat} (hp : p ≤ k) (h : pz_sg p k i = pz_sg p k j) : i = j := by
  unfold pz_sg at h
  by_cases h1 : i < p
  · rw [if_pos h1] at h
    by_cases h1' : j < p
    · rw [if_pos h1'] at h; exact h
    · rw [if_neg h1'] at h
      by_cases h2' : j = p
      · rw [if_pos h2'] at h; omega
      · rw [if_neg h2'] at h
        by_cases h3' : j ≤ k
        · rw [if_pos h3'] at h; omega
        · rw [if_neg h3'] at h; omega
  · rw [if_neg h1] at h
    by_cases h2 : i = p
    · rw [if_pos h2] at h
      by_cases h1' : j < p
      · rw [if_pos h1'] at h; omega
      · rw [if_neg h1'] at h
        by_cases h2' : j = p
        · omega
        · rw [if_neg h2'] at h
          by_cases h3' : j ≤ k
          · rw [if_pos h3'] at h; omega
          · rw [if_neg h3'] at h; omega
    · rw [if_neg h2] at h
      by_cases h3 : i ≤ k
      · rw [if_pos h3] at h
        by_cases h1' : j < p
        · rw [if_pos h1'] at h; omega
        · rw [if_neg h1'] at h
          by_cases h2' : j = p
          · rw [if_pos h2'] at h; omega
          · rw [if_neg h2'] at h
            by_cases h3' : j ≤ k
            · rw [if_pos h3'] at h; omega
            · rw [if_neg h3'] at h; omega
      · rw [if_neg h3] at h
        by_cases h1' : j < p
        · rw [if_pos h1'] at h; omega
        · rw [if_neg h1'] at h
          by_cases h2' : j = p
          · rw [if_pos h2'] at h; omega
          · rw [if_neg h2'] at h
            by_cases h3' : j ≤ k
            · rw [if_pos h3'] at h; omega
            · rw [if_neg h3'] at h; exact h
theorem pz_inl {σ ρ : Type} {X : Option (σ ⊕ ρ)} {P : σ → Prop} (h : ∃ y, X = some y ∧ ∃ s, y = Sum.inl s ∧ P s) : ∃ s, X = some (Sum.inl s) ∧ P s := by
  obtain ⟨y, y1, s, rfl, y2⟩ := h
  exact ⟨s, y1, y2⟩
section PZSO
variable {h : zq_H} {g : Nat}
theorem pz_fg.Sm {a b : zq_H} {i : Nat} {v : Int32} (H : pz_fg a b) : pz_fg a (pz_S b 113 i v) := H.tr ⟨rfl, rfl, fun x y _ l => by rw [pz_S_i, if_neg (fun r => l r.1)]⟩
theorem m_sortIn (hg : g < 6) (R : pz_Ms h) {M : Nat → Nat} (H : pz_Fm h g M (pz_cn g)) {k m : Nat} (hk : k < pz_cn g) (hm : M k = m) {α : Type} {f : Int32 × zq_H → Option α} {P : α → Prop}
    (hf : ∀ p h', p ≤ k → pz_fg h h' → (∀ i, i < pz_cn g → i ≠ p → pz_i h' 113 i = nI (M (pz_sg p k i))) → (∀ i, p ≤ i → i < k → m < M i) → (p = 0 ∨ M (p - 1) < m) → pz_i h' 104 13 = nI (pz_cn g) → ∃ y, f (nI p, h') = some y ∧ P y) :
    ∃ y, (zq_lp (σ := Int32 × zq_H) (ρ := Int32 × zq_H) (fun s_16 => (if s_16.1 ≤ 0 then some (.inr (s_16.1, s_16.2)) else (Option.bind (zq_gr s_16.2 104 6 14) fun v_25 => (Option.bind (zq_ai s_16.2 v_25 (s_16.1 - 1)) fun v_27 => (if v_27 ≤ (nI m) then some (.inr (s_16.1, s_16.2)) else (Option.bind (zq_gr s_16.2 104 6 14) fun v_30 => (Option.bind (zq_gr s_16.2 104 6 14) fun v_32 => (Option.bind (zq_ai s_16.2 v_32 (s_16.1 - 1)) fun v_34 => (Option.bind (zq_si s_16.2 v_30 s_16.1 v_34) fun h_36 => (zq_let (s_16.1 + (-1)) fun v_38 => some (.inl (v_38, h_36)))))))))))) zq_N (nI k, h)).bind f = some y ∧ P y := by
  have hcn := pz_cn_le hg
  obtain ⟨c1, c2, c3, c4⟩ := H
  refine pz_lpMB (fun s => ∃ p, s.1 = nI p ∧ p ≤ k ∧ pz_fg h s.2 ∧ (∀ i, i < pz_cn g → i ≠ p → pz_i s.2 113 i = nI (M (pz_sg p k i))) ∧ (∀ i, p ≤ i → i < k → m < M i) ∧ pz_i s.2 104 13 = nI (pz_cn g)) (fun s => s.1.toNatClampNeg) (fun r => ∃ p h', r = (nI p, h') ∧ p ≤ k ∧ pz_fg h h' ∧ (∀ i, i < pz_cn g → i ≠ p → pz_i h' 113 i = nI (M (pz_sg p k i))) ∧ (∀ i, p ≤ i → i < k → m < M i) ∧ (p = 0 ∨ M (p - 1) < m) ∧ pz_i h' 104 13 = nI (pz_cn g)) ?_ ?_ ?_ ?_
  · rintro r ⟨p, h', rfl, r1, r2, r3, r4, r5, r6⟩
    exact hf p h' r1 r2 r3 r4 r5 r6
  · refine ⟨k, rfl, Nat.le_refl _, pz_fg.rf, fun i hi hne => ?_, fun i h1 h2 => by omega, c2⟩
    rw [(c3 i hi).1]
    unfold pz_sg
    by_cases q : i < k
    · rw [if_pos q]
    · rw [if_neg q, if_neg hne, if_neg (by omega)]
  · simp only
    rw [nI_clamp (by omega)]
    omega
  · rintro ⟨x, k0⟩ ⟨p, e1, e2, e3, e4, e5, e6⟩
    simp only at e1 e3 e4 e6
    subst e1
    have R' := R.lg e3.lg
    have hmT := pz_T_27 hg (c3 k hk).2
    rw [hm] at hmT
    cases p with
    | zero =>
      refine Or.inr ⟨(nI 0, k0), if_pos (show nI 0 ≤ 0 by decide), 0, k0, rfl, e2, e3, e4, e5, Or.inl rfl, e6⟩
    | succ q =>
      have hq : pz_i k0 113 q = nI (M q) := by
        rw [e4 q (by omega) (by omega)]
        unfold pz_sg
        rw [if_pos (by omega)]
      have hqT := pz_T_27 hg (c3 q (by omega)).2
      have hne : M q ≠ m := fun e => by
        have := c4 q k (by omega) hk (by rw [hm]; exact e)
        omega
      rw [if_neg (show ¬ nI (q + 1) ≤ 0 from nI_nle (by omega) (by omega))]
      simp only [mq_14 R', Option.bind_some, nI_pred]
      rw [mq_ma R' (by omega), Option.bind_some, hq]
      simp only [pz_leI (a := M q) (b := m) (by omega) (by omega)]
      by_cases hle : M q ≤ m
      · rw [if_pos hle]
        refine Or.inr ⟨_, rfl, q + 1, k0, rfl, e2, e3, e4, e5, Or.inr ?_, e6⟩
        show M (q + 1 - 1) < m
        rw [Nat.add_sub_cancel]
        omega
      · rw [if_neg hle, Option.bind_some, ms_113 R' (by omega), Option.bind_some]
        simp only [zq_let, pk_m1]
        refine Or.inl ⟨_, rfl, ⟨q, rfl, by omega, e3.Sm, fun i hi hne => ?_, fun i h1 h2 => ?_, ?_⟩, ?_⟩
        · simp only
          rw [pz_S_i]
          by_cases qi : i = q + 1
          · rw [if_pos ⟨rfl, qi⟩]
            unfold pz_sg
            rw [if_neg (by omega), if_neg (by omega), if_pos (by omega), qi, Nat.add_sub_cancel]
          · rw [if_neg (fun r => qi r.2), e4 i hi qi]
            unfold pz_sg
            by_cases q1 : i < q
            · rw [if_pos (by omega), if_pos q1]
            · rw [if_neg (by omega), if_neg qi, if_neg q1, if_neg hne]
        · by_cases q1 : i = q
          · rw [q1]; omega
          · exact e5 i (by omega) h2
        · simp only
          rw [pz_S_i, if_neg (by omega)]
          exact e6
        · simp only
          rw [nI_clamp (by omega), nI_clamp (by omega)]
          omega
theorem m_sortAll (hg : g < 6) (R : pz_Ms h) {M : Nat → Nat} (H : pz_Fm h g M (pz_cn g)) : ∃ h', f_X6_sortAll h 104 = some h' ∧ pz_fg h h' ∧ pz_Mm h' g := by
  have hcn := pz_cn_le hg
  unfold f_X6_sortAll
  refine pz_lpIB (fun i s => s.1 = nI (i + 1) ∧ pz_fg h s.2 ∧ ∃ M, pz_Fm s.2 g M (pz_cn g) ∧ ∀ a b, a < b → b < i + 1 → M a < M b) (pz_cn g - 1) (fun h' => pz_fg h h' ∧ ∃ M, pz_Fm h' g M (pz_cn g) ∧ ∀ a b, a < b → b < pz_cn g → M a < M b) ?_ ⟨rfl, pz_fg.rf, M, H, fun a b h1 h2 => by omega⟩ ?_ ?_ (by omega)
  · rintro h' ⟨q1, M', q2, q3⟩
    have hs := pz_sorted hg (fun i hi => (q2.2.2.1 i hi).2) q3
    exact ⟨h', rfl, q1, q2.2.1, fun i hi => by rw [(q2.2.2.1 i hi).1, hs i hi]⟩
  · rintro i ⟨x, k0⟩ hi ⟨e1, e2, M', e3, e4⟩
    simp only at e1 e2 e3
    subst e1
    have R' := R.lg e2.lg
    have hk : i + 1 < pz_cn g := by omega
    obtain ⟨c1, c2, c3, c4⟩ := id e3
    have row := m_sortIn hg R' e3 hk rfl (f := fun y_19 : Int32 × zq_H => (Option.bind (zq_gr y_19.2 104 6 14) fun v_40 => (Option.bind (zq_si y_19.2 v_40 y_19.1 (nI (M' (i + 1)))) fun h_42 => (zq_let (nI (i + 1) + 1) fun v_44 => some ((Sum.inl (v_44, h_42)) : (Int32 × zq_H) ⊕ zq_H)))))
      (P := fun z => ∃ h', z = Sum.inl (nI (i + 2), h') ∧ pz_fg h h' ∧ ∃ M, pz_Fm h' g M (pz_cn g) ∧ ∀ a b, a < b → b < i + 2 → M a < M b) (fun p h' r1 r2 r3 r4 r5 r6 => by
      have R2 := R'.lg r2.lg
      refine ⟨Sum.inl (nI (i + 2), pz_S h' 113 p (nI (M' (i + 1)))), ?_, _, rfl, (e2.tr r2).Sm, fun j => M' (pz_sg p (i + 1) j), ⟨by omega, by rw [pz_S_i, if_neg (by omega)]; exact r6, fun j hj => ?_, fun a b ha hb hab => ?_⟩, fun a b hab hb => ?_⟩
      · simp only
        rw [mq_14 R2, Option.bind_some, ms_113 R2 (by omega), Option.bind_some]
        simp only [zq_let, nI_1]
      · refine ⟨?_, (c3 _ (pz_sg_lt r1 hk hj)).2⟩
        rw [pz_S_i]
        show _ = nI (M' (pz_sg p (i + 1) j))
        by_cases q : j = p
        · rw [if_pos ⟨rfl, q⟩]
          unfold pz_sg
          rw [if_neg (by omega), if_pos q]
        · rw [if_neg (fun r => q r.2), r3 j hj q]
      · exact pz_sg_inj r1 (c4 _ _ (pz_sg_lt r1 hk ha) (pz_sg_lt r1 hk hb) hab)
      · show M' (pz_sg p (i + 1) a) < M' (pz_sg p (i + 1) b)
        unfold pz_sg
        by_cases a1 : a < p
        · rw [if_pos a1]
          by_cases b1 : b < p
          · rw [if_pos b1]; exact e4 a b hab (by omega)
          · rw [if_neg b1]
            have hp : M' (p - 1) < M' (i + 1) := r5.resolve_left (by omega)
            have ha : M' a ≤ M' (p - 1) := by
              by_cases q : a = p - 1
              · rw [q]; exact Nat.le_refl _
              · exact Nat.le_of_lt (e4 a (p - 1) (by omega) (by omega))
            by_cases b2 : b = p
            · rw [if_pos b2]; omega
            · rw [if_neg b2, if_pos (by omega)]
              exact e4 a (b - 1) (by omega) (by omega)
        · rw [if_neg a1, if_neg (show ¬ b < p by omega), if_neg (show ¬ b = p by omega), if_pos (show b ≤ i + 1 by omega)]
          by_cases a2 : a = p
          · rw [if_pos a2]
            exact r4 (b - 1) (by omega) (by omega)
          · rw [if_neg a2, if_pos (show a ≤ i + 1 by omega)]
            exact e4 (a - 1) (b - 1) (by omega) (by omega))
    obtain ⟨y, y1, h', rfl, y2, M2, y3, y4⟩ := row
    refine ⟨(nI (i + 2), h'), ?_, rfl, y2, M2, y3, y4⟩
    rw [mq_i R', c2, Option.bind_some, if_neg (nI_ge hk (by omega))]
    simp only [mq_14 R', Option.bind_some]
    rw [mq_ma R' (by omega), (c3 _ hk).1, Option.bind_some]
    exact y1
  · rintro ⟨x, k0⟩ ⟨e1, e2, M', e3, e4⟩
    simp only at e1 e2 e3
    subst e1
    have R' := R.lg e2.lg
    refine ⟨k0, ?_, e2, M', e3, fun a b h1 h2 => e4 a b h1 (by omega)⟩
    rw [mq_i R', e3.2.1, Option.bind_some, if_pos (nI_le (by omega) (by omega))]
/-- only the leads differ -/
def pz_vg (h h' : zq_H) : Prop := h'.1 = h.1 ∧ h'.2.2 = h.2.2 ∧ ∀ a j, a ≠ 114 → pz_i h' a j = pz_i h a j
theorem pz_vg.rf : pz_vg h h := ⟨rfl, rfl, fun _ _ _ => rfl⟩
theorem pz_vg.tr {a b c : zq_H} (h1 : pz_vg a b) (h2 : pz_vg b c) : pz_vg a c := ⟨h2.1.trans h1.1, h2.2.1.trans h1.2.1, fun x j k => (h2.2.2 x j k).trans (h1.2.2 x j k)⟩
theorem pz_vg.S {i : Nat} {v : Int32} : pz_vg h (pz_S h 114 i v) := ⟨rfl, rfl, fun x y l => by rw [pz_S_i, if_neg (fun r => l r.1)]⟩
theorem pz_vg.lg {h' : zq_H} (H : pz_vg h h') : pz_lg h h' := ⟨H.1, H.2.1, fun a j k => H.2.2 a j (by omega)⟩
theorem pz_vg.ag {h' : zq_H} (H : pz_vg h h') : pz_ag (fun a => a ≠ 114) h h' := ⟨H.1, fun a ha j => ⟨H.2.2 a j ha, by unfold pz_j; rw [H.2.1], by unfold pz_r; rw [H.2.1]⟩⟩
theorem m_layLeads (R : pz_Ms h) (D : pz_Md h g) (H : pz_Mm h g) : ∃ h', f_X6_layLeads h 104 = some h' ∧ pz_vg h h' ∧ pz_Ml h' g := by
  have hg := D.1
  have hcn := pz_cn_le hg
  have hnd := pz_nd_le hg
  unfold f_X6_layLeads
  refine pz_lpIB (fun a s => s.1 = nI a ∧ pz_vg h s.2 ∧ ∀ i w, i < a → w < g + 1 → pz_i s.2 114 (6 * i + w) = nI (pz_ld g i w)) (pz_cn g) (fun h' => pz_vg h h' ∧ pz_Ml h' g) (fun h' q => ⟨h', rfl, q⟩) ⟨rfl, pz_vg.rf, fun i w hi => absurd hi (Nat.not_lt_zero _)⟩ ?_ ?_ (by omega)
  · rintro a ⟨x, k0⟩ ha ⟨e1, e2, e3⟩
    simp only at e1 e2 e3
    subst e1
    have R' := R.lg e2.lg
    have D' := D.ag e2.ag (fun a ha => by omega)
    have H' := H.ag e2.ag (by omega)
    have hT := pz_tt_T (g := g) ha
    have hix := (pz_tt_2 hg ha).1
    generalize hu : pz_tt g a = u at hT hix
    have hu27 := pz_T_27 hg hT
    obtain ⟨-, -, r3, r4⟩ := pz_bits hg hT
    rw [mq_i R', H'.1, Option.bind_some, if_neg (nI_ge ha (by omega))]
    refine pz_inl (pz_lpIB (fun d s => s.1 = nI (pz_rk u d) ∧ s.2.1 = nI d ∧ pz_vg k0 s.2.2 ∧ (∀ i w, i < a → w < g + 1 → pz_i s.2.2 114 (6 * i + w) = nI (pz_ld g i w)) ∧ ∀ w, w < pz_rk u d → pz_i s.2.2 114 (6 * a + w) = nI (pz_ld g a w)) (pz_nd g) (fun h' => pz_vg k0 h' ∧ ∀ i w, i < a + 1 → w < g + 1 → pz_i h' 114 (6 * i + w) = nI (pz_ld g i w)) ?_ ⟨rfl, rfl, pz_vg.rf, e3, fun w hw => absurd hw (Nat.not_lt_zero _)⟩ ?_ ?_ (by omega))
    · rintro h' ⟨q1, q2⟩
      exact ⟨_, rfl, (nI a + 1, h'), rfl, nI_1 a, e2.tr q1, q2⟩
    · rintro d ⟨x1, x2, k1⟩ hd ⟨f1, f2, f3, f4, f5⟩
      simp only at f1 f2 f3 f4 f5
      subst f1; subst f2
      have R1 := R'.lg f3.lg
      have D1 := D'.ag f3.ag (fun a ha => by omega)
      have H1 := H'.ag f3.ag (by omega)
      have hrk : pz_rk u (d + 1) = pz_rk u d + u / 2 ^ d % 2 := rfl
      have hma : zq_ai k1 113 (nI a) = some (nI u) := by rw [mq_ma R1 (by omega), H1.2 a ha, hu]
      simp only [mq_9 R1 D1, Option.bind_some]
      rw [if_neg (show ¬ nI (pz_nd g) ≤ nI d from nI_ge hd (by omega))]
      simp only [mq_14 R1, Option.bind_some, hma]
      rw [s_has (by omega) (by omega), Option.bind_some]
      cases hub : u.testBit d with
      | false =>
        have hb0 : u / 2 ^ d % 2 = 0 := by
          rw [Nat.testBit_eq_decide_div_mod_eq] at hub
          have := of_decide_eq_false hub
          omega
        rw [hb0] at hrk
        have hrk : pz_rk u (d + 1) = pz_rk u d := hrk
        rw [if_pos rfl]
        refine ⟨_, rfl, ?_, nI_1 d, f3, f4, fun w hw => f5 w (by rw [hrk] at hw; exact hw)⟩
        show nI (pz_rk u d) = nI (pz_rk u (d + 1))
        rw [hrk]
      | true =>
        have hb1 : u / 2 ^ d % 2 = 1 := by
          rw [Nat.testBit_eq_decide_div_mod_eq] at hub
          exact of_decide_eq_true hub
        rw [hb1] at hrk
        obtain ⟨-, hrkl⟩ := r3 d hd hub
        obtain ⟨-, -, -, hflT, -, -, -, -, -, hld⟩ := pz_flip hg hT hub
        rw [hix] at hld
        rw [if_neg (by simp), mq_15 R1, Option.bind_some, mq_ck R1, m_behindFlip R1 D1 hT hub, Option.bind_some, mq_ck R1, m_indexOf R1 hg H1 (pz_T_27 hg hflT), Option.bind_some, show (6 : Int32) = nI 6 from rfl, pk_mul, nI_add, ms_114 R1 (by omega), Option.bind_some]
        simp only [zq_let, nI_1]
        refine ⟨_, rfl, ?_, rfl, f3.tr pz_vg.S, fun i w hi hw => ?_, fun w hw => ?_⟩
        · show nI (pz_rk u d + 1) = nI (pz_rk u (d + 1))
          rw [hrk]
        · simp only
          rw [pz_S_i, if_neg (by omega)]
          exact f4 i w hi hw
        · simp only
          rw [pz_S_i]
          by_cases q : w = pz_rk u d
          · rw [if_pos ⟨rfl, by omega⟩, q, hld]
          · rw [if_neg (by omega)]
            exact f5 w (by omega)
    · rintro ⟨x1, x2, k1⟩ ⟨f1, f2, f3, f4, f5⟩
      simp only at f1 f2 f3 f4 f5
      subst f1; subst f2
      have R1 := R'.lg f3.lg
      have D1 := D'.ag f3.ag (fun a ha => by omega)
      rw [r4] at f5
      refine ⟨k1, ?_, f3, fun i w hi hw => ?_⟩
      · simp only [mq_9 R1 D1, Option.bind_some]
        rw [if_pos (nI_le (Nat.le_refl _) (by omega))]
      · by_cases q : i = a
        · rw [q]; exact f5 w hw
        · exact f4 i w (by omega) hw
  · rintro ⟨x, k0⟩ ⟨e1, e2, e3⟩
    simp only at e1 e2 e3
    subst e1
    have R' := R.lg e2.lg
    have H' := H.ag e2.ag (by omega)
    refine ⟨k0, ?_, e2, e3⟩
    rw [mq_i R', H'.1, Option.bind_some, if_pos (nI_le (Nat.le_refl _) (by omega))]
/-- the reference's tables, whatever n is now -/
def pz_Tb (h : zq_H) (g : Nat) : Prop := g < 6 ∧ pz_i h 104 8 = nI (g + 4) ∧ pz_i h 104 9 = nI (pz_nd g) ∧ (∀ d, d < pz_nd g → pz_i h 110 d = nI (pz_dl g d) ∧ pz_i h 111 d = nI (pz_dg g d)) ∧ (∀ a b, a < g + 4 → b < g + 4 → pz_i h 112 (9 * a + b) = nI (pz_num g a b)) ∧ pz_Mm h g ∧ pz_Ml h g ∧ pz_i h 104 16 = nI (pz_cl g) ∧ pz_i h 104 17 = nI (pz_di g)
theorem pz_Tb.d (T : pz_Tb h g) (hz : pz_i h 105 0 = nI (g + 4)) : pz_Md h g := ⟨T.1, hz, T.2.2.1, T.2.2.2.1, T.2.2.2.2.1⟩
theorem pz_cc_le : ∀ i, pz_cc g i ≤ i
  | 0 => Nat.le_refl _
  | i + 1 => by
    unfold pz_cc
    have := pz_cc_le i
    cases Nat.beq (pz_ca g (g + 4) (pz_tt g i) (pz_mi g (pz_tt g i)) (pz_tt g i)) (pz_tt g i) with
    | true => simp only [cond_true]; omega
    | false => simp only [cond_false]; omega
theorem m_count (R : pz_Ms h) (D : pz_Md h g) (H : pz_Mm h g) (L : pz_Ml h g) (h16 : pz_i h 104 16 = 0) (h17 : pz_i h 104 17 = 0) {α : Type} {k : zq_H → Option α} {P : α → Prop}
    (hk : ∀ h', h'.1 = h.1 → h'.2.2 = h.2.2 → (∀ a j, a ≠ 115 → a ≠ 116 → a ≠ 117 → ¬ (a = 104 ∧ (j = 16 ∨ j = 17)) → pz_i h' a j = pz_i h a j) → pz_i h' 104 16 = nI (pz_cl g) → pz_i h' 104 17 = nI (pz_di g) → ∃ y, k h' = some y ∧ P y) :
    ∃ y, (zq_lp (σ := Int32 × zq_H) (ρ := zq_H) (fun s_30 => (Option.bind (zq_gi s_30.2 104 6 13) fun v_38 => (if v_38 ≤ s_30.1 then some (.inr s_30.2) else (Option.bind (zq_gi s_30.2 104 6 16) fun v_41 => (Option.bind (zq_gr s_30.2 104 6 14) fun v_43 => (Option.bind (zq_ai s_30.2 v_43 s_30.1) fun v_45 => (zq_ck s_30.2 104 6 fun _ => (Option.bind (f_X6_codeOf s_30.2 104 v_45) fun v_47 => (Option.bind (zq_gr s_30.2 104 6 14) fun v_50 => (Option.bind (zq_ai s_30.2 v_50 s_30.1) fun v_52 => (if v_47 = v_52 then (Option.bind (zq_pi s_30.2 104 6 16 (v_41 + 1)) fun h_77 => (Option.bind (zq_gr h_77 104 6 14) fun v_79 => (Option.bind (zq_ai h_77 v_79 s_30.1) fun v_81 => (zq_ck h_77 104 6 fun _ => (Option.bind (f_X6_farthestFrom h_77 104 v_81) fun v_83 => (Option.bind (zq_gi v_83.2 104 6 17) fun v_86 => (if v_83.1 ≤ v_86 then (Option.bind (zq_gi v_83.2 104 6 17) fun v_89 => (Option.bind (zq_pi v_83.2 104 6 17 v_89) fun h_91 => (zq_let (s_30.1 + 1) fun v_93 => some (.inl (v_93, h_91))))) else (Option.bind (zq_pi v_83.2 104 6 17 v_83.1) fun h_95 => (zq_let (s_30.1 + 1) fun v_97 => some (.inl (v_97, h_95))))))))))) else (Option.bind (zq_pi s_30.2 104 6 16 (v_41 + 0)) fun h_55 => (Option.bind (zq_gr h_55 104 6 14) fun v_57 => (Option.bind (zq_ai h_55 v_57 s_30.1) fun v_59 => (zq_ck h_55 104 6 fun _ => (Option.bind (f_X6_farthestFrom h_55 104 v_59) fun v_61 => (Option.bind (zq_gi v_61.2 104 6 17) fun v_64 => (if v_61.1 ≤ v_64 then (Option.bind (zq_gi v_61.2 104 6 17) fun v_67 => (Option.bind (zq_pi v_61.2 104 6 17 v_67) fun h_69 => (zq_let (s_30.1 + 1) fun v_71 => some (.inl (v_71, h_69))))) else (Option.bind (zq_pi v_61.2 104 6 17 v_61.1) fun h_73 => (zq_let (s_30.1 + 1) fun v_75 => some (.inl (v_75, h_73)))))))))))))))))))))) zq_N (0, h)).bind k = some y ∧ P y := by
  have hg := D.1
  have hcn := pz_cn_le hg
  refine pz_lpIB (fun i s => s.1 = nI i ∧ s.2.1 = h.1 ∧ s.2.2.2 = h.2.2 ∧ (∀ a j, a ≠ 115 → a ≠ 116 → a ≠ 117 → ¬ (a = 104 ∧ (j = 16 ∨ j = 17)) → pz_i s.2 a j = pz_i h a j) ∧ pz_i s.2 104 16 = nI (pz_cc g i) ∧ pz_i s.2 104 17 = nI (pz_mx (fun i => pz_ec g (pz_tt g i)) i)) (pz_cn g) (fun h' => h'.1 = h.1 ∧ h'.2.2 = h.2.2 ∧ (∀ a j, a ≠ 115 → a ≠ 116 → a ≠ 117 → ¬ (a = 104 ∧ (j = 16 ∨ j = 17)) → pz_i h' a j = pz_i h a j) ∧ pz_i h' 104 16 = nI (pz_cl g) ∧ pz_i h' 104 17 = nI (pz_di g)) (fun h' q => hk h' q.1 q.2.1 q.2.2.1 q.2.2.2.1 q.2.2.2.2) ⟨rfl, rfl, rfl, fun _ _ _ _ _ _ => rfl, h16, h17⟩ ?_ ?_ (by omega)
  · rintro i ⟨x, k0⟩ hi ⟨e1, e2, e3, e4, e5, e6⟩
    simp only at e1 e2 e3 e4 e5 e6
    subst e1
    have fr : ∀ (k1 : zq_H), k1.1 = h.1 → k1.2.2 = h.2.2 → (∀ a j, a ≠ 115 → a ≠ 116 → a ≠ 117 → ¬ (a = 104 ∧ (j = 16 ∨ j = 17)) → pz_i k1 a j = pz_i h a j) → pz_Ms k1 ∧ pz_Md k1 g ∧ pz_Mm k1 g ∧ pz_Ml k1 g := by
      intro k1 q1 q2 q3
      have l : pz_lg h k1 := ⟨q1, q2, fun a j hk => q3 a j (by omega) (by omega) (by omega) (by omega)⟩
      exact ⟨R.lg l, D.lg l (q3 104 9 (by omega) (by omega) (by omega) (by omega)) (fun a j ha => q3 a j (by omega) (by omega) (by omega) (by omega)), ⟨by rw [q3 104 13 (by omega) (by omega) (by omega) (by omega)]; exact H.1, fun i hi => by rw [q3 113 i (by omega) (by omega) (by omega) (by omega)]; exact H.2 i hi⟩, fun i w hi hw => by rw [q3 114 _ (by omega) (by omega) (by omega) (by omega)]; exact L i w hi hw⟩
    obtain ⟨R', D', H', L'⟩ := fr k0 e2 e3 e4
    have hT := pz_tt_T (g := g) hi
    have hm2 := (pz_tt_2 hg hi).2.1
    have hm27 := pz_p27 hg hm2
    have hco := pz_co_lt (g := g) hm27 (g + 4)
    have hcc := pz_cc_le (g := g) i
    have hec := pz_ec_lt hg hT
    have hmx : pz_mx (fun i => pz_ec g (pz_tt g i)) i < 1000 := by
      rcases pz_mx_at (f := fun i => pz_ec g (pz_tt g i)) (n := i) with e | ⟨j, j1, j2⟩
      · omega
      · rw [← j2]; exact pz_ec_lt hg (pz_tt_T (by omega))
    have hma : zq_ai k0 113 (nI i) = some (nI (pz_tt g i)) := by rw [mq_ma R' (by omega), H'.2 i hi]
    have hccs : pz_cc g (i + 1) = pz_cc g i + if pz_co g (pz_tt g i) (g + 4) = pz_tt g i then 1 else 0 := by
      have e := pz_ca_e g (pz_tt g i) (g + 4) 0
      rw [Nat.zero_add] at e
      have e' : pz_ca g (g + 4) (pz_tt g i) (pz_mi g (pz_tt g i)) (pz_tt g i) = pz_co g (pz_tt g i) (g + 4) := e
      show pz_cc g i + _ = _
      rw [e']
      by_cases q : pz_co g (pz_tt g i) (g + 4) = pz_tt g i
      · rw [if_pos q, q, Nat.beq_refl]; rfl
      · rw [if_neg q]
        cases e2 : Nat.beq (pz_co g (pz_tt g i) (g + 4)) (pz_tt g i) with
        | false => rfl
        | true => exact absurd (Nat.eq_of_beq_eq_true e2) q
    rw [mq_i R', H'.1, Option.bind_some, if_neg (nI_ge hi (by omega)), mq_i R', e5, Option.bind_some]
    simp only [mq_14 R', Option.bind_some, hma]
    rw [mq_ck R', m_codeOf R' D' hm2, Option.bind_some]
    simp only [pz_eqI (a := pz_co g (pz_tt g i) (g + 4)) (b := pz_tt g i) (by omega) (by omega)]
    -- what comes behind both branches
    have rest : ∀ c, c = pz_cc g (i + 1) → ∃ s', (Option.bind (zq_gr (pz_S k0 104 16 (nI c)) 104 6 14) fun v_79 => (Option.bind (zq_ai (pz_S k0 104 16 (nI c)) v_79 (nI i)) fun v_81 => (zq_ck (pz_S k0 104 16 (nI c)) 104 6 fun _ => (Option.bind (f_X6_farthestFrom (pz_S k0 104 16 (nI c)) 104 v_81) fun v_83 => (Option.bind (zq_gi v_83.2 104 6 17) fun v_86 => (if v_83.1 ≤ v_86 then (Option.bind (zq_gi v_83.2 104 6 17) fun v_89 => (Option.bind (zq_pi v_83.2 104 6 17 v_89) fun h_91 => (zq_let (nI i + 1) fun v_93 => some ((Sum.inl (v_93, h_91)) : (Int32 × zq_H) ⊕ zq_H)))) else (Option.bind (zq_pi v_83.2 104 6 17 v_83.1) fun h_95 => (zq_let (nI i + 1) fun v_97 => some (Sum.inl (v_97, h_95)))))))))) = some (Sum.inl s') ∧ s'.1 = nI (i + 1) ∧ s'.2.1 = h.1 ∧ s'.2.2.2 = h.2.2 ∧ (∀ a j, a ≠ 115 → a ≠ 116 → a ≠ 117 → ¬ (a = 104 ∧ (j = 16 ∨ j = 17)) → pz_i s'.2 a j = pz_i h a j) ∧ pz_i s'.2 104 16 = nI (pz_cc g (i + 1)) ∧ pz_i s'.2 104 17 = nI (pz_mx (fun i => pz_ec g (pz_tt g i)) (i + 1)) := by
      intro c hc
      have w4 : ∀ a j, a ≠ 115 → a ≠ 116 → a ≠ 117 → ¬ (a = 104 ∧ (j = 16 ∨ j = 17)) → pz_i (pz_S k0 104 16 (nI c)) a j = pz_i h a j := fun a j q1 q2 q3 q4 => by
        rw [pz_S_i, if_neg (by omega)]; exact e4 a j q1 q2 q3 q4
      obtain ⟨R1, D1, H1, L1⟩ := fr (pz_S k0 104 16 (nI c)) e2 e3 w4
      obtain ⟨k1, f1, f2, -⟩ := m_farthestFrom R1 D1 H1 L1 hT
      have R2 := R1.ag f2.ag (by omega)
      have w5 : ∀ a j, a ≠ 115 → a ≠ 116 → a ≠ 117 → ¬ (a = 104 ∧ (j = 16 ∨ j = 17)) → pz_i k1 a j = pz_i h a j := fun a j q1 q2 q3 q4 => by
        rw [f2.2.2 a j q1 q2 q3]; exact w4 a j q1 q2 q3 q4
      have w16 : pz_i k1 104 16 = nI c := by rw [f2.2.2 104 16 (by omega) (by omega) (by omega), pz_S_i, if_pos ⟨rfl, rfl⟩]
      have w17 : pz_i k1 104 17 = nI (pz_mx (fun i => pz_ec g (pz_tt g i)) i) := by rw [f2.2.2 104 17 (by omega) (by omega) (by omega), pz_S_i, if_neg (by omega), e6]
      have hmxs : pz_mx (fun i => pz_ec g (pz_tt g i)) (i + 1) = if pz_mx (fun i => pz_ec g (pz_tt g i)) i < pz_ec g (pz_tt g i) then pz_ec g (pz_tt g i) else pz_mx (fun i => pz_ec g (pz_tt g i)) i := rfl
      rw [mq_14 R1, Option.bind_some, mq_ma R1 (by omega), H1.2 i hi, Option.bind_some, mq_ck R1, f1, Option.bind_some, mq_i R2, w17, Option.bind_some]
      simp only [pz_leI (a := pz_ec g (pz_tt g i)) (b := pz_mx (fun i => pz_ec g (pz_tt g i)) i) (by omega) (by omega), Option.bind_some, mq_p R2, zq_let, nI_1]
      rw [hmxs]
      by_cases q : pz_ec g (pz_tt g i) ≤ pz_mx (fun i => pz_ec g (pz_tt g i)) i
      · rw [if_pos q, if_neg (by omega)]
        refine ⟨_, rfl, rfl, f2.1.trans e2, f2.2.1.trans e3, fun a j q1 q2 q3 q4 => ?_, ?_, ?_⟩
        · simp only
          rw [pz_S_i, if_neg (by omega)]; exact w5 a j q1 q2 q3 q4
        · simp only
          rw [pz_S_i, if_neg (by omega), w16, hc]
        · simp only
          rw [pz_S_i, if_pos ⟨rfl, rfl⟩]
      · rw [if_neg q, if_pos (by omega)]
        refine ⟨_, rfl, rfl, f2.1.trans e2, f2.2.1.trans e3, fun a j q1 q2 q3 q4 => ?_, ?_, ?_⟩
        · simp only
          rw [pz_S_i, if_neg (by omega)]; exact w5 a j q1 q2 q3 q4
        · simp only
          rw [pz_S_i, if_neg (by omega), w16, hc]
        · simp only
          rw [pz_S_i, if_pos ⟨rfl, rfl⟩]
    by_cases q : pz_co g (pz_tt g i) (g + 4) = pz_tt g i
    · rw [if_pos q, nI_1, mq_p R', Option.bind_some]
      exact rest (pz_cc g i + 1) (by rw [hccs, if_pos q])
    · rw [if_neg q, Int32.add_zero, mq_p R', Option.bind_some]
      exact rest (pz_cc g i) (by rw [hccs, if_neg q]; rfl)
  · rintro ⟨x, k0⟩ ⟨e1, e2, e3, e4, e5, e6⟩
    simp only at e1 e2 e3 e4 e5 e6
    subst e1
    have l : pz_lg h k0 := ⟨e2, e3, fun a j hk => e4 a j (by omega) (by omega) (by omega) (by omega)⟩
    have R' := R.lg l
    refine ⟨k0, ?_, e2, e3, e4, by rw [e5, pz_K7 g hg], by rw [e6, pz_widest hg]⟩
    rw [mq_i R', e4 104 13 (by omega) (by omega) (by omega) (by omega), H.1, Option.bind_some, if_pos (nI_le (Nat.le_refl _) (by omega))]
/-- only the reference's tables and their n differ -/
def pz_l8 (h h' : zq_H) : Prop := h'.1 = h.1 ∧ h'.2.2 = h.2.2 ∧ ∀ a j, (a < 104 ∨ (105 ≤ a ∧ a ≤ 109) ∨ 118 ≤ a ∨ (a = 104 ∧ j ≠ 8 ∧ j ≠ 9 ∧ j ≠ 13 ∧ j ≠ 16 ∧ j ≠ 17)) → pz_i h' a j = pz_i h a j
theorem m_layAll (hg : g < 6) (R : pz_Ms h) (hz : pz_i h 105 0 = nI (g + 4)) (C : pz_i h 104 8 = 0 ∨ ∃ g', pz_Tb h g') : ∃ h', f_X6_layAll h 104 = some h' ∧ pz_l8 h h' ∧ pz_Tb h' g := by
  unfold f_X6_layAll
  rw [mq_i R, Option.bind_some]
  simp only [mq_0 R, Option.bind_some, mq_z0 R, hz]
  have build : pz_i h 104 8 ≠ nI (g + 4) → ∃ h', (Option.bind (zq_pi h 104 6 8 (nI (g + 4))) fun h_12 => (zq_ck h_12 104 6 fun _ => (Option.bind (f_X6_layDiagonals h_12 104) fun v_14 => (zq_ck v_14 104 6 fun _ => (Option.bind (f_X6_findAll v_14 104) fun v_17 => (zq_ck v_17 104 6 fun _ => (Option.bind (f_X6_sortAll v_17 104) fun v_20 => (zq_ck v_20 104 6 fun _ => (Option.bind (f_X6_layLeads v_20 104) fun v_23 => (Option.bind (zq_pi v_23 104 6 16 0) fun h_26 => (Option.bind (zq_pi h_26 104 6 17 0) fun h_28 => ((zq_lp (σ := Int32 × zq_H) (ρ := zq_H) (fun s_30 => (Option.bind (zq_gi s_30.2 104 6 13) fun v_38 => (if v_38 ≤ s_30.1 then some (.inr s_30.2) else (Option.bind (zq_gi s_30.2 104 6 16) fun v_41 => (Option.bind (zq_gr s_30.2 104 6 14) fun v_43 => (Option.bind (zq_ai s_30.2 v_43 s_30.1) fun v_45 => (zq_ck s_30.2 104 6 fun _ => (Option.bind (f_X6_codeOf s_30.2 104 v_45) fun v_47 => (Option.bind (zq_gr s_30.2 104 6 14) fun v_50 => (Option.bind (zq_ai s_30.2 v_50 s_30.1) fun v_52 => (if v_47 = v_52 then (Option.bind (zq_pi s_30.2 104 6 16 (v_41 + 1)) fun h_77 => (Option.bind (zq_gr h_77 104 6 14) fun v_79 => (Option.bind (zq_ai h_77 v_79 s_30.1) fun v_81 => (zq_ck h_77 104 6 fun _ => (Option.bind (f_X6_farthestFrom h_77 104 v_81) fun v_83 => (Option.bind (zq_gi v_83.2 104 6 17) fun v_86 => (if v_83.1 ≤ v_86 then (Option.bind (zq_gi v_83.2 104 6 17) fun v_89 => (Option.bind (zq_pi v_83.2 104 6 17 v_89) fun h_91 => (zq_let (s_30.1 + 1) fun v_93 => some (.inl (v_93, h_91))))) else (Option.bind (zq_pi v_83.2 104 6 17 v_83.1) fun h_95 => (zq_let (s_30.1 + 1) fun v_97 => some (.inl (v_97, h_95))))))))))) else (Option.bind (zq_pi s_30.2 104 6 16 (v_41 + 0)) fun h_55 => (Option.bind (zq_gr h_55 104 6 14) fun v_57 => (Option.bind (zq_ai h_55 v_57 s_30.1) fun v_59 => (zq_ck h_55 104 6 fun _ => (Option.bind (f_X6_farthestFrom h_55 104 v_59) fun v_61 => (Option.bind (zq_gi v_61.2 104 6 17) fun v_64 => (if v_61.1 ≤ v_64 then (Option.bind (zq_gi v_61.2 104 6 17) fun v_67 => (Option.bind (zq_pi v_61.2 104 6 17 v_67) fun h_69 => (zq_let (s_30.1 + 1) fun v_71 => some (.inl (v_71, h_69))))) else (Option.bind (zq_pi v_61.2 104 6 17 v_61.1) fun h_73 => (zq_let (s_30.1 + 1) fun v_75 => some (.inl (v_75, h_73)))))))))))))))))))))) zq_N (0, h_28)).bind (fun y_33 : zq_H => some (y_33)))))))))))))) = some h' ∧ pz_l8 h h' ∧ pz_Tb h' g := by
    intro _
    have R0 : pz_Ms (pz_S h 104 8 (nI (g + 4))) := R
    obtain ⟨k1, a1, a2, a3⟩ := m_layDiagonals hg R0 (by rw [pz_S_i, if_neg (by omega)]; exact hz)
    have R1 := R0.lg a2
    obtain ⟨k2, b1, b2, M, b3⟩ := m_findAll R1 a3
    have R2 := R1.lg b2.lg
    have D2 := a3.fg b2
    obtain ⟨k3, c1, c2, c3⟩ := m_sortAll hg R2 b3
    have R3 := R2.lg c2.lg
    have D3 := D2.fg c2
    obtain ⟨k4, d1, d2, d3⟩ := m_layLeads R3 D3 c3
    have R4 := R3.lg d2.lg
    have D4 := D3.ag d2.ag (fun a ha => by omega)
    have H4 := c3.ag d2.ag (by omega)
    generalize hk6 : pz_S (pz_S k4 104 16 0) 104 17 0 = k6
    have i6 : ∀ a j, ¬ (a = 104 ∧ (j = 16 ∨ j = 17)) → pz_i k6 a j = pz_i k4 a j := fun a j q => by
      rw [← hk6, pz_S_i, if_neg (by omega), pz_S_i, if_neg (by omega)]
    have l46 : pz_lg k4 k6 := by rw [← hk6]; exact (pz_lg.S (by omega)).tr (pz_lg.S (by omega))
    have R6 := R4.lg l46
    have D6 : pz_Md k6 g := D4.lg l46 (i6 104 9 (by omega)) (fun a j ha => i6 a j (by omega))
    have H6 : pz_Mm k6 g := ⟨by rw [i6 104 13 (by omega)]; exact H4.1, fun i hi => by rw [i6 113 i (by omega)]; exact H4.2 i hi⟩
    have L6 : pz_Ml k6 g := fun i w hi hw => by rw [i6 114 _ (by omega)]; exact d3 i w hi hw
    have R5 : pz_Ms (pz_S k4 104 16 0) := R4.lg (pz_lg.S (by omega))
    have l1 : pz_i k1 104 8 = nI (g + 4) := by rw [a2.2.2 104 8 (by omega), pz_S_i, if_pos ⟨rfl, rfl⟩]
    rw [mq_p R, Option.bind_some, mq_ck R0, a1, Option.bind_some, mq_ck R1, b1, Option.bind_some, mq_ck R2, c1, Option.bind_some, mq_ck R3, d1, Option.bind_some, mq_p R4, Option.bind_some, mq_p R5, Option.bind_some, hk6]
    refine m_count R6 D6 H6 L6 (by rw [← hk6, pz_S_i, if_neg (by omega), pz_S_i, if_pos ⟨rfl, rfl⟩]) (by rw [← hk6, pz_S_i, if_pos ⟨rfl, rfl⟩]) (fun h' q1 q2 q3 q4 q5 => ⟨h', rfl, ?_, hg, ?_, ?_, ?_, ?_, ?_, ?_, q4, q5⟩)
    · have l := ((((a2.tr b2.lg).tr c2.lg).tr d2.lg).tr l46).tr ⟨q1, q2, fun a j hk => q3 a j (by omega) (by omega) (by omega) (by omega)⟩
      exact ⟨l.1, l.2.1, fun a j hk => by rw [l.2.2 a j (by omega), pz_S_i, if_neg (by omega)]⟩
    · rw [q3 104 8 (by omega) (by omega) (by omega) (by omega), i6 104 8 (by omega), d2.2.2 104 8 (by omega), c2.2.2 104 8 (by omega) (by omega), b2.2.2 104 8 (by omega) (by omega)]
      exact l1
    · rw [q3 104 9 (by omega) (by omega) (by omega) (by omega)]; exact D6.2.2.1
    · intro d hd
      rw [q3 110 d (by omega) (by omega) (by omega) (by omega), q3 111 d (by omega) (by omega) (by omega) (by omega)]; exact D6.2.2.2.1 d hd
    · intro a b ha hb
      rw [q3 112 _ (by omega) (by omega) (by omega) (by omega)]; exact D6.2.2.2.2 a b ha hb
    · exact ⟨by rw [q3 104 13 (by omega) (by omega) (by omega) (by omega)]; exact H6.1, fun i hi => by rw [q3 113 i (by omega) (by omega) (by omega) (by omega)]; exact H6.2 i hi⟩
    · exact fun i w hi hw => by rw [q3 114 _ (by omega) (by omega) (by omega) (by omega)]; exact L6 i w hi hw
  rcases C with C | ⟨g', T⟩
  · rw [C, if_neg (by intro e; have := e.symm; exact nI_ne0 (n := g + 4) (by omega) (by omega) this)]
    exact build (by rw [C]; intro e; exact nI_ne0 (n := g + 4) (by omega) (by omega) e.symm)
  · by_cases q : g' = g
    · subst q
      rw [T.2.1, if_pos rfl]
      exact ⟨h, rfl, ⟨rfl, rfl, fun _ _ _ => rfl⟩, T⟩
    · have hg' := T.1
      rw [T.2.1, if_neg (by rw [nI_eq (by omega) (by omega)]; omega)]
      exact build (by rw [T.2.1, Ne, nI_eq (by omega) (by omega)]; omega)
end PZSO
