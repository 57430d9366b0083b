/-! looks at distances: the reference's, and the class' over a Reach -/
theorem pz_ds_sub {g K s m k : Nat} (hg : g < 6) (hs : K &&& s = K) (h : pz_ds g K s m = some k) : K &&& m = K := by
  by_cases e : K &&& m = K
  · exact e
  · exfalso
    have h1 := pz_wk_out (nb := pz_nb g K) (fun u => K &&& u = K) (fun u _ w hw => (pz_nb_T hg hw).2.1) k hs e
    have h2 := (pz_ds_some.mp h).1
    omega
theorem pz_ds_T {g K s m k : Nat} (hg : g < 6) (hs : pz_T g s) (h : pz_ds g K s m = some k) : pz_T g m := by
  by_cases e : pz_T g m
  · exact e
  · exfalso
    have h1 := pz_wk_out (nb := pz_nb g K) (fun u => pz_T g u) (fun u _ w hw => (pz_nb_T hg hw).1) k hs e
    have h2 := (pz_ds_some.mp h).1
    omega
theorem pz_cd_ge {o : Option Nat} (h : ∀ k, o = some k → k < 1000) : pz_cd o = -1 ∨ ∃ k, o = some k ∧ pz_cd o = nI k ∧ k < 1000 := by
  cases o with
  | none => exact Or.inl rfl
  | some k => exact Or.inr ⟨k, rfl, rfl, h k rfl⟩
theorem pz_cd_eq {o : Option Nat} {k : Nat} (h : ∀ k, o = some k → k < 1000) (hk : k < 1000) : (pz_cd o = nI k) = (o = some k) := by
  apply propext
  cases o with
  | none =>
    constructor
    · intro e
      have e2 : nI k = -1 := e.symm
      rw [pz_eqm1 (by omega)] at e2
      exact e2.elim
    · intro e; cases e
  | some j =>
    have hj := h j rfl
    show nI j = nI k ↔ _
    rw [nI_eq (by omega) (by omega)]
    exact ⟨fun e => by rw [e], fun e => Option.some.inj e⟩
theorem pz_pair {α : Type} {X : Option (α × zq_H)} {v : α} {P : zq_H → Prop} (h : ∃ y, X = some y ∧ ∃ h', y = (v, h') ∧ P h') : ∃ h', X = some (v, h') ∧ P h' := by
  obtain ⟨y, y1, h', rfl, y2⟩ := h
  exact ⟨h', y1, y2⟩
/-- the next flip -/
noncomputable def pz_nfi (g K P G k : Nat) : Nat := pz_ff (fun d => P.testBit d && !(K.testBit d) && decide (pz_ds g K (pz_fl g P d) G = some k)) (pz_nd g) 0
noncomputable def pz_nf (g K P G : Nat) : Nat := match pz_ds g K P G with
  | none => pz_X
  | some 0 => pz_X
  | some (k + 1) => if pz_nfi g K P G k < pz_nd g then pz_nfi g K P G k else pz_X
theorem pz_nf_X {g K P G : Nat} (h : pz_ds g K P G = none ∨ pz_ds g K P G = some 0) : pz_nf g K P G = pz_X := by
  unfold pz_nf
  rcases h with h | h
  · rw [h]
  · rw [h]
theorem pz_nf_s {g K P G k : Nat} (h : pz_ds g K P G = some (k + 1)) : pz_nf g K P G = if pz_nfi g K P G k < pz_nd g then pz_nfi g K P G k else pz_X := by
  unfold pz_nf
  rw [h]
section PZL
variable {h : zq_H} {g : Nat}
theorem m_farthestFrom (R : pz_Ms h) (D : pz_Md h g) (H : pz_Mm h g) (L : pz_Ml h g) {s : Nat} (hs : pz_T g s) : ∃ h', f_X6_farthestFrom h 104 (nI s) = some (nI (pz_ec g s), h') ∧ pz_mg h h' ∧ pz_Mr h' g 0 s := by
  have hg := D.1
  have hcn := pz_cn_le hg
  obtain ⟨h', e1, e2, e3⟩ := m_goFrom R D H L hs (K := 0) (by simp)
  refine ⟨h', ?_, e2, e3⟩
  have R' := R.ag e2.ag (by omega)
  have H' := H.ag e2.ag (by omega)
  unfold f_X6_farthestFrom
  rw [mq_ck R, show (0 : Int32) = nI 0 from rfl, e1, Option.bind_some]
  refine pz_lpB (fun i => (nI (pz_mx (fun i => pz_dv g s (pz_tt g i)) i), nI i)) (pz_cn g) (r := nI (pz_ec g s)) rfl rfl ?_ ?_ (by omega)
  · intro i hi
    have hv := pz_dv_lt hg hs (pz_tt_T hi)
    have hf : pz_i h' 115 i = nI (pz_dv g s (pz_tt g i)) := by rw [(e3 i hi).1, pz_dv_e hg hs (pz_tt_T hi)]; rfl
    have hm : pz_mx (fun i => pz_dv g s (pz_tt g i)) i < 1000 := by
      rcases pz_mx_at (f := fun i => pz_dv g s (pz_tt g i)) (n := i) with e | ⟨j, j1, j2⟩
      · omega
      · rw [← j2]; exact pz_dv_lt hg hs (pz_tt_T (by omega))
    rw [mq_i R', H'.1, Option.bind_some, if_neg (nI_ge hi (by omega)), mq_18 R', Option.bind_some, mq_115 R' (by omega), Option.bind_some, hf]
    simp only [zq_let, nI_1, pz_leI (a := pz_dv g s (pz_tt g i)) (b := pz_mx (fun i => pz_dv g s (pz_tt g i)) i) (by omega) (by omega), Option.bind_some]
    have e : pz_mx (fun i => pz_dv g s (pz_tt g i)) (i + 1) = if pz_mx (fun i => pz_dv g s (pz_tt g i)) i < pz_dv g s (pz_tt g i) then pz_dv g s (pz_tt g i) else pz_mx (fun i => pz_dv g s (pz_tt g i)) i := rfl
    rw [e]
    by_cases q : pz_dv g s (pz_tt g i) ≤ pz_mx (fun i => pz_dv g s (pz_tt g i)) i
    · rw [if_pos q, if_neg (by omega)]
    · rw [if_neg q, if_pos (by omega), mq_115 R' (by omega), Option.bind_some, hf]
  · rw [mq_i R', H'.1, Option.bind_some, if_pos (nI_le (Nat.le_refl _) (by omega))]
    rfl
theorem m_leastSoFar (R : pz_Ms h) (D : pz_Md h g) (H : pz_Mm h g) (L : pz_Ml h g) {s : Nat} (hs : pz_T g s) : ∃ h', f_X6_leastSoFar h 104 (nI s) = some (nI (pz_tt g (pz_lf g s)), h') ∧ pz_mg h h' ∧ pz_Mr h' g 0 s := by
  have hg := D.1
  have hcn := pz_cn_le hg
  obtain ⟨h', e1, e2, e3⟩ := m_farthestFrom R D H L hs
  refine ⟨h', ?_, e2, e3⟩
  have R' := R.ag e2.ag (by omega)
  have H' := H.ag e2.ag (by omega)
  obtain ⟨l1, l2, l3⟩ := pz_lf_e hg s
  have hec := pz_ec_lt hg hs
  have hf : ∀ i, i < pz_cn g → pz_i h' 115 i = nI (pz_dv g s (pz_tt g i)) := fun i hi => by rw [(e3 i hi).1, pz_dv_e hg hs (pz_tt_T hi)]; rfl
  unfold f_X6_leastSoFar
  rw [mq_ck R, e1, Option.bind_some]
  refine pz_lpB (fun i => nI i) (pz_lf g s) (r := nI (pz_lf g s)) ?_ rfl ?_ ?_ (by omega)
  · rw [mq_14 R', Option.bind_some, mq_ma R' (by omega), Option.bind_some, H'.2 _ l1]
  · intro i hi
    have hv := l3 i hi
    rw [mq_18 R', Option.bind_some, mq_115 R' (by omega), Option.bind_some, hf i (by omega), if_neg (nI_ge hv (by omega))]
    simp only [zq_let, nI_1]
  · rw [mq_18 R', Option.bind_some, mq_115 R' (by omega), Option.bind_some, hf _ l1, if_pos (nI_le (by omega) (by omega))]
theorem m_freeFrom (R : pz_Ms h) (D : pz_Md h g) (H : pz_Mm h g) (L : pz_Ml h g) {s G : Nat} (hs : pz_T g s) (hG : pz_T g G) (hz : pz_i h 105 2 = nI G) : ∃ h', f_X6_freeFrom h 104 (nI s) = some (nI (pz_dv g s G), h') ∧ pz_mg h h' := by
  have hg := D.1
  have hcn := pz_cn_le hg
  obtain ⟨h', e1, e2, e3⟩ := m_goFrom R D H L hs (K := 0) (by simp)
  refine ⟨h', ?_, e2⟩
  have R' := R.ag e2.ag (by omega)
  have H' := H.ag e2.ag (by omega)
  obtain ⟨i1, i2⟩ := pz_T_ix hg hG
  unfold f_X6_freeFrom
  rw [mq_ck R, show (0 : Int32) = nI 0 from rfl, e1, Option.bind_some, mq_18 R', Option.bind_some, mq_0 R', Option.bind_some, mq_z2 R', Option.bind_some, e2.2.2 105 2 (by omega) (by omega) (by omega), hz, mq_ck R', m_indexOf R' hg H' (pz_T_27 hg hG), Option.bind_some, mq_115 R' (by omega), Option.bind_some, (e3 _ i1).1, i2, pz_dv_e hg hs hG]
  rfl
theorem m_lockedFrom (R : pz_Ms h) (D : pz_Md h g) (H : pz_Mm h g) (L : pz_Ml h g) {s G K : Nat} (hs : pz_T g s) (hK : K &&& s = K) (hG : pz_T g G) (hz : pz_i h 105 2 = nI G) (hz3 : pz_i h 105 3 = nI K) : ∃ h', f_X6_lockedFrom h 104 (nI s) = some (pz_cd (pz_ds g K s G), h') ∧ pz_mg h h' := by
  have hg := D.1
  have hcn := pz_cn_le hg
  obtain ⟨h', e1, e2, e3⟩ := m_goFrom R D H L hs hK
  refine ⟨h', ?_, e2⟩
  have R' := R.ag e2.ag (by omega)
  have H' := H.ag e2.ag (by omega)
  obtain ⟨i1, i2⟩ := pz_T_ix hg hG
  unfold f_X6_lockedFrom
  rw [mq_0 R, Option.bind_some, mq_z3 R, Option.bind_some, hz3, mq_ck R, e1, Option.bind_some, mq_18 R', Option.bind_some, mq_0 R', Option.bind_some, mq_z2 R', Option.bind_some, e2.2.2 105 2 (by omega) (by omega) (by omega), hz, mq_ck R', m_indexOf R' hg H' (pz_T_27 hg hG), Option.bind_some, mq_115 R' (by omega), Option.bind_some, (e3 _ i1).1, i2]
theorem m_nextFlip (R : pz_Ms h) (D : pz_Md h g) (H : pz_Mm h g) (L : pz_Ml h g) {P G K : Nat} (hP : pz_T g P) (hK : K &&& P = K) (hG : pz_T g G) (hz1 : pz_i h 105 1 = nI P) (hz : pz_i h 105 2 = nI G) (hz3 : pz_i h 105 3 = nI K) : ∃ h', f_X6_nextFlip h 104 = some (nI (pz_nf g K P G), h') ∧ pz_mg h h' := by
  have hg := D.1
  have hnd := pz_nd_le hg
  have hnd0 : 0 < pz_nd g := by
    have q : ∀ g, g < 6 → 0 < pz_nd g := by decide
    exact q g hg
  have hP27 := pz_T_27 hg hP
  have hG27 := pz_T_27 hg hG
  have hK27 : K < 134217728 := by rw [← hK]; exact Nat.lt_of_le_of_lt Nat.and_le_right hP27
  obtain ⟨h1, e1, e2⟩ := m_lockedFrom R D H L hP hK hG hz hz3
  have R1 := R.ag e2.ag (by omega)
  have D1 := D.ag e2.ag (fun a ha => by omega)
  unfold f_X6_nextFlip
  rw [mq_0 R, Option.bind_some, mq_z1 R, Option.bind_some, hz1, mq_ck R, e1, Option.bind_some]
  have triv : (pz_cd (pz_ds g K P G) ≤ 0) → pz_nf g K P G = pz_X → ∃ h', ((zq_lp (σ := Int32 × zq_H) (ρ := (zq_H) ⊕ (Int32 × zq_H)) (fun s_8 => (Option.bind (zq_gi s_8.2 104 6 9) fun v_16 => (if v_16 ≤ s_8.1 then some (.inr (.inl s_8.2)) else (if (pz_cd (pz_ds g K P G)) ≤ 0 then some (.inr (.inl s_8.2)) else (Option.bind (zq_gr s_8.2 104 6 0) fun v_20 => (Option.bind (zq_ai s_8.2 v_20 1) fun v_22 => (Option.bind (f_X6_has s_8.2 v_22 s_8.1) fun v_24 => (if v_24 = false then (zq_let (s_8.1 + 1) fun v_27 => some (.inl (v_27, s_8.2))) else (Option.bind (zq_gr s_8.2 104 6 0) fun v_29 => (Option.bind (zq_ai s_8.2 v_29 3) fun v_31 => (Option.bind (f_X6_has s_8.2 v_31 s_8.1) fun v_33 => (if v_33 = false then (Option.bind (zq_gr s_8.2 104 6 0) fun v_38 => (Option.bind (zq_ai s_8.2 v_38 1) fun v_40 => (zq_ck s_8.2 104 6 fun _ => (Option.bind (f_X6_behindFlip s_8.2 104 v_40 s_8.1) fun v_42 => (zq_ck s_8.2 104 6 fun _ => (Option.bind (f_X6_lockedFrom s_8.2 104 v_42) fun v_45 => (if v_45.1 = ((pz_cd (pz_ds g K P G)) - 1) then some (.inr (.inr ((s_8.1, v_45.2)))) else (zq_let (s_8.1 + 1) fun v_49 => some (.inl (v_49, v_45.2)))))))))) else (zq_let (s_8.1 + 1) fun v_36 => some (.inl (v_36, s_8.2))))))))))))))) zq_N (0, h1)).bind (Sum.elim (fun y_11 : zq_H => some (((-1 : Int32), y_11))) (fun z_12 => some z_12))) = some (nI (pz_nf g K P G), h') ∧ pz_mg h h' := by
    intro hle hX
    refine ⟨h1, ?_, e2⟩
    refine pz_lpB (fun i => (nI i, h1)) 0 (r := Sum.inl h1) ?_ rfl (fun i hi => absurd hi (Nat.not_lt_zero _)) ?_ (by omega)
    · rw [hX]; rfl
    · simp only [mq_9 R1 D1, Option.bind_some]
      rw [if_neg (nI_ge hnd0 (by omega)), if_pos hle]
  cases hds : pz_ds g K P G with
  | none =>
    rw [hds] at triv
    exact triv (by decide) (pz_nf_X (Or.inl hds))
  | some k0 =>
    rw [hds] at triv
    cases k0 with
    | zero => exact triv (by decide) (pz_nf_X (Or.inr hds))
    | succ k =>
      clear triv
      have hkl := pz_ds_lt hg hP hG27 hds
      have hcd : pz_cd (some (k + 1)) = nI (k + 1) := rfl
      rw [hcd, pz_nf_s hds]
      generalize hp : (fun d => P.testBit d && !(K.testBit d) && decide (pz_ds g K (pz_fl g P d) G = some k)) = p
      have hnf : pz_nfi g K P G k = pz_ff p (pz_nd g) 0 := by rw [← hp]; rfl
      rw [hnf]
      have hle := pz_ff_le p (pz_nd g) 0
      refine pz_pair (pz_bindE (Q := fun r => ∃ h', pz_mg h h' ∧ r = if pz_ff p (pz_nd g) 0 < pz_nd g then Sum.inr (nI (pz_ff p (pz_nd g) 0), h') else Sum.inl h') ?_ ?_)
      · refine pz_lpI (fun i s => s.1 = nI i ∧ pz_mg h s.2) (pz_ff p (pz_nd g) 0) _ ⟨rfl, e2⟩ ?_ ?_ (by omega)
        · rintro i ⟨x, k1⟩ hi ⟨a1, a2⟩
          simp only at a1 a2
          subst a1
          have R' := R.ag a2.ag (by omega)
          have D' := D.ag a2.ag (fun a ha => by omega)
          have H' := H.ag a2.ag (by omega)
          have L' := L.ag a2.ag (by omega)
          have z1 : pz_i k1 105 1 = nI P := by rw [a2.2.2 105 1 (by omega) (by omega) (by omega)]; exact hz1
          have z2 : pz_i k1 105 2 = nI G := by rw [a2.2.2 105 2 (by omega) (by omega) (by omega)]; exact hz
          have z3 : pz_i k1 105 3 = nI K := by rw [a2.2.2 105 3 (by omega) (by omega) (by omega)]; exact hz3
          have hno := pz_ff_no p (pz_nd g) 0 i (by omega) hi
          rw [← hp] at hno
          simp only [mq_9 R' D', Option.bind_some]
          rw [if_neg (nI_ge (show i < pz_nd g by omega) (by omega)), if_neg (nI_nle (by omega) (by omega)), mq_0 R', Option.bind_some, mq_z1 R', Option.bind_some, z1, s_has (by omega) (by omega), Option.bind_some]
          cases hb1 : P.testBit i with
          | false =>
            rw [if_pos rfl]
            exact ⟨_, rfl, nI_1 i, a2⟩
          | true =>
            rw [if_neg (by simp), Option.bind_some, mq_z3 R', Option.bind_some, z3, s_has (by omega) (by omega), Option.bind_some]
            cases hb2 : K.testBit i with
            | true =>
              rw [if_neg (by simp)]
              exact ⟨_, rfl, nI_1 i, a2⟩
            | false =>
              have hw : pz_fl g P i ∈ pz_nb g K P := (pz_nb_mem hg).mpr ⟨hP, hK, i, hb1, hb2, rfl⟩
              obtain ⟨f1, f2, -⟩ := pz_nb_T hg hw
              obtain ⟨h2, b1, b2⟩ := m_lockedFrom R' D' H' L' f1 f2 hG z2 z3
              rw [if_pos rfl, Option.bind_some, mq_z1 R', Option.bind_some, z1, mq_ck R', m_behindFlip R' D' hP hb1, Option.bind_some, mq_ck R', b1, Option.bind_some, nI_pred]
              simp only [hb1, hb2] at hno
              have hno2 : pz_ds g K (pz_fl g P i) G ≠ some k := by simpa using hno
              simp only
              rw [if_neg (by rw [pz_cd_eq (fun j hj => pz_ds_lt hg f1 hG27 hj) (by omega)]; exact hno2)]
              exact ⟨_, rfl, nI_1 i, a2.tr b2⟩
        · rintro ⟨x, k1⟩ ⟨a1, a2⟩
          simp only at a1 a2
          subst a1
          have R' := R.ag a2.ag (by omega)
          have D' := D.ag a2.ag (fun a ha => by omega)
          have H' := H.ag a2.ag (by omega)
          have L' := L.ag a2.ag (by omega)
          have z1 : pz_i k1 105 1 = nI P := by rw [a2.2.2 105 1 (by omega) (by omega) (by omega)]; exact hz1
          have z2 : pz_i k1 105 2 = nI G := by rw [a2.2.2 105 2 (by omega) (by omega) (by omega)]; exact hz
          have z3 : pz_i k1 105 3 = nI K := by rw [a2.2.2 105 3 (by omega) (by omega) (by omega)]; exact hz3
          simp only [mq_9 R' D', Option.bind_some]
          by_cases hlt : pz_ff p (pz_nd g) 0 < pz_nd g
          · have hyes := pz_ff_yes p (pz_nd g) 0 (by omega)
            generalize pz_ff p (pz_nd g) 0 = i at hyes hlt hle
            rw [← hp] at hyes
            simp only [Bool.and_eq_true, Bool.not_eq_true', decide_eq_true_eq] at hyes
            obtain ⟨⟨hb1, hb2⟩, hd⟩ := hyes
            have hw : pz_fl g P i ∈ pz_nb g K P := (pz_nb_mem hg).mpr ⟨hP, hK, i, hb1, hb2, rfl⟩
            obtain ⟨f1, f2, -⟩ := pz_nb_T hg hw
            obtain ⟨h2, b1, b2⟩ := m_lockedFrom R' D' H' L' f1 f2 hG z2 z3
            rw [if_neg (nI_ge hlt (by omega)), if_neg (nI_nle (by omega) (by omega)), mq_0 R', Option.bind_some, mq_z1 R', Option.bind_some, z1, s_has (by omega) (by omega), Option.bind_some, hb1, if_neg (by simp), Option.bind_some, mq_z3 R', Option.bind_some, z3, s_has (by omega) (by omega), Option.bind_some, hb2, if_pos rfl, Option.bind_some, mq_z1 R', Option.bind_some, z1, mq_ck R', m_behindFlip R' D' hP hb1, Option.bind_some, mq_ck R', b1, Option.bind_some, nI_pred, hd]
            rw [if_pos (show (pz_cd (some k), h2).1 = nI k from rfl)]
            exact ⟨_, rfl, h2, a2.tr b2, by rw [if_pos hlt]⟩
          · rw [if_pos (nI_le (by omega) (by omega))]
            exact ⟨_, rfl, k1, a2, by rw [if_neg hlt]⟩
      · rintro r ⟨h', q1, rfl⟩
        by_cases hlt : pz_ff p (pz_nd g) 0 < pz_nd g
        · rw [if_pos hlt, if_pos hlt]
          exact ⟨_, rfl, h', rfl, q1⟩
        · rw [if_neg hlt, if_neg hlt]
          exact ⟨_, rfl, h', rfl, q1⟩
end PZL
section PZLR
variable {h : zq_H} {r t g : Nat} {M sl : Nat → Nat}
theorem pz_ltm1 {a : Nat} (h : a < 2147483648) : ¬ nI a < -1 := by
  intro q
  have h1 := Int32.lt_iff_toInt_lt.mp q
  rw [nI_toInt h, show (-1 : Int32).toInt = -1 by decide] at h1
  omega
theorem s_farthest (G : pz_Gs h t g) (B : pz_Gb h t g M sl) (R : pz_Rs h r) {s : Nat} (hs : pz_T g s) (H : pz_Rm h r t g M 0 s) : f_X2_farthest h r = some (nI (pz_ec g s)) := by
  have hg := G.1.1
  have hcn := pz_cn_le hg
  have hT := fun i hi => (B.1.2.2.1 i hi).2
  rw [← pz_ec_of hg s hT B.2.1]
  have hm : ∀ n, n ≤ pz_cn g → pz_mx (fun i => pz_dv g s (M i)) n < 1000 := by
    intro n hn
    rcases pz_mx_at (f := fun i => pz_dv g s (M i)) (n := n) with e | ⟨j, j1, j2⟩
    · omega
    · rw [← j2]; exact pz_dv_lt hg hs (hT j (by omega))
  unfold f_X2_farthest
  refine pz_lpB (fun i => (nI (pz_mx (fun i => pz_dv g s (M i)) (min i (pz_cn g))), nI i)) 429 (r := nI (pz_mx (fun i => pz_dv g s (M i)) (pz_cn g))) rfl ?_ ?_ ?_ (by omega)
  · simp only [Nat.zero_min]
    rfl
  · intro i hi
    simp only [rq_0 R, Option.bind_some, rq_n1 R]
    rw [if_neg (nI_ge hi (by omega)), rq_a1 R hi, Option.bind_some]
    simp only [zq_let, nI_1]
    by_cases hic : i < pz_cn g
    · have hv := pz_dv_lt hg hs (hT i hic)
      have hf : pz_i h (r + 1) i = nI (pz_dv g s (M i)) := by rw [(H.2.2.2.1 i hic).1, pz_dv_e hg hs (hT i hic)]; rfl
      have hmi := hm i (by omega)
      rw [hf, Nat.min_eq_left (show i ≤ pz_cn g by omega), Nat.min_eq_left (show i + 1 ≤ pz_cn g by omega)]
      have e : pz_mx (fun i => pz_dv g s (M i)) (i + 1) = if pz_mx (fun i => pz_dv g s (M i)) i < pz_dv g s (M i) then pz_dv g s (M i) else pz_mx (fun i => pz_dv g s (M i)) i := rfl
      rw [e]
      by_cases q : pz_mx (fun i => pz_dv g s (M i)) i < pz_dv g s (M i)
      · rw [if_pos q, if_pos (nI_lt q (by omega))]
      · rw [if_neg q, if_neg (nI_nlt (by omega) (by omega))]
    · have hmc := hm (pz_cn g) (Nat.le_refl _)
      rw [H.2.2.2.2 i (by omega) hi, Nat.min_eq_right (show pz_cn g ≤ i by omega), Nat.min_eq_right (show pz_cn g ≤ i + 1 by omega), if_neg (pz_ltm1 (by omega))]
  · simp only [rq_0 R, Option.bind_some, rq_n1 R]
    rw [if_pos (nI_le (Nat.le_refl _) (by omega)), Nat.min_eq_right (show pz_cn g ≤ 429 from hcn.1)]
theorem s_leastFarthest (G : pz_Gs h t g) (B : pz_Gb h t g M sl) (R : pz_Rs h r) {s : Nat} (hs : pz_T g s) (H : pz_Rm h r t g M 0 s) : f_X2_leastFarthest h r = some (nI (pz_tt g (pz_lf g s))) := by
  have hg := G.1.1
  have hcn := pz_cn_le hg
  have hT := fun i hi => (B.1.2.2.1 i hi).2
  have hec := pz_ec_lt hg hs
  rw [← pz_lm_lf hg s hT B.2.1]
  unfold f_X2_leastFarthest
  rw [rq_ck R, s_farthest G B R hs H, Option.bind_some]
  refine pz_lpB (fun i => (nI (pz_lm g s M (min i (pz_cn g))), nI i)) 429 (r := nI (pz_lm g s M (pz_cn g))) rfl ?_ ?_ ?_ (by omega)
  · simp only [Nat.zero_min]
    rfl
  · intro i hi
    simp only [rq_3 R, H.1, Option.bind_some, rq_0 R, rq_n1 R]
    rw [if_neg (nI_ge hi (by omega)), gq_ck G]
    by_cases hic : i < pz_cn g
    · have hv := pz_dv_lt hg hs (hT i hic)
      have hM := pz_T_27 hg (hT i hic)
      have hf : pz_i h (r + 1) i = nI (pz_dv g s (M i)) := by rw [(H.2.2.2.1 i hic).1, pz_dv_e hg hs (hT i hic)]; rfl
      rw [s_maskAt G B hic, Option.bind_some, rq_a1 R hi, Option.bind_some, hf, Nat.min_eq_left (show i ≤ pz_cn g by omega), Nat.min_eq_left (show i + 1 ≤ pz_cn g by omega)]
      simp only [pz_eqI (a := pz_dv g s (M i)) (b := pz_ec g s) (by omega) (by omega)]
      have e : pz_lm g s M (i + 1) = if pz_dv g s (M i) = pz_ec g s then (if pz_lm g s M i = pz_X then M i else if pz_lm g s M i ≤ M i then pz_lm g s M i else M i) else pz_lm g s M i := rfl
      rw [e]
      by_cases q : pz_dv g s (M i) = pz_ec g s
      · rw [if_pos q, if_pos q]
        rcases pz_lm_e (g := g) s (M := M) (n := i) (fun j hj => pz_T_27 hg (hT j (by omega))) with ⟨i1, -⟩ | ⟨i1, -, -⟩
        · rw [i1, if_pos (show nI pz_X = -1 by decide)]
          simp only [zq_let, nI_1, if_true]
        · rw [if_neg (by rw [pz_eqm1 (by omega)]; exact id), if_neg (show ¬ pz_lm g s M i = 4294967295 by omega)]
          simp only [pz_leI (a := pz_lm g s M i) (b := M i) (by omega) (by omega)]
          by_cases q2 : pz_lm g s M i ≤ M i
          · rw [if_pos q2, if_pos q2]
            simp only [zq_let, nI_1]
          · rw [if_neg q2, if_neg q2]
            simp only [zq_let, nI_1]
      · rw [if_neg q, if_neg q]
        simp only [zq_let, nI_1]
    · rw [s_maskAt0 G (by omega) (by omega), Option.bind_some, rq_a1 R hi, Option.bind_some, H.2.2.2.2 i (by omega) hi, Nat.min_eq_right (show pz_cn g ≤ i by omega), Nat.min_eq_right (show pz_cn g ≤ i + 1 by omega), if_neg (by intro q; have := pz_eqm1 (a := pz_ec g s) (by omega); rw [← q] at this; simp at this)]
      simp only [zq_let, nI_1]
  · simp only [rq_0 R, Option.bind_some, rq_n1 R]
    rw [if_pos (nI_le (Nat.le_refl _) (by omega)), Nat.min_eq_right (show pz_cn g ≤ 429 from hcn.1)]
end PZLR
