/-! the reference goes from one triangulation to all -/
/-- only the rows of a search differ -/
def pz_mg (h h' : zq_H) : Prop := h'.1 = h.1 ∧ h'.2.2 = h.2.2 ∧ ∀ a j, a ≠ 115 → a ≠ 116 → a ≠ 117 → pz_i h' a j = pz_i h a j
theorem pz_mg.rf {h : zq_H} : pz_mg h h := ⟨rfl, rfl, fun _ _ _ _ _ => rfl⟩
theorem pz_mg.tr {a b c : zq_H} (h1 : pz_mg a b) (h2 : pz_mg b c) : pz_mg a c := ⟨h2.1.trans h1.1, h2.2.1.trans h1.2.1, fun x j k1 k2 k3 => (h2.2.2 x j k1 k2 k3).trans (h1.2.2 x j k1 k2 k3)⟩
theorem pz_mg.S {h : zq_H} {a j : Nat} {v : Int32} (ha : a = 115 ∨ a = 116 ∨ a = 117) : pz_mg h (pz_S h a j v) := ⟨rfl, rfl, fun x y k1 k2 k3 => by
  rw [pz_S_i, if_neg]
  rintro ⟨rfl, rfl⟩
  rcases ha with q | q | q
  · exact k1 q
  · exact k2 q
  · exact k3 q⟩
theorem pz_mg.rr {h h' : zq_H} (H : pz_mg h h') (a j : Nat) : pz_r h' a j = pz_r h a j := by unfold pz_r; rw [H.2.1]
theorem pz_mg.ag {h h' : zq_H} (H : pz_mg h h') : pz_ag (fun a => a ≠ 115 ∧ a ≠ 116 ∧ a ≠ 117) h h' :=
  ⟨H.1, fun a ha j => ⟨H.2.2 a j ha.1 ha.2.1 ha.2.2, by unfold pz_j; rw [H.2.1], by unfold pz_r; rw [H.2.1]⟩⟩
theorem pz_Ms.ag {h h' : zq_H} (R : pz_Ms h) {Q : Nat → Prop} (H : pz_ag Q h h') (q : Q 104) : pz_Ms h' := by
  unfold pz_Ms
  rw [H.1, H.r q, H.r q, H.r q, H.r q, H.r q, H.r q, H.r q, H.r q, H.r q, H.r q, H.r q, H.r q, H.r q]
  exact R
/-- its leads, and what it has counted -/
def pz_Ml (h : zq_H) (g : Nat) : Prop := ∀ i w, i < pz_cn g → w < g + 1 → pz_i h 114 (6 * i + w) = nI (pz_ld g i w)
theorem pz_Md.ag {h h' : zq_H} {g : Nat} (D : pz_Md h g) {Q : Nat → Prop} (H : pz_ag Q h h') (q : ∀ a, (a = 104 ∨ a = 105 ∨ a = 110 ∨ a = 111 ∨ a = 112) → Q a) : pz_Md h' g := by
  obtain ⟨h1, h2, h3, h4, h5⟩ := D
  exact ⟨h1, by rw [H.i (q 105 (by omega))]; exact h2, by rw [H.i (q 104 (by omega))]; exact h3, fun d hd => by rw [H.i (q 110 (by omega)), H.i (q 111 (by omega))]; exact h4 d hd, fun a b ha hb => by rw [H.i (q 112 (by omega))]; exact h5 a b ha hb⟩
theorem pz_Mm.ag {h h' : zq_H} {g : Nat} (D : pz_Mm h g) {Q : Nat → Prop} (H : pz_ag Q h h') (q : Q 104 ∧ Q 113) : pz_Mm h' g :=
  ⟨by rw [H.i q.1]; exact D.1, fun i hi => by rw [H.i q.2]; exact D.2 i hi⟩
theorem pz_Ml.ag {h h' : zq_H} {g : Nat} (D : pz_Ml h g) {Q : Nat → Prop} (H : pz_ag Q h h') (q : Q 114) : pz_Ml h' g :=
  fun i w hi hw => by rw [H.i q]; exact D i w hi hw
/-- the rows after a search -/
def pz_Mr (h : zq_H) (g K s : Nat) : Prop := ∀ i, i < pz_cn g → pz_i h 115 i = pz_cd (pz_ds g K s (pz_tt g i)) ∧ pz_i h 116 i = nI (pz_ws g K s (pz_tt g i))
section PZGO
variable {h : zq_H} {g : Nat}
theorem mq_115 (R : pz_Ms h) {i : Nat} (hi : i < 429) : zq_ai h 115 (nI i) = some (pz_i h 115 i) := pz_ai (L := 429) (by have := R.1; omega) rfl hi (by omega)
theorem mq_116 (R : pz_Ms h) {i : Nat} (hi : i < 429) : zq_ai h 116 (nI i) = some (pz_i h 116 i) := pz_ai (L := 429) (by have := R.1; omega) rfl hi (by omega)
theorem mq_117 (R : pz_Ms h) {i : Nat} (hi : i < 429) : zq_ai h 117 (nI i) = some (pz_i h 117 i) := pz_ai (L := 429) (by have := R.1; omega) rfl hi (by omega)
theorem ms_115 (R : pz_Ms h) {i : Nat} (hi : i < 429) (v : Int32) : zq_si h 115 (nI i) v = some (pz_S h 115 i v) := pz_si (L := 429) (by have := R.1; omega) rfl hi (by omega) v
theorem ms_116 (R : pz_Ms h) {i : Nat} (hi : i < 429) (v : Int32) : zq_si h 116 (nI i) v = some (pz_S h 116 i v) := pz_si (L := 429) (by have := R.1; omega) rfl hi (by omega) v
theorem ms_117 (R : pz_Ms h) {i : Nat} (hi : i < 429) (v : Int32) : zq_si h 117 (nI i) v = some (pz_S h 117 i v) := pz_si (L := 429) (by have := R.1; omega) rfl hi (by omega) v
theorem pz_rk_mono (m : Nat) {a b : Nat} (h : a ≤ b) : pz_rk m a ≤ pz_rk m b := by
  induction b with
  | zero => rw [show a = 0 by omega]; exact Nat.le_refl _
  | succ b ih =>
    by_cases e : a = b + 1
    · rw [e]; exact Nat.le_refl _
    · have := ih (by omega)
      show pz_rk m a ≤ pz_rk m b + m / 2 ^ b % 2
      omega
theorem m_spread (R : pz_Ms h) (D : pz_Md h g) (H : pz_Mm h g) (L : pz_Ml h g) {K : Nat} (hK : K < 134217728) {S : pz_St} (HS : pz_Sim h 115 116 117 (pz_tt g) (pz_cn g) S) (HO : pz_Ok g S) {i u fu : Nat} (hi : i < pz_cn g) (hu : pz_tt g i = u) (hfu : S.1 u = some fu) (hfl : fu < 1000) (hbd : ∀ x k, S.1 x = some k → k < 1000) {α : Type} {k : Int32 × zq_H → Option α} {P : α → Prop}
    (hk : ∀ h', pz_mg h h' → pz_Sim h' 115 116 117 (pz_tt g) (pz_cn g) (pz_f fu (S.2.1 u) S (pz_nl g K u)) → pz_Ok g (pz_f fu (S.2.1 u) S (pz_nl g K u)) → ∃ y, k (nI (pz_f fu (S.2.1 u) S (pz_nl g K u)).2.2.length, h') = some y ∧ P y) :
    ∃ y, (zq_lp (σ := Int32 × Int32 × Int32 × zq_H) (ρ := Int32 × zq_H) (fun s_50 => (Option.bind (zq_gi s_50.2.2.2 104 6 9) fun v_58 => (if v_58 ≤ s_50.2.2.1 then some (.inr (s_50.1, s_50.2.2.2)) else (Option.bind (zq_gr s_50.2.2.2 104 6 14) fun v_61 => (Option.bind (zq_ai s_50.2.2.2 v_61 (nI i)) fun v_63 => (Option.bind (f_X6_has s_50.2.2.2 v_63 s_50.2.2.1) fun v_65 => (if v_65 = false then (zq_let (s_50.2.2.1 + 1) fun v_68 => some (.inl (s_50.1, s_50.2.1, v_68, s_50.2.2.2))) else (Option.bind (zq_gr s_50.2.2.2 104 6 15) fun v_70 => (Option.bind (zq_ai s_50.2.2.2 v_70 ((6 * (nI i)) + s_50.2.1)) fun v_72 => (zq_let (s_50.2.1 + 1) fun v_74 => (Option.bind (f_X6_has s_50.2.2.2 (nI K) s_50.2.2.1) fun v_76 => (if v_76 = false then (Option.bind (zq_gr s_50.2.2.2 104 6 18) fun v_90 => (Option.bind (zq_ai s_50.2.2.2 v_90 v_72) fun v_92 => (if v_92 = (-1) then (Option.bind (zq_gr s_50.2.2.2 104 6 18) fun v_121 => (Option.bind (zq_gr s_50.2.2.2 104 6 18) fun v_123 => (Option.bind (zq_ai s_50.2.2.2 v_123 (nI i)) fun v_125 => (Option.bind (zq_si s_50.2.2.2 v_121 v_72 (v_125 + 1)) fun h_127 => (Option.bind (zq_gr h_127 104 6 20) fun v_129 => (Option.bind (zq_si h_127 v_129 s_50.1 v_72) fun h_131 => (zq_let (s_50.1 + 1) fun v_133 => (Option.bind (zq_gr h_131 104 6 19) fun v_135 => (Option.bind (zq_ai h_131 v_135 v_72) fun v_137 => (Option.bind (zq_gr h_131 104 6 18) fun v_140 => (Option.bind (zq_ai h_131 v_140 v_72) fun v_142 => (Option.bind (zq_gr h_131 104 6 18) fun v_144 => (Option.bind (zq_ai h_131 v_144 (nI i)) fun v_146 => (if v_142 = (v_146 + 1) then (Option.bind (zq_gr h_131 104 6 19) fun v_153 => (Option.bind (zq_ai h_131 v_153 (nI i)) fun v_155 => (Option.bind (zq_si h_131 v_135 v_72 (v_137 + v_155)) fun h_157 => (zq_let (s_50.2.2.1 + 1) fun v_159 => some (.inl (v_133, v_74, v_159, h_157)))))) else (Option.bind (zq_si h_131 v_135 v_72 (v_137 + 0)) fun h_149 => (zq_let (s_50.2.2.1 + 1) fun v_151 => some (.inl (v_133, v_74, v_151, h_149)))))))))))))))))) else (Option.bind (zq_gr s_50.2.2.2 104 6 19) fun v_95 => (Option.bind (zq_ai s_50.2.2.2 v_95 v_72) fun v_97 => (Option.bind (zq_gr s_50.2.2.2 104 6 18) fun v_100 => (Option.bind (zq_ai s_50.2.2.2 v_100 v_72) fun v_102 => (Option.bind (zq_gr s_50.2.2.2 104 6 18) fun v_104 => (Option.bind (zq_ai s_50.2.2.2 v_104 (nI i)) fun v_106 => (if v_102 = (v_106 + 1) then (Option.bind (zq_gr s_50.2.2.2 104 6 19) fun v_113 => (Option.bind (zq_ai s_50.2.2.2 v_113 (nI i)) fun v_115 => (Option.bind (zq_si s_50.2.2.2 v_95 v_72 (v_97 + v_115)) fun h_117 => (zq_let (s_50.2.2.1 + 1) fun v_119 => some (.inl (s_50.1, v_74, v_119, h_117)))))) else (Option.bind (zq_si s_50.2.2.2 v_95 v_72 (v_97 + 0)) fun h_109 => (zq_let (s_50.2.2.1 + 1) fun v_111 => some (.inl (s_50.1, v_74, v_111, h_109)))))))))))))) else (Option.bind (zq_gr s_50.2.2.2 104 6 19) fun v_80 => (Option.bind (zq_ai s_50.2.2.2 v_80 v_72) fun v_82 => (Option.bind (zq_si s_50.2.2.2 v_80 v_72 (v_82 + 0)) fun h_85 => (zq_let (s_50.2.2.1 + 1) fun v_87 => some (.inl (s_50.1, v_74, v_87, h_85)))))))))))))))))) zq_N (nI S.2.2.length, 0, 0, h)).bind k = some y ∧ P y := by
  have hg := D.1
  have hcn := pz_cn_le hg
  have hnd := pz_nd_le hg
  have hT : pz_T g u := by rw [← hu]; exact pz_tt_T hi
  have hu27 := pz_T_27 hg hT
  have hinj : ∀ i j, i < pz_cn g → j < pz_cn g → pz_tt g i = pz_tt g j → i = j := fun i j hi hj e => by
    rw [← (pz_tt_2 hg hi).1, ← (pz_tt_2 hg hj).1, e]
  obtain ⟨r1, r2, r3, r4⟩ := pz_bits hg hT
  have hix : pz_ix g u = i := by rw [← hu]; exact (pz_tt_2 hg hi).1
  generalize hwu : S.2.1 u = wu at hk
  refine pz_lpIB (fun d s => s.1 = nI (pz_f fu wu S (pz_ln g K u d)).2.2.length ∧ s.2.1 = nI (pz_rk u d) ∧ s.2.2.1 = nI d ∧ pz_mg h s.2.2.2 ∧ pz_Sim s.2.2.2 115 116 117 (pz_tt g) (pz_cn g) (pz_f fu wu S (pz_ln g K u d)) ∧ pz_Ok g (pz_f fu wu S (pz_ln g K u d))) (pz_nd g)
    (fun y => ∃ h', y = (nI (pz_f fu wu S (pz_nl g K u)).2.2.length, h') ∧ pz_mg h h' ∧ pz_Sim h' 115 116 117 (pz_tt g) (pz_cn g) (pz_f fu wu S (pz_nl g K u)) ∧ pz_Ok g (pz_f fu wu S (pz_nl g K u)))
    ?_ ⟨rfl, rfl, rfl, pz_mg.rf, HS, HO⟩ ?_ ?_ (by omega)
  · rintro y ⟨h', rfl, y1, y2, y3⟩
    exact hk h' y1 y2 y3
  · rintro d ⟨x1, x2, x3, k⟩ hd ⟨e1, e2, e3, e4, e5, e6⟩
    simp only at e1 e2 e3 e4 e5 e6
    subst e1; subst e2; subst e3
    generalize hSw : pz_f fu wu S (pz_ln g K u d) = Sw at e5 e6
    have hSw1 : Sw.1 u = some fu := by rw [← hSw]; exact pz_f_some hfu
    have hSw2 : Sw.2.1 u = wu := by
      rw [← hSw, pz_f_ways, pz_f_some hfu, if_neg (by intro q; injection q; omega)]
      exact hwu
    have hnext : pz_f fu wu S (pz_ln g K u (d + 1)) = if u.testBit d = true ∧ K.testBit d = false then pz_e fu wu Sw (pz_fl g u d) else Sw := by
      rw [pz_ln_s, pz_f_app, hSw]
      by_cases q : u.testBit d = true ∧ K.testBit d = false
      · rw [if_pos q, if_pos q]; rfl
      · rw [if_neg q, if_neg q]; rfl
    have R' := R.ag e4.ag (by omega)
    have D' := D.ag e4.ag (fun a ha => by omega)
    have H' := H.ag e4.ag (by omega)
    have L' := L.ag e4.ag (by omega)
    have hlen := e6.len hg
    have hrk : pz_rk u (d + 1) = pz_rk u d + u / 2 ^ d % 2 := rfl
    have hma : zq_ai k 113 (nI i) = some (nI u) := by rw [mq_ma R' (by omega), H'.2 i hi, hu]
    simp only [mq_9 R' D', Option.bind_some]
    rw [if_neg (show ¬ nI (pz_nd g) ≤ nI d from nI_ge hd (by omega)), mq_14 R', Option.bind_some, hma, Option.bind_some, s_has (by omega) (by omega), Option.bind_some]
    cases hub : u.testBit d with
    | false =>
      rw [if_neg (fun q => by rw [hub] at q; cases q.1)] at hnext
      have hb0 : u / 2 ^ d % 2 = 0 := by
        rw [Nat.testBit_eq_decide_div_mod_eq] at hub
        have := of_decide_eq_false hub
        omega
      rw [hb0] at hrk
      have hrk : pz_rk u (d + 1) = pz_rk u d := hrk
      rw [if_pos rfl]
      refine ⟨_, rfl, ?_, ?_, nI_1 d, e4, ?_, ?_⟩
      · show nI Sw.2.2.length = nI (pz_f fu wu S (pz_ln g K u (d + 1))).2.2.length
        rw [hnext]
      · show nI (pz_rk u d) = nI (pz_rk u (d + 1))
        rw [hrk]
      · rw [hnext]; exact e5
      · rw [hnext]; exact e6
    | true =>
      have hb1 : u / 2 ^ d % 2 = 1 := by
        rw [Nat.testBit_eq_decide_div_mod_eq] at hub
        exact of_decide_eq_true hub
      rw [hb1] at hrk
      obtain ⟨-, hrkl⟩ := r3 d hd hub
      obtain ⟨-, -, -, hflT, -, -, -, -, -, hld⟩ := pz_flip hg hT hub
      rw [hix] at hld
      obtain ⟨j1, hMj⟩ := pz_T_ix hg hflT
      generalize hj : pz_ix g (pz_fl g u d) = j at hld j1 hMj
      have hlead : zq_ai k 114 ((6 * nI i) + nI (pz_rk u d)) = some (nI j) := by
        rw [show (6 : Int32) = nI 6 from rfl, pk_mul, nI_add, pz_ai (L := 2574) (by have := R'.1; omega) rfl (by omega) (by omega), L' i _ hi hrkl, ← hld]
      have hij : i ≠ j := by
        intro q
        have := (pz_flip_back hg hT hub).2.2.2
        rw [← hMj, ← q, hu, hub] at this
        cases this
      have sfrom : pz_i k 115 i = nI fu := by rw [(e5.1 i hi).1, hu, hSw1]; rfl
      have wfrom : pz_i k 116 i = nI wu := by rw [(e5.1 i hi).2, hu, hSw2]
      have wto : pz_i k 116 j = nI (Sw.2.1 (pz_tt g j)) := (e5.1 j j1).2
      have sto : pz_i k 115 j = pz_cd (Sw.1 (pz_tt g j)) := (e5.1 j j1).1
      rw [if_neg (by simp), mq_15 R', Option.bind_some, hlead, Option.bind_some]
      simp only [zq_let]
      rw [s_has (by omega) (by omega), Option.bind_some]
      cases hkb : K.testBit d with
      | true =>
        rw [if_neg (fun q => by rw [hkb] at q; cases q.2)] at hnext
        rw [if_neg (by simp), mq_19 R', Option.bind_some, mq_116 R' (by omega), Option.bind_some, wto, Int32.add_zero, ms_116 R' (by omega), Option.bind_some]
        refine ⟨_, rfl, ?_, ?_, nI_1 d, e4.tr (pz_mg.S (Or.inr (Or.inl rfl))), by rw [hnext]; exact e5.same (by omega) (by omega) j1, by rw [hnext]; exact e6⟩
        · show nI Sw.2.2.length = nI (pz_f fu wu S (pz_ln g K u (d + 1))).2.2.length
          rw [hnext]
        · show nI (pz_rk u d) + 1 = nI (pz_rk u (d + 1))
          rw [hrk, nI_1]
      | false =>
        rw [if_pos ⟨hub, hkb⟩, ← hMj] at hnext
        rw [if_pos rfl]
        simp only [mq_18 R', mq_19 R', mq_20 R', Option.bind_some]
        rw [mq_115 R' (i := j) (by omega), Option.bind_some, sto]
        cases hto : Sw.1 (pz_tt g j) with
        | none =>
          have hroom := e6.room hg (by rw [hMj]; exact hflT) hto
          have e7 := e5.none (fu := fu) (wu := wu) hinj (by omega) (by omega) (by omega) j1 hto
          have q1 : pz_mg k (pz_S k 115 j (nI (fu + 1))) := pz_mg.S (Or.inl rfl)
          have q2 : pz_mg k (pz_S (pz_S k 115 j (nI (fu + 1))) 117 Sw.2.2.length (nI j)) := q1.tr (pz_mg.S (Or.inr (Or.inr rfl)))
          have Ra := R'.ag q1.ag (by omega)
          have Rb := R'.ag q2.ag (by omega)
          have v1 : pz_i (pz_S (pz_S k 115 j (nI (fu + 1))) 117 Sw.2.2.length (nI j)) 115 j = nI (fu + 1) := by
            rw [pz_S_i, if_neg (by omega), pz_S_i, if_pos ⟨rfl, rfl⟩]
          have v2 : pz_i (pz_S (pz_S k 115 j (nI (fu + 1))) 117 Sw.2.2.length (nI j)) 115 i = nI fu := by
            simp only [pz_S_i]
            rw [if_neg (by omega), if_neg (fun q => hij q.2), sfrom]
          have v3 : ∀ z, pz_i (pz_S (pz_S k 115 j (nI (fu + 1))) 117 Sw.2.2.length (nI j)) 116 z = pz_i k 116 z := by
            intro z
            simp only [pz_S_i]
            rw [if_neg (by omega), if_neg (by omega)]
          rw [if_pos (show pz_cd none = -1 from rfl), mq_115 R' (i := i) (by omega), Option.bind_some, sfrom, nI_1, ms_115 R' (by omega), Option.bind_some, mq_20 Ra, Option.bind_some, ms_117 Ra (by omega), Option.bind_some]
          simp only [mq_18 Rb, mq_19 Rb, Option.bind_some]
          rw [mq_116 Rb (i := j) (by omega), Option.bind_some, mq_115 Rb (i := j) (by omega), Option.bind_some, mq_115 Rb (i := i) (by omega), Option.bind_some, v1, v2, nI_1, if_pos rfl, mq_116 Rb (i := i) (by omega), Option.bind_some, v3, v3, wto, wfrom, nI_add, ms_116 Rb (by omega), Option.bind_some]
          refine ⟨_, rfl, ?_, ?_, nI_1 d, e4.tr (q2.tr (pz_mg.S (Or.inr (Or.inl rfl)))), by rw [hnext]; exact e7, by rw [hnext]; exact e6.e (by rw [hMj]; exact hflT)⟩
          · show nI Sw.2.2.length + 1 = nI (pz_f fu wu S (pz_ln g K u (d + 1))).2.2.length
            rw [hnext, pz_e_ord, if_pos hto, List.length_append, List.length_singleton, nI_1]
          · show nI (pz_rk u d) + 1 = nI (pz_rk u (d + 1))
            rw [hrk, nI_1]
        | some kt =>
          have hkt : kt ≤ 1000 := by
            rw [← hSw] at hto
            rcases pz_f_val hto with q | q
            · have := hbd _ _ q; omega
            · omega
          have hcdk : pz_cd (some kt) = nI kt := rfl
          rw [hcdk, if_neg (by rw [pz_eqm1 (by omega)]; exact id), mq_116 R' (i := j) (by omega), Option.bind_some, Option.bind_some, mq_115 R' (i := i) (by omega), Option.bind_some, sfrom, nI_1]
          by_cases hk : kt = fu + 1
          · subst hk
            rw [if_pos rfl, mq_116 R' (i := i) (by omega), Option.bind_some, wto, wfrom, nI_add, ms_116 R' (by omega), Option.bind_some]
            refine ⟨_, rfl, ?_, ?_, nI_1 d, e4.tr (pz_mg.S (Or.inr (Or.inl rfl))), by rw [hnext]; exact e5.some hinj (by omega) (by omega) j1 hto, by rw [hnext]; exact e6.e (by rw [hMj]; exact hflT)⟩
            · show nI Sw.2.2.length = nI (pz_f fu wu S (pz_ln g K u (d + 1))).2.2.length
              rw [hnext, pz_e_ord, if_neg (by rw [hto]; simp), List.append_nil]
            · show nI (pz_rk u d) + 1 = nI (pz_rk u (d + 1))
              rw [hrk, nI_1]
          · rw [if_neg (by rw [nI_eq (by omega) (by omega)]; exact hk), wto, Int32.add_zero, ms_116 R' (by omega), Option.bind_some]
            rw [pz_e_skip hto hk] at hnext
            refine ⟨_, rfl, ?_, ?_, nI_1 d, e4.tr (pz_mg.S (Or.inr (Or.inl rfl))), by rw [hnext]; exact e5.same (by omega) (by omega) j1, by rw [hnext]; exact e6⟩
            · show nI Sw.2.2.length = nI (pz_f fu wu S (pz_ln g K u (d + 1))).2.2.length
              rw [hnext]
            · show nI (pz_rk u d) + 1 = nI (pz_rk u (d + 1))
              rw [hrk, nI_1]
  · rintro ⟨x1, x2, x3, k⟩ ⟨e1, e2, e3, e4, e5, e6⟩
    simp only at e1 e2 e3 e4 e5 e6
    subst e1; subst e2; subst e3
    have R' := R.ag e4.ag (by omega)
    have D' := D.ag e4.ag (fun a ha => by omega)
    refine ⟨(nI (pz_f fu wu S (pz_nl g K u)).2.2.length, k), ?_, k, rfl, e4, e5, e6⟩
    simp only [mq_9 R' D', Option.bind_some]
    rw [if_pos (nI_le (Nat.le_refl _) (by omega))]
    rfl
theorem m_goFrom (R : pz_Ms h) (D : pz_Md h g) (H : pz_Mm h g) (L : pz_Ml h g) {s K : Nat} (hs : pz_T g s) (hK : K &&& s = K) : ∃ h', f_X6_goFrom h 104 (nI s) (nI K) = some h' ∧ pz_mg h h' ∧ pz_Mr h' g K s := by
  have hg := D.1
  have hcn := pz_cn_le hg
  have hs27 := pz_T_27 hg hs
  have hK27 : K < 134217728 := by rw [← hK]; exact Nat.lt_of_le_of_lt Nat.and_le_right hs27
  obtain ⟨hi0, hM0⟩ := pz_T_ix hg hs
  unfold f_X6_goFrom
  refine pz_lpIB (fun i st => st.1 = nI i ∧ pz_mg h st.2 ∧ ∀ j, j < i → pz_i st.2 115 j = -1 ∧ pz_i st.2 116 j = 0) (pz_cn g) (fun y => pz_mg h y ∧ ∀ j, j < pz_cn g → pz_i y 115 j = -1 ∧ pz_i y 116 j = 0) ?_ ⟨rfl, pz_mg.rf, fun j hj => absurd hj (Nat.not_lt_zero _)⟩ ?_ ?_ (by omega)
  · rintro k5 ⟨g5, e2⟩
    have R5 := R.ag g5.ag (by omega)
    have H5 := H.ag g5.ag (by omega)
    generalize hi0e : pz_ix g s = i0 at hi0 hM0
    generalize hk6 : pz_S k5 115 i0 0 = k6
    generalize hk7 : pz_S k6 116 i0 1 = k7
    generalize hk8 : pz_S k7 117 0 (nI i0) = k8
    have g6 : pz_mg h k6 := g5.tr (by rw [← hk6]; exact pz_mg.S (Or.inl rfl))
    have g7 : pz_mg h k7 := g6.tr (by rw [← hk7]; exact pz_mg.S (Or.inr (Or.inl rfl)))
    have g8 : pz_mg h k8 := g7.tr (by rw [← hk8]; exact pz_mg.S (Or.inr (Or.inr rfl)))
    have R6 := R.ag g6.ag (by omega)
    have R7 := R.ag g7.ag (by omega)
    have i8 : ∀ a b, pz_i k8 a b = if a = 117 ∧ b = 0 then nI i0 else if a = 116 ∧ b = i0 then 1 else if a = 115 ∧ b = i0 then 0 else pz_i k5 a b := by
      intro a b
      rw [← hk8, pz_S_i, ← hk7, pz_S_i, ← hk6, pz_S_i]
    have Sim0 : pz_Sim k8 115 116 117 (pz_tt g) (pz_cn g) (pz_s0 s) := by
      refine ⟨fun i hi => ?_, fun j hj => ?_⟩
      · by_cases q : i = i0
        · subst q
          rw [i8, if_neg (by omega), if_neg (by omega), if_pos ⟨rfl, rfl⟩, i8, if_neg (by omega), if_pos ⟨rfl, rfl⟩]
          simp [pz_s0, hM0, pz_cd]
          exact ⟨rfl, rfl⟩
        · have q2 : pz_tt g i ≠ s := fun e => q (by rw [← hi0e, ← e]; exact ((pz_tt_2 hg hi).1).symm)
          rw [i8, if_neg (by omega), if_neg (by omega), if_neg (by omega), i8, if_neg (by omega), if_neg (by omega), if_neg (by omega), (e2 i hi).1, (e2 i hi).2]
          simp [pz_s0, q2, pz_cd]
          rfl
      · have : j = 0 := by simp [pz_s0] at hj; omega
        subst this
        exact ⟨i0, hi0, by simp [pz_s0, hM0], by rw [i8, if_pos ⟨rfl, rfl⟩]⟩
    have Ok0 : pz_Ok g (pz_s0 s) := by
      refine ⟨by simp [pz_s0], fun x hx => ?_, fun x => by simp [pz_s0]⟩
      simp [pz_s0] at hx
      rw [hx]; exact hs
    have hix := m_indexOf R5 hg H5 (m := s) hs27
    rw [hi0e] at hix
    rw [mq_ck R5, hix, Option.bind_some, mq_18 R5, Option.bind_some, ms_115 R5 (by omega), Option.bind_some, hk6, mq_19 R6, Option.bind_some, ms_116 R6 (by omega), Option.bind_some, hk7, mq_20 R7, Option.bind_some, show (0 : Int32) = nI 0 from rfl, ms_117 R7 (by omega), Option.bind_some, hk8]
    refine pz_lpMB (fun st => ∃ S done todo, st.1 = nI (done ++ todo).length ∧ st.2.1 = nI done.length ∧ pz_mg h st.2.2 ∧ pz_I pz_NN s (pz_nb g K) S done todo ∧ pz_Sim st.2.2 115 116 117 (pz_tt g) (pz_cn g) S ∧ pz_Ok g S ∧ (∀ x k, S.1 x = some k → k ≤ done.length) ∧ ∀ x ∈ done ++ todo, K &&& x = K) (fun st => 1000 - st.2.1.toNatClampNeg) (fun y => pz_mg h y ∧ ∃ S done, pz_I pz_NN s (pz_nb g K) S done [] ∧ pz_Sim y 115 116 117 (pz_tt g) (pz_cn g) S) ?_ ?_ (by simp only; omega) ?_
    · rintro y ⟨y2, S, done, y3, y4⟩
      refine ⟨y, rfl, y2, fun i hi => ?_⟩
      have hMi := pz_T_27 hg (pz_tt_T hi)
      obtain ⟨w1, w2⟩ := pz_end hg hs27 y3 hMi
      rw [(y4.1 i hi).1, (y4.1 i hi).2, w1, w2]
      exact ⟨rfl, rfl⟩
    · refine ⟨pz_s0 s, [], [s], rfl, rfl, g8, pz_I0 _ hs27, Sim0, Ok0, fun x k hk => ?_, fun x hx => ?_⟩
      · simp only [pz_s0] at hk
        by_cases q : x = s
        · rw [if_pos q] at hk
          injection hk with hk
          simp [← hk]
        · rw [if_neg q] at hk; cases hk
      · simp at hx
        rw [hx]; exact hK
    · rintro ⟨x1, x2, k⟩ ⟨S, done, todo, d1, d2, d3, d4, d5, d6, d7, d8⟩
      simp only at d1 d2 d3 d5
      subst d1; subst d2
      have Rk := R.ag d3.ag (by omega)
      have Dk := D.ag d3.ag (fun a ha => by omega)
      have Hk := H.ag d3.ag (by omega)
      have Lk := L.ag d3.ag (by omega)
      have hlen := d6.len hg
      rw [d4.1] at hlen
      cases todo with
      | nil =>
        rw [List.append_nil] at hlen ⊢
        refine Or.inr ⟨k, if_pos (nI_le (Nat.le_refl _) (by omega)), d3, S, done, d4, d5⟩
      | cons u r' =>
        refine Or.inl ?_
        have hdl : done.length < (done ++ u :: r').length := by rw [List.length_append, List.length_cons]; omega
        obtain ⟨i, hi, hMi, hqi⟩ := d5.2 done.length (by rw [d4.1]; exact hdl)
        have hMu : pz_tt g i = u := by
          rw [hMi, d4.1]
          simp [List.getD]
        have hu : S.1 u ≠ none := (d4.2.2.1 u).mp (by simp)
        obtain ⟨fu, hfu⟩ := Option.ne_none_iff_exists'.mp hu
        have hfl := d7 u fu hfu
        have hTu : pz_T g u := d6.2.1 u (by rw [d4.1]; simp)
        have hKu : K &&& u = K := d8 u (by simp)
        have hnb := pz_nb_of hg hTu hKu
        have sp := m_spread Rk Dk Hk Lk hK27 d5 d6 hi hMu hfu (by omega) (fun x k hk => by have := d7 x k hk; omega) (k := fun y_53 : Int32 × zq_H => (zq_let (nI done.length + 1) fun v_161 => some ((Sum.inl (y_53.1, v_161, y_53.2)) : (Int32 × Int32 × zq_H) ⊕ zq_H))) (P := fun z => ∃ h', z = Sum.inl (nI (pz_f fu (S.2.1 u) S (pz_nl g K u)).2.2.length, nI (done.length + 1), h') ∧ pz_mg k h' ∧ pz_Sim h' 115 116 117 (pz_tt g) (pz_cn g) (pz_f fu (S.2.1 u) S (pz_nl g K u)) ∧ pz_Ok g (pz_f fu (S.2.1 u) S (pz_nl g K u))) (fun h' w1 w2 w3 => ⟨_, by simp only [zq_let, nI_1], h', rfl, w1, w2, w3⟩)
        obtain ⟨yy, p1, k', rfl, p2, p3, p4⟩ := sp
        obtain ⟨r2, I2⟩ := pz_Istep (pz_nb_N hg) hs27 d4
        have bd2 := pz_Ibd d4 d7
        rw [pz_F_of hfu, hnb] at I2 bd2
        generalize hS' : pz_f fu (S.2.1 u) S (pz_nl g K u) = S' at p1 p3 p4 I2 bd2
        have hl2 : S'.2.2.length = (done ++ [u] ++ r2).length := by rw [I2.1]
        have hlen2 := p4.len hg
        refine ⟨(nI S'.2.2.length, nI (done.length + 1), k'), ?_, ⟨S', done ++ [u], r2, by simp only; rw [hl2], by simp only; rw [List.length_append, List.length_singleton], d3.tr p2, I2, p3, p4, bd2, ?_⟩, ?_⟩
        · rw [if_neg (nI_ge hdl (by omega))]
          simp only [mq_20 Rk, Option.bind_some]
          rw [mq_117 Rk (by omega), Option.bind_some, hqi, ← d4.1]
          exact p1
        · intro x hx
          have hx2 : S'.1 x ≠ none := (I2.2.2.1 x).mp hx
          obtain ⟨kx, hkx⟩ := Option.ne_none_iff_exists'.mp hx2
          rw [← hS'] at hkx
          cases hSx : S.1 x with
          | some j => exact d8 x ((d4.2.2.1 x).mpr (by rw [hSx]; simp))
          | none =>
            rw [pz_f_none hSx] at hkx
            by_cases q : x ∈ pz_nl g K u
            · rw [← hnb] at q
              exact (pz_nb_T hg q).2.1
            · rw [if_neg q] at hkx; cases hkx
        · simp only
          rw [nI_clamp (by omega), nI_clamp (by omega)]
          omega
  · rintro i ⟨x, k⟩ hi ⟨e1, e2, e3⟩
    simp only at e1 e2 e3
    subst e1
    have R' := R.ag e2.ag (by omega)
    have H' := H.ag e2.ag (by omega)
    have q1 : pz_mg k (pz_S k 115 i (-1)) := pz_mg.S (Or.inl rfl)
    have Ra := R'.ag q1.ag (by omega)
    refine ⟨(nI (i + 1), pz_S (pz_S k 115 i (-1)) 116 i 0), ?_, rfl, e2.tr (q1.tr (pz_mg.S (Or.inr (Or.inl rfl)))), fun j hj => ?_⟩
    · rw [mq_i R', H'.1, Option.bind_some, if_neg (nI_ge hi (by omega)), mq_18 R', Option.bind_some, ms_115 R' (by omega), Option.bind_some, mq_19 Ra, Option.bind_some, ms_116 Ra (by omega), Option.bind_some]
      simp only [zq_let, nI_1]
    · simp only [pz_S_i]
      by_cases q : j = i
      · subst q
        simp
      · simp only [q, and_false, if_false]
        exact e3 j (by omega)
  · rintro ⟨x, k⟩ ⟨e1, e2, e3⟩
    simp only at e1 e2 e3
    subst e1
    have R' := R.ag e2.ag (by omega)
    have H' := H.ag e2.ag (by omega)
    refine ⟨k, ?_, e2, e3⟩
    rw [mq_i R', H'.1, Option.bind_some, if_pos (nI_le (Nat.le_refl _) (by omega))]
end PZGO
