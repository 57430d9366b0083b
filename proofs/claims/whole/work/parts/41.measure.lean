/-! the class' Reach measures -/
theorem pz_Ibd {N s : Nat} {nb : Nat → List Nat} {S : pz_St} {done r : List Nat} {u : Nat} (hI : pz_I N s nb S done (u :: r)) (h : ∀ x k, S.1 x = some k → k ≤ done.length) : ∀ x k, (pz_f (pz_F S u) (S.2.1 u) S (nb u)).1 x = some k → k ≤ (done ++ [u]).length := by
  intro x k hk
  rw [List.length_append, List.length_singleton]
  rcases pz_f_val hk with q | q
  · have := h x k q; omega
  · have hu : S.1 u ≠ none := (hI.2.2.1 u).mp (by simp)
    obtain ⟨fu, hfu⟩ := Option.ne_none_iff_exists'.mp hu
    have := h u fu hfu
    rw [pz_F_of hfu] at q
    omega
def pz_Rm (h : zq_H) (r t g : Nat) (M : Nat → Nat) (K s : Nat) : Prop := pz_r h r 3 = some t ∧ pz_i h r 4 = nI s ∧ pz_i h r 5 = nI K ∧ (∀ i, i < pz_cn g → pz_i h (r + 1) i = pz_cd (pz_ds g K s (M i)) ∧ pz_i h (r + 2) i = nI (pz_ws g K s (M i))) ∧ ∀ i, pz_cn g ≤ i → i < 429 → pz_i h (r + 1) i = -1
/-- what a Reach keeps -/
def pz_Rc (h : zq_H) (r : Nat) : Prop := ∃ g, g < 6 ∧ pz_r h r 3 = some (2 + 12 * g) ∧ (pz_i h r 4 = -1 ∨ ∃ M sl s K, pz_Gb h (2 + 12 * g) g M sl ∧ pz_T g s ∧ K &&& s = K ∧ pz_Rm h r (2 + 12 * g) g M K s)
def pz_tail (h : zq_H) (t : Nat) (r1 : Nat) (x2 : Int32) (x3 : Int32) : Option zq_H := (Option.bind (zq_pr h t 2 3 r1) fun h_4 => (Option.bind (zq_pi h_4 t 2 4 x2) fun h_6 => (Option.bind (zq_pi h_6 t 2 5 x3) fun h_8 => (Option.bind (zq_gr h_8 t 2 0) fun v_10 => (Option.bind (f_J7_fill_53178 h_8 v_10 (-1)) fun v_12 => (Option.bind (zq_gr v_12 t 2 1) fun v_14 => (Option.bind (f_J7_fill_53178 v_12 v_14 0) fun v_16 => (Option.bind (zq_gr v_16 t 2 3) fun v_18 => (zq_ck v_16 v_18 0 fun _ => (Option.bind (f_X0_indexOf v_16 v_18 x2) fun v_20 => (if v_20 < 0 then some (v_16) else (Option.bind (zq_gr v_16 t 2 0) fun v_24 => (Option.bind (zq_an v_16 v_24) fun v_26 => (if v_20 < v_26 then (Option.bind (zq_gr v_16 t 2 0) fun v_29 => (Option.bind (zq_si v_16 v_29 v_20 0) fun h_31 => (Option.bind (zq_gr h_31 t 2 1) fun v_33 => (Option.bind (zq_si h_31 v_33 v_20 1) fun h_35 => (Option.bind (zq_gr h_35 t 2 2) fun v_37 => (Option.bind (zq_si h_35 v_37 0 v_20) fun h_39 => ((zq_lp (σ := Int32 × Int32 × zq_H) (ρ := zq_H) (fun s_41 => (if s_41.1 ≤ s_41.2.1 then some (.inr s_41.2.2) else (Option.bind (zq_gr s_41.2.2 t 2 2) fun v_50 => (Option.bind (zq_an s_41.2.2 v_50) fun v_52 => (if v_52 ≤ s_41.2.1 then some (.inr s_41.2.2) else (Option.bind (zq_gr s_41.2.2 t 2 2) fun v_55 => (Option.bind (zq_ai s_41.2.2 v_55 s_41.2.1) fun v_57 => (zq_ck s_41.2.2 t 2 fun _ => (Option.bind (f_X2_spreadOn s_41.2.2 t v_57 s_41.1) fun v_59 => (zq_let (s_41.2.1 + 1) fun v_62 => some (.inl (v_59.1, v_62, v_59.2)))))))))))) zq_N (1, 0, h_39)).bind (fun y_44 : zq_H => some (y_44))))))))) else some (v_16)))))))))))))))
theorem pz_measure_eq (h : zq_H) (t r1 : Nat) (x2 x3 : Int32) : f_X2_measure h t r1 x2 x3 = Option.bind (zq_gr h t 2 3) fun v_1 => if v_1 = r1 then Option.bind (zq_gi h t 2 4) fun v_64 => if v_64 = x2 then Option.bind (zq_gi h t 2 5) fun v_127 => if v_127 = x3 then some h else pz_tail h t r1 x2 x3 else pz_tail h t r1 x2 x3 else pz_tail h t r1 x2 x3 := rfl
section PZM
variable {h : zq_H} {r t g : Nat} {M sl : Nat → Nat}
theorem pz_HT.uniq {f : Nat} {M' sl' : Nat → Nat} (hg : g < 6) (H : pz_HT h t g M sl f) (H' : pz_HT h t g M' sl' f) {i : Nat} (hi : i < f) : M i = M' i := by
  have h1 := H.2.2.1 i hi
  have h2 := H'.2.2.1 i hi
  have h3 := h1.1.symm.trans h2.1
  have a1 := pz_T_27 hg h1.2
  have a2 := pz_T_27 hg h2.2
  rw [pz_eq (by omega) (by omega)] at h3
  exact h3
theorem s_tail (G : pz_Gs h t g) (B : pz_Gb h t g M sl) (R : pz_Rs h r) (htr : t + 11 < r) {s K : Nat} (hs : pz_T g s) (hK : K &&& s = K) : ∃ h', pz_tail h r t (nI s) (nI K) = some h' ∧ pz_ag (fun a => a < r ∨ r + 3 < a) h h' ∧ pz_Rs h' r ∧ pz_Rm h' r t g M K s := by
  have hg := G.1.1
  have hcn := pz_cn_le hg
  have hs27 := pz_T_27 hg hs
  have hK27 : K < 134217728 := by rw [← hK]; exact Nat.lt_of_le_of_lt Nat.and_le_right hs27
  obtain ⟨i0, hi0, hM0⟩ := B.2.1 s hs
  have hr0 : r < h.1 := by have := R.2.1; omega
  have hrs : (zq_sh r).1 = 2 := by rw [R.1.1]
  generalize hk1 : pz_R h r 3 t = k1
  generalize hk2 : pz_S k1 r 4 (nI s) = k2
  generalize hk3 : pz_S k2 r 5 (nI K) = k3
  have l1 : k1.1 = h.1 := by rw [← hk1]; rfl
  have l2 : k2.1 = h.1 := by rw [← hk2]; exact l1
  have l3 : k3.1 = h.1 := by rw [← hk3]; exact l2
  have rr3 : ∀ a b, pz_r k3 a b = if a = r ∧ b = 3 then some t else pz_r h a b := by
    intro a b
    rw [← hk3, pz_S_r, ← hk2, pz_S_r, ← hk1, pz_R_r]
  have ii3 : ∀ a b, pz_i k3 a b = if a = r ∧ b = 5 then nI K else if a = r ∧ b = 4 then nI s else pz_i h a b := by
    intro a b
    rw [← hk3, pz_S_i, ← hk2, pz_S_i, ← hk1, pz_R_i]
  have ag3 : pz_ag (fun a => a < r ∨ r + 3 < a) h k3 := by
    rw [← hk3, ← hk2, ← hk1]
    exact ((pz_ag.R (by omega)).tr (pz_ag.S (by omega))).tr (pz_ag.S (by omega))
  have R3 : pz_Rs k3 r := ⟨R.1, by rw [l3]; exact R.2.1, by rw [rr3, if_neg (by omega)]; exact R.2.2.1, by rw [rr3, if_neg (by omega)]; exact R.2.2.2.1, by rw [rr3, if_neg (by omega)]; exact R.2.2.2.2⟩
  obtain ⟨k4, f1, f2, f3, f4, f5⟩ := s_fill (h := k3) (r := r + 1) (L := 429) (by have := R3.2.1; omega) R3.1.2.1 (by omega) (-1)
  have g4 : pz_rg r k3 k4 := ⟨f4, f5, fun a j q1 _ _ => f3 a j q1⟩
  have R4 := R3.rg g4
  obtain ⟨k5, e1, e2, e3, e4, e5⟩ := s_fill (h := k4) (r := r + 2) (L := 429) (by have := R4.2.1; omega) R4.1.2.2.1 (by omega) 0
  have g5 : pz_rg r k3 k5 := g4.tr ⟨e4, e5, fun a j _ q2 _ => e3 a j q2⟩
  have R5 := R3.rg g5
  have agg : ∀ {k : zq_H}, pz_rg r k3 k → pz_ag (fun a => a < r ∨ r + 3 < a) h k := fun hk => ag3.tr (hk.ag.mono (fun a ha => ⟨by omega, by omega, by omega⟩))
  have G5 := G.ag (agg g5) (fun i hi => by omega)
  have B5 := B.ag (agg g5) (fun i hi => by omega)
  generalize hk6 : pz_S k5 (r + 1) i0 0 = k6
  generalize hk7 : pz_S k6 (r + 2) i0 1 = k7
  generalize hk8 : pz_S k7 (r + 3) 0 (nI i0) = k8
  have g6 : pz_rg r k3 k6 := g5.tr (by rw [← hk6]; exact pz_rg.S (Or.inl rfl))
  have g7 : pz_rg r k3 k7 := g6.tr (by rw [← hk7]; exact pz_rg.S (Or.inr (Or.inl rfl)))
  have g8 : pz_rg r k3 k8 := g7.tr (by rw [← hk8]; exact pz_rg.S (Or.inr (Or.inr rfl)))
  have R6 := R3.rg g6
  have R7 := R3.rg g7
  have R8 := R3.rg g8
  have i8 : ∀ a b, pz_i k8 a b = if a = r + 3 ∧ b = 0 then nI i0 else if a = r + 2 ∧ b = i0 then 1 else if a = r + 1 ∧ b = i0 then 0 else pz_i k5 a b := by
    intro a b
    rw [← hk8, pz_S_i, ← hk7, pz_S_i, ← hk6, pz_S_i]
  have Sim0 : pz_Sim k8 (r + 1) (r + 2) (r + 3) M (pz_cn g) (pz_s0 s) := by
    refine ⟨fun i hi => ?_, fun j hj => ?_⟩
    · by_cases q : i = i0
      · subst q
        rw [i8, if_neg (by omega), if_neg (by omega), if_pos ⟨rfl, rfl⟩, i8, if_neg (by omega), if_pos ⟨rfl, rfl⟩]
        simp [pz_s0, hM0, pz_cd]
        exact ⟨rfl, rfl⟩
      · have q2 : M i ≠ s := fun e => q (B.1.2.2.2.1 i i0 hi hi0 (e.trans hM0.symm))
        rw [i8, if_neg (by omega), if_neg (by omega), if_neg (by omega), i8, if_neg (by omega), if_neg (by omega), if_neg (by omega), e3 _ _ (by omega), f2 i (by omega), e2 i (by omega)]
        simp [pz_s0, q2, pz_cd]
        rfl
    · have : j = 0 := by simp [pz_s0] at hj; omega
      subst this
      exact ⟨i0, hi0, by simp [pz_s0, hM0], by rw [i8, if_pos ⟨rfl, rfl⟩]⟩
  have Ok0 : pz_Ok g (pz_s0 s) := by
    refine ⟨by simp [pz_s0], fun x hx => ?_, fun x => by simp [pz_s0]⟩
    simp [pz_s0] at hx
    rw [hx]; exact hs
  have hix := s_indexOf G5 B5.1 hi0
  rw [hM0] at hix
  have t0 : ∃ y, (zq_lp (σ := Int32 × Int32 × zq_H) (ρ := zq_H) (fun s_41 => (if s_41.1 ≤ s_41.2.1 then some (.inr s_41.2.2) else (Option.bind (zq_gr s_41.2.2 r 2 2) fun v_50 => (Option.bind (zq_an s_41.2.2 v_50) fun v_52 => (if v_52 ≤ s_41.2.1 then some (.inr s_41.2.2) else (Option.bind (zq_gr s_41.2.2 r 2 2) fun v_55 => (Option.bind (zq_ai s_41.2.2 v_55 s_41.2.1) fun v_57 => (zq_ck s_41.2.2 r 2 fun _ => (Option.bind (f_X2_spreadOn s_41.2.2 r v_57 s_41.1) fun v_59 => (zq_let (s_41.2.1 + 1) fun v_62 => some (.inl (v_59.1, v_62, v_59.2)))))))))))) zq_N (1, 0, k8)).bind (fun y_44 : zq_H => some (y_44)) = some y ∧ (pz_rg r k3 y ∧ pz_up r (pz_cn g) k8 y ∧ ∃ S done, pz_I pz_NN s (pz_nb g K) S done [] ∧ pz_Sim y (r + 1) (r + 2) (r + 3) M (pz_cn g) S) := by
    refine pz_lpMB (fun st => ∃ S done todo, st.1 = nI (done ++ todo).length ∧ st.2.1 = nI done.length ∧ pz_rg r k3 st.2.2 ∧ pz_up r (pz_cn g) k8 st.2.2 ∧ pz_I pz_NN s (pz_nb g K) S done todo ∧ pz_Sim st.2.2 (r + 1) (r + 2) (r + 3) M (pz_cn g) S ∧ pz_Ok g S ∧ (∀ x k, S.1 x = some k → k ≤ done.length) ∧ ∀ x ∈ done ++ todo, K &&& x = K) (fun st => 1000 - st.2.1.toNatClampNeg) (fun y => pz_rg r k3 y ∧ pz_up r (pz_cn g) k8 y ∧ ∃ S done, pz_I pz_NN s (pz_nb g K) S done [] ∧ pz_Sim y (r + 1) (r + 2) (r + 3) M (pz_cn g) S) (fun y hy => ⟨y, rfl, hy⟩) ?_ (by simp only; omega) ?_
    · refine ⟨pz_s0 s, [], [s], rfl, rfl, g8, pz_up.rf, pz_I0 _ hs27, Sim0, Ok0, fun x k hk => ?_, fun x hx => ?_⟩
      · simp only [pz_s0] at hk
        by_cases q : x = s
        · rw [if_pos q] at hk
          injection hk with hk
          simp [← hk]
        · rw [if_neg q] at hk; cases hk
      · simp at hx
        rw [hx]; exact hK
    · rintro ⟨x1, x2, k⟩ ⟨S, done, todo, d1, d2, d3, d9, d4, d5, d6, d7, d8⟩
      simp only at d1 d2 d3 d5 d9
      subst d1; subst d2
      have Rk := R3.rg d3
      have Gk := G.ag (agg d3) (fun i hi => by omega)
      have Bk := B.ag (agg d3) (fun i hi => by omega)
      have hlen := d6.len hg
      rw [d4.1] at hlen
      cases todo with
      | nil =>
        rw [List.append_nil] at hlen ⊢
        refine Or.inr ⟨k, if_pos (nI_le (Nat.le_refl _) (by omega)), d3, d9, S, done, d4, d5⟩
      | cons u r' =>
        refine Or.inl ?_
        have hdl : done.length < (done ++ u :: r').length := by rw [List.length_append, List.length_cons]; omega
        obtain ⟨i, hi, hMi, hqi⟩ := d5.2 done.length (by rw [d4.1]; exact hdl)
        have hMu : M i = u := by
          rw [hMi, d4.1]
          simp [List.getD]
        have hu : S.1 u ≠ none := (d4.2.2.1 u).mp (by simp)
        obtain ⟨fu, hfu⟩ := Option.ne_none_iff_exists'.mp hu
        have hfl := d7 u fu hfu
        have hTu : pz_T g u := d6.2.1 u (by rw [d4.1]; simp)
        have hKu : K &&& u = K := d8 u (by simp)
        have hnb := pz_nb_of hg hTu hKu
        obtain ⟨k', p1, p2, p3, p4, p5⟩ := s_spreadOn Gk Bk Rk (by rw [d3.rr, rr3, if_pos ⟨rfl, rfl⟩]) htr hK27 (by rw [d3.2.2 r 5 (by omega) (by omega) (by omega), ii3, if_pos ⟨rfl, rfl⟩]) d5 d6 hi hMu hfu (by omega) (fun x k hk => by have := d7 x k hk; omega)
        obtain ⟨r2, I2⟩ := pz_Istep (pz_nb_N hg) hs27 d4
        have bd2 := pz_Ibd d4 d7
        rw [pz_F_of hfu, hnb] at I2 bd2
        generalize hS' : pz_f fu (S.2.1 u) S (pz_nl g K u) = S' at p1 p3 p4 I2 bd2
        have hl2 : S'.2.2.length = (done ++ [u] ++ r2).length := by rw [I2.1]
        have hlen2 := p4.len hg
        refine ⟨(nI S'.2.2.length, nI (done.length + 1), k'), ?_, ⟨S', done ++ [u], r2, by simp only; rw [hl2], by simp only; rw [List.length_append, List.length_singleton], d3.tr p2, d9.tr p5, I2, p3, p4, bd2, ?_⟩, ?_⟩
        · rw [if_neg (nI_ge hdl (by omega))]
          simp only [rq_2 Rk, Option.bind_some, rq_n3 Rk]
          rw [if_neg (nI_ge (by omega) (by omega)), rq_a3 Rk (by omega), Option.bind_some, rq_ck Rk, hqi, ← d4.1, p1, Option.bind_some]
          simp only [zq_let, nI_1]
        · intro x hx
          have hx2 : S'.1 x ≠ none := (I2.2.2.1 x).mp hx
          obtain ⟨kx, hkx⟩ := Option.ne_none_iff_exists'.mp hx2
          rw [← hS'] at hkx
          cases hSx : S.1 x with
          | some j => exact d8 x ((d4.2.2.1 x).mpr (by rw [hSx]; simp))
          | none =>
            rw [pz_f_none hSx] at hkx
            by_cases q : x ∈ pz_nl g K u
            · rw [← hnb] at q
              exact (pz_nb_T hg q).2.1
            · rw [if_neg q] at hkx; cases hkx
        · simp only
          rw [nI_clamp (by omega), nI_clamp (by omega)]
          omega
  obtain ⟨y, y1, y2, y5, S, done, y3, y4⟩ := t0
  refine ⟨y, ?_, agg y2, R3.rg y2, ?_, ?_, ?_, fun i hi => ?_, fun i hi hi2 => ?_⟩
  · unfold pz_tail
    rw [pz_pr hr0 hrs, Option.bind_some, hk1, pz_pi (by rw [l1]; exact hr0) hrs, Option.bind_some, hk2, pz_pi (by rw [l2]; exact hr0) hrs, Option.bind_some, hk3, rq_0 R3, Option.bind_some, f1, Option.bind_some, rq_1 R4, Option.bind_some, e1, Option.bind_some]
    simp only [rq_3 R5, g5.rr, rr3, and_self, if_true, Option.bind_some]
    rw [gq_ck G5, hix, Option.bind_some, if_neg (nI_pos (by omega)), rq_0 R5, Option.bind_some, rq_n1 R5, Option.bind_some, if_pos (nI_lt (by omega) (by omega)), Option.bind_some, rq_s1 R5 (by omega), Option.bind_some, hk6, rq_1 R6, Option.bind_some, rq_s2 R6 (by omega), Option.bind_some, hk7, rq_2 R7, Option.bind_some, show (0 : Int32) = nI 0 from rfl, rq_s3 R7 (by omega), Option.bind_some, hk8]
    exact y1
  · rw [y2.rr, rr3, if_pos ⟨rfl, rfl⟩]
  · rw [y2.2.2 r 4 (by omega) (by omega) (by omega), ii3, if_neg (by omega), if_pos ⟨rfl, rfl⟩]
  · rw [y2.2.2 r 5 (by omega) (by omega) (by omega), ii3, if_pos ⟨rfl, rfl⟩]
  · have hMi := pz_T_27 hg (B.1.2.2.1 i hi).2
    obtain ⟨w1, w2⟩ := pz_end hg hs27 y3 hMi
    rw [(y4.1 i hi).1, (y4.1 i hi).2, w1, w2]
    exact ⟨rfl, rfl⟩
  · rw [y5 i hi, i8, if_neg (by omega), if_neg (by omega), if_neg (by omega), e3 _ _ (by omega), f2 i (by omega)]
theorem s_measure (G : pz_Gs h t g) (B : pz_Gb h t g M sl) (R : pz_Rs h r) (C : pz_Rc h r) (ht : t = 2 + 12 * g) (htr : t + 11 < r) {s K : Nat} (hs : pz_T g s) (hK : K &&& s = K) : ∃ h', f_X2_measure h r t (nI s) (nI K) = some h' ∧ pz_ag (fun a => a < r ∨ r + 3 < a) h h' ∧ pz_Rs h' r ∧ pz_Rm h' r t g M K s := by
  have hg := G.1.1
  have tl := s_tail G B R htr hs hK
  have hs27 := pz_T_27 hg hs
  have hK27 : K < 134217728 := by rw [← hK]; exact Nat.lt_of_le_of_lt Nat.and_le_right hs27
  obtain ⟨g', hg', c1, c2⟩ := C
  rw [pz_measure_eq, rq_3 R, c1, Option.bind_some, rq_4 R, Option.bind_some, rq_5 R, Option.bind_some]
  by_cases e1 : 2 + 12 * g' = t
  · rw [if_pos e1]
    have hgg : g' = g := by omega
    subst hgg
    rcases c2 with c2 | ⟨M', sl', s', K', c3, c4, c5, c6⟩
    · rw [c2, if_neg (by intro q; have := pz_eqm1 (a := s) (by omega); rw [← q] at this; simp at this)]
      exact tl
    · have hs' := pz_T_27 hg c4
      have hK' : K' < 134217728 := by rw [← c5]; exact Nat.lt_of_le_of_lt Nat.and_le_right hs'
      rw [c6.2.1, c6.2.2.1]
      by_cases e2 : nI s' = nI s
      · rw [if_pos e2]
        by_cases e3 : nI K' = nI K
        · rw [if_pos e3]
          rw [pz_eq (by omega) (by omega)] at e2 e3
          subst e2; subst e3; subst e1
          refine ⟨h, rfl, pz_ag.rf, R, c6.1, c6.2.1, c6.2.2.1, fun i hi => ?_, c6.2.2.2.2⟩
          rw [B.1.uniq hg c3.1 hi]
          exact c6.2.2.2.1 i hi
        · rw [if_neg e3]; exact tl
      · rw [if_neg e2]; exact tl
  · rw [if_neg e1]; exact tl
theorem pz_Rm.c (B : pz_Gb h t g M sl) (hg : g < 6) (ht : t = 2 + 12 * g) {s K : Nat} (hs : pz_T g s) (hK : K &&& s = K) (H : pz_Rm h r t g M K s) : pz_Rc h r := by
  subst ht
  exact ⟨g, hg, H.1, Or.inr ⟨M, sl, s, K, B, hs, hK, H⟩⟩
theorem s_flipsTo (G : pz_Gs h t g) (B : pz_Gb h t g M sl) (R : pz_Rs h r) {s K m : Nat} (H : pz_Rm h r t g M K s) (hm : pz_T g m) : f_X2_flipsTo h r (nI m) = some (pz_cd (pz_ds g K s m)) := by
  have hcn := pz_cn_le G.1.1
  obtain ⟨i, hi, hM⟩ := B.2.1 m hm
  have hix := s_indexOf G B.1 hi
  rw [hM] at hix
  unfold f_X2_flipsTo
  simp only [rq_3 R, H.1, Option.bind_some, rq_0 R, rq_n1 R]
  rw [gq_ck G, hix, Option.bind_some, if_neg (nI_pos (by omega)), if_neg (nI_ge (by omega) (by omega)), rq_a1 R (by omega), (H.2.2.2.1 i hi).1, hM]
  rfl
theorem s_waysTo (G : pz_Gs h t g) (B : pz_Gb h t g M sl) (R : pz_Rs h r) {s K m : Nat} (H : pz_Rm h r t g M K s) (hm : pz_T g m) : f_X2_waysTo h r (nI m) = some (nI (pz_ws g K s m)) := by
  have hcn := pz_cn_le G.1.1
  obtain ⟨i, hi, hM⟩ := B.2.1 m hm
  have hix := s_indexOf G B.1 hi
  rw [hM] at hix
  unfold f_X2_waysTo
  simp only [rq_3 R, H.1, Option.bind_some, rq_1 R, rq_n2 R]
  rw [gq_ck G, hix, Option.bind_some, if_neg (nI_pos (by omega)), if_neg (nI_ge (by omega) (by omega)), rq_a2 R (by omega), (H.2.2.2.1 i hi).2, hM]
  rfl
end PZM
