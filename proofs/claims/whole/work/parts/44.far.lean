/-! free graphs are connected; eccentricities, diameters; codes and likenesses told in two ways: pure -/
section PZFA
variable {g K : Nat}
theorem pz_run (hg : g < 6) {s : Nat} (hs : pz_T g s) : ∀ (n : Nat) (S : pz_St) (done todo : List Nat), 500 - done.length ≤ n → pz_I pz_NN s (pz_nb g K) S done todo → (∀ x ∈ done ++ todo, pz_T g x) → (∀ x k, S.1 x = some k → k ≤ done.length) → ∃ S' done', pz_I pz_NN s (pz_nb g K) S' done' [] ∧ ∀ x k, S'.1 x = some k → k < 1000 := by
  have hs27 := pz_T_27 hg hs
  intro n
  induction n with
  | zero =>
    intro S done todo hn hI hT hb
    exfalso
    have h1 := pz_nd_map (f := pz_ix g) hI.2.1 (fun a ha b hb hab => by
      have e1 := (pz_T_ix hg (hT a ha)).2
      have e2 := (pz_T_ix hg (hT b hb)).2
      rw [← e1, ← e2, hab])
    have h2 := pz_pig h1 (n := pz_cn g) (fun x hx => by
      obtain ⟨y, hy, rfl⟩ := List.mem_map.mp hx
      exact (pz_T_ix hg (hT y hy)).1)
    have := pz_cn_le hg
    rw [List.length_map, List.length_append] at h2
    omega
  | succ n ih =>
    intro S done todo hn hI hT hb
    cases todo with
    | nil =>
      refine ⟨S, done, hI, fun x k hk => ?_⟩
      have h1 := hb x k hk
      have h3 := pz_nd_map (f := pz_ix g) hI.2.1 (fun a ha b hb hab => by
        have e1 := (pz_T_ix hg (hT a ha)).2
        have e2 := (pz_T_ix hg (hT b hb)).2
        rw [← e1, ← e2, hab])
      have h2 := pz_pig h3 (n := pz_cn g) (fun x hx => by
        obtain ⟨y, hy, rfl⟩ := List.mem_map.mp hx
        exact (pz_T_ix hg (hT y hy)).1)
      have := pz_cn_le hg
      rw [List.length_map, List.length_append] at h2
      omega
    | cons u r =>
      obtain ⟨r2, I2⟩ := pz_Istep (pz_nb_N hg) hs27 hI
      have bd2 := pz_Ibd hI hb
      refine ih _ _ _ (by rw [List.length_append, List.length_singleton]; omega) I2 (fun x hx => ?_) bd2
      have hx2 := (I2.2.2.1 x).mp hx
      cases hSx : S.1 x with
      | some j => exact hT x ((hI.2.2.1 x).mpr (by rw [hSx]; simp))
      | none =>
        rw [pz_f_none hSx] at hx2
        by_cases q : x ∈ pz_nb g K u
        · exact (pz_nb_T hg q).1
        · rw [if_neg q] at hx2
          exact absurd rfl hx2
theorem pz_ds_lt (hg : g < 6) {s m k : Nat} (hs : pz_T g s) (hm : m < pz_NN) (h : pz_ds g K s m = some k) : k < 1000 := by
  have hs27 := pz_T_27 hg hs
  obtain ⟨S, done, h1, h2⟩ := pz_run (K := K) hg hs 500 (pz_s0 s) [] [s] (by simp) (pz_I0 _ hs27) (fun x hx => by simp at hx; rw [hx]; exact hs) (fun x k hk => by
    simp only [pz_s0] at hk
    by_cases q : x = s
    · rw [if_pos q] at hk
      injection hk with hk
      simp [← hk]
    · rw [if_neg q] at hk; cases hk)
  have h3 := (pz_end hg hs27 h1 hm).1
  exact h2 m k (by rw [h3, h])
theorem pz_ds_00 (s : Nat) : pz_ds g K s s = some 0 := pz_ds_some.mpr ⟨by simp [pz_wk], fun j hj => absurd hj (Nat.not_lt_zero _)⟩
theorem pz_wk_step (hg : g < 6) {k s u m : Nat} (hs : s < pz_NN) (hu : u < pz_NN) (hm : m ∈ pz_nb g K u) (h : 0 < pz_wk (pz_nb g K) k s u) : 0 < pz_wk (pz_nb g K) (k + 1) s m := by
  rw [pz_wk_r (pz_nb_N hg) k hs (pz_nb_N hg u hu m hm)]
  have h1 := pz_sm_le (f := fun u => pz_wk (pz_nb g K) k s u * pz_ct m (pz_nb g K u)) hu
  have h2 : 0 < pz_wk (pz_nb g K) k s u * pz_ct m (pz_nb g K u) := Nat.mul_pos h (pz_ct_pos.mpr hm)
  omega
theorem pz_conn (hg : g < 6) {s m : Nat} (hs : pz_T g s) (hm : pz_T g m) : ∃ k, 0 < pz_wk (pz_nb g 0) k s m := by
  have hs27 := pz_T_27 hg hs
  have hf := pz_fan hg (show 0 < g + 4 by omega)
  have hf27 := pz_T_27 hg hf
  have step : ∀ {a : Nat}, a < pz_NN → ∀ m, pz_T g m → (∃ k, 0 < pz_wk (pz_nb g 0) k a m) → ∀ d, m.testBit d = true → ∃ k, 0 < pz_wk (pz_nb g 0) k a (pz_fl g m d) := by
    rintro a ha m hm ⟨k, hk⟩ d hd
    exact ⟨k + 1, pz_wk_step hg ha (pz_T_27 hg hm) ((pz_nb_mem hg).mpr ⟨hm, by simp, d, hd, by simp, rfl⟩) hk⟩
  have h1 : ∃ k, 0 < pz_wk (pz_nb g 0) k (pz_fn g 0) s := pz_closed hg (fun m => ∃ k, 0 < pz_wk (pz_nb g 0) k (pz_fn g 0) m) ⟨0, by simp [pz_wk]⟩ (step hf27) hs
  have h2 : ∃ k, 0 < pz_wk (pz_nb g 0) k s (pz_fn g 0) := by
    obtain ⟨k, hk⟩ := h1
    exact ⟨k, by rw [pz_wk_symK hg k hs27 hf27]; exact hk⟩
  exact pz_closed hg (fun m => ∃ k, 0 < pz_wk (pz_nb g 0) k s m) h2 (step hs27) hm
/-- the free distance -/
noncomputable def pz_dv (g s m : Nat) : Nat := (pz_ds g 0 s m).getD 0
theorem pz_dv_e (hg : g < 6) {s m : Nat} (hs : pz_T g s) (hm : pz_T g m) : pz_ds g 0 s m = some (pz_dv g s m) := by
  unfold pz_dv
  cases h : pz_ds g 0 s m with
  | none =>
    obtain ⟨k, hk⟩ := pz_conn hg hs hm
    have := pz_ds_none.mp h k
    omega
  | some k => rfl
theorem pz_dv_lt (hg : g < 6) {s m : Nat} (hs : pz_T g s) (hm : pz_T g m) : pz_dv g s m < 1000 := pz_ds_lt hg hs (pz_T_27 hg hm) (pz_dv_e hg hs hm)
def pz_mx (f : Nat → Nat) : Nat → Nat
  | 0 => 0
  | i + 1 => if pz_mx f i < f i then f i else pz_mx f i
theorem pz_mx_le {f : Nat → Nat} : ∀ {n i : Nat}, i < n → f i ≤ pz_mx f n
  | n + 1, i, hi => by
    unfold pz_mx
    by_cases e : i = n
    · subst e
      by_cases q : pz_mx f i < f i
      · rw [if_pos q]; exact Nat.le_refl _
      · rw [if_neg q]; omega
    · have := pz_mx_le (f := f) (n := n) (i := i) (by omega)
      by_cases q : pz_mx f n < f n
      · rw [if_pos q]; omega
      · rw [if_neg q]; exact this
theorem pz_mx_at {f : Nat → Nat} : ∀ {n : Nat}, pz_mx f n = 0 ∨ ∃ i, i < n ∧ f i = pz_mx f n
  | 0 => Or.inl rfl
  | n + 1 => by
    unfold pz_mx
    by_cases q : pz_mx f n < f n
    · rw [if_pos q]; exact Or.inr ⟨n, by omega, rfl⟩
    · rw [if_neg q]
      rcases pz_mx_at (f := f) (n := n) with h | ⟨i, h1, h2⟩
      · exact Or.inl h
      · exact Or.inr ⟨i, by omega, h2⟩
theorem pz_mx_sub {f f' : Nat → Nat} {n n' : Nat} (h : ∀ i, i < n → ∃ j, j < n' ∧ f' j = f i) : pz_mx f n ≤ pz_mx f' n' := by
  rcases pz_mx_at (f := f) (n := n) with e | ⟨i, h1, h2⟩
  · omega
  · obtain ⟨j, k1, k2⟩ := h i h1
    have := pz_mx_le (f := f') k1
    omega
/-- the eccentricity -/
noncomputable def pz_ec (g s : Nat) : Nat := pz_mx (fun i => pz_dv g s (pz_tt g i)) (pz_cn g)
theorem pz_ec_of (hg : g < 6) (s : Nat) {M : Nat → Nat} (h1 : ∀ i, i < pz_cn g → pz_T g (M i)) (h2 : ∀ m, pz_T g m → ∃ i, i < pz_cn g ∧ M i = m) : pz_mx (fun i => pz_dv g s (M i)) (pz_cn g) = pz_ec g s := by
  apply Nat.le_antisymm
  · refine pz_mx_sub (fun i hi => ?_)
    obtain ⟨k1, k2⟩ := pz_T_ix hg (h1 i hi)
    exact ⟨pz_ix g (M i), k1, by rw [k2]⟩
  · refine pz_mx_sub (fun i hi => ?_)
    obtain ⟨j, k1, k2⟩ := h2 _ (pz_tt_T hi)
    exact ⟨j, k1, by rw [k2]⟩
theorem pz_ec_lt (hg : g < 6) {s : Nat} (hs : pz_T g s) : pz_ec g s < 1000 := by
  unfold pz_ec
  rcases pz_mx_at (f := fun i => pz_dv g s (pz_tt g i)) (n := pz_cn g) with e | ⟨i, h1, h2⟩
  · omega
  · rw [← h2]
    exact pz_dv_lt hg hs (pz_tt_T h1)
theorem pz_ec_at (hg : g < 6) (s : Nat) : ∃ i, i < pz_cn g ∧ pz_dv g s (pz_tt g i) = pz_ec g s := by
  have hc := pz_cn_le hg
  unfold pz_ec
  rcases pz_mx_at (f := fun i => pz_dv g s (pz_tt g i)) (n := pz_cn g) with e | h
  · refine ⟨0, hc.2, ?_⟩
    have := pz_mx_le (f := fun i => pz_dv g s (pz_tt g i)) hc.2
    omega
  · exact h
theorem pz_tt_mono (hg : g < 6) : ∀ {j i : Nat}, i < j → j < pz_cn g → pz_tt g i < pz_tt g j
  | j + 1, i, h, hj => by
    have h1 := (pz_tt_2 hg hj).2.2 (by omega)
    rw [Nat.add_sub_cancel] at h1
    by_cases e : i = j
    · subst e; exact h1
    · exact Nat.lt_trans (pz_tt_mono hg (by omega) (by omega)) h1
/-- the place of the least of the farthest -/
noncomputable def pz_lf (g s : Nat) : Nat := pz_ff (fun i => Nat.beq (pz_dv g s (pz_tt g i)) (pz_ec g s)) (pz_cn g) 0
theorem pz_lf_e (hg : g < 6) (s : Nat) : pz_lf g s < pz_cn g ∧ pz_dv g s (pz_tt g (pz_lf g s)) = pz_ec g s ∧ ∀ i, i < pz_lf g s → pz_dv g s (pz_tt g i) < pz_ec g s := by
  have hle := pz_ff_le (fun i => Nat.beq (pz_dv g s (pz_tt g i)) (pz_ec g s)) (pz_cn g) 0
  have hlt : pz_lf g s < pz_cn g := by
    obtain ⟨i, h1, h2⟩ := pz_ec_at hg s
    rcases Nat.lt_or_ge (pz_lf g s) (pz_cn g) with q | q
    · exact q
    · exfalso
      have := pz_ff_no (fun i => Nat.beq (pz_dv g s (pz_tt g i)) (pz_ec g s)) (pz_cn g) 0 i (by omega) (by unfold pz_lf at q; omega)
      simp [h2] at this
  refine ⟨hlt, ?_, fun i hi => ?_⟩
  · have := pz_ff_yes (fun i => Nat.beq (pz_dv g s (pz_tt g i)) (pz_ec g s)) (pz_cn g) 0 (by rw [Nat.zero_add]; exact hlt)
    exact Nat.eq_of_beq_eq_true this
  · have h1 := pz_ff_no (fun i => Nat.beq (pz_dv g s (pz_tt g i)) (pz_ec g s)) (pz_cn g) 0 i (by omega) hi
    have h2 : pz_dv g s (pz_tt g i) ≤ pz_ec g s := pz_mx_le (f := fun i => pz_dv g s (pz_tt g i)) (show i < pz_cn g by omega)
    have h3 : pz_dv g s (pz_tt g i) ≠ pz_ec g s := fun e => by simp [e] at h1
    omega
theorem pz_lf_least (hg : g < 6) (s : Nat) {m : Nat} (hm : pz_T g m) (h : pz_dv g s m = pz_ec g s) : pz_tt g (pz_lf g s) ≤ m := by
  obtain ⟨h1, h2, h3⟩ := pz_lf_e hg s
  obtain ⟨k1, k2⟩ := pz_T_ix hg hm
  rcases Nat.lt_trichotomy (pz_lf g s) (pz_ix g m) with q | q | q
  · have := pz_tt_mono hg q k1
    omega
  · rw [q, k2]; exact Nat.le_refl _
  · have := h3 _ q
    rw [k2] at this
    omega
/-- the class' search for it -/
noncomputable def pz_lm (g s : Nat) (M : Nat → Nat) : Nat → Nat
  | 0 => pz_X
  | i + 1 => if pz_dv g s (M i) = pz_ec g s then (if pz_lm g s M i = pz_X then M i else if pz_lm g s M i ≤ M i then pz_lm g s M i else M i) else pz_lm g s M i
theorem pz_lm_e (s : Nat) {M : Nat → Nat} : ∀ {n : Nat}, (∀ i, i < n → M i < 134217728) → (pz_lm g s M n = pz_X ∧ ∀ i, i < n → pz_dv g s (M i) ≠ pz_ec g s) ∨ (pz_lm g s M n < 134217728 ∧ (∃ i, i < n ∧ M i = pz_lm g s M n ∧ pz_dv g s (M i) = pz_ec g s) ∧ ∀ i, i < n → pz_dv g s (M i) = pz_ec g s → pz_lm g s M n ≤ M i)
  | 0, _ => Or.inl ⟨rfl, fun i hi => absurd hi (Nat.not_lt_zero _)⟩
  | n + 1, hM => by
    have ih := pz_lm_e s (n := n) (fun i hi => hM i (by omega))
    have hn := hM n (by omega)
    have hs : ∀ i, i < n + 1 → i < n ∨ i = n := fun i hi => by omega
    unfold pz_lm
    by_cases e : pz_dv g s (M n) = pz_ec g s
    · rw [if_pos e]
      rcases ih with ⟨i1, i2⟩ | ⟨i1, i2, i3⟩
      · rw [if_pos i1]
        refine Or.inr ⟨hn, ⟨n, by omega, rfl, e⟩, fun i hi hd => ?_⟩
        rcases hs i hi with q | q
        · exact absurd hd (i2 i q)
        · rw [q]; exact Nat.le_refl _
      · rw [if_neg (show ¬ pz_lm g s M n = 4294967295 by omega)]
        by_cases q : pz_lm g s M n ≤ M n
        · rw [if_pos q]
          obtain ⟨i, k1, k2⟩ := i2
          refine Or.inr ⟨i1, ⟨i, by omega, k2⟩, fun i hi hd => ?_⟩
          rcases hs i hi with r | r
          · exact i3 i r hd
          · rw [r]; exact q
        · rw [if_neg q]
          refine Or.inr ⟨hn, ⟨n, by omega, rfl, e⟩, fun i hi hd => ?_⟩
          rcases hs i hi with r | r
          · have := i3 i r hd; omega
          · rw [r]; exact Nat.le_refl _
    · rw [if_neg e]
      rcases ih with ⟨i1, i2⟩ | ⟨i1, i2, i3⟩
      · refine Or.inl ⟨i1, fun i hi => ?_⟩
        rcases hs i hi with r | r
        · exact i2 i r
        · rw [r]; exact e
      · obtain ⟨i, k1, k2⟩ := i2
        refine Or.inr ⟨i1, ⟨i, by omega, k2⟩, fun i hi hd => ?_⟩
        rcases hs i hi with r | r
        · exact i3 i r hd
        · rw [r] at hd; exact absurd hd e
theorem pz_lm_lf (hg : g < 6) (s : Nat) {M : Nat → Nat} (h1 : ∀ i, i < pz_cn g → pz_T g (M i)) (h2 : ∀ m, pz_T g m → ∃ i, i < pz_cn g ∧ M i = m) : pz_lm g s M (pz_cn g) = pz_tt g (pz_lf g s) := by
  obtain ⟨l1, l2, l3⟩ := pz_lf_e hg s
  obtain ⟨j, j1, j2⟩ := h2 _ (pz_tt_T l1)
  rcases pz_lm_e (g := g) s (M := M) (n := pz_cn g) (fun i hi => pz_T_27 hg (h1 i hi)) with ⟨i1, i2⟩ | ⟨i1, ⟨i, k1, k2, k3⟩, i3⟩
  · exact absurd (by rw [j2]; exact l2) (i2 j j1)
  · apply Nat.le_antisymm
    · rw [← j2]
      exact i3 j j1 (by rw [j2]; exact l2)
    · rw [← k2]
      exact pz_lf_least hg s (h1 i k1) k3
/-! codes -/
theorem pz_tk_n (hg : g < 6) {m : Nat} (hm : m < 2 ^ pz_nd g) : pz_tk g m (g + 4) = m := by
  rw [pz_tk_mv hg hm]
  apply pz_eq_bits
  intro j
  rw [pz_mv_bit]
  constructor
  · rintro ⟨d, h1, h2, h3⟩
    rw [(pz_turns hg h1).1] at h3
    rw [← h3]; exact h2
  · intro h
    have hj := pz_bit_lt hm h
    exact ⟨j, hj, h, (pz_turns hg hj).1⟩
theorem pz_im_1 (m : Nat) : ∀ k, k ≤ g + 4 → pz_im g m k = pz_tk g m k
  | 0, _ => rfl
  | k + 1, h => by
    unfold pz_im
    rw [if_neg (by omega), pz_im_1 m k (by omega)]
    rfl
theorem pz_im_2 (hg : g < 6) {m : Nat} (hm : m < 2 ^ pz_nd g) : ∀ k, pz_im g m (g + 4 + (k + 1)) = pz_tk g (pz_mi g m) (k + 1)
  | 0 => by
    show pz_im g m (g + 4 + 1) = _
    unfold pz_im
    rw [if_pos rfl, pz_im_1 m (g + 4) (Nat.le_refl _), pz_tk_n hg hm]
    rfl
  | k + 1 => by
    show pz_im g m (g + 4 + (k + 1) + 1) = _
    unfold pz_im
    rw [if_neg (by omega), pz_im_2 hg hm k]
    rfl
theorem pz_li_e (m : Nat) : ∀ n, (∀ k, k ≤ n → pz_li g m n ≤ pz_im g m k) ∧ ∃ k, k ≤ n ∧ pz_li g m n = pz_im g m k
  | 0 => ⟨fun k hk => by rw [show k = 0 by omega]; exact Nat.le_refl _, 0, Nat.le_refl _, rfl⟩
  | n + 1 => by
    obtain ⟨h1, k0, h2, h3⟩ := pz_li_e m n
    unfold pz_li
    by_cases q : pz_im g m (n + 1) < pz_li g m n
    · rw [if_pos q]
      refine ⟨fun k hk => ?_, n + 1, Nat.le_refl _, rfl⟩
      by_cases e : k = n + 1
      · rw [e]; exact Nat.le_refl _
      · have := h1 k (by omega); omega
    · rw [if_neg q]
      refine ⟨fun k hk => ?_, k0, by omega, h3⟩
      by_cases e : k = n + 1
      · rw [e]; omega
      · exact h1 k (by omega)
theorem pz_co_e (m : Nat) : ∀ n, pz_co g m n ≤ m ∧ (∀ k, k < n → pz_co g m n ≤ pz_tk g m k ∧ pz_co g m n ≤ pz_tk g (pz_mi g m) k) ∧ (pz_co g m n = m ∨ ∃ k, k < n ∧ (pz_co g m n = pz_tk g m k ∨ pz_co g m n = pz_tk g (pz_mi g m) k))
  | 0 => ⟨Nat.le_refl _, fun k hk => absurd hk (Nat.not_lt_zero _), Or.inl rfl⟩
  | n + 1 => by
    obtain ⟨h1, h2, h3⟩ := pz_co_e m n
    have e : pz_co g m (n + 1) = min (min (pz_co g m n) (pz_tk g m n)) (pz_tk g (pz_mi g m) n) := rfl
    refine ⟨by omega, fun k hk => ?_, ?_⟩
    · by_cases q : k = n
      · rw [q]; omega
      · have := h2 k (by omega); omega
    · by_cases q1 : pz_co g m (n + 1) = pz_tk g (pz_mi g m) n
      · exact Or.inr ⟨n, by omega, Or.inr q1⟩
      · by_cases q2 : pz_co g m (n + 1) = pz_tk g m n
        · exact Or.inr ⟨n, by omega, Or.inl q2⟩
        · have e2 : pz_co g m (n + 1) = pz_co g m n := by omega
          rw [e2]
          rcases h3 with h3 | ⟨k, k1, k2⟩
          · exact Or.inl h3
          · exact Or.inr ⟨k, by omega, k2⟩
/-- the class' code is the reference's -/
theorem pz_li_co (hg : g < 6) {m : Nat} (hm : m < 2 ^ pz_nd g) : pz_li g m (2 * (g + 4)) = pz_co g m (g + 4) := by
  obtain ⟨a1, k, a2, a3⟩ := pz_li_e (g := g) m (2 * (g + 4))
  obtain ⟨b1, b2, b3⟩ := pz_co_e (g := g) m (g + 4)
  have hn := pz_tk_n hg hm
  have hn2 := pz_tk_n hg (pz_mi_lt hg m)
  have e1 : ∀ k, k ≤ g + 4 → pz_li g m (2 * (g + 4)) ≤ pz_tk g m k := fun k hk => by
    rw [← pz_im_1 m k hk]; exact a1 k (by omega)
  have e2 : ∀ k, k < g + 4 → pz_li g m (2 * (g + 4)) ≤ pz_tk g (pz_mi g m) (k + 1) := fun k hk => by
    rw [← pz_im_2 hg hm k]; exact a1 _ (by omega)
  apply Nat.le_antisymm
  · rcases b3 with b3 | ⟨k, k1, b3 | b3⟩
    · rw [b3]; exact a1 0 (by omega)
    · rw [b3]; exact e1 k (by omega)
    · rw [b3]
      cases k with
      | zero =>
        have := e2 (g + 3) (by omega)
        rw [show g + 3 + 1 = g + 4 from rfl, hn2] at this
        exact this
      | succ k => exact e2 k (by omega)
  · rw [a3]
    by_cases q : k ≤ g + 4
    · rw [pz_im_1 m k q]
      by_cases q2 : k = g + 4
      · rw [q2, hn]; exact b1
      · exact (b2 k (by omega)).1
    · obtain ⟨j, rfl⟩ : ∃ j, k = g + 4 + (j + 1) := ⟨k - (g + 4) - 1, by omega⟩
      rw [pz_im_2 hg hm]
      by_cases q2 : j + 1 = g + 4
      · rw [q2, hn2]
        exact (b2 0 (by omega)).2
      · exact (b2 (j + 1) (by omega)).2
theorem pz_sm_split (f : Nat → Nat) (a : Nat) : ∀ b, pz_sm f (a + b) = pz_sm f a + pz_sm (fun i => f (a + i)) b
  | 0 => rfl
  | b + 1 => by
    show pz_sm f (a + b) + f (a + b) = pz_sm f a + (pz_sm (fun i => f (a + i)) b + f (a + b))
    rw [pz_sm_split f a b]
    omega
theorem pz_sm_shift (f : Nat → Nat) : ∀ n, pz_sm (fun i => f (i + 1)) n + f 0 = pz_sm f n + f n
  | 0 => rfl
  | n + 1 => by
    have := pz_sm_shift f n
    show pz_sm (fun i => f (i + 1)) n + f (n + 1) + f 0 = pz_sm f n + f n + f (n + 1)
    omega
theorem pz_sy_sm (m : Nat) : ∀ n, pz_sy g m n = pz_sm (fun k => if pz_im g m (k + 1) = m then 1 else 0) n
  | 0 => rfl
  | n + 1 => by
    show pz_sy g m n + _ = _
    rw [pz_sy_sm m n]
    rfl
theorem pz_lk_sm (m : Nat) : ∀ n, pz_lk g m n = pz_sm (fun k => if pz_tk g m k = m then 1 else 0) n + pz_sm (fun k => if pz_tk g (pz_mi g m) k = m then 1 else 0) n
  | 0 => rfl
  | n + 1 => by
    show pz_lk g m n + _ + _ = _ + _ + (_ + _)
    rw [pz_lk_sm m n]
    simp only
    omega
/-- and its likenesses -/
theorem pz_sy_lk (hg : g < 6) {m : Nat} (hm : m < 2 ^ pz_nd g) : pz_sy g m (2 * (g + 4)) = pz_lk g m (g + 4) := by
  rw [pz_sy_sm, pz_lk_sm, show 2 * (g + 4) = (g + 4) + (g + 4) by omega, pz_sm_split]
  have hn := pz_tk_n hg hm
  have hn2 := pz_tk_n hg (pz_mi_lt hg m)
  have e1 : pz_sm (fun k => if pz_im g m (k + 1) = m then 1 else 0) (g + 4) = pz_sm (fun k => if pz_tk g m (k + 1) = m then 1 else 0) (g + 4) := pz_sm_cong (fun k hk => by rw [pz_im_1 m (k + 1) (by omega)])
  have e2 : pz_sm (fun i => if pz_im g m (g + 4 + i + 1) = m then 1 else 0) (g + 4) = pz_sm (fun k => if pz_tk g (pz_mi g m) (k + 1) = m then 1 else 0) (g + 4) := pz_sm_cong (fun k hk => by rw [Nat.add_assoc, pz_im_2 hg hm])
  have s1 := pz_sm_shift (fun k => if pz_tk g m k = m then 1 else 0) (g + 4)
  have s2 := pz_sm_shift (fun k => if pz_tk g (pz_mi g m) k = m then 1 else 0) (g + 4)
  rw [hn] at s1
  rw [hn2] at s2
  rw [e1, e2]
  have z1 : pz_tk g m 0 = m := rfl
  have z2 : pz_tk g (pz_mi g m) 0 = pz_mi g m := rfl
  rw [z1] at s1
  rw [z2] at s2
  omega
theorem pz_tu_T (hg : g < 6) {m : Nat} (hm : pz_T g m) : pz_T g (pz_tu g m) ∧ pz_T g (pz_mi g m) := by
  obtain ⟨i, hi, rfl⟩ := hm
  have h := pz_al_e (pz_K8 g hg) i hi
  rw [Bool.and_eq_true] at h
  exact ⟨pz_mem_T h.1, pz_mem_T h.2⟩
theorem pz_tk_T (hg : g < 6) {m : Nat} (hm : pz_T g m) : ∀ k, pz_T g (pz_tk g m k)
  | 0 => hm
  | k + 1 => (pz_tu_T hg (pz_tk_T hg hm k)).1
/-! diameters, by rows of bits -/
theorem pz_rw_bit (B c i j : Nat) : (pz_rw B c i).testBit j = (decide (j < c) && B.testBit (c * i + j)) := by
  unfold pz_rw
  rw [Nat.testBit_mod_two_pow, Nat.testBit_shiftRight]
theorem pz_bo_bit {B i j : Nat} : ∀ {n : Nat}, (pz_bo g B i n).testBit j = true ↔ (pz_rw B (pz_cn g) i).testBit j = true ∨ ∃ w, w < n ∧ (pz_rw B (pz_cn g) (pz_ld g i w)).testBit j = true
  | 0 => by simp [pz_bo]
  | n + 1 => by
    unfold pz_bo
    rw [Nat.testBit_or, Bool.or_eq_true, pz_bo_bit]
    constructor
    · rintro ((h | ⟨w, h1, h2⟩) | h)
      · exact Or.inl h
      · exact Or.inr ⟨w, by omega, h2⟩
      · exact Or.inr ⟨n, by omega, h⟩
    · rintro (h | ⟨w, h1, h2⟩)
      · exact Or.inl (Or.inl h)
      · by_cases e : w = n
        · subst e; exact Or.inr h2
        · exact Or.inl (Or.inr ⟨w, by omega, h2⟩)
theorem pz_bo_lt (B i n : Nat) : pz_bo g B i n < 2 ^ pz_cn g := by
  apply Nat.lt_pow_two_of_testBit
  intro j hj
  cases e : (pz_bo g B i n).testBit j with
  | false => rfl
  | true =>
    exfalso
    rcases pz_bo_bit.mp e with h | ⟨w, -, h⟩
    · rw [pz_rw_bit, Bool.and_eq_true, decide_eq_true_eq] at h; omega
    · rw [pz_rw_bit, Bool.and_eq_true, decide_eq_true_eq] at h; omega
theorem pz_bt_bit {B i j : Nat} (hj : j < pz_cn g) : ∀ {n : Nat}, (pz_bt g B n).testBit (pz_cn g * i + j) = true ↔ i < n ∧ (pz_bo g B i (g + 1)).testBit j = true
  | 0 => by simp [pz_bt]
  | n + 1 => by
    unfold pz_bt
    rw [Nat.testBit_or, Bool.or_eq_true, pz_bt_bit hj, Nat.testBit_shiftLeft, Bool.and_eq_true, decide_eq_true_eq]
    constructor
    · rintro (⟨h1, h2⟩ | ⟨h1, h2⟩)
      · exact ⟨by omega, h2⟩
      · rcases Nat.lt_trichotomy i n with q | q | q
        · exfalso
          have := Nat.mul_le_mul_left (pz_cn g) (show i + 1 ≤ n from q)
          rw [Nat.mul_succ] at this
          omega
        · subst q
          rw [Nat.add_sub_cancel_left] at h2
          exact ⟨by omega, h2⟩
        · exfalso
          have := Nat.mul_le_mul_left (pz_cn g) (show n + 1 ≤ i from q)
          rw [Nat.mul_succ] at this
          have h3 := pz_bit_lt (pz_bo_lt B n (g + 1)) h2
          omega
    · rintro ⟨h1, h2⟩
      by_cases q : i = n
      · subst q
        rw [Nat.add_sub_cancel_left]
        exact Or.inr ⟨by omega, h2⟩
      · exact Or.inl ⟨by omega, h2⟩
theorem pz_b0_bit {c i j : Nat} (hj : j < c) : ∀ {n : Nat}, n ≤ c → ((pz_b0 c n).testBit (c * i + j) = true ↔ i < n ∧ i = j)
  | 0, _ => by simp [pz_b0]
  | n + 1, hn => by
    unfold pz_b0
    rw [Nat.testBit_or, Bool.or_eq_true, pz_b0_bit hj (by omega), Nat.testBit_two_pow, decide_eq_true_eq]
    constructor
    · rintro (⟨h1, h2⟩ | h)
      · exact ⟨by omega, h2⟩
      · rw [Nat.mul_comm c n, Nat.mul_comm c i] at h
        obtain ⟨h1, h2⟩ := pz_idx (F := c) hj (by omega) h
        omega
    · rintro ⟨h1, h2⟩
      by_cases q : i = n
      · subst q
        refine Or.inr ?_
        rw [h2]
      · exact Or.inl ⟨by omega, h2⟩
theorem pz_nb_ld (hg : g < 6) {i u : Nat} (hi : i < pz_cn g) : u ∈ pz_nb g 0 (pz_tt g i) ↔ ∃ w, w < g + 1 ∧ pz_ld g i w < pz_cn g ∧ pz_tt g (pz_ld g i w) = u := by
  have hT := pz_tt_T hi
  obtain ⟨r1, r2, r3, r4⟩ := pz_bits hg hT
  have key : ∀ d, (pz_tt g i).testBit d = true → pz_ld g i (pz_rk (pz_tt g i) d) < pz_cn g ∧ pz_tt g (pz_ld g i (pz_rk (pz_tt g i) d)) = pz_fl g (pz_tt g i) d := by
    intro d hd
    obtain ⟨-, -, -, hfT, -, -, -, -, -, hl⟩ := pz_flip hg hT hd
    rw [(pz_tt_2 hg hi).1] at hl
    rw [← hl]
    exact pz_T_ix hg hfT
  rw [pz_nb_mem hg]
  constructor
  · rintro ⟨-, -, d, h1, -, h3⟩
    obtain ⟨k1, k2⟩ := key d h1
    exact ⟨_, (r3 d (pz_bit_lt (pz_T_lt hg hT) h1) h1).2, k1, by rw [k2, h3]⟩
  · rintro ⟨w, h1, h2, h3⟩
    obtain ⟨-, -, -, b4, b5, -⟩ := r2 w h1
    obtain ⟨k1, k2⟩ := key _ b4
    rw [b5] at k2
    exact ⟨hT, by simp, pz_se (pz_tt g i) w, b4, by simp, by rw [← k2, h3]⟩
theorem pz_bl_e (hg : g < 6) : ∀ (k : Nat) {i j : Nat}, i < pz_cn g → j < pz_cn g → ((pz_rw (pz_bl g k) (pz_cn g) i).testBit j = true ↔ ∃ k', k' ≤ k ∧ 0 < pz_wk (pz_nb g 0) k' (pz_tt g i) (pz_tt g j))
  | 0, i, j, hi, hj => by
    rw [pz_rw_bit]
    unfold pz_bl
    rw [Bool.and_eq_true, decide_eq_true_eq, pz_b0_bit hj (Nat.le_refl _)]
    constructor
    · rintro ⟨-, -, rfl⟩
      exact ⟨0, Nat.le_refl _, by simp [pz_wk]⟩
    · rintro ⟨k', h1, h2⟩
      rw [show k' = 0 by omega] at h2
      refine ⟨hj, hi, ?_⟩
      by_cases e : pz_tt g i = pz_tt g j
      · rw [← (pz_tt_2 hg hi).1, ← (pz_tt_2 hg hj).1, e]
      · simp [pz_wk, e] at h2
  | k + 1, i, j, hi, hj => by
    have hB : pz_bl g (k + 1) = pz_bt g (pz_bl g k) (pz_cn g) := by
      show pz_fc (pz_bl g k) (fun B => pz_bt g B (pz_cn g)) = _
      rw [pz_fc_e]
    rw [hB, pz_rw_bit, Bool.and_eq_true, decide_eq_true_eq, pz_bt_bit hj, pz_bo_bit, pz_bl_e hg k hi hj]
    constructor
    · rintro ⟨-, -, ⟨k', h1, h2⟩ | ⟨w, h1, h2⟩⟩
      · exact ⟨k', by omega, h2⟩
      · by_cases hl : pz_ld g i w < pz_cn g
        · obtain ⟨k', h3, h4⟩ := (pz_bl_e hg k hl hj).mp h2
          refine ⟨k' + 1, by omega, ?_⟩
          rw [pz_wk_l (pz_nb_N hg) k' _ (pz_T_27 hg (pz_tt_T hi))]
          have hm : pz_tt g (pz_ld g i w) ∈ pz_nb g 0 (pz_tt g i) := (pz_nb_ld hg hi).mpr ⟨w, h1, hl, rfl⟩
          have e1 := pz_sm_le (f := fun u => pz_ct u (pz_nb g 0 (pz_tt g i)) * pz_wk (pz_nb g 0) k' u (pz_tt g j)) (pz_T_27 hg (pz_tt_T hl))
          have e2 : 0 < pz_ct (pz_tt g (pz_ld g i w)) (pz_nb g 0 (pz_tt g i)) * pz_wk (pz_nb g 0) k' (pz_tt g (pz_ld g i w)) (pz_tt g j) := Nat.mul_pos (pz_ct_pos.mpr hm) h4
          exact Nat.lt_of_lt_of_le e2 e1
        · exfalso
          have hT := pz_tt_T (g := g) hi
          obtain ⟨-, r2, -⟩ := pz_bits hg hT
          obtain ⟨-, -, -, b4, b5, -⟩ := r2 w h1
          obtain ⟨-, -, -, hfT, -, -, -, -, -, hl2⟩ := pz_flip hg hT b4
          rw [(pz_tt_2 hg hi).1, b5] at hl2
          rw [← hl2] at hl
          exact hl (pz_T_ix hg hfT).1
    · rintro ⟨k', h1, h2⟩
      refine ⟨hj, hi, ?_⟩
      by_cases e : k' ≤ k
      · exact Or.inl ⟨k', e, h2⟩
      · have e2 : k' = k + 1 := by omega
        subst e2
        rw [pz_wk_l (pz_nb_N hg) k _ (pz_T_27 hg (pz_tt_T hi))] at h2
        obtain ⟨u, hu, hp⟩ := pz_sm_pos h2
        have hp1 : 0 < pz_ct u (pz_nb g 0 (pz_tt g i)) := Nat.pos_of_mul_pos_right hp
        have hp2 : 0 < pz_wk (pz_nb g 0) k u (pz_tt g j) := Nat.pos_of_mul_pos_left hp
        obtain ⟨w, w1, w2, w3⟩ := (pz_nb_ld hg hi).mp (pz_ct_pos.mp hp1)
        refine Or.inr ⟨w, w1, (pz_bl_e hg k w2 hj).mpr ⟨k, Nat.le_refl _, ?_⟩⟩
        rw [w3]; exact hp2
theorem pz_diam (hg : g < 6) : (∀ i j, i < pz_cn g → j < pz_cn g → pz_dv g (pz_tt g i) (pz_tt g j) ≤ pz_di g) ∧ ∃ i j, i < pz_cn g ∧ j < pz_cn g ∧ pz_di g ≤ pz_dv g (pz_tt g i) (pz_tt g j) := by
  have hd : 0 < pz_di g := by
    have h : ∀ g, g < 6 → 0 < pz_di g := by decide
    exact h g hg
  have h := pz_K10 g hg
  unfold pz_k10 at h
  rw [pz_fc_e, pz_fc_e, Bool.and_eq_true, Bool.not_eq_true'] at h
  obtain ⟨h1, h2⟩ := h
  have hB : pz_bt g (pz_bl g (pz_di g - 1)) (pz_cn g) = pz_bl g (pz_di g) := by
    have e : pz_bl g (pz_di g - 1 + 1) = pz_bt g (pz_bl g (pz_di g - 1)) (pz_cn g) := by
      show pz_fc (pz_bl g (pz_di g - 1)) (fun B => pz_bt g B (pz_cn g)) = _
      rw [pz_fc_e]
    rw [← e, Nat.sub_add_cancel hd]
  rw [hB] at h2
  constructor
  · intro i j hi hj
    have h3 := Nat.eq_of_beq_eq_true (pz_al_e h2 i hi)
    have h4 : (pz_rw (pz_bl g (pz_di g)) (pz_cn g) i).testBit j = true := by
      rw [h3, Nat.testBit_two_pow_sub_one]
      simp [hj]
    obtain ⟨k', k1, k2⟩ := (pz_bl_e hg _ hi hj).mp h4
    have k3 := pz_dv_e hg (pz_tt_T hi) (pz_tt_T hj)
    have k4 := (pz_ds_some.mp k3).2
    rcases Nat.lt_or_ge k' (pz_dv g (pz_tt g i) (pz_tt g j)) with q | q
    · have := k4 k' q; omega
    · omega
  · have h3 : ∃ i, i < pz_cn g ∧ pz_rw (pz_bl g (pz_di g - 1)) (pz_cn g) i ≠ 2 ^ pz_cn g - 1 := by
      have key : ∀ (p : Nat → Bool) (n : Nat), pz_al p n = false → ∃ i, i < n ∧ p i = false := by
        intro p n
        induction n with
        | zero => intro h; cases h
        | succ n ih =>
          intro h
          unfold pz_al at h
          cases hp : p n with
          | false => exact ⟨n, by omega, hp⟩
          | true =>
            rw [hp, Bool.true_and] at h
            obtain ⟨i, k1, k2⟩ := ih h
            exact ⟨i, by omega, k2⟩
      obtain ⟨i, k1, k2⟩ := key _ _ h1
      exact ⟨i, k1, fun e => by simp [e] at k2⟩
    obtain ⟨i, hi, hne⟩ := h3
    have h4 : ∃ j, j < pz_cn g ∧ (pz_rw (pz_bl g (pz_di g - 1)) (pz_cn g) i).testBit j = false := by
      by_cases q : ∃ j, j < pz_cn g ∧ (pz_rw (pz_bl g (pz_di g - 1)) (pz_cn g) i).testBit j = false
      · exact q
      · exfalso
        apply hne
        apply Nat.eq_of_testBit_eq
        intro j
        rw [Nat.testBit_two_pow_sub_one]
        by_cases hj : j < pz_cn g
        · simp only [hj, decide_true]
          cases e : (pz_rw (pz_bl g (pz_di g - 1)) (pz_cn g) i).testBit j with
          | true => rfl
          | false => exact absurd ⟨j, hj, e⟩ q
        · rw [pz_rw_bit]
          simp [hj]
    obtain ⟨j, hj, hb⟩ := h4
    refine ⟨i, j, hi, hj, ?_⟩
    have k3 := pz_dv_e hg (pz_tt_T hi) (pz_tt_T hj)
    have k4 := (pz_ds_some.mp k3).1
    rcases Nat.lt_or_ge (pz_dv g (pz_tt g i) (pz_tt g j)) (pz_di g) with q | q
    · exfalso
      have := (pz_bl_e hg (pz_di g - 1) hi hj).mpr ⟨_, by omega, k4⟩
      rw [hb] at this
      cases this
    · exact q
theorem pz_widest (hg : g < 6) : pz_mx (fun i => pz_ec g (pz_tt g i)) (pz_cn g) = pz_di g := by
  obtain ⟨h1, i, j, hi, hj, h2⟩ := pz_diam hg
  apply Nat.le_antisymm
  · rcases pz_mx_at (f := fun i => pz_ec g (pz_tt g i)) (n := pz_cn g) with e | ⟨a, k1, k2⟩
    · omega
    · rw [← k2]
      obtain ⟨b, b1, b2⟩ := pz_ec_at hg (pz_tt g a)
      rw [← b2]
      exact h1 a b k1 b1
  · have e1 := pz_mx_le (f := fun i => pz_ec g (pz_tt g i)) hi
    have e2 : pz_dv g (pz_tt g i) (pz_tt g j) ≤ pz_ec g (pz_tt g i) := pz_mx_le (f := fun j => pz_dv g (pz_tt g i) (pz_tt g j)) hj
    omega
end PZFA
