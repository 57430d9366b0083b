/-! the free distance is the sum of the parts': walks -/
theorem pz_ls_pos {f : Nat → Nat} : ∀ {l : List Nat}, 0 < pz_ls l f → ∃ u ∈ l, 0 < f u
  | [], h => absurd h (Nat.lt_irrefl 0)
  | a :: l, h => by
    have e : pz_ls (a :: l) f = f a + pz_ls l f := rfl
    rw [e] at h
    by_cases q : 0 < f a
    · exact ⟨a, List.mem_cons_self, q⟩
    · obtain ⟨u, h1, h2⟩ := pz_ls_pos (l := l) (f := f) (by omega)
      exact ⟨u, List.mem_cons_of_mem _ h1, h2⟩
theorem pz_ls_ge {f : Nat → Nat} : ∀ {l : List Nat} {u : Nat}, u ∈ l → f u ≤ pz_ls l f
  | a :: l, u, h => by
    have e : pz_ls (a :: l) f = f a + pz_ls l f := rfl
    rw [e]
    rcases List.mem_cons.mp h with q | q
    · subst q; omega
    · have := pz_ls_ge (f := f) q; omega
/-- a step changes one word of a sum -/
theorem pz_ls_st {f f' w : Nat → Nat} {d : Nat} : ∀ {L : List Nat}, L.Pairwise (fun A B => w A &&& w B = 0) → (∀ S ∈ L, (w S).testBit d = false → f' S = f S) → ((∀ S ∈ L, (w S).testBit d = true → f S ≤ f' S + 1) → pz_ls L f ≤ pz_ls L f' + 1) ∧ ((∃ S ∈ L, (w S).testBit d = true) → (∀ S ∈ L, (w S).testBit d = true → f' S + 1 = f S) → pz_ls L f' + 1 = pz_ls L f)
  | [], _, _ => ⟨fun _ => Nat.zero_le _, fun ⟨S, hS, _⟩ => by cases hS⟩
  | A :: L, h, h0 => by
    rw [List.pairwise_cons] at h
    have e1 : pz_ls (A :: L) f = f A + pz_ls L f := rfl
    have e2 : pz_ls (A :: L) f' = f' A + pz_ls L f' := rfl
    have ih := pz_ls_st (f := f) (f' := f') (w := w) (d := d) h.2 (fun S hS => h0 S (List.mem_cons_of_mem _ hS))
    rw [e1, e2]
    cases q : (w A).testBit d with
    | false =>
      have hA := h0 A List.mem_cons_self q
      refine ⟨fun h1 => ?_, fun ⟨S, hS, hd⟩ h1 => ?_⟩
      · have := ih.1 (fun S hS => h1 S (List.mem_cons_of_mem _ hS)); omega
      · have hS' : S ∈ L := by
          rcases List.mem_cons.mp hS with r | r
          · rw [r, q] at hd; cases hd
          · exact r
        have := ih.2 ⟨S, hS', hd⟩ (fun S hS => h1 S (List.mem_cons_of_mem _ hS)); omega
    | true =>
      have rest : pz_ls L f' = pz_ls L f := pz_ls_cong (fun S hS => h0 S (List.mem_cons_of_mem _ hS) (pz_bitf (fun r => pz_bit0 (h.1 S hS) q r)))
      rw [rest]
      refine ⟨fun h1 => ?_, fun _ h1 => ?_⟩
      · have := h1 A List.mem_cons_self q; omega
      · have := h1 A List.mem_cons_self q; omega
section PZSC
variable {g : Nat}
theorem pz_wk_pos {K k s t : Nat} (h : 0 < pz_wk (pz_nb g K) (k + 1) s t) : ∃ u ∈ pz_nb g K s, 0 < pz_wk (pz_nb g K) k u t := pz_ls_pos h
theorem pz_wk_cons {K k s u t : Nat} (hu : u ∈ pz_nb g K s) (h : 0 < pz_wk (pz_nb g K) k u t) : 0 < pz_wk (pz_nb g K) (k + 1) s t :=
  Nat.lt_of_lt_of_le h (pz_ls_ge (f := fun u => pz_wk (pz_nb g K) k u t) hu)
theorem pz_dv_le (hg : g < 6) {s t k : Nat} (hs : pz_T g s) (ht : pz_T g t) (h : 0 < pz_wk (pz_nb g 0) k s t) : pz_dv g s t ≤ k := by
  have h1 := (pz_ds_some.mp (pz_dv_e hg hs ht)).2 k
  rcases Nat.lt_or_ge k (pz_dv g s t) with q | q
  · have := h1 q; omega
  · exact q
theorem pz_dv_wk (hg : g < 6) {s t : Nat} (hs : pz_T g s) (ht : pz_T g t) : 0 < pz_wk (pz_nb g 0) (pz_dv g s t) s t := (pz_ds_some.mp (pz_dv_e hg hs ht)).1
theorem pz_nb0 (hg : g < 6) {m d : Nat} (hm : pz_T g m) (hd : m.testBit d = true) : pz_fl g m d ∈ pz_nb g 0 m := (pz_nb_mem hg).mpr ⟨hm, Nat.zero_and _, d, hd, Nat.zero_testBit _, rfl⟩
theorem pz_dv_fl (hg : g < 6) {m d t : Nat} (hm : pz_T g m) (ht : pz_T g t) (hd : m.testBit d = true) : pz_dv g m t ≤ pz_dv g (pz_fl g m d) t + 1 := by
  have hw := pz_nb0 hg hm hd
  exact pz_dv_le hg hm ht (pz_wk_cons hw (pz_dv_wk hg (pz_nb_T hg hw).1 ht))
theorem pz_dv_pick (hg : g < 6) {m t k : Nat} (hm : pz_T g m) (ht : pz_T g t) (h : pz_dv g m t = k + 1) : ∃ d, m.testBit d = true ∧ pz_dv g (pz_fl g m d) t = k := by
  have h1 := pz_dv_wk hg hm ht
  rw [h] at h1
  obtain ⟨u, u1, u2⟩ := pz_wk_pos h1
  obtain ⟨-, -, d, d1, -, rfl⟩ := (pz_nb_mem hg).mp u1
  have h2 := pz_dv_le hg (pz_nb_T hg u1).1 ht u2
  have h3 := pz_dv_fl hg hm ht d1
  exact ⟨d, d1, by omega⟩
theorem pz_dv_0 (hg : g < 6) {m t : Nat} (hm : pz_T g m) (ht : pz_T g t) (h : pz_dv g m t = 0) : m = t := by
  have h1 := pz_dv_wk hg hm ht
  rw [h] at h1
  unfold pz_wk at h1
  by_cases q : m = t
  · exact q
  · rw [if_neg q] at h1; omega
theorem pz_dv_s (hg : g < 6) {m : Nat} (hm : pz_T g m) : pz_dv g m m = 0 := by
  have := pz_dv_le (k := 0) hg hm hm (by unfold pz_wk; rw [if_pos rfl]; omega)
  omega
/-- one part's distance -/
noncomputable def pz_pd (g P G S : Nat) : Nat := if 4 ≤ pz_rk S 9 then pz_dv (pz_qg S) (pz_pj g S P) (pz_pj g S G) else 0
theorem pz_parts_le (hg : g < 6) {C G : Nat} (hC : pz_nc g C) (hG : pz_T g G) (hCG : C &&& G = C) : ∀ (k P : Nat), pz_T g P → C &&& P = C → 0 < pz_wk (pz_nb g C) k P G → pz_ls (pz_cu g C (pz_nd g)) (pz_pd g P G) ≤ k
  | 0, P, hP, hCP, h => by
    unfold pz_wk at h
    by_cases q : P = G
    · subst q
      have hz : pz_ls (pz_cu g C (pz_nd g)) (pz_pd g P P) = pz_ls (pz_cu g C (pz_nd g)) (fun _ => 0) := pz_ls_cong (fun S hS => by
        unfold pz_pd
        by_cases r : 4 ≤ pz_rk S 9
        · rw [if_pos r]
          obtain ⟨s1, s2, s3⟩ := pz_qg_e hg ((pz_dsc hg hC).2.1 S hS) r
          exact pz_dv_s (by omega) (pz_pj_T hg hC hP hCP hS r)
        · rw [if_neg r])
      rw [hz, pz_ls_0]
      exact Nat.le_refl _
    · rw [if_neg q] at h; omega
  | k + 1, P, hP, hCP, h => by
    obtain ⟨u, u1, u2⟩ := pz_wk_pos h
    have hu := pz_nb_T hg u1
    obtain ⟨-, -, d, d1, d2, rfl⟩ := (pz_nb_mem hg).mp u1
    have ih := pz_parts_le hg hC hG hCG k _ hu.1 hu.2.1 u2
    have hd := pz_dsc hg hC
    obtain ⟨-, st⟩ := pz_pstep hg hC hP hCP d1 d2
    have h1 := (pz_ls_st (f := pz_pd g P G) (f' := pz_pd g (pz_fl g P d) G) (w := pz_wi g) (d := d) hd.2.2.1 (fun S hS q => by
      unfold pz_pd
      rw [(st S hS).1 q])).1 (fun S hS q => by
        unfold pz_pd
        have r := (pz_wi_bit.mp q).1
        obtain ⟨s1, s2, s3⟩ := pz_qg_e hg (hd.2.1 S hS) r
        rw [if_pos r, if_pos r, ((st S hS).2 q).2]
        exact pz_dv_fl (by omega) (pz_pj_T hg hC hP hCP hS r) (pz_pj_T hg hC hG hCG hS r) ((st S hS).2 q).1)
    omega
theorem pz_parts_ge (hg : g < 6) {C G : Nat} (hC : pz_nc g C) (hG : pz_T g G) (hCG : C &&& G = C) : ∀ (n P : Nat), pz_T g P → C &&& P = C → pz_ls (pz_cu g C (pz_nd g)) (pz_pd g P G) = n → 0 < pz_wk (pz_nb g C) n P G
  | 0, P, hP, hCP, h => by
    have hd := pz_dsc hg hC
    have all : ∀ S ∈ pz_cu g C (pz_nd g), 4 ≤ pz_rk S 9 → pz_pj g S P = pz_pj g S G := fun S hS r => by
      have h1 := pz_ls_ge (f := pz_pd g P G) hS
      rw [h] at h1
      unfold pz_pd at h1
      rw [if_pos r] at h1
      obtain ⟨s1, s2, s3⟩ := pz_qg_e hg (hd.2.1 S hS) r
      exact pz_dv_0 (by omega) (pz_pj_T hg hC hP hCP hS r) (pz_pj_T hg hC hG hCG hS r) (by omega)
    have sub : ∀ {a b : Nat}, pz_T g a → C &&& a = C → C &&& b = C → (∀ S ∈ pz_cu g C (pz_nd g), 4 ≤ pz_rk S 9 → pz_pj g S a = pz_pj g S b) → ∀ i, a.testBit i = true → b.testBit i = true := by
      intro a b ha hCa hCb hab i hi
      cases hc : C.testBit i with
      | true => exact pz_sub_bit hCb hc
      | false =>
        obtain ⟨S, hS, hw⟩ := (hd.2.2.2.1 i).mpr (pz_beside hg hC ha hCa hi hc)
        have r := (pz_wi_bit.mp hw).1
        have h1 : (pz_pj g S a).testBit (pz_ro g S i) = true := pz_pj_bit.mpr ⟨i, hi, hw, rfl⟩
        rw [hab S hS r] at h1
        obtain ⟨j, j1, j2, j3⟩ := pz_pj_bit.mp h1
        rw [← pz_ro_inj hg (hd.2.1 S hS) j2 hw j3]
        exact j1
    have e : P = G := by
      apply Nat.eq_of_testBit_eq
      intro i
      cases c1 : P.testBit i with
      | true => exact (sub hP hCP hCG all i c1).symm
      | false =>
        exact (pz_bitf (fun q => by
          have := sub hG hCG hCP (fun S hS r => (all S hS r).symm) i q
          rw [this] at c1; cases c1)).symm
    subst e
    unfold pz_wk
    rw [if_pos rfl]
    omega
  | n + 1, P, hP, hCP, h => by
    have hd := pz_dsc hg hC
    obtain ⟨S, hS, hpos⟩ := pz_ls_pos (show 0 < pz_ls (pz_cu g C (pz_nd g)) (pz_pd g P G) by omega)
    have r : 4 ≤ pz_rk S 9 := by
      refine Classical.byContradiction (fun q => ?_)
      unfold pz_pd at hpos
      rw [if_neg q] at hpos; omega
    obtain ⟨s1, s2, s3⟩ := pz_qg_e hg (hd.2.1 S hS) r
    have hpd : pz_pd g P G S = pz_dv (pz_qg S) (pz_pj g S P) (pz_pj g S G) := by unfold pz_pd; rw [if_pos r]
    obtain ⟨k, hk⟩ : ∃ k, pz_pd g P G S = k + 1 := ⟨pz_pd g P G S - 1, by omega⟩
    obtain ⟨j, j1, j2⟩ := pz_dv_pick (by omega) (pz_pj_T hg hC hP hCP hS r) (pz_pj_T hg hC hG hCG hS r) (by rw [← hpd, hk])
    obtain ⟨d, d1, d2, rfl⟩ := pz_pj_bit.mp j1
    have dC : C.testBit d = false := ((hd.2.2.2.1 d).mp ⟨S, hS, d2⟩).2.1
    obtain ⟨-, st⟩ := pz_pstep hg hC hP hCP d1 dC
    have hu : pz_fl g P d ∈ pz_nb g C P := (pz_nb_mem hg).mpr ⟨hP, hCP, d, d1, dC, rfl⟩
    have hT := pz_nb_T hg hu
    have h1 := (pz_ls_st (f := pz_pd g P G) (f' := pz_pd g (pz_fl g P d) G) (w := pz_wi g) (d := d) hd.2.2.1 (fun S hS q => by
      unfold pz_pd
      rw [(st S hS).1 q])).2 ⟨S, hS, d2⟩ (fun S' hS' q => by
        have := pz_pw hd.2.2.1 hS hS' d2 q
        subst this
        rw [hk]
        unfold pz_pd
        rw [if_pos r, ((st S hS).2 q).2, j2])
    exact pz_wk_cons hu (pz_parts_ge hg hC hG hCG n _ hT.1 hT.2.1 (by omega))
/-- the free distance is the sum of the parts' -/
theorem pz_parts (hg : g < 6) {P G : Nat} (hP : pz_T g P) (hG : pz_T g G) : pz_ds g (P &&& G) P G = some (pz_ls (pz_cu g (P &&& G) (pz_nd g)) (pz_pd g P G)) := by
  have c1 : (P &&& G) &&& P = P &&& G := pz_bit_sub (fun i hi => by rw [Nat.testBit_and, Bool.and_eq_true] at hi; exact hi.1)
  have c2 : (P &&& G) &&& G = P &&& G := pz_bit_sub (fun i hi => by rw [Nat.testBit_and, Bool.and_eq_true] at hi; exact hi.2)
  have hC : pz_nc g (P &&& G) := pz_nc_sub (pz_T_nc hg hP) (fun i hi => by rw [Nat.testBit_and, Bool.and_eq_true] at hi; exact hi.1)
  refine pz_ds_some.mpr ⟨pz_parts_ge hg hC hG c2 _ P hP c1 rfl, fun j hj => ?_⟩
  rcases Nat.eq_zero_or_pos (pz_wk (pz_nb g (P &&& G)) j P G) with q | q
  · exact q
  · have := pz_parts_le hg hC hG c2 j P hP c1 q
    omega
end PZSC
