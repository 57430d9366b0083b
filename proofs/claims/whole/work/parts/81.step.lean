/-! the law's loop: both answer alike at every call -/
section PZL1
variable {h h' : zq_H} {A : pz_A}
theorem pz_M.kc (H : pz_M h A) (k : pz_kc h h') : pz_M h' A :=
  ⟨H.1.rr k.1 (fun j => pz_ag.r k (t := 104) (by omega) j), H.2.1.of (fun a j q => pz_ag.i k (t := a) (by omega) j), H.2.2.1.of (fun a j q => pz_ag.i k (t := a) (by omega) j), H.2.2.2.of (fun a j q => pz_ag.i k (t := a) (by omega) j)⟩
theorem pz_C.km (C : pz_C h A) (k : pz_km h h') : pz_C h' A := by
  obtain ⟨b, ⟨c1, c2, c3, c4⟩, c5⟩ := C
  exact ⟨b, ⟨c1.r k.1 (fun a j ha => pz_ag.r k (t := a) (by omega) j), c2.ag k (fun a h1 h2 => by omega), c3.ag k (fun a h1 h2 => by omega), c4.ag k (by omega)⟩, c5.ag k ⟨by omega, fun a h1 h2 => by omega⟩⟩
def pz_LI (h : zq_H) (A : pz_A) : Prop := h.1 = 119 ∧ pz_C h A ∧ pz_M h A
theorem zl_ {α β : Type} (x : α) (f : α → β) : zq_let x f = f x := rfl
theorem z_sL (hh : 118 < h.1) (v : Int64) : zq_sL h 118 0 v = some (pz_L h 118 0 v) := if_pos ⟨hh, rfl, by decide⟩
theorem z_aL (hh : 118 < h.1) : zq_al h 118 0 = some (pz_j h 118 0) := if_pos ⟨hh, rfl, by decide⟩
theorem z_cmp (v : Int64) : lg_cmp v v = 0 := by simp [lg_cmp]
theorem z_ck (hh : 104 < h.1) {α : Type} {f : Unit → Option α} : zq_ck h 104 6 f = f () := pz_ck hh rfl
theorem z_ck0 (hh : 104 < h.1) {α : Type} {f : Unit → Option α} : zq_ck h 0 5 f = f () := pz_ck (by omega) rfl
theorem z_thr (hh : 104 < h.1) : f_X6_thrown h 104 = some (pz_i h 104 7) := by
  unfold f_X6_thrown
  rw [pz_gi (c := 6) hh rfl, Option.bind_some]
theorem law_step (I : pz_LI h A) {R : pz_R1} {cd : Nat → Int32} {X5 : Option ((Int32 × zq_H) ⊕ (Nat × zq_H))} {lw : ((Int32 × zq_H) ⊕ (Nat × zq_H)) → Option (Int32 × zq_H)} {fm : zq_H → Option (Int32 × zq_H)} {i i' : Int32} (hi : i + 4 = i')
    (hc : ∃ o, X5 = some o ∧ pz_oc h A R o) (hm : ∀ h1, pz_M h1 A → ∃ o, fm h1 = some o ∧ pz_om cd h1 A R o)
    (l1 : ∀ q, lw (.inl q) = (zq_sL q.2 118 0 (q.1 : Int32).toInt64).bind fun h_5 => some ((0, h_5))) (l2 : ∀ k q, R = .inr k → lw (.inr (k, q)) = some (cd k, q) ∧ ¬ cd k = 0) :
    ∃ s', (Option.bind (Option.bind X5 lw) fun v_35 => (zq_ck v_35.2 104 6 fun _ => (Option.bind (fm v_35.2) fun v_39 => (zq_ck v_39.2 104 6 fun _ => (Option.bind (f_X6_thrown v_39.2 104) fun v_42 => (if v_42 = v_35.1 then (if v_35.1 = 0 then (Option.bind (zq_al v_39.2 118 0) fun v_49 => (if (lg_cmp v_49 (v_39.1 : Int32).toInt64) = 0 then (zq_let (i + 4) fun v_52 => some ((Sum.inl (v_52, v_39.2)) : (Int32 × zq_H) ⊕ (zq_H ⊕ Int32))) else some (.inr (.inr (0 : Int32))))) else (zq_let (i + 4) fun v_47 => some (.inl (v_47, v_39.2)))) else some (.inr (.inr (0 : Int32))))))))) = some (.inl s') ∧ s'.1 = i' ∧ ∃ A', pz_LI s'.2 A' := by
  obtain ⟨n1, C, M⟩ := I
  obtain ⟨o, o1, o2⟩ := hc
  cases R with
  | inl r =>
    obtain ⟨h1, e1, e2, e3⟩ := o2
    have s1 : h1.1 = 119 := by rw [e3.1]; exact n1
    generalize hh2 : pz_L h1 118 0 (r.1 : Int32).toInt64 = h2
    have s2 : h2.1 = 119 := by rw [← hh2]; exact s1
    have M1 : pz_M h1 A := M.kc e3
    have M2 : pz_M h2 A := by rw [← hh2]; exact M1
    have C2 : pz_C h2 r.2 := by rw [← hh2]; exact e2
    have j2 : pz_j h2 118 0 = (r.1 : Int32).toInt64 := by rw [← hh2, pz_L_j, if_pos ⟨rfl, rfl⟩]
    obtain ⟨⟨v, h3⟩, p1, p2, p3, p4, p5⟩ := hm h2 M2
    simp only at p2 p3 p4 p5
    subst p2
    have s3 : h3.1 = 119 := by rw [p5.1]; exact s2
    have j3 : pz_j h3 118 0 = (r.1 : Int32).toInt64 := by rw [pz_ag.j p5 (t := 118) (by omega)]; exact j2
    rw [o1, Option.bind_some, e1, l1, z_sL (h := h1) (by omega), Option.bind_some, hh2, Option.bind_some, z_ck (h := h2) (by omega), p1, Option.bind_some, z_ck (h := h3) (by omega), z_thr (h := h3) (by omega), Option.bind_some, p3, if_pos rfl, if_pos rfl, z_aL (h := h3) (by omega), Option.bind_some, j3, z_cmp, if_pos rfl]
    exact ⟨(i + 4, h3), rfl, hi, r.2, s3, C2.km p5, p4⟩
  | inr k =>
    obtain ⟨h1, e1, e2, e3⟩ := o2
    obtain ⟨l3, l4⟩ := l2 k h1 rfl
    have s1 : h1.1 = 119 := by rw [e3.1]; exact n1
    obtain ⟨⟨v, h3⟩, p1, p2, p3, p4⟩ := hm h1 (M.kc e3)
    simp only at p2 p3 p4
    have s3 : h3.1 = 119 := by rw [p4.1]; exact s1
    rw [o1, Option.bind_some, e1, l3, Option.bind_some, z_ck (h := h1) (by omega), p1, Option.bind_some, z_ck (h := h3) (by omega), z_thr (h := h3) (by omega), Option.bind_some, p2, if_pos rfl, if_neg l4]
    exact ⟨(i + 4, h3), rfl, hi, A, s3, e2.km p4, p3⟩
theorem law_plain {γ : Type} (I : pz_LI h A) {A' : pz_A} {X5 : Option (γ × zq_H)} {fm : zq_H → Option (γ × zq_H)} {v : γ} {i i' : Int32} (hi : i + 4 = i') (hc : ∃ h1, X5 = some (v, h1) ∧ pz_C h1 A' ∧ pz_kc h h1) (hm : ∀ h1, pz_M h1 A → ∃ h2, fm h1 = some (v, h2) ∧ pz_M h2 A' ∧ pz_km h1 h2) {P : γ → γ → zq_H → Option ((Int32 × zq_H) ⊕ (zq_H ⊕ Int32))} (hP : ∀ h2, P v v h2 = some (.inl (i + 4, h2))) :
    ∃ s', (Option.bind X5 fun v_159 => (zq_ck v_159.2 104 6 fun _ => (Option.bind (fm v_159.2) fun v_162 => P v_159.1 v_162.1 v_162.2))) = some (.inl s') ∧ s'.1 = i' ∧ ∃ A', pz_LI s'.2 A' := by
  obtain ⟨n1, C, M⟩ := I
  obtain ⟨h1, e1, e2, e3⟩ := hc
  have s1 : h1.1 = 119 := by rw [e3.1]; exact n1
  obtain ⟨h2, p1, p2, p3⟩ := hm h1 (M.kc e3)
  have s2 : h2.1 = 119 := by rw [p3.1]; exact s1
  rw [e1, Option.bind_some, z_ck (h := h1) (by omega), p1, Option.bind_some, hP]
  exact ⟨(i + 4, h2), rfl, hi, A', s2, e2.km p3, p2⟩
theorem z_sx {L : Nat} {xs : Nat → Int32} {n j : Nat} (hL : L ≤ 2048) (hj : 4 * n + j < L) : zq_sx L xs (nI (4 * n) + nI j) = some (xs (4 * n + j)) := by
  unfold zq_sx
  rw [nI_add, if_pos (nI_in hj (by omega)), nI_clamp (by omega)]
theorem z_sx0 {L : Nat} {xs : Nat → Int32} {n : Nat} (hL : L ≤ 2048) (hj : 4 * n < L) : zq_sx L xs (nI (4 * n)) = some (xs (4 * n)) := by
  unfold zq_sx
  rw [if_pos (nI_in hj (by omega)), nI_clamp (by omega)]
end PZL1
