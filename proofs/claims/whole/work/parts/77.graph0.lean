/-! a graph is made; pieces of the constructor -/
section PZG0
variable {h : zq_H} {t g : Nat}
theorem pz_Pt.gw {h' : zq_H} {n : Nat} (P : pz_Pt h t g) (l : pz_gw n h h') (ht : t + 7 < n) : pz_Pt h' t g := by
  have P1 : pz_Pt (h'.1, h.2) t g := ⟨P.1, Nat.lt_of_lt_of_le P.2.1 l.1, P.2.2⟩
  exact P1.ag (Q := fun a => a < n) ⟨rfl, fun a ha j => l.2 a ha j⟩ (fun i hi => by show t + i < n; omega)
theorem pz_Gs.gw {h' : zq_H} {n : Nat} (G : pz_Gs h t g) (l : pz_gw n h h') (ht : t + 11 < n) : pz_Gs h' t g := by
  obtain ⟨a1, a2, a3, ⟨b1, b2, b3, b4⟩, a5, a6, a7, a8⟩ := G
  refine ⟨a1, Nat.lt_of_lt_of_le a2 l.1, a3.gw l (by omega), ⟨?_, ?_, ?_, ?_⟩, ?_, ?_, ?_, ?_⟩
  · rw [l.r (by omega)]; exact b1
  · rw [l.r (by omega)]; exact b2
  · rw [l.r (by omega)]; exact b3
  · rw [l.r (by omega)]; exact b4
  · rw [l.i (by omega)]; exact a5
  · rw [l.i (by omega)]; exact a6
  · rw [l.i (by omega)]; exact a7
  · rw [l.i (by omega)]; exact a8
theorem pz_Gf.gw {h' : zq_H} {n : Nat} (F : pz_Gf h t g) (l : pz_gw n h h') (ht : t + 11 < n) : pz_Gf h' t g :=
  ⟨by rw [l.i (by omega)]; exact F.1, fun s hs => by rw [l.i (by omega)]; exact F.2 s hs⟩
theorem pz_Gb.gw {h' : zq_H} {n : Nat} {M sl : Nat → Nat} (B : pz_Gb h t g M sl) (l : pz_gw n h h') (ht : t + 11 < n) : pz_Gb h' t g M sl := by
  have B1 : pz_Gb (h'.1, h.2) t g M sl := B
  exact B1.ag (Q := fun a => a < n) ⟨rfl, fun a ha j => l.2 a ha j⟩ (fun i hi => by show t + i < n; omega)
def pz_sb (c : Int32) (s : Int32 × Int32) : Option ((Int32 × Int32) ⊕ Int32) := if 16 ≤ s.2 then some (.inr s.1) else if 2 * c ≤ s.1 then some (.inr s.1) else some (.inl (2 * s.1, s.2 + 1))
theorem pz_sb1 : ∀ g, g < 6 → ∀ i, i < pz_kz g - 2 → pz_sb (nI (pz_cn g)) (nI (4 * 2 ^ i), nI i) = some (.inl (nI (4 * 2 ^ (i + 1)), nI (i + 1))) := by decide +kernel
theorem pz_sb2 : ∀ g, g < 6 → pz_sb (nI (pz_cn g)) (nI (4 * 2 ^ (pz_kz g - 2)), nI (pz_kz g - 2)) = some (.inr (nI (2 ^ pz_kz g))) ∧ pz_kz g < 11 := by decide +kernel
theorem s_slotsFor (hg : g < 6) : f_X0_slotsFor h (nI (pz_cn g)) = some (nI (2 ^ pz_kz g)) := by
  unfold f_X0_slotsFor
  refine pz_lpB (fun i => (nI (4 * 2 ^ i), nI i)) (pz_kz g - 2) (r := nI (2 ^ pz_kz g)) rfl rfl ?_ ?_ (by have := (pz_sb2 g hg).2; omega)
  · intro i hi
    exact pz_sb1 g hg i hi
  · exact (pz_sb2 g hg).1
theorem pz_st_I : ∀ g, g < 6 → nI (g + 4) - 4 = nI g ∧ nI (g + 4) - 3 = nI (g + 1) ∧ zq_st 0 (nI g) = some (nI (pz_cn g)) ∧ zq_st 1 (nI g) = some (nI (pz_cl g)) ∧ zq_st 2 (nI g) = some (nI (pz_di g)) ∧ pz_cn g * (g + 1) ≤ 2574 := by decide +kernel
theorem s_ofCorners (hg : g < 6) {i v : Nat} (hv : zq_st i (nI g) = some (nI v)) : f_X0_ofCorners h i (nI (g + 4)) = some (nI v) := by
  unfold f_X0_ofCorners
  rw [(pz_st_I g hg).1]
  simp only [zq_let]
  have q6 : ¬ nI 6 ≤ nI g := nI_ge hg (by omega)
  have q7 : ¬ (6 : Int32) ≤ nI g := q6
  rw [if_neg (nI_pos (by omega)), if_neg q7, hv]
  rfl
theorem s_graph (S : pz_Hg g t) (h1 : h.1 = t + 9) (P : pz_Pt h (t + 1) g) (hz : pz_i h t 8 = 0) : ∃ h', f_X0_init h t (t + 1) = some h' ∧ pz_Gs h' t g ∧ pz_Gf h' t g ∧ h'.1 = t + 12 ∧ pz_gw t h h' := by
  have hg := S.1
  obtain ⟨s0, s1, s2, s3, s4⟩ := id S
  have hcn := pz_cn_le hg
  have hkz := pz_kz_le g hg
  obtain ⟨i1, i2, i3, i4, i5, i6⟩ := pz_st_I g hg
  have c0 : (zq_sh t).1 = 0 := by rw [s1]
  generalize hk2 : pz_S (pz_S (pz_S (pz_S (pz_R h t 0 (t + 1)) t 1 (nI (pz_cn g))) t 2 (nI (pz_cl g))) t 3 (nI (pz_di g))) t 4 (nI (g + 1)) = k2
  have a2 : k2.1 = t + 9 := by rw [← hk2]; exact h1
  have b2 : pz_i k2 t 1 = nI (pz_cn g) ∧ pz_i k2 t 2 = nI (pz_cl g) ∧ pz_i k2 t 3 = nI (pz_di g) ∧ pz_i k2 t 4 = nI (g + 1) ∧ pz_i k2 t 8 = 0 := by
    rw [← hk2]
    simp only [pz_S_i, pz_R_i]
    simp [hz]
  have b2r : pz_r k2 t 0 = some (t + 1) := by rw [← hk2]; simp [pz_S_r, pz_R_r]
  have agq : pz_ag (fun a => a ≠ t) h k2 := by
    rw [← hk2]
    exact (((pz_ag.R (by simp)).tr (pz_ag.S (by simp))).tr (pz_ag.S (by simp))).tr ((pz_ag.S (by simp)).tr (pz_ag.S (by simp)))
  have P2 : pz_Pt k2 (t + 1) g := P.ag agq (fun i hi => by show t + 1 + i ≠ t; omega)
  have l2 : pz_gw t h k2 := ⟨by rw [agq.1]; exact Nat.le_refl _, fun x hx j => agq.2 x (by omega) j⟩
  generalize hk4 : pz_R (zq_new k2 (t + 9)) t 5 (t + 9) = k4
  have a4 : k4.1 = t + 10 := by rw [← hk4]; rfl
  have b4 : ∀ j, pz_i k4 t j = pz_i k2 t j := fun j => by rw [← hk4, pz_R_i, zn_i, if_neg (by omega)]
  have l4 : pz_gw t k2 k4 := by rw [← hk4]; exact (pz_gw.new a2 (by omega)).tr (pz_gw.R (Nat.le_refl _))
  generalize hk6 : pz_R (zq_new k4 (t + 10)) t 6 (t + 10) = k6
  have a6 : k6.1 = t + 11 := by rw [← hk6]; rfl
  have b6 : ∀ j, pz_i k6 t j = pz_i k2 t j := fun j => by rw [← hk6, pz_R_i, zn_i, if_neg (by omega), b4]
  have l6 : pz_gw t k4 k6 := by rw [← hk6]; exact (pz_gw.new a4 (by omega)).tr (pz_gw.R (Nat.le_refl _))
  generalize hk8 : pz_R (zq_new k6 (t + 11)) t 7 (t + 11) = k8
  have a8 : k8.1 = t + 12 := by rw [← hk8]; rfl
  have b8 : ∀ j, pz_i k8 t j = pz_i k2 t j := fun j => by rw [← hk8, pz_R_i, zn_i, if_neg (by omega), b6]
  have l8 : pz_gw t k6 k8 := by rw [← hk8]; exact (pz_gw.new a6 (by omega)).tr (pz_gw.R (Nat.le_refl _))
  have z11 : ∀ j, pz_i k8 (t + 11) j = 0 := fun j => by rw [← hk8, pz_R_i, zn_i, if_pos rfl]
  have rr : pz_r k8 t 0 = some (t + 1) ∧ pz_r k8 t 5 = some (t + 9) ∧ pz_r k8 t 6 = some (t + 10) ∧ pz_r k8 t 7 = some (t + 11) := by
    rw [← hk8, ← hk6, ← hk4]
    simp [pz_R_r, zn_r, b2r]
  have g28 : ∀ x, x < t + 9 → x ≠ t → ∀ j, pz_i k8 x j = pz_i k2 x j ∧ pz_j k8 x j = pz_j k2 x j ∧ pz_r k8 x j = pz_r k2 x j := fun x hx hx2 j => by
    rw [← hk8, ← hk6, ← hk4]
    simp only [pz_R_i, pz_R_j, pz_R_r, zn_i, zn_j, zn_r]
    rw [if_neg (by omega), if_neg (by omega), if_neg (by omega), if_neg (by omega), if_neg (by omega), if_neg (by omega), if_neg (by omega), if_neg (by omega), if_neg (by omega), if_neg (by omega), if_neg (by omega), if_neg (by omega)]
    exact ⟨rfl, rfl, rfl⟩
  have P8 : pz_Pt k8 (t + 1) g := by
    have P7 : pz_Pt (k8.1, k2.2) (t + 1) g := ⟨P2.1, by show t + 1 + 7 < k8.1; omega, P2.2.2⟩
    exact P7.ag (Q := fun a => a < t + 9 ∧ a ≠ t) ⟨rfl, fun a ha j => g28 a ha.1 ha.2 j⟩ (fun i hi => by show t + 1 + i < t + 9 ∧ t + 1 + i ≠ t; omega)
  refine ⟨k8, ?_, ⟨S, by omega, P8, rr, by rw [b8]; exact b2.1, by rw [b8]; exact b2.2.1, by rw [b8]; exact b2.2.2.1, by rw [b8]; exact b2.2.2.2.1⟩, ⟨by rw [b8]; exact b2.2.2.2.2, fun s _ => z11 s⟩, a8, ((l2.tr l4).tr l6).tr l8⟩
  have PR : pz_Pt (pz_R h t 0 (t + 1)) (t + 1) g := P.ag (Q := fun a => a ≠ t) (pz_ag.R (by simp)) (fun i hi => by show t + 1 + i ≠ t; omega)
  have P1 : pz_Pt (pz_S (pz_R h t 0 (t + 1)) t 1 (nI (pz_cn g))) (t + 1) g := PR.ag (Q := fun a => a ≠ t) (pz_ag.S (by simp)) (fun i hi => by show t + 1 + i ≠ t; omega)
  have P2' : pz_Pt (pz_S (pz_S (pz_R h t 0 (t + 1)) t 1 (nI (pz_cn g))) t 2 (nI (pz_cl g))) (t + 1) g := P1.ag (Q := fun a => a ≠ t) (pz_ag.S (by simp)) (fun i hi => by show t + 1 + i ≠ t; omega)
  have P3 : pz_Pt (pz_S (pz_S (pz_S (pz_R h t 0 (t + 1)) t 1 (nI (pz_cn g))) t 2 (nI (pz_cl g))) t 3 (nI (pz_di g))) (t + 1) g := P2'.ag (Q := fun a => a ≠ t) (pz_ag.S (by simp)) (fun i hi => by show t + 1 + i ≠ t; omega)
  unfold f_X0_init
  rw [pz_pr (by omega) c0, Option.bind_some, pq_0 PR, Option.bind_some, s_ofCorners hg i3, Option.bind_some, pz_pi (by rw [pz_R_1]; omega) c0, Option.bind_some, pq_0 P1, Option.bind_some, s_ofCorners hg i4, Option.bind_some, pz_pi (by rw [pz_S_1, pz_R_1]; omega) c0, Option.bind_some, pq_0 P2', Option.bind_some, s_ofCorners hg i5, Option.bind_some, pz_pi (by rw [pz_S_1, pz_S_1, pz_R_1]; omega) c0, Option.bind_some, pq_0 P3, Option.bind_some, i2, pz_pi (by rw [pz_S_1, pz_S_1, pz_S_1, pz_R_1]; omega) c0, Option.bind_some, hk2, pz_gi (by omega) c0, b2.1, Option.bind_some, zn_a (B := 429) a2 s2 hcn.1 (by omega), Option.bind_some, pz_pr (by rw [zn_1]; omega) c0, Option.bind_some, hk4, pz_gi (by omega) c0, b4, b2.1, Option.bind_some, pz_gi (by omega) c0, b4, b2.2.2.2.1, Option.bind_some, pk_mul, zn_a (B := 2574) a4 s3 i6 (by omega), Option.bind_some, pz_pr (by rw [zn_1]; omega) c0, Option.bind_some, hk6, pz_gi (by omega) c0, b6, b2.1, Option.bind_some, s_slotsFor hg, Option.bind_some, zn_a (B := 1024) a6 s4 hkz.1 (by omega), Option.bind_some, pz_pr (by rw [zn_1]; omega) c0, Option.bind_some, hk8]
end PZG0
