/-! the class' graphs: the table of slots -/
def pz_kz : Nat → Nat
  | 0 => 2
  | 1 => 4
  | 2 => 5
  | 3 => 7
  | 4 => 9
  | _ => 10
def pz_Hg (g t : Nat) : Prop := g < 6 ∧ zq_sh t = (0, 0) ∧ zq_sh (t + 9) = (10, pz_cn g) ∧ zq_sh (t + 10) = (10, pz_cn g * (g + 1)) ∧ zq_sh (t + 11) = (10, 2 ^ pz_kz g)
theorem pz_Hg_at : ∀ g, g < 6 → pz_Hg g (2 + 12 * g) := by
  unfold pz_Hg
  decide
theorem pz_kz_le : ∀ g, g < 6 → 2 ^ pz_kz g ≤ 1024 ∧ pz_cn g + 1 < 2 ^ pz_kz g := by decide
/-- what stays of a graph at t -/
def pz_Gs (h : zq_H) (t g : Nat) : Prop := pz_Hg g t ∧ t + 11 < h.1 ∧ pz_Pt h (t + 1) g ∧ (pz_r h t 0 = some (t + 1) ∧ pz_r h t 5 = some (t + 9) ∧ pz_r h t 6 = some (t + 10) ∧ pz_r h t 7 = some (t + 11)) ∧ pz_i h t 1 = nI (pz_cn g) ∧ pz_i h t 2 = nI (pz_cl g) ∧ pz_i h t 3 = nI (pz_di g) ∧ pz_i h t 4 = nI (g + 1)
def pz_hs (g : Nat) (x : Int32) : Nat := ((x * (-1640531535)).toUInt32 >>> ((16 : Int32).toUInt32 &&& Int32.toUInt32 31)).toInt32.toBitVec.toNat % 2 ^ pz_kz g
def pz_po (g : Nat) (x : Int32) (e : Nat) : Nat := (pz_hs g x + e) % 2 ^ pz_kz g
/-- f masks M are known, the slots sl tell where -/
def pz_HT (h : zq_H) (t g : Nat) (M sl : Nat → Nat) (f : Nat) : Prop :=
  f ≤ pz_cn g ∧ pz_i h t 8 = nI f ∧ (∀ i, i < f → pz_i h (t + 9) i = nI (M i) ∧ pz_T g (M i)) ∧ (∀ i j, i < f → j < f → M i = M j → i = j) ∧
  (∀ s, s < 2 ^ pz_kz g → pz_i h (t + 11) s = nI (sl s) ∧ sl s ≤ f) ∧ (∀ s s', s < 2 ^ pz_kz g → s' < 2 ^ pz_kz g → sl s ≠ 0 → sl s = sl s' → s = s') ∧
  ∀ i, i < f → ∃ e, e < 2 ^ pz_kz g - 1 ∧ sl (pz_po g (nI (M i)) e) = i + 1 ∧ ∀ e', e' < e → sl (pz_po g (nI (M i)) e') ≠ 0
/-- a list without doubles of numbers below n isn't longer than n -/
theorem pz_pig {l : List Nat} {n : Nat} (h : l.Nodup) (hn : ∀ x ∈ l, x < n) : l.length ≤ n := by
  have h1 : pz_ls l (fun _ => 1) = l.length := by
    clear h hn
    induction l with
    | nil => rfl
    | cons a l ih =>
      unfold pz_ls at ih ⊢
      rw [List.map_cons, List.sum_cons, ih, List.length_cons]
      omega
  have h2 := pz_ls_sm (N := n) (fun _ => 1) l hn
  have h3 : ∀ k, pz_sm (fun u => pz_ct u l * 1) k ≤ k := by
    intro k
    induction k with
    | zero => exact Nat.le_refl _
    | succ k ih =>
      unfold pz_sm
      have : pz_ct k l ≤ 1 := by
        by_cases e : k ∈ l
        · rw [pz_ct_nd h e]
          omega
        · rw [pz_ct_0 e]
          omega
      omega
  have := h3 n
  omega
theorem pz_pigf {f : Nat → Nat} {k n : Nat} (hi : ∀ i j, i < k → j < k → f i = f j → i = j) (hn : ∀ i, i < k → f i < n) : k ≤ n := by
  have h1 : ((List.range k).map f).Nodup := pz_nd_map List.nodup_range (fun a ha b hb => hi a b (List.mem_range.mp ha) (List.mem_range.mp hb))
  have h2 := pz_pig h1 (n := n) (fun x hx => by
    obtain ⟨a, ha, rfl⟩ := List.mem_map.mp hx
    exact hn a (List.mem_range.mp ha))
  simpa using h2
section PZHT
variable {h : zq_H} {t g f : Nat} {M sl : Nat → Nat}
theorem pz_po_lt (x : Int32) (e : Nat) : pz_po g x e < 2 ^ pz_kz g := Nat.mod_lt _ (Nat.pow_pos (by omega))
theorem pz_po_inj {x : Int32} {a b : Nat} (ha : a < 2 ^ pz_kz g) (hb : b < 2 ^ pz_kz g) (e : pz_po g x a = pz_po g x b) : a = b := by
  unfold pz_po at e
  have hN : 0 < 2 ^ pz_kz g := Nat.pow_pos (by omega)
  generalize 2 ^ pz_kz g = N at *
  generalize pz_hs g x = c at *
  rcases Nat.lt_trichotomy a b with h | h | h
  · exfalso
    have h1 : (c + b - (c + a)) % N = 0 := Nat.sub_mod_eq_zero_of_mod_eq e.symm
    rw [show c + b - (c + a) = b - a by omega, Nat.mod_eq_of_lt (by omega)] at h1
    omega
  · exact h
  · exfalso
    have h1 : (c + a - (c + b)) % N = 0 := Nat.sub_mod_eq_zero_of_mod_eq e
    rw [show c + a - (c + b) = a - b by omega, Nat.mod_eq_of_lt (by omega)] at h1
    omega
theorem pz_Gs.g6 (G : pz_Gs h t g) : g < 6 := G.1.1
theorem gq_0 (G : pz_Gs h t g) : zq_gr h t 0 0 = some (t + 1) := by rw [pz_gr (by have := G.2.1; omega) (by rw [G.1.2.1]), G.2.2.2.1.1]
theorem gq_5 (G : pz_Gs h t g) : zq_gr h t 0 5 = some (t + 9) := by rw [pz_gr (by have := G.2.1; omega) (by rw [G.1.2.1]), G.2.2.2.1.2.1]
theorem gq_6 (G : pz_Gs h t g) : zq_gr h t 0 6 = some (t + 10) := by rw [pz_gr (by have := G.2.1; omega) (by rw [G.1.2.1]), G.2.2.2.1.2.2.1]
theorem gq_7 (G : pz_Gs h t g) : zq_gr h t 0 7 = some (t + 11) := by rw [pz_gr (by have := G.2.1; omega) (by rw [G.1.2.1]), G.2.2.2.1.2.2.2]
theorem gq_1 (G : pz_Gs h t g) : zq_gi h t 0 1 = some (nI (pz_cn g)) := by rw [pz_gi (by have := G.2.1; omega) (by rw [G.1.2.1]), G.2.2.2.2.1]
theorem gq_2 (G : pz_Gs h t g) : zq_gi h t 0 2 = some (nI (pz_cl g)) := by rw [pz_gi (by have := G.2.1; omega) (by rw [G.1.2.1]), G.2.2.2.2.2.1]
theorem gq_3 (G : pz_Gs h t g) : zq_gi h t 0 3 = some (nI (pz_di g)) := by rw [pz_gi (by have := G.2.1; omega) (by rw [G.1.2.1]), G.2.2.2.2.2.2.1]
theorem gq_4 (G : pz_Gs h t g) : zq_gi h t 0 4 = some (nI (g + 1)) := by rw [pz_gi (by have := G.2.1; omega) (by rw [G.1.2.1]), G.2.2.2.2.2.2.2]
theorem gq_8 (G : pz_Gs h t g) (H : pz_HT h t g M sl f) : zq_gi h t 0 8 = some (nI f) := by rw [pz_gi (by have := G.2.1; omega) (by rw [G.1.2.1]), H.2.1]
theorem gq_ck {α : Type} {k : Unit → Option α} (G : pz_Gs h t g) : zq_ck h t 0 k = k () := pz_ck (by have := G.2.1; omega) (by rw [G.1.2.1])
theorem gq_ma (G : pz_Gs h t g) (H : pz_HT h t g M sl f) {i : Nat} (hi : i < f) : zq_ai h (t + 9) (nI i) = some (nI (M i)) := by
  have := pz_cn_le G.1.1
  have := H.1
  rw [pz_ai (by have := G.2.1; omega) G.1.2.2.1 (by omega) (by omega), (H.2.2.1 i hi).1]
theorem gq_sl (G : pz_Gs h t g) (H : pz_HT h t g M sl f) {s : Nat} (hs : s < 2 ^ pz_kz g) : zq_ai h (t + 11) (nI s) = some (nI (sl s)) := by
  have := pz_kz_le g G.1.1
  rw [pz_ai G.2.1 G.1.2.2.2.2 hs (by omega), (H.2.2.2.2.1 s hs).1]
theorem gq_an9 (G : pz_Gs h t g) : zq_an h (t + 9) = some (nI (pz_cn g)) := pz_an (by have := G.2.1; omega) G.1.2.2.1 (by omega) (by omega)
theorem gq_an11 (G : pz_Gs h t g) : zq_an h (t + 11) = some (nI (2 ^ pz_kz g)) := pz_an G.2.1 G.1.2.2.2.2 (by omega) (by omega)
theorem s_slotOf (G : pz_Gs h t g) (H : pz_HT h t g M sl f) {m : Nat} (hm : m < 134217728) : ∃ e, e < 2 ^ pz_kz g - 1 ∧ f_X0_slotOf h t (nI m) = some (nI (pz_po g (nI m) e)) ∧ (∀ e', e' < e → sl (pz_po g (nI m) e') ≠ 0) ∧ ((sl (pz_po g (nI m) e) = 0 ∧ ∀ i, i < f → M i ≠ m) ∨ ∃ i, i < f ∧ sl (pz_po g (nI m) e) = i + 1 ∧ M i = m) := by
  obtain ⟨hz1, hz2⟩ := pz_kz_le g G.1.1
  obtain ⟨c1, c2, c3, c4, c5, c6, c7⟩ := id H
  have hN : 0 < 2 ^ pz_kz g := Nat.pow_pos (by omega)
  generalize hp : (fun e => Nat.beq (sl (pz_po g (nI m) e)) 0 || Nat.beq (M (sl (pz_po g (nI m) e) - 1)) m) = p
  generalize he : pz_ff p (2 ^ pz_kz g - 1) 0 = e
  have hle := pz_ff_le p (2 ^ pz_kz g - 1) 0
  rw [he] at hle
  have hno : ∀ j, j < e → sl (pz_po g (nI m) j) ≠ 0 ∧ M (sl (pz_po g (nI m) j) - 1) ≠ m := by
    intro j hj
    have h1 := pz_ff_no p (2 ^ pz_kz g - 1) 0 j (by omega) (by rw [he]; exact hj)
    rw [← hp] at h1
    simp only [Bool.or_eq_false_iff] at h1
    exact ⟨fun q => by (rw [q] at h1; simp at h1), fun q => by (rw [q] at h1; simp at h1)⟩
  have hlt : e < 2 ^ pz_kz g - 1 := by
    rcases Nat.lt_or_ge e (2 ^ pz_kz g - 1) with q | q
    · exact q
    · exfalso
      have h1 := pz_pigf (f := fun j => sl (pz_po g (nI m) j) - 1) (k := 2 ^ pz_kz g - 1) (n := f) (fun i j hi hj hij => by
        have a1 := (hno i (by omega)).1
        have a2 := (hno j (by omega)).1
        exact pz_po_inj (by omega) (by omega) (c6 _ _ (pz_po_lt _ _) (pz_po_lt _ _) a1 (by omega))) (fun i hi => by
        have a1 := (hno i (by omega)).1
        have a2 := (c5 _ (pz_po_lt (nI m) i)).2
        show sl (pz_po g (nI m) i) - 1 < f
        omega)
      omega
  have hyes : sl (pz_po g (nI m) e) = 0 ∨ (sl (pz_po g (nI m) e) ≠ 0 ∧ M (sl (pz_po g (nI m) e) - 1) = m) := by
    have h1 := pz_ff_yes p (2 ^ pz_kz g - 1) 0 (by rw [he]; omega)
    rw [he, ← hp] at h1
    simp only [Bool.or_eq_true] at h1
    by_cases q : sl (pz_po g (nI m) e) = 0
    · exact Or.inl q
    · exact Or.inr ⟨q, h1.elim (fun r => absurd (Nat.eq_of_beq_eq_true r) q) (fun r => Nat.eq_of_beq_eq_true r)⟩
  refine ⟨e, hlt, ?_, fun e' h' => (hno e' h').1, ?_⟩
  · have hpo : ∀ j, nI (pz_po g (nI m) j + 1) &&& nI (2 ^ pz_kz g - 1) = nI (pz_po g (nI m) (j + 1)) := by
      intro j
      have := pz_po_lt (g := g) (nI m) j
      rw [pk_andN (by omega) (pz_kz g) (pk_tn (by omega))]
      unfold pz_po
      rw [Nat.mod_add_mod, Nat.add_assoc]
    have hms : ∀ j, j ≤ e → sl (pz_po g (nI m) j) ≠ 0 → zq_ai h (t + 9) (nI (sl (pz_po g (nI m) j)) - 1) = some (nI (M (sl (pz_po g (nI m) j) - 1))) := by
      intro j hj h0
      have h1 := (c5 _ (pz_po_lt (nI m) j)).2
      obtain ⟨i, hi⟩ : ∃ i, sl (pz_po g (nI m) j) = i + 1 := ⟨sl (pz_po g (nI m) j) - 1, by omega⟩
      rw [hi, nI_pred, gq_ma G H (by omega)]
      rfl
    have hMl : ∀ i, i < f → M i < 134217728 := fun i hi => pz_T_27 G.1.1 (c3 i hi).2
    have hsl : ∀ j, sl (pz_po g (nI m) j) ≤ f := fun j => (c5 _ (pz_po_lt (nI m) j)).2
    have hcn := pz_cn_le G.1.1
    unfold f_X0_slotOf
    rw [gq_7 G, Option.bind_some, gq_an11 G, Option.bind_some]
    simp only [zq_let]
    rw [show nI (2 ^ pz_kz g) - 1 = nI (2 ^ pz_kz g - 1) by rw [show (1 : Int32) = nI 1 from rfl, pk_sub (by omega)]]
    refine pz_lpB (fun j => (nI (pz_po g (nI m) j), nI j)) e (r := Sum.inr (nI (pz_po g (nI m) e))) rfl ?_ ?_ ?_ (by omega)
    · show (_, _) = (_, _)
      refine Prod.ext ?_ rfl
      show _ = nI (pz_po g (nI m) 0)
      rw [pk_and _ (pz_kz g) (pk_tn (by omega))]
      unfold pz_po pz_hs
      rw [Nat.add_zero, Nat.mod_mod]
    · intro j hj
      obtain ⟨b1, b2⟩ := hno j hj
      have b3 := hsl j
      rw [if_neg (show ¬ nI (2 ^ pz_kz g - 1) ≤ nI j from nI_ge (by omega) (by omega))]
      simp only [Option.bind_some, gq_sl G H (pz_po_lt (nI m) j), gq_5 G]
      rw [if_neg (nI_ne0 (by omega) (by omega)), hms j (by omega) b1, Option.bind_some, if_neg (by rw [nI_eq (by have := hMl (sl (pz_po g (nI m) j) - 1) (by omega); omega) (by omega)]; exact b2)]
      simp only [nI_1, hpo]
    · have b3 := hsl e
      rw [if_neg (show ¬ nI (2 ^ pz_kz g - 1) ≤ nI e from nI_ge (by omega) (by omega))]
      simp only [Option.bind_some, gq_sl G H (pz_po_lt (nI m) e), gq_5 G]
      rcases hyes with q | ⟨q1, q2⟩
      · rw [q]
        exact if_pos (show nI 0 = 0 from rfl)
      · rw [if_neg (nI_ne0 (by omega) (by omega)), hms e (by omega) q1, Option.bind_some, if_pos (by rw [q2])]
  · rcases hyes with q | ⟨q1, q2⟩
    · refine Or.inl ⟨q, fun i hi hM => ?_⟩
      obtain ⟨e1, k1, k2, k3⟩ := c7 i hi
      rw [hM] at k2 k3
      rcases Nat.lt_trichotomy e e1 with r | r | r
      · exact k3 e r q
      · rw [r] at q; omega
      · have := (hno e1 r).2
        rw [k2] at this
        exact this hM
    · have := (c5 _ (pz_po_lt (nI m) e)).2
      exact Or.inr ⟨sl (pz_po g (nI m) e) - 1, by omega, by omega, q2⟩
end PZHT
