/-- a table of functions changed at one place -/
def zq_up {α : Type} (f : Nat → Nat → α) (t j : Nat) (v : α) : Nat → Nat → α := fun a b => if a = t ∧ b = j then v else f a b
def zq_row {α : Type} (f : Nat → Nat → α) (t : Nat) (v : α) : Nat → Nat → α := fun a b => if a = t then v else f a b
def zq_gi (h : zq_H) (t c j : Nat) : Option Int32 := if t < h.1 ∧ (zq_sh t).1 = c then some (h.2.1 t j) else none
def zq_gl (h : zq_H) (t c j : Nat) : Option Int64 := if t < h.1 ∧ (zq_sh t).1 = c then some (h.2.2.1 t j) else none
def zq_gr (h : zq_H) (t c j : Nat) : Option Nat := if t < h.1 ∧ (zq_sh t).1 = c then h.2.2.2 t j else none
def zq_gq (h : zq_H) (t c j : Nat) : Option (Option Nat) := if t < h.1 ∧ (zq_sh t).1 = c then some (h.2.2.2 t j) else none
def zq_pi (h : zq_H) (t c j : Nat) (v : Int32) : Option zq_H := if t < h.1 ∧ (zq_sh t).1 = c then some (h.1, zq_up h.2.1 t j v, h.2.2) else none
def zq_pl (h : zq_H) (t c j : Nat) (v : Int64) : Option zq_H := if t < h.1 ∧ (zq_sh t).1 = c then some (h.1, h.2.1, zq_up h.2.2.1 t j v, h.2.2.2) else none
def zq_pr (h : zq_H) (t c j : Nat) (v : Nat) : Option zq_H := if t < h.1 ∧ (zq_sh t).1 = c then some (h.1, h.2.1, h.2.2.1, zq_up h.2.2.2 t j (some v)) else none
def zq_ai (h : zq_H) (a : Nat) (i : Int32) : Option Int32 := if a < h.1 ∧ (zq_sh a).1 = 10 ∧ ¬ (i < 0 ∨ (zq_sh a).2 ≤ i.toNatClampNeg) then some (h.2.1 a i.toNatClampNeg) else none
def zq_al (h : zq_H) (a : Nat) (i : Int32) : Option Int64 := if a < h.1 ∧ (zq_sh a).1 = 11 ∧ ¬ (i < 0 ∨ (zq_sh a).2 ≤ i.toNatClampNeg) then some (h.2.2.1 a i.toNatClampNeg) else none
def zq_aq (h : zq_H) (a c : Nat) (i : Int32) : Option Nat := if a < h.1 ∧ (zq_sh a).1 = c ∧ ¬ (i < 0 ∨ (zq_sh a).2 ≤ i.toNatClampNeg) then h.2.2.2 a i.toNatClampNeg else none
def zq_si (h : zq_H) (a : Nat) (i v : Int32) : Option zq_H := if a < h.1 ∧ (zq_sh a).1 = 10 ∧ ¬ (i < 0 ∨ (zq_sh a).2 ≤ i.toNatClampNeg) then some (h.1, zq_up h.2.1 a i.toNatClampNeg v, h.2.2) else none
def zq_sL (h : zq_H) (a : Nat) (i : Int32) (v : Int64) : Option zq_H := if a < h.1 ∧ (zq_sh a).1 = 11 ∧ ¬ (i < 0 ∨ (zq_sh a).2 ≤ i.toNatClampNeg) then some (h.1, h.2.1, zq_up h.2.2.1 a i.toNatClampNeg v, h.2.2.2) else none
def zq_sq (h : zq_H) (a c co : Nat) (i : Int32) (v : Nat) : Option zq_H := if a < h.1 ∧ (zq_sh a).1 = c ∧ ¬ (i < 0 ∨ (zq_sh a).2 ≤ i.toNatClampNeg) ∧ v < h.1 ∧ (zq_sh v).1 = co then some (h.1, h.2.1, h.2.2.1, zq_up h.2.2.2 a i.toNatClampNeg (some v)) else none
def zq_an (h : zq_H) (a : Nat) : Option Int32 := if a < h.1 ∧ 10 ≤ (zq_sh a).1 ∧ (zq_sh a).1 ≤ 13 then some (nI (zq_sh a).2) else none
/-- a new cell at the place n, all zero -/
def zq_new (h : zq_H) (n : Nat) : zq_H := (n + 1, zq_row h.2.1 n 0, zq_row h.2.2.1 n 0, zq_row h.2.2.2 n none)
def zq_nw1 (h : zq_H) (n c : Nat) : Option zq_H := if h.1 = n ∧ (zq_sh n).1 = c then some (zq_new h n) else none
def zq_na (h : zq_H) (n c B : Nat) (x : Int32) : Option zq_H := if h.1 = n ∧ (zq_sh n).1 = c ∧ ¬ x < 0 ∧ x.toNatClampNeg = (zq_sh n).2 ∧ (zq_sh n).2 ≤ B then some (zq_new h n) else none
/-- a static array's place -/
def zq_st (i : Nat) (x : Int32) : Option Int32 := if ¬ (x < 0 ∨ 6 ≤ x.toNatClampNeg) then some ((zq_tab i).getD x.toNatClampNeg 0) else none
theorem zq_up_same {α : Type} (f : Nat → Nat → α) (t j : Nat) (v : α) : zq_up f t j v t j = v := by simp [zq_up]
theorem zq_up_o {α : Type} (f : Nat → Nat → α) {t a : Nat} (j : Nat) (v : α) (h : a ≠ t) : zq_up f t j v a = f a := by funext b; simp [zq_up, h]
theorem zq_up_j {α : Type} (f : Nat → Nat → α) (t : Nat) {j b : Nat} (v : α) (h : b ≠ j) : zq_up f t j v t b = f t b := by simp [zq_up, h]
theorem zq_up_t {α : Type} (f : Nat → Nat → α) (t j : Nat) (v : α) : zq_up f t j v t = fun b => if b = j then v else f t b := by funext b; simp [zq_up]
theorem zq_row_o {α : Type} (f : Nat → Nat → α) {t a : Nat} (v : α) (h : a ≠ t) : zq_row f t v a = f a := by funext b; simp [zq_row, h]
theorem zq_row_t {α : Type} (f : Nat → Nat → α) (t : Nat) (v : α) : zq_row f t v t = fun _ => v := by funext b; simp [zq_row]
theorem zq_fs_get {c s0 : Nat} {h : zq_H} {t j k : Nat} (hk : (zq_fk c)[j]? = some k) : (zq_fs c s0 h t)[j]? = some (zq_fv s0 h t j k) := by
  simp [zq_fs, List.getElem?_mapIdx, hk]
theorem zq_fs_len (c s0 : Nat) (h : zq_H) (t : Nat) : (zq_fs c s0 h t).length = (zq_fk c).length := by simp [zq_fs]
theorem zq_fs_set {c s0 : Nat} {h h' : zq_H} {t j k : Nat} (hk : (zq_fk c)[j]? = some k) (ho : ∀ i k2, i ≠ j → zq_fv s0 h' t i k2 = zq_fv s0 h t i k2) : zq_fs c s0 h' t = (zq_fs c s0 h t).set j (zq_fv s0 h' t j k) := by
  have hj : j < (zq_fk c).length := (List.getElem?_eq_some_iff.mp hk).1
  apply List.ext_getElem?
  intro i
  by_cases hi : i = j
  · subst hi
    rw [zq_fs_get hk, List.getElem?_set_self (by rw [zq_fs_len]; exact hj)]
  · rw [List.getElem?_set_ne (Ne.symm hi)]
    simp only [zq_fs, List.getElem?_mapIdx]
    cases (zq_fk c)[i]? with
    | none => rfl
    | some k2 => simp only [Option.map_some, ho i k2 hi]
theorem zq_cell_cong {E : zq_E} {h h' : zq_H} {t : Nat} (h1 : h'.2.1 t = h.2.1 t) (h2 : h'.2.2.1 t = h.2.2.1 t) (h3 : h'.2.2.2 t = h.2.2.2 t) : zq_cell E h' t = zq_cell E h t := by
  simp only [zq_cell, zq_fs, zq_fv, h1, h2, h3]
theorem zq_cell_o {E : zq_E} {h : zq_H} {t c : Nat} (hc : (zq_sh t).1 = c) (hlt : c < 10) : zq_cell E h t = .inr (c, zq_fs c E.2.2.1 h t) := by
  subst hc
  unfold zq_cell
  rw [if_neg (by omega), if_neg (by omega), if_neg (by omega), if_neg (by omega)]
theorem zq_cell_i {E : zq_E} {h : zq_H} {t : Nat} (hc : (zq_sh t).1 = 10) : zq_cell E h t = .inl (E.2.1 0, (zq_sh t).2, .inl (h.2.1 t)) := by
  unfold zq_cell
  rw [if_pos hc]
theorem zq_cell_l {E : zq_E} {h : zq_H} {t : Nat} (hc : (zq_sh t).1 = 11) : zq_cell E h t = .inl (E.2.1 1, (zq_sh t).2, .inr (.inl (h.2.2.1 t))) := by
  unfold zq_cell
  rw [if_neg (by omega), if_pos hc]
theorem zq_cell_q {E : zq_E} {h : zq_H} {t c : Nat} (hc : (zq_sh t).1 = c) (h2 : c = 12 ∨ c = 13) : zq_cell E h t = .inl (E.2.1 (c - 10), (zq_sh t).2, .inr (.inr (.inr (.inr (fun j => (h.2.2.2 t j).map (E.2.2.1 + ·)))))) := by
  unfold zq_cell
  rcases h2 with h2 | h2
  · subst h2
    rw [if_neg (by omega), if_neg (by omega), if_pos hc]
  · subst h2
    rw [if_neg (by omega), if_neg (by omega), if_neg (by omega), if_pos hc]
/-- a class's numbers, names and types -/
def zq_K (ci : Nat) (Cn : String) (T : u_T) (N : Nat) (ty : Nat → FieldType) : Prop :=
  vwCl[ci]? = some (Cn, T, N) ∧ (∀ k, k < N → parseFieldDescriptor (T k).2.2.1 = some (ty k)) ∧ (∀ a, a < N → ∀ b, b < N → a ≠ b → (T a).2.1 ≠ (T b).2.1) ∧ ci < 10 ∧ (zq_fk ci).length = N ∧
  (∀ j, j < N → defaultValue (ty j) = zq_fv 0 (0, fun _ _ => 0, fun _ _ => 0, fun _ _ => none) 0 j ((zq_fk ci).getD j 9))
theorem zq_K0 : zq_K 0 RX0 TX0 9 tyX0 := ⟨rfl, tyX0_ok, nmX0, by decide, rfl, by decide +kernel⟩
theorem zq_K1 : zq_K 1 RX1 TX1 9 tyX1 := ⟨rfl, tyX1_ok, nmX1, by decide, rfl, by decide +kernel⟩
theorem zq_K2 : zq_K 2 RX2 TX2 6 tyX2 := ⟨rfl, tyX2_ok, nmX2, by decide, rfl, by decide +kernel⟩
theorem zq_K3 : zq_K 3 RX3 TX3 5 tyX3 := ⟨rfl, tyX3_ok, nmX3, by decide, rfl, by decide +kernel⟩
theorem zq_K4 : zq_K 4 RX4 TX4 2 tyX4 := ⟨rfl, tyX4_ok, nmX4, by decide, rfl, by decide +kernel⟩
theorem zq_K5 : zq_K 5 RX5 TX5 11 tyX5 := ⟨rfl, tyX5_ok, nmX5, by decide, rfl, by decide +kernel⟩
theorem zq_K6 : zq_K 6 RX6 TX6 22 tyX6 := ⟨rfl, tyX6_ok, nmX6, by decide, rfl, by decide +kernel⟩
/-- how a field is linked: in its own class (inl), or by a nest mate (inr) -/
def zq_lk (own : String) (Ts : List Cond) (ix : Nat) (f : String × String × String × Bool) : Prop :=
  Cond.fieldLink own ix f.1 f.2.1 f.2.2.1 ∈ Ts ∨ ∃ host, Cond.fieldLinkNest own ix f.1 f.2.1 f.2.2.1 host ∈ zq_nw
section ZQH
variable {X : zq_X} {own : String} {cc : ByteArray} {nL : Nat} {Ts : List Cond} {R0 : Room} {cells slots : Nat} {h h' : zq_H} {pc pc' : Nat} {lv lv' : List (Nat × Value)} {st : List Value}
variable {ci N ix t j k : Nat} {Cn : String} {T : u_T} {ty : Nat → FieldType}
theorem zq_getf (C : zq_C X own cc nL Ts R0) (K : zq_K ci Cn T N ty) (hin : ∀ w ∈ u_ws Cn T N, w ∈ Ts) (hl : zq_lk own Ts ix (T j)) (hj : j < N) (hk : (zq_fk ci)[j]? = some k) (ht : t < h.1 ∧ (zq_sh t).1 = ci) (d : decode cc pc = .ok (.getfield ix, 3)) (hpc : pc + 3 = pc') {w : Value} (hw : ∀ s0, zq_tr s0 w = zq_fv s0 h t j k) (kk : zq_W X cells slots h pc' lv (w :: st)) : zq_W X cells slots h pc lv (.ref t :: st) := by
  subst hpc
  obtain ⟨p, l, e, R, s, m, args, below, meth, c, Q, E⟩ := X
  obtain ⟨hx, hb, hml, hown, hts, hR, hK, hSF, hs0, hlocks, hst⟩ := C
  obtain ⟨hc, hty, hnm, hci, hlen, -⟩ := K
  intro H locs ls hI hL
  have hcell := zq_wl_get (E := E) ht.1
  rw [zq_cell_o ht.2 hci] at hcell
  have hv : (zq_fs ci E.2.2.1 h t)[j]? = some (zq_tr E.2.2.1 w) := by rw [zq_fs_get hk, hw]
  rcases hl with hl | ⟨host, hl⟩
  · exact va_get (D := E.1) (ci := ci) (C := Cn) (T := T) (N := N) hx hb hts hin hown hK hI.1 t hcell hc j hj (hts _ hl) (fun _ h9 => h9) hv d (kk H locs ls hI hL)
  · exact va_getN (D := E.1) (ci := ci) (C := Cn) (T := T) (N := N) hx hb hts hin hown hK hI.1 t hcell hc j hj (va_Nw.use rfl (hSF.1 _ hl)) (fun _ h9 => h9) hv d (kk H locs ls hI hL)
theorem zq_putf (C : zq_C X own cc nL Ts R0) (K : zq_K ci Cn T N ty) (hin : ∀ w ∈ u_ws Cn T N, w ∈ Ts) (hl : zq_lk own Ts ix (T j)) (hj : j < N) (hk : (zq_fk ci)[j]? = some k) (ht : t < h.1 ∧ (zq_sh t).1 = ci) (d : decode cc pc = .ok (.putfield ix, 3)) (hpc : pc + 3 = pc')
    (hf : (T j).2.2.2 = false ∨ (X.2.2.2.2.2.2.2.2.1.name = "<init>" ∧ (T j).1 = own ∧ (T j).2.2.2 = true ∧ Cond.fieldLink own ix (T j).1 (T j).2.1 (T j).2.2.1 ∈ Ts)) {w : Value} (hn : ∀ s0, narrow (ty j) (zq_tr s0 w) = zq_tr s0 w) (hfit : ∀ s0, fits (ty j) (zq_tr s0 w) = true)
    (h1 : h'.1 = h.1) (hw : ∀ s0, zq_tr s0 w = zq_fv s0 h' t j k) (ho : ∀ a, a ≠ t → h'.2.1 a = h.2.1 a ∧ h'.2.2.1 a = h.2.2.1 a ∧ h'.2.2.2 a = h.2.2.2 a) (hoj : ∀ s0 i k2, i ≠ j → zq_fv s0 h' t i k2 = zq_fv s0 h t i k2)
    (kk : zq_W X cells slots h' pc' lv st) : zq_W X cells slots h pc lv (w :: .ref t :: st) := by
  subst hpc
  obtain ⟨p, l, e, R, s, m, args, below, meth, c, Q, E⟩ := X
  obtain ⟨hx, hb, hml, hown, hts, hR, hK, hSF, hs0, hlocks, hst⟩ := C
  obtain ⟨hc, hty, hnm, hci, hlen, -⟩ := K
  intro H locs ls hI hL
  have hcell := zq_wl_get (E := E) ht.1
  rw [zq_cell_o ht.2 hci] at hcell
  have hws : zq_wl E h' = (zq_wl E h).set t (E.2.2.1 + t, .inr (ci, (zq_fs ci E.2.2.1 h t).set j (zq_tr E.2.2.1 w))) := by
    refine zq_wl_set h1 ht.1 ?_ (fun a ha => zq_cell_cong (ho a ha).1 (ho a ha).2.1 (ho a ha).2.2)
    rw [zq_cell_o ht.2 hci, zq_fs_set (h := h) hk (hoj E.2.2.1), hw]
  have hlt : j < (zq_fs ci E.2.2.1 h t).length := by rw [zq_fs_len, hlen]; exact hj
  rcases hf with hf | ⟨hin2, hdecl, hfin, hl2⟩
  · rcases hl with hl | ⟨host, hl⟩
    · exact va_put (D := E.1) (ci := ci) (C := Cn) (T := T) (N := N) hx hb hts hin ty hty hnm hown hK hI.1 (zq_wl_D E h) hI.2 t hcell hc j hj (hts _ hl) (fun _ h9 => h9) hf (hty j hj) (hn _) (hfit _) hlt d (fun H1 locs1 a1 _ a3 => kk H1 locs1 ls ⟨by rw [hws]; exact a1, a3⟩ hL)
    · exact va_putN (D := E.1) (ci := ci) (C := Cn) (T := T) (N := N) hx hb hts hin ty hty hnm hown hK hI.1 (zq_wl_D E h) hI.2 t hcell hc j hj (va_Nw.use rfl (hSF.1 _ hl)) (fun _ h9 => h9) hf (hty j hj) (hn _) (hfit _) hlt d (fun H1 locs1 a1 _ a3 => kk H1 locs1 ls ⟨by rw [hws]; exact a1, a3⟩ hL)
  · exact va_putF (D := E.1) (ci := ci) (C := Cn) (T := T) (N := N) hx hb hts hin ty hty hnm hown hK hI.1 (zq_wl_D E h) hI.2 t hcell hc j hj (hts _ hl2) (fun _ h9 => h9) hfin hin2 hdecl (hty j hj) (hn _) (hfit _) hlt d (fun H1 locs1 a1 _ a3 => kk H1 locs1 ls ⟨by rw [hws]; exact a1, a3⟩ hL)
theorem zq_getI (C : zq_C X own cc nL Ts R0) (K : zq_K ci Cn T N ty) (hin : ∀ w ∈ u_ws Cn T N, w ∈ Ts) (hl : zq_lk own Ts ix (T j)) (hj : j < N) (hk : (zq_fk ci)[j]? = some 0) (d : decode cc pc = .ok (.getfield ix, 3)) (hpc : pc + 3 = pc') {v : Int32} (hg : zq_gi h t ci j = some v) (kk : zq_W X cells slots h pc' lv (.int v :: st)) : zq_W X cells slots h pc lv (.ref t :: st) := by
  obtain ⟨h1, h2⟩ := zq_if1 hg
  cases h2
  exact zq_getf C K hin hl hj hk h1 d hpc (w := .int (h.2.1 t j)) (fun _ => rfl) kk
theorem zq_getL (C : zq_C X own cc nL Ts R0) (K : zq_K ci Cn T N ty) (hin : ∀ w ∈ u_ws Cn T N, w ∈ Ts) (hl : zq_lk own Ts ix (T j)) (hj : j < N) (hk : (zq_fk ci)[j]? = some 1) (d : decode cc pc = .ok (.getfield ix, 3)) (hpc : pc + 3 = pc') {v : Int64} (hg : zq_gl h t ci j = some v) (kk : zq_W X cells slots h pc' lv (.long v :: st)) : zq_W X cells slots h pc lv (.ref t :: st) := by
  obtain ⟨h1, h2⟩ := zq_if1 hg
  cases h2
  exact zq_getf C K hin hl hj hk h1 d hpc (w := .long (h.2.2.1 t j)) (fun _ => rfl) kk
theorem zq_getR (C : zq_C X own cc nL Ts R0) (K : zq_K ci Cn T N ty) (hin : ∀ w ∈ u_ws Cn T N, w ∈ Ts) (hl : zq_lk own Ts ix (T j)) (hj : j < N) (hk : (zq_fk ci)[j]? = some 2) (d : decode cc pc = .ok (.getfield ix, 3)) (hpc : pc + 3 = pc') {v : Nat} (hg : zq_gr h t ci j = some v) (kk : zq_W X cells slots h pc' lv (.ref v :: st)) : zq_W X cells slots h pc lv (.ref t :: st) := by
  obtain ⟨h1, h2⟩ := zq_if1 hg
  exact zq_getf C K hin hl hj hk h1 d hpc (w := .ref v) (fun s0 => by show _ = va_rf ((h.2.2.2 t j).map (s0 + ·)); rw [h2]; rfl) kk
theorem zq_getQ (C : zq_C X own cc nL Ts R0) (K : zq_K ci Cn T N ty) (hin : ∀ w ∈ u_ws Cn T N, w ∈ Ts) (hl : zq_lk own Ts ix (T j)) (hj : j < N) (hk : (zq_fk ci)[j]? = some 2) (d : decode cc pc = .ok (.getfield ix, 3)) (hpc : pc + 3 = pc') {v : Option Nat} (hg : zq_gq h t ci j = some v) (kk : zq_W X cells slots h pc' lv (zq_rv v :: st)) : zq_W X cells slots h pc lv (.ref t :: st) := by
  obtain ⟨h1, h2⟩ := zq_if1 hg
  cases h2
  exact zq_getf C K hin hl hj hk h1 d hpc (w := zq_rv (h.2.2.2 t j)) (fun s0 => zq_tr_rv s0 _) kk
theorem zq_putI (C : zq_C X own cc nL Ts R0) (K : zq_K ci Cn T N ty) (hin : ∀ w ∈ u_ws Cn T N, w ∈ Ts) (hl : zq_lk own Ts ix (T j)) (hj : j < N) (hk : (zq_fk ci)[j]? = some 0) (hty : ty j = .int) (d : decode cc pc = .ok (.putfield ix, 3)) (hpc : pc + 3 = pc')
    (hf : (T j).2.2.2 = false ∨ (X.2.2.2.2.2.2.2.2.1.name = "<init>" ∧ (T j).1 = own ∧ (T j).2.2.2 = true ∧ Cond.fieldLink own ix (T j).1 (T j).2.1 (T j).2.2.1 ∈ Ts)) {v : Int32} (hg : zq_pi h t ci j v = some h') (kk : zq_W X cells slots h' pc' lv st) : zq_W X cells slots h pc lv (.int v :: .ref t :: st) := by
  obtain ⟨h1, h2⟩ := zq_if1 hg
  cases h2
  refine zq_putf (h' := (h.1, zq_up h.2.1 t j v, h.2.2)) C K hin hl hj hk h1 d hpc hf (w := .int v) (fun _ => by rw [hty]; rfl) (fun _ => by rw [hty]; rfl) rfl (fun _ => ?_) (fun a ha => ⟨zq_up_o _ _ _ ha, rfl, rfl⟩) (fun s0 i k2 hi => ?_) kk
  · simp [zq_fv, zq_up, zq_tr]
  · simp [zq_fv, zq_up, hi]
theorem zq_putL (C : zq_C X own cc nL Ts R0) (K : zq_K ci Cn T N ty) (hin : ∀ w ∈ u_ws Cn T N, w ∈ Ts) (hl : zq_lk own Ts ix (T j)) (hj : j < N) (hk : (zq_fk ci)[j]? = some 1) (hty : ty j = .long) (d : decode cc pc = .ok (.putfield ix, 3)) (hpc : pc + 3 = pc')
    (hf : (T j).2.2.2 = false ∨ (X.2.2.2.2.2.2.2.2.1.name = "<init>" ∧ (T j).1 = own ∧ (T j).2.2.2 = true ∧ Cond.fieldLink own ix (T j).1 (T j).2.1 (T j).2.2.1 ∈ Ts)) {v : Int64} (hg : zq_pl h t ci j v = some h') (kk : zq_W X cells slots h' pc' lv st) : zq_W X cells slots h pc lv (.long v :: .ref t :: st) := by
  obtain ⟨h1, h2⟩ := zq_if1 hg
  cases h2
  refine zq_putf (h' := (h.1, h.2.1, zq_up h.2.2.1 t j v, h.2.2.2)) C K hin hl hj hk h1 d hpc hf (w := .long v) (fun _ => by rw [hty]; rfl) (fun _ => by rw [hty]; rfl) rfl (fun _ => ?_) (fun a ha => ⟨rfl, zq_up_o _ _ _ ha, rfl⟩) (fun s0 i k2 hi => ?_) kk
  · simp [zq_fv, zq_up, zq_tr]
  · simp [zq_fv, zq_up, hi]
theorem zq_putR (C : zq_C X own cc nL Ts R0) (K : zq_K ci Cn T N ty) (hin : ∀ w ∈ u_ws Cn T N, w ∈ Ts) (hl : zq_lk own Ts ix (T j)) (hj : j < N) (hk : (zq_fk ci)[j]? = some 2) (hty : (∃ n, ty j = .object n) ∨ ∃ n, ty j = .array n) (d : decode cc pc = .ok (.putfield ix, 3)) (hpc : pc + 3 = pc')
    (hf : (T j).2.2.2 = false ∨ (X.2.2.2.2.2.2.2.2.1.name = "<init>" ∧ (T j).1 = own ∧ (T j).2.2.2 = true ∧ Cond.fieldLink own ix (T j).1 (T j).2.1 (T j).2.2.1 ∈ Ts)) {v : Nat} (hg : zq_pr h t ci j v = some h') (kk : zq_W X cells slots h' pc' lv st) : zq_W X cells slots h pc lv (.ref v :: .ref t :: st) := by
  obtain ⟨h1, h2⟩ := zq_if1 hg
  cases h2
  refine zq_putf (h' := (h.1, h.2.1, h.2.2.1, zq_up h.2.2.2 t j (some v))) C K hin hl hj hk h1 d hpc hf (w := .ref v) (fun _ => ?_) (fun _ => ?_) rfl (fun _ => ?_) (fun a ha => ⟨rfl, rfl, zq_up_o _ _ _ ha⟩) (fun s0 i k2 hi => ?_) kk
  · rcases hty with ⟨n, e⟩ | ⟨n, e⟩ <;> rw [e] <;> rfl
  · rcases hty with ⟨n, e⟩ | ⟨n, e⟩ <;> rw [e] <;> rfl
  · simp [zq_fv, zq_up, zq_tr, va_rf]
  · simp [zq_fv, zq_up, hi]
theorem zq_iaload (C : zq_C X own cc nL Ts R0) {a : Nat} {i v : Int32} (d : decode cc pc = .ok (.iaload, 1)) (hpc : pc + 1 = pc') (hg : zq_ai h a i = some v) (kk : zq_W X cells slots h pc' lv (.int v :: st)) : zq_W X cells slots h pc lv (.int i :: .ref a :: st) := by
  subst hpc
  obtain ⟨h1, h2⟩ := zq_if1 hg
  cases h2
  obtain ⟨p, l, e, R, s, m, args, below, meth, c, Q, E⟩ := X
  obtain ⟨hx, hb, hml, hown, hts, hR, hK, hSF, hs0, hlocks, hst⟩ := C
  intro H locs ls hI hL
  have hcell := zq_wl_get (E := E) h1.1
  rw [zq_cell_i h1.2.1] at hcell
  exact va_iald hx hb hK hI.1 a 0 hcell rfl h1.2.2 d (kk H locs ls hI hL)
theorem zq_laload (C : zq_C X own cc nL Ts R0) {a : Nat} {i : Int32} {v : Int64} (d : decode cc pc = .ok (.laload, 1)) (hpc : pc + 1 = pc') (hg : zq_al h a i = some v) (kk : zq_W X cells slots h pc' lv (.long v :: st)) : zq_W X cells slots h pc lv (.int i :: .ref a :: st) := by
  subst hpc
  obtain ⟨h1, h2⟩ := zq_if1 hg
  cases h2
  obtain ⟨p, l, e, R, s, m, args, below, meth, c, Q, E⟩ := X
  obtain ⟨hx, hb, hml, hown, hts, hR, hK, hSF, hs0, hlocks, hst⟩ := C
  intro H locs ls hI hL
  have hcell := zq_wl_get (E := E) h1.1
  rw [zq_cell_l h1.2.1] at hcell
  exact va_lald hx hb hK hI.1 a 1 hcell rfl h1.2.2 d (kk H locs ls hI hL)
theorem zq_aaload (C : zq_C X own cc nL Ts R0) (ck : Nat) (hck : ck = 12 ∨ ck = 13) {a v : Nat} {i : Int32} (d : decode cc pc = .ok (.aaload, 1)) (hpc : pc + 1 = pc') (hg : zq_aq h a ck i = some v) (kk : zq_W X cells slots h pc' lv (.ref v :: st)) : zq_W X cells slots h pc lv (.int i :: .ref a :: st) := by
  subst hpc
  obtain ⟨h1, h2⟩ := zq_if1 hg
  obtain ⟨p, l, e, R, s, m, args, below, meth, c, Q, E⟩ := X
  obtain ⟨hx, hb, hml, hown, hts, hR, hK, hSF, hs0, hlocks, hst⟩ := C
  intro H locs ls hI hL
  have hcell := zq_wl_get (E := E) h1.1
  rw [zq_cell_q h1.2.1 hck] at hcell
  have hk2 := kk H locs ls hI hL
  have e1 : zq_tr E.2.2.1 (.ref v) = va_rf ((h.2.2.2 a i.toNatClampNeg).map (E.2.2.1 + ·)) := by rw [h2]; rfl
  rw [List.map_cons, e1] at hk2
  rcases hck with rfl | rfl
  · exact va_aldq (C := "FlipPolygons$FlipGraph") hx hb hK hI.1 a 2 hcell rfl h1.2.2 d hk2
  · exact va_aldq (C := "FlipPolygons$State") hx hb hK hI.1 a 3 hcell rfl h1.2.2 d hk2
theorem zq_iastore (C : zq_C X own cc nL Ts R0) {a : Nat} {i v : Int32} (d : decode cc pc = .ok (.iastore, 1)) (hpc : pc + 1 = pc') (hg : zq_si h a i v = some h') (kk : zq_W X cells slots h' pc' lv st) : zq_W X cells slots h pc lv (.int v :: .int i :: .ref a :: st) := by
  subst hpc
  obtain ⟨h1, h2⟩ := zq_if1 hg
  cases h2
  obtain ⟨p, l, e, R, s, m, args, below, meth, c, Q, E⟩ := X
  obtain ⟨hx, hb, hml, hown, hts, hR, hK, hSF, hs0, hlocks, hst⟩ := C
  intro H locs ls hI hL
  have hcell := zq_wl_get (E := E) h1.1
  rw [zq_cell_i h1.2.1] at hcell
  refine va_iast hx hb hK hI.1 (zq_wl_D E h) hI.2 a 0 hcell rfl h1.2.2 d (fun H1 locs1 a1 _ a3 => kk H1 locs1 ls ⟨?_, a3⟩ hL)
  rw [zq_wl_set (h := h) (h' := (h.1, zq_up h.2.1 a i.toNatClampNeg v, h.2.2)) rfl h1.1 (zq_cell_i h1.2.1) (fun b hb2 => zq_cell_cong (zq_up_o _ _ _ hb2) rfl rfl)]
  rw [show (h.1, zq_up h.2.1 a i.toNatClampNeg v, h.2.2).2.1 a = upd (h.2.1 a) i.toNatClampNeg v from by funext q; simp [zq_up, upd]]
  exact a1
theorem zq_lastore (C : zq_C X own cc nL Ts R0) {a : Nat} {i : Int32} {v : Int64} (d : decode cc pc = .ok (.lastore, 1)) (hpc : pc + 1 = pc') (hg : zq_sL h a i v = some h') (kk : zq_W X cells slots h' pc' lv st) : zq_W X cells slots h pc lv (.long v :: .int i :: .ref a :: st) := by
  subst hpc
  obtain ⟨h1, h2⟩ := zq_if1 hg
  cases h2
  obtain ⟨p, l, e, R, s, m, args, below, meth, c, Q, E⟩ := X
  obtain ⟨hx, hb, hml, hown, hts, hR, hK, hSF, hs0, hlocks, hst⟩ := C
  intro H locs ls hI hL
  have hcell := zq_wl_get (E := E) h1.1
  rw [zq_cell_l h1.2.1] at hcell
  refine va_last hx hb hK hI.1 (zq_wl_D E h) hI.2 a 1 hcell rfl h1.2.2 d (fun H1 locs1 a1 _ a3 => kk H1 locs1 ls ⟨?_, a3⟩ hL)
  rw [zq_wl_set (h := h) (h' := (h.1, h.2.1, zq_up h.2.2.1 a i.toNatClampNeg v, h.2.2.2)) rfl h1.1 (zq_cell_l h1.2.1) (fun b hb2 => zq_cell_cong rfl (zq_up_o _ _ _ hb2) rfl)]
  rw [show (h.1, h.2.1, zq_up h.2.2.1 a i.toNatClampNeg v, h.2.2.2).2.2.1 a = vp_updL (h.2.2.1 a) i.toNatClampNeg v from by funext q; simp [zq_up, vp_updL]]
  exact a1
theorem zq_aastore (C : zq_C X own cc nL Ts R0) (ck co : Nat) (hck : (ck = 12 ∧ co = 0) ∨ (ck = 13 ∧ co = 3)) {a v : Nat} {i : Int32} (d : decode cc pc = .ok (.aastore, 1)) (hpc : pc + 1 = pc') (hg : zq_sq h a ck co i v = some h') (kk : zq_W X cells slots h' pc' lv st) : zq_W X cells slots h pc lv (.ref v :: .int i :: .ref a :: st) := by
  subst hpc
  obtain ⟨h1, h2⟩ := zq_if1 hg
  cases h2
  obtain ⟨p, l, e, R, s, m, args, below, meth, c, Q, E⟩ := X
  obtain ⟨hx, hb, hml, hown, hts, hR, hK, hSF, hs0, hlocks, hst⟩ := C
  intro H locs ls hI hL
  have hck2 : ck = 12 ∨ ck = 13 := by rcases hck with h | h; exact Or.inl h.1; exact Or.inr h.1
  have hcell := zq_wl_get (E := E) h1.1
  rw [zq_cell_q h1.2.1 hck2] at hcell
  have hcv := zq_wl_get (E := E) h1.2.2.2.1
  rw [zq_cell_o h1.2.2.2.2 (by rcases hck with h | h <;> omega)] at hcv
  have fin : ∀ (H1 : Heap), va_P E.1 vwCl ((zq_wl E h).set a (E.2.2.1 + a, .inl (E.2.1 (ck - 10), (zq_sh a).2, .inr (.inr (.inr (.inr (va_up (fun j => (h.2.2.2 a j).map (E.2.2.1 + ·)) i.toNatClampNeg (some (E.2.2.1 + v))))))))) H1 → va_P E.1 vwCl (zq_wl E (h.1, h.2.1, h.2.2.1, zq_up h.2.2.2 a i.toNatClampNeg (some v))) H1 := by
    intro H1 a1
    rw [zq_wl_set (h := h) (h' := (h.1, h.2.1, h.2.2.1, zq_up h.2.2.2 a i.toNatClampNeg (some v))) rfl h1.1 (zq_cell_q h1.2.1 hck2) (fun b hb2 => zq_cell_cong rfl rfl (zq_up_o _ _ _ hb2))]
    rw [show (fun j => ((h.1, h.2.1, h.2.2.1, zq_up h.2.2.2 a i.toNatClampNeg (some v)).2.2.2 a j).map (E.2.2.1 + ·)) = va_up (fun j => (h.2.2.2 a j).map (E.2.2.1 + ·)) i.toNatClampNeg (some (E.2.2.1 + v)) from by
      funext q
      by_cases hq : q = i.toNatClampNeg
      · subst hq; simp [zq_up, va_up]
      · simp [zq_up, va_up, hq]]
    exact a1
  rcases hck with ⟨rfl, rfl⟩ | ⟨rfl, rfl⟩
  · exact va_astq (r := (RX0, TX0, 9)) hx hb hK hI.1 (zq_wl_D E h) hI.2 a 2 v 0 hcell rfl hcv rfl h1.2.2.1 d (fun H1 locs1 a1 _ a3 => kk H1 locs1 ls ⟨fin H1 a1, a3⟩ hL)
  · exact va_astq (r := (RX3, TX3, 5)) hx hb hK hI.1 (zq_wl_D E h) hI.2 a 3 v 3 hcell rfl hcv rfl h1.2.2.1 d (fun H1 locs1 a1 _ a3 => kk H1 locs1 ls ⟨fin H1 a1, a3⟩ hL)
theorem zq_alen (C : zq_C X own cc nL Ts R0) {a : Nat} {v : Int32} (d : decode cc pc = .ok (.arraylength, 1)) (hpc : pc + 1 = pc') (hg : zq_an h a = some v) (kk : zq_W X cells slots h pc' lv (.int v :: st)) : zq_W X cells slots h pc lv (.ref a :: st) := by
  subst hpc
  obtain ⟨h1, h2⟩ := zq_if1 hg
  cases h2
  obtain ⟨p, l, e, R, s, m, args, below, meth, c, Q, E⟩ := X
  obtain ⟨hx, hb, hml, hown, hts, hR, hK, hSF, hs0, hlocks, hst⟩ := C
  intro H locs ls hI hL
  have hcell := zq_wl_get (E := E) h1.1
  have hc4 : (zq_sh a).1 = 10 ∨ (zq_sh a).1 = 11 ∨ (zq_sh a).1 = 12 ∨ (zq_sh a).1 = 13 := by omega
  rcases hc4 with hc | hc | hc | hc
  · rw [zq_cell_i hc] at hcell
    exact va_alen hx hb hK hI.1 a 0 hcell rfl rfl d (kk H locs ls hI hL)
  · rw [zq_cell_l hc] at hcell
    exact va_alen hx hb hK hI.1 a 1 hcell rfl rfl d (kk H locs ls hI hL)
  · rw [zq_cell_q hc (Or.inl rfl)] at hcell
    exact va_alen hx hb hK hI.1 a 2 hcell rfl rfl d (kk H locs ls hI hL)
  · rw [zq_cell_q hc (Or.inr rfl)] at hcell
    exact va_alen hx hb hK hI.1 a 3 hcell rfl rfl d (kk H locs ls hI hL)
end ZQH
