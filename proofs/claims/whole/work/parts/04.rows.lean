def zq_ld : List (Nat × Value) → Nat → Option Value
  | [], _ => none
  | (j, v) :: r, i => if j = i then some v else zq_ld r i
theorem zq_ld_mem : ∀ (lv : List (Nat × Value)) (i : Nat) (v : Value), zq_ld lv i = some v → (i, v) ∈ lv
  | [], _, _, h => by cases h
  | (j, w) :: r, i, v, h => by
    unfold zq_ld at h
    split at h
    · rename_i hj
      cases h
      rw [hj]
      exact List.mem_cons_self
    · exact List.mem_cons_of_mem _ (zq_ld_mem r i v h)
theorem zq_ldh {ls : Array Slot} {n s0 : Nat} {lv : List (Nat × Value)} (hL : lv_has ls n (lv.map (fun q => (q.1, zq_tr s0 q.2)))) {i : Nat} {v : Value} (h : zq_ld lv i = some v) : ls[i]? = some (.val (zq_tr s0 v)) :=
  hL.2.2 (i, zq_tr s0 v) (List.mem_map.mpr ⟨(i, v), zq_ld_mem lv i v h, rfl⟩)
abbrev zq_f1 (i : Nat) (lv : List (Nat × Value)) : List (Nat × Value) := lv.filter (fun q => !(q.1 == i) && !(q.1 + 1 == i && q.2.category == 2))
abbrev zq_f2 (i : Nat) (lv : List (Nat × Value)) : List (Nat × Value) := lv.filter (fun q => !(q.1 == i) && (!(q.1 == i + 1) && !(q.1 + 1 == i && q.2.category == 2)))
theorem zq_f1_map (s0 i : Nat) (lv : List (Nat × Value)) : zq_f1 i (lv.map (fun q => (q.1, zq_tr s0 q.2))) = (zq_f1 i lv).map (fun q => (q.1, zq_tr s0 q.2)) := by
  simp only [zq_f1, List.filter_map, Function.comp_def, zq_tr_cat]
theorem zq_f2_map (s0 i : Nat) (lv : List (Nat × Value)) : zq_f2 i (lv.map (fun q => (q.1, zq_tr s0 q.2))) = (zq_f2 i lv).map (fun q => (q.1, zq_tr s0 q.2)) := by
  simp only [zq_f2, List.filter_map, Function.comp_def, zq_tr_cat]
theorem zq_ifp {α : Type} {c : Prop} [Decidable c] {a b r : α} (h : (if c then a else b) = r) (hc : c) : a = r := by rw [if_pos hc] at h; exact h
theorem zq_ifn {α : Type} {c : Prop} [Decidable c] {a b r : α} (h : (if c then a else b) = r) (hc : ¬ c) : b = r := by rw [if_neg hc] at h; exact h
theorem zq_bd {α β : Type} {x : Option α} {f : α → Option β} {r : β} (h : x.bind f = some r) : ∃ v, x = some v ∧ f v = some r := by
  cases x with
  | none => cases h
  | some v => exact ⟨v, rfl, h⟩
/-- a named value -/
def zq_let {α β : Type} (x : α) (f : α → β) : β := f x
theorem zq_let_e {α β : Type} {x : α} {f : α → β} {r : β} (h : zq_let x f = r) : ∃ y, x = y ∧ f y = r := ⟨x, rfl, h⟩
theorem zq_if1 {α : Type} {c : Prop} [Decidable c] {a : Option α} {r : α} (h : (if c then a else none) = some r) : c ∧ a = some r := by
  by_cases hc : c
  · rw [if_pos hc] at h; exact ⟨hc, h⟩
  · rw [if_neg hc] at h; cases h
section ZQR
variable {X : zq_X} {own : String} {cc : ByteArray} {nL : Nat} {Ts : List Cond} {R0 : Room} {cells slots : Nat} {h : zq_H} {pc pc' : Nat} {lv lv' : List (Nat × Value)} {st : List Value}
theorem zq_sub (ks : List Nat) (hl : lv_pick lv ks = lv') (k : zq_W X cells slots h pc lv' st) : zq_W X cells slots h pc lv st := by
  obtain ⟨p, l, e, R, s, m, args, below, meth, c, Q, E⟩ := X
  intro H locs ls hI hL
  refine k H locs ls hI (lv_sub hL ks ?_)
  rw [← hl]
  simp only [lv_pick, List.getElem?_map, List.map_filterMap]
theorem zq_widen (c2 s2 : Nat) (h1 : cells ≤ c2) (h2 : slots ≤ s2) (k : zq_W X c2 s2 h pc lv st) : zq_W X cells slots h pc lv st := by
  obtain ⟨p, l, e, R, s, m, args, below, meth, c, Q, E⟩ := X
  intro H locs ls hI hL
  exact W.widen h1 h2 (k H locs ls hI hL)
theorem zq_iload_n (C : zq_C X own cc nL Ts R0) {k4 : Fin 4} {i : Nat} {x : Int32} (d : decode cc pc = .ok (.iload_n k4, 1)) (hpc : pc + 1 = pc') (hi : (k4 : Nat) = i) (hl : zq_ld lv i = some (.int x)) (k : zq_W X cells slots h pc' lv (.int x :: st)) : zq_W X cells slots h pc lv (st) := by
  subst hpc
  obtain ⟨p, l, e, R, s, m, args, below, meth, c, Q, E⟩ := X
  obtain ⟨hx, hb, hml, hown, hts, hR, hK, hSF, hs0, hlocks, hst⟩ := C
  intro H locs ls hI hL
  exact lv_iload_n hx hb d hi (zq_ldh hL hl) (k H locs ls hI hL)
theorem zq_iload (C : zq_C X own cc nL Ts R0) {i : Nat} {x : Int32} (d : decode cc pc = .ok (.iload i, 2)) (hpc : pc + 2 = pc') (hl : zq_ld lv i = some (.int x)) (k : zq_W X cells slots h pc' lv (.int x :: st)) : zq_W X cells slots h pc lv (st) := by
  subst hpc
  obtain ⟨p, l, e, R, s, m, args, below, meth, c, Q, E⟩ := X
  obtain ⟨hx, hb, hml, hown, hts, hR, hK, hSF, hs0, hlocks, hst⟩ := C
  intro H locs ls hI hL
  exact lv_iload hx hb d (zq_ldh hL hl) (k H locs ls hI hL)
theorem zq_lload_n (C : zq_C X own cc nL Ts R0) {k4 : Fin 4} {i : Nat} {x : Int64} (d : decode cc pc = .ok (.lload_n k4, 1)) (hpc : pc + 1 = pc') (hi : (k4 : Nat) = i) (hl : zq_ld lv i = some (.long x)) (k : zq_W X cells slots h pc' lv (.long x :: st)) : zq_W X cells slots h pc lv (st) := by
  subst hpc
  obtain ⟨p, l, e, R, s, m, args, below, meth, c, Q, E⟩ := X
  obtain ⟨hx, hb, hml, hown, hts, hR, hK, hSF, hs0, hlocks, hst⟩ := C
  intro H locs ls hI hL
  exact lv_lload_n hx hb d hi (zq_ldh hL hl) (k H locs ls hI hL)
theorem zq_lload (C : zq_C X own cc nL Ts R0) {i : Nat} {x : Int64} (d : decode cc pc = .ok (.lload i, 2)) (hpc : pc + 2 = pc') (hl : zq_ld lv i = some (.long x)) (k : zq_W X cells slots h pc' lv (.long x :: st)) : zq_W X cells slots h pc lv (st) := by
  subst hpc
  obtain ⟨p, l, e, R, s, m, args, below, meth, c, Q, E⟩ := X
  obtain ⟨hx, hb, hml, hown, hts, hR, hK, hSF, hs0, hlocks, hst⟩ := C
  intro H locs ls hI hL
  exact lv_lload hx hb d (zq_ldh hL hl) (k H locs ls hI hL)
theorem zq_dload_n (C : zq_C X own cc nL Ts R0) {k4 : Fin 4} {i : Nat} {x : UInt64} (d : decode cc pc = .ok (.dload_n k4, 1)) (hpc : pc + 1 = pc') (hi : (k4 : Nat) = i) (hl : zq_ld lv i = some (.double x)) (k : zq_W X cells slots h pc' lv (.double x :: st)) : zq_W X cells slots h pc lv (st) := by
  subst hpc
  obtain ⟨p, l, e, R, s, m, args, below, meth, c, Q, E⟩ := X
  obtain ⟨hx, hb, hml, hown, hts, hR, hK, hSF, hs0, hlocks, hst⟩ := C
  intro H locs ls hI hL
  exact lv_dload_n hx hb d hi (zq_ldh hL hl) (k H locs ls hI hL)
theorem zq_dload (C : zq_C X own cc nL Ts R0) {i : Nat} {x : UInt64} (d : decode cc pc = .ok (.dload i, 2)) (hpc : pc + 2 = pc') (hl : zq_ld lv i = some (.double x)) (k : zq_W X cells slots h pc' lv (.double x :: st)) : zq_W X cells slots h pc lv (st) := by
  subst hpc
  obtain ⟨p, l, e, R, s, m, args, below, meth, c, Q, E⟩ := X
  obtain ⟨hx, hb, hml, hown, hts, hR, hK, hSF, hs0, hlocks, hst⟩ := C
  intro H locs ls hI hL
  exact lv_dload hx hb d (zq_ldh hL hl) (k H locs ls hI hL)
theorem zq_aload_n (C : zq_C X own cc nL Ts R0) {k4 : Fin 4} {i : Nat} {x : Nat} (d : decode cc pc = .ok (.aload_n k4, 1)) (hpc : pc + 1 = pc') (hi : (k4 : Nat) = i) (hl : zq_ld lv i = some (.ref x)) (k : zq_W X cells slots h pc' lv (.ref x :: st)) : zq_W X cells slots h pc lv (st) := by
  subst hpc
  obtain ⟨p, l, e, R, s, m, args, below, meth, c, Q, E⟩ := X
  obtain ⟨hx, hb, hml, hown, hts, hR, hK, hSF, hs0, hlocks, hst⟩ := C
  intro H locs ls hI hL
  exact lv_aload_n hx hb d hi (zq_ldh hL hl) (k H locs ls hI hL)
theorem zq_aload (C : zq_C X own cc nL Ts R0) {i : Nat} {x : Nat} (d : decode cc pc = .ok (.aload i, 2)) (hpc : pc + 2 = pc') (hl : zq_ld lv i = some (.ref x)) (k : zq_W X cells slots h pc' lv (.ref x :: st)) : zq_W X cells slots h pc lv (st) := by
  subst hpc
  obtain ⟨p, l, e, R, s, m, args, below, meth, c, Q, E⟩ := X
  obtain ⟨hx, hb, hml, hown, hts, hR, hK, hSF, hs0, hlocks, hst⟩ := C
  intro H locs ls hI hL
  exact lv_aload hx hb d (zq_ldh hL hl) (k H locs ls hI hL)
theorem zq_iconst (C : zq_C X own cc nL Ts R0) {n : Int} (v : Int32) (d : decode cc pc = .ok (.iconst n, 1)) (hpc : pc + 1 = pc') (hv : Int32.ofInt n = v) (k : zq_W X cells slots h pc' lv (.int v :: st)) : zq_W X cells slots h pc lv (st) := by
  subst hpc
  obtain ⟨p, l, e, R, s, m, args, below, meth, c, Q, E⟩ := X
  obtain ⟨hx, hb, hml, hown, hts, hR, hK, hSF, hs0, hlocks, hst⟩ := C
  intro H locs ls hI hL
  exact lv_iconst hx hb d hv (k H locs ls hI hL)
theorem zq_bipush (C : zq_C X own cc nL Ts R0) {n : Int} (v : Int32) (d : decode cc pc = .ok (.bipush n, 2)) (hpc : pc + 2 = pc') (hv : (Int8.ofInt n).toInt32 = v) (k : zq_W X cells slots h pc' lv (.int v :: st)) : zq_W X cells slots h pc lv (st) := by
  subst hpc
  obtain ⟨p, l, e, R, s, m, args, below, meth, c, Q, E⟩ := X
  obtain ⟨hx, hb, hml, hown, hts, hR, hK, hSF, hs0, hlocks, hst⟩ := C
  intro H locs ls hI hL
  exact lv_bipush hx hb d hv (k H locs ls hI hL)
theorem zq_sipush (C : zq_C X own cc nL Ts R0) {n : Int} (v : Int32) (d : decode cc pc = .ok (.sipush n, 3)) (hpc : pc + 3 = pc') (hv : (Int16.ofInt n).toInt32 = v) (k : zq_W X cells slots h pc' lv (.int v :: st)) : zq_W X cells slots h pc lv (st) := by
  subst hpc
  obtain ⟨p, l, e, R, s, m, args, below, meth, c, Q, E⟩ := X
  obtain ⟨hx, hb, hml, hown, hts, hR, hK, hSF, hs0, hlocks, hst⟩ := C
  intro H locs ls hI hL
  exact lv_sipush hx hb d hv (k H locs ls hI hL)
theorem zq_ldc (C : zq_C X own cc nL Ts R0) {ix : Nat} (v : Int32) (d : decode cc pc = .ok (.ldc ix, 2)) (hpc : pc + 2 = pc') (hc : Cond.constant own ix v ∈ Ts) (k : zq_W X cells slots h pc' lv (.int v :: st)) : zq_W X cells slots h pc lv (st) := by
  subst hpc
  obtain ⟨p, l, e, R, s, m, args, below, meth, c, Q, E⟩ := X
  obtain ⟨hx, hb, hml, hown, hts, hR, hK, hSF, hs0, hlocks, hst⟩ := C
  intro H locs ls hI hL
  exact lv_ldc hx hb hown (hts _ hc) d (k H locs ls hI hL)
theorem zq_ldcw (C : zq_C X own cc nL Ts R0) {ix : Nat} (v : Int32) (d : decode cc pc = .ok (.ldc_w ix, 3)) (hpc : pc + 3 = pc') (hc : Cond.constant own ix v ∈ Ts) (k : zq_W X cells slots h pc' lv (.int v :: st)) : zq_W X cells slots h pc lv (st) := by
  subst hpc
  obtain ⟨p, l, e, R, s, m, args, below, meth, c, Q, E⟩ := X
  obtain ⟨hx, hb, hml, hown, hts, hR, hK, hSF, hs0, hlocks, hst⟩ := C
  intro H locs ls hI hL
  exact lv_ldcw hx hb hown (hts _ hc) d (k H locs ls hI hL)
theorem zq_ldc2l (C : zq_C X own cc nL Ts R0) {ix : Nat} (v : Int64) (d : decode cc pc = .ok (.ldc2_w ix, 3)) (hpc : pc + 3 = pc') (hc : Cond.constantLong own ix v ∈ Ts) (k : zq_W X cells slots h pc' lv (.long v :: st)) : zq_W X cells slots h pc lv (st) := by
  subst hpc
  obtain ⟨p, l, e, R, s, m, args, below, meth, c, Q, E⟩ := X
  obtain ⟨hx, hb, hml, hown, hts, hR, hK, hSF, hs0, hlocks, hst⟩ := C
  intro H locs ls hI hL
  exact lv_ldc2 hx hb hown (hts _ hc) d (k H locs ls hI hL)
theorem zq_ldc2d (C : zq_C X own cc nL Ts R0) {ix : Nat} (v : UInt64) (d : decode cc pc = .ok (.ldc2_w ix, 3)) (hpc : pc + 3 = pc') (hc : Cond.constantDouble own ix v ∈ Ts) (k : zq_W X cells slots h pc' lv (.double v :: st)) : zq_W X cells slots h pc lv (st) := by
  subst hpc
  obtain ⟨p, l, e, R, s, m, args, below, meth, c, Q, E⟩ := X
  obtain ⟨hx, hb, hml, hown, hts, hR, hK, hSF, hs0, hlocks, hst⟩ := C
  intro H locs ls hI hL
  exact lv_ldc2d hx hb hown (hts _ hc) d (k H locs ls hI hL)
theorem zq_lconst (C : zq_C X own cc nL Ts R0) {n : Fin 2} (v : Int64) (d : decode cc pc = .ok (.lconst n, 1)) (hpc : pc + 1 = pc') (hv : Int64.ofNat (n : Nat) = v) (k : zq_W X cells slots h pc' lv (.long v :: st)) : zq_W X cells slots h pc lv (st) := by
  subst hpc
  obtain ⟨p, l, e, R, s, m, args, below, meth, c, Q, E⟩ := X
  obtain ⟨hx, hb, hml, hown, hts, hR, hK, hSF, hs0, hlocks, hst⟩ := C
  intro H locs ls hI hL
  exact lv_lconst hx hb d hv (k H locs ls hI hL)
theorem zq_dconst0 (C : zq_C X own cc nL Ts R0) (d : decode cc pc = .ok (.dconst 0, 1)) (hpc : pc + 1 = pc') (k : zq_W X cells slots h pc' lv (.double FP.dconst0 :: st)) : zq_W X cells slots h pc lv (st) := by
  subst hpc
  obtain ⟨p, l, e, R, s, m, args, below, meth, c, Q, E⟩ := X
  obtain ⟨hx, hb, hml, hown, hts, hR, hK, hSF, hs0, hlocks, hst⟩ := C
  intro H locs ls hI hL
  exact lv_dconst0 hx hb d (k H locs ls hI hL)
theorem zq_dconst1 (C : zq_C X own cc nL Ts R0) (d : decode cc pc = .ok (.dconst 1, 1)) (hpc : pc + 1 = pc') (k : zq_W X cells slots h pc' lv (.double FP.dconst1 :: st)) : zq_W X cells slots h pc lv (st) := by
  subst hpc
  obtain ⟨p, l, e, R, s, m, args, below, meth, c, Q, E⟩ := X
  obtain ⟨hx, hb, hml, hown, hts, hR, hK, hSF, hs0, hlocks, hst⟩ := C
  intro H locs ls hI hL
  exact lv_dconst1 hx hb d (k H locs ls hI hL)
theorem zq_dup (C : zq_C X own cc nL Ts R0) {v : Value} (d : decode cc pc = .ok (.dup, 1)) (hpc : pc + 1 = pc') (hv : v.category = 1) (k : zq_W X cells slots h pc' lv (v :: v :: st)) : zq_W X cells slots h pc lv (v :: st) := by
  subst hpc
  obtain ⟨p, l, e, R, s, m, args, below, meth, c, Q, E⟩ := X
  obtain ⟨hx, hb, hml, hown, hts, hR, hK, hSF, hs0, hlocks, hst⟩ := C
  intro H locs ls hI hL
  exact lv_dup hx hb d (by rw [zq_tr_cat]; exact hv) (k H locs ls hI hL)
theorem zq_dup2 (C : zq_C X own cc nL Ts R0) {v w : Value} (d : decode cc pc = .ok (.dup2, 1)) (hpc : pc + 1 = pc') (hv : v.category = 1) (hw : w.category = 1) (k : zq_W X cells slots h pc' lv (v :: w :: v :: w :: st)) : zq_W X cells slots h pc lv (v :: w :: st) := by
  subst hpc
  obtain ⟨p, l, e, R, s, m, args, below, meth, c, Q, E⟩ := X
  obtain ⟨hx, hb, hml, hown, hts, hR, hK, hSF, hs0, hlocks, hst⟩ := C
  intro H locs ls hI hL
  exact lv_dup2_11 hx hb d (by rw [zq_tr_cat]; exact hv) (by rw [zq_tr_cat]; exact hw) (k H locs ls hI hL)
theorem zq_pop (C : zq_C X own cc nL Ts R0) {v : Value} (d : decode cc pc = .ok (.pop, 1)) (hpc : pc + 1 = pc') (hv : v.category = 1) (k : zq_W X cells slots h pc' lv (st)) : zq_W X cells slots h pc lv (v :: st) := by
  subst hpc
  obtain ⟨p, l, e, R, s, m, args, below, meth, c, Q, E⟩ := X
  obtain ⟨hx, hb, hml, hown, hts, hR, hK, hSF, hs0, hlocks, hst⟩ := C
  intro H locs ls hI hL
  exact lv_pop hx hb d (by rw [zq_tr_cat]; exact hv) (k H locs ls hI hL)
theorem zq_iadd (C : zq_C X own cc nL Ts R0) {x y : Int32} (d : decode cc pc = .ok (.iadd, 1)) (hpc : pc + 1 = pc') (k : zq_W X cells slots h pc' lv (.int (x + y) :: st)) : zq_W X cells slots h pc lv (.int y :: .int x :: st) := by
  subst hpc
  obtain ⟨p, l, e, R, s, m, args, below, meth, c, Q, E⟩ := X
  obtain ⟨hx, hb, hml, hown, hts, hR, hK, hSF, hs0, hlocks, hst⟩ := C
  intro H locs ls hI hL
  exact lv_iadd hx hb d (k H locs ls hI hL)
theorem zq_isub (C : zq_C X own cc nL Ts R0) {x y : Int32} (d : decode cc pc = .ok (.isub, 1)) (hpc : pc + 1 = pc') (k : zq_W X cells slots h pc' lv (.int (x - y) :: st)) : zq_W X cells slots h pc lv (.int y :: .int x :: st) := by
  subst hpc
  obtain ⟨p, l, e, R, s, m, args, below, meth, c, Q, E⟩ := X
  obtain ⟨hx, hb, hml, hown, hts, hR, hK, hSF, hs0, hlocks, hst⟩ := C
  intro H locs ls hI hL
  exact lv_isub hx hb d (k H locs ls hI hL)
theorem zq_imul (C : zq_C X own cc nL Ts R0) {x y : Int32} (d : decode cc pc = .ok (.imul, 1)) (hpc : pc + 1 = pc') (k : zq_W X cells slots h pc' lv (.int (x * y) :: st)) : zq_W X cells slots h pc lv (.int y :: .int x :: st) := by
  subst hpc
  obtain ⟨p, l, e, R, s, m, args, below, meth, c, Q, E⟩ := X
  obtain ⟨hx, hb, hml, hown, hts, hR, hK, hSF, hs0, hlocks, hst⟩ := C
  intro H locs ls hI hL
  exact lv_imul hx hb d (k H locs ls hI hL)
theorem zq_iand (C : zq_C X own cc nL Ts R0) {x y : Int32} (d : decode cc pc = .ok (.iand, 1)) (hpc : pc + 1 = pc') (k : zq_W X cells slots h pc' lv (.int (x &&& y) :: st)) : zq_W X cells slots h pc lv (.int y :: .int x :: st) := by
  subst hpc
  obtain ⟨p, l, e, R, s, m, args, below, meth, c, Q, E⟩ := X
  obtain ⟨hx, hb, hml, hown, hts, hR, hK, hSF, hs0, hlocks, hst⟩ := C
  intro H locs ls hI hL
  exact lv_iand hx hb d (k H locs ls hI hL)
theorem zq_ior (C : zq_C X own cc nL Ts R0) {x y : Int32} (d : decode cc pc = .ok (.ior, 1)) (hpc : pc + 1 = pc') (k : zq_W X cells slots h pc' lv (.int (x ||| y) :: st)) : zq_W X cells slots h pc lv (.int y :: .int x :: st) := by
  subst hpc
  obtain ⟨p, l, e, R, s, m, args, below, meth, c, Q, E⟩ := X
  obtain ⟨hx, hb, hml, hown, hts, hR, hK, hSF, hs0, hlocks, hst⟩ := C
  intro H locs ls hI hL
  exact lv_ior hx hb d (k H locs ls hI hL)
theorem zq_ixor (C : zq_C X own cc nL Ts R0) {x y : Int32} (d : decode cc pc = .ok (.ixor, 1)) (hpc : pc + 1 = pc') (k : zq_W X cells slots h pc' lv (.int (x ^^^ y) :: st)) : zq_W X cells slots h pc lv (.int y :: .int x :: st) := by
  subst hpc
  obtain ⟨p, l, e, R, s, m, args, below, meth, c, Q, E⟩ := X
  obtain ⟨hx, hb, hml, hown, hts, hR, hK, hSF, hs0, hlocks, hst⟩ := C
  intro H locs ls hI hL
  exact lv_ixor hx hb d (k H locs ls hI hL)
theorem zq_ishl (C : zq_C X own cc nL Ts R0) {x y : Int32} (d : decode cc pc = .ok (.ishl, 1)) (hpc : pc + 1 = pc') (k : zq_W X cells slots h pc' lv (.int (x <<< (y &&& 31)) :: st)) : zq_W X cells slots h pc lv (.int y :: .int x :: st) := by
  subst hpc
  obtain ⟨p, l, e, R, s, m, args, below, meth, c, Q, E⟩ := X
  obtain ⟨hx, hb, hml, hown, hts, hR, hK, hSF, hs0, hlocks, hst⟩ := C
  intro H locs ls hI hL
  exact lv_ishl hx hb d (k H locs ls hI hL)
theorem zq_ishr (C : zq_C X own cc nL Ts R0) {x y : Int32} (d : decode cc pc = .ok (.ishr, 1)) (hpc : pc + 1 = pc') (k : zq_W X cells slots h pc' lv (.int (x >>> (y &&& 31)) :: st)) : zq_W X cells slots h pc lv (.int y :: .int x :: st) := by
  subst hpc
  obtain ⟨p, l, e, R, s, m, args, below, meth, c, Q, E⟩ := X
  obtain ⟨hx, hb, hml, hown, hts, hR, hK, hSF, hs0, hlocks, hst⟩ := C
  intro H locs ls hI hL
  exact lv_ishr hx hb d (k H locs ls hI hL)
theorem zq_iushr (C : zq_C X own cc nL Ts R0) {x y : Int32} (d : decode cc pc = .ok (.iushr, 1)) (hpc : pc + 1 = pc') (k : zq_W X cells slots h pc' lv (.int ((x.toUInt32 >>> (y.toUInt32 &&& Int32.toUInt32 31)).toInt32) :: st)) : zq_W X cells slots h pc lv (.int y :: .int x :: st) := by
  subst hpc
  obtain ⟨p, l, e, R, s, m, args, below, meth, c, Q, E⟩ := X
  obtain ⟨hx, hb, hml, hown, hts, hR, hK, hSF, hs0, hlocks, hst⟩ := C
  intro H locs ls hI hL
  exact lv_iushr hx hb d rfl (k H locs ls hI hL)
theorem zq_idiv (C : zq_C X own cc nL Ts R0) {x y : Int32} (d : decode cc pc = .ok (.idiv, 1)) (hpc : pc + 1 = pc') (hy : ¬ y = 0) (k : zq_W X cells slots h pc' lv (.int (x / y) :: st)) : zq_W X cells slots h pc lv (.int y :: .int x :: st) := by
  subst hpc
  obtain ⟨p, l, e, R, s, m, args, below, meth, c, Q, E⟩ := X
  obtain ⟨hx, hb, hml, hown, hts, hR, hK, hSF, hs0, hlocks, hst⟩ := C
  intro H locs ls hI hL
  exact lv_idiv hx hb d hy (k H locs ls hI hL)
theorem zq_irem (C : zq_C X own cc nL Ts R0) {x y : Int32} (d : decode cc pc = .ok (.irem, 1)) (hpc : pc + 1 = pc') (hy : ¬ y = 0) (k : zq_W X cells slots h pc' lv (.int (x - x / y * y) :: st)) : zq_W X cells slots h pc lv (.int y :: .int x :: st) := by
  subst hpc
  obtain ⟨p, l, e, R, s, m, args, below, meth, c, Q, E⟩ := X
  obtain ⟨hx, hb, hml, hown, hts, hR, hK, hSF, hs0, hlocks, hst⟩ := C
  intro H locs ls hI hL
  exact lv_irem hx hb d hy (k H locs ls hI hL)
theorem zq_ineg (C : zq_C X own cc nL Ts R0) {x : Int32} (d : decode cc pc = .ok (.ineg, 1)) (hpc : pc + 1 = pc') (k : zq_W X cells slots h pc' lv (.int (-x) :: st)) : zq_W X cells slots h pc lv (.int x :: st) := by
  subst hpc
  obtain ⟨p, l, e, R, s, m, args, below, meth, c, Q, E⟩ := X
  obtain ⟨hx, hb, hml, hown, hts, hR, hK, hSF, hs0, hlocks, hst⟩ := C
  intro H locs ls hI hL
  exact lv_ineg hx hb d (k H locs ls hI hL)
theorem zq_ladd (C : zq_C X own cc nL Ts R0) {x y : Int64} (d : decode cc pc = .ok (.ladd, 1)) (hpc : pc + 1 = pc') (k : zq_W X cells slots h pc' lv (.long (x + y) :: st)) : zq_W X cells slots h pc lv (.long y :: .long x :: st) := by
  subst hpc
  obtain ⟨p, l, e, R, s, m, args, below, meth, c, Q, E⟩ := X
  obtain ⟨hx, hb, hml, hown, hts, hR, hK, hSF, hs0, hlocks, hst⟩ := C
  intro H locs ls hI hL
  exact lv_ladd hx hb d (k H locs ls hI hL)
theorem zq_lsub (C : zq_C X own cc nL Ts R0) {x y : Int64} (d : decode cc pc = .ok (.lsub, 1)) (hpc : pc + 1 = pc') (k : zq_W X cells slots h pc' lv (.long (x - y) :: st)) : zq_W X cells slots h pc lv (.long y :: .long x :: st) := by
  subst hpc
  obtain ⟨p, l, e, R, s, m, args, below, meth, c, Q, E⟩ := X
  obtain ⟨hx, hb, hml, hown, hts, hR, hK, hSF, hs0, hlocks, hst⟩ := C
  intro H locs ls hI hL
  exact lv_lsub hx hb d (k H locs ls hI hL)
theorem zq_lmul (C : zq_C X own cc nL Ts R0) {x y : Int64} (d : decode cc pc = .ok (.lmul, 1)) (hpc : pc + 1 = pc') (k : zq_W X cells slots h pc' lv (.long (x * y) :: st)) : zq_W X cells slots h pc lv (.long y :: .long x :: st) := by
  subst hpc
  obtain ⟨p, l, e, R, s, m, args, below, meth, c, Q, E⟩ := X
  obtain ⟨hx, hb, hml, hown, hts, hR, hK, hSF, hs0, hlocks, hst⟩ := C
  intro H locs ls hI hL
  exact lv_lmul hx hb d (k H locs ls hI hL)
theorem zq_lshl (C : zq_C X own cc nL Ts R0) {x : Int64} {y : Int32} (d : decode cc pc = .ok (.lshl, 1)) (hpc : pc + 1 = pc') (k : zq_W X cells slots h pc' lv (.long (x <<< (y.toInt64 &&& 63)) :: st)) : zq_W X cells slots h pc lv (.int y :: .long x :: st) := by
  subst hpc
  obtain ⟨p, l, e, R, s, m, args, below, meth, c, Q, E⟩ := X
  obtain ⟨hx, hb, hml, hown, hts, hR, hK, hSF, hs0, hlocks, hst⟩ := C
  intro H locs ls hI hL
  exact lv_lshl hx hb d rfl (k H locs ls hI hL)
theorem zq_i2l (C : zq_C X own cc nL Ts R0) {x : Int32} (d : decode cc pc = .ok (.i2l, 1)) (hpc : pc + 1 = pc') (k : zq_W X cells slots h pc' lv (.long x.toInt64 :: st)) : zq_W X cells slots h pc lv (.int x :: st) := by
  subst hpc
  obtain ⟨p, l, e, R, s, m, args, below, meth, c, Q, E⟩ := X
  obtain ⟨hx, hb, hml, hown, hts, hR, hK, hSF, hs0, hlocks, hst⟩ := C
  intro H locs ls hI hL
  exact lv_i2l hx hb d rfl (k H locs ls hI hL)
theorem zq_i2d (C : zq_C X own cc nL Ts R0) {x : Int32} (d : decode cc pc = .ok (.i2d, 1)) (hpc : pc + 1 = pc') (k : zq_W X cells slots h pc' lv (.double (FP.i2d x) :: st)) : zq_W X cells slots h pc lv (.int x :: st) := by
  subst hpc
  obtain ⟨p, l, e, R, s, m, args, below, meth, c, Q, E⟩ := X
  obtain ⟨hx, hb, hml, hown, hts, hR, hK, hSF, hs0, hlocks, hst⟩ := C
  intro H locs ls hI hL
  exact lv_i2d hx hb d (k H locs ls hI hL)
theorem zq_d2l (C : zq_C X own cc nL Ts R0) {x : UInt64} (d : decode cc pc = .ok (.d2l, 1)) (hpc : pc + 1 = pc') (k : zq_W X cells slots h pc' lv (.long (FP.d2l x) :: st)) : zq_W X cells slots h pc lv (.double x :: st) := by
  subst hpc
  obtain ⟨p, l, e, R, s, m, args, below, meth, c, Q, E⟩ := X
  obtain ⟨hx, hb, hml, hown, hts, hR, hK, hSF, hs0, hlocks, hst⟩ := C
  intro H locs ls hI hL
  exact lv_d2l hx hb d (k H locs ls hI hL)
theorem zq_lcmp (C : zq_C X own cc nL Ts R0) {x y : Int64} (d : decode cc pc = .ok (.lcmp, 1)) (hpc : pc + 1 = pc') (k : zq_W X cells slots h pc' lv (.int (lg_cmp x y) :: st)) : zq_W X cells slots h pc lv (.long y :: .long x :: st) := by
  subst hpc
  obtain ⟨p, l, e, R, s, m, args, below, meth, c, Q, E⟩ := X
  obtain ⟨hx, hb, hml, hown, hts, hR, hK, hSF, hs0, hlocks, hst⟩ := C
  intro H locs ls hI hL
  exact W.lcmp hx hb d (k H locs ls hI hL)
theorem zq_dcmp (C : zq_C X own cc nL Ts R0) {x y : UInt64} {op : CmpOp} (d : decode cc pc = .ok (.dcmp op, 1)) (hpc : pc + 1 = pc') (k : zq_W X cells slots h pc' lv (.int (Op.cmpValue (FP.dcmp x y) op) :: st)) : zq_W X cells slots h pc lv (.double y :: .double x :: st) := by
  subst hpc
  obtain ⟨p, l, e, R, s, m, args, below, meth, c, Q, E⟩ := X
  obtain ⟨hx, hb, hml, hown, hts, hR, hK, hSF, hs0, hlocks, hst⟩ := C
  intro H locs ls hI hL
  exact lv_dcmp hx hb d (k H locs ls hI hL)
theorem zq_ddiv (C : zq_C X own cc nL Ts R0) {x y : UInt64} (d : decode cc pc = .ok (.ddiv, 1)) (hpc : pc + 1 = pc') (hn : vf_n64 (FP.ddiv x y)) (k : zq_W X cells slots h pc' lv (.double (FP.ddiv x y) :: st)) : zq_W X cells slots h pc lv (.double y :: .double x :: st) := by
  subst hpc
  obtain ⟨p, l, e, R, s, m, args, below, meth, c, Q, E⟩ := X
  obtain ⟨hx, hb, hml, hown, hts, hR, hK, hSF, hs0, hlocks, hst⟩ := C
  intro H locs ls hI hL
  exact lv_ddiv hx hb d hn (k H locs ls hI hL)
theorem zq_dmul (C : zq_C X own cc nL Ts R0) {x y : UInt64} (d : decode cc pc = .ok (.dmul, 1)) (hpc : pc + 1 = pc') (hn : vf_n64 (FP.dmul x y)) (k : zq_W X cells slots h pc' lv (.double (FP.dmul x y) :: st)) : zq_W X cells slots h pc lv (.double y :: .double x :: st) := by
  subst hpc
  obtain ⟨p, l, e, R, s, m, args, below, meth, c, Q, E⟩ := X
  obtain ⟨hx, hb, hml, hown, hts, hR, hK, hSF, hs0, hlocks, hst⟩ := C
  intro H locs ls hI hL
  exact lv_dmul hx hb d hn (k H locs ls hI hL)
theorem zq_dsub (C : zq_C X own cc nL Ts R0) {x y : UInt64} (d : decode cc pc = .ok (.dsub, 1)) (hpc : pc + 1 = pc') (hn : vf_n64 (FP.dsub x y)) (k : zq_W X cells slots h pc' lv (.double (FP.dsub x y) :: st)) : zq_W X cells slots h pc lv (.double y :: .double x :: st) := by
  subst hpc
  obtain ⟨p, l, e, R, s, m, args, below, meth, c, Q, E⟩ := X
  obtain ⟨hx, hb, hml, hown, hts, hR, hK, hSF, hs0, hlocks, hst⟩ := C
  intro H locs ls hI hL
  exact lv_dsub hx hb d hn (k H locs ls hI hL)
theorem zq_istore_n (C : zq_C X own cc nL Ts R0) {k4 : Fin 4} {i : Nat} {v x : Int32} (d : decode cc pc = .ok (.istore_n k4, 1)) (hpc : pc + 1 = pc') (hi : (k4 : Nat) = i) (hn : i < nL) (e : v = x) (hl : (i, Value.int x) :: zq_f1 i lv = lv') (k : zq_W X cells slots h pc' lv' st) : zq_W X cells slots h pc lv (.int v :: st) := by
  subst e
  subst hpc
  obtain ⟨p, l, e, R, s, m, args, below, meth, c, Q, E⟩ := X
  obtain ⟨hx, hb, hml, hown, hts, hR, hK, hSF, hs0, hlocks, hst⟩ := C
  intro H locs ls hI hL
  exact lv_istore_n hx hb d hi hL (by rw [hml]; exact hn) (by rw [← hl, List.map_cons, ← zq_f1_map]; rfl) (fun ls1 hL1 => k H locs ls1 hI hL1)
theorem zq_istore (C : zq_C X own cc nL Ts R0) {i : Nat} {v x : Int32} (d : decode cc pc = .ok (.istore i, 2)) (hpc : pc + 2 = pc') (hn : i < nL) (e : v = x) (hl : (i, Value.int x) :: zq_f1 i lv = lv') (k : zq_W X cells slots h pc' lv' st) : zq_W X cells slots h pc lv (.int v :: st) := by
  subst e
  subst hpc
  obtain ⟨p, l, e, R, s, m, args, below, meth, c, Q, E⟩ := X
  obtain ⟨hx, hb, hml, hown, hts, hR, hK, hSF, hs0, hlocks, hst⟩ := C
  intro H locs ls hI hL
  exact lv_istore hx hb d hL (by rw [hml]; exact hn) (by rw [← hl, List.map_cons, ← zq_f1_map]; rfl) (fun ls1 hL1 => k H locs ls1 hI hL1)
theorem zq_lstore_n (C : zq_C X own cc nL Ts R0) {k4 : Fin 4} {i : Nat} {v x : Int64} (d : decode cc pc = .ok (.lstore_n k4, 1)) (hpc : pc + 1 = pc') (hi : (k4 : Nat) = i) (hn : i + 1 < nL) (e : v = x) (hl : (i, Value.long x) :: zq_f2 i lv = lv') (k : zq_W X cells slots h pc' lv' st) : zq_W X cells slots h pc lv (.long v :: st) := by
  subst e
  subst hpc
  obtain ⟨p, l, e, R, s, m, args, below, meth, c, Q, E⟩ := X
  obtain ⟨hx, hb, hml, hown, hts, hR, hK, hSF, hs0, hlocks, hst⟩ := C
  intro H locs ls hI hL
  exact lv_lstore_n hx hb d hi hL (by rw [hml]; exact hn) (by rw [← hl, List.map_cons, ← zq_f2_map]; rfl) (fun ls1 hL1 => k H locs ls1 hI hL1)
theorem zq_lstore (C : zq_C X own cc nL Ts R0) {i : Nat} {v x : Int64} (d : decode cc pc = .ok (.lstore i, 2)) (hpc : pc + 2 = pc') (hn : i + 1 < nL) (e : v = x) (hl : (i, Value.long x) :: zq_f2 i lv = lv') (k : zq_W X cells slots h pc' lv' st) : zq_W X cells slots h pc lv (.long v :: st) := by
  subst e
  subst hpc
  obtain ⟨p, l, e, R, s, m, args, below, meth, c, Q, E⟩ := X
  obtain ⟨hx, hb, hml, hown, hts, hR, hK, hSF, hs0, hlocks, hst⟩ := C
  intro H locs ls hI hL
  exact lv_lstore hx hb d hL (by rw [hml]; exact hn) (by rw [← hl, List.map_cons, ← zq_f2_map]; rfl) (fun ls1 hL1 => k H locs ls1 hI hL1)
theorem zq_dstore_n (C : zq_C X own cc nL Ts R0) {k4 : Fin 4} {i : Nat} {v x : UInt64} (d : decode cc pc = .ok (.dstore_n k4, 1)) (hpc : pc + 1 = pc') (hi : (k4 : Nat) = i) (hn : i + 1 < nL) (e : v = x) (hl : (i, Value.double x) :: zq_f2 i lv = lv') (k : zq_W X cells slots h pc' lv' st) : zq_W X cells slots h pc lv (.double v :: st) := by
  subst e
  subst hpc
  obtain ⟨p, l, e, R, s, m, args, below, meth, c, Q, E⟩ := X
  obtain ⟨hx, hb, hml, hown, hts, hR, hK, hSF, hs0, hlocks, hst⟩ := C
  intro H locs ls hI hL
  exact lv_dstore_n hx hb d hi hL (by rw [hml]; exact hn) (by rw [← hl, List.map_cons, ← zq_f2_map]; rfl) (fun ls1 hL1 => k H locs ls1 hI hL1)
theorem zq_dstore (C : zq_C X own cc nL Ts R0) {i : Nat} {v x : UInt64} (d : decode cc pc = .ok (.dstore i, 2)) (hpc : pc + 2 = pc') (hn : i + 1 < nL) (e : v = x) (hl : (i, Value.double x) :: zq_f2 i lv = lv') (k : zq_W X cells slots h pc' lv' st) : zq_W X cells slots h pc lv (.double v :: st) := by
  subst e
  subst hpc
  obtain ⟨p, l, e, R, s, m, args, below, meth, c, Q, E⟩ := X
  obtain ⟨hx, hb, hml, hown, hts, hR, hK, hSF, hs0, hlocks, hst⟩ := C
  intro H locs ls hI hL
  exact lv_dstore hx hb d hL (by rw [hml]; exact hn) (by rw [← hl, List.map_cons, ← zq_f2_map]; rfl) (fun ls1 hL1 => k H locs ls1 hI hL1)
theorem zq_astore_n (C : zq_C X own cc nL Ts R0) {k4 : Fin 4} {i : Nat} {v x : Nat} (d : decode cc pc = .ok (.astore_n k4, 1)) (hpc : pc + 1 = pc') (hi : (k4 : Nat) = i) (hn : i < nL) (e : v = x) (hl : (i, Value.ref x) :: zq_f1 i lv = lv') (k : zq_W X cells slots h pc' lv' st) : zq_W X cells slots h pc lv (.ref v :: st) := by
  subst e
  subst hpc
  obtain ⟨p, l, e, R, s, m, args, below, meth, c, Q, E⟩ := X
  obtain ⟨hx, hb, hml, hown, hts, hR, hK, hSF, hs0, hlocks, hst⟩ := C
  intro H locs ls hI hL
  exact lv_astore_n hx hb d hi hL (by rw [hml]; exact hn) (by rw [← hl, List.map_cons, ← zq_f1_map]; rfl) (fun ls1 hL1 => k H locs ls1 hI hL1)
theorem zq_astore (C : zq_C X own cc nL Ts R0) {i : Nat} {v x : Nat} (d : decode cc pc = .ok (.astore i, 2)) (hpc : pc + 2 = pc') (hn : i < nL) (e : v = x) (hl : (i, Value.ref x) :: zq_f1 i lv = lv') (k : zq_W X cells slots h pc' lv' st) : zq_W X cells slots h pc lv (.ref v :: st) := by
  subst e
  subst hpc
  obtain ⟨p, l, e, R, s, m, args, below, meth, c, Q, E⟩ := X
  obtain ⟨hx, hb, hml, hown, hts, hR, hK, hSF, hs0, hlocks, hst⟩ := C
  intro H locs ls hI hL
  exact lv_astore hx hb d hL (by rw [hml]; exact hn) (by rw [← hl, List.map_cons, ← zq_f1_map]; rfl) (fun ls1 hL1 => k H locs ls1 hI hL1)
theorem zq_iinc (C : zq_C X own cc nL Ts R0) {i : Nat} {n : Int} {x v : Int32} (d : decode cc pc = .ok (.iinc i n, 3)) (hpc : pc + 3 = pc') (hn : i < nL) (j : Nat) (hj : lv[j]? = some (i, .int x)) (he : x + Int32.ofInt n = v) (hl : (i, Value.int v) :: zq_f1 i lv = lv') (k : zq_W X cells slots h pc' lv' st) : zq_W X cells slots h pc lv st := by
  subst hpc
  obtain ⟨p, l, e, R, s, m, args, below, meth, c, Q, E⟩ := X
  obtain ⟨hx, hb, hml, hown, hts, hR, hK, hSF, hs0, hlocks, hst⟩ := C
  intro H locs ls hI hL
  exact lv_iinc hx hb d hL (k := j) (by rw [List.getElem?_map, hj]; rfl) he (by rw [hml]; exact hn) (by rw [← hl, List.map_cons, ← zq_f1_map]; rfl) (fun ls1 hL1 => k H locs ls1 hI hL1)
theorem zq_if_eq (C : zq_C X own cc nL Ts R0) {x : Int32} {off : Int} (tgt : Nat) (d : decode cc pc = .ok (.ifCond .eq off, 3)) (ht : (pc : Int) + off = (tgt : Int)) (hpc : pc + 3 = pc') (kt : x = 0 → zq_W X cells slots h tgt lv st) (kf : ¬ x = 0 → zq_W X cells slots h pc' lv st) : zq_W X cells slots h pc lv (.int x :: st) := by
  subst hpc
  obtain ⟨p, l, e, R, s, m, args, below, meth, c, Q, E⟩ := X
  obtain ⟨hx, hb, hml, hown, hts, hR, hK, hSF, hs0, hlocks, hst⟩ := C
  intro H locs ls hI hL
  exact lv_if_eq hx hb d ht (fun q => kt q H locs ls hI hL) (fun q => kf q H locs ls hI hL)
theorem zq_if_ne (C : zq_C X own cc nL Ts R0) {x : Int32} {off : Int} (tgt : Nat) (d : decode cc pc = .ok (.ifCond .ne off, 3)) (ht : (pc : Int) + off = (tgt : Int)) (hpc : pc + 3 = pc') (kt : ¬ x = 0 → zq_W X cells slots h tgt lv st) (kf : x = 0 → zq_W X cells slots h pc' lv st) : zq_W X cells slots h pc lv (.int x :: st) := by
  subst hpc
  obtain ⟨p, l, e, R, s, m, args, below, meth, c, Q, E⟩ := X
  obtain ⟨hx, hb, hml, hown, hts, hR, hK, hSF, hs0, hlocks, hst⟩ := C
  intro H locs ls hI hL
  exact lv_if_ne hx hb d ht (fun q => kt q H locs ls hI hL) (fun q => kf q H locs ls hI hL)
theorem zq_if_lt (C : zq_C X own cc nL Ts R0) {x : Int32} {off : Int} (tgt : Nat) (d : decode cc pc = .ok (.ifCond .lt off, 3)) (ht : (pc : Int) + off = (tgt : Int)) (hpc : pc + 3 = pc') (kt : x < 0 → zq_W X cells slots h tgt lv st) (kf : ¬ x < 0 → zq_W X cells slots h pc' lv st) : zq_W X cells slots h pc lv (.int x :: st) := by
  subst hpc
  obtain ⟨p, l, e, R, s, m, args, below, meth, c, Q, E⟩ := X
  obtain ⟨hx, hb, hml, hown, hts, hR, hK, hSF, hs0, hlocks, hst⟩ := C
  intro H locs ls hI hL
  exact lv_if_lt hx hb d ht (fun q => kt q H locs ls hI hL) (fun q => kf q H locs ls hI hL)
theorem zq_if_ge (C : zq_C X own cc nL Ts R0) {x : Int32} {off : Int} (tgt : Nat) (d : decode cc pc = .ok (.ifCond .ge off, 3)) (ht : (pc : Int) + off = (tgt : Int)) (hpc : pc + 3 = pc') (kt : 0 ≤ x → zq_W X cells slots h tgt lv st) (kf : ¬ 0 ≤ x → zq_W X cells slots h pc' lv st) : zq_W X cells slots h pc lv (.int x :: st) := by
  subst hpc
  obtain ⟨p, l, e, R, s, m, args, below, meth, c, Q, E⟩ := X
  obtain ⟨hx, hb, hml, hown, hts, hR, hK, hSF, hs0, hlocks, hst⟩ := C
  intro H locs ls hI hL
  exact lv_if_ge hx hb d ht (fun q => kt q H locs ls hI hL) (fun q => kf q H locs ls hI hL)
theorem zq_if_gt (C : zq_C X own cc nL Ts R0) {x : Int32} {off : Int} (tgt : Nat) (d : decode cc pc = .ok (.ifCond .gt off, 3)) (ht : (pc : Int) + off = (tgt : Int)) (hpc : pc + 3 = pc') (kt : 0 < x → zq_W X cells slots h tgt lv st) (kf : ¬ 0 < x → zq_W X cells slots h pc' lv st) : zq_W X cells slots h pc lv (.int x :: st) := by
  subst hpc
  obtain ⟨p, l, e, R, s, m, args, below, meth, c, Q, E⟩ := X
  obtain ⟨hx, hb, hml, hown, hts, hR, hK, hSF, hs0, hlocks, hst⟩ := C
  intro H locs ls hI hL
  exact lv_if_gt hx hb d ht (fun q => kt q H locs ls hI hL) (fun q => kf q H locs ls hI hL)
theorem zq_if_le (C : zq_C X own cc nL Ts R0) {x : Int32} {off : Int} (tgt : Nat) (d : decode cc pc = .ok (.ifCond .le off, 3)) (ht : (pc : Int) + off = (tgt : Int)) (hpc : pc + 3 = pc') (kt : x ≤ 0 → zq_W X cells slots h tgt lv st) (kf : ¬ x ≤ 0 → zq_W X cells slots h pc' lv st) : zq_W X cells slots h pc lv (.int x :: st) := by
  subst hpc
  obtain ⟨p, l, e, R, s, m, args, below, meth, c, Q, E⟩ := X
  obtain ⟨hx, hb, hml, hown, hts, hR, hK, hSF, hs0, hlocks, hst⟩ := C
  intro H locs ls hI hL
  exact lv_if_le hx hb d ht (fun q => kt q H locs ls hI hL) (fun q => kf q H locs ls hI hL)
theorem zq_icmp_eq (C : zq_C X own cc nL Ts R0) {x y : Int32} {off : Int} (tgt : Nat) (d : decode cc pc = .ok (.if_icmp .eq off, 3)) (ht : (pc : Int) + off = (tgt : Int)) (hpc : pc + 3 = pc') (kt : x = y → zq_W X cells slots h tgt lv st) (kf : ¬ x = y → zq_W X cells slots h pc' lv st) : zq_W X cells slots h pc lv (.int y :: .int x :: st) := by
  subst hpc
  obtain ⟨p, l, e, R, s, m, args, below, meth, c, Q, E⟩ := X
  obtain ⟨hx, hb, hml, hown, hts, hR, hK, hSF, hs0, hlocks, hst⟩ := C
  intro H locs ls hI hL
  exact lv_icmp_eq hx hb d ht (fun q => kt q H locs ls hI hL) (fun q => kf q H locs ls hI hL)
theorem zq_icmp_ne (C : zq_C X own cc nL Ts R0) {x y : Int32} {off : Int} (tgt : Nat) (d : decode cc pc = .ok (.if_icmp .ne off, 3)) (ht : (pc : Int) + off = (tgt : Int)) (hpc : pc + 3 = pc') (kt : ¬ x = y → zq_W X cells slots h tgt lv st) (kf : x = y → zq_W X cells slots h pc' lv st) : zq_W X cells slots h pc lv (.int y :: .int x :: st) := by
  subst hpc
  obtain ⟨p, l, e, R, s, m, args, below, meth, c, Q, E⟩ := X
  obtain ⟨hx, hb, hml, hown, hts, hR, hK, hSF, hs0, hlocks, hst⟩ := C
  intro H locs ls hI hL
  exact lv_icmp_ne hx hb d ht (fun q => kt q H locs ls hI hL) (fun q => kf q H locs ls hI hL)
theorem zq_icmp_lt (C : zq_C X own cc nL Ts R0) {x y : Int32} {off : Int} (tgt : Nat) (d : decode cc pc = .ok (.if_icmp .lt off, 3)) (ht : (pc : Int) + off = (tgt : Int)) (hpc : pc + 3 = pc') (kt : x < y → zq_W X cells slots h tgt lv st) (kf : ¬ x < y → zq_W X cells slots h pc' lv st) : zq_W X cells slots h pc lv (.int y :: .int x :: st) := by
  subst hpc
  obtain ⟨p, l, e, R, s, m, args, below, meth, c, Q, E⟩ := X
  obtain ⟨hx, hb, hml, hown, hts, hR, hK, hSF, hs0, hlocks, hst⟩ := C
  intro H locs ls hI hL
  exact lv_icmp_lt hx hb d ht (fun q => kt q H locs ls hI hL) (fun q => kf q H locs ls hI hL)
theorem zq_icmp_ge (C : zq_C X own cc nL Ts R0) {x y : Int32} {off : Int} (tgt : Nat) (d : decode cc pc = .ok (.if_icmp .ge off, 3)) (ht : (pc : Int) + off = (tgt : Int)) (hpc : pc + 3 = pc') (kt : y ≤ x → zq_W X cells slots h tgt lv st) (kf : ¬ y ≤ x → zq_W X cells slots h pc' lv st) : zq_W X cells slots h pc lv (.int y :: .int x :: st) := by
  subst hpc
  obtain ⟨p, l, e, R, s, m, args, below, meth, c, Q, E⟩ := X
  obtain ⟨hx, hb, hml, hown, hts, hR, hK, hSF, hs0, hlocks, hst⟩ := C
  intro H locs ls hI hL
  exact lv_icmp_ge hx hb d ht (fun q => kt q H locs ls hI hL) (fun q => kf q H locs ls hI hL)
theorem zq_icmp_gt (C : zq_C X own cc nL Ts R0) {x y : Int32} {off : Int} (tgt : Nat) (d : decode cc pc = .ok (.if_icmp .gt off, 3)) (ht : (pc : Int) + off = (tgt : Int)) (hpc : pc + 3 = pc') (kt : y < x → zq_W X cells slots h tgt lv st) (kf : ¬ y < x → zq_W X cells slots h pc' lv st) : zq_W X cells slots h pc lv (.int y :: .int x :: st) := by
  subst hpc
  obtain ⟨p, l, e, R, s, m, args, below, meth, c, Q, E⟩ := X
  obtain ⟨hx, hb, hml, hown, hts, hR, hK, hSF, hs0, hlocks, hst⟩ := C
  intro H locs ls hI hL
  exact lv_icmp_gt hx hb d ht (fun q => kt q H locs ls hI hL) (fun q => kf q H locs ls hI hL)
theorem zq_icmp_le (C : zq_C X own cc nL Ts R0) {x y : Int32} {off : Int} (tgt : Nat) (d : decode cc pc = .ok (.if_icmp .le off, 3)) (ht : (pc : Int) + off = (tgt : Int)) (hpc : pc + 3 = pc') (kt : x ≤ y → zq_W X cells slots h tgt lv st) (kf : ¬ x ≤ y → zq_W X cells slots h pc' lv st) : zq_W X cells slots h pc lv (.int y :: .int x :: st) := by
  subst hpc
  obtain ⟨p, l, e, R, s, m, args, below, meth, c, Q, E⟩ := X
  obtain ⟨hx, hb, hml, hown, hts, hR, hK, hSF, hs0, hlocks, hst⟩ := C
  intro H locs ls hI hL
  exact lv_icmp_le hx hb d ht (fun q => kt q H locs ls hI hL) (fun q => kf q H locs ls hI hL)
theorem zq_goto (C : zq_C X own cc nL Ts R0) {off : Int} (tgt : Nat) (d : decode cc pc = .ok (.goto off, 3)) (ht : (pc : Int) + off = (tgt : Int)) (k : zq_W X cells slots h tgt lv st) : zq_W X cells slots h pc lv st := by
  obtain ⟨p, l, e, R, s, m, args, below, meth, c, Q, E⟩ := X
  obtain ⟨hx, hb, hml, hown, hts, hR, hK, hSF, hs0, hlocks, hst⟩ := C
  intro H locs ls hI hL
  exact lv_goto hx hb d ht (k H locs ls hI hL)
theorem zq_tsIn (C : zq_C X own cc nL Ts R0) {dflt lo hi : Int} {offs : Array Int} {len : Nat} {x : Int32} {off : Int} (tgt : Nat) (d : decode cc pc = .ok (.tableswitch dflt lo hi offs, len)) (h1 : ¬ x.toInt < lo) (h2 : ¬ hi < x.toInt) (ho : offs[(x.toInt - lo).toNat]? = some off) (ht : (pc : Int) + off = (tgt : Int)) (k : zq_W X cells slots h tgt lv st) : zq_W X cells slots h pc lv (.int x :: st) := by
  obtain ⟨p, l, e, R, s, m, args, below, meth, c, Q, E⟩ := X
  obtain ⟨hx, hb, hml, hown, hts, hR, hK, hSF, hs0, hlocks, hst⟩ := C
  intro H locs ls hI hL
  exact lv_tableIn hx hb d h1 h2 ho ht (k H locs ls hI hL)
theorem zq_tsOut (C : zq_C X own cc nL Ts R0) {dflt lo hi : Int} {offs : Array Int} {len : Nat} {x : Int32} (tgt : Nat) (d : decode cc pc = .ok (.tableswitch dflt lo hi offs, len)) (ho : x.toInt < lo ∨ hi < x.toInt) (ht : (pc : Int) + dflt = (tgt : Int)) (k : zq_W X cells slots h tgt lv st) : zq_W X cells slots h pc lv (.int x :: st) := by
  obtain ⟨p, l, e, R, s, m, args, below, meth, c, Q, E⟩ := X
  obtain ⟨hx, hb, hml, hown, hts, hR, hK, hSF, hs0, hlocks, hst⟩ := C
  intro H locs ls hI hL
  exact lv_tableOut hx hb d ho ht (k H locs ls hI hL)
theorem zq_lookup (C : zq_C X own cc nL Ts R0) {dflt : Int} {ps : Array (Int × Int)} {len : Nat} {x : Int32} {off : Int} (tgt : Nat) (d : decode cc pc = .ok (.lookupswitch dflt ps, len)) (hp : (ps.toList.zip (ps.toList.drop 1)).all (fun (a, next) => a.1 < next.1) = true) (ho : Op.lookupswitch.offset ps.toList dflt x.toInt = off) (ht : (pc : Int) + off = (tgt : Int)) (k : zq_W X cells slots h tgt lv st) : zq_W X cells slots h pc lv (.int x :: st) := by
  obtain ⟨p, l, e, R, s, m, args, below, meth, c, Q, E⟩ := X
  obtain ⟨hx, hb, hml, hown, hts, hR, hK, hSF, hs0, hlocks, hst⟩ := C
  intro H locs ls hI hL
  exact lv_lookup hx hb d hp ho ht (k H locs ls hI hL)
theorem zq_ifnull (C : zq_C X own cc nL Ts R0) {r : Option Nat} {off : Int} (tgt : Nat) (d : decode cc pc = .ok (.ifnull off, 3)) (ht : (pc : Int) + off = (tgt : Int)) (hpc : pc + 3 = pc') (kt : r = none → zq_W X cells slots h tgt lv st) (kf : ¬ r = none → zq_W X cells slots h pc' lv st) : zq_W X cells slots h pc lv (zq_rv r :: st) := by
  subst hpc
  obtain ⟨p, l, e, R, s, m, args, below, meth, c, Q, E⟩ := X
  obtain ⟨hx, hb, hml, hown, hts, hR, hK, hSF, hs0, hlocks, hst⟩ := C
  intro H locs ls hI hL
  cases r with
  | none => exact lv_ifnullN hx hb d ht (kt rfl H locs ls hI hL)
  | some a => exact lv_ifnull hx hb d (kf (fun q => by cases q) H locs ls hI hL)
theorem zq_ifnonnull (C : zq_C X own cc nL Ts R0) {r : Option Nat} {off : Int} (tgt : Nat) (d : decode cc pc = .ok (.ifnonnull off, 3)) (ht : (pc : Int) + off = (tgt : Int)) (hpc : pc + 3 = pc') (kt : ¬ r = none → zq_W X cells slots h tgt lv st) (kf : r = none → zq_W X cells slots h pc' lv st) : zq_W X cells slots h pc lv (zq_rv r :: st) := by
  subst hpc
  obtain ⟨p, l, e, R, s, m, args, below, meth, c, Q, E⟩ := X
  obtain ⟨hx, hb, hml, hown, hts, hR, hK, hSF, hs0, hlocks, hst⟩ := C
  intro H locs ls hI hL
  cases r with
  | none => exact lv_ifnonnullN hx hb d (kf rfl H locs ls hI hL)
  | some a => exact lv_ifnonnull hx hb d ht (kt (fun q => by cases q) H locs ls hI hL)
theorem zq_acmp_ne (C : zq_C X own cc nL Ts R0) {a b : Nat} {off : Int} (tgt : Nat) (d : decode cc pc = .ok (.if_acmp .ne off, 3)) (ht : (pc : Int) + off = (tgt : Int)) (hpc : pc + 3 = pc') (kt : ¬ a = b → zq_W X cells slots h tgt lv st) (kf : a = b → zq_W X cells slots h pc' lv st) : zq_W X cells slots h pc lv (.ref b :: .ref a :: st) := by
  subst hpc
  obtain ⟨p, l, e, R, s, m, args, below, meth, c, Q, E⟩ := X
  obtain ⟨hx, hb, hml, hown, hts, hR, hK, hSF, hs0, hlocks, hst⟩ := C
  intro H locs ls hI hL
  refine lv_acmp_ne (rx := some (E.2.2.1 + a)) (ry := some (E.2.2.1 + b)) hx hb d ht (fun q => kt (fun z => q (by rw [z])) H locs ls hI hL) (fun q => kf (by have := Option.some.inj q; omega) H locs ls hI hL)
end ZQR
