/-! the base layer: heaps as functions of places, the judgement zq_W, a row an instruction -/
/-- a heap: how many cells, ints by place and index, longs, references (places) -/
abbrev zq_H : Type := Nat × (Nat → Nat → Int32) × (Nat → Nat → Int64) × (Nat → Nat → Option Nat)
/-- what stays: the tables' numbers, the array classes, the first address, the static arrays -/
abbrev zq_E : Type := va_G × (Nat → ClassId) × Nat × (Nat → Nat)
/-- the layout: 0..6 an object of that class, 10 int[], 11 long[], 12 FlipGraph[], 13 State[]; the length -/
def zq_shl : List (Nat × Nat) := [(5, 0), (12, 6), (0, 0), (1, 0), (10, 2), (10, 2), (10, 16), (10, 4), (10, 2), (10, 2), (10, 2), (10, 2), (10, 2), (10, 4), (0, 0), (1, 0), (10, 5), (10, 5), (10, 25), (10, 5), (10, 5), (10, 5), (10, 5), (10, 5), (10, 10), (10, 16), (0, 0), (1, 0), (10, 9), (10, 9), (10, 36), (10, 6), (10, 9), (10, 9), (10, 9), (10, 14), (10, 42), (10, 32), (0, 0), (1, 0), (10, 14), (10, 14), (10, 49), (10, 7), (10, 14), (10, 14), (10, 14), (10, 42), (10, 168), (10, 128), (0, 0), (1, 0), (10, 20), (10, 20), (10, 64), (10, 8), (10, 20), (10, 20), (10, 20), (10, 132), (10, 660), (10, 512), (0, 0), (1, 0), (10, 27), (10, 27), (10, 81), (10, 9), (10, 27), (10, 27), (10, 27), (10, 429), (10, 2574), (10, 1024), (3, 0), (13, 6), (3, 0), (3, 0), (3, 0), (3, 0), (3, 0), (3, 0), (13, 2), (3, 0), (3, 0), (4, 0), (10, 60), (2, 0), (10, 429), (10, 429), (10, 429), (2, 0), (10, 429), (10, 429), (10, 429), (2, 0), (10, 429), (10, 429), (10, 429), (2, 0), (10, 429), (10, 429), (10, 429), (10, 7), (6, 0), (10, 5), (10, 30), (10, 10), (10, 2), (10, 60), (10, 27), (10, 27), (10, 81), (10, 429), (10, 2574), (10, 429), (10, 429), (10, 429), (11, 1)]
def zq_sh (k : Nat) : Nat × Nat := zq_shl.getD k (99, 0)
def zq_fkl : List (List Nat) := [[2,0,0,0,0,2,2,2,0],[0,0,2,2,2,2,2,2,2],[2,2,2,2,0,0],[2,0,0,0,0],[2,0],[2,2,2,0,2,2,2,2,2,2,2],[2,0,2,2,2,0,2,0,0,0,2,2,2,0,2,2,0,0,2,2,2,1]]
def zq_fk (c : Nat) : List Nat := zq_fkl.getD c []
def zq_tr (s0 : Nat) : Value → Value
  | .ref k => .ref (s0 + k)
  | .retAddr a => .ref a
  | v => v
theorem zq_tr_cat (s0 : Nat) (v : Value) : (zq_tr s0 v).category = v.category := by cases v <;> rfl
theorem zq_tr_sum (s0 : Nat) (st : List Value) : ((st.map (zq_tr s0)).map fun v => v.category).sum = (st.map fun v => v.category).sum := by
  induction st with
  | nil => rfl
  | cons v st ih => simp only [List.map_cons, List.sum_cons, zq_tr_cat, ih]
/-- a reference that may be null -/
def zq_rv : Option Nat → Value
  | none => .null
  | some k => .ref k
theorem zq_tr_rv (s0 : Nat) (r : Option Nat) : zq_tr s0 (zq_rv r) = va_rf (r.map (s0 + ·)) := by cases r <;> rfl
def zq_fv (s0 : Nat) (h : zq_H) (t j k : Nat) : Value := if k = 0 then .int (h.2.1 t j) else if k = 1 then .long (h.2.2.1 t j) else va_rf ((h.2.2.2 t j).map (s0 + ·))
def zq_fs (c s0 : Nat) (h : zq_H) (t : Nat) : List Value := (zq_fk c).mapIdx (fun j k => zq_fv s0 h t j k)
def zq_cell (E : zq_E) (h : zq_H) (t : Nat) : va_E :=
  if (zq_sh t).1 = 10 then .inl (E.2.1 0, (zq_sh t).2, .inl (h.2.1 t))
  else if (zq_sh t).1 = 11 then .inl (E.2.1 1, (zq_sh t).2, .inr (.inl (h.2.2.1 t)))
  else if (zq_sh t).1 = 12 then .inl (E.2.1 2, (zq_sh t).2, .inr (.inr (.inr (.inr (fun j => (h.2.2.2 t j).map (E.2.2.1 + ·))))))
  else if (zq_sh t).1 = 13 then .inl (E.2.1 3, (zq_sh t).2, .inr (.inr (.inr (.inr (fun j => (h.2.2.2 t j).map (E.2.2.1 + ·))))))
  else .inr ((zq_sh t).1, zq_fs (zq_sh t).1 E.2.2.1 h t)
def zq_wl (E : zq_E) (h : zq_H) : va_W := (List.range h.1).map (fun t => (E.2.2.1 + t, zq_cell E h t))
theorem zq_wl_len (E : zq_E) (h : zq_H) : (zq_wl E h).length = h.1 := by simp [zq_wl]
theorem zq_wl_get {E : zq_E} {h : zq_H} {t : Nat} (ht : t < h.1) : (zq_wl E h)[t]? = some (E.2.2.1 + t, zq_cell E h t) := by
  simp [zq_wl, ht]
theorem zq_wl_inv {E : zq_E} {h : zq_H} {t : Nat} {q : Nat × va_E} (hq : (zq_wl E h)[t]? = some q) : t < h.1 ∧ q = (E.2.2.1 + t, zq_cell E h t) := by
  have hl : t < (zq_wl E h).length := (List.getElem?_eq_some_iff.mp hq).1
  rw [zq_wl_len] at hl
  exact ⟨hl, Option.some.inj (hq.symm.trans (zq_wl_get hl))⟩
theorem zq_wl_set {E : zq_E} {h h' : zq_H} {t : Nat} {e : va_E} (h1 : h'.1 = h.1) (ht : t < h.1) (he : zq_cell E h' t = e) (ho : ∀ j, j ≠ t → zq_cell E h' j = zq_cell E h j) : zq_wl E h' = (zq_wl E h).set t (E.2.2.1 + t, e) := by
  subst he
  apply List.ext_getElem?
  intro i
  by_cases hi : i = t
  · subst hi
    rw [zq_wl_get (by omega), List.getElem?_set_self (by rw [zq_wl_len]; exact ht)]
  · rw [List.getElem?_set_ne (Ne.symm hi)]
    by_cases hl : i < h.1
    · rw [zq_wl_get (by omega), zq_wl_get hl, ho i hi]
    · rw [List.getElem?_eq_none (by rw [zq_wl_len]; omega), List.getElem?_eq_none (by rw [zq_wl_len]; omega)]
theorem zq_wl_push {E : zq_E} {h h' : zq_H} {e : va_E} (h1 : h'.1 = h.1 + 1) (he : zq_cell E h' h.1 = e) (ho : ∀ j, j < h.1 → zq_cell E h' j = zq_cell E h j) : zq_wl E h' = zq_wl E h ++ [(E.2.2.1 + h.1, e)] := by
  subst he
  unfold zq_wl
  rw [h1, List.range_succ, List.map_append]
  congr 1
  apply List.map_congr_left
  intro j hj
  rw [ho j (List.mem_range.mp hj)]
theorem zq_wl_D (E : zq_E) (h : zq_H) : va_D (fun q => E.2.2.1 ≤ q) (zq_wl E h) := by
  refine ⟨fun i j p q hi hj hpq => ?_, fun k q hk => ?_⟩
  · rw [(zq_wl_inv hi).2, (zq_wl_inv hj).2] at hpq
    simp only at hpq
    omega
  · rw [(zq_wl_inv hk).2]
    simp only
    omega
/-- nest words -/
def zq_nw : List Cond := [
  .fieldLinkNest RX5 116 "FlipPolygons$State" "locks" "I" "FlipPolygons",
  .fieldLinkNest RX5 157 "FlipPolygons$State" "goal" "I" "FlipPolygons",
  .fieldLinkNest RX5 160 "FlipPolygons$State" "present" "I" "FlipPolygons",
  .fieldLinkNest RX5 189 "FlipPolygons$Text" "length" "I" "FlipPolygons",
  .fieldLinkNest RX5 221 "FlipPolygons$State" "flips" "I" "FlipPolygons",
  .fieldLinkNest RX5 320 "FlipPolygons$Polygon" "diagonals" "I" "FlipPolygons",
  .fieldLinkNest RX5 332 "FlipPolygons$FlipGraph" "triangulations" "I" "FlipPolygons",
  .fieldLinkNest RX5 335 "FlipPolygons$FlipGraph" "classes" "I" "FlipPolygons",
  .fieldLinkNest RX5 338 "FlipPolygons$FlipGraph" "diameter" "I" "FlipPolygons",
  .fieldLinkNest RX5 350 "FlipPolygons$Polygon" "lesser" "[I" "FlipPolygons",
  .fieldLinkNest RX5 353 "FlipPolygons$Polygon" "greater" "[I" "FlipPolygons",
  .fieldLinkNest RX5 83 "FlipPolygons$State" "graph" "LFlipPolygons$FlipGraph;" "FlipPolygons",
  .fieldLinkNest RX5 87 "FlipPolygons$FlipGraph" "polygon" "LFlipPolygons$Polygon;" "FlipPolygons",
  .fieldLinkNest RX5 91 "FlipPolygons$Polygon" "corners" "I" "FlipPolygons",
  .fieldLinkNest RX0 15 "FlipPolygons" "TRIANGULATIONS" "[I" "FlipPolygons",
  .fieldLinkNest RX0 19 "FlipPolygons$Polygon" "corners" "I" "FlipPolygons",
  .fieldLinkNest RX0 32 "FlipPolygons" "CLASSES" "[I" "FlipPolygons",
  .fieldLinkNest RX0 38 "FlipPolygons" "DIAMETERS" "[I" "FlipPolygons",
  .fieldLinkNest RX2 51 "FlipPolygons$FlipGraph" "flipsOfEach" "I" "FlipPolygons",
  .fieldLinkNest RX3 15 "FlipPolygons$FlipGraph" "polygon" "LFlipPolygons$Polygon;" "FlipPolygons",
  .fieldLinkNest RX4 19 "FlipPolygons$Polygon" "corners" "I" "FlipPolygons",
  .fieldLinkNest RX4 50 "FlipPolygons$Polygon" "crossing" "[I" "FlipPolygons",
  .methodLinkNest RX5 29 yX3_init "FlipPolygons",
  .methodLinkNest RX1 79 yX5_isIn "FlipPolygons",
  .methodLinkNest RX4 46 yX5_isIn "FlipPolygons"]
def zq_strs : List (Nat × String) := [(75, "n is out of range"), (105, "no such triangulation or diagonal"), (121, "the diagonal is not there, or is locked"), (130, "no such triangulation or corner"), (144, "no such triangulation"), (146, "k is out of range"), (163, "no such diagonal"), (165, "the diagonal is not there"), (167, "flips is out of range"), (173, "there is no distance"), (178, "the code is out of range"), (184, "the buffer is full"), (203, "the buffer is not a complete triangulation"), (208, "a diagonal is told twice, or two of them cross"), (213, "no such snapshot"), (219, "the snapshot was not taken"), (227, "no state is saved"), (229, "what is out of range")]
def zq_tab (i : Nat) : List Int32 := [[2, 5, 14, 42, 132, 429], [1, 1, 3, 4, 12, 27], [1, 2, 4, 5, 7, 9]].getD i []
def zq_stn (i : Nat) : String := ["TRIANGULATIONS", "CLASSES", "DIAMETERS"].getD i ""
theorem zq_Nw_warm {w : Cond} (hw : w ∈ zq_nw) {s U : State} (hW : s.WarmedH U.vm) (h : va_Nw w s) : va_Nw w U := by
  simp only [zq_nw, List.mem_cons, List.not_mem_nil, or_false] at hw
  rcases hw with rfl | rfl | rfl | rfl | rfl | rfl | rfl | rfl | rfl | rfl | rfl | rfl | rfl | rfl | rfl | rfl | rfl | rfl | rfl | rfl | rfl | rfl | rfl | rfl | rfl
  all_goals first | exact va_Nw.warmF hW h | exact va_Nw.warmM hW h
theorem zq_Nw_on {w : Cond} (hw : w ∈ zq_nw) : w.onTables = true := by
  have h : ∀ w ∈ zq_nw, w.onTables = true := by decide +kernel
  exact h w hw
/-- the exceptions: 0, 1, 2 -/
def zq_en (k : Nat) : String := if k = 0 then "java/lang/IllegalArgumentException" else if k = 1 then "java/lang/IndexOutOfBoundsException" else "java/lang/IllegalStateException"
def zq_nd : List Cond := [.declares (Bundle.initS "java/lang/RuntimeException"), .declares (Bundle.initS "java/lang/Exception"), .declares (Bundle.initS Bundle.tN), .castable (zq_en 0) (zq_en 0), .castable (zq_en 1) (zq_en 1), .castable (zq_en 2) (zq_en 2)]
def zq_SX (U : State) : Prop := (∀ w ∈ zq_nd, va_Nw w U) ∧ ∀ i j, i < 3 → j < 3 → i ≠ j → va_Nc (zq_en i) (zq_en j) U
theorem zq_nd_on {w : Cond} (hw : w ∈ zq_nd) : w.onTables = true := by
  have h : ∀ w ∈ zq_nd, w.onTables = true := by decide +kernel
  exact h w hw
theorem zq_SX.moved {s U : State} (hW : s.WarmedH U.vm) (h : zq_SX s) : zq_SX U := by
  refine ⟨fun w hw => ?_, fun i j hi hj hn => (h.2 i j hi hj hn).moved hW.alike⟩
  have h1 := h.1 w hw
  simp only [zq_nd, List.mem_cons, List.not_mem_nil, or_false] at hw
  rcases hw with rfl | rfl | rfl | rfl | rfl | rfl
  all_goals first | exact va_Nw.warmD hW h1 | exact va_Nw.warmC hW h1
theorem zq_SX.same {s U : State} (hv : U.vm = s.vm) (h : zq_SX s) : zq_SX U :=
  ⟨fun w hw => va_Nw.same (zq_nd_on hw) hv.symm (h.1 w hw), fun i j hi hj hn => (h.2 i j hi hj hn).moved (by rw [hv]; exact Vm.Alike.refl _)⟩
abbrev zq_A (E : zq_E) : Nat → Prop := fun q => E.2.2.1 ≤ q
/-- what stays of the start: nest words, the static arrays, the texts, what a throw wants -/
def zq_SF (E : zq_E) (U : State) (H : Heap) : Prop :=
  (∀ w ∈ zq_nw, va_Nw w U) ∧ (∀ i, i < 3 → va_Z "FlipPolygons" (zq_stn i) "[I" (.ref (E.2.2.2 i)) (zq_A E) U H ∧ va_T .int (E.2.2.2 i) 6 (fun j => .int ((zq_tab i).getD j 0)) (zq_A E) U H) ∧
  (∀ q ∈ zq_strs, ∃ a, vk_R "FlipPolygons" q.1 q.2 a U) ∧ vx_Zq Bundle.tN "UNASSIGNED_STACK" Bundle.steD (zq_A E) U H ∧ vx_Zq Bundle.tN "SUPPRESSED_SENTINEL" Bundle.listD (zq_A E) U H ∧ va_AO "FlipPolygons$FlipGraph" U ∧ va_AO "FlipPolygons$State" U ∧ zq_SX U
theorem zq_SF.moved {E : zq_E} {s U : State} {H0 H : Heap} (hW : s.WarmedH U.vm) (hk : ∀ a : Nat, a < H0.size → ¬ zq_A E a → H[a]? = H0[a]?) (h : zq_SF E s H0) : zq_SF E U H := by
  obtain ⟨h1, h2, h3, h4, h5, h6, h7, h8⟩ := h
  refine ⟨fun w hw => zq_Nw_warm hw hW (h1 w hw), fun i hi => ⟨((h2 i hi).1.kept hk).moved hW.alike, ((h2 i hi).2.kept hk).moved hW.alike⟩, fun q hq => ?_, (h4.kept hk).moved hW.alike, (h5.kept hk).moved hW.alike, h6.moved hW.alike, h7.moved hW.alike, h8.moved hW⟩
  obtain ⟨a, ha⟩ := h3 q hq
  exact ⟨a, ha.warm hW⟩
theorem zq_SF.same {E : zq_E} {s U : State} {H : Heap} (hv : U.vm = s.vm) (h : zq_SF E s H) : zq_SF E U H := by
  obtain ⟨h1, h2, h3, h4, h5, h6, h7, h8⟩ := h
  have hal : s.vm.Alike U.vm := by rw [hv]; exact Vm.Alike.refl _
  refine ⟨fun w hw => va_Nw.same (zq_Nw_on hw) hv.symm (h1 w hw), fun i hi => ⟨(h2 i hi).1.moved hal, (h2 i hi).2.moved hal⟩, fun q hq => ?_, h4.moved hal, h5.moved hal, h6.moved hal, h7.moved hal, h8.same hv⟩
  obtain ⟨a, ha⟩ := h3 q hq
  exact ⟨a, ha.same hv⟩
abbrev zq_tys (E : zq_E) : List (ClassId × FieldType) := [(E.2.1 0, .int), (E.2.1 1, .long), (E.2.1 2, .object "FlipPolygons$FlipGraph"), (E.2.1 3, .object "FlipPolygons$State")]
/-- what a method finds; tz: the heap's size is told -/
def zq_Pre (E : zq_E) (h : zq_H) (tz : Option Nat) (U : State) : Prop :=
  va_P E.1 vwCl (zq_wl E h) U.heap ∧ va_K E.1 vwCl (zq_tys E) U ∧ zq_SF E U U.heap ∧ E.2.2.1 ≤ U.heap.size ∧ ∀ n, tz = some n → U.heap.size = E.2.2.1 + n
theorem zq_Pre.blind {E : zq_E} {h : zq_H} {tz : Option Nat} (av : List Value) : FrameBlind (va_Pc av (zq_Pre E h tz)) := by
  intro a U g mk hq
  obtain ⟨q0, q1, q2, q3, q4⟩ := hq
  exact ⟨q0, q1, va_K.moved (u := U) (U := U.calling g mk a) (Vm.Alike.refl U.vm) q2, zq_SF.same (s := U) (U := U.calling g mk a) rfl q3, q4⟩
def zq_Q (E : zq_E) (rv : Option Value) (h' : zq_H) : Array Value → State → Outcome → State → Prop := fun _ st o t =>
  o = .returned (rv.map (zq_tr E.2.2.1)) ∧ va_P E.1 vwCl (zq_wl E h') t.heap ∧ va_F (zq_A E) st t
def zq_XC (E : zq_E) (o : String × zq_H) : String → State → State → Prop := fun C st t => C = o.1 ∧ va_P E.1 vwCl (zq_wl E o.2) t.heap ∧ va_F (zq_A E) st t
/-- a contract: from the heap h with these arguments the method returns rv and leaves h' -/
def zq_M (tz : Option Nat) (y : MethodName) (ws : List Cond) (rm : Room) (as : List Value) (h : zq_H) (rv : Option Value) (h' : zq_H) : Prop :=
  ∀ (l : Launch) (E : zq_E), l.stackTraces = false → Met l y ws rm (va_Pc (as.map (zq_tr E.2.2.1)) (zq_Pre E h tz)) (zq_Q E rv h') rm.cells rm.slots (zq_A E)
/-- the same of a method that may throw: it returns rv (inl), or throws (inr) -/
def zq_Mx (y : MethodName) (ws : List Cond) (rm : Room) (as : List Value) (h : zq_H) (o : (Option Value × zq_H) ⊕ (String × zq_H)) : Prop :=
  ∀ (l : Launch) (E : zq_E), l.stackTraces = false → vx_Met l y ws rm (va_Pc (as.map (zq_tr E.2.2.1)) (zq_Pre E h none))
    (fun a st oc t => ∃ q, o = .inl q ∧ zq_Q E q.1 q.2 a st oc t) (fun C st t => ∃ q, o = .inr q ∧ zq_XC E q C st t) rm.cells rm.slots (zq_A E)
/-- a method's activation -/
abbrev zq_X : Type := Program × Launch × Env × Room × State × MethodId × Array Value × List Frame × Method × Code × (State → Prop) × zq_E
def zq_In (E : zq_E) (s : State) (h : zq_H) (H : Heap) (locs : List Loc) : Prop := va_P E.1 vwCl (zq_wl E h) H ∧ va_S (zq_A E) s.heap H locs
/-- from the heap h, at pc, with the locals lv and the stack st, the activation comes to its end -/
def zq_W (X : zq_X) (cells slots : Nat) (h : zq_H) (pc : Nat) (lv : List (Nat × Value)) (st : List Value) : Prop :=
  match X with
  | (p, l, e, R, s, m, args, below, meth, c, Q, E) => ∀ (H : Heap) (locs : List Loc) (ls : Array Slot), zq_In E s h H locs → lv_has ls c.maxLocals (lv.map (fun q => (q.1, zq_tr E.2.2.1 q.2))) → W p l e R s m args below meth c H locs cells slots Q (F0 m pc ls (st.map (zq_tr E.2.2.1)))
/-- what stands of an activation all the time -/
def zq_C (X : zq_X) (own : String) (cc : ByteArray) (nL : Nat) (Ts : List Cond) (R0 : Room) : Prop :=
  match X with
  | (p, l, _, R, s, m, args, _, meth, c, _, E) => p.tables.exec = Jvm.exec ∧ c.code = cc ∧ c.maxLocals = nL ∧ s.vm.findClass own = some m.cls ∧ (∀ w ∈ Ts, w.before args s = true) ∧ R = R0 ∧ va_K E.1 vwCl (zq_tys E) s ∧ zq_SF E s s.heap ∧ E.2.2.1 ≤ s.heap.size ∧ meth.locks = false ∧ l.stackTraces = false
/-- the size of the heap at the start -/
def zq_T (X : zq_X) (tz : Option Nat) : Prop :=
  match X with
  | (_, _, _, _, s, _, _, _, _, _, _, E) => ∀ n, tz = some n → s.heap.size = E.2.2.1 + n
def zq_rin : Option Value → Instr
  | none => .return_
  | some (.int _) => .ireturn
  | some (.long _) => .lreturn
  | some (.double _) => .dreturn
  | _ => .areturn
def zq_rok (ret : Option FieldType) : Option Value → Prop
  | none => ret = none
  | some (.int v) => ∃ ty, ret = some ty ∧ narrow ty (.int v) = .int v
  | some (.long _) => ret = some .long
  | some (.double _) => ret = some .double
  | some (.ref _) => ∃ n, ret = some (.object n)
  | _ => False
/-- at a return instruction with rv on the stack and the heap h' all is done -/
def zq_End (X : zq_X) (cc : ByteArray) (mc ms : Nat) (rv : Option Value) (h' : zq_H) : Prop :=
  ∀ (cells slots pc : Nat) (lv : List (Nat × Value)), cells ≤ mc → slots ≤ ms → decode cc pc = .ok (zq_rin rv, 1) → zq_W X cells slots h' pc lv rv.toList
theorem zq_args (s0 : Nat) : ∀ (n : Nat) (as : List Value), lv_args n (as.map (zq_tr s0)) = (lv_args n as).map (fun q => (q.1, zq_tr s0 q.2))
  | _, [] => rfl
  | n, v :: as => by
    simp only [List.map_cons, lv_args, zq_tr_cat]
    rw [zq_args s0 _ as]
theorem zq_sl (s0 : Nat) : ∀ (as : List Value), (lg_sl (as.map (zq_tr s0))).length = (lg_sl as).length
  | [] => rfl
  | v :: as => by
    have ih := zq_sl s0 as
    simp only [lg_sl, List.map_cons, List.flatMap_cons, List.length_append, zq_tr_cat] at ih ⊢
    rw [ih]
    split <;> rfl
theorem zq_end {p : Program} {l : Launch} {e : Env} {R : Room} {s : State} {m : MethodId} {args : Array Value} {below : List Frame} {meth : Method} {c : Code} {E : zq_E} {own : String} {cc : ByteArray} {nL mc ms : Nat} {ret : Option FieldType} {Ts : List Cond} {R0 : Room} {rv : Option Value} {h' : zq_H} (Qc : Array Value → State → Outcome → State → Prop) (hQ : ∀ a st oc t, zq_Q E rv h' a st oc t → Qc a st oc t)
    (C : zq_C (p, l, e, R, s, m, args, below, meth, c, MQ below Qc args s mc ms (zq_A E), E) own cc nL Ts R0) (hr : meth.sig.returnType = ret) (hrv : zq_rok ret rv) : zq_End (p, l, e, R, s, m, args, below, meth, c, MQ below Qc args s mc ms (zq_A E), E) cc mc ms rv h' := by
  obtain ⟨hx, hb, hml, hown, hts, hR, hK, hSF, hs0, hlocks, hst⟩ := C
  intro cells slots pc lv hc hs d H locs ls hI hL
  obtain ⟨hP, hS⟩ := hI
  refine W.widen (k := mc) (n := ms) hc hs ?_
  have hq : ∀ t : State, t.heap = H → s.WarmedH t.vm → Qc args s (.returned (rv.map (zq_tr E.2.2.1))) t := fun t ht _ => hQ _ _ _ _ ⟨rfl, by rw [ht]; exact hP, hS.F ht⟩
  cases rv with
  | none => exact W.vret hx hb (by rw [hr]; exact hrv) hq hS.2.2 d
  | some v =>
    cases v with
    | int v =>
      obtain ⟨ty, h1, h2⟩ := hrv
      exact W.zret hx hb (by rw [hr]; exact h1) h2 hq hS.2.2 d
    | long v => exact W.lret hx hb (by rw [hr]; exact hrv) hq hS.2.2 d
    | double v => exact W.dret hx hb (by rw [hr]; exact hrv) hq hS.2.2 d
    | ref a =>
      obtain ⟨n, h1⟩ := hrv
      exact W.aret hx hb (rt := .object n) (by rw [hr]; exact h1) (Or.inl ⟨n, rfl⟩) (Or.inr ⟨_, rfl⟩) hq hS.2.2 d
    | float v => exact absurd hrv id
    | null => exact absurd hrv id
    | retAddr v => exact absurd hrv id
theorem zq_met {tz : Option Nat} {y : MethodName} {ws ws' : List Cond} {rm : Room} {cc : ByteArray} {nL : Nat} {ret : Option FieldType} {own : String} {as : List Value} {h h' : zq_H} {rv : Option Value} (hy : plainName y.cls = true) (hw : ws = Cond.code y cc nL ret :: ws') (hcls : y.cls = own) (hlen : (lg_sl as).length ≤ nL) (hrv : zq_rok ret rv)
    (body : ∀ X : zq_X, zq_C X own cc nL ws rm → zq_T X tz → X.2.2.2.2.2.2.2.2.1.name = y.name → zq_End X cc rm.cells rm.slots rv h' → zq_W X 0 0 h 0 (lv_args 0 as) []) : zq_M tz y ws rm as h rv h' := by
  intro l E hst
  refine Met.ofW (cc := cc) (maxL := nL) (ret := ret) hy hw ?_
  intro p e s m args below meth c s₁ B hml hv
  obtain ⟨rfl, hP, hK, hSF, hs0, htz⟩ := hv
  have hts := atoms_spec (ws := ws) B.pre
  have hown : s.vm.findClass own = some m.cls := by rw [← hcls]; exact findClass_of_methodNamed B.named
  have hin : meth.name = y.name := (name_of_methodNamed B.named B.method).1
  have hl := lv_entry (as.map (zq_tr E.2.2.1)) (n := nL) (by rw [zq_sl]; exact hlen)
  rw [zq_args] at hl
  rw [lg_entry_eq]
  have C : zq_C (p, l, e, (headSpec ws rm).room, s, m, (as.map (zq_tr E.2.2.1)).toArray, below, meth, c, MQ below (zq_Q E rv h') (as.map (zq_tr E.2.2.1)).toArray s rm.cells rm.slots (zq_A E), E) own cc nL ws rm := ⟨B.exec, B.bytes, hml, hown, hts, rfl, hK, hSF, hs0, B.notSynchronized, hst⟩
  exact body (p, l, e, (headSpec ws rm).room, s, m, (as.map (zq_tr E.2.2.1)).toArray, below, meth, c, MQ below (zq_Q E rv h') (as.map (zq_tr E.2.2.1)).toArray s rm.cells rm.slots (zq_A E), E) C htz hin (zq_end _ (fun _ _ _ _ hh => hh) C B.returns hrv) s.heap [] _ ⟨hP, va_S.rf⟩ (by rw [hml]; exact hl)
