/-! methods that throw, and methods that catch -/
abbrev zq_nms : List String := ["java/lang/RuntimeException", "java/lang/Exception"]
def zq_ik (k : Nat) : Nat := if k = 0 then 73 else if k = 1 then 103 else 119
def zq_ic (k : Nat) : Nat := if k = 0 then 77 else if k = 1 then 107 else 123
theorem zq_hg0 : ∀ w ∈ (vx_atS RX5 77 (zq_en 0) zq_nms).filter goodWord, w ∈ zq_all := by
  intro w hw
  have h : w ∈ lw_tbl := by
    revert w
    decide +kernel
  exact zq_all_ok h (List.mem_filter.mp hw).2
theorem zq_hg1 : ∀ w ∈ (vx_atS RX5 107 (zq_en 1) zq_nms).filter goodWord, w ∈ zq_all := by
  intro w hw
  have h : w ∈ lw_tbl := by
    revert w
    decide +kernel
  exact zq_all_ok h (List.mem_filter.mp hw).2
theorem zq_hg2 : ∀ w ∈ (vx_atS RX5 123 (zq_en 2) zq_nms).filter goodWord, w ∈ zq_all := by
  intro w hw
  have h : w ∈ lw_tbl := by
    revert w
    decide +kernel
  exact zq_all_ok h (List.mem_filter.mp hw).2
theorem zq_hat {k : Nat} (hk : k < 3) {args : Array Value} {s : State} (hts : ∀ w ∈ zq_all, w.before args s = true) (hnd : ∀ w ∈ zq_nd, va_Nw w s) : ∀ w ∈ vx_atS RX5 (zq_ic k) (zq_en k) zq_nms, w.before args s = true := by
  have h3 : ∀ w ∈ zq_nd, w.before args s = true := fun w hw => va_Nw.use (zq_nd_on hw) (hnd w hw)
  rcases (show k = 0 ∨ k = 1 ∨ k = 2 by omega) with rfl | rfl | rfl
  · exact vx_hat (fun w hw => hts w (zq_hg0 w hw)) (by decide +kernel) h3
  · exact vx_hat (fun w hw => hts w (zq_hg1 w hw)) (by decide +kernel) h3
  · exact vx_hat (fun w hw => hts w (zq_hg2 w hw)) (by decide +kernel) h3
theorem zq_hgd {k : Nat} (hk : k < 3) : ∀ w ∈ Cond.classLink RX5 (zq_ik k) (zq_en k) :: Cond.initialized (zq_en k) :: vx_atS RX5 (zq_ic k) (zq_en k) zq_nms, vx_ot w = true := by
  rcases (show k = 0 ∨ k = 1 ∨ k = 2 by omega) with rfl | rfl | rfl
  · decide +kernel
  · decide +kernel
  · decide +kernel
theorem zq_ecl {k : Nat} (hk : k < 3) : Cond.classLink RX5 (zq_ik k) (zq_en k) ∈ zq_all ∧ Cond.initialized (zq_en k) ∈ zq_all := by
  rcases (show k = 0 ∨ k = 1 ∨ k = 2 by omega) with rfl | rfl | rfl
  · exact ⟨wd_243, wd_244⟩
  · exact ⟨wd_259, wd_260⟩
  · exact ⟨wd_261, wd_262⟩
theorem zq_fit {k : Nat} (hk : k < 3) : Bundle.fit (zq_en k) = true := by
  rcases (show k = 0 ∨ k = 1 ∨ k = 2 by omega) with rfl | rfl | rfl <;> decide +kernel
def zq_Tab (X : zq_X) (t : List ExceptionTableEntry) : Prop :=
  match X with
  | (_, _, _, _, _, _, _, _, _, c, _, _) => c.exceptionTable.toList = t
/-- the exception k, thrown over the heap h', ends all -/
def zq_Thr (X : zq_X) (mc ms k : Nat) (h' : zq_H) : Prop :=
  match X with
  | (_, _, _, _, s, _, args, below, _, c, Q, E) => c.exceptionTable.toList = [] ∧ ∃ Qc XC, Q = vx_MQ below Qc XC args s mc ms (zq_A E) ∧ ∀ t, zq_XC E (zq_en k, h') (zq_en k) s t → XC (zq_en k) s t
section ZQT
variable {X : zq_X} {own : String} {cc : ByteArray} {nL : Nat} {R0 : Room} {cells slots : Nat} {h h' : zq_H} {pc pc' : Nat} {lv lv' : List (Nat × Value)} {st : List Value}
theorem zq_throwS (C : zq_C X RX5 cc nL zq_all R0) {mc ms : Nat} {is : Nat} (k : Nat) (text : String) (hk : k < 3) (hstr : (is, text) ∈ zq_strs) (d0 : decode cc pc = .ok (.new (zq_ik k), 3)) (d3 : decode cc (pc + 3) = .ok (.dup, 1)) (d4 : decode cc (pc + 4) = .ok (.ldc is, 2)) (d6 : decode cc (pc + 6) = .ok (.invokespecial (zq_ic k), 3)) (d9 : decode cc (pc + 9) = .ok (.athrow, 1))
    (hf : 5 < R0.frames) (hlo : (st.map fun v => v.category).sum + 82 ≤ R0.locals) (hcs : cells + 1 ≤ mc ∧ slots + 6 ≤ ms) (hR : mc ≤ R0.cells ∧ ms ≤ R0.slots) (hT : zq_Thr X mc ms k h) : zq_W X cells slots h pc lv st := by
  obtain ⟨p, l, e, R, s, m, args, below, meth, c, Q, E⟩ := X
  obtain ⟨hx, hbb, hml, hown, hts, rfl, hK, hSF, hs0, hlocks, hst⟩ := C
  obtain ⟨hnil, Qc, XC, rfl, hXC⟩ := hT
  obtain ⟨sa, hsa⟩ := hSF.2.2.1 _ hstr
  intro H locs ls hI hL
  refine vx_throwS hx hbb hst hown (zq_fit hk) (by decide +kernel) (hts _ (zq_ecl hk).1) (hts _ (zq_ecl hk).2) hsa (zq_hat hk hts hSF.2.2.2.2.2.2.2.1) (zq_hgd hk) hSF.2.2.2.1 hSF.2.2.2.2.1 hI.2 hL.1 d0 d3 d4 d6 d9 (by rw [hnil]; intro x hx; cases hx) hf (by rw [zq_tr_sum]; exact hlo) (by omega) (by omega) hlocks ?_ hI.2.2.2 hcs.1 hcs.2
  intro t _ h1 h2
  refine hXC t ⟨rfl, hI.1.kept (fun k q hq => h2 q.1 ((hI.1 k q hq).lt)), Nat.le_trans hI.2.1 h1, fun q h3 h4 => ?_⟩
  rw [h2 q (Nat.lt_of_lt_of_le h3 hI.2.1)]
  exact hI.2.2.1 q h3 h4
theorem zq_throwSW (C : zq_C X RX5 cc nL zq_all R0) {mc ms : Nat} {is : Nat} (k : Nat) (text : String) (hk : k < 3) (hstr : (is, text) ∈ zq_strs) (d0 : decode cc pc = .ok (.new (zq_ik k), 3)) (d3 : decode cc (pc + 3) = .ok (.dup, 1)) (d4 : decode cc (pc + 4) = .ok (.ldc_w is, 3)) (d6 : decode cc (pc + 7) = .ok (.invokespecial (zq_ic k), 3)) (d9 : decode cc (pc + 10) = .ok (.athrow, 1))
    (hf : 5 < R0.frames) (hlo : (st.map fun v => v.category).sum + 82 ≤ R0.locals) (hcs : cells + 1 ≤ mc ∧ slots + 6 ≤ ms) (hR : mc ≤ R0.cells ∧ ms ≤ R0.slots) (hT : zq_Thr X mc ms k h) : zq_W X cells slots h pc lv st := by
  obtain ⟨p, l, e, R, s, m, args, below, meth, c, Q, E⟩ := X
  obtain ⟨hx, hbb, hml, hown, hts, rfl, hK, hSF, hs0, hlocks, hst⟩ := C
  obtain ⟨hnil, Qc, XC, rfl, hXC⟩ := hT
  obtain ⟨sa, hsa⟩ := hSF.2.2.1 _ hstr
  intro H locs ls hI hL
  refine vx_throwSW hx hbb hst hown (zq_fit hk) (by decide +kernel) (hts _ (zq_ecl hk).1) (hts _ (zq_ecl hk).2) hsa (zq_hat hk hts hSF.2.2.2.2.2.2.2.1) (zq_hgd hk) hSF.2.2.2.1 hSF.2.2.2.2.1 hI.2 hL.1 d0 d3 d4 d6 d9 (by rw [hnil]; intro x hx; cases hx) hf (by rw [zq_tr_sum]; exact hlo) (by omega) (by omega) hlocks ?_ hI.2.2.2 hcs.1 hcs.2
  intro t _ h1 h2
  refine hXC t ⟨rfl, hI.1.kept (fun k q hq => h2 q.1 ((hI.1 k q hq).lt)), Nat.le_trans hI.2.1 h1, fun q h3 h4 => ?_⟩
  rw [h2 q (Nat.lt_of_lt_of_le h3 hI.2.1)]
  exact hI.2.2.1 q h3 h4
def zq_ox : (Int32 × zq_H) ⊕ (Nat × zq_H) → (Option Value × zq_H) ⊕ (String × zq_H)
  | .inl q => .inl (some (.int q.1), q.2)
  | .inr q => .inr (zq_en q.1, q.2)
theorem zq_endx {p : Program} {l : Launch} {e : Env} {R : Room} {s : State} {m : MethodId} {args : Array Value} {below : List Frame} {meth : Method} {c : Code} {E : zq_E} {own : String} {cc : ByteArray} {nL mc ms : Nat} {Ts : List Cond} {R0 : Room} {v : Int32} {h' : zq_H} (Qc : Array Value → State → Outcome → State → Prop) (XC : String → State → State → Prop) (hQ : ∀ a st oc t, zq_Q E (some (.int v)) h' a st oc t → Qc a st oc t)
    (C : zq_C (p, l, e, R, s, m, args, below, meth, c, vx_MQ below Qc XC args s mc ms (zq_A E), E) own cc nL Ts R0) (hr : meth.sig.returnType = some .int) : zq_End (p, l, e, R, s, m, args, below, meth, c, vx_MQ below Qc XC args s mc ms (zq_A E), E) cc mc ms (some (.int v)) h' := by
  obtain ⟨hx, hb, hml, hown, hts, hR, hK, hSF, hs0, hlocks, hst⟩ := C
  intro cells slots pc lv hc hs d H locs ls hI hL
  obtain ⟨hP, hS⟩ := hI
  refine W.widen (k := mc) (n := ms) hc hs (vx_ret ?_)
  have hq : ∀ t : State, t.heap = H → s.WarmedH t.vm → Qc args s (.returned (some (.int v))) t := fun t ht _ => hQ _ _ _ _ ⟨rfl, by rw [ht]; exact hP, hS.F ht⟩
  exact W.zret hx hb hr rfl hq hS.2.2 d
theorem zq_metx {y : MethodName} {rm : Room} {as : List Value} {out : (Int32 × zq_H) ⊕ (Nat × zq_H)} (hy : plainName y.cls = true) (hcls : y.cls = own) (hlen : (lg_sl as).length ≤ nL) (hlv : lv_args 0 as = lv)
    (body : ∀ X : zq_X, zq_C X own cc nL zq_all rm → zq_T X none → X.2.2.2.2.2.2.2.2.1.name = y.name → (∀ q, out = .inl q → zq_End X cc rm.cells rm.slots (some (.int q.1)) q.2) → (∀ q, out = .inr q → zq_Thr X rm.cells rm.slots q.1 q.2) → zq_W X 0 0 h 0 lv []) : zq_Mx y (Cond.code y cc nL (some .int) :: zq_all) rm as h (zq_ox out) := by
  subst hlv
  intro l E hst
  refine vx_ofW (cc := cc) (maxL := nL) (ret := some .int) hy rfl ?_
  intro p e s m args below meth c s₁ B hml ht hv
  obtain ⟨rfl, hP, hK, hSF, hs0, htz⟩ := hv
  have hts := atoms_spec (ws := Cond.code y cc nL (some .int) :: zq_all) B.pre
  have hown : s.vm.findClass own = some m.cls := by rw [← hcls]; exact findClass_of_methodNamed B.named
  have hin : meth.name = y.name := (name_of_methodNamed B.named B.method).1
  have hl := lv_entry (as.map (zq_tr E.2.2.1)) (n := nL) (by rw [zq_sl]; exact hlen)
  rw [zq_args] at hl
  rw [lg_entry_eq]
  have hnil : c.exceptionTable.toList = [] := List.eq_nil_iff_forall_not_mem.mpr (fun x hx => ht x hx)
  refine body (p, l, e, (headSpec (Cond.code y cc nL (some .int) :: zq_all) rm).room, s, m, (as.map (zq_tr E.2.2.1)).toArray, below, meth, c, vx_MQ below _ _ (as.map (zq_tr E.2.2.1)).toArray s rm.cells rm.slots (zq_A E), E) ⟨B.exec, B.bytes, hml, hown, fun w hw => hts w (List.mem_cons_of_mem _ hw), rfl, hK, hSF, hs0, B.notSynchronized, hst⟩ (fun n hn => by cases hn) hin (fun q hq => ?_) (fun q hq => ?_) s.heap [] _ ⟨hP, va_S.rf⟩ (by rw [hml]; exact hl)
  · subst hq
    exact zq_endx (own := own) (nL := nL) (Ts := zq_all) (R0 := rm) _ _ (fun a st oc t hh => ⟨_, rfl, hh⟩) ⟨B.exec, B.bytes, hml, hown, fun w hw => hts w (List.mem_cons_of_mem _ hw), rfl, hK, hSF, hs0, B.notSynchronized, hst⟩ B.returns
  · subst hq
    exact ⟨hnil, _, _, rfl, fun t hh => ⟨_, rfl, hh⟩⟩
theorem zq_metxH {hh : List (Nat × Nat × Nat × Nat)} {y : MethodName} {rm : Room} {as : List Value} {out : Int32 × zq_H} (hy : plainName y.cls = true) (hcls : y.cls = own) (hlen : (lg_sl as).length ≤ nL) (hlv : lv_args 0 as = lv)
    (body : ∀ X : zq_X, zq_C X own cc nL zq_all rm → zq_Tab X (tableOf hh) → zq_End X cc rm.cells rm.slots (some (.int out.1)) out.2 → zq_W X 0 0 h 0 lv []) : zq_Mx y (Cond.codeWith y cc nL (some .int) hh :: zq_all) rm as h (.inl (some (.int out.1), out.2)) := by
  subst hlv
  intro l E hst
  refine vx_ofWH (cc := cc) (maxL := nL) (ret := some .int) (hh := hh) hy rfl ?_
  intro p e s m args below meth c s₁ B hml hv
  obtain ⟨rfl, hP, hK, hSF, hs0, htz⟩ := hv
  have hts := atoms_spec (ws := Cond.codeWith y cc nL (some .int) hh :: zq_all) B.pre
  have hown : s.vm.findClass own = some m.cls := by rw [← hcls]; exact findClass_of_methodNamed B.named
  have hl := lv_entry (as.map (zq_tr E.2.2.1)) (n := nL) (by rw [zq_sl]; exact hlen)
  rw [zq_args] at hl
  rw [lg_entry_eq]
  have htab : c.exceptionTable.toList = tableOf hh := vx_table (x := y) B (hts _ List.mem_cons_self)
  refine body (p, l, e, (headSpec (Cond.codeWith y cc nL (some .int) hh :: zq_all) rm).room, s, m, (as.map (zq_tr E.2.2.1)).toArray, below, meth, c, vx_MQ below _ _ (as.map (zq_tr E.2.2.1)).toArray s rm.cells rm.slots (zq_A E), E) ⟨B.exec, B.bytes, hml, hown, fun w hw => hts w (List.mem_cons_of_mem _ hw), rfl, hK, hSF, hs0, B.notSynchronized, hst⟩ htab ?_ s.heap [] _ ⟨hP, va_S.rf⟩ (by rw [hml]; exact hl)
  exact zq_endx (own := own) (nL := nL) (Ts := zq_all) (R0 := rm) _ _ (fun a st oc t hh => ⟨_, rfl, hh⟩) ⟨B.exec, B.bytes, hml, hown, fun w hw => hts w (List.mem_cons_of_mem _ hw), rfl, hK, hSF, hs0, B.notSynchronized, hst⟩ B.returns
/-- an exception k has come out of a call at pc -/
def zq_WX (X : zq_X) (cells slots : Nat) (h : zq_H) (pc : Nat) (lv : List (Nat × Value)) (st : List Value) (k : String) : Prop :=
  match X with
  | (p, l, e, R, s, m, args, below, meth, c, Q, E) => ∀ (H : Heap) (locs : List Loc) (ls : Array Slot), zq_In E s h H locs → lv_has ls c.maxLocals (lv.map (fun q => (q.1, zq_tr E.2.2.1 q.2))) → ∀ (q : Addr) (ce : Cell), H[q]? = some ce → ce.vm = .none → s.vm.findClass k = some ce.cls → vx_W p l e R s m args below meth c H locs cells slots Q (F0 m pc ls (st.map (zq_tr E.2.2.1))) q
theorem zq_runx {p : Program} {l : Launch} {e : Env} {R : Room} {s : State} {m : MethodId} {args : Array Value} {below : List Frame} {meth : Method} {c : Code} {Q : State → Prop} {E : zq_E} {H : Heap} {locs : List Loc} {ls : Array Slot} {mc ms : Nat} {o : (Option Value × zq_H) ⊕ (String × zq_H)} {a : Array Value} {st0 : List Value} (hI : zq_In E s h H locs) (hL : lv_has ls c.maxLocals (lv.map (fun q => (q.1, zq_tr E.2.2.1 q.2))))
    (hr : vx_Run p l e R s m args below meth c H locs cells slots mc ms (F0 m pc ls st0) (st.map (zq_tr E.2.2.1)) (fun st oc t => ∃ q, o = .inl q ∧ zq_Q E q.1 q.2 a st oc t) (fun C st t => ∃ q, o = .inr q ∧ zq_XC E q C st t) (zq_A E)) (k : ∀ rv h', o = .inl (rv, h') → zq_W (p, l, e, R, s, m, args, below, meth, c, Q, E) (cells + mc) (slots + ms) h' (pc + 3) lv (rv.toList ++ st)) (kx : ∀ nm h', o = .inr (nm, h') → zq_WX (p, l, e, R, s, m, args, below, meth, c, Q, E) (cells + mc) (slots + ms) h' pc lv st nm) : W p l e R s m args below meth c H locs cells slots Q (F0 m pc ls st0) := by
  intro T hT XX
  have hS := hI.2
  rcases hr T hT XX with ⟨v, s9, t, T', L, h0, X', hL9, e1, e2, ⟨q9, hq9, hv, hP, hF⟩, hgo⟩ | ⟨q, s9, t, T', L, nm, ce, h0, X', hL9, e1, e2, ⟨q9, hq9, hv, hP, hF⟩, hce, hcv, hcl, hgo⟩
  · obtain ⟨rv, h'⟩ := q9
    cases hv
    obtain ⟨f1, f2⟩ := hF
    rw [h0] at f1 f2
    obtain ⟨t2, a1, b1⟩ := k rv h' hq9 T'.heap (locs ++ L) ls ⟨by rw [e1]; exact hP, Nat.le_trans hS.1 (by rw [e1]; exact f1), fun q h1 h2 => by rw [e1, f2 q (Nat.lt_of_lt_of_le h1 hS.1) h2]; exact hS.2.1 q h1 h2, fun q hq => by
        rcases List.mem_append.mp hq with h | h
        · exact hS.2.2 q h
        · exact hL9 q h⟩ hL T' rfl X'
    refine ⟨t2, hgo t2 ?_, b1⟩
    cases rv <;> exact a1
  · obtain ⟨nm2, h'⟩ := q9
    subst hv
    obtain ⟨f1, f2⟩ := hF
    rw [h0] at f1 f2
    obtain ⟨t2, a1, b1⟩ := kx nm h' hq9 T'.heap (locs ++ L) ls ⟨by rw [e1]; exact hP, Nat.le_trans hS.1 (by rw [e1]; exact f1), fun q h1 h2 => by rw [e1, f2 q (Nat.lt_of_lt_of_le h1 hS.1) h2]; exact hS.2.1 q h1 h2, fun q hq => by
        rcases List.mem_append.mp hq with h | h
        · exact hS.2.2 q h
        · exact hL9 q h⟩ hL q ce (by rw [e1]; exact hce) hcv hcl T' rfl X'
    exact ⟨t2, hgo.trans a1, b1⟩
theorem zq_callVx (C : zq_C X own cc nL zq_all R0) {y : MethodName} {rm : Room} {b ci N index maxL n : Nat} {as st0 : List Value} {o : (Option Value × zq_H) ⊕ (String × zq_H)} {Cn : String} {T : u_T} {ty : Nat → FieldType} {bytes : ByteArray} {ret : Option FieldType} (hM : zq_Mx y (Cond.code y bytes maxL ret :: zq_all) rm (.ref b :: as) h o) (Y : zq_calV y Cn bytes maxL ret n) (hl : Cond.methodLink own index y ∈ zq_all) (K : zq_K ci Cn T N ty) (hb : b < h.1 ∧ (zq_sh b).1 = ci) (d : decode cc pc = .ok (.invokevirtual index, 3)) (hpc : pc + 3 = pc') (hst0 : st0 = as.reverse ++ .ref b :: st) (hn : n = as.length) (hR : zq_Rm rm R0 maxL) (hcat : (st.map fun v => v.category).sum ≤ 8) (hcs : cells + rm.cells ≤ R0.cells ∧ slots + rm.slots ≤ R0.slots)
    (k : ∀ rv h', o = .inl (rv, h') → zq_W X (cells + rm.cells) (slots + rm.slots) h' pc' lv (rv.toList ++ st)) (kx : ∀ nm h', o = .inr (nm, h') → zq_WX X (cells + rm.cells) (slots + rm.slots) h' pc lv st nm) : zq_W X cells slots h pc lv st0 := by
  subst hpc; subst hst0; subst hn
  obtain ⟨p, l, e, R, s, m, args, below, meth, c, Q, E⟩ := X
  obtain ⟨hx, hbb, hml, hown, hts, rfl, hK, hSF, hs0, hlocks, hst⟩ := C
  intro H locs ls hI hL
  have hcell := zq_wl_get (E := E) hb.1
  rw [zq_cell_o hb.2 K.2.2.2.1] at hcell
  exact zq_runx hI hL (vx_runV (As := as.map (zq_tr E.2.2.1)) (C := Cn) ⟨hx, hbb, hml, hown, hts⟩ (hM l E hst) (cwV as.length hts (zq_goodV hl Y.2.2.1 Y.2.2.2.1 Y.2.2.2.2 Y.2.1) rfl rfl rfl Y.1 hR) ⟨zq_Pre.blind _, va_recv hK hI.1 K.1 hcell, fun U hU hW => ⟨rfl, zq_pre hK hSF hs0 hI (fun n hn => by cases hn) hU hW⟩⟩ rfl (by simp) (by rw [← hml]; exact hL.1) (by simp [zq_tr]) (lv_room (by rw [zq_tr_sum]; exact hcat)) d hcs) k kx
abbrev zq_calL (y : MethodName) (bytes : ByteArray) (maxL : Nat) (hh : List (Nat × Nat × Nat × Nat)) (n : Nat) : Prop := zq_Y y n ∧ Cond.codeWith y bytes maxL (some .int) hh ∈ zq_all ∧ Cond.static y ∈ zq_all ∧ Cond.initialized y.cls ∈ zq_all
theorem zq_callL (C : zq_C X own cc nL zq_all R0) {hh : List (Nat × Nat × Nat × Nat)} {y : MethodName} {rm : Room} {index maxL n : Nat} {as st0 : List Value} {v : Int32} {bytes : ByteArray} (hM : zq_Mx y (Cond.codeWith y bytes maxL (some .int) hh :: zq_all) rm as h (.inl (some (.int v), h'))) (Y : zq_calL y bytes maxL hh n) (hl : Cond.methodLink own index y ∈ zq_all) (d : decode cc pc = .ok (.invokestatic index, 3)) (hpc : pc + 3 = pc') (hst0 : st0 = as.reverse ++ st) (hn : n = as.length) (hR : zq_Rm rm R0 maxL) (hcat : (st.map fun v => v.category).sum ≤ 8) (hcs : cells + rm.cells ≤ R0.cells ∧ slots + rm.slots ≤ R0.slots)
    (k : zq_W X (cells + rm.cells) (slots + rm.slots) h' pc' lv (.int v :: st)) : zq_W X cells slots h pc lv st0 := by
  subst hpc; subst hst0; subst hn
  obtain ⟨p, l, e, R, s, m, args, below, meth, c, Q, E⟩ := X
  obtain ⟨hx, hbb, hml, hown, hts, rfl, hK, hSF, hs0, hlocks, hst⟩ := C
  intro H locs ls hI hL
  refine zq_runx (st := st) (o := .inl (some (.int v), h')) hI hL (vx_runSX (hh := hh) (As := as.map (zq_tr E.2.2.1)) ⟨hx, hbb, hml, hown, hts⟩ (hM l E hst) (vx_cwSW as.length hts (zq_goodS hl Y.2.2.1 Y.2.2.2 Y.2.1) rfl rfl rfl Y.1 hR) ⟨zq_Pre.blind _, fun U hU hW => ⟨rfl, zq_pre hK hSF hs0 hI (fun n hn => by cases hn) hU hW⟩⟩ rfl (by simp) (by rw [← hml]; exact hL.1) (by simp) (lv_room (by rw [zq_tr_sum]; exact hcat)) d hcs) (fun rv h2 e2 => ?_) (fun nm h2 e2 => by cases e2)
  cases e2
  exact k
theorem zq_catch (C : zq_C X own cc nL zq_all R0) {hh : List (Nat × Nat × Nat × Nat)} (htab : zq_Tab X (tableOf hh)) (i : Nat) (hi : i < 3) (pre : List ExceptionTableEntry) (x : ExceptionTableEntry) (suf : List ExceptionTableEntry) (hsplit : tableOf hh = pre ++ x :: suf) (hpass : ∀ z ∈ pre, covers z pc = false ∨ (z.catchType ≠ 0 ∧ ∃ j, j < 3 ∧ i ≠ j ∧ Cond.classLink own z.catchType (zq_en j) ∈ zq_all)) (hx : covers x pc = true) (h0 : x.catchType ≠ 0) (hlink : Cond.classLink own x.catchType (zq_en i) ∈ zq_all) (hpc : x.handlerPc = pc') (k : ∀ q, zq_W X cells slots h pc' lv [.retAddr q]) : zq_WX X cells slots h pc lv st (zq_en i) := by
  subst hpc
  obtain ⟨p, l, e, R, s, m, args, below, meth, c, Q, E⟩ := X
  obtain ⟨hxe, hbb, hml, hown, hts, rfl, hK, hSF, hs0, hlocks, hst⟩ := C
  intro H locs ls hI hL q ce hce hcv hcl
  have hSX := hSF.2.2.2.2.2.2.2
  refine vx_catch hown pre x suf (htab.trans hsplit) (fun z hz => ?_) hx h0 (hts _ hlink) ?_ hce hcv hcl (k q H locs ls hI hL)
  · rcases hpass z hz with h | ⟨hz0, j, hj, hij, hl⟩
    · exact Or.inl h
    · exact Or.inr ⟨hz0, _, hts _ hl, hSX.2 i j hi hj hij⟩
  · refine va_Nw.use rfl (hSX.1 _ ?_)
    rcases (show i = 0 ∨ i = 1 ∨ i = 2 by omega) with rfl | rfl | rfl <;> simp [zq_nd]
theorem zq_astoreR_n (C : zq_C X own cc nL zq_all R0) {k4 : Fin 4} {i : Nat} {q : Nat} (d : decode cc pc = .ok (.astore_n k4, 1)) (hpc : pc + 1 = pc') (hi : (k4 : Nat) = i) (hn : i < nL) (hl : (i, Value.retAddr q) :: zq_f1 i lv = lv') (k : zq_W X cells slots h pc' lv' st) : zq_W X cells slots h pc lv (.retAddr q :: st) := by
  subst hpc
  obtain ⟨p, l, e, R, s, m, args, below, meth, c, Q, E⟩ := X
  obtain ⟨hx, hb, hml, hown, hts, hR, hK, hSF, hs0, hlocks, hst⟩ := C
  intro H locs ls hI hL
  exact lv_astore_n hx hb d hi hL (by rw [hml]; exact hn) (by rw [← hl, List.map_cons, ← zq_f1_map]; rfl) (fun ls1 hL1 => k H locs ls1 hI hL1)
theorem zq_astoreR (C : zq_C X own cc nL zq_all R0) {i : Nat} {q : Nat} (d : decode cc pc = .ok (.astore i, 2)) (hpc : pc + 2 = pc') (hn : i < nL) (hl : (i, Value.retAddr q) :: zq_f1 i lv = lv') (k : zq_W X cells slots h pc' lv' st) : zq_W X cells slots h pc lv (.retAddr q :: st) := by
  subst hpc
  obtain ⟨p, l, e, R, s, m, args, below, meth, c, Q, E⟩ := X
  obtain ⟨hx, hb, hml, hown, hts, hR, hK, hSF, hs0, hlocks, hst⟩ := C
  intro H locs ls hI hL
  exact lv_astore hx hb d hL (by rw [hml]; exact hn) (by rw [← hl, List.map_cons, ← zq_f1_map]; rfl) (fun ls1 hL1 => k H locs ls1 hI hL1)
def zq_Sc (X : zq_X) (b L : Nat) (xs : Nat → Int32) : Prop :=
  match X with
  | (_, _, _, _, s, _, _, _, _, _, _, E) => va_X b L xs s s.heap ∧ b < s.heap.size ∧ ¬ zq_A E b
def zq_sx (L : Nat) (xs : Nat → Int32) (i : Int32) : Option Int32 := if ¬ (i < 0 ∨ L ≤ i.toNatClampNeg) then some (xs i.toNatClampNeg) else none
theorem zq_aloadR_n (C : zq_C X own cc nL zq_all R0) {k4 : Fin 4} {i : Nat} {q : Nat} (d : decode cc pc = .ok (.aload_n k4, 1)) (hpc : pc + 1 = pc') (hi : (k4 : Nat) = i) (hl : zq_ld lv i = some (.retAddr q)) (k : zq_W X cells slots h pc' lv (.retAddr q :: st)) : zq_W X cells slots h pc lv st := by
  subst hpc
  obtain ⟨p, l, e, R, s, m, args, below, meth, c, Q, E⟩ := X
  obtain ⟨hx, hb, hml, hown, hts, hR, hK, hSF, hs0, hlocks, hst⟩ := C
  intro H locs ls hI hL
  exact lv_aload_n hx hb d hi (zq_ldh hL hl) (k H locs ls hI hL)
theorem zq_slen (C : zq_C X own cc nL zq_all R0) {b L : Nat} {xs : Nat → Int32} (hs : zq_Sc X b L xs) (d : decode cc pc = .ok (.arraylength, 1)) (hpc : pc + 1 = pc') (k : zq_W X cells slots h pc' lv (.int (nI L) :: st)) : zq_W X cells slots h pc lv (.retAddr b :: st) := by
  subst hpc
  obtain ⟨p, l, e, R, s, m, args, below, meth, c, Q, E⟩ := X
  obtain ⟨hx, hb, hml, hown, hts, hR, hK, hSF, hs0, hlocks, hst⟩ := C
  intro H locs ls hI hL
  exact va_slen hx hb hs.1 hs.2.1 hs.2.2 hI.2 d (k H locs ls hI hL)
theorem zq_sld (C : zq_C X own cc nL zq_all R0) {b L : Nat} {xs : Nat → Int32} {i v : Int32} (hs : zq_Sc X b L xs) (d : decode cc pc = .ok (.iaload, 1)) (hpc : pc + 1 = pc') (hg : zq_sx L xs i = some v) (k : zq_W X cells slots h pc' lv (.int v :: st)) : zq_W X cells slots h pc lv (.int i :: .retAddr b :: st) := by
  subst hpc
  obtain ⟨g1, g2⟩ := zq_if1 hg
  cases g2
  obtain ⟨p, l, e, R, s, m, args, below, meth, c, Q, E⟩ := X
  obtain ⟨hx, hb, hml, hown, hts, hR, hK, hSF, hs0, hlocks, hst⟩ := C
  intro H locs ls hI hL
  exact va_sld hx hb hs.1 hs.2.1 hs.2.2 hI.2 g1 d (k H locs ls hI hL)
/-- a loop whose rounds are counted -/
theorem zq_lpWc {σ ρ : Type} {b : σ → Option (σ ⊕ ρ)} {n : Nat} {s0 : σ} {r0 : ρ} (P : Nat → σ → Prop) (T : ρ → Prop) (hr : zq_lp b n s0 = some r0) (hs : ∀ k s r, k < n → b s = some r → (∀ s2, r = .inl s2 → P (k + 1) s2) → (∀ x, r = .inr x → T x) → P k s) (hT : T r0) : P 0 s0 := by
  have key : ∀ j k s, j + k = n → zq_lp b j s = some r0 → P k s := by
    intro j
    induction j with
    | zero => intro k s _ h; cases h
    | succ j ih =>
      intro k s hk h
      unfold zq_lp at h
      cases hb : b s with
      | none => rw [hb] at h; cases h
      | some r =>
        rw [hb] at h
        refine hs k s r (by omega) hb (fun s2 e => ?_) (fun x e => ?_)
        · subst e; exact ih (k + 1) s2 (by omega) h
        · subst e
          cases h
          exact hT
  exact key n 0 s0 (by omega) hr
end ZQT
