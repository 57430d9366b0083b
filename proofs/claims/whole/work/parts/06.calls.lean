/-- what a callee asks of a method's name and description -/
abbrev zq_Y (y : MethodName) (n : Nat) : Prop := y.cls ≠ "java/lang/invoke/MethodHandle" ∧ y.cls ≠ "java/lang/invoke/VarHandle" ∧ (parseMethodDescriptor y.desc).map (fun d => d.parameters.length) = some n
abbrev zq_Rm (rm R0 : Room) (maxL : Nat) : Prop := rm.frames + 1 ≤ R0.frames ∧ 8 + (maxL + 11) + rm.locals ≤ R0.locals
theorem zq_pre {E : zq_E} {s U : State} {h : zq_H} {tz : Option Nat} {H : Heap} {locs : List Loc} (hK : va_K E.1 vwCl (zq_tys E) s) (hSF : zq_SF E s s.heap) (hs0 : E.2.2.1 ≤ s.heap.size) (hI : zq_In E s h H locs) (hz : ∀ n, tz = some n → H.size = E.2.2.1 + n) (hU : U.heap = H) (hW : s.WarmedH U.vm) : zq_Pre E h tz U := by
  refine ⟨by rw [hU]; exact hI.1, va_K.moved hW.alike hK, ?_, by rw [hU]; exact Nat.le_trans hs0 hI.2.1, fun n hn => by rw [hU]; exact hz n hn⟩
  rw [hU]
  exact zq_SF.moved hW (fun a h1 h2 => hI.2.2.1 a h1 h2) hSF
theorem zq_size {p : Program} {l : Launch} {e : Env} {R : Room} {s : State} {m : MethodId} {args : Array Value} {below : List Frame} {meth : Method} {c : Code} {T : State} {E : zq_E} {h : zq_H} {H : Heap} {locs : List Loc} {cells slots n0 n : Nat} (hI : zq_In E s h H locs) (hs0 : E.2.2.1 ≤ s.heap.size) (ht : s.heap.size = E.2.2.1 + n0) (hn : n0 + cells = n) (hh : h.1 = n) (hT : T.heap = H) (X : Stand p l e R s m args below meth c T locs cells slots) : H.size = E.2.2.1 + n := by
  have h1 : T.heap.size ≤ s.heap.size + cells := X.same.2.2.1
  rw [hT] at h1
  have h2 : E.2.2.1 + n ≤ H.size := by
    by_cases h0 : n = 0
    · have := hI.2.1
      omega
    · have hlt : n - 1 < h.1 := by omega
      have := (hI.1 (n - 1) _ (zq_wl_get hlt)).lt
      simp only at this
      omega
  omega
section ZQC
variable {X : zq_X} {own : String} {cc : ByteArray} {nL : Nat} {Ts : List Cond} {R0 : Room} {cells slots : Nat} {h h' : zq_H} {pc pc' : Nat} {lv lv' : List (Nat × Value)} {st : List Value}
theorem zq_run {p : Program} {l : Launch} {e : Env} {R : Room} {s : State} {m : MethodId} {args : Array Value} {below : List Frame} {meth : Method} {c : Code} {Q : State → Prop} {E : zq_E} {H : Heap} {locs : List Loc} {ls : Array Slot} {mc ms : Nat} {rv : Option Value} {a : Array Value} {st0 : List Value} (hI : zq_In E s h H locs) (hL : lv_has ls c.maxLocals (lv.map (fun q => (q.1, zq_tr E.2.2.1 q.2))))
    (hr : va_Run p l e R s m args below meth c H locs cells slots mc ms (F0 m pc ls st0) (st.map (zq_tr E.2.2.1)) (zq_Q E rv h' a) (zq_A E)) (k : zq_W (p, l, e, R, s, m, args, below, meth, c, Q, E) (cells + mc) (slots + ms) h' (pc + 3) lv (rv.toList ++ st)) : W p l e R s m args below meth c H locs cells slots Q (F0 m pc ls st0) := by
  intro T hT XX
  obtain ⟨v, s9, t, T', L, h0, X', hL9, e1, e2, ⟨hv, hP, hF⟩, hgo⟩ := hr T hT XX
  cases hv
  obtain ⟨f1, f2⟩ := hF
  rw [h0] at f1 f2
  have hS := hI.2
  obtain ⟨t2, a1, b1⟩ := k T'.heap (locs ++ L) ls ⟨by rw [e1]; exact hP, Nat.le_trans hS.1 (by rw [e1]; exact f1), fun q h1 h2 => by rw [e1, f2 q (Nat.lt_of_lt_of_le h1 hS.1) h2]; exact hS.2.1 q h1 h2, fun q hq => by
      rcases List.mem_append.mp hq with h | h
      · exact hS.2.2 q h
      · exact hL9 q h⟩ hL T' rfl X'
  refine ⟨t2, hgo t2 ?_, b1⟩
  cases rv <;> exact a1
theorem zq_callV (C : zq_C X own cc nL Ts R0) {y : MethodName} {ws ws' : List Cond} {rm : Room} {b ci N index maxL : Nat} {as st0 : List Value} {rv : Option Value} {Cn : String} {T : u_T} {ty : Nat → FieldType} {bytes : ByteArray} {ret : Option FieldType} (hM : zq_M none y ws rm (.ref b :: as) h rv h') (g : GoodIn Ts (wsV own index Cn y ws)) (hw : ws = Cond.code y bytes maxL ret :: ws') (hd : y.cls = Cn ∧ zq_Y y as.length) (K : zq_K ci Cn T N ty) (hb : b < h.1 ∧ (zq_sh b).1 = ci) (d : decode cc pc = .ok (.invokevirtual index, 3)) (hpc : pc + 3 = pc') (hst0 : st0 = as.reverse ++ .ref b :: st) (hR : zq_Rm rm R0 maxL) (hcat : (st.map fun v => v.category).sum ≤ 8) (hcs : cells + rm.cells ≤ R0.cells ∧ slots + rm.slots ≤ R0.slots)
    (k : zq_W X (cells + rm.cells) (slots + rm.slots) h' pc' lv (rv.toList ++ st)) : zq_W X cells slots h pc lv st0 := by
  subst hpc; subst hst0
  obtain ⟨p, l, e, R, s, m, args, below, meth, c, Q, E⟩ := X
  obtain ⟨hx, hbb, hml, hown, hts, rfl, hK, hSF, hs0, hlocks, hst⟩ := C
  intro H locs ls hI hL
  have hcell := zq_wl_get (E := E) hb.1
  rw [zq_cell_o hb.2 K.2.2.2.1] at hcell
  refine zq_run hI hL (va_runV (As := as.map (zq_tr E.2.2.1)) (C := Cn) ⟨hx, hbb, hml, hown, hts⟩ (hM l E hst) (cwV as.length hts g hw rfl rfl hd hR) ⟨zq_Pre.blind _, va_recv hK hI.1 K.1 hcell, fun U hU hW => ⟨rfl, zq_pre hK hSF hs0 hI (fun n hn => by cases hn) hU hW⟩⟩ rfl (by simp) (by rw [← hml]; exact hL.1) (by simp [zq_tr]) (lv_room (by rw [zq_tr_sum]; exact hcat)) d hcs) k
theorem zq_callS (C : zq_C X own cc nL Ts R0) {y : MethodName} {ws ws' : List Cond} {rm : Room} {index maxL : Nat} {as st0 : List Value} {rv : Option Value} {bytes : ByteArray} {ret : Option FieldType} (hM : zq_M none y ws rm as h rv h') (g : GoodIn Ts (va_wsS own index y ws)) (hw : ws = Cond.code y bytes maxL ret :: ws') (hd : zq_Y y as.length) (d : decode cc pc = .ok (.invokestatic index, 3)) (hpc : pc + 3 = pc') (hst0 : st0 = as.reverse ++ st) (hR : zq_Rm rm R0 maxL) (hcat : (st.map fun v => v.category).sum ≤ 8) (hcs : cells + rm.cells ≤ R0.cells ∧ slots + rm.slots ≤ R0.slots)
    (k : zq_W X (cells + rm.cells) (slots + rm.slots) h' pc' lv (rv.toList ++ st)) : zq_W X cells slots h pc lv st0 := by
  subst hpc; subst hst0
  obtain ⟨p, l, e, R, s, m, args, below, meth, c, Q, E⟩ := X
  obtain ⟨hx, hbb, hml, hown, hts, rfl, hK, hSF, hs0, hlocks, hst⟩ := C
  intro H locs ls hI hL
  refine zq_run hI hL (va_runS (As := as.map (zq_tr E.2.2.1)) ⟨hx, hbb, hml, hown, hts⟩ (hM l E hst) (va_cwS as.length hts g hw rfl rfl hd hR) ⟨zq_Pre.blind _, fun U hU hW => ⟨rfl, zq_pre hK hSF hs0 hI (fun n hn => by cases hn) hU hW⟩⟩ rfl (by simp) (by rw [← hml]; exact hL.1) (by simp) (lv_room (by rw [zq_tr_sum]; exact hcat)) d hcs) k
theorem zq_callSN (C : zq_C X own cc nL Ts R0) {y : MethodName} {ws ws' : List Cond} {rm : Room} {index maxL : Nat} {as st0 : List Value} {rv : Option Value} {bytes : ByteArray} {ret : Option FieldType} {host : String} (hM : zq_M none y ws rm as h rv h') (g : GoodIn Ts ws) (hw : ws = Cond.code y bytes maxL ret :: ws') (hl : Cond.methodLinkNest own index y host ∈ zq_nw) (hini : Cond.initialized y.cls ∈ Ts) (hstat : Cond.static y ∈ Ts) (hd : zq_Y y as.length) (d : decode cc pc = .ok (.invokestatic index, 3)) (hpc : pc + 3 = pc') (hst0 : st0 = as.reverse ++ st) (hR : zq_Rm rm R0 maxL) (hcat : (st.map fun v => v.category).sum ≤ 8) (hcs : cells + rm.cells ≤ R0.cells ∧ slots + rm.slots ≤ R0.slots)
    (k : zq_W X (cells + rm.cells) (slots + rm.slots) h' pc' lv (rv.toList ++ st)) : zq_W X cells slots h pc lv st0 := by
  subst hpc; subst hst0
  obtain ⟨p, l, e, R, s, m, args, below, meth, c, Q, E⟩ := X
  obtain ⟨hx, hbb, hml, hown, hts, rfl, hK, hSF, hs0, hlocks, hst⟩ := C
  intro H locs ls hI hL
  refine zq_run hI hL (va_runSN (As := as.map (zq_tr E.2.2.1)) ⟨hx, hbb, hml, hown, hts⟩ (hM l E hst) ⟨va_cnB as.length hts g hw rfl rfl (hSF.1 _ hl) (hts _ hini) hd hR, hts _ hstat, trivial⟩ ⟨zq_Pre.blind _, fun U hU hW => ⟨rfl, zq_pre hK hSF hs0 hI (fun n hn => by cases hn) hU hW⟩⟩ rfl (by simp) (by rw [← hml]; exact hL.1) (by simp) (lv_room (by rw [zq_tr_sum]; exact hcat)) d hcs) k
theorem zq_callI (C : zq_C X own cc nL Ts R0) {tz : Option Nat} {y : MethodName} {ws ws' : List Cond} {rm : Room} {b index maxL : Nat} {as st0 : List Value} {bytes : ByteArray} (hM : zq_M tz y ws rm (.ref b :: as) h none h') (hz : ∀ n, tz = some n → ∃ n0, zq_T X (some n0) ∧ n0 + cells = n ∧ h.1 = n) (g : GoodIn Ts ws) (hw : ws = Cond.code y bytes maxL none :: ws') (hini : Cond.initialized y.cls ∈ Ts) (hl : Cond.methodLink own index y ∈ Ts) (hin : Cond.instanceMethod y ∈ Ts) (hy1 : y.name = "<init>") (hd : zq_Y y as.length) (d : decode cc pc = .ok (.invokespecial index, 3)) (hpc : pc + 3 = pc') (hst0 : st0 = as.reverse ++ .ref b :: st) (hR : zq_Rm rm R0 maxL) (hcat : (st.map fun v => v.category).sum ≤ 8) (hcs : cells + rm.cells ≤ R0.cells ∧ slots + rm.slots ≤ R0.slots)
    (k : zq_W X (cells + rm.cells) (slots + rm.slots) h' pc' lv st) : zq_W X cells slots h pc lv st0 := by
  subst hpc; subst hst0
  obtain ⟨p, l, e, R, s, m, args, below, meth, c, Q, E⟩ := X
  obtain ⟨hx, hbb, hml, hown, hts, rfl, hK, hSF, hs0, hlocks, hst⟩ := C
  intro H locs ls hI hL T hT XX
  have hz2 : ∀ n, tz = some n → H.size = E.2.2.1 + n := fun n hn => by
    obtain ⟨n0, a1, a2, a3⟩ := hz n hn
    exact zq_size hI hs0 (a1 n0 rfl) a2 a3 hT XX
  exact zq_run hI hL (va_runI (As := as.map (zq_tr E.2.2.1)) ⟨hx, hbb, hml, hown, hts⟩ (hM l E hst) (cwI as.length hts g hw rfl rfl (hts _ hini) (hts _ hl) (hts _ hin) hy1 hd hR) ⟨zq_Pre.blind _, fun U hU hW => ⟨rfl, zq_pre hK hSF hs0 hI hz2 hU hW⟩⟩ rfl (by simp) (by rw [← hml]; exact hL.1) (by simp [zq_tr]) (lv_room (by rw [zq_tr_sum]; exact hcat)) d hcs) k T hT XX
theorem zq_callIN (C : zq_C X own cc nL Ts R0) {y : MethodName} {ws ws' : List Cond} {rm : Room} {b index maxL : Nat} {as st0 : List Value} {bytes : ByteArray} {host : String} (hM : zq_M none y ws rm (.ref b :: as) h none h') (g : GoodIn Ts ws) (hw : ws = Cond.code y bytes maxL none :: ws') (hini : Cond.initialized y.cls ∈ Ts) (hl : Cond.methodLinkNest own index y host ∈ zq_nw) (hin : Cond.instanceMethod y ∈ Ts) (hy1 : y.name = "<init>") (hd : zq_Y y as.length) (d : decode cc pc = .ok (.invokespecial index, 3)) (hpc : pc + 3 = pc') (hst0 : st0 = as.reverse ++ .ref b :: st) (hR : zq_Rm rm R0 maxL) (hcat : (st.map fun v => v.category).sum ≤ 8) (hcs : cells + rm.cells ≤ R0.cells ∧ slots + rm.slots ≤ R0.slots)
    (k : zq_W X (cells + rm.cells) (slots + rm.slots) h' pc' lv st) : zq_W X cells slots h pc lv st0 := by
  subst hpc; subst hst0
  obtain ⟨p, l, e, R, s, m, args, below, meth, c, Q, E⟩ := X
  obtain ⟨hx, hbb, hml, hown, hts, rfl, hK, hSF, hs0, hlocks, hst⟩ := C
  intro H locs ls hI hL
  exact zq_run hI hL (va_runIN (As := as.map (zq_tr E.2.2.1)) ⟨hx, hbb, hml, hown, hts⟩ (hM l E hst) ⟨va_cnB as.length hts g hw rfl rfl (hSF.1 _ hl) (hts _ hini) hd hR, hy1, hts _ hin⟩ ⟨zq_Pre.blind _, fun U hU hW => ⟨rfl, zq_pre hK hSF hs0 hI (fun n hn => by cases hn) hU hW⟩⟩ rfl (by simp) (by rw [← hml]; exact hL.1) (by simp [zq_tr]) (lv_room (by rw [zq_tr_sum]; exact hcat)) d hcs) k
theorem zq_objInit (C : zq_C X own cc nL Ts R0) {idx a : Nat} (hl : Cond.methodLink own idx Lib.objectInit ∈ Ts) (hin : Cond.instanceMethod Lib.objectInit ∈ Ts) (hcode : Cond.code Lib.objectInit ⟨#[0xb1]⟩ 1 none ∈ Ts) (d : decode cc pc = .ok (.invokespecial idx, 3)) (hpc : pc + 3 = pc') (hf : 1 ≤ R0.frames) (hlo : 20 ≤ R0.locals) (hcat : (st.map fun v => v.category).sum ≤ 8) (k : zq_W X cells slots h pc' lv st) : zq_W X cells slots h pc lv (.ref a :: st) := by
  subst hpc
  obtain ⟨p, l, e, R, s, m, args, below, meth, c, Q, E⟩ := X
  obtain ⟨hx, hbb, hml, hown, hts, rfl, hK, hSF, hs0, hlocks, hst⟩ := C
  intro H locs ls hI hL
  refine W.objInit hx hbb hown (hts _ hl) (hts _ hin) (hts _ hcode) rfl hL.1 rfl d hf ?_ (k H locs ls hI hL)
  have h1 := lv_room (m := m) (pc := pc) (ls := ls) (rest := zq_tr E.2.2.1 (.ref a) :: st.map (zq_tr E.2.2.1)) (st := st.map (zq_tr E.2.2.1)) (by rw [zq_tr_sum]; exact hcat)
  exact Nat.le_trans (Nat.add_le_add_right h1 12) hlo
theorem zq_mmax (C : zq_C X own cc nL Ts R0) {index : Nat} {x y : Int32} (hl : Cond.methodLink own index Lib.Math.max.name ∈ Ts) (hs : Cond.static Lib.Math.max.name ∈ Ts) (hi : Cond.initialized "java/lang/Math" ∈ Ts) (hc : Cond.code Lib.Math.max.name Lib.Math.max.code 2 (some .int) ∈ Ts) (d : decode cc pc = .ok (.invokestatic index, 3)) (hpc : pc + 3 = pc') (hf : 1 ≤ R0.frames) (hlo : (st.map fun v => v.category).sum + 13 ≤ R0.locals) (hcs : cells ≤ R0.cells ∧ slots ≤ R0.slots) (k : zq_W X cells slots h pc' lv (.int (if x < y then y else x) :: st)) : zq_W X cells slots h pc lv (.int y :: .int x :: st) := by
  subst hpc
  obtain ⟨p, l, e, R, s, m, args, below, meth, c, Q, E⟩ := X
  obtain ⟨hx, hbb, hml, hown, hts, rfl, hK, hSF, hs0, hlocks, hst⟩ := C
  intro H locs ls hI hL
  exact va_mmax hx hbb hL.1.symm hown (hts _ hl) (hts _ hs) (hts _ hi) (hts _ hc) hf (by rw [zq_tr_sum]; exact hlo) hcs.1 hcs.2 d (k H locs ls hI hL)
theorem zq_mmin (C : zq_C X own cc nL Ts R0) {index : Nat} {x y : Int32} (hl : Cond.methodLink own index Lib.Math.min.name ∈ Ts) (hs : Cond.static Lib.Math.min.name ∈ Ts) (hi : Cond.initialized "java/lang/Math" ∈ Ts) (hc : Cond.code Lib.Math.min.name Lib.Math.min.code 2 (some .int) ∈ Ts) (d : decode cc pc = .ok (.invokestatic index, 3)) (hpc : pc + 3 = pc') (hf : 1 ≤ R0.frames) (hlo : (st.map fun v => v.category).sum + 13 ≤ R0.locals) (hcs : cells ≤ R0.cells ∧ slots ≤ R0.slots) (k : zq_W X cells slots h pc' lv (.int (if y < x then y else x) :: st)) : zq_W X cells slots h pc lv (.int y :: .int x :: st) := by
  subst hpc
  obtain ⟨p, l, e, R, s, m, args, below, meth, c, Q, E⟩ := X
  obtain ⟨hx, hbb, hml, hown, hts, rfl, hK, hSF, hs0, hlocks, hst⟩ := C
  intro H locs ls hI hL
  exact va_mmin hx hbb hL.1.symm hown (hts _ hl) (hts _ hs) (hts _ hi) (hts _ hc) hf (by rw [zq_tr_sum]; exact hlo) hcs.1 hcs.2 d (k H locs ls hI hL)
theorem zq_d2bits (C : zq_C X own cc nL Ts R0) {index : Nat} {b : UInt64} (hl : Cond.methodLink own index ⟨"java/lang/Double", "doubleToRawLongBits", "(D)J"⟩ ∈ Ts) (hn : Cond.native ⟨"java/lang/Double", "doubleToRawLongBits", "(D)J"⟩ ∈ Ts) (hs : Cond.static ⟨"java/lang/Double", "doubleToRawLongBits", "(D)J"⟩ ∈ Ts) (hi : Cond.initialized "java/lang/Double" ∈ Ts) (d : decode cc pc = .ok (.invokestatic index, 3)) (hpc : pc + 3 = pc') (hf : 1 ≤ R0.frames) (hlo : (st.map fun v => v.category).sum + 15 ≤ R0.locals) (k : zq_W X cells slots h pc' lv (.long b.toInt64 :: st)) : zq_W X cells slots h pc lv (.double b :: st) := by
  subst hpc
  obtain ⟨p, l, e, R, s, m, args, below, meth, c, Q, E⟩ := X
  obtain ⟨hx, hbb, hml, hown, hts, rfl, hK, hSF, hs0, hlocks, hst⟩ := C
  intro H locs ls hI hL
  exact vn_d2l hx hbb hL.1.symm hown (hts _ hl) (hts _ hn) (hts _ hs) (hts _ hi) hf (by rw [zq_tr_sum]; exact hlo) d (k H locs ls hI hL)
/-- new -/
theorem zq_newo (C : zq_C X own cc nL Ts R0) {ci N ix n n0 : Nat} {Cn : String} {T : u_T} {ty : Nat → FieldType} (K : zq_K ci Cn T N ty) (hin : ∀ w ∈ u_ws Cn T N, w ∈ Ts) (hcl : Cond.classLink own ix Cn ∈ Ts) (hinst : Cond.instantiable Cn N ∈ Ts) (hini : Cond.initialized Cn ∈ Ts) (ht : zq_T X (some n0)) (hn : n0 + cells = n) (d : decode cc pc = .ok (.new ix, 3)) (hpc : pc + 3 = pc') (hg : zq_nw1 h n ci = some h') (hcs : cells + 1 ≤ R0.cells ∧ slots + N ≤ R0.slots) (k : zq_W X (cells + 1) (slots + N) h' pc' lv (.ref n :: st)) : zq_W X cells slots h pc lv st := by
  subst hpc
  obtain ⟨hg1, hg2⟩ := zq_if1 hg
  cases hg2
  obtain ⟨p, l, e, R, s, m, args, below, meth, c, Q, E⟩ := X
  obtain ⟨hx, hbb, hml, hown, hts, rfl, hK, hSF, hs0, hlocks, hst⟩ := C
  obtain ⟨hc, hty, hnm, hci, hlen, hdf⟩ := K
  intro H locs ls hI hL T9 hT9 XX
  have hsz := zq_size hI hs0 (ht n0 rfl) hn hg1.1 hT9 XX
  have hKn := hK.1 ci _ hc
  have hP := hI.1
  suffices key : W p l e R s m args below meth c H locs cells slots Q (F0 m pc ls ((st).map (zq_tr E.2.2.1))) from key T9 hT9 XX
  refine W.newcK hx hbb hown (hts _ hcl) (hts _ hinst) (hts _ hini) rfl d hcs.1 hcs.2 hKn.2.1 hsz (fun H1 kC hkC e1 z1 o1 => ?_)
  have hk : ∀ (k : Nat) (x : Nat × va_E), (zq_wl E h)[k]? = some x → H1[x.1]? = H[x.1]? := fun k x hx => o1 x.1 (by rw [← hsz]; exact (hP k x hx).lt)
  refine k H1 locs ls ⟨?_, Nat.le_trans hI.2.1 (by omega), fun x h1 h2 => (o1 x (by have := hI.2.1; omega)).trans (hI.2.2.1 x h1 h2), hI.2.2.2⟩ hL
  have hn1 := hg1.1
  have hsh := hg1.2
  rw [zq_wl_push (h := h) (h' := zq_new h n) (e := .inr (ci, zq_fs ci E.2.2.1 (zq_new h n) n)) (show n + 1 = h.1 + 1 by rw [hn1]) (by rw [hn1]; exact zq_cell_o hsh hci) (fun j hj => zq_cell_cong (zq_row_o _ _ (by omega)) (zq_row_o _ _ (by omega)) (zq_row_o _ _ (by omega))), hn1]
  refine (hP.kept hk).app (fun k x hx => ?_)
  have hz : k < 1 := (List.getElem?_eq_some_iff.mp hx).1
  rw [show k = 0 by omega] at hx
  cases hx
  refine ⟨_, hc, (u_born ty hts hin hKn hkC e1 hty).to (fun j hj => ?_)⟩
  have hj2 : j < (zq_fk ci).length := by rw [hlen]; exact hj
  have hkj : (zq_fk ci)[j]? = some ((zq_fk ci).getD j 9) := by
    rw [List.getD_eq_getElem?_getD, List.getElem?_eq_getElem hj2]
    rfl
  rw [hdf j hj]
  generalize (zq_fk ci).getD j 9 = kj at hkj ⊢
  show _ = (zq_fs ci E.2.2.1 (zq_new h n) n).getD j .null
  rw [List.getD_eq_getElem?_getD, zq_fs_get hkj]
  simp [zq_fv, zq_new, zq_row_t]
theorem zq_newI (C : zq_C X own cc nL Ts R0) {n n0 B : Nat} {x : Int32} (harr : Cond.arrayClass .int ∈ Ts) (ht : zq_T X (some n0)) (hn : n0 + cells = n) (d : decode cc pc = .ok (.newarray .int, 2)) (hpc : pc + 2 = pc') (hg : zq_na h n 10 B x = some h') (hB : B ≤ 100000) (hcs : cells + 1 ≤ R0.cells ∧ slots + B ≤ R0.slots) (k : zq_W X (cells + 1) (slots + B) h' pc' lv (.ref n :: st)) : zq_W X cells slots h pc lv (.int x :: st) := by
  subst hpc
  obtain ⟨⟨hn1, hsh, hx0, hxl, hxB⟩, hg2⟩ := zq_if1 hg
  cases hg2
  obtain ⟨p, l, e, R, s, m, args, below, meth, c, Q, E⟩ := X
  obtain ⟨hx, hbb, hml, hown, hts, rfl, hK, hSF, hs0, hlocks, hst⟩ := C
  intro H locs ls hI hL T9 hT9 XX
  have hsz := zq_size hI hs0 (ht n0 rfl) hn hn1 hT9 XX
  have hP := hI.1
  suffices key : W p l e R s m args below meth c H locs cells slots Q (F0 m pc ls ((Value.int x :: st).map (zq_tr E.2.2.1))) from key T9 hT9 XX
  refine va_newaK (atype := .int) hx hbb (hts _ harr) rfl d rfl hx0 hxl (by show _ * 4 ≤ _; omega) hcs.1 (by omega) hsz (fun H1 cA e1 z1 o1 hAr hNm => ?_)
  have hk : ∀ (k : Nat) (x : Nat × va_E), (zq_wl E h)[k]? = some x → H1[x.1]? = H[x.1]? := fun k x hx => o1 x.1 (by rw [← hsz]; exact (hP k x hx).lt)
  refine W.widen (k := cells + 1) (n := slots + B) (Nat.le_refl _) (by omega) ?_
  refine k H1 locs ls ⟨?_, Nat.le_trans hI.2.1 (by omega), fun x h1 h2 => (o1 x (by have := hI.2.1; omega)).trans (hI.2.2.1 x h1 h2), hI.2.2.2⟩ hL
  rw [zq_wl_push (h := h) (h' := zq_new h n) (e := .inl (E.2.1 0, (zq_sh n).2, .inl ((zq_new h n).2.1 n))) (show n + 1 = h.1 + 1 by rw [hn1]) (by rw [hn1]; exact zq_cell_i hsh) (fun j hj => zq_cell_cong (zq_row_o _ _ (by omega)) (zq_row_o _ _ (by omega)) (zq_row_o _ _ (by omega))), hn1]
  refine (hP.kept hk).app (fun k x hx => ?_)
  have hz : k < 1 := (List.getElem?_eq_some_iff.mp hx).1
  rw [show k = 0 by omega] at hx
  cases hx
  have hcA : cA = E.2.1 0 := Option.some.inj (hNm.symm.trans (hK.2 0 _ rfl).2)
  subst hcA
  show H1[E.2.2.1 + n]? = some (vp_cell _ _)
  rw [e1]
  simp only [zq_new, zq_row_t]
  rfl
theorem zq_newL (C : zq_C X own cc nL Ts R0) {n n0 B : Nat} {x : Int32} (harr : Cond.arrayClass .long ∈ Ts) (ht : zq_T X (some n0)) (hn : n0 + cells = n) (d : decode cc pc = .ok (.newarray .long, 2)) (hpc : pc + 2 = pc') (hg : zq_na h n 11 B x = some h') (hB : B ≤ 100000) (hcs : cells + 1 ≤ R0.cells ∧ slots + B ≤ R0.slots) (k : zq_W X (cells + 1) (slots + B) h' pc' lv (.ref n :: st)) : zq_W X cells slots h pc lv (.int x :: st) := by
  subst hpc
  obtain ⟨⟨hn1, hsh, hx0, hxl, hxB⟩, hg2⟩ := zq_if1 hg
  cases hg2
  obtain ⟨p, l, e, R, s, m, args, below, meth, c, Q, E⟩ := X
  obtain ⟨hx, hbb, hml, hown, hts, rfl, hK, hSF, hs0, hlocks, hst⟩ := C
  intro H locs ls hI hL T9 hT9 XX
  have hsz := zq_size hI hs0 (ht n0 rfl) hn hn1 hT9 XX
  have hP := hI.1
  suffices key : W p l e R s m args below meth c H locs cells slots Q (F0 m pc ls ((Value.int x :: st).map (zq_tr E.2.2.1))) from key T9 hT9 XX
  refine va_newaK (atype := .long) hx hbb (hts _ harr) rfl d rfl hx0 hxl (by show _ * 8 ≤ _; omega) hcs.1 (by omega) hsz (fun H1 cA e1 z1 o1 hAr hNm => ?_)
  have hk : ∀ (k : Nat) (x : Nat × va_E), (zq_wl E h)[k]? = some x → H1[x.1]? = H[x.1]? := fun k x hx => o1 x.1 (by rw [← hsz]; exact (hP k x hx).lt)
  refine W.widen (k := cells + 1) (n := slots + B) (Nat.le_refl _) (by omega) ?_
  refine k H1 locs ls ⟨?_, Nat.le_trans hI.2.1 (by omega), fun x h1 h2 => (o1 x (by have := hI.2.1; omega)).trans (hI.2.2.1 x h1 h2), hI.2.2.2⟩ hL
  rw [zq_wl_push (h := h) (h' := zq_new h n) (e := .inl (E.2.1 1, (zq_sh n).2, .inr (.inl ((zq_new h n).2.2.1 n)))) (show n + 1 = h.1 + 1 by rw [hn1]) (by rw [hn1]; exact zq_cell_l hsh) (fun j hj => zq_cell_cong (zq_row_o _ _ (by omega)) (zq_row_o _ _ (by omega)) (zq_row_o _ _ (by omega))), hn1]
  refine (hP.kept hk).app (fun k x hx => ?_)
  have hz : k < 1 := (List.getElem?_eq_some_iff.mp hx).1
  rw [show k = 0 by omega] at hx
  cases hx
  have hcA : cA = E.2.1 1 := Option.some.inj (hNm.symm.trans (hK.2 1 _ rfl).2)
  subst hcA
  show H1[E.2.2.1 + n]? = some (vp_cell _ _)
  rw [e1]
  simp only [zq_new, zq_row_t]
  rfl
theorem zq_newQ (C : zq_C X own cc nL Ts R0) (ck : Nat) (Cn : String) (hck : (ck = 12 ∧ Cn = "FlipPolygons$FlipGraph") ∨ (ck = 13 ∧ Cn = "FlipPolygons$State")) {n n0 B ix : Nat} {x : Int32} (hcl : Cond.classLink own ix Cn ∈ Ts) (ht : zq_T X (some n0)) (hn : n0 + cells = n) (d : decode cc pc = .ok (.anewarray ix, 3)) (hpc : pc + 3 = pc') (hg : zq_na h n ck B x = some h') (hB : B ≤ 100000) (hcs : cells + 1 ≤ R0.cells ∧ slots + B ≤ R0.slots) (k : zq_W X (cells + 1) (slots + B) h' pc' lv (.ref n :: st)) : zq_W X cells slots h pc lv (.int x :: st) := by
  subst hpc
  obtain ⟨⟨hn1, hsh, hx0, hxl, hxB⟩, hg2⟩ := zq_if1 hg
  cases hg2
  obtain ⟨p, l, e, R, s, m, args, below, meth, c, Q, E⟩ := X
  obtain ⟨hx, hbb, hml, hown, hts, rfl, hK, hSF, hs0, hlocks, hst⟩ := C
  intro H locs ls hI hL T9 hT9 XX
  have hsz := zq_size hI hs0 (ht n0 rfl) hn hn1 hT9 XX
  have hP := hI.1
  suffices key : W p l e R s m args below meth c H locs cells slots Q (F0 m pc ls ((Value.int x :: st).map (zq_tr E.2.2.1))) from key T9 hT9 XX
  have hover : va_AO Cn s := by
    rcases hck with ⟨_, rfl⟩ | ⟨_, rfl⟩
    · exact hSF.2.2.2.2.2.1
    · exact hSF.2.2.2.2.2.2.1
  refine W.anew hx hbb hown (hts _ hcl) (va_AO.use hover) rfl d rfl hx0 (by rw [hxl]; omega) hcs.1 (by rw [hxl]; omega) (fun cA kA comp f1 f2 f3 f4 => ?_)
  generalize hH1 : H.push ({ cls := cA, slots := Array.replicate x.toNatClampNeg .null, vm := .none } : Cell) = H1
  have z1 : H1.size = H.size + 1 := by rw [← hH1, Array.size_push]
  have e1 : H1[H.size]? = some (arrV cA x.toNatClampNeg (fun _ => .null)) := by rw [← hH1, Array.getElem?_push_size, ← arrV_new]
  have o1 : ∀ q : Nat, q < H.size → H1[q]? = H[q]? := fun q hq => by rw [← hH1, Array.getElem?_push, if_neg (Nat.ne_of_lt hq)]
  have hk : ∀ (k : Nat) (x : Nat × va_E), (zq_wl E h)[k]? = some x → H1[x.1]? = H[x.1]? := fun k x hx => o1 x.1 ((hP k x hx).lt)
  refine W.widen (k := cells + 1) (n := slots + B) (Nat.le_refl _) (by rw [hxl]; omega) ?_
  have k2 := k H1 locs ls ⟨?_, Nat.le_trans hI.2.1 (by omega), fun x h1 h2 => (o1 x (by have := hI.2.1; omega)).trans (hI.2.2.1 x h1 h2), hI.2.2.2⟩ hL
  · rw [List.map_cons, show zq_tr E.2.2.1 (.ref n) = .ref H.size from by rw [hsz]; rfl] at k2
    exact k2
  · have hck2 : ck = 12 ∨ ck = 13 := by rcases hck with h | h; exact Or.inl h.1; exact Or.inr h.1
    rw [zq_wl_push (h := h) (h' := zq_new h n) (e := .inl (E.2.1 (ck - 10), (zq_sh n).2, .inr (.inr (.inr (.inr (fun j => ((zq_new h n).2.2.2 n j).map (E.2.2.1 + ·)))))) ) (show n + 1 = h.1 + 1 by rw [hn1]) (by rw [hn1]; exact zq_cell_q hsh hck2) (fun j hj => zq_cell_cong (zq_row_o _ _ (by omega)) (zq_row_o _ _ (by omega)) (zq_row_o _ _ (by omega))), hn1]
    refine (hP.kept hk).app (fun k x hx => ?_)
    have hz : k < 1 := (List.getElem?_eq_some_iff.mp hx).1
    rw [show k = 0 by omega] at hx
    cases hx
    have hcA : cA = E.2.1 (ck - 10) := by
      rcases hck with ⟨rfl, rfl⟩ | ⟨rfl, rfl⟩
      · obtain ⟨_, _, _, _, _, g4⟩ := (hK.2 2 _ rfl).2
        exact Option.some.inj (f1.symm.trans g4)
      · obtain ⟨_, _, _, _, _, g4⟩ := (hK.2 3 _ rfl).2
        exact Option.some.inj (f1.symm.trans g4)
    rw [← hcA, ← hsz]
    show H1[H.size]? = some (vp_cell _ _)
    rw [e1, hxl]
    simp only [zq_new, zq_row_t]
    rfl
/-- a static array, read at once -/
theorem zq_getst (C : zq_C X own cc nL Ts R0) {i ix : Nat} {host : String} (hi : i < 3) (hl : Cond.fieldLinkNest own ix "FlipPolygons" (zq_stn i) "[I" host ∈ zq_nw) (d : decode cc pc = .ok (.getstatic ix, 3)) (hpc : pc + 3 = pc') (k : ∀ a, (∀ (x v : Int32) (pc9 pc2 : Nat) (st9 : List Value), decode cc pc9 = .ok (.iaload, 1) → pc9 + 1 = pc2 → zq_st i x = some v → zq_W X cells slots h pc2 lv (.int v :: st9) → zq_W X cells slots h pc9 lv (.int x :: .retAddr a :: st9)) → zq_W X cells slots h pc' lv (.retAddr a :: st)) : zq_W X cells slots h pc lv st := by
  subst hpc
  obtain ⟨p, l, e, R, s, m, args, below, meth, c, Q, E⟩ := X
  obtain ⟨hx, hbb, hml, hown, hts, rfl, hK, hSF, hs0, hlocks, hst⟩ := C
  obtain ⟨hZ, hTt⟩ := hSF.2.1 i hi
  have k2 := k (E.2.2.2 i) (fun x v pc9 pc2 st9 d9 hp9 hg9 k9 => by
    subst hp9
    obtain ⟨g1, g2⟩ := zq_if1 hg9
    intro H locs ls hI hL
    exact va_ti hx hbb hTt hI.2 g1 (v := .int v) (by rw [show (zq_tab i).getD x.toNatClampNeg 0 = v from Option.some.inj g2]) d9 (k9 H locs ls hI hL))
  intro H locs ls hI hL
  exact va_getsN hx hbb hZ hI.2 hown (va_Nw.use rfl (hSF.1 _ hl)) (fun _ h9 => h9) d (k2 H locs ls hI hL)
end ZQC
/-! shorter forms: the words are zq_all, the callee makes nothing -/
theorem zq_goodV {own Cn : String} {ix : Nat} {y : MethodName} {cw : Cond} (h1 : Cond.methodLink own ix y ∈ zq_all) (h2 : Cond.instanceMethod y ∈ zq_all) (h3 : Cond.selects Cn y y ∈ zq_all) (h4 : Cond.initialized Cn ∈ zq_all) (h5 : cw ∈ zq_all) : GoodIn zq_all (wsV own ix Cn y (cw :: zq_all)) := by
  intro w hw
  have hm : w ∈ zq_all := by
    simp only [wsV, List.cons_append, List.nil_append, List.mem_cons] at hw
    rcases hw with rfl | rfl | rfl | rfl | rfl | hw
    · exact h1
    · exact h2
    · exact h3
    · exact h4
    · exact h5
    · exact hw
  exact ⟨hm, good_of_word (List.mem_filter.mp hm).2⟩
theorem zq_goodS {own : String} {ix : Nat} {y : MethodName} {cw : Cond} (h1 : Cond.methodLink own ix y ∈ zq_all) (h2 : Cond.static y ∈ zq_all) (h4 : Cond.initialized y.cls ∈ zq_all) (h5 : cw ∈ zq_all) : GoodIn zq_all (va_wsS own ix y (cw :: zq_all)) := by
  intro w hw
  have hm : w ∈ zq_all := by
    simp only [va_wsS, List.cons_append, List.nil_append, List.mem_cons] at hw
    rcases hw with rfl | rfl | rfl | rfl | hw
    · exact h1
    · exact h2
    · exact h4
    · exact h5
    · exact hw
  exact ⟨hm, good_of_word (List.mem_filter.mp hm).2⟩
theorem zq_goodC {cw : Cond} (h5 : cw ∈ zq_all) : GoodIn zq_all (cw :: zq_all) := by
  intro w hw
  have hm : w ∈ zq_all := by
    rcases List.mem_cons.mp hw with rfl | hw
    · exact h5
    · exact hw
  exact ⟨hm, good_of_word (List.mem_filter.mp hm).2⟩
theorem zq_met2 {tz : Option Nat} {y : MethodName} {rm : Room} {cc : ByteArray} {nL : Nat} {ret : Option FieldType} {own : String} {as : List Value} {h h' : zq_H} {rv : Option Value} {lv : List (Nat × Value)} (hy : plainName y.cls = true) (hcls : y.cls = own) (hlen : (lg_sl as).length ≤ nL) (hlv : lv_args 0 as = lv) (hrv : zq_rok ret rv)
    (body : ∀ X : zq_X, zq_C X own cc nL zq_all rm → zq_T X tz → X.2.2.2.2.2.2.2.2.1.name = y.name → zq_End X cc rm.cells rm.slots rv h' → zq_W X 0 0 h 0 lv []) : zq_M tz y (Cond.code y cc nL ret :: zq_all) rm as h rv h' := by
  subst hlv
  refine zq_met hy rfl hcls hlen hrv (fun X C => body X ?_)
  obtain ⟨p, l, e, R, s, m, args, below, meth, c, Q, E⟩ := X
  obtain ⟨hx, hbb, hml, hown, hts, hR, hK, hSF, hs0, hlocks, hst⟩ := C
  exact ⟨hx, hbb, hml, hown, fun w hw => hts w (List.mem_cons_of_mem _ hw), hR, hK, hSF, hs0, hlocks, hst⟩
/-- loops: a body is run until it leaves -/
def zq_lp {σ ρ : Type} (b : σ → Option (σ ⊕ ρ)) : Nat → σ → Option ρ
  | 0, _ => none
  | n + 1, s => match b s with
    | none => none
    | some (.inl s2) => zq_lp b n s2
    | some (.inr r) => some r
theorem zq_lpW {σ ρ : Type} {b : σ → Option (σ ⊕ ρ)} {n : Nat} {s0 : σ} {r0 : ρ} (P : σ → Prop) (T : ρ → Prop) (hr : zq_lp b n s0 = some r0) (hs : ∀ s r, b s = some r → (∀ s2, r = .inl s2 → P s2) → (∀ x, r = .inr x → T x) → P s) (hT : T r0) : P s0 := by
  induction n generalizing s0 with
  | zero => cases hr
  | succ n ih =>
    unfold zq_lp at hr
    cases hb : b s0 with
    | none => rw [hb] at hr; cases hr
    | some r =>
      rw [hb] at hr
      refine hs s0 r hb (fun s2 e => ?_) (fun x e => ?_)
      · subst e; exact ih hr
      · subst e
        cases hr
        exact hT
def zq_N : Nat := 4294967296
