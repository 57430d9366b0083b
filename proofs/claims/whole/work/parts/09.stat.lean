/-! a static array as an argument -/
section ZQA
variable {X : zq_X} {own : String} {cc : ByteArray} {nL : Nat} {R0 : Room} {cells slots : Nat} {h h' : zq_H} {pc pc' : Nat} {lv lv' : List (Nat × Value)} {st : List Value}
/-- the static array i stands at a -/
def zq_Ga (X : zq_X) (i a : Nat) : Prop :=
  match X with
  | (_, _, _, _, _, _, _, _, _, _, _, E) => i < 3 ∧ E.2.2.2 i = a
/-- a contract whose arguments may tell where the static array i stands -/
def zq_Ma (i a : Nat) (y : MethodName) (ws : List Cond) (rm : Room) (as : List Value) (h : zq_H) (rv : Option Value) (h' : zq_H) : Prop :=
  ∀ (l : Launch) (E : zq_E), l.stackTraces = false → i < 3 ∧ E.2.2.2 i = a → Met l y ws rm (va_Pc (as.map (zq_tr E.2.2.1)) (zq_Pre E h none)) (zq_Q E rv h') rm.cells rm.slots (zq_A E)
theorem zq_getstA (C : zq_C X own cc nL zq_all R0) {i ix : Nat} {host : String} (hi : i < 3) (hl : Cond.fieldLinkNest own ix "FlipPolygons" (zq_stn i) "[I" host ∈ zq_nw) (d : decode cc pc = .ok (.getstatic ix, 3)) (hpc : pc + 3 = pc') (k : ∀ a, zq_Ga X i a → zq_W X cells slots h pc' lv (.retAddr a :: st)) : zq_W X cells slots h pc lv st := by
  subst hpc
  obtain ⟨p, l, e, R, s, m, args, below, meth, c, Q, E⟩ := X
  obtain ⟨hx, hbb, hml, hown, hts, rfl, hK, hSF, hs0, hlocks, hst⟩ := C
  obtain ⟨hZ, hTt⟩ := hSF.2.1 i hi
  have k2 := k (E.2.2.2 i) ⟨hi, rfl⟩
  intro H locs ls hI hL
  exact va_getsN hx hbb hZ hI.2 hown (va_Nw.use rfl (hSF.1 _ hl)) (fun _ h9 => h9) d (k2 H locs ls hI hL)
theorem zq_stlen (C : zq_C X own cc nL zq_all R0) {i a : Nat} (g : zq_Ga X i a) (d : decode cc pc = .ok (.arraylength, 1)) (hpc : pc + 1 = pc') (k : zq_W X cells slots h pc' lv (.int 6 :: st)) : zq_W X cells slots h pc lv (.retAddr a :: st) := by
  subst hpc
  obtain ⟨p, l, e, R, s, m, args, below, meth, c, Q, E⟩ := X
  obtain ⟨hx, hbb, hml, hown, hts, rfl, hK, hSF, hs0, hlocks, hst⟩ := C
  obtain ⟨hi, rfl⟩ := g
  obtain ⟨hZ, hTt⟩ := hSF.2.1 i hi
  intro H locs ls hI hL
  exact va_tlen hx hbb hTt hI.2 (v := 6) rfl d (k H locs ls hI hL)
theorem zq_stld (C : zq_C X own cc nL zq_all R0) {i a : Nat} {x v : Int32} (g : zq_Ga X i a) (d : decode cc pc = .ok (.iaload, 1)) (hpc : pc + 1 = pc') (hg : zq_st i x = some v) (k : zq_W X cells slots h pc' lv (.int v :: st)) : zq_W X cells slots h pc lv (.int x :: .retAddr a :: st) := by
  subst hpc
  obtain ⟨g1, g2⟩ := zq_if1 hg
  obtain ⟨p, l, e, R, s, m, args, below, meth, c, Q, E⟩ := X
  obtain ⟨hx, hbb, hml, hown, hts, rfl, hK, hSF, hs0, hlocks, hst⟩ := C
  obtain ⟨hi, rfl⟩ := g
  obtain ⟨hZ, hTt⟩ := hSF.2.1 i hi
  intro H locs ls hI hL
  exact va_ti hx hbb hTt hI.2 g1 (v := .int v) (by rw [show (zq_tab i).getD x.toNatClampNeg 0 = v from Option.some.inj g2]) d (k H locs ls hI hL)
theorem zq_cSA (C : zq_C X own cc nL zq_all R0) {i a : Nat} (ga : zq_Ga X i a) {y : MethodName} {rm : Room} {index maxL n : Nat} {as st0 st2 : List Value} {rv : Option Value} {bytes : ByteArray} {ret : Option FieldType} (hM : zq_Ma i a y (Cond.code y bytes maxL ret :: zq_all) rm as h rv h') (Y : zq_calS y bytes maxL ret n) (hl : Cond.methodLink own index y ∈ zq_all) (d : decode cc pc = .ok (.invokestatic index, 3)) (hpc : pc + 3 = pc') (hst0 : st0 = as.reverse ++ st) (hn : n = as.length) (hR : zq_Rm rm R0 maxL) (hcat : (st.map fun v => v.category).sum ≤ 8) (h0 : rm.cells = 0 ∧ rm.slots = 0) (hcs : cells ≤ R0.cells ∧ slots ≤ R0.slots) (hst2 : rv.toList ++ st = st2)
    (k : zq_W X cells slots h' pc' lv st2) : zq_W X cells slots h pc lv st0 := by
  subst hst2; subst hn; subst hpc; subst hst0
  obtain ⟨p, l, e, R, s, m, args, below, meth, c, Q, E⟩ := X
  obtain ⟨hx, hbb, hml, hown, hts, rfl, hK, hSF, hs0, hlocks, hst⟩ := C
  intro H locs ls hI hL
  exact zq_run (st := st) hI hL (va_runS (As := as.map (zq_tr E.2.2.1)) ⟨hx, hbb, hml, hown, hts⟩ (hM l E hst ga) (va_cwS as.length hts (zq_goodS hl Y.2.2.1 Y.2.2.2 Y.2.1) rfl rfl rfl Y.1 hR) ⟨zq_Pre.blind _, fun U hU hW => ⟨rfl, zq_pre hK hSF hs0 hI (fun n hn => by cases hn) hU hW⟩⟩ rfl (by simp) (by rw [← hml]; exact hL.1) (by simp) (lv_room (by rw [zq_tr_sum]; exact hcat)) d (by rw [h0.1, h0.2]; exact hcs)) (by rw [h0.1, h0.2]; exact k)
theorem zq_metA {i a : Nat} {y : MethodName} {rm : Room} {ret : Option FieldType} {as : List Value} {rv : Option Value} (hy : plainName y.cls = true) (hcls : y.cls = own) (hlen : (lg_sl as).length ≤ nL) (hlv : lv_args 0 as = lv) (hrv : zq_rok ret rv)
    (body : ∀ X : zq_X, zq_C X own cc nL zq_all rm → zq_Ga X i a → zq_End X cc rm.cells rm.slots rv h' → zq_W X 0 0 h 0 lv []) : zq_Ma i a y (Cond.code y cc nL ret :: zq_all) rm as h rv h' := by
  subst hlv
  intro l E hst hga
  refine Met.ofW (cc := cc) (maxL := nL) (ret := ret) hy rfl ?_
  intro p e s m args below meth c s₁ B hml hv
  obtain ⟨rfl, hP, hK, hSF, hs0, htz⟩ := hv
  have hts := atoms_spec (ws := Cond.code y cc nL ret :: zq_all) B.pre
  have hown : s.vm.findClass own = some m.cls := by rw [← hcls]; exact findClass_of_methodNamed B.named
  have hl := lv_entry (as.map (zq_tr E.2.2.1)) (n := nL) (by rw [zq_sl]; exact hlen)
  rw [zq_args] at hl
  rw [lg_entry_eq]
  have C : zq_C (p, l, e, (headSpec (Cond.code y cc nL ret :: zq_all) rm).room, s, m, (as.map (zq_tr E.2.2.1)).toArray, below, meth, c, MQ below (zq_Q E rv h') (as.map (zq_tr E.2.2.1)).toArray s rm.cells rm.slots (zq_A E), E) own cc nL zq_all rm := ⟨B.exec, B.bytes, hml, hown, fun w hw => hts w (List.mem_cons_of_mem _ hw), rfl, hK, hSF, hs0, B.notSynchronized, hst⟩
  exact body (p, l, e, (headSpec (Cond.code y cc nL ret :: zq_all) rm).room, s, m, (as.map (zq_tr E.2.2.1)).toArray, below, meth, c, MQ below (zq_Q E rv h') (as.map (zq_tr E.2.2.1)).toArray s rm.cells rm.slots (zq_A E), E) C hga (zq_end _ (fun _ _ _ _ hh => hh) C B.returns hrv) s.heap [] _ ⟨hP, va_S.rf⟩ (by rw [hml]; exact hl)
end ZQA
