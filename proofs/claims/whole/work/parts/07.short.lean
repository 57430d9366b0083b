def zq_b (b : Bool) : Int32 := if b = true then 1 else 0
theorem zq_b0 {b : Bool} : zq_b b = 0 ↔ b = false := by cases b <;> decide
theorem zq_bd2 {α β : Type} {x : Option α} {f : α → Option β} {r : β} (h : x.bind f = some r) : ∃ v, x = some v ∧ f v = some r := zq_bd h
abbrev zq_calV (y : MethodName) (Cn : String) (bytes : ByteArray) (maxL : Nat) (ret : Option FieldType) (n : Nat) : Prop := (y.cls = Cn ∧ zq_Y y n) ∧ Cond.code y bytes maxL ret ∈ zq_all ∧ Cond.instanceMethod y ∈ zq_all ∧ Cond.selects Cn y y ∈ zq_all ∧ Cond.initialized Cn ∈ zq_all
abbrev zq_calS (y : MethodName) (bytes : ByteArray) (maxL : Nat) (ret : Option FieldType) (n : Nat) : Prop := zq_Y y n ∧ Cond.code y bytes maxL ret ∈ zq_all ∧ Cond.static y ∈ zq_all ∧ Cond.initialized y.cls ∈ zq_all
section ZQS
variable {X : zq_X} {own : String} {cc : ByteArray} {nL : Nat} {R0 : Room} {cells slots : Nat} {h h' : zq_H} {pc pc' : Nat} {lv lv' : List (Nat × Value)} {st : List Value}
theorem zq_cV (C : zq_C X own cc nL zq_all R0) {y : MethodName} {rm : Room} {b ci N index maxL n : Nat} {as st0 st2 : List Value} {rv : Option Value} {Cn : String} {T : u_T} {ty : Nat → FieldType} {bytes : ByteArray} {ret : Option FieldType} (hM : zq_M none y (Cond.code y bytes maxL ret :: zq_all) rm (.ref b :: as) h rv h') (Y : zq_calV y Cn bytes maxL ret n) (hl : Cond.methodLink own index y ∈ zq_all) (K : zq_K ci Cn T N ty) (hb : b < h.1 ∧ (zq_sh b).1 = ci) (d : decode cc pc = .ok (.invokevirtual index, 3)) (hpc : pc + 3 = pc') (hst0 : st0 = as.reverse ++ .ref b :: st) (hn : n = as.length) (hR : zq_Rm rm R0 maxL) (hcat : (st.map fun v => v.category).sum ≤ 8) (h0 : rm.cells = 0 ∧ rm.slots = 0) (hcs : cells ≤ R0.cells ∧ slots ≤ R0.slots) (hst2 : rv.toList ++ st = st2)
    (k : zq_W X cells slots h' pc' lv st2) : zq_W X cells slots h pc lv st0 := by
  subst hst2; subst hn
  exact zq_callV C hM (zq_goodV hl Y.2.2.1 Y.2.2.2.1 Y.2.2.2.2 Y.2.1) rfl Y.1 K hb d hpc hst0 hR hcat (by rw [h0.1, h0.2]; exact hcs) (by rw [h0.1, h0.2]; exact k)
theorem zq_cS (C : zq_C X own cc nL zq_all R0) {y : MethodName} {rm : Room} {index maxL n : Nat} {as st0 st2 : List Value} {rv : Option Value} {bytes : ByteArray} {ret : Option FieldType} (hM : zq_M none y (Cond.code y bytes maxL ret :: zq_all) rm as h rv h') (Y : zq_calS y bytes maxL ret n) (hl : Cond.methodLink own index y ∈ zq_all) (d : decode cc pc = .ok (.invokestatic index, 3)) (hpc : pc + 3 = pc') (hst0 : st0 = as.reverse ++ st) (hn : n = as.length) (hR : zq_Rm rm R0 maxL) (hcat : (st.map fun v => v.category).sum ≤ 8) (h0 : rm.cells = 0 ∧ rm.slots = 0) (hcs : cells ≤ R0.cells ∧ slots ≤ R0.slots) (hst2 : rv.toList ++ st = st2)
    (k : zq_W X cells slots h' pc' lv st2) : zq_W X cells slots h pc lv st0 := by
  subst hst2; subst hn
  exact zq_callS C hM (zq_goodS hl Y.2.2.1 Y.2.2.2 Y.2.1) rfl Y.1 d hpc hst0 hR hcat (by rw [h0.1, h0.2]; exact hcs) (by rw [h0.1, h0.2]; exact k)
theorem zq_cSN (C : zq_C X own cc nL zq_all R0) {y : MethodName} {rm : Room} {index maxL n : Nat} {as st0 st2 : List Value} {rv : Option Value} {bytes : ByteArray} {ret : Option FieldType} {host : String} (hM : zq_M none y (Cond.code y bytes maxL ret :: zq_all) rm as h rv h') (Y : zq_calS y bytes maxL ret n) (hl : Cond.methodLinkNest own index y host ∈ zq_nw) (d : decode cc pc = .ok (.invokestatic index, 3)) (hpc : pc + 3 = pc') (hst0 : st0 = as.reverse ++ st) (hn : n = as.length) (hR : zq_Rm rm R0 maxL) (hcat : (st.map fun v => v.category).sum ≤ 8) (h0 : rm.cells = 0 ∧ rm.slots = 0) (hcs : cells ≤ R0.cells ∧ slots ≤ R0.slots) (hst2 : rv.toList ++ st = st2)
    (k : zq_W X cells slots h' pc' lv st2) : zq_W X cells slots h pc lv st0 := by
  subst hst2; subst hn
  exact zq_callSN C hM (zq_goodC Y.2.1) rfl hl Y.2.2.2 Y.2.2.1 Y.1 d hpc hst0 hR hcat (by rw [h0.1, h0.2]; exact hcs) (by rw [h0.1, h0.2]; exact k)
end ZQS
