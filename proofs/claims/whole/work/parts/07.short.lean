def zq_b (b : Bool) : Int32 := if b = true then 1 else 0
theorem zq_b0 {b : Bool} : zq_b b = 0 ↔ b = false := by cases b <;> decide
theorem zq_bd2 {α β : Type} {x : Option α} {f : α → Option β} {r : β} (h : x.bind f = some r) : ∃ v, x = some v ∧ f v = some r := zq_bd h
abbrev zq_calV (y : MethodName) (Cn : String) (bytes : ByteArray) (maxL : Nat) (ret : Option FieldType) (n : Nat) : Prop := (y.cls = Cn ∧ zq_Y y n) ∧ Cond.code y bytes maxL ret ∈ zq_all ∧ Cond.instanceMethod y ∈ zq_all ∧ Cond.selects Cn y y ∈ zq_all ∧ Cond.initialized Cn ∈ zq_all
abbrev zq_calS (y : MethodName) (bytes : ByteArray) (maxL : Nat) (ret : Option FieldType) (n : Nat) : Prop := zq_Y y n ∧ Cond.code y bytes maxL ret ∈ zq_all ∧ Cond.static y ∈ zq_all ∧ Cond.initialized y.cls ∈ zq_all
section ZQS
variable {X : zq_X} {own : String} {cc : ByteArray} {nL : Nat} {R0 : Room} {cells slots : Nat} {h h' : zq_H} {pc pc' : Nat} {lv lv' : List (Nat × Value)} {st : List Value}
theorem zq_cV (C : zq_C X own cc nL zq_all R0) {y : MethodName} {rm : Room} {b ci N index maxL n : Nat} {as st0 st2 : List Value} {rv : Option Value} {Cn : String} {T : u_T} {ty : Nat → FieldType} {bytes : ByteArray} {ret : Option FieldType} (hM : zq_M none y (Cond.code y bytes maxL ret :: zq_all) rm (.ref b :: as) h rv h') (Y : zq_calV y Cn bytes maxL ret n) (hl : Cond.methodLink own index y ∈ zq_all) (K : zq_K ci Cn T N ty) (hb : b < h.1 ∧ (zq_sh b).1 = ci) (d : decode cc pc = .ok (.invokevirtual index, 3)) (hpc : pc + 3 = pc') (hst0 : st0 = as.reverse ++ .ref b :: st) (hn : n = as.length) (hR : zq_Rm rm R0 maxL) (hcat : (st.map fun v => v.category).sum ≤ 8) (h0 : rm.cells = 0 ∧ rm.slots = 0) (hcs : cells ≤ R0.cells ∧ slots ≤ R0.slots) (hst2 : rv.toList ++ st = st2)
    (k : zq_W X cells slots h' pc' lv st2) : zq_W X cells slots h pc lv st0 := by
  subst hst2; subst hn
  exact zq_callV C hM (zq_goodV hl Y.2.2.1 Y.2.2.2.1 Y.2.2.2.2 Y.2.1) rfl Y.1 K hb d hpc hst0 hR hcat (by rw [h0.1, h0.2]; exact hcs) (by rw [h0.1, h0.2]; exact k)
theorem zq_cS (C : zq_C X own cc nL zq_all R0) {y : MethodName} {rm : Room} {index maxL n : Nat} {as st0 st2 : List Value} {rv : Option Value} {bytes : ByteArray} {ret : Option FieldType} (hM : zq_M none y (Cond.code y bytes maxL ret :: zq_all) rm as h rv h') (Y : zq_calS y bytes maxL ret n) (hl : Cond.methodLink own index y ∈ zq_all) (d : decode cc pc = .ok (.invokestatic index, 3)) (hpc : pc + 3 = pc') (hst0 : st0 = as.reverse ++ st) (hn : n = as.length) (hR : zq_Rm rm R0 maxL) (hcat : (st.map fun v => v.category).sum ≤ 8) (h0 : rm.cells = 0 ∧ rm.slots = 0) (hcs : cells ≤ R0.cells ∧ slots ≤ R0.slots) (hst2 : rv.toList ++ st = st2)
    (k : zq_W X cells slots h' pc' lv st2) : zq_W X cells slots h pc lv st0 := by
  subst hst2; subst hn
  exact zq_callS C hM (zq_goodS hl Y.2.2.1 Y.2.2.2 Y.2.1) rfl Y.1 d hpc hst0 hR hcat (by rw [h0.1, h0.2]; exact hcs) (by rw [h0.1, h0.2]; exact k)
theorem zq_cSN (C : zq_C X own cc nL zq_all R0) {y : MethodName} {rm : Room} {index maxL n : Nat} {as st0 st2 : List Value} {rv : Option Value} {bytes : ByteArray} {ret : Option FieldType} {host : String} (hM : zq_M none y (Cond.code y bytes maxL ret :: zq_all) rm as h rv h') (Y : zq_calS y bytes maxL ret n) (hl : Cond.methodLinkNest own index y host ∈ zq_nw) (d : decode cc pc = .ok (.invokestatic index, 3)) (hpc : pc + 3 = pc') (hst0 : st0 = as.reverse ++ st) (hn : n = as.length) (hR : zq_Rm rm R0 maxL) (hcat : (st.map fun v => v.category).sum ≤ 8) (h0 : rm.cells = 0 ∧ rm.slots = 0) (hcs : cells ≤ R0.cells ∧ slots ≤ R0.slots) (hst2 : rv.toList ++ st = st2)
    (k : zq_W X cells slots h' pc' lv st2) : zq_W X cells slots h pc lv st0 := by
  subst hst2; subst hn
  exact zq_callSN C hM (zq_goodC Y.2.1) rfl hl Y.2.2.2 Y.2.2.1 Y.1 d hpc hst0 hR hcat (by rw [h0.1, h0.2]; exact hcs) (by rw [h0.1, h0.2]; exact k)
end ZQS
def zq_nz {α : Type} (y : Int32) (f : Unit → Option α) : Option α := if ¬ y = 0 then f () else none
theorem zq_nz_e {α : Type} {y : Int32} {f : Unit → Option α} {r : α} (h : zq_nz y f = some r) : ¬ y = 0 ∧ f () = some r := zq_if1 h
def zq_nn {α : Type} (x : UInt64) (f : Unit → Option α) : Option α := if x &&& 0x7fffffffffffffff ≤ 0x7ff0000000000000 then f () else none
theorem zq_nn_e {α : Type} {x : UInt64} {f : Unit → Option α} {r : α} (e : zq_nn x f = some r) : vf_n64 x ∧ f () = some r := by
  unfold zq_nn at e
  obtain ⟨h1, h2⟩ := zq_if1 e
  exact ⟨h1, h2⟩
def zq_z {α : Type} (x : Int32) (f : Bool → Option α) : Option α := if x = 1 then f true else if x = 0 then f false else none
theorem zq_z_e {α : Type} {x : Int32} {f : Bool → Option α} {r : α} (h : zq_z x f = some r) : ∃ b, x = zq_b b ∧ f b = some r := by
  unfold zq_z at h
  by_cases h1 : x = 1
  · rw [if_pos h1] at h; exact ⟨true, h1, h⟩
  · rw [if_neg h1] at h
    by_cases h0 : x = 0
    · rw [if_pos h0] at h; exact ⟨false, h0, h⟩
    · rw [if_neg h0] at h; cases h
def zq_ck {α : Type} (h : zq_H) (b c : Nat) (f : Unit → Option α) : Option α := if b < h.1 ∧ (zq_sh b).1 = c then f () else none
theorem zq_ck_e {α : Type} {h : zq_H} {b c : Nat} {f : Unit → Option α} {r : α} (e : zq_ck h b c f = some r) : (b < h.1 ∧ (zq_sh b).1 = c) ∧ f () = some r := zq_if1 e
def zq_at {α : Type} (h : zq_H) (n : Nat) (f : Unit → Option α) : Option α := if h.1 = n then f () else none
theorem zq_at_e {α : Type} {h : zq_H} {n : Nat} {f : Unit → Option α} {r : α} (e : zq_at h n f = some r) : h.1 = n ∧ f () = some r := zq_if1 e
def zq_is {α β : Type} [DecidableEq β] (o : Option β) (v : β) (f : Unit → Option α) : Option α := if o = some v then f () else none
theorem zq_is_e {α β : Type} [DecidableEq β] {o : Option β} {v : β} {f : Unit → Option α} {r : α} (h : zq_is o v f = some r) : o = some v ∧ f () = some r := zq_if1 h
theorem zq_gi_pi {h h' : zq_H} {t c j : Nat} {v : Int32} (e : zq_pi h t c j v = some h') : zq_gi h' t c j = some v := by
  obtain ⟨h1, h2⟩ := zq_if1 e
  cases h2
  unfold zq_gi
  rw [if_pos h1]
  simp [zq_up]
theorem zq_bnar (b : Bool) : narrow .boolean (.int (zq_b b)) = .int (zq_b b) := by cases b <;> rfl
theorem fa_eq9 (a b : Int32) : a = b ↔ a.toInt = b.toInt := ⟨fun h => by rw [h], fun h => Int32.toInt_inj.mp h⟩
theorem zq_out {x : Int32} {lo hi : Int} {n : Nat} (hl : lo = 0) (hh : hi = (n : Int) - 1) (hn : n < 100) (h : ∀ k : Nat, k < n → ¬ x = nI k) : x.toInt < lo ∨ hi < x.toInt := by
  by_cases h1 : x.toInt < lo
  · exact Or.inl h1
  · refine Or.inr ?_
    by_cases h2 : hi < x.toInt
    · exact h2
    · exfalso
      have h3 : x.toInt.toNat < n := by omega
      refine h _ h3 ?_
      have h4 : x.toInt = (x.toInt.toNat : Int) := by omega
      refine (fa_eq9 x _).mpr ?_
      rw [nI_toInt (by omega)]
      exact h4
theorem zq_in0w : ∀ w ∈ u_ws RX0 TX0 9, w ∈ zq_all := List.forall_mem_cons.mpr ⟨wd_930, List.forall_mem_cons.mpr ⟨wd_931, List.forall_mem_cons.mpr ⟨wd_932, List.forall_mem_cons.mpr ⟨wd_933, List.forall_mem_cons.mpr ⟨wd_934, List.forall_mem_cons.mpr ⟨wd_935, List.forall_mem_cons.mpr ⟨wd_936, List.forall_mem_cons.mpr ⟨wd_937, List.forall_mem_cons.mpr ⟨wd_938, fun _ h => absurd h List.not_mem_nil⟩⟩⟩⟩⟩⟩⟩⟩⟩
theorem zq_in1w : ∀ w ∈ u_ws RX1 TX1 9, w ∈ zq_all := List.forall_mem_cons.mpr ⟨wd_921, List.forall_mem_cons.mpr ⟨wd_922, List.forall_mem_cons.mpr ⟨wd_923, List.forall_mem_cons.mpr ⟨wd_924, List.forall_mem_cons.mpr ⟨wd_925, List.forall_mem_cons.mpr ⟨wd_926, List.forall_mem_cons.mpr ⟨wd_927, List.forall_mem_cons.mpr ⟨wd_928, List.forall_mem_cons.mpr ⟨wd_929, fun _ h => absurd h List.not_mem_nil⟩⟩⟩⟩⟩⟩⟩⟩⟩
theorem zq_in2w : ∀ w ∈ u_ws RX2 TX2 6, w ∈ zq_all := List.forall_mem_cons.mpr ⟨wd_946, List.forall_mem_cons.mpr ⟨wd_947, List.forall_mem_cons.mpr ⟨wd_948, List.forall_mem_cons.mpr ⟨wd_949, List.forall_mem_cons.mpr ⟨wd_950, List.forall_mem_cons.mpr ⟨wd_951, fun _ h => absurd h List.not_mem_nil⟩⟩⟩⟩⟩⟩
theorem zq_in3w : ∀ w ∈ u_ws RX3 TX3 5, w ∈ zq_all := List.forall_mem_cons.mpr ⟨wd_939, List.forall_mem_cons.mpr ⟨wd_940, List.forall_mem_cons.mpr ⟨wd_941, List.forall_mem_cons.mpr ⟨wd_942, List.forall_mem_cons.mpr ⟨wd_943, fun _ h => absurd h List.not_mem_nil⟩⟩⟩⟩⟩
theorem zq_in4w : ∀ w ∈ u_ws RX4 TX4 2, w ∈ zq_all := List.forall_mem_cons.mpr ⟨wd_944, List.forall_mem_cons.mpr ⟨wd_945, fun _ h => absurd h List.not_mem_nil⟩⟩
theorem zq_in5w : ∀ w ∈ u_ws RX5 TX5 11, w ∈ zq_all := List.forall_mem_cons.mpr ⟨wd_952, List.forall_mem_cons.mpr ⟨wd_953, List.forall_mem_cons.mpr ⟨wd_954, List.forall_mem_cons.mpr ⟨wd_955, List.forall_mem_cons.mpr ⟨wd_956, List.forall_mem_cons.mpr ⟨wd_957, List.forall_mem_cons.mpr ⟨wd_958, List.forall_mem_cons.mpr ⟨wd_959, List.forall_mem_cons.mpr ⟨wd_960, List.forall_mem_cons.mpr ⟨wd_961, List.forall_mem_cons.mpr ⟨wd_962, fun _ h => absurd h List.not_mem_nil⟩⟩⟩⟩⟩⟩⟩⟩⟩⟩⟩
theorem zq_in6w : ∀ w ∈ u_ws RX6 TX6 22, w ∈ zq_all := List.forall_mem_cons.mpr ⟨wd_970, List.forall_mem_cons.mpr ⟨wd_971, List.forall_mem_cons.mpr ⟨wd_972, List.forall_mem_cons.mpr ⟨wd_973, List.forall_mem_cons.mpr ⟨wd_974, List.forall_mem_cons.mpr ⟨wd_975, List.forall_mem_cons.mpr ⟨wd_976, List.forall_mem_cons.mpr ⟨wd_977, List.forall_mem_cons.mpr ⟨wd_978, List.forall_mem_cons.mpr ⟨wd_979, List.forall_mem_cons.mpr ⟨wd_980, List.forall_mem_cons.mpr ⟨wd_981, List.forall_mem_cons.mpr ⟨wd_982, List.forall_mem_cons.mpr ⟨wd_983, List.forall_mem_cons.mpr ⟨wd_984, List.forall_mem_cons.mpr ⟨wd_985, List.forall_mem_cons.mpr ⟨wd_986, List.forall_mem_cons.mpr ⟨wd_987, List.forall_mem_cons.mpr ⟨wd_988, List.forall_mem_cons.mpr ⟨wd_989, List.forall_mem_cons.mpr ⟨wd_990, List.forall_mem_cons.mpr ⟨wd_991, fun _ h => absurd h List.not_mem_nil⟩⟩⟩⟩⟩⟩⟩⟩⟩⟩⟩⟩⟩⟩⟩⟩⟩⟩⟩⟩⟩⟩
