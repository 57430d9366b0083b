/-! ===== BEGIN words of one list among another's, by their places ===== -/
theorem goodIn_r {big : List Cond} (ws : List Cond) (ps : List Nat) (hp : ws = ps.filterMap (fun i => big[i]?)) (h : ws.all goodWord = true) : GoodIn big ws := by
  intro w hw
  have h1 := List.all_eq_true.mp h w hw
  rw [hp] at hw
  obtain ⟨i, -, hi⟩ := List.mem_filterMap.mp hw
  have hm : w ∈ big := by first | exact List.mem_of_getElem? hi | exact List.getElem?_mem hi
  exact ⟨hm, good_of_word h1⟩
theorem goodIn_app {big a b : List Cond} (ha : GoodIn big a) (hb : GoodIn big b) : GoodIn big (a ++ b) := fun w h => (List.mem_append.mp h).elim (ha w) (hb w)
theorem goodIn_ca {big a b : List Cond} {c : Cond} (ha : GoodIn big (c :: a)) (hb : GoodIn big b) : GoodIn big (c :: (a ++ b)) := fun w h => (List.mem_cons.mp h).elim (fun e => ha w (List.mem_cons.mpr (Or.inl e))) (fun h => (List.mem_append.mp h).elim (fun h => ha w (List.mem_cons.mpr (Or.inr h))) (hb w))
theorem goodIn_sub {big ws : List Cond} (hm : ∀ w ∈ ws, w ∈ big) (h : ws.all goodWord = true) : GoodIn big ws := fun w hw => ⟨hm w hw, good_of_word (List.all_eq_true.mp h w hw)⟩
/-! ===== END ===== -/

/-! ===== BEGIN exceptions that leave a method, and their catching by the caller (launches without stack traces) ===== -/
section VXA
/-! The laws vx_back, vx_callV, vx_callS, vx_callSW, vx_throw0, vx_throwS follow proofs of the library, with one case more: JvmDerived/Free/Laws.lean (Back.of_free), Shelf42/LK1.lean (callV, callS), Shelf/KitTraced.lean (throwNew0V, throwNewS). -/
/-- where a method has thrown q: the class by its name, the cell, what was written, the world -/
def vx_T (XC : String → State → State → Prop) (st : State) (q : Addr) (t : State) (mc ms : Nat) (free : Addr → Prop) : Prop :=
  ∃ (E : String) (ce : Cell) (L : List Loc), XC E st t ∧ t.heap[q]? = some ce ∧ ce.vm = .none ∧ st.vm.findClass E = some ce.cls ∧ st.WarmedH t.vm ∧ st.sameButNew ({ t with vm := st.vm } : State) L mc ms ∧ ∀ z ∈ L, free z.base
def vx_Q (Qc : Array Value → State → Outcome → State → Prop) (XC : String → State → State → Prop) (mc ms : Nat) (free : Addr → Prop) : Array Value → State → Outcome → State → Prop := fun a st o t =>
  (Qc a st o t ∧ ∃ L, FrameEnd st o t L mc ms ∧ ∀ q ∈ L, free q.base) ∨ ∃ q, o = .threw q ∧ vx_T XC st q t mc ms free
/-- a callee that returns or throws -/
def vx_Met (l : Launch) (y : MethodName) (ws : List Cond) (rm : Room) (Pc : Array Value → State → Prop) (Qc : Array Value → State → Outcome → State → Prop) (XC : String → State → State → Prop) (mc ms : Nat) (free : Addr → Prop) : Prop :=
  MetFree l y (headSpec ws rm) Pc (fun _ _ _ _ _ => True) (vx_Q Qc XC mc ms free)
def vx_Post (XC : String → State → State → Prop) (mc ms : Nat) (free : Addr → Prop) : Pt → Array Value → Addr → Pt → Prop := fun A a q B =>
  ∃ (g : JFrame) (mk : MethodId) (t : State) (L : List Loc) (E : String) (ce : Cell), B.U.heap = t.heap ∧ B.U.vm = t.vm ∧ XC E (A.U.calling g mk a) t ∧ t.heap[q]? = some ce ∧ ce.vm = .none ∧ A.U.vm.findClass E = some ce.cls ∧ B.locs = A.locs ++ L ∧ (∀ z ∈ L, free z.base) ∧ B.cells = A.cells + mc ∧ B.slots = A.slots + ms
def vx_Back (l : Launch) (R : Room) (p : Program) (e : Env) (below : List Frame) (s : State) (sargs : Array Value) (y : MethodName) (len W9 : Nat)
    (Pre : Pt → Array Value → Prop) (Post : Pt → Array Value → Option Value → Pt → Prop) (PostX : Pt → Array Value → Addr → Pt → Prop) : Prop :=
  ∀ (m : MethodId) (meth : Method) (c : Code) (A : Pt) (g : JFrame) (ig : Instr) (mk : MethodId) (a : Array Value),
    Stand p l e R s m sargs below meth c A.U A.locs A.cells A.slots → g.method = m → g.locals.size = c.maxLocals → decode c.code g.pc = .ok (ig, len) →
    2 * g.monitorRoom + (g.stack.map fun v => v.category).sum ≤ W9 → A.U.methodNamed? y = some mk → Pre A a →
    (∃ (v : Option Value) (B : Pt), Stand p l e R s m sargs below meth c B.U B.locs B.cells B.slots ∧ Post A a v B ∧
      Steps p.tables e below (doInvoke e (A.U.setTop g) [] mk a).1 (B.U.setTop { g with pc := g.pc + len, stack := v.toList ++ g.stack })) ∨
    (∃ (q : Addr) (B : Pt), Stand p l e R s m sargs below meth c B.U B.locs B.cells B.slots ∧ PostX A a q B ∧
      Steps p.tables e below (doInvoke e (A.U.setTop g) [] mk a).1 ((B.U.setTop g).pushFrame (.throwing q)))
section Payer
variable {l : Launch} {R : Room} {p : Program} {e : Env} {below : List Frame} {s : State} {sargs : Array Value} {y : MethodName} {len W9 : Nat}
theorem vx_back {ws : List Cond} {rm : Room} {Pc : Array Value → State → Prop} {Qc : Array Value → State → Outcome → State → Prop} {XC : String → State → State → Prop} {mc ms : Nat} {free : Addr → Prop} {bytes : ByteArray} {maxL : Nat} {ret : Option FieldType}
    (hM : vx_Met l y ws rm Pc Qc XC mc ms free) (hblind : FrameBlind Pc) (hrc : rm.cells = mc) (hrs : rm.slots = ms)
    (hframes : rm.frames + 1 ≤ R.frames) (hlocals : W9 + (maxL + 11) + rm.locals ≤ R.locals)
    (hws : ∀ w ∈ ws, ∀ a' U, s.WarmedH U.vm → w.before a' U = true) (hcode : Cond.code y bytes maxL ret ∈ ws) (hinit : ∀ a' U, s.WarmedH U.vm → (Cond.initialized y.cls).before a' U = true) :
    vx_Back l R p e below s sargs y len W9 (PreOf R mc ms Pc) (PostOf Qc mc ms free) (vx_Post XC mc ms free) := by
  intro m meth c A g ig mk a X hg hsize hdg hW hn hp
  have h1 : (headSpec ws rm).pre.before a A.U = true := atoms_intro fun w hw => hws w hw _ _ X.warmed
  have h2 : (Cond.code y bytes maxL ret).before a A.U = true := hws _ hcode _ _ X.warmed
  have h3 : (Cond.initialized y.cls).before a A.U = true := hinit _ _ X.warmed
  have h4 : A.cells + (headSpec ws rm).room.cells ≤ R.cells := by rw [show (headSpec ws rm).room.cells = mc from hrc]; exact hp.1
  have h5 : A.slots + (headSpec ws rm).room.slots ≤ R.slots := by rw [show (headSpec ws rm).room.slots = ms from hrs]; exact hp.2.1
  have hPc : Pc a (A.U.calling g mk a) := hblind _ _ _ _ hp.2.2
  obtain ⟨U, Ls, c0, s0⟩ := A
  dsimp only [Pt.U, Pt.locs, Pt.cells, Pt.slots] at h1 h2 h3 h4 h5 X hn hPc ⊢
  obtain ⟨methY, cY, hmY, hcY, -, hlY, -, -, -, -⟩ := Cond.code_spec hn h2
  obtain ⟨kY, hkY, -⟩ := className_of_methodNamed hn
  have hinitY : kY.init = .initialized := Cond.initialized_spec (findClass_of_methodNamed hn) hkY h3
  have h : At U g.method c below := by rw [hg]; exact X.here
  have hlocals9 : W9 + (maxL + 11) + (headSpec ws rm).room.locals ≤ R.locals := hlocals
  have happ : (headSpec ws rm).appliesLoose y e.platform (U.calling g mk a) = true :=
    Spec.appliesLoose_calling (g := g) h hdg hn hkY hinitY
      (X.room_calling (g := g) (R' := (headSpec ws rm).room) hsize hmY hcY hframes (by rw [hlY]; omega) h4 h5) h1
  obtain ⟨mid, hmid⟩ := h.above
  have hfr : (U.setTop g).frames = (.java g :: mid) ++ below := by rw [State.frames_setTop' g h.top, hmid]; rfl
  obtain ⟨o, s₂, hsteps, -, hend, hq⟩ := Steps.callFree hM p X.admits X.cas X.clock (acts := []) hfr happ hPc trivial
  have hq' : vx_Q Qc XC mc ms free a (U.calling g mk a) o s₂ := hq
  rw [State.frames_setTop' g h.top] at hend
  obtain ⟨g₀, hg0⟩ := Option.isSome_iff_exists.mp h.top
  obtain ⟨r, hr⟩ := State.topJava?_eq_some.mp hg0
  have hr' : (({ U with heap := s₂.heap, slotsUsed := s₂.slotsUsed } : State).setVm s₂.vm).frames = .java g₀ :: r := hr
  rcases hq' with ⟨hqc, L, hfe, hL⟩ | ⟨q, rfl, E, ce, L, hx, hce, hcv, hcl, hW₂, hsm, hL⟩
  · obtain ⟨⟨v, rfl⟩, hW₂, e2, q2, q3, q4, q5, q6⟩ := id hfe
    have e3 : s₂ = ({ (U.calling g mk a).setFrames s₂.frames with heap := s₂.heap, slotsUsed := s₂.slotsUsed } : State).setVm s₂.vm := by
      have : s₂ = ({ s₂ with vm := (U.calling g mk a).vm } : State).setVm s₂.vm := rfl
      rw [e2] at this
      exact this
    obtain ⟨c₂, i₂, len₂, hc₂, hd₂, hf₂⟩ := hend
    have hW' : U.WarmedH s₂.vm := hW₂
    have hcc : c₂ = c := by
      have h1 : s₂.code? g.method = U.code? g.method := by
        rw [State.code?_eq, State.code?_eq, hW'.alike.method?]
      exact Option.some.inj (hc₂.symm.trans (h1.trans h.code))
    subst hcc
    have hlen : len₂ = len := by rw [hdg] at hd₂; cases hd₂; rfl
    subst hlen
    have hs₂ : s₂ = (({ U with heap := s₂.heap, slotsUsed := s₂.slotsUsed } : State).setVm s₂.vm).setTop { g with pc := g.pc + len₂, stack := v.toList ++ g.stack } := by
      refine e3.trans ?_
      rw [hf₂, State.calling_eq h.top, State.setFrames_setFrames, State.setTop_of_frames _ hr', hr]
      rfl
    have hsame : U.sameButNew ({ U with heap := s₂.heap, slotsUsed := s₂.slotsUsed } : State) L mc ms := by
      refine ⟨?_, q2, q3, q4, q5, q6⟩
      obtain ⟨t, ht, -⟩ := State.frames_cons hr
      show ({ U with heap := s₂.heap, slotsUsed := s₂.slotsUsed } : State) = { U.setFrames U.frames with heap := s₂.heap, slotsUsed := s₂.slotsUsed }
      rw [State.setFrames_self ht]
    subst hg
    refine Or.inl ⟨v, ⟨(({ U with heap := s₂.heap, slotsUsed := s₂.slotsUsed } : State).setVm s₂.vm), Ls ++ L, c0 + mc, s0 + ms⟩,
      ⟨X.admits, X.cas, X.clock, X.frames, X.room, X.hears, X.method, X.code, (X.here.setHeapUsed s₂.heap s₂.slotsUsed).setVm hW'.alike, X.tail, State.WarmedH.trans X.warmed hW', X.limits, X.bytes, X.same.trans (hsame.setVm s.vm)⟩,
      ⟨g, mk, s₂, L, rfl, rfl, hqc, rfl, hL, rfl, rfl⟩, ?_⟩
    show Steps p.tables e below _ ((({ U with heap := s₂.heap, slotsUsed := s₂.slotsUsed } : State).setVm s₂.vm).setTop { g with pc := g.pc + len₂, stack := v.toList ++ g.stack })
    rw [← hs₂]
    exact hsteps
  · obtain ⟨e2, q2, q3, q4, q5, q6⟩ := id hsm
    have e3 : s₂ = ({ (U.calling g mk a).setFrames s₂.frames with heap := s₂.heap, slotsUsed := s₂.slotsUsed } : State).setVm s₂.vm := by
      have : s₂ = ({ s₂ with vm := (U.calling g mk a).vm } : State).setVm s₂.vm := rfl
      rw [e2] at this
      exact this
    have hf₂ : s₂.frames = .throwing q :: .java g :: U.frames.tail := hend
    have hW' : U.WarmedH s₂.vm := hW₂
    have hs₂ : s₂ = ((({ U with heap := s₂.heap, slotsUsed := s₂.slotsUsed } : State).setVm s₂.vm).setTop g).pushFrame (.throwing q) := by
      refine e3.trans ?_
      rw [hf₂, State.calling_eq h.top, State.setFrames_setFrames, State.pushFrame, State.frames_setTop _ hr', State.setTop_of_frames _ hr', State.setFrames_setFrames, hr]
      rfl
    have hsame : U.sameButNew ({ U with heap := s₂.heap, slotsUsed := s₂.slotsUsed } : State) L mc ms := by
      refine ⟨?_, q2, q3, q4, q5, q6⟩
      obtain ⟨t, ht, -⟩ := State.frames_cons hr
      show ({ U with heap := s₂.heap, slotsUsed := s₂.slotsUsed } : State) = { U.setFrames U.frames with heap := s₂.heap, slotsUsed := s₂.slotsUsed }
      rw [State.setFrames_self ht]
    subst hg
    refine Or.inr ⟨q, ⟨(({ U with heap := s₂.heap, slotsUsed := s₂.slotsUsed } : State).setVm s₂.vm), Ls ++ L, c0 + mc, s0 + ms⟩,
      ⟨X.admits, X.cas, X.clock, X.frames, X.room, X.hears, X.method, X.code, (X.here.setHeapUsed s₂.heap s₂.slotsUsed).setVm hW'.alike, X.tail, State.WarmedH.trans X.warmed hW', X.limits, X.bytes, X.same.trans (hsame.setVm s.vm)⟩,
      ⟨g, mk, s₂, L, E, ce, rfl, rfl, hx, hce, hcv, hcl, rfl, hL, rfl, rfl⟩, ?_⟩
    show Steps p.tables e below _ (((({ U with heap := s₂.heap, slotsUsed := s₂.slotsUsed } : State).setVm s₂.vm).setTop g).pushFrame (.throwing q))
    rw [← hs₂]
    exact hsteps
end Payer
section Calls
variable {p : Program} {l : Launch} {e : Env} {R : Room} {s : State} {m : MethodId} {args : Array Value} {below : List Frame} {meth : Method} {c : Code} {T : State} {locs : List Loc} {cells slots : Nat}
theorem vx_callV (X : Stand p l e R s m args below meth c T locs cells slots) (hexec : p.tables.exec = Jvm.exec) {own C : String} {index : Nat} {y : MethodName} {bytes : ByteArray} {maxL : Nat} {ret : Option FieldType}
    (hown : s.vm.findClass own = some m.cls) (hlink : (Cond.methodLink own index y).before args s = true) (hinst : (Cond.instanceMethod y).before args s = true) (hsel : (Cond.selects C y y).before args s = true)
    (hcode : (Cond.code y bytes maxL ret).before args s = true) (hy : y.cls ≠ "java/lang/invoke/MethodHandle" ∧ y.cls ≠ "java/lang/invoke/VarHandle")
    {W9 : Nat} {Pre : Pt → Array Value → Prop} {Post : Pt → Array Value → Option Value → Pt → Prop} {PostX : Pt → Array Value → Addr → Pt → Prop} (hK : vx_Back l R p e below s args y 3 W9 Pre Post PostX)
    {b : Addr} {cellB : Cell} (hcell : T.heap[b]? = some cellB) (hobj : cellB.vm.isStatics = false) (hcls : s.vm.findClass C = some cellB.cls)
    {g : JFrame} (hg : g.method = m) (hsize : g.locals.size = c.maxLocals) {argsL rest : List Value} (hlen : ∀ sig, parseMethodDescriptor y.desc = some sig → argsL.length = sig.parameters.length)
    (hstack : g.stack = argsL.reverse ++ .ref b :: rest) (hW : 2 * g.monitorRoom + (rest.map fun v => v.category).sum ≤ W9) (hdg : decode c.code g.pc = .ok (.invokevirtual index, 3))
    (hpre : ∀ vm₁, s.WarmedH vm₁ → Pre ⟨T.setVm vm₁, locs, cells, slots⟩ (Value.ref b :: argsL).toArray) :
    (∃ (v : Option Value) (vm₁ : Vm) (B : Pt), s.WarmedH vm₁ ∧ Stand p l e R s m args below meth c B.U B.locs B.cells B.slots ∧ Post ⟨T.setVm vm₁, locs, cells, slots⟩ (Value.ref b :: argsL).toArray v B ∧
      ∀ target, Steps p.tables e below (B.U.setTop { g with pc := g.pc + 3, stack := v.toList ++ rest }) target → Steps p.tables e below (T.setTop g) target) ∨
    (∃ (q : Addr) (vm₁ : Vm) (B : Pt), s.WarmedH vm₁ ∧ Stand p l e R s m args below meth c B.U B.locs B.cells B.slots ∧ PostX ⟨T.setVm vm₁, locs, cells, slots⟩ (Value.ref b :: argsL).toArray q B ∧
      Steps p.tables e below (T.setTop g) ((B.U.setTop { g with stack := rest }).pushFrame (.throwing q))) := by
  obtain ⟨mk, methM, hnamed, hmethM, hstM, habM⟩ := Cond.instanceMethod_spec hinst
  obtain ⟨methM', cM, hmethM', -, -, -, -, -, -, hsigM⟩ := Cond.code_spec hnamed hcode
  cases hmethM.symm.trans hmethM'
  obtain ⟨c2, r2, m2, q1, q2, q3, q4, kP, hkP, hkPi⟩ := Cond.selects_spec hsel
  cases hcls.symm.trans q1
  cases (State.methodFound?_of_named hnamed hy).symm.trans q2
  cases hnamed.symm.trans q3
  have hselP : selectMethod e.platform s.vm cellB.cls mk = .method mk := by rw [Launch.admits_selectMethod X.admits]; exact q4
  obtain ⟨vm₁, X₁, hstep₁⟩ := X.invokevirtual hexec hown hlink hnamed hmethM hstM hkP hkPi hy (a := b) (cell := cellB) hcell
    (fun z h => by rw [h] at hobj; cases hobj) hselP hmethM habM hkP hkPi (g := g) hg (argsL := argsL) (rest := rest) (hlen _ hsigM) hstack hdg
  rcases hK m meth c ⟨T.setVm vm₁, locs, cells, slots⟩ { g with stack := rest } (.invokevirtual index) mk (Value.ref b :: argsL).toArray X₁ hg hsize hdg hW (X₁.named hnamed) (hpre vm₁ X₁.warmed) with ⟨v, B, X', hpost, hsteps⟩ | ⟨q, B, X', hpost, hsteps⟩
  · exact Or.inl ⟨v, vm₁, B, X₁.warmed, X', hpost, fun target h => hstep₁ _ fun acts => by rw [doInvoke_state]; exact hsteps.trans h⟩
  · exact Or.inr ⟨q, vm₁, B, X₁.warmed, X', hpost, hstep₁ _ fun acts => by rw [doInvoke_state]; exact hsteps⟩
theorem vx_callS (X : Stand p l e R s m args below meth c T locs cells slots) (hexec : p.tables.exec = Jvm.exec) {own : String} {index : Nat} {y : MethodName} {bytes : ByteArray} {maxL : Nat} {ret : Option FieldType}
    (hown : s.vm.findClass own = some m.cls) (hlink : (Cond.methodLink own index y).before args s = true) (hstat : (Cond.static y).before args s = true) (hinit : (Cond.initialized y.cls).before args s = true)
    (hcode : (Cond.code y bytes maxL ret).before args s = true) (hy : y.cls ≠ "java/lang/invoke/MethodHandle" ∧ y.cls ≠ "java/lang/invoke/VarHandle")
    {W9 : Nat} {Pre : Pt → Array Value → Prop} {Post : Pt → Array Value → Option Value → Pt → Prop} {PostX : Pt → Array Value → Addr → Pt → Prop} (hK : vx_Back l R p e below s args y 3 W9 Pre Post PostX)
    {g : JFrame} (hg : g.method = m) (hsize : g.locals.size = c.maxLocals) {argsL rest : List Value} (hlen : ∀ sig, parseMethodDescriptor y.desc = some sig → argsL.length = sig.parameters.length)
    (hstack : g.stack = argsL.reverse ++ rest) (hW : 2 * g.monitorRoom + (rest.map fun v => v.category).sum ≤ W9) (hdg : decode c.code g.pc = .ok (.invokestatic index, 3))
    (hpre : ∀ vm₁, s.WarmedH vm₁ → Pre ⟨T.setVm vm₁, locs, cells, slots⟩ argsL.toArray) :
    (∃ (v : Option Value) (vm₁ : Vm) (B : Pt), s.WarmedH vm₁ ∧ Stand p l e R s m args below meth c B.U B.locs B.cells B.slots ∧ Post ⟨T.setVm vm₁, locs, cells, slots⟩ argsL.toArray v B ∧
      ∀ target, Steps p.tables e below (B.U.setTop { g with pc := g.pc + 3, stack := v.toList ++ rest }) target → Steps p.tables e below (T.setTop g) target) ∨
    (∃ (q : Addr) (vm₁ : Vm) (B : Pt), s.WarmedH vm₁ ∧ Stand p l e R s m args below meth c B.U B.locs B.cells B.slots ∧ PostX ⟨T.setVm vm₁, locs, cells, slots⟩ argsL.toArray q B ∧
      Steps p.tables e below (T.setTop g) ((B.U.setTop { g with stack := rest }).pushFrame (.throwing q))) := by
  obtain ⟨mk, hnamed⟩ := Cond.code_named hcode
  obtain ⟨methM, cM, hmethM, -, -, -, -, -, -, hsigM⟩ := Cond.code_spec hnamed hcode
  have hstatic : methM.isStatic = true := Cond.static_spec hnamed hmethM hstat
  obtain ⟨kP, hkP, -⟩ := className_of_methodNamed hnamed
  have hinitP : kP.init = .initialized := Cond.initialized_spec (findClass_of_methodNamed hnamed) hkP hinit
  obtain ⟨vm₁, X₁, hstep₁⟩ := X.invokestatic hexec hown hlink hnamed hmethM hstatic hkP hinitP hy (g := g) hg (argsL := argsL) (rest := rest) (hlen _ hsigM) hstack hdg
  rcases hK m meth c ⟨T.setVm vm₁, locs, cells, slots⟩ { g with stack := rest } (.invokestatic index) mk argsL.toArray X₁ hg hsize hdg hW (X₁.named hnamed) (hpre vm₁ X₁.warmed) with ⟨v, B, X', hpost, hsteps⟩ | ⟨q, B, X', hpost, hsteps⟩
  · exact Or.inl ⟨v, vm₁, B, X₁.warmed, X', hpost, fun target h => hstep₁ _ fun acts => by rw [doInvoke_state]; exact hsteps.trans h⟩
  · exact Or.inr ⟨q, vm₁, B, X₁.warmed, X', hpost, hstep₁ _ fun acts => by rw [doInvoke_state]; exact hsteps⟩
end Calls
theorem vx_cls {s : State} {T : State} {vm₁ : Vm} {E : String} {k : ClassId} (hW : s.WarmedH vm₁) (h : (T.setVm vm₁).vm.findClass E = some k) : s.vm.findClass E = some k := by
  have h1 : vm₁.findClass E = some k := h
  rw [hW.alike.findClass] at h1
  exact h1
/-- the method's frame g, with q thrown over it -/
def vx_W (p : Program) (l : Launch) (e : Env) (R : Room) (s : State) (m : MethodId) (args : Array Value) (below : List Frame) (meth : Method) (c : Code) (H : Heap) (locs : List Loc) (cells slots : Nat) (Q : State → Prop) (g : JFrame) (q : Addr) : Prop :=
  ∀ T : State, T.heap = H → Stand p l e R s m args below meth c T locs cells slots → ∃ t, Steps p.tables e below ((T.setTop g).pushFrame (.throwing q)) t ∧ Q t
def vx_Run (p : Program) (l : Launch) (e : Env) (R : Room) (s : State) (m : MethodId) (args : Array Value) (below : List Frame) (meth : Method) (c : Code) (H : Heap) (locs : List Loc) (cells slots mc ms : Nat) (g : JFrame) (rest : List Value) (Qa : State → Outcome → State → Prop) (XC : String → State → State → Prop) (free : Addr → Prop) : Prop :=
  ∀ T : State, T.heap = H → Stand p l e R s m args below meth c T locs cells slots →
    (∃ (v : Option Value) (st₀ t T' : State) (L : List Loc), st₀.heap = H ∧ Stand p l e R s m args below meth c T' (locs ++ L) (cells + mc) (slots + ms) ∧ (∀ q ∈ L, free q.base) ∧ T'.heap = t.heap ∧ T'.vm = t.vm ∧ Qa st₀ (.returned v) t ∧
      Goes p e below T g T' { g with pc := g.pc + 3, stack := v.toList ++ rest }) ∨
    (∃ (q : Addr) (st₀ t T' : State) (L : List Loc) (E : String) (ce : Cell), st₀.heap = H ∧ Stand p l e R s m args below meth c T' (locs ++ L) (cells + mc) (slots + ms) ∧ (∀ z ∈ L, free z.base) ∧ T'.heap = t.heap ∧ T'.vm = t.vm ∧ XC E st₀ t ∧ t.heap[q]? = some ce ∧ ce.vm = .none ∧ s.vm.findClass E = some ce.cls ∧
      Steps p.tables e below (T.setTop g) ((T'.setTop { g with stack := rest }).pushFrame (.throwing q)))
def vx_X {S : Type} (px : S → Prop) (B : String → S → State → Prop) (A : Nat → Prop) : String → State → State → Prop := fun E st t => ∃ u : S, px u ∧ B E u t ∧ va_F A st t
section Runs
variable {p : Program} {l : Launch} {e : Env} {R : Room} {s : State} {m : MethodId} {args : Array Value} {below : List Frame} {meth : Method} {c : Code} {H : Heap} {locs : List Loc} {cells slots : Nat}
variable {y : MethodName} {bytes cc : ByteArray} {maxL nL mc ms n index : Nat} {ret : Option FieldType} {ws : List Cond} {rm : Room} {Pc : Array Value → State → Prop} {Qc : Array Value → State → Outcome → State → Prop} {XC : String → State → State → Prop} {free : Addr → Prop} {Ts : List Cond} {own C : String} {b : Addr} {As rest : List Value} {g : JFrame}
theorem vx_callBack (cb : CallB R s args own index y bytes maxL ret ws rm mc ms n) (hM : vx_Met l y ws rm Pc Qc XC mc ms free) (hbl : FrameBlind Pc) : vx_Back l R p e below s args y 3 8 (PreOf R mc ms Pc) (PostOf Qc mc ms free) (vx_Post XC mc ms free) := by
  obtain ⟨hrc, hrs, hfr, hlo, hws, hcw, -, hini, -⟩ := cb
  exact vx_back (bytes := bytes) (maxL := maxL) (ret := ret) hM hbl hrc hrs hfr hlo hws hcw (fun a' U hW => word_at hW (Or.inl (by first | rfl | simp [Cond.onTables, Cond.keeps, Cond.steady])) hini)
theorem vx_runV (S : CallFix p m c cc nL s args Ts own) (hM : vx_Met l y ws rm Pc Qc XC mc ms free) (cw : CallW R s args own C index y bytes maxL ret ws rm mc ms n) (hp : PreV s H C b Pc As)
    (hg : g.method = m) (hn : As.length = n) (hsize : g.locals.size = nL) (hstack : g.stack = As.reverse ++ .ref b :: rest) (hW : 2 * g.monitorRoom + (rest.map fun v => v.category).sum ≤ 8) (hdg : decode cc g.pc = .ok (.invokevirtual index, 3)) (hf : cells + mc ≤ R.cells ∧ slots + ms ≤ R.slots) :
    vx_Run p l e R s m args below meth c H locs cells slots mc ms g rest (Qc (Value.ref b :: As).toArray) XC free := by
  have hK : vx_Back l R p e below s args y 3 8 (PreOf R mc ms Pc) (PostOf Qc mc ms free) (vx_Post XC mc ms free) := vx_callBack cw.1 hM hp.1
  obtain ⟨⟨-, -, -, -, -, -, hcode, -, hy, hlen, hl⟩, hin, hse⟩ := cw
  obtain ⟨hx, hb, hml, ho, -⟩ := S
  obtain ⟨-, ⟨cellB, hcB, hoB, hclB⟩, hPc⟩ := hp
  intro T hT X
  rcases vx_callV X hx (C := C) (bytes := bytes) (maxL := maxL) (ret := ret) ho hl hin hse hcode hy hK (by rw [hT]; exact hcB) hoB hclB hg (hsize.trans hml.symm) (argsL := As) (rest := rest) (fun sig h => hn.trans (hlen sig h)) hstack hW (by rw [hb]; exact hdg)
    (fun vm₁ hW₁ => ⟨hf.1, hf.2, hPc (T.setVm vm₁) hT hW₁⟩) with ⟨v, vm₁, ⟨U', l2, c2, s2⟩, hW₁, X', ⟨g', mk, t, L, e1, e2, hq, h1, hL, h2, h3⟩, st⟩ | ⟨q, vm₁, ⟨U', l2, c2, s2⟩, hW₁, X', ⟨g', mk, t, L, E, ce, e1, e2, hq, hce, hcv, hcl, h1, hL, h2, h3⟩, st⟩
  · dsimp only [Pt.U, Pt.locs, Pt.cells, Pt.slots] at X' e1 e2 h1 h2 h3 st
    subst h1; subst h2; subst h3
    exact Or.inl ⟨v, (T.setVm vm₁).calling g' mk (Value.ref b :: As).toArray, t, U', L, hT, X', hL, e1, e2, hq, st⟩
  · dsimp only [Pt.U, Pt.locs, Pt.cells, Pt.slots] at X' e1 e2 h1 h2 h3 st hcl
    subst h1; subst h2; subst h3
    exact Or.inr ⟨q, (T.setVm vm₁).calling g' mk (Value.ref b :: As).toArray, t, U', L, E, ce, hT, X', hL, e1, e2, hq, hce, hcv, vx_cls hW₁ hcl, st⟩
theorem vx_runS (S : CallFix p m c cc nL s args Ts own) (hM : vx_Met l y ws rm Pc Qc XC mc ms free) (cw : CallB R s args own index y bytes maxL ret ws rm mc ms n ∧ (Cond.static y).before args s = true) (hp : PreS s H Pc As)
    (hg : g.method = m) (hn : As.length = n) (hsize : g.locals.size = nL) (hstack : g.stack = As.reverse ++ rest) (hW : 2 * g.monitorRoom + (rest.map fun v => v.category).sum ≤ 8) (hdg : decode cc g.pc = .ok (.invokestatic index, 3)) (hf : cells + mc ≤ R.cells ∧ slots + ms ≤ R.slots) :
    vx_Run p l e R s m args below meth c H locs cells slots mc ms g rest (Qc As.toArray) XC free := by
  have hK : vx_Back l R p e below s args y 3 8 (PreOf R mc ms Pc) (PostOf Qc mc ms free) (vx_Post XC mc ms free) := vx_callBack cw.1 hM hp.1
  obtain ⟨⟨-, -, -, -, -, -, hcode, hini, hy, hlen, hl⟩, hstt⟩ := cw
  obtain ⟨hx, hb, hml, ho, -⟩ := S
  intro T hT X
  rcases vx_callS X hx (bytes := bytes) (maxL := maxL) (ret := ret) ho hl hstt hini hcode hy hK hg (hsize.trans hml.symm) (argsL := As) (rest := rest) (fun sig h => hn.trans (hlen sig h)) hstack hW (by rw [hb]; exact hdg)
    (fun vm₁ hW₁ => ⟨hf.1, hf.2, hp.2 (T.setVm vm₁) hT hW₁⟩) with ⟨v, vm₁, ⟨U', l2, c2, s2⟩, hW₁, X', ⟨g', mk, t, L, e1, e2, hq, h1, hL, h2, h3⟩, st⟩ | ⟨q, vm₁, ⟨U', l2, c2, s2⟩, hW₁, X', ⟨g', mk, t, L, E, ce, e1, e2, hq, hce, hcv, hcl, h1, hL, h2, h3⟩, st⟩
  · dsimp only [Pt.U, Pt.locs, Pt.cells, Pt.slots] at X' e1 e2 h1 h2 h3 st
    subst h1; subst h2; subst h3
    exact Or.inl ⟨v, (T.setVm vm₁).calling g' mk As.toArray, t, U', L, hT, X', hL, e1, e2, hq, st⟩
  · dsimp only [Pt.U, Pt.locs, Pt.cells, Pt.slots] at X' e1 e2 h1 h2 h3 st hcl
    subst h1; subst h2; subst h3
    exact Or.inr ⟨q, (T.setVm vm₁).calling g' mk As.toArray, t, U', L, E, ce, hT, X', hL, e1, e2, hq, hce, hcv, vx_cls hW₁ hcl, st⟩
end Runs
section Rows
variable {p : Program} {l : Launch} {e : Env} {R : Room} {s : State} {m : MethodId} {args : Array Value} {below : List Frame} {meth : Method} {c : Code} {H : Heap} {locs : List Loc} {cells slots : Nat} {Q : State → Prop}
variable {mc ms : Nat} {free : Addr → Prop} {A0 A1 : Nat → Prop} {H0 : Heap} {a : Array Value} {pc : Nat} {ls : Array Slot} {st0 rest : List Value}
theorem vx_keep {st₀ t T' : State} {L : List Loc} (h0 : st₀.heap = H) (e1 : T'.heap = t.heap) (hS : va_S A0 H0 H locs) (hA : ∀ q, q < H.size → A1 q → A0 q) (hf : ∀ q, free q → A0 q) (hL : ∀ q ∈ L, free q.base) (hF : va_F A1 st₀ t) :
    H.size ≤ T'.heap.size ∧ (∀ q : Nat, q < H.size → ¬ A1 q → T'.heap[q]? = H[q]?) ∧ va_S A0 H0 T'.heap (locs ++ L) := by
  obtain ⟨hz, hk⟩ := hF
  rw [h0] at hz hk
  exact ⟨by rw [e1]; exact hz, fun q h1 h2 => by rw [e1]; exact hk q h1 h2,
    ⟨Nat.le_trans hS.1 (by rw [e1]; exact hz), fun q h1 h2 => by rw [e1, hk q (Nat.lt_of_lt_of_le h1 hS.1) (fun z => h2 (hA q (Nat.lt_of_lt_of_le h1 hS.1) z))]; exact hS.2.1 q h1 h2, fun q hq => by
      rcases List.mem_append.mp hq with h | h
      · exact hS.2.2 q h
      · exact hf _ (hL q h)⟩⟩
theorem vx_calli {S SX : Type} {post : Int32 → S → Prop} {px : SX → Prop} {B : S → State → Prop} {BX : String → SX → State → Prop} {AX : Nat → Prop} (hr : vx_Run p l e R s m args below meth c H locs cells slots mc ms (F0 m pc ls st0) rest (va_Qi post B A1 a) (vx_X px BX AX) free) (hS : va_S A0 H0 H locs) (hA : ∀ q, q < H.size → A1 q → A0 q) (hf : ∀ q, free q → A0 q) (hAX : ∀ q, q < H.size → AX q → A0 q)
    (kx : ∀ (E : String) (ce : Cell) (q9 : Addr) (u : SX) (t : State) (H1 : Heap) (locs1 : List Loc), t.heap = H1 → s.vm.Alike t.vm → px u → BX E u t → H.size ≤ H1.size → (∀ q : Nat, q < H.size → ¬ AX q → H1[q]? = H[q]?) → va_S A0 H0 H1 locs1 → H1[q9]? = some ce → ce.vm = .none → s.vm.findClass E = some ce.cls → vx_W p l e R s m args below meth c H1 locs1 (cells + mc) (slots + ms) Q (F0 m pc ls rest) q9)
    (kk : ∀ (r : Int32) (u : S) (t : State) (H1 : Heap) (locs1 : List Loc), t.heap = H1 → s.vm.Alike t.vm → post r u → B u t → H.size ≤ H1.size → (∀ q : Nat, q < H.size → ¬ A1 q → H1[q]? = H[q]?) → va_S A0 H0 H1 locs1 → W p l e R s m args below meth c H1 locs1 (cells + mc) (slots + ms) Q (F0 m (pc + 3) ls (.int r :: rest))) : W p l e R s m args below meth c H locs cells slots Q (F0 m pc ls st0) := by
  intro T hT X
  rcases hr T hT X with ⟨v, st₀, t, T', L, h0, X', hL, e1, e2, ⟨⟨r, u, hv, hp, hb⟩, hF⟩, st⟩ | ⟨q, st₀, t, T', L, E, ce, h0, X', hL, e1, e2, ⟨u, hp, hb, hF⟩, hce, hcv, hcl, st⟩
  · cases hv
    obtain ⟨k1, k2, k3⟩ := vx_keep h0 e1 hS hA hf hL hF
    obtain ⟨t2, a1, b1⟩ := kk r u t T'.heap (locs ++ L) e1.symm (by rw [← e2]; exact X'.warmed.alike) hp hb k1 k2 k3 T' rfl X'
    exact ⟨t2, st t2 a1, b1⟩
  · obtain ⟨k1, k2, k3⟩ := vx_keep h0 e1 hS hAX hf hL hF
    obtain ⟨t2, a1, b1⟩ := kx E ce q u t T'.heap (locs ++ L) e1.symm (by rw [← e2]; exact X'.warmed.alike) hp hb k1 k2 k3 (by rw [e1]; exact hce) hcv hcl T' rfl X'
    exact ⟨t2, st.trans a1, b1⟩
theorem vx_calll {S SX : Type} {post : Int64 → S → Prop} {px : SX → Prop} {B : S → State → Prop} {BX : String → SX → State → Prop} {AX : Nat → Prop} (hr : vx_Run p l e R s m args below meth c H locs cells slots mc ms (F0 m pc ls st0) rest (va_Ql post B A1 a) (vx_X px BX AX) free) (hS : va_S A0 H0 H locs) (hA : ∀ q, q < H.size → A1 q → A0 q) (hf : ∀ q, free q → A0 q) (hAX : ∀ q, q < H.size → AX q → A0 q)
    (kx : ∀ (E : String) (ce : Cell) (q9 : Addr) (u : SX) (t : State) (H1 : Heap) (locs1 : List Loc), t.heap = H1 → s.vm.Alike t.vm → px u → BX E u t → H.size ≤ H1.size → (∀ q : Nat, q < H.size → ¬ AX q → H1[q]? = H[q]?) → va_S A0 H0 H1 locs1 → H1[q9]? = some ce → ce.vm = .none → s.vm.findClass E = some ce.cls → vx_W p l e R s m args below meth c H1 locs1 (cells + mc) (slots + ms) Q (F0 m pc ls rest) q9)
    (kk : ∀ (r : Int64) (u : S) (t : State) (H1 : Heap) (locs1 : List Loc), t.heap = H1 → s.vm.Alike t.vm → post r u → B u t → H.size ≤ H1.size → (∀ q : Nat, q < H.size → ¬ A1 q → H1[q]? = H[q]?) → va_S A0 H0 H1 locs1 → W p l e R s m args below meth c H1 locs1 (cells + mc) (slots + ms) Q (F0 m (pc + 3) ls (.long r :: rest))) : W p l e R s m args below meth c H locs cells slots Q (F0 m pc ls st0) := by
  intro T hT X
  rcases hr T hT X with ⟨v, st₀, t, T', L, h0, X', hL, e1, e2, ⟨⟨r, u, hv, hp, hb⟩, hF⟩, st⟩ | ⟨q, st₀, t, T', L, E, ce, h0, X', hL, e1, e2, ⟨u, hp, hb, hF⟩, hce, hcv, hcl, st⟩
  · cases hv
    obtain ⟨k1, k2, k3⟩ := vx_keep h0 e1 hS hA hf hL hF
    obtain ⟨t2, a1, b1⟩ := kk r u t T'.heap (locs ++ L) e1.symm (by rw [← e2]; exact X'.warmed.alike) hp hb k1 k2 k3 T' rfl X'
    exact ⟨t2, st t2 a1, b1⟩
  · obtain ⟨k1, k2, k3⟩ := vx_keep h0 e1 hS hAX hf hL hF
    obtain ⟨t2, a1, b1⟩ := kx E ce q u t T'.heap (locs ++ L) e1.symm (by rw [← e2]; exact X'.warmed.alike) hp hb k1 k2 k3 (by rw [e1]; exact hce) hcv hcl T' rfl X'
    exact ⟨t2, st.trans a1, b1⟩
theorem vx_callf {S SX : Type} {post : UInt32 → S → Prop} {px : SX → Prop} {B : S → State → Prop} {BX : String → SX → State → Prop} {AX : Nat → Prop} (hr : vx_Run p l e R s m args below meth c H locs cells slots mc ms (F0 m pc ls st0) rest (va_Qf post B A1 a) (vx_X px BX AX) free) (hS : va_S A0 H0 H locs) (hA : ∀ q, q < H.size → A1 q → A0 q) (hf : ∀ q, free q → A0 q) (hAX : ∀ q, q < H.size → AX q → A0 q)
    (kx : ∀ (E : String) (ce : Cell) (q9 : Addr) (u : SX) (t : State) (H1 : Heap) (locs1 : List Loc), t.heap = H1 → s.vm.Alike t.vm → px u → BX E u t → H.size ≤ H1.size → (∀ q : Nat, q < H.size → ¬ AX q → H1[q]? = H[q]?) → va_S A0 H0 H1 locs1 → H1[q9]? = some ce → ce.vm = .none → s.vm.findClass E = some ce.cls → vx_W p l e R s m args below meth c H1 locs1 (cells + mc) (slots + ms) Q (F0 m pc ls rest) q9)
    (kk : ∀ (r : UInt32) (u : S) (t : State) (H1 : Heap) (locs1 : List Loc), t.heap = H1 → s.vm.Alike t.vm → post r u → B u t → H.size ≤ H1.size → (∀ q : Nat, q < H.size → ¬ A1 q → H1[q]? = H[q]?) → va_S A0 H0 H1 locs1 → W p l e R s m args below meth c H1 locs1 (cells + mc) (slots + ms) Q (F0 m (pc + 3) ls (.float r :: rest))) : W p l e R s m args below meth c H locs cells slots Q (F0 m pc ls st0) := by
  intro T hT X
  rcases hr T hT X with ⟨v, st₀, t, T', L, h0, X', hL, e1, e2, ⟨⟨r, u, hv, hp, hb⟩, hF⟩, st⟩ | ⟨q, st₀, t, T', L, E, ce, h0, X', hL, e1, e2, ⟨u, hp, hb, hF⟩, hce, hcv, hcl, st⟩
  · cases hv
    obtain ⟨k1, k2, k3⟩ := vx_keep h0 e1 hS hA hf hL hF
    obtain ⟨t2, a1, b1⟩ := kk r u t T'.heap (locs ++ L) e1.symm (by rw [← e2]; exact X'.warmed.alike) hp hb k1 k2 k3 T' rfl X'
    exact ⟨t2, st t2 a1, b1⟩
  · obtain ⟨k1, k2, k3⟩ := vx_keep h0 e1 hS hAX hf hL hF
    obtain ⟨t2, a1, b1⟩ := kx E ce q u t T'.heap (locs ++ L) e1.symm (by rw [← e2]; exact X'.warmed.alike) hp hb k1 k2 k3 (by rw [e1]; exact hce) hcv hcl T' rfl X'
    exact ⟨t2, st.trans a1, b1⟩
theorem vx_calld {S SX : Type} {post : UInt64 → S → Prop} {px : SX → Prop} {B : S → State → Prop} {BX : String → SX → State → Prop} {AX : Nat → Prop} (hr : vx_Run p l e R s m args below meth c H locs cells slots mc ms (F0 m pc ls st0) rest (va_Qd post B A1 a) (vx_X px BX AX) free) (hS : va_S A0 H0 H locs) (hA : ∀ q, q < H.size → A1 q → A0 q) (hf : ∀ q, free q → A0 q) (hAX : ∀ q, q < H.size → AX q → A0 q)
    (kx : ∀ (E : String) (ce : Cell) (q9 : Addr) (u : SX) (t : State) (H1 : Heap) (locs1 : List Loc), t.heap = H1 → s.vm.Alike t.vm → px u → BX E u t → H.size ≤ H1.size → (∀ q : Nat, q < H.size → ¬ AX q → H1[q]? = H[q]?) → va_S A0 H0 H1 locs1 → H1[q9]? = some ce → ce.vm = .none → s.vm.findClass E = some ce.cls → vx_W p l e R s m args below meth c H1 locs1 (cells + mc) (slots + ms) Q (F0 m pc ls rest) q9)
    (kk : ∀ (r : UInt64) (u : S) (t : State) (H1 : Heap) (locs1 : List Loc), t.heap = H1 → s.vm.Alike t.vm → post r u → B u t → H.size ≤ H1.size → (∀ q : Nat, q < H.size → ¬ A1 q → H1[q]? = H[q]?) → va_S A0 H0 H1 locs1 → W p l e R s m args below meth c H1 locs1 (cells + mc) (slots + ms) Q (F0 m (pc + 3) ls (.double r :: rest))) : W p l e R s m args below meth c H locs cells slots Q (F0 m pc ls st0) := by
  intro T hT X
  rcases hr T hT X with ⟨v, st₀, t, T', L, h0, X', hL, e1, e2, ⟨⟨r, u, hv, hp, hb⟩, hF⟩, st⟩ | ⟨q, st₀, t, T', L, E, ce, h0, X', hL, e1, e2, ⟨u, hp, hb, hF⟩, hce, hcv, hcl, st⟩
  · cases hv
    obtain ⟨k1, k2, k3⟩ := vx_keep h0 e1 hS hA hf hL hF
    obtain ⟨t2, a1, b1⟩ := kk r u t T'.heap (locs ++ L) e1.symm (by rw [← e2]; exact X'.warmed.alike) hp hb k1 k2 k3 T' rfl X'
    exact ⟨t2, st t2 a1, b1⟩
  · obtain ⟨k1, k2, k3⟩ := vx_keep h0 e1 hS hAX hf hL hF
    obtain ⟨t2, a1, b1⟩ := kx E ce q u t T'.heap (locs ++ L) e1.symm (by rw [← e2]; exact X'.warmed.alike) hp hb k1 k2 k3 (by rw [e1]; exact hce) hcv hcl T' rfl X'
    exact ⟨t2, st.trans a1, b1⟩
theorem vx_callv {S SX : Type} {post : S → Prop} {px : SX → Prop} {B : S → State → Prop} {BX : String → SX → State → Prop} {AX : Nat → Prop} (hr : vx_Run p l e R s m args below meth c H locs cells slots mc ms (F0 m pc ls st0) rest (va_Qv post B A1 a) (vx_X px BX AX) free) (hS : va_S A0 H0 H locs) (hA : ∀ q, q < H.size → A1 q → A0 q) (hf : ∀ q, free q → A0 q) (hAX : ∀ q, q < H.size → AX q → A0 q)
    (kx : ∀ (E : String) (ce : Cell) (q9 : Addr) (u : SX) (t : State) (H1 : Heap) (locs1 : List Loc), t.heap = H1 → s.vm.Alike t.vm → px u → BX E u t → H.size ≤ H1.size → (∀ q : Nat, q < H.size → ¬ AX q → H1[q]? = H[q]?) → va_S A0 H0 H1 locs1 → H1[q9]? = some ce → ce.vm = .none → s.vm.findClass E = some ce.cls → vx_W p l e R s m args below meth c H1 locs1 (cells + mc) (slots + ms) Q (F0 m pc ls rest) q9)
    (kk : ∀ (u : S) (t : State) (H1 : Heap) (locs1 : List Loc), t.heap = H1 → s.vm.Alike t.vm → post u → B u t → H.size ≤ H1.size → (∀ q : Nat, q < H.size → ¬ A1 q → H1[q]? = H[q]?) → va_S A0 H0 H1 locs1 → W p l e R s m args below meth c H1 locs1 (cells + mc) (slots + ms) Q (F0 m (pc + 3) ls (rest))) : W p l e R s m args below meth c H locs cells slots Q (F0 m pc ls st0) := by
  intro T hT X
  rcases hr T hT X with ⟨v, st₀, t, T', L, h0, X', hL, e1, e2, ⟨⟨u, hv, hp, hb⟩, hF⟩, st⟩ | ⟨q, st₀, t, T', L, E, ce, h0, X', hL, e1, e2, ⟨u, hp, hb, hF⟩, hce, hcv, hcl, st⟩
  · cases hv
    obtain ⟨k1, k2, k3⟩ := vx_keep h0 e1 hS hA hf hL hF
    obtain ⟨t2, a1, b1⟩ := kk u t T'.heap (locs ++ L) e1.symm (by rw [← e2]; exact X'.warmed.alike) hp hb k1 k2 k3 T' rfl X'
    exact ⟨t2, st t2 a1, b1⟩
  · obtain ⟨k1, k2, k3⟩ := vx_keep h0 e1 hS hAX hf hL hF
    obtain ⟨t2, a1, b1⟩ := kx E ce q u t T'.heap (locs ++ L) e1.symm (by rw [← e2]; exact X'.warmed.alike) hp hb k1 k2 k3 (by rw [e1]; exact hce) hcv hcl T' rfl X'
    exact ⟨t2, st.trans a1, b1⟩
/-- caught by the row x of this method's table; the rows ahead don't take it -/
theorem vx_catch {own name : String} {E : String} {ce : Cell} {q : Addr} (hown : s.vm.findClass own = some m.cls) (pre : List ExceptionTableEntry) (x : ExceptionTableEntry) (suf : List ExceptionTableEntry) (hsplit : c.exceptionTable.toList = pre ++ x :: suf)
    (hpass : ∀ z ∈ pre, covers z pc = false ∨ (z.catchType ≠ 0 ∧ ∃ nm : String, (Cond.classLink own z.catchType nm).before args s = true ∧ va_Nc E nm s)) (hx : covers x pc = true) (h0 : x.catchType ≠ 0)
    (hlink : (Cond.classLink own x.catchType name).before args s = true) (hcast : (Cond.castable E name).before args s = true) (hcell : H[q]? = some ce) (hv : ce.vm = .none) (hcl : s.vm.findClass E = some ce.cls)
    (kk : W p l e R s m args below meth c H locs cells slots Q (F0 m x.handlerPc ls [.ref q])) : vx_W p l e R s m args below meth c H locs cells slots Q (F0 m pc ls rest) q := by
  intro T hT X
  have hpl : e.platform.magicAccessors = ({} : Platform).magicAccessors := by rw [X.admits.platform]
  obtain ⟨c3, c4, hc3, hc4, hasg⟩ := Cond.castable_spec hcast
  cases Option.some.inj (hc3.symm.trans hcl)
  obtain ⟨c5, hc5, hcl5⟩ := Cond.classLink_spec hown hlink e.platform hpl
  cases Option.some.inj (hc4.symm.trans hc5)
  obtain ⟨vm', X', st⟩ := X.thenCaughtThrough q (g := F0 m pc ls rest) rfl (Steps.refl _) (by rw [hT]; exact hcell) (by rw [hv]; rfl) (by obtain ⟨k9, h9, -⟩ := Vm.findClass_spec hcl; exact ⟨k9, h9⟩) pre x suf hsplit
    (fun z hz => by
      rcases hpass z hz with h | ⟨hz0, nm, hl1, hn1⟩
      · exact Or.inl h
      · obtain ⟨c6, hc6, hcl6⟩ := Cond.classLink_spec hown hl1 e.platform hpl
        obtain ⟨a8, b8, h1, h2, h3⟩ := hn1
        cases Option.some.inj (h1.symm.trans hcl)
        cases Option.some.inj (h2.symm.trans hc6)
        exact Or.inr ⟨hz0, _, hcl6, h3⟩) hx (Or.inr ⟨h0, c4, hcl5, hasg⟩)
  obtain ⟨t, a1, b1⟩ := kk (T.setVm vm') hT X'
  exact ⟨t, st.trans a1, b1⟩
end Rows
section Ends
variable {p : Program} {l : Launch} {e : Env} {R : Room} {s : State} {m : MethodId} {args : Array Value} {below : List Frame} {meth : Method} {c : Code} {H : Heap} {locs : List Loc} {cells slots : Nat} {Q : State → Prop}
variable {mc ms : Nat} {free : Addr → Prop} {A0 A1 : Nat → Prop} {H0 : Heap} {a : Array Value} {ls : Array Slot} {st0 rest : List Value}
variable {Qc : Array Value → State → Outcome → State → Prop} {XC : String → State → State → Prop}
/-- what a body that may throw owes at its end -/
def vx_MQ (below : List Frame) (Qc : Array Value → State → Outcome → State → Prop) (XC : String → State → State → Prop) (a : Array Value) (s : State) (mc ms : Nat) (free : Addr → Prop) : State → Prop := fun t =>
  ∃ o, t.status = .running ∧ Ended t below o ∧ vx_Q Qc XC mc ms free a s o t
theorem vx_ret {g : JFrame} {mc ms : Nat} (k : W p l e R s m args below meth c H locs cells slots (MQ below Qc args s mc ms free) g) : W p l e R s m args below meth c H locs cells slots (vx_MQ below Qc XC args s mc ms free) g := by
  intro T hT X
  obtain ⟨t, a1, o, b1, b2, b3, b4⟩ := k T hT X
  exact ⟨t, a1, o, b1, b2, Or.inl ⟨b3, b4⟩⟩
/-- not caught here: it goes on to the caller -/
theorem vx_widen {g : JFrame} {q : Addr} {k n : Nat} (h1 : cells ≤ k) (h2 : slots ≤ n) (kk : vx_W p l e R s m args below meth c H locs k n Q g q) : vx_W p l e R s m args below meth c H locs cells slots Q g q := fun T hT X => kk T hT (stand_widen X h1 h2)
theorem vx_out {pc : Nat} {E : String} {ce : Cell} {q : Addr} {mc ms : Nat} (hout : ∀ x ∈ c.exceptionTable.toList, covers x pc = false) (hlocks : meth.locks = false) (hcell : H[q]? = some ce) (hv : ce.vm = .none) (hcl : s.vm.findClass E = some ce.cls)
    (hx : ∀ t : State, t.heap = H → s.vm.Alike t.vm → XC E s t) (hf : ∀ z ∈ locs, free z.base) (hc : cells ≤ mc) (hs : slots ≤ ms) :
    vx_W p l e R s m args below meth c H locs cells slots (vx_MQ below Qc XC args s mc ms free) (F0 m pc ls rest) q := by
  intro T hT X
  obtain ⟨st1, hrun, hend, hW, hsm⟩ := X.leaveThrown q (g := F0 m pc ls rest) rfl rfl rfl hout hlocks
  have hcell9 : (T.setFrames (.throwing q :: below)).heap[q]? = some ce := by
    show T.heap[q]? = some ce
    rw [hT]; exact hcell
  exact ⟨_, st1, .threw q, hrun, hend, Or.inr ⟨q, rfl, E, ce, locs, hx _ hT hW.alike, hcell9, hv, hcl, hW, hsm.mono hc hs, hf⟩⟩
theorem vx_frame {U : State} {k n : Nat} (h : s.sameButNew ({ U with vm := s.vm } : State) locs k n) : s.heap.size ≤ U.heap.size ∧ ∀ q : Nat, q < s.heap.size → (∀ z ∈ locs, z.base ≠ q) → U.heap[q]? = s.heap[q]? := by
  obtain ⟨-, h2, -, -, -, h6⟩ := h
  refine ⟨h2, fun q hq hz => ?_⟩
  obtain ⟨c9, e1, e2, e3, e4⟩ := h6 q _ (Array.getElem?_eq_getElem hq)
  have hs : c9.slots = (s.heap[q]).slots := Array.ext_getElem? fun i => e4 i fun hm => hz _ hm rfl
  have h9 : c9 = s.heap[q] := by
    rw [hs] at e2
    exact e2
  have e5 : U.heap[q]? = some c9 := e1
  rw [e5, h9, Array.getElem?_eq_getElem hq]
/-- the words of a throw but the four that speak of the heap -/
def vx_no (w : Cond) : Bool := decide (w ≠ .isRef (.static Bundle.tN "UNASSIGNED_STACK" Bundle.steD)) && decide (w ≠ .isRef (.static Bundle.tN "SUPPRESSED_SENTINEL" Bundle.listD)) && decide (w ≠ .laysStatic Bundle.tN "UNASSIGNED_STACK" Bundle.steD) && decide (w ≠ .laysStatic Bundle.tN "SUPPRESSED_SENTINEL" Bundle.listD)
def vx_at0 (own : String) (ic : Nat) (X : String) (names : List String) : List Cond := (Bundle.ownAtoms0 own ic X names).filter vx_no
def vx_atS (own : String) (ic : Nat) (X : String) (names : List String) : List Cond := (Bundle.ownAtoms own ic X names).filter vx_no
/-- a word that the tables alone decide, or a good one -/
def vx_ot (w : Cond) : Bool := w.onTables || goodWord w
theorem vx_ot_at {args a' : Array Value} {s U : State} {w : Cond} (hW : s.WarmedH U.vm) (hvm : s.vm = U.vm) (hg : vx_ot w = true) (h : w.before args s = true) : w.before a' U = true := by
  simp only [vx_ot, Bool.or_eq_true] at hg
  rcases hg with hg | hg
  · exact va_tabs hg hvm h
  · exact word_at hW (good_of_word hg) h
/-- a list's words: the good ones out of the method's own list, the others by premises of their own -/
theorem vx_hat {args : Array Value} {s : State} {L B : List Cond} (h1 : ∀ w ∈ L.filter goodWord, w.before args s = true) (h2 : ∀ w ∈ L.filter (fun w => !goodWord w), w ∈ B) (h3 : ∀ w ∈ B, w.before args s = true) : ∀ w ∈ L, w.before args s = true := by
  intro w hw
  by_cases g : goodWord w = true
  · exact h1 w (List.mem_filter.mpr ⟨hw, g⟩)
  · refine h3 w (h2 w (List.mem_filter.mpr ⟨hw, ?_⟩))
    show (!goodWord w) = true
    cases hgw : goodWord w
    · rfl
    · exact absurd hgw g
theorem vx_c {args : Array Value} {s : State} {w : Cond} {B : List Cond} (h : w.before args s = true) (t : ∀ w ∈ B, w.before args s = true) : ∀ w' ∈ w :: B, w'.before args s = true := fun w' h' => (List.mem_cons.mp h').elim (fun e => by rw [e]; exact h) (t w')
theorem vx_n {args : Array Value} {s : State} : ∀ w ∈ ([] : List Cond), w.before args s = true := fun _ h => nomatch h
theorem vx_own {args : Array Value} {s : State} {L : List Cond} (h1 : ∀ w ∈ L.filter vx_no, w.before args s = true)
    (hU : (Cond.isRef (.static Bundle.tN "UNASSIGNED_STACK" Bundle.steD)).before args s = true) (hN : (Cond.isRef (.static Bundle.tN "SUPPRESSED_SENTINEL" Bundle.listD)).before args s = true)
    (lU : (Cond.laysStatic Bundle.tN "UNASSIGNED_STACK" Bundle.steD).before args s = true) (lN : (Cond.laysStatic Bundle.tN "SUPPRESSED_SENTINEL" Bundle.listD).before args s = true) : ∀ w ∈ L, w.before args s = true := by
  intro w hw
  by_cases e1 : w = .isRef (.static Bundle.tN "UNASSIGNED_STACK" Bundle.steD)
  · rw [e1]; exact hU
  · by_cases e2 : w = .isRef (.static Bundle.tN "SUPPRESSED_SENTINEL" Bundle.listD)
    · rw [e2]; exact hN
    · by_cases e3 : w = .laysStatic Bundle.tN "UNASSIGNED_STACK" Bundle.steD
      · rw [e3]; exact lU
      · by_cases e4 : w = .laysStatic Bundle.tN "SUPPRESSED_SENTINEL" Bundle.listD
        · rw [e4]; exact lN
        · exact h1 w (List.mem_filter.mpr ⟨hw, by unfold vx_no; rw [decide_eq_true e1, decide_eq_true e2, decide_eq_true e3, decide_eq_true e4]; rfl⟩)
/-- where a static field lies, its class's statics cell in H -/
def vx_L (C n d : String) (A : Nat → Prop) (U : State) (H : Heap) : Prop := ∃ (c : ClassId) (k : Class) (i : Nat) (f : Field) (a : Nat) (cell : Cell), U.vm.findClass C = some c ∧ U.fieldFound? C n d = some (c, k, i, f) ∧ f.isStatic = true ∧ k.statics = some a ∧ H[a]? = some cell ∧ cell.vm.isStatics = true ∧ cell.cls = c ∧ f.slot < cell.slots.size ∧ k.staticTypes[f.slot]? = some f.type ∧ ¬ A a
theorem vx_L.moved {C n d : String} {A : Nat → Prop} {u U : State} {H : Heap} (hvm : u.vm.Alike U.vm) (h : vx_L C n d A u H) : vx_L C n d A U H := by
  obtain ⟨c, k, i, f, a, cell, h1, h2, h3, h4, h5, h6, h7, h8, h9, h10⟩ := h
  obtain ⟨k', hi', he⟩ := State.fieldFound?_setVm hvm h2
  exact ⟨c, k', i, f, a, cell, by rw [hvm.findClass]; exact h1, hi', h3, by rw [he]; exact h4, h5, h6, h7, h8, by rw [he]; exact h9, h10⟩
theorem vx_L.kept {C n d : String} {A : Nat → Prop} {U : State} {H H1 : Heap} (h : vx_L C n d A U H) (hq : ∀ a : Nat, a < H.size → ¬ A a → H1[a]? = H[a]?) : vx_L C n d A U H1 := by
  obtain ⟨c, k, i, f, a, cell, h1, h2, h3, h4, h5, h6, h7, h8, h9, h10⟩ := h
  exact ⟨c, k, i, f, a, cell, h1, h2, h3, h4, by rw [hq a (Array.getElem?_eq_some_iff.mp h5).1 h10]; exact h5, h6, h7, h8, h9, h10⟩
theorem vx_L.narrow {C n d : String} {A B : Nat → Prop} {U : State} {H : Heap} (h : vx_L C n d A U H) (hAB : ∀ q, B q → A q) : vx_L C n d B U H := by
  obtain ⟨c, k, i, f, a, cell, h1, h2, h3, h4, h5, h6, h7, h8, h9, h10⟩ := h
  exact ⟨c, k, i, f, a, cell, h1, h2, h3, h4, h5, h6, h7, h8, h9, fun z => h10 (hAB _ z)⟩
theorem vx_L.word {C n d : String} {A : Nat → Prop} {s : State} {args : Array Value} (h : vx_L C n d A s s.heap) : (Cond.laysStatic C n d).before args s = true := by
  obtain ⟨c, k, i, f, a, cell, h1, h2, h3, h4, h5, h6, h7, h8, h9, -⟩ := h
  show (Cond.laysStatic C n d).holds args s none s [] = true
  exact Cond.laysStatic_of h1 h2 h3 h4 h5 h6 h7 h8 h9
/-- .. and what it holds: null or some reference -/
def vx_Zq (C n d : String) (A : Nat → Prop) (U : State) (H : Heap) : Prop := va_Zq C n d A U H ∧ vx_L C n d A U H
theorem vx_Zq.moved {C n d : String} {A : Nat → Prop} {u U : State} {H : Heap} (hvm : u.vm.Alike U.vm) (h : vx_Zq C n d A u H) : vx_Zq C n d A U H := ⟨va_Zq.moved hvm h.1, vx_L.moved hvm h.2⟩
theorem vx_Zq.kept {C n d : String} {A : Nat → Prop} {U : State} {H H1 : Heap} (h : vx_Zq C n d A U H) (hq : ∀ a : Nat, a < H.size → ¬ A a → H1[a]? = H[a]?) : vx_Zq C n d A U H1 := ⟨va_Zq.kept h.1 hq, vx_L.kept h.2 hq⟩
theorem vx_Zq.narrow {C n d : String} {A B : Nat → Prop} {U : State} {H : Heap} (h : vx_Zq C n d A U H) (hAB : ∀ q, B q → A q) : vx_Zq C n d B U H := ⟨va_Zq.narrow h.1 hAB, vx_L.narrow h.2 hAB⟩
theorem vx_Zqof {args : Array Value} {s : State} {C n d : String} {A : Nat → Prop} (hl : (Cond.laysStatic C n d).before args s = true) (hini : (Cond.initialized C).before args s = true) (h : (Cond.isRef (.static C n d)).before args s = true) (hA : ∀ a : Nat, a < s.heap.size → ¬ A a) : vx_Zq C n d A s s.heap := by
  refine ⟨va_Zqof hl hini h hA, ?_⟩
  obtain ⟨c, k, i, f, a, cell, h1, h2, h3, h4, h5, h6, h7, h8, h9⟩ := Cond.laysStatic_spec hl
  exact ⟨c, k, i, f, a, cell, h1, h2, h3, h4, h5, h6, h7, h8, h9, hA a (Array.getElem?_eq_some_iff.mp h5).1⟩
theorem vx_isRef {C n d : String} {v : Value} {A : Nat → Prop} {s : State} {args : Array Value} (h : va_Z C n d v A s s.heap) (hv : v.isRef = true) : (Cond.isRef (.static C n d)).before args s = true := by
  obtain ⟨cf, kf, fi, f, a, cell, h1, h2, h3, h4, h5, h6, h7, -⟩ := h
  have he : (Term.static C n d).eval args s none [] s = some v := by
    simp [Term.eval, State.fieldNamed?, h1, h2, h4, h5, h6, h7]
  simp only [Cond.before, Cond.holds, Cond.value, he]
  cases v <;> simp_all [Value.isRef]
theorem vx_isRefq {C n d : String} {A : Nat → Prop} {s : State} {args : Array Value} (h : va_Zq C n d A s s.heap) : (Cond.isRef (.static C n d)).before args s = true := by
  rcases h with h | ⟨t, h⟩
  · exact vx_isRef h rfl
  · exact vx_isRef h rfl
/-- the same frame, seen from here: as if the method were called anew in this heap -/
theorem vx_rebase {T : State} (X : Stand p l e R s m args below meth c T locs cells slots) {R' : Room} (hf : R'.frames ≤ R.frames) (hl : R'.locals ≤ R.locals) (hc : cells + R'.cells ≤ R.cells) (hs : slots + R'.slots ≤ R.slots) :
    Stand p l e R' ((T.setVm s.vm).setFrames (.invoking m args :: below)) m args below meth c T [] 0 0 := by
  have htop : (T.setVm s.vm).topJava?.isSome := X.here.top
  have hF : ((T.setVm s.vm).setFrames (.invoking m args :: below)).frames = .invoking m args :: below := State.frames_setFrames _ (State.cur_lt_of_top htop)
  obtain ⟨g₀, hg0⟩ := Option.isSome_iff_exists.mp htop
  obtain ⟨r, hr⟩ := State.topJava?_eq_some.mp hg0
  have hl9 : e.platform.stackLimits (T.setVm s.vm).me = e.platform.stackLimits s.me := X.limits
  have hb9 : (T.setVm s.vm).me.stackBytes = s.me.stackBytes := X.bytes
  refine ⟨X.admits, X.cas, X.clock, hF, ?_, X.hears, X.method, X.code, X.here, X.tail, X.warmed, ?_, ?_, ?_⟩
  · have h := X.room
    have hU : ((T.setVm s.vm).setFrames (.invoking m args :: below)).localsInUse = s.localsInUse := by
      rw [State.localsInUse_invoking hF (meth := meth) (c := c) X.method X.code, State.localsInUse_invoking X.frames X.method X.code]
    simp only [State.hasRoom, Bool.and_eq_true, decide_eq_true_eq] at h ⊢
    obtain ⟨⟨⟨⟨h1, h2, h3, h4, h5, h6⟩, h7⟩, h8⟩, h9⟩ := h
    rw [X.frames, List.length_cons] at h2 h3
    have q1 := X.heapSize
    have q2 := X.used
    simp only [hF, hU, List.length_cons, State.stackLimits_setFrames, State.stackBytes_setFrames, hl9, hb9]
    refine ⟨⟨⟨⟨by omega, by omega, by omega, by omega, by omega, h6⟩, ?_⟩, ?_⟩, X.book⟩
    · show T.heap.size + R'.cells ≤ e.platform.maxCells
      omega
    · show T.slotsUsed + R'.slots ≤ e.platform.maxSlots
      omega
  · rw [State.stackLimits_setFrames]; rfl
  · rw [State.stackBytes_setFrames]; rfl
  · refine ⟨?_, Nat.le_refl _, Nat.le_refl _, ?_, ?_, fun a c9 h9 => ⟨c9, h9, rfl, rfl, fun _ _ => rfl⟩⟩
    · obtain ⟨t, ht, -⟩ := State.frames_cons hr
      show T.setVm s.vm = { ((T.setVm s.vm).setFrames (.invoking m args :: below)).setFrames (T.setVm s.vm).frames with heap := T.heap, slotsUsed := T.slotsUsed }
      rw [State.setFrames_setFrames, State.setFrames_self ht]
      rfl
    · show T.slotsUsed = T.slotsUsed + ((T.heap.toList.drop T.heap.size).map (·.slots.size)).sum
      rw [List.drop_eq_nil_of_le (Nat.le_of_eq Array.length_toList)]
      rfl
    · show ((T.heap.toList.drop T.heap.size).map (·.slots.size)).sum ≤ 0
      rw [List.drop_eq_nil_of_le (Nat.le_of_eq Array.length_toList)]
      exact Nat.le_refl _
/-- 'throw new E()': new; dup; invokespecial; athrow -/
theorem vx_throw0 {cc : ByteArray} {pc : Nat} (hexec : p.tables.exec = Jvm.exec) (hb : c.code = cc) (hl : l.stackTraces = false) {own cls : String} {names : List String} {ik ic mc ms : Nat} {A : Nat → Prop}
    (hown : s.vm.findClass own = some m.cls) (hcls : Bundle.fit cls = true) (hnames : ∀ n ∈ names, Bundle.fit n = true)
    (hk : (Cond.classLink own ik cls).before args s = true) (hini : (Cond.initialized cls).before args s = true) (hat : ∀ w ∈ vx_at0 own ic cls names, w.before args s = true)
    (hgood : ∀ w ∈ Cond.classLink own ik cls :: Cond.initialized cls :: vx_at0 own ic cls names, vx_ot w = true)
    (hU : vx_Zq Bundle.tN "UNASSIGNED_STACK" Bundle.steD A s s.heap) (hN : vx_Zq Bundle.tN "SUPPRESSED_SENTINEL" Bundle.listD A s s.heap) (hS : va_S A s.heap H locs) (hsize : ls.size = c.maxLocals)
    (d0 : decode cc pc = .ok (.new ik, 3)) (d3 : decode cc (pc + 3) = .ok (.dup, 1)) (d4 : decode cc (pc + 4) = .ok (.invokespecial ic, 3)) (d7 : decode cc (pc + 7) = .ok (.athrow, 1))
    (hout : ∀ x ∈ c.exceptionTable.toList, covers x (pc + 7) = false)
    (hRframes : names.length + 3 < R.frames) (hRlocals : (rest.map fun v => v.category).sum + (13 * (names.length + 1) + 42) ≤ R.locals) (hRcells : cells + 1 ≤ R.cells) (hRslots : slots + 6 ≤ R.slots) (hlocks : meth.locks = false)
    (hx : ∀ t : State, s.vm.Alike t.vm → H.size ≤ t.heap.size → (∀ q : Nat, q < H.size → t.heap[q]? = H[q]?) → XC cls s t)
    (hf : ∀ z ∈ locs, free z.base) (hc : cells + 1 ≤ mc) (hs : slots + 6 ≤ ms) :
    W p l e R s m args below meth c H locs cells slots (vx_MQ below Qc XC args s mc ms free) (F0 m pc ls rest) := by
  intro T hT X
  have htr : e.platform.stackTraces = false := (show e.platform.stackTraces = l.stackTraces by rw [X.admits.platform]).trans hl
  have Y := vx_rebase X (R' := { frames := R.frames, locals := R.locals, cells := 1, slots := 6 }) (Nat.le_refl _) (Nat.le_refl _) hRcells hRslots
  obtain ⟨s', hA⟩ : ∃ z, z = (T.setVm s.vm).setFrames (.invoking m args :: below) := ⟨_, rfl⟩
  rw [← hA] at Y
  have hvm : s'.vm = s.vm := by rw [hA]; rfl
  have hhp : s'.heap = H := by rw [hA]; exact hT
  have hW0 : s.WarmedH s'.vm := by rw [hvm]; exact State.WarmedH.refl s
  have hat' : ∀ w ∈ vx_at0 own ic cls names, w.before args s' = true := fun w hw => vx_ot_at hW0 hvm.symm (hgood w (List.mem_cons_of_mem _ (List.mem_cons_of_mem _ hw))) (hat w hw)
  have hk' : (Cond.classLink own ik cls).before args s' = true := vx_ot_at hW0 hvm.symm (hgood _ List.mem_cons_self) hk
  have hini' : (Cond.initialized cls).before args s' = true := vx_ot_at hW0 hvm.symm (hgood _ (List.mem_cons_of_mem _ List.mem_cons_self)) hini
  have hU' : vx_Zq Bundle.tN "UNASSIGNED_STACK" Bundle.steD A s' s'.heap := by rw [hhp]; exact vx_Zq.moved hW0.alike (hU.kept hS.2.1)
  have hN' : vx_Zq Bundle.tN "SUPPRESSED_SENTINEL" Bundle.listD A s' s'.heap := by rw [hhp]; exact vx_Zq.moved hW0.alike (hN.kept hS.2.1)
  have h : ∀ w ∈ Bundle.ownAtoms0 own ic cls names, w.before args s' = true := vx_own hat' (vx_isRefq hU'.1) (vx_isRefq hN'.1) hU'.2.word hN'.2.word
  have hown' : s'.vm.findClass own = some m.cls := by rw [hvm]; exact hown
  have hins : (Cond.instantiable cls 6).before args s' = true := h _ (by simp [Bundle.ownAtoms0])
  obtain ⟨vm₁, cX, kX, hfX, hkX, -, -, X₁, st1⟩ := Y.newCold hexec (own := own) (C := cls) (index := ik) (n := 6) hown' hk' hins hini'
    (g := F0 m pc ls rest) rfl (by rw [hb]; exact d0) (Nat.le_refl _) (Nat.le_refl _)
  generalize hT1 : (T.setVm vm₁).pushCell { cls := cX, slots := kX.instanceTypes.map defaultValue, vm := .none } = T1 at X₁ st1
  have hcat : (Value.ref T.heap.size).category = 1 := rfl
  have hcellA : T1.heap[T.heap.size]? = some (freshCell cX kX) := by rw [← hT1]; exact State.heap_pushCell_size _ _
  have d3' : decode c.code (pc + 3) = .ok (.dup, 1) := by rw [hb]; exact d3
  obtain ⟨U, hsteps, hrun, hend, hW, hsame, ce, hce, hO⟩ := X₁.ctorThrow0 hexec htr (own := own) (cls := cls) (names := names) (ic := ic) hown' hcls hnames h (fun x hx => nomatch hx) hfX hkX hcellA (by rw [hhp, hT]; exact Nat.le_refl _)
    (g := { method := m, pc := pc + 4, locals := ls, stack := .ref T.heap.size :: .ref T.heap.size :: rest, locked := none }) rfl hsize rfl rfl (rest := rest) rfl
    (by rw [hb]; exact d4) (by rw [hb]; exact d7) hout hRframes (by simp only [List.map_cons, List.sum_cons, hcat]; omega) hlocks
  obtain ⟨f1, f2⟩ := vx_frame hsame
  rw [hhp] at f1 f2
  have hWs : s.WarmedH U.vm := State.WarmedH.trans hW0 hW
  have hcl : s.vm.findClass cls = some ce.cls := by
    have h9 := hO.cls
    rw [hvm] at h9
    exact h9
  have hall : s.sameButNew ({ U with vm := s.vm } : State) locs mc ms := by
    subst hA
    obtain ⟨e1, e2⟩ := hsame
    rw [State.setFrames_setFrames] at e1
    have h2 : (T.setVm s.vm).sameButNew ({ U with vm := s.vm } : State) [] (0 + 1) (0 + 6) := ⟨e1, e2⟩
    have h3 := X.same.trans h2
    rw [List.append_nil] at h3
    exact h3.mono hc hs
  refine ⟨U, ?_, .threw T.heap.size, hrun, hend, Or.inr ⟨T.heap.size, rfl, cls, ce, locs, hx U hWs.alike f1 (fun q hq => f2 q hq (fun z hz => nomatch hz)), hce, hO.vm, hcl, hWs, hall, hf⟩⟩
  refine st1 _ ?_
  show Steps p.tables e below (T1.setTop { method := m, pc := pc + 3, locals := ls, stack := .ref T.heap.size :: rest, locked := none }) _
  jvm_step X₁.here [X₁.here.top, hexec, d3', Value.category]
  exact hsteps
/-- 'throw new E("text")': new; dup; ldc; invokespecial; athrow -/
theorem vx_throwS {cc : ByteArray} {pc : Nat} (hexec : p.tables.exec = Jvm.exec) (hb : c.code = cc) (hl : l.stackTraces = false) {own cls text : String} {names : List String} {ik is ic mc ms sa : Nat} {A : Nat → Prop}
    (hown : s.vm.findClass own = some m.cls) (hcls : Bundle.fit cls = true) (hnames : ∀ n ∈ names, Bundle.fit n = true)
    (hk : (Cond.classLink own ik cls).before args s = true) (hini : (Cond.initialized cls).before args s = true) (hstr : vk_R own is text sa s) (hat : ∀ w ∈ vx_atS own ic cls names, w.before args s = true)
    (hgood : ∀ w ∈ Cond.classLink own ik cls :: Cond.initialized cls :: vx_atS own ic cls names, vx_ot w = true)
    (hU : vx_Zq Bundle.tN "UNASSIGNED_STACK" Bundle.steD A s s.heap) (hN : vx_Zq Bundle.tN "SUPPRESSED_SENTINEL" Bundle.listD A s s.heap) (hS : va_S A s.heap H locs) (hsize : ls.size = c.maxLocals)
    (d0 : decode cc pc = .ok (.new ik, 3)) (d3 : decode cc (pc + 3) = .ok (.dup, 1)) (d4 : decode cc (pc + 4) = .ok (.ldc is, 2)) (d6 : decode cc (pc + 6) = .ok (.invokespecial ic, 3)) (d9 : decode cc (pc + 9) = .ok (.athrow, 1))
    (hout : ∀ x ∈ c.exceptionTable.toList, covers x (pc + 9) = false)
    (hRframes : names.length + 3 < R.frames) (hRlocals : (rest.map fun v => v.category).sum + (13 * (names.length + 1) + 43) ≤ R.locals) (hRcells : cells + 1 ≤ R.cells) (hRslots : slots + 6 ≤ R.slots) (hlocks : meth.locks = false)
    (hx : ∀ t : State, s.vm.Alike t.vm → H.size ≤ t.heap.size → (∀ q : Nat, q < H.size → t.heap[q]? = H[q]?) → XC cls s t)
    (hf : ∀ z ∈ locs, free z.base) (hc : cells + 1 ≤ mc) (hs : slots + 6 ≤ ms) :
    W p l e R s m args below meth c H locs cells slots (vx_MQ below Qc XC args s mc ms free) (F0 m pc ls rest) := by
  intro T hT X
  have htr : e.platform.stackTraces = false := (show e.platform.stackTraces = l.stackTraces by rw [X.admits.platform]).trans hl
  have Y := vx_rebase X (R' := { frames := R.frames, locals := R.locals, cells := 1, slots := 6 }) (Nat.le_refl _) (Nat.le_refl _) hRcells hRslots
  obtain ⟨s', hA⟩ : ∃ z, z = (T.setVm s.vm).setFrames (.invoking m args :: below) := ⟨_, rfl⟩
  rw [← hA] at Y
  have hvm : s'.vm = s.vm := by rw [hA]; rfl
  have hhp : s'.heap = H := by rw [hA]; exact hT
  have hW0 : s.WarmedH s'.vm := by rw [hvm]; exact State.WarmedH.refl s
  have hat' : ∀ w ∈ vx_atS own ic cls names, w.before args s' = true := fun w hw => vx_ot_at hW0 hvm.symm (hgood w (List.mem_cons_of_mem _ (List.mem_cons_of_mem _ hw))) (hat w hw)
  have hk' : (Cond.classLink own ik cls).before args s' = true := vx_ot_at hW0 hvm.symm (hgood _ List.mem_cons_self) hk
  have hini' : (Cond.initialized cls).before args s' = true := vx_ot_at hW0 hvm.symm (hgood _ (List.mem_cons_of_mem _ List.mem_cons_self)) hini
  have hU' : vx_Zq Bundle.tN "UNASSIGNED_STACK" Bundle.steD A s' s'.heap := by rw [hhp]; exact vx_Zq.moved hW0.alike (hU.kept hS.2.1)
  have hN' : vx_Zq Bundle.tN "SUPPRESSED_SENTINEL" Bundle.listD A s' s'.heap := by rw [hhp]; exact vx_Zq.moved hW0.alike (hN.kept hS.2.1)
  have h : ∀ w ∈ Bundle.ownAtoms own ic cls names, w.before args s' = true := vx_own hat' (vx_isRefq hU'.1) (vx_isRefq hN'.1) hU'.2.word hN'.2.word
  have hown' : s'.vm.findClass own = some m.cls := by rw [hvm]; exact hown
  have hins : (Cond.instantiable cls 6).before args s' = true := h _ (by simp [Bundle.ownAtoms])
  obtain ⟨vm₁, cX, kX, hfX, hkX, -, -, X₁, st1⟩ := Y.newCold hexec (own := own) (C := cls) (index := ik) (n := 6) hown' hk' hins hini'
    (g := F0 m pc ls rest) rfl (by rw [hb]; exact d0) (Nat.le_refl _) (Nat.le_refl _)
  generalize hT1 : (T.setVm vm₁).pushCell { cls := cX, slots := kX.instanceTypes.map defaultValue, vm := .none } = T1 at X₁ st1
  have hcat : (Value.ref T.heap.size).category = 1 := rfl
  have hcellA : T1.heap[T.heap.size]? = some (freshCell cX kX) := by rw [← hT1]; exact State.heap_pushCell_size _ _
  have d3' : decode c.code (pc + 3) = .ok (.dup, 1) := by rw [hb]; exact d3
  have d4' : decode c.code (pc + 4) = .ok (.ldc is, 2) := by rw [hb]; exact d4
  have hstr' : vk_R own is text sa s' := vk_R.warm hW0 hstr
  obtain ⟨U, hsteps, hrun, hend, hW, hsame, ce, hce, hO⟩ := X₁.ctorThrowS hexec htr (own := own) (cls := cls) (names := names) (ic := ic) hown' hcls hnames h (fun x hx => nomatch hx) hfX hkX hcellA (by rw [hhp, hT]; exact Nat.le_refl _) (msg := .ref sa) rfl
    (g := { method := m, pc := pc + 6, locals := ls, stack := .ref sa :: .ref T.heap.size :: .ref T.heap.size :: rest, locked := none }) rfl hsize rfl rfl (rest := rest) rfl
    (by rw [hb]; exact d6) (by rw [hb]; exact d9) hout hRframes (by simp only [List.map_cons, List.sum_cons, hcat]; omega) hlocks
  obtain ⟨f1, f2⟩ := vx_frame hsame
  rw [hhp] at f1 f2
  have hWs : s.WarmedH U.vm := State.WarmedH.trans hW0 hW
  have hcl : s.vm.findClass cls = some ce.cls := by
    have h9 := hO.cls
    rw [hvm] at h9
    exact h9
  have hall : s.sameButNew ({ U with vm := s.vm } : State) locs mc ms := by
    subst hA
    obtain ⟨e1, e2⟩ := hsame
    rw [State.setFrames_setFrames] at e1
    have h2 : (T.setVm s.vm).sameButNew ({ U with vm := s.vm } : State) [] (0 + 1) (0 + 6) := ⟨e1, e2⟩
    have h3 := X.same.trans h2
    rw [List.append_nil] at h3
    exact h3.mono hc hs
  refine ⟨U, ?_, .threw T.heap.size, hrun, hend, Or.inr ⟨T.heap.size, rfl, cls, ce, locs, hx U hWs.alike f1 (fun q hq => f2 q hq (fun z hz => nomatch hz)), hce, hO.vm, hcl, hWs, hall, hf⟩⟩
  refine st1 _ ?_
  show Steps p.tables e below (T1.setTop { method := m, pc := pc + 3, locals := ls, stack := .ref T.heap.size :: rest, locked := none }) _
  jvm_step X₁.here [X₁.here.top, hexec, d3', Value.category]
  exact X₁.ldcString hexec (own := own) (text := text) (index := is) (a := sa) hown' hstr'.1 hstr'.2
    (g := { method := m, pc := pc + 4, locals := ls, stack := .ref T.heap.size :: .ref T.heap.size :: rest, locked := none }) rfl d4' _ hsteps
/-- 'throw new E("text")', the text by a wide index -/
theorem vx_throwSW {cc : ByteArray} {pc : Nat} (hexec : p.tables.exec = Jvm.exec) (hb : c.code = cc) (hl : l.stackTraces = false) {own cls text : String} {names : List String} {ik is ic mc ms sa : Nat} {A : Nat → Prop}
    (hown : s.vm.findClass own = some m.cls) (hcls : Bundle.fit cls = true) (hnames : ∀ n ∈ names, Bundle.fit n = true)
    (hk : (Cond.classLink own ik cls).before args s = true) (hini : (Cond.initialized cls).before args s = true) (hstr : vk_R own is text sa s) (hat : ∀ w ∈ vx_atS own ic cls names, w.before args s = true)
    (hgood : ∀ w ∈ Cond.classLink own ik cls :: Cond.initialized cls :: vx_atS own ic cls names, vx_ot w = true)
    (hU : vx_Zq Bundle.tN "UNASSIGNED_STACK" Bundle.steD A s s.heap) (hN : vx_Zq Bundle.tN "SUPPRESSED_SENTINEL" Bundle.listD A s s.heap) (hS : va_S A s.heap H locs) (hsize : ls.size = c.maxLocals)
    (d0 : decode cc pc = .ok (.new ik, 3)) (d3 : decode cc (pc + 3) = .ok (.dup, 1)) (d4 : decode cc (pc + 4) = .ok (.ldc_w is, 3)) (d7 : decode cc (pc + 7) = .ok (.invokespecial ic, 3)) (d10 : decode cc (pc + 10) = .ok (.athrow, 1))
    (hout : ∀ x ∈ c.exceptionTable.toList, covers x (pc + 10) = false)
    (hRframes : names.length + 3 < R.frames) (hRlocals : (rest.map fun v => v.category).sum + (13 * (names.length + 1) + 43) ≤ R.locals) (hRcells : cells + 1 ≤ R.cells) (hRslots : slots + 6 ≤ R.slots) (hlocks : meth.locks = false)
    (hx : ∀ t : State, s.vm.Alike t.vm → H.size ≤ t.heap.size → (∀ q : Nat, q < H.size → t.heap[q]? = H[q]?) → XC cls s t)
    (hf : ∀ z ∈ locs, free z.base) (hc : cells + 1 ≤ mc) (hs : slots + 6 ≤ ms) :
    W p l e R s m args below meth c H locs cells slots (vx_MQ below Qc XC args s mc ms free) (F0 m pc ls rest) := by
  intro T hT X
  have htr : e.platform.stackTraces = false := (show e.platform.stackTraces = l.stackTraces by rw [X.admits.platform]).trans hl
  have Y := vx_rebase X (R' := { frames := R.frames, locals := R.locals, cells := 1, slots := 6 }) (Nat.le_refl _) (Nat.le_refl _) hRcells hRslots
  obtain ⟨s', hA⟩ : ∃ z, z = (T.setVm s.vm).setFrames (.invoking m args :: below) := ⟨_, rfl⟩
  rw [← hA] at Y
  have hvm : s'.vm = s.vm := by rw [hA]; rfl
  have hhp : s'.heap = H := by rw [hA]; exact hT
  have hW0 : s.WarmedH s'.vm := by rw [hvm]; exact State.WarmedH.refl s
  have hat' : ∀ w ∈ vx_atS own ic cls names, w.before args s' = true := fun w hw => vx_ot_at hW0 hvm.symm (hgood w (List.mem_cons_of_mem _ (List.mem_cons_of_mem _ hw))) (hat w hw)
  have hk' : (Cond.classLink own ik cls).before args s' = true := vx_ot_at hW0 hvm.symm (hgood _ List.mem_cons_self) hk
  have hini' : (Cond.initialized cls).before args s' = true := vx_ot_at hW0 hvm.symm (hgood _ (List.mem_cons_of_mem _ List.mem_cons_self)) hini
  have hU' : vx_Zq Bundle.tN "UNASSIGNED_STACK" Bundle.steD A s' s'.heap := by rw [hhp]; exact vx_Zq.moved hW0.alike (hU.kept hS.2.1)
  have hN' : vx_Zq Bundle.tN "SUPPRESSED_SENTINEL" Bundle.listD A s' s'.heap := by rw [hhp]; exact vx_Zq.moved hW0.alike (hN.kept hS.2.1)
  have h : ∀ w ∈ Bundle.ownAtoms own ic cls names, w.before args s' = true := vx_own hat' (vx_isRefq hU'.1) (vx_isRefq hN'.1) hU'.2.word hN'.2.word
  have hown' : s'.vm.findClass own = some m.cls := by rw [hvm]; exact hown
  have hins : (Cond.instantiable cls 6).before args s' = true := h _ (by simp [Bundle.ownAtoms])
  obtain ⟨vm₁, cX, kX, hfX, hkX, -, -, X₁, st1⟩ := Y.newCold hexec (own := own) (C := cls) (index := ik) (n := 6) hown' hk' hins hini'
    (g := F0 m pc ls rest) rfl (by rw [hb]; exact d0) (Nat.le_refl _) (Nat.le_refl _)
  generalize hT1 : (T.setVm vm₁).pushCell { cls := cX, slots := kX.instanceTypes.map defaultValue, vm := .none } = T1 at X₁ st1
  have hcat : (Value.ref T.heap.size).category = 1 := rfl
  have hcellA : T1.heap[T.heap.size]? = some (freshCell cX kX) := by rw [← hT1]; exact State.heap_pushCell_size _ _
  have d3' : decode c.code (pc + 3) = .ok (.dup, 1) := by rw [hb]; exact d3
  have d4' : decode c.code (pc + 4) = .ok (.ldc_w is, 3) := by rw [hb]; exact d4
  have hstr' : vk_R own is text sa s' := vk_R.warm hW0 hstr
  obtain ⟨U, hsteps, hrun, hend, hW, hsame, ce, hce, hO⟩ := X₁.ctorThrowS hexec htr (own := own) (cls := cls) (names := names) (ic := ic) hown' hcls hnames h (fun x hx => nomatch hx) hfX hkX hcellA (by rw [hhp, hT]; exact Nat.le_refl _) (msg := .ref sa) rfl
    (g := { method := m, pc := pc + 7, locals := ls, stack := .ref sa :: .ref T.heap.size :: .ref T.heap.size :: rest, locked := none }) rfl hsize rfl rfl (rest := rest) rfl
    (by rw [hb]; exact d7) (by rw [hb]; exact d10) hout hRframes (by simp only [List.map_cons, List.sum_cons, hcat]; omega) hlocks
  obtain ⟨f1, f2⟩ := vx_frame hsame
  rw [hhp] at f1 f2
  have hWs : s.WarmedH U.vm := State.WarmedH.trans hW0 hW
  have hcl : s.vm.findClass cls = some ce.cls := by
    have h9 := hO.cls
    rw [hvm] at h9
    exact h9
  have hall : s.sameButNew ({ U with vm := s.vm } : State) locs mc ms := by
    subst hA
    obtain ⟨e1, e2⟩ := hsame
    rw [State.setFrames_setFrames] at e1
    have h2 : (T.setVm s.vm).sameButNew ({ U with vm := s.vm } : State) [] (0 + 1) (0 + 6) := ⟨e1, e2⟩
    have h3 := X.same.trans h2
    rw [List.append_nil] at h3
    exact h3.mono hc hs
  refine ⟨U, ?_, .threw T.heap.size, hrun, hend, Or.inr ⟨T.heap.size, rfl, cls, ce, locs, hx U hWs.alike f1 (fun q hq => f2 q hq (fun z hz => nomatch hz)), hce, hO.vm, hcl, hWs, hall, hf⟩⟩
  refine st1 _ ?_
  show Steps p.tables e below (T1.setTop { method := m, pc := pc + 3, locals := ls, stack := .ref T.heap.size :: rest, locked := none }) _
  jvm_step X₁.here [X₁.here.top, hexec, d3', Value.category]
  exact X₁.ldcStringW hexec (own := own) (text := text) (index := is) (a := sa) hown' hstr'.1 hstr'.2
    (g := { method := m, pc := pc + 4, locals := ls, stack := .ref T.heap.size :: .ref T.heap.size :: rest, locked := none }) rfl d4' _ hsteps
end Ends
section Bodies
variable {l : Launch}
theorem vx_ofW {y : MethodName} {ws ws' : List Cond} {rm : Room} {Pc : Array Value → State → Prop} {Qc : Array Value → State → Outcome → State → Prop} {XC : String → State → State → Prop} {mc ms : Nat} {free : Addr → Prop} {cc : ByteArray} {maxL : Nat} {ret : Option FieldType}
    (hy : plainName y.cls = true) (hw : ws = Cond.code y cc maxL ret :: ws')
    (body : ∀ p e s m args below meth c s₁, BodyLoose p l y (headSpec ws rm) cc maxL ret e s m args below meth c s₁ → c.maxLocals = maxL → (∀ x ∈ c.exceptionTable.toList, False) → Pc args s →
      W p l e (headSpec ws rm).room s m args below meth c s.heap [] 0 0 (vx_MQ below Qc XC args s mc ms free) (entryFrame m args maxL)) : vx_Met l y ws rm Pc Qc XC mc ms free := by
  refine MetFree.of_bodyS (code := cc) (maxLocals := maxL) (ret := ret) hy ?_ ?_
  · intro args s m h hn
    obtain ⟨meth, c, h1, h2, h3, h4, h5, h6, -, -⟩ := Cond.code_spec hn (atoms_spec (ws := ws) h _ (by rw [hw]; exact List.mem_cons_self))
    exact ⟨meth, c, h1, h2, h3, h4, h5, h6⟩
  · intro p e s m args below meth c s₁ B hml hP _
    have hh0 : s₁.heap = s.heap := by rw [B.state]; rfl
    have ht : ∀ x ∈ c.exceptionTable.toList, False := by
      obtain ⟨meth9, c9, h1, h2, -, -, -, -, h7, -⟩ := Cond.code_spec B.named (atoms_spec (ws := ws) B.pre _ (by rw [hw]; exact List.mem_cons_self))
      cases Option.some.inj (h1.symm.trans B.method)
      cases Option.some.inj (h2.symm.trans (Stand.of_body B).code)
      intro x hx
      rw [Array.isEmpty_iff.mp h7] at hx
      cases hx
    obtain ⟨t, a1, o, b1, b2, b3⟩ := body p e s m args below meth c s₁ B hml ht hP s₁ hh0 (Stand.of_body B)
    exact ⟨t, o, a1, b1, b2, b3⟩
/-- the table of a body with handlers -/
theorem vx_table {p : Program} {x y : MethodName} {S : Spec} {cc bytes : ByteArray} {maxL maxL' : Nat} {ret ret' : Option FieldType} {e : Env} {s s₁ : State} {m : MethodId} {args : Array Value} {below : List Frame} {meth : Method} {c : Code} {hh : List (Nat × Nat × Nat × Nat)}
    (B : BodyLoose p l y S cc maxL ret e s m args below meth c s₁) (h : (Cond.codeWith y bytes maxL' ret' hh).before args s = true) : c.exceptionTable.toList = tableOf hh := by
  obtain ⟨m9, meth9, c9, hn9, h1, h2, -, -, h6, -⟩ := Cond.codeWith_spec h
  cases Option.some.inj (hn9.symm.trans B.named)
  cases Option.some.inj (h1.symm.trans B.method)
  cases Option.some.inj (h2.symm.trans (Stand.of_body B).code)
  rw [← h6, table_eq]
end Bodies
end VXA
/-! ===== END ===== -/
/-! ===== BEGIN a static call of a method with an exception table ===== -/
section VXS
variable {p : Program} {l : Launch} {e : Env} {R : Room} {s : State} {m : MethodId} {args : Array Value} {below : List Frame} {meth : Method} {c : Code} {T : State} {H : Heap} {locs : List Loc} {cells slots : Nat}
abbrev vx_CSW (R : Room) (s : State) (args : Array Value) (own : String) (index : Nat) (y : MethodName) (bytes : ByteArray) (maxL : Nat) (ret : Option FieldType) (hh : List (Nat × Nat × Nat × Nat)) (ws : List Cond) (rm : Room) (mc ms n : Nat) : Prop :=
  (rm.cells = mc ∧ rm.slots = ms ∧ rm.frames + 1 ≤ R.frames ∧ 8 + (maxL + 11) + rm.locals ≤ R.locals ∧ (∀ w ∈ ws, ∀ (a' : Array Value) (U : State), s.WarmedH U.vm → w.before a' U = true) ∧ Cond.codeWith y bytes maxL ret hh ∈ ws) ∧
  (Cond.codeWith y bytes maxL ret hh).before args s = true ∧ (Cond.initialized y.cls).before args s = true ∧ (y.cls ≠ "java/lang/invoke/MethodHandle" ∧ y.cls ≠ "java/lang/invoke/VarHandle") ∧
  (∀ sig, parseMethodDescriptor y.desc = some sig → n = sig.parameters.length) ∧ (Cond.methodLink own index y).before args s = true ∧ (Cond.static y).before args s = true
theorem vx_cwSW {own : String} {index maxL mc ms : Nat} {y : MethodName} {bytes : ByteArray} {ret : Option FieldType} {hh : List (Nat × Nat × Nat × Nat)} {Ts ws ws' : List Cond} {rm : Room} (n : Nat) (ht : ∀ w ∈ Ts, w.before args s = true) (hT : GoodIn Ts (va_wsS own index y ws)) (hw : ws = Cond.codeWith y bytes maxL ret hh :: ws') (hrc : rm.cells = mc) (hrs : rm.slots = ms)
    (hd : y.cls ≠ "java/lang/invoke/MethodHandle" ∧ y.cls ≠ "java/lang/invoke/VarHandle" ∧ (parseMethodDescriptor y.desc).map (fun d => d.parameters.length) = some n) (hR : rm.frames + 1 ≤ R.frames ∧ 8 + (maxL + 11) + rm.locals ≤ R.locals) :
    vx_CSW R s args own index y bytes maxL ret hh ws rm mc ms n := by
  have ok : ∀ w ∈ va_wsS own index y ws, w.before args s = true := fun w h => ht w (hT w h).1
  have hG : GoodIn Ts ws := fun w h => hT w (by unfold va_wsS; exact List.mem_append_right _ h)
  have hc : Cond.codeWith y bytes maxL ret hh ∈ ws := by rw [hw]; exact List.mem_cons_self
  refine ⟨⟨hrc, hrs, hR.1, hR.2, pay_in ht hG, hc⟩, ht _ (hG _ hc).1, ok _ (by simp [va_wsS]), ⟨hd.1, hd.2.1⟩, fun sig h => ?_, ok _ (by simp [va_wsS]), ok _ (by simp [va_wsS])⟩
  have h2 := hd.2.2
  rw [h] at h2
  exact (Option.some.inj h2).symm
theorem vx_callSW (X : Stand p l e R s m args below meth c T locs cells slots) (hexec : p.tables.exec = Jvm.exec) {own : String} {index : Nat} {y : MethodName} {bytes : ByteArray} {maxL : Nat} {ret : Option FieldType} {hh : List (Nat × Nat × Nat × Nat)}
    (hown : s.vm.findClass own = some m.cls) (hlink : (Cond.methodLink own index y).before args s = true) (hstat : (Cond.static y).before args s = true) (hinit : (Cond.initialized y.cls).before args s = true)
    (hcode : (Cond.codeWith y bytes maxL ret hh).before args s = true) (hy : y.cls ≠ "java/lang/invoke/MethodHandle" ∧ y.cls ≠ "java/lang/invoke/VarHandle")
    {W9 : Nat} {Pre : Pt → Array Value → Prop} {Post : Pt → Array Value → Option Value → Pt → Prop} (hK : Back l R p e below s args y 3 W9 Pre Post)
    {g : JFrame} (hg : g.method = m) (hsize : g.locals.size = c.maxLocals) {argsL rest : List Value} (hlen : ∀ sig, parseMethodDescriptor y.desc = some sig → argsL.length = sig.parameters.length)
    (hstack : g.stack = argsL.reverse ++ rest) (hW : 2 * g.monitorRoom + (rest.map fun v => v.category).sum ≤ W9) (hdg : decode c.code g.pc = .ok (.invokestatic index, 3))
    (hpre : ∀ vm₁, s.WarmedH vm₁ → Pre ⟨T.setVm vm₁, locs, cells, slots⟩ argsL.toArray) :
    ∃ (v : Option Value) (vm₁ : Vm) (B : Pt), s.WarmedH vm₁ ∧ Stand p l e R s m args below meth c B.U B.locs B.cells B.slots ∧ Post ⟨T.setVm vm₁, locs, cells, slots⟩ argsL.toArray v B ∧
      ∀ target, Steps p.tables e below (B.U.setTop { g with pc := g.pc + 3, stack := v.toList ++ rest }) target → Steps p.tables e below (T.setTop g) target := by
  obtain ⟨mk, methM, cM, hnamed, hmethM, -, -, -, -, -, -, hsigM⟩ := Cond.codeWith_spec hcode
  have hstatic : methM.isStatic = true := Cond.static_spec hnamed hmethM hstat
  obtain ⟨kP, hkP, -⟩ := className_of_methodNamed hnamed
  have hinitP : kP.init = .initialized := Cond.initialized_spec (findClass_of_methodNamed hnamed) hkP hinit
  obtain ⟨vm₁, X₁, hstep₁⟩ := X.invokestatic hexec hown hlink hnamed hmethM hstatic hkP hinitP hy (g := g) hg (argsL := argsL) (rest := rest) (hlen _ hsigM) hstack hdg
  obtain ⟨v, B, X', hpost, hsteps⟩ := hK m meth c ⟨T.setVm vm₁, locs, cells, slots⟩ { g with stack := rest } (.invokestatic index) mk argsL.toArray X₁ hg hsize hdg hW (X₁.named hnamed) (hpre vm₁ X₁.warmed)
  exact ⟨v, vm₁, B, X₁.warmed, X', hpost, fun target h => hstep₁ _ fun acts => by rw [doInvoke_state]; exact hsteps.trans h⟩
theorem vx_runSW {y : MethodName} {bytes cc : ByteArray} {maxL nL mc ms n index : Nat} {ret : Option FieldType} {hh : List (Nat × Nat × Nat × Nat)} {ws : List Cond} {rm : Room} {Pc : Array Value → State → Prop} {Qc : Array Value → State → Outcome → State → Prop} {free : Addr → Prop} {Ts : List Cond} {own : String} {As rest : List Value} {g : JFrame}
    (S : CallFix p m c cc nL s args Ts own) (hM : Met l y ws rm Pc Qc mc ms free) (cw : vx_CSW R s args own index y bytes maxL ret hh ws rm mc ms n) (hp : PreS s H Pc As)
    (hg : g.method = m) (hn : As.length = n) (hsize : g.locals.size = nL) (hstack : g.stack = As.reverse ++ rest) (hW : 2 * g.monitorRoom + (rest.map fun v => v.category).sum ≤ 8) (hdg : decode cc g.pc = .ok (.invokestatic index, 3)) (hf : cells + mc ≤ R.cells ∧ slots + ms ≤ R.slots) :
    va_Run p l e R s m args below meth c H locs cells slots mc ms g rest (Qc As.toArray) (free) := by
  obtain ⟨⟨hrc, hrs, hfr, hlo, hws, hcw⟩, hcode, hini, hy, hlen, hl, hstt⟩ := cw
  have hK : Back l R p e below s args y 3 8 (PreOf R mc ms Pc) (PostOf Qc mc ms free) := va_backW (hh := hh) (bytes := bytes) (maxL := maxL) (ret := ret) hM hp.1 hrc hrs hfr hlo hws hcw (fun a' U hW => word_at hW (Or.inl (by first | rfl | simp [Cond.onTables, Cond.keeps, Cond.steady])) hini)
  obtain ⟨hx, hb, hml, ho, -⟩ := S
  intro T hT X
  obtain ⟨v, vm₁, ⟨U', l2, c2, s2⟩, hW₁, X', ⟨g', mk, t, L, e1, e2, hq, h1, hL, h2, h3⟩, st⟩ := vx_callSW X hx (hh := hh) (bytes := bytes) (maxL := maxL) (ret := ret) ho hl hstt hini hcode hy hK hg (hsize.trans hml.symm) (argsL := As) (rest := rest) (fun sig h => hn.trans (hlen sig h)) hstack hW (by rw [hb]; exact hdg)
    (fun vm₁ hW₁ => ⟨hf.1, hf.2, hp.2 (T.setVm vm₁) hT hW₁⟩)
  dsimp only [Pt.U, Pt.locs, Pt.cells, Pt.slots] at X' e1 e2 h1 h2 h3 st
  subst h1; subst h2; subst h3
  exact ⟨v, (T.setVm vm₁).calling g' mk As.toArray, t, U', L, hT, X', hL, e1, e2, hq, st⟩
/-- not caught here, past rows that name other classes: it goes on to the caller -/
theorem vx_outP {p : Program} {l : Launch} {e : Env} {R : Room} {s : State} {m : MethodId} {args : Array Value} {below : List Frame} {meth : Method} {c : Code} {H : Heap} {locs : List Loc} {cells slots : Nat} {free : Addr → Prop} {ls : Array Slot} {rest : List Value} {Qc : Array Value → State → Outcome → State → Prop} {XC : String → State → State → Prop}
    {pc : Nat} {own E : String} {ce : Cell} {q : Addr} {mc ms : Nat} (hown : s.vm.findClass own = some m.cls) (hlocks : meth.locks = false)
    (hpass : ∀ z ∈ c.exceptionTable.toList, covers z pc = false ∨ (z.catchType ≠ 0 ∧ ∃ nm : String, (Cond.classLink own z.catchType nm).before args s = true ∧ va_Nc E nm s)) (hcell : H[q]? = some ce) (hv : ce.vm = .none) (hcl : s.vm.findClass E = some ce.cls)
    (hx : ∀ t : State, t.heap = H → s.vm.Alike t.vm → XC E s t) (hf : ∀ z ∈ locs, free z.base) (hc : cells ≤ mc) (hs : slots ≤ ms) :
    vx_W p l e R s m args below meth c H locs cells slots (vx_MQ below Qc XC args s mc ms free) (F0 m pc ls rest) q := by
  intro T hT X
  have hpl : e.platform.magicAccessors = ({} : Platform).magicAccessors := by rw [X.admits.platform]
  obtain ⟨vm', hW', X', st⟩ := X.outThrough hlocks q (g := F0 m pc ls rest) rfl rfl rfl (cell := ce) (by rw [hT]; exact hcell) (by rw [hv]; rfl)
    (by obtain ⟨k9, h9, -⟩ := Vm.findClass_spec hcl; exact ⟨k9, h9⟩) (fun z hz => by
      rcases hpass z hz with h | ⟨hz0, nm, hl1, hn1⟩
      · exact Or.inl h
      · obtain ⟨c6, hc6, hcl6⟩ := Cond.classLink_spec hown hl1 e.platform hpl
        obtain ⟨a8, b8, h1, h2, h3⟩ := hn1
        cases Option.some.inj (h1.symm.trans hcl)
        cases Option.some.inj (h2.symm.trans hc6)
        exact Or.inr ⟨hz0, _, hcl6, h3⟩)
  obtain ⟨g₀, hfr⟩ := X'.frames_eq
  have hcell9 : ((T.setVm vm').setFrames (.throwing q :: below)).heap[q]? = some ce := by
    show T.heap[q]? = some ce
    rw [hT]; exact hcell
  have hend : Ended ((T.setVm vm').setFrames (.throwing q :: below)) below (.threw q) := State.frames_setFrames _ (State.cur_lt_of_frames hfr)
  refine ⟨(T.setVm vm').setFrames (.throwing q :: below), ?_, .threw q, X'.here.running, hend, Or.inr ⟨q, rfl, E, ce, locs, hx _ hT (X'.ends _).1.alike, hcell9, hv, hcl, (X'.ends _).1, (X'.ends _).2.mono hc hs, hf⟩⟩
  rw [X.pushThrowing_eq]
  exact st
/-- a thing of a world lies in the heap -/
theorem vx_lt {D : va_G} {cl : List vw_C} {ws : va_W} {H1 : Heap} (h : va_P D cl ws H1) {k : Nat} {q : Nat × va_E} (hk : ws[k]? = some q) : q.1 < H1.size := (h k q hk).lt
end VXS
/-! ===== END ===== -/
/-! ===== BEGIN methods with a table of their own: called by a name, returning or throwing ===== -/
section VXH
/-! vx_backW, vx_callVX, vx_callSX, vx_callVW, vx_runVW, vx_runVX, vx_runSX, vx_ofWH follow the same proofs as their sisters above (Free/Laws.lean, Shelf42/LK1.lean); vx_outP calls Shelf42/NT130.lean (outThrough). -/
section
variable {l : Launch} {R : Room} {p : Program} {e : Env} {below : List Frame} {s : State} {sargs : Array Value} {y : MethodName} {len W9 : Nat}
theorem vx_backW {ws : List Cond} {rm : Room} {Pc : Array Value → State → Prop} {Qc : Array Value → State → Outcome → State → Prop} {XC : String → State → State → Prop} {mc ms : Nat} {free : Addr → Prop} {bytes : ByteArray} {maxL : Nat} {ret : Option FieldType} {hh : List (Nat × Nat × Nat × Nat)}
    (hM : vx_Met l y ws rm Pc Qc XC mc ms free) (hblind : FrameBlind Pc) (hrc : rm.cells = mc) (hrs : rm.slots = ms)
    (hframes : rm.frames + 1 ≤ R.frames) (hlocals : W9 + (maxL + 11) + rm.locals ≤ R.locals)
    (hws : ∀ w ∈ ws, ∀ a' U, s.WarmedH U.vm → w.before a' U = true) (hcode : Cond.codeWith y bytes maxL ret hh ∈ ws) (hinit : ∀ a' U, s.WarmedH U.vm → (Cond.initialized y.cls).before a' U = true) :
    vx_Back l R p e below s sargs y len W9 (PreOf R mc ms Pc) (PostOf Qc mc ms free) (vx_Post XC mc ms free) := by
  intro m meth c A g ig mk a X hg hsize hdg hW hn hp
  have h1 : (headSpec ws rm).pre.before a A.U = true := atoms_intro fun w hw => hws w hw _ _ X.warmed
  have h2 : (Cond.codeWith y bytes maxL ret hh).before a A.U = true := hws _ hcode _ _ X.warmed
  have h3 : (Cond.initialized y.cls).before a A.U = true := hinit _ _ X.warmed
  have h4 : A.cells + (headSpec ws rm).room.cells ≤ R.cells := by rw [show (headSpec ws rm).room.cells = mc from hrc]; exact hp.1
  have h5 : A.slots + (headSpec ws rm).room.slots ≤ R.slots := by rw [show (headSpec ws rm).room.slots = ms from hrs]; exact hp.2.1
  have hPc : Pc a (A.U.calling g mk a) := hblind _ _ _ _ hp.2.2
  obtain ⟨U, Ls, c0, s0⟩ := A
  dsimp only [Pt.U, Pt.locs, Pt.cells, Pt.slots] at h1 h2 h3 h4 h5 X hn hPc ⊢
  obtain ⟨m9, methY, cY, hn9, hmY, hcY, -, hlY, -⟩ := Cond.codeWith_spec h2
  cases Option.some.inj (hn9.symm.trans hn)
  obtain ⟨kY, hkY, -⟩ := className_of_methodNamed hn
  have hinitY : kY.init = .initialized := Cond.initialized_spec (findClass_of_methodNamed hn) hkY h3
  have h : At U g.method c below := by rw [hg]; exact X.here
  have hlocals9 : W9 + (maxL + 11) + (headSpec ws rm).room.locals ≤ R.locals := hlocals
  have happ : (headSpec ws rm).appliesLoose y e.platform (U.calling g mk a) = true :=
    Spec.appliesLoose_calling (g := g) h hdg hn hkY hinitY
      (X.room_calling (g := g) (R' := (headSpec ws rm).room) hsize hmY hcY hframes (by rw [hlY]; omega) h4 h5) h1
  obtain ⟨mid, hmid⟩ := h.above
  have hfr : (U.setTop g).frames = (.java g :: mid) ++ below := by rw [State.frames_setTop' g h.top, hmid]; rfl
  obtain ⟨o, s₂, hsteps, -, hend, hq⟩ := Steps.callFree hM p X.admits X.cas X.clock (acts := []) hfr happ hPc trivial
  have hq' : vx_Q Qc XC mc ms free a (U.calling g mk a) o s₂ := hq
  rw [State.frames_setTop' g h.top] at hend
  obtain ⟨g₀, hg0⟩ := Option.isSome_iff_exists.mp h.top
  obtain ⟨r, hr⟩ := State.topJava?_eq_some.mp hg0
  have hr' : (({ U with heap := s₂.heap, slotsUsed := s₂.slotsUsed } : State).setVm s₂.vm).frames = .java g₀ :: r := hr
  rcases hq' with ⟨hqc, L, hfe, hL⟩ | ⟨q, rfl, E, ce, L, hx, hce, hcv, hcl, hW₂, hsm, hL⟩
  · obtain ⟨⟨v, rfl⟩, hW₂, e2, q2, q3, q4, q5, q6⟩ := id hfe
    have e3 : s₂ = ({ (U.calling g mk a).setFrames s₂.frames with heap := s₂.heap, slotsUsed := s₂.slotsUsed } : State).setVm s₂.vm := by
      have : s₂ = ({ s₂ with vm := (U.calling g mk a).vm } : State).setVm s₂.vm := rfl
      rw [e2] at this
      exact this
    obtain ⟨c₂, i₂, len₂, hc₂, hd₂, hf₂⟩ := hend
    have hW' : U.WarmedH s₂.vm := hW₂
    have hcc : c₂ = c := by
      have h1 : s₂.code? g.method = U.code? g.method := by
        rw [State.code?_eq, State.code?_eq, hW'.alike.method?]
      exact Option.some.inj (hc₂.symm.trans (h1.trans h.code))
    subst hcc
    have hlen : len₂ = len := by rw [hdg] at hd₂; cases hd₂; rfl
    subst hlen
    have hs₂ : s₂ = (({ U with heap := s₂.heap, slotsUsed := s₂.slotsUsed } : State).setVm s₂.vm).setTop { g with pc := g.pc + len₂, stack := v.toList ++ g.stack } := by
      refine e3.trans ?_
      rw [hf₂, State.calling_eq h.top, State.setFrames_setFrames, State.setTop_of_frames _ hr', hr]
      rfl
    have hsame : U.sameButNew ({ U with heap := s₂.heap, slotsUsed := s₂.slotsUsed } : State) L mc ms := by
      refine ⟨?_, q2, q3, q4, q5, q6⟩
      obtain ⟨t, ht, -⟩ := State.frames_cons hr
      show ({ U with heap := s₂.heap, slotsUsed := s₂.slotsUsed } : State) = { U.setFrames U.frames with heap := s₂.heap, slotsUsed := s₂.slotsUsed }
      rw [State.setFrames_self ht]
    subst hg
    refine Or.inl ⟨v, ⟨(({ U with heap := s₂.heap, slotsUsed := s₂.slotsUsed } : State).setVm s₂.vm), Ls ++ L, c0 + mc, s0 + ms⟩,
      ⟨X.admits, X.cas, X.clock, X.frames, X.room, X.hears, X.method, X.code, (X.here.setHeapUsed s₂.heap s₂.slotsUsed).setVm hW'.alike, X.tail, State.WarmedH.trans X.warmed hW', X.limits, X.bytes, X.same.trans (hsame.setVm s.vm)⟩,
      ⟨g, mk, s₂, L, rfl, rfl, hqc, rfl, hL, rfl, rfl⟩, ?_⟩
    show Steps p.tables e below _ ((({ U with heap := s₂.heap, slotsUsed := s₂.slotsUsed } : State).setVm s₂.vm).setTop { g with pc := g.pc + len₂, stack := v.toList ++ g.stack })
    rw [← hs₂]
    exact hsteps
  · obtain ⟨e2, q2, q3, q4, q5, q6⟩ := id hsm
    have e3 : s₂ = ({ (U.calling g mk a).setFrames s₂.frames with heap := s₂.heap, slotsUsed := s₂.slotsUsed } : State).setVm s₂.vm := by
      have : s₂ = ({ s₂ with vm := (U.calling g mk a).vm } : State).setVm s₂.vm := rfl
      rw [e2] at this
      exact this
    have hf₂ : s₂.frames = .throwing q :: .java g :: U.frames.tail := hend
    have hW' : U.WarmedH s₂.vm := hW₂
    have hs₂ : s₂ = ((({ U with heap := s₂.heap, slotsUsed := s₂.slotsUsed } : State).setVm s₂.vm).setTop g).pushFrame (.throwing q) := by
      refine e3.trans ?_
      rw [hf₂, State.calling_eq h.top, State.setFrames_setFrames, State.pushFrame, State.frames_setTop _ hr', State.setTop_of_frames _ hr', State.setFrames_setFrames, hr]
      rfl
    have hsame : U.sameButNew ({ U with heap := s₂.heap, slotsUsed := s₂.slotsUsed } : State) L mc ms := by
      refine ⟨?_, q2, q3, q4, q5, q6⟩
      obtain ⟨t, ht, -⟩ := State.frames_cons hr
      show ({ U with heap := s₂.heap, slotsUsed := s₂.slotsUsed } : State) = { U.setFrames U.frames with heap := s₂.heap, slotsUsed := s₂.slotsUsed }
      rw [State.setFrames_self ht]
    subst hg
    refine Or.inr ⟨q, ⟨(({ U with heap := s₂.heap, slotsUsed := s₂.slotsUsed } : State).setVm s₂.vm), Ls ++ L, c0 + mc, s0 + ms⟩,
      ⟨X.admits, X.cas, X.clock, X.frames, X.room, X.hears, X.method, X.code, (X.here.setHeapUsed s₂.heap s₂.slotsUsed).setVm hW'.alike, X.tail, State.WarmedH.trans X.warmed hW', X.limits, X.bytes, X.same.trans (hsame.setVm s.vm)⟩,
      ⟨g, mk, s₂, L, E, ce, rfl, rfl, hx, hce, hcv, hcl, rfl, hL, rfl, rfl⟩, ?_⟩
    show Steps p.tables e below _ (((({ U with heap := s₂.heap, slotsUsed := s₂.slotsUsed } : State).setVm s₂.vm).setTop g).pushFrame (.throwing q))
    rw [← hs₂]
    exact hsteps
end
variable {p : Program} {l : Launch} {e : Env} {R : Room} {s : State} {m : MethodId} {args : Array Value} {below : List Frame} {meth : Method} {c : Code} {T : State} {H : Heap} {locs : List Loc} {cells slots : Nat}
theorem vx_callVX (X : Stand p l e R s m args below meth c T locs cells slots) (hexec : p.tables.exec = Jvm.exec) {own C : String} {index : Nat} {y : MethodName} {bytes : ByteArray} {maxL : Nat} {ret : Option FieldType} {hh : List (Nat × Nat × Nat × Nat)}
    (hown : s.vm.findClass own = some m.cls) (hlink : (Cond.methodLink own index y).before args s = true) (hinst : (Cond.instanceMethod y).before args s = true) (hsel : (Cond.selects C y y).before args s = true)
    (hcode : (Cond.codeWith y bytes maxL ret hh).before args s = true) (hy : y.cls ≠ "java/lang/invoke/MethodHandle" ∧ y.cls ≠ "java/lang/invoke/VarHandle")
    {W9 : Nat} {Pre : Pt → Array Value → Prop} {Post : Pt → Array Value → Option Value → Pt → Prop} {PostX : Pt → Array Value → Addr → Pt → Prop} (hK : vx_Back l R p e below s args y 3 W9 Pre Post PostX)
    {b : Addr} {cellB : Cell} (hcell : T.heap[b]? = some cellB) (hobj : cellB.vm.isStatics = false) (hcls : s.vm.findClass C = some cellB.cls)
    {g : JFrame} (hg : g.method = m) (hsize : g.locals.size = c.maxLocals) {argsL rest : List Value} (hlen : ∀ sig, parseMethodDescriptor y.desc = some sig → argsL.length = sig.parameters.length)
    (hstack : g.stack = argsL.reverse ++ .ref b :: rest) (hW : 2 * g.monitorRoom + (rest.map fun v => v.category).sum ≤ W9) (hdg : decode c.code g.pc = .ok (.invokevirtual index, 3))
    (hpre : ∀ vm₁, s.WarmedH vm₁ → Pre ⟨T.setVm vm₁, locs, cells, slots⟩ (Value.ref b :: argsL).toArray) :
    (∃ (v : Option Value) (vm₁ : Vm) (B : Pt), s.WarmedH vm₁ ∧ Stand p l e R s m args below meth c B.U B.locs B.cells B.slots ∧ Post ⟨T.setVm vm₁, locs, cells, slots⟩ (Value.ref b :: argsL).toArray v B ∧
      ∀ target, Steps p.tables e below (B.U.setTop { g with pc := g.pc + 3, stack := v.toList ++ rest }) target → Steps p.tables e below (T.setTop g) target) ∨
    (∃ (q : Addr) (vm₁ : Vm) (B : Pt), s.WarmedH vm₁ ∧ Stand p l e R s m args below meth c B.U B.locs B.cells B.slots ∧ PostX ⟨T.setVm vm₁, locs, cells, slots⟩ (Value.ref b :: argsL).toArray q B ∧
      Steps p.tables e below (T.setTop g) ((B.U.setTop { g with stack := rest }).pushFrame (.throwing q))) := by
  obtain ⟨mk, methM, hnamed, hmethM, hstM, habM⟩ := Cond.instanceMethod_spec hinst
  obtain ⟨m8, methM', cM, hn8, hmethM', -, -, -, -, -, -, hsigM⟩ := Cond.codeWith_spec hcode
  cases Option.some.inj (hn8.symm.trans hnamed)
  cases hmethM.symm.trans hmethM'
  obtain ⟨c2, r2, m2, q1, q2, q3, q4, kP, hkP, hkPi⟩ := Cond.selects_spec hsel
  cases hcls.symm.trans q1
  cases (State.methodFound?_of_named hnamed hy).symm.trans q2
  cases hnamed.symm.trans q3
  have hselP : selectMethod e.platform s.vm cellB.cls mk = .method mk := by rw [Launch.admits_selectMethod X.admits]; exact q4
  obtain ⟨vm₁, X₁, hstep₁⟩ := X.invokevirtual hexec hown hlink hnamed hmethM hstM hkP hkPi hy (a := b) (cell := cellB) hcell
    (fun z h => by rw [h] at hobj; cases hobj) hselP hmethM habM hkP hkPi (g := g) hg (argsL := argsL) (rest := rest) (hlen _ hsigM) hstack hdg
  rcases hK m meth c ⟨T.setVm vm₁, locs, cells, slots⟩ { g with stack := rest } (.invokevirtual index) mk (Value.ref b :: argsL).toArray X₁ hg hsize hdg hW (X₁.named hnamed) (hpre vm₁ X₁.warmed) with ⟨v, B, X', hpost, hsteps⟩ | ⟨q, B, X', hpost, hsteps⟩
  · exact Or.inl ⟨v, vm₁, B, X₁.warmed, X', hpost, fun target h => hstep₁ _ fun acts => by rw [doInvoke_state]; exact hsteps.trans h⟩
  · exact Or.inr ⟨q, vm₁, B, X₁.warmed, X', hpost, hstep₁ _ fun acts => by rw [doInvoke_state]; exact hsteps⟩
theorem vx_callSX (X : Stand p l e R s m args below meth c T locs cells slots) (hexec : p.tables.exec = Jvm.exec) {own : String} {index : Nat} {y : MethodName} {bytes : ByteArray} {maxL : Nat} {ret : Option FieldType} {hh : List (Nat × Nat × Nat × Nat)}
    (hown : s.vm.findClass own = some m.cls) (hlink : (Cond.methodLink own index y).before args s = true) (hstat : (Cond.static y).before args s = true) (hinit : (Cond.initialized y.cls).before args s = true)
    (hcode : (Cond.codeWith y bytes maxL ret hh).before args s = true) (hy : y.cls ≠ "java/lang/invoke/MethodHandle" ∧ y.cls ≠ "java/lang/invoke/VarHandle")
    {W9 : Nat} {Pre : Pt → Array Value → Prop} {Post : Pt → Array Value → Option Value → Pt → Prop} {PostX : Pt → Array Value → Addr → Pt → Prop} (hK : vx_Back l R p e below s args y 3 W9 Pre Post PostX)
    {g : JFrame} (hg : g.method = m) (hsize : g.locals.size = c.maxLocals) {argsL rest : List Value} (hlen : ∀ sig, parseMethodDescriptor y.desc = some sig → argsL.length = sig.parameters.length)
    (hstack : g.stack = argsL.reverse ++ rest) (hW : 2 * g.monitorRoom + (rest.map fun v => v.category).sum ≤ W9) (hdg : decode c.code g.pc = .ok (.invokestatic index, 3))
    (hpre : ∀ vm₁, s.WarmedH vm₁ → Pre ⟨T.setVm vm₁, locs, cells, slots⟩ argsL.toArray) :
    (∃ (v : Option Value) (vm₁ : Vm) (B : Pt), s.WarmedH vm₁ ∧ Stand p l e R s m args below meth c B.U B.locs B.cells B.slots ∧ Post ⟨T.setVm vm₁, locs, cells, slots⟩ argsL.toArray v B ∧
      ∀ target, Steps p.tables e below (B.U.setTop { g with pc := g.pc + 3, stack := v.toList ++ rest }) target → Steps p.tables e below (T.setTop g) target) ∨
    (∃ (q : Addr) (vm₁ : Vm) (B : Pt), s.WarmedH vm₁ ∧ Stand p l e R s m args below meth c B.U B.locs B.cells B.slots ∧ PostX ⟨T.setVm vm₁, locs, cells, slots⟩ argsL.toArray q B ∧
      Steps p.tables e below (T.setTop g) ((B.U.setTop { g with stack := rest }).pushFrame (.throwing q))) := by
  obtain ⟨mk, methM, cM, hnamed, hmethM, -, -, -, -, -, -, hsigM⟩ := Cond.codeWith_spec hcode
  have hstatic : methM.isStatic = true := Cond.static_spec hnamed hmethM hstat
  obtain ⟨kP, hkP, -⟩ := className_of_methodNamed hnamed
  have hinitP : kP.init = .initialized := Cond.initialized_spec (findClass_of_methodNamed hnamed) hkP hinit
  obtain ⟨vm₁, X₁, hstep₁⟩ := X.invokestatic hexec hown hlink hnamed hmethM hstatic hkP hinitP hy (g := g) hg (argsL := argsL) (rest := rest) (hlen _ hsigM) hstack hdg
  rcases hK m meth c ⟨T.setVm vm₁, locs, cells, slots⟩ { g with stack := rest } (.invokestatic index) mk argsL.toArray X₁ hg hsize hdg hW (X₁.named hnamed) (hpre vm₁ X₁.warmed) with ⟨v, B, X', hpost, hsteps⟩ | ⟨q, B, X', hpost, hsteps⟩
  · exact Or.inl ⟨v, vm₁, B, X₁.warmed, X', hpost, fun target h => hstep₁ _ fun acts => by rw [doInvoke_state]; exact hsteps.trans h⟩
  · exact Or.inr ⟨q, vm₁, B, X₁.warmed, X', hpost, hstep₁ _ fun acts => by rw [doInvoke_state]; exact hsteps⟩
theorem vx_callVW (X : Stand p l e R s m args below meth c T locs cells slots) (hexec : p.tables.exec = Jvm.exec) {own C : String} {index : Nat} {y : MethodName} {bytes : ByteArray} {maxL : Nat} {ret : Option FieldType} {hh : List (Nat × Nat × Nat × Nat)}
    (hown : s.vm.findClass own = some m.cls) (hlink : (Cond.methodLink own index y).before args s = true) (hinst : (Cond.instanceMethod y).before args s = true) (hsel : (Cond.selects C y y).before args s = true)
    (hcode : (Cond.codeWith y bytes maxL ret hh).before args s = true) (hy : y.cls ≠ "java/lang/invoke/MethodHandle" ∧ y.cls ≠ "java/lang/invoke/VarHandle")
    {W9 : Nat} {Pre : Pt → Array Value → Prop} {Post : Pt → Array Value → Option Value → Pt → Prop} (hK : Back l R p e below s args y 3 W9 Pre Post)
    {b : Addr} {cellB : Cell} (hcell : T.heap[b]? = some cellB) (hobj : cellB.vm.isStatics = false) (hcls : s.vm.findClass C = some cellB.cls)
    {g : JFrame} (hg : g.method = m) (hsize : g.locals.size = c.maxLocals) {argsL rest : List Value} (hlen : ∀ sig, parseMethodDescriptor y.desc = some sig → argsL.length = sig.parameters.length)
    (hstack : g.stack = argsL.reverse ++ .ref b :: rest) (hW : 2 * g.monitorRoom + (rest.map fun v => v.category).sum ≤ W9) (hdg : decode c.code g.pc = .ok (.invokevirtual index, 3))
    (hpre : ∀ vm₁, s.WarmedH vm₁ → Pre ⟨T.setVm vm₁, locs, cells, slots⟩ (Value.ref b :: argsL).toArray) :
    ∃ (v : Option Value) (vm₁ : Vm) (B : Pt), s.WarmedH vm₁ ∧ Stand p l e R s m args below meth c B.U B.locs B.cells B.slots ∧ Post ⟨T.setVm vm₁, locs, cells, slots⟩ (Value.ref b :: argsL).toArray v B ∧
      ∀ target, Steps p.tables e below (B.U.setTop { g with pc := g.pc + 3, stack := v.toList ++ rest }) target → Steps p.tables e below (T.setTop g) target := by
  obtain ⟨mk, methM, hnamed, hmethM, hstM, habM⟩ := Cond.instanceMethod_spec hinst
  obtain ⟨m8, methM', cM, hn8, hmethM', -, -, -, -, -, -, hsigM⟩ := Cond.codeWith_spec hcode
  cases Option.some.inj (hn8.symm.trans hnamed)
  cases hmethM.symm.trans hmethM'
  obtain ⟨c2, r2, m2, q1, q2, q3, q4, kP, hkP, hkPi⟩ := Cond.selects_spec hsel
  cases hcls.symm.trans q1
  cases (State.methodFound?_of_named hnamed hy).symm.trans q2
  cases hnamed.symm.trans q3
  have hselP : selectMethod e.platform s.vm cellB.cls mk = .method mk := by rw [Launch.admits_selectMethod X.admits]; exact q4
  obtain ⟨vm₁, X₁, hstep₁⟩ := X.invokevirtual hexec hown hlink hnamed hmethM hstM hkP hkPi hy (a := b) (cell := cellB) hcell
    (fun z h => by rw [h] at hobj; cases hobj) hselP hmethM habM hkP hkPi (g := g) hg (argsL := argsL) (rest := rest) (hlen _ hsigM) hstack hdg
  obtain ⟨v, B, X', hpost, hsteps⟩ := hK m meth c ⟨T.setVm vm₁, locs, cells, slots⟩ { g with stack := rest } (.invokevirtual index) mk (Value.ref b :: argsL).toArray X₁ hg hsize hdg hW (X₁.named hnamed) (hpre vm₁ X₁.warmed)
  exact ⟨v, vm₁, B, X₁.warmed, X', hpost, fun target h => hstep₁ _ fun acts => by rw [doInvoke_state]; exact hsteps.trans h⟩
abbrev vx_CVW (R : Room) (s : State) (args : Array Value) (own C : String) (index : Nat) (y : MethodName) (bytes : ByteArray) (maxL : Nat) (ret : Option FieldType) (hh : List (Nat × Nat × Nat × Nat)) (ws : List Cond) (rm : Room) (mc ms n : Nat) : Prop :=
  (rm.cells = mc ∧ rm.slots = ms ∧ rm.frames + 1 ≤ R.frames ∧ 8 + (maxL + 11) + rm.locals ≤ R.locals ∧ (∀ w ∈ ws, ∀ (a' : Array Value) (U : State), s.WarmedH U.vm → w.before a' U = true) ∧ Cond.codeWith y bytes maxL ret hh ∈ ws) ∧
  (Cond.codeWith y bytes maxL ret hh).before args s = true ∧ (Cond.initialized y.cls).before args s = true ∧ (y.cls ≠ "java/lang/invoke/MethodHandle" ∧ y.cls ≠ "java/lang/invoke/VarHandle") ∧
  (∀ sig, parseMethodDescriptor y.desc = some sig → n = sig.parameters.length) ∧ (Cond.methodLink own index y).before args s = true ∧ (Cond.instanceMethod y).before args s = true ∧ (Cond.selects C y y).before args s = true
theorem vx_cwVW {own C : String} {index maxL mc ms : Nat} {y : MethodName} {bytes : ByteArray} {ret : Option FieldType} {hh : List (Nat × Nat × Nat × Nat)} {Ts ws ws' : List Cond} {rm : Room} (n : Nat) (ht : ∀ w ∈ Ts, w.before args s = true) (hT : GoodIn Ts (wsV own index C y ws)) (hw : ws = Cond.codeWith y bytes maxL ret hh :: ws') (hrc : rm.cells = mc) (hrs : rm.slots = ms)
    (hd : y.cls = C ∧ y.cls ≠ "java/lang/invoke/MethodHandle" ∧ y.cls ≠ "java/lang/invoke/VarHandle" ∧ (parseMethodDescriptor y.desc).map (fun d => d.parameters.length) = some n) (hR : rm.frames + 1 ≤ R.frames ∧ 8 + (maxL + 11) + rm.locals ≤ R.locals) :
    vx_CVW R s args own C index y bytes maxL ret hh ws rm mc ms n := by
  obtain ⟨hC, hd⟩ := hd
  subst hC
  have ok : ∀ w ∈ wsV own index y.cls y ws, w.before args s = true := fun w h => ht w (hT w h).1
  have hG : GoodIn Ts ws := fun w h => hT w (by unfold wsV; exact List.mem_append_right _ h)
  have hc : Cond.codeWith y bytes maxL ret hh ∈ ws := by rw [hw]; exact List.mem_cons_self
  refine ⟨⟨hrc, hrs, hR.1, hR.2, pay_in ht hG, hc⟩, ht _ (hG _ hc).1, ok _ (by simp [wsV]), ⟨hd.1, hd.2.1⟩, fun sig h => ?_, ok _ (by simp [wsV]), ok _ (by simp [wsV]), ok _ (by simp [wsV])⟩
  have h2 := hd.2.2
  rw [h] at h2
  exact (Option.some.inj h2).symm
theorem vx_runVW {y : MethodName} {bytes cc : ByteArray} {maxL nL mc ms n index : Nat} {ret : Option FieldType} {hh : List (Nat × Nat × Nat × Nat)} {ws : List Cond} {rm : Room} {Pc : Array Value → State → Prop} {Qc : Array Value → State → Outcome → State → Prop} {free : Addr → Prop} {Ts : List Cond} {own C : String} {b : Addr} {As rest : List Value} {g : JFrame}
    (S : CallFix p m c cc nL s args Ts own) (hM : Met l y ws rm Pc Qc mc ms free) (cw : vx_CVW R s args own C index y bytes maxL ret hh ws rm mc ms n) (hp : PreV s H C b Pc As)
    (hg : g.method = m) (hn : As.length = n) (hsize : g.locals.size = nL) (hstack : g.stack = As.reverse ++ .ref b :: rest) (hW : 2 * g.monitorRoom + (rest.map fun v => v.category).sum ≤ 8) (hdg : decode cc g.pc = .ok (.invokevirtual index, 3)) (hf : cells + mc ≤ R.cells ∧ slots + ms ≤ R.slots) :
    va_Run p l e R s m args below meth c H locs cells slots mc ms g rest (Qc (Value.ref b :: As).toArray) free := by
  obtain ⟨⟨hrc, hrs, hfr, hlo, hws, hcw⟩, hcode, hini, hy, hlen, hl, hin, hse⟩ := cw
  have hK : Back l R p e below s args y 3 8 (PreOf R mc ms Pc) (PostOf Qc mc ms free) := va_backW (hh := hh) (bytes := bytes) (maxL := maxL) (ret := ret) hM hp.1 hrc hrs hfr hlo hws hcw (fun a' U hW => word_at hW (Or.inl (by first | rfl | simp [Cond.onTables, Cond.keeps, Cond.steady])) hini)
  obtain ⟨hx, hb, hml, ho, -⟩ := S
  obtain ⟨-, ⟨cellB, hcB, hoB, hclB⟩, hPc⟩ := hp
  intro T hT X
  obtain ⟨v, vm₁, ⟨U', l2, c2, s2⟩, hW₁, X', ⟨g', mk, t, L, e1, e2, hq, h1, hL, h2, h3⟩, st⟩ := vx_callVW X hx (C := C) (hh := hh) (bytes := bytes) (maxL := maxL) (ret := ret) ho hl hin hse hcode hy hK (by rw [hT]; exact hcB) hoB hclB hg (hsize.trans hml.symm) (argsL := As) (rest := rest) (fun sig h => hn.trans (hlen sig h)) hstack hW (by rw [hb]; exact hdg)
    (fun vm₁ hW₁ => ⟨hf.1, hf.2, hPc (T.setVm vm₁) hT hW₁⟩)
  dsimp only [Pt.U, Pt.locs, Pt.cells, Pt.slots] at X' e1 e2 h1 h2 h3 st
  subst h1; subst h2; subst h3
  exact ⟨v, (T.setVm vm₁).calling g' mk (Value.ref b :: As).toArray, t, U', L, hT, X', hL, e1, e2, hq, st⟩
section
variable {y : MethodName} {bytes cc : ByteArray} {maxL nL mc ms n index : Nat} {ret : Option FieldType} {ws : List Cond} {rm : Room} {Pc : Array Value → State → Prop} {Qc : Array Value → State → Outcome → State → Prop} {XC : String → State → State → Prop} {free : Addr → Prop} {Ts : List Cond} {own C : String} {b : Addr} {As rest : List Value} {g : JFrame}
theorem vx_runVX {hh : List (Nat × Nat × Nat × Nat)} (S : CallFix p m c cc nL s args Ts own) (hM : vx_Met l y ws rm Pc Qc XC mc ms free) (cw : vx_CVW R s args own C index y bytes maxL ret hh ws rm mc ms n) (hp : PreV s H C b Pc As)
    (hg : g.method = m) (hn : As.length = n) (hsize : g.locals.size = nL) (hstack : g.stack = As.reverse ++ .ref b :: rest) (hW : 2 * g.monitorRoom + (rest.map fun v => v.category).sum ≤ 8) (hdg : decode cc g.pc = .ok (.invokevirtual index, 3)) (hf : cells + mc ≤ R.cells ∧ slots + ms ≤ R.slots) :
    vx_Run p l e R s m args below meth c H locs cells slots mc ms g rest (Qc (Value.ref b :: As).toArray) XC free := by
  obtain ⟨⟨hrc, hrs, hfr, hlo, hws, hcw⟩, hcode, hini, hy, hlen, hl, hin, hse⟩ := cw
  have hK : vx_Back l R p e below s args y 3 8 (PreOf R mc ms Pc) (PostOf Qc mc ms free) (vx_Post XC mc ms free) := vx_backW (hh := hh) (bytes := bytes) (maxL := maxL) (ret := ret) hM hp.1 hrc hrs hfr hlo hws hcw (fun a' U hW => word_at hW (Or.inl (by first | rfl | simp [Cond.onTables, Cond.keeps, Cond.steady])) hini)
  obtain ⟨hx, hb, hml, ho, -⟩ := S
  obtain ⟨-, ⟨cellB, hcB, hoB, hclB⟩, hPc⟩ := hp
  intro T hT X
  rcases vx_callVX X hx (C := C) (hh := hh) (bytes := bytes) (maxL := maxL) (ret := ret) ho hl hin hse hcode hy hK (by rw [hT]; exact hcB) hoB hclB hg (hsize.trans hml.symm) (argsL := As) (rest := rest) (fun sig h => hn.trans (hlen sig h)) hstack hW (by rw [hb]; exact hdg)
    (fun vm₁ hW₁ => ⟨hf.1, hf.2, hPc (T.setVm vm₁) hT hW₁⟩) with ⟨v, vm₁, ⟨U', l2, c2, s2⟩, hW₁, X', ⟨g', mk, t, L, e1, e2, hq, h1, hL, h2, h3⟩, st⟩ | ⟨q, vm₁, ⟨U', l2, c2, s2⟩, hW₁, X', ⟨g', mk, t, L, E, ce, e1, e2, hq, hce, hcv, hcl, h1, hL, h2, h3⟩, st⟩
  · dsimp only [Pt.U, Pt.locs, Pt.cells, Pt.slots] at X' e1 e2 h1 h2 h3 st
    subst h1; subst h2; subst h3
    exact Or.inl ⟨v, (T.setVm vm₁).calling g' mk (Value.ref b :: As).toArray, t, U', L, hT, X', hL, e1, e2, hq, st⟩
  · dsimp only [Pt.U, Pt.locs, Pt.cells, Pt.slots] at X' e1 e2 h1 h2 h3 st hcl
    subst h1; subst h2; subst h3
    exact Or.inr ⟨q, (T.setVm vm₁).calling g' mk (Value.ref b :: As).toArray, t, U', L, E, ce, hT, X', hL, e1, e2, hq, hce, hcv, vx_cls hW₁ hcl, st⟩
theorem vx_runSX {hh : List (Nat × Nat × Nat × Nat)} (S : CallFix p m c cc nL s args Ts own) (hM : vx_Met l y ws rm Pc Qc XC mc ms free) (cw : vx_CSW R s args own index y bytes maxL ret hh ws rm mc ms n) (hp : PreS s H Pc As)
    (hg : g.method = m) (hn : As.length = n) (hsize : g.locals.size = nL) (hstack : g.stack = As.reverse ++ rest) (hW : 2 * g.monitorRoom + (rest.map fun v => v.category).sum ≤ 8) (hdg : decode cc g.pc = .ok (.invokestatic index, 3)) (hf : cells + mc ≤ R.cells ∧ slots + ms ≤ R.slots) :
    vx_Run p l e R s m args below meth c H locs cells slots mc ms g rest (Qc As.toArray) XC free := by
  obtain ⟨⟨hrc, hrs, hfr, hlo, hws, hcw⟩, hcode, hini, hy, hlen, hl, hstt⟩ := cw
  have hK : vx_Back l R p e below s args y 3 8 (PreOf R mc ms Pc) (PostOf Qc mc ms free) (vx_Post XC mc ms free) := vx_backW (hh := hh) (bytes := bytes) (maxL := maxL) (ret := ret) hM hp.1 hrc hrs hfr hlo hws hcw (fun a' U hW => word_at hW (Or.inl (by first | rfl | simp [Cond.onTables, Cond.keeps, Cond.steady])) hini)
  obtain ⟨hx, hb, hml, ho, -⟩ := S
  intro T hT X
  rcases vx_callSX X hx (hh := hh) (bytes := bytes) (maxL := maxL) (ret := ret) ho hl hstt hini hcode hy hK hg (hsize.trans hml.symm) (argsL := As) (rest := rest) (fun sig h => hn.trans (hlen sig h)) hstack hW (by rw [hb]; exact hdg)
    (fun vm₁ hW₁ => ⟨hf.1, hf.2, hp.2 (T.setVm vm₁) hT hW₁⟩) with ⟨v, vm₁, ⟨U', l2, c2, s2⟩, hW₁, X', ⟨g', mk, t, L, e1, e2, hq, h1, hL, h2, h3⟩, st⟩ | ⟨q, vm₁, ⟨U', l2, c2, s2⟩, hW₁, X', ⟨g', mk, t, L, E, ce, e1, e2, hq, hce, hcv, hcl, h1, hL, h2, h3⟩, st⟩
  · dsimp only [Pt.U, Pt.locs, Pt.cells, Pt.slots] at X' e1 e2 h1 h2 h3 st
    subst h1; subst h2; subst h3
    exact Or.inl ⟨v, (T.setVm vm₁).calling g' mk As.toArray, t, U', L, hT, X', hL, e1, e2, hq, st⟩
  · dsimp only [Pt.U, Pt.locs, Pt.cells, Pt.slots] at X' e1 e2 h1 h2 h3 st hcl
    subst h1; subst h2; subst h3
    exact Or.inr ⟨q, (T.setVm vm₁).calling g' mk As.toArray, t, U', L, E, ce, hT, X', hL, e1, e2, hq, hce, hcv, vx_cls hW₁ hcl, st⟩
end
end VXH
theorem vx_ofWH {l : Launch} {y : MethodName} {ws ws' : List Cond} {rm : Room} {Pc : Array Value → State → Prop} {Qc : Array Value → State → Outcome → State → Prop} {XC : String → State → State → Prop} {mc ms : Nat} {free : Addr → Prop} {cc : ByteArray} {maxL : Nat} {ret : Option FieldType} {hh : List (Nat × Nat × Nat × Nat)}
    (hy : plainName y.cls = true) (hw : ws = Cond.codeWith y cc maxL ret hh :: ws')
    (body : ∀ p e s m args below meth c s₁, BodyLoose p l y (headSpec ws rm) cc maxL ret e s m args below meth c s₁ → c.maxLocals = maxL → Pc args s →
      W p l e (headSpec ws rm).room s m args below meth c s.heap [] 0 0 (vx_MQ below Qc XC args s mc ms free) (entryFrame m args maxL)) : vx_Met l y ws rm Pc Qc XC mc ms free := by
  refine MetFree.of_bodyS (code := cc) (maxLocals := maxL) (ret := ret) hy ?_ ?_
  · intro args s m h hn
    obtain ⟨m9, meth, c, hn9, h1, h2, h3, h4, -, h5, h6, -⟩ := Cond.codeWith_spec (atoms_spec (ws := ws) h _ (by rw [hw]; exact List.mem_cons_self))
    cases hn.symm.trans hn9
    exact ⟨meth, c, h1, h2, h3, h4, h5, h6⟩
  · intro p e s m args below meth c s₁ B hml hP _
    have hh0 : s₁.heap = s.heap := by rw [B.state]; rfl
    obtain ⟨t, a1, o, b1, b2, b3⟩ := body p e s m args below meth c s₁ B hml hP s₁ hh0 (Stand.of_body B)
    exact ⟨t, o, a1, b1, b2, b3⟩
/-! ===== END ===== -/

/-! ===== BEGIN printed: names, fields, word lists, decode rows ===== -/
def RX0 : String := "FlipPolygons$FlipGraph"
def TX0 : u_T := fun k => match k with
  | 0 => ("FlipPolygons$FlipGraph", "polygon", "LFlipPolygons$Polygon;", true)
  | 1 => ("FlipPolygons$FlipGraph", "triangulations", "I", true)
  | 2 => ("FlipPolygons$FlipGraph", "classes", "I", true)
  | 3 => ("FlipPolygons$FlipGraph", "diameter", "I", true)
  | 4 => ("FlipPolygons$FlipGraph", "flipsOfEach", "I", true)
  | 5 => ("FlipPolygons$FlipGraph", "masks", "[I", true)
  | 6 => ("FlipPolygons$FlipGraph", "neighbors", "[I", true)
  | 7 => ("FlipPolygons$FlipGraph", "slots", "[I", true)
  | _ => ("FlipPolygons$FlipGraph", "found", "I", false)
def tyX0 : Nat → FieldType := fun k => match k with
  | 0 => .object "FlipPolygons$Polygon"
  | 1 => .int
  | 2 => .int
  | 3 => .int
  | 4 => .int
  | 5 => .array .int
  | 6 => .array .int
  | 7 => .array .int
  | _ => .int
abbrev wsX00 : List Cond := u_ws RX0 TX0 9
theorem nmX0 : ∀ a, a < 9 → ∀ b, b < 9 → a ≠ b → (TX0 a).2.1 ≠ (TX0 b).2.1 := by decide +kernel
theorem tyX0_ok : ∀ k, k < 9 → parseFieldDescriptor (TX0 k).2.2.1 = some (tyX0 k) := by decide +kernel
abbrev cX0_init : ByteArray := prog_2_method_1_code
def yX0_init : MethodName := ⟨RX0, "<init>", "(LFlipPolygons$Polygon;)V"⟩
abbrev cX0_ofCorners : ByteArray := prog_2_method_2_code
def yX0_ofCorners : MethodName := ⟨RX0, "ofCorners", "([II)I"⟩
abbrev cX0_slotsFor : ByteArray := prog_2_method_3_code
def yX0_slotsFor : MethodName := ⟨RX0, "slotsFor", "(I)I"⟩
abbrev cX0_build : ByteArray := prog_2_method_4_code
def yX0_build : MethodName := ⟨RX0, "build", "()V"⟩
abbrev cX0_indexOrNew : ByteArray := prog_2_method_5_code
def yX0_indexOrNew : MethodName := ⟨RX0, "indexOrNew", "(I)I"⟩
abbrev cX0_neighborOf : ByteArray := prog_2_method_6_code
def yX0_neighborOf : MethodName := ⟨RX0, "neighborOf", "(II)I"⟩
abbrev cX0_maskAt : ByteArray := prog_2_method_7_code
def yX0_maskAt : MethodName := ⟨RX0, "maskAt", "(I)I"⟩
abbrev cX0_indexOf : ByteArray := prog_2_method_8_code
def yX0_indexOf : MethodName := ⟨RX0, "indexOf", "(I)I"⟩
abbrev cX0_slotOf : ByteArray := prog_2_method_9_code
def yX0_slotOf : MethodName := ⟨RX0, "slotOf", "(I)I"⟩
def RX1 : String := "FlipPolygons$Polygon"
def TX1 : u_T := fun k => match k with
  | 0 => ("FlipPolygons$Polygon", "corners", "I", true)
  | 1 => ("FlipPolygons$Polygon", "diagonals", "I", true)
  | 2 => ("FlipPolygons$Polygon", "lesser", "[I", true)
  | 3 => ("FlipPolygons$Polygon", "greater", "[I", true)
  | 4 => ("FlipPolygons$Polygon", "numbers", "[I", true)
  | 5 => ("FlipPolygons$Polygon", "fans", "[I", true)
  | 6 => ("FlipPolygons$Polygon", "crossing", "[I", true)
  | 7 => ("FlipPolygons$Polygon", "afterTurn", "[I", true)
  | _ => ("FlipPolygons$Polygon", "afterMirror", "[I", true)
def tyX1 : Nat → FieldType := fun k => match k with
  | 0 => .int
  | 1 => .int
  | 2 => .array .int
  | 3 => .array .int
  | 4 => .array .int
  | 5 => .array .int
  | 6 => .array .int
  | 7 => .array .int
  | _ => .array .int
abbrev wsX10 : List Cond := u_ws RX1 TX1 9
theorem nmX1 : ∀ a, a < 9 → ∀ b, b < 9 → a ≠ b → (TX1 a).2.1 ≠ (TX1 b).2.1 := by decide +kernel
theorem tyX1_ok : ∀ k, k < 9 → parseFieldDescriptor (TX1 k).2.2.1 = some (tyX1 k) := by decide +kernel
abbrev cX1_init : ByteArray := prog_3_method_1_code
def yX1_init : MethodName := ⟨RX1, "<init>", "(I)V"⟩
abbrev cX1_nameDiagonals : ByteArray := prog_3_method_2_code
def yX1_nameDiagonals : MethodName := ⟨RX1, "nameDiagonals", "()V"⟩
abbrev cX1_findCrossings : ByteArray := prog_3_method_3_code
def yX1_findCrossings : MethodName := ⟨RX1, "findCrossings", "()V"⟩
abbrev cX1_findImages : ByteArray := prog_3_method_4_code
def yX1_findImages : MethodName := ⟨RX1, "findImages", "()V"⟩
abbrev cX1_isCorner : ByteArray := prog_3_method_5_code
def yX1_isCorner : MethodName := ⟨RX1, "isCorner", "(I)Z"⟩
abbrev cX1_numberOf : ByteArray := prog_3_method_6_code
def yX1_numberOf : MethodName := ⟨RX1, "numberOf", "(II)I"⟩
abbrev cX1_fanOf : ByteArray := prog_3_method_7_code
def yX1_fanOf : MethodName := ⟨RX1, "fanOf", "(I)I"⟩
abbrev cX1_degreeIn : ByteArray := prog_3_method_8_code
def yX1_degreeIn : MethodName := ⟨RX1, "degreeIn", "(II)I"⟩
abbrev cX1_otherOf : ByteArray := prog_3_method_9_code
def yX1_otherOf : MethodName := ⟨RX1, "otherOf", "(II)I"⟩
abbrev cX1_flipped : ByteArray := prog_3_method_10_code
def yX1_flipped : MethodName := ⟨RX1, "flipped", "(II)I"⟩
abbrev cX1_turnedBy : ByteArray := prog_3_method_11_code
def yX1_turnedBy : MethodName := ⟨RX1, "turnedBy", "(II)I"⟩
abbrev cX1_mirrored : ByteArray := prog_3_method_12_code
def yX1_mirrored : MethodName := ⟨RX1, "mirrored", "(I)I"⟩
abbrev cX1_moved : ByteArray := prog_3_method_13_code
def yX1_moved : MethodName := ⟨RX1, "moved", "(I[I)I"⟩
abbrev cX1_leastImage : ByteArray := prog_3_method_14_code
def yX1_leastImage : MethodName := ⟨RX1, "leastImage", "(I)I"⟩
abbrev cX1_symmetries : ByteArray := prog_3_method_15_code
def yX1_symmetries : MethodName := ⟨RX1, "symmetries", "(I)I"⟩
abbrev cX1_nextImage : ByteArray := prog_3_method_16_code
def yX1_nextImage : MethodName := ⟨RX1, "nextImage", "(II)I"⟩
abbrev cX1_ears : ByteArray := prog_3_method_17_code
def yX1_ears : MethodName := ⟨RX1, "ears", "(I)I"⟩
abbrev cX1_greatestDegree : ByteArray := prog_3_method_18_code
def yX1_greatestDegree : MethodName := ⟨RX1, "greatestDegree", "(I)I"⟩
abbrev cX1_maskInPart : ByteArray := prog_3_method_19_code
def yX1_maskInPart : MethodName := ⟨RX1, "maskInPart", "(IILFlipPolygons$Polygon;)I"⟩
def RX2 : String := "FlipPolygons$Reach"
def TX2 : u_T := fun k => match k with
  | 0 => ("FlipPolygons$Reach", "flips", "[I", true)
  | 1 => ("FlipPolygons$Reach", "ways", "[I", true)
  | 2 => ("FlipPolygons$Reach", "queue", "[I", true)
  | 3 => ("FlipPolygons$Reach", "graph", "LFlipPolygons$FlipGraph;", false)
  | 4 => ("FlipPolygons$Reach", "source", "I", false)
  | _ => ("FlipPolygons$Reach", "barred", "I", false)
def tyX2 : Nat → FieldType := fun k => match k with
  | 0 => .array .int
  | 1 => .array .int
  | 2 => .array .int
  | 3 => .object "FlipPolygons$FlipGraph"
  | 4 => .int
  | _ => .int
abbrev wsX20 : List Cond := u_ws RX2 TX2 6
theorem nmX2 : ∀ a, a < 6 → ∀ b, b < 6 → a ≠ b → (TX2 a).2.1 ≠ (TX2 b).2.1 := by decide +kernel
theorem tyX2_ok : ∀ k, k < 6 → parseFieldDescriptor (TX2 k).2.2.1 = some (tyX2 k) := by decide +kernel
abbrev cX2_init : ByteArray := prog_4_method_1_code
def yX2_init : MethodName := ⟨RX2, "<init>", "(LFlipPolygons$FlipGraph;)V"⟩
abbrev cX2_measure : ByteArray := prog_4_method_2_code
def yX2_measure : MethodName := ⟨RX2, "measure", "(LFlipPolygons$FlipGraph;II)V"⟩
abbrev cX2_spreadOn : ByteArray := prog_4_method_3_code
def yX2_spreadOn : MethodName := ⟨RX2, "spreadOn", "(II)I"⟩
abbrev cX2_flipsTo : ByteArray := prog_4_method_4_code
def yX2_flipsTo : MethodName := ⟨RX2, "flipsTo", "(I)I"⟩
abbrev cX2_waysTo : ByteArray := prog_4_method_5_code
def yX2_waysTo : MethodName := ⟨RX2, "waysTo", "(I)I"⟩
abbrev cX2_farthest : ByteArray := prog_4_method_6_code
def yX2_farthest : MethodName := ⟨RX2, "farthest", "()I"⟩
abbrev cX2_leastFarthest : ByteArray := prog_4_method_7_code
def yX2_leastFarthest : MethodName := ⟨RX2, "leastFarthest", "()I"⟩
def RX3 : String := "FlipPolygons$State"
def TX3 : u_T := fun k => match k with
  | 0 => ("FlipPolygons$State", "graph", "LFlipPolygons$FlipGraph;", false)
  | 1 => ("FlipPolygons$State", "present", "I", false)
  | 2 => ("FlipPolygons$State", "goal", "I", false)
  | 3 => ("FlipPolygons$State", "locks", "I", false)
  | _ => ("FlipPolygons$State", "flips", "I", false)
def tyX3 : Nat → FieldType := fun k => match k with
  | 0 => .object "FlipPolygons$FlipGraph"
  | 1 => .int
  | 2 => .int
  | 3 => .int
  | _ => .int
abbrev wsX30 : List Cond := u_ws RX3 TX3 5
theorem nmX3 : ∀ a, a < 5 → ∀ b, b < 5 → a ≠ b → (TX3 a).2.1 ≠ (TX3 b).2.1 := by decide +kernel
theorem tyX3_ok : ∀ k, k < 5 → parseFieldDescriptor (TX3 k).2.2.1 = some (tyX3 k) := by decide +kernel
abbrev cX3_init : ByteArray := prog_5_method_1_code
def yX3_init : MethodName := ⟨RX3, "<init>", "()V"⟩
abbrev cX3_startWith : ByteArray := prog_5_method_2_code
def yX3_startWith : MethodName := ⟨RX3, "startWith", "(LFlipPolygons$FlipGraph;)V"⟩
abbrev cX3_copy : ByteArray := prog_5_method_3_code
def yX3_copy : MethodName := ⟨RX3, "copy", "(LFlipPolygons$State;)V"⟩
abbrev cX3_mask : ByteArray := prog_5_method_4_code
def yX3_mask : MethodName := ⟨RX3, "mask", "(I)I"⟩
abbrev cX3_put : ByteArray := prog_5_method_5_code
def yX3_put : MethodName := ⟨RX3, "put", "(II)V"⟩
def RX4 : String := "FlipPolygons$Text"
def TX4 : u_T := fun k => match k with
  | 0 => ("FlipPolygons$Text", "codes", "[I", true)
  | _ => ("FlipPolygons$Text", "length", "I", false)
def tyX4 : Nat → FieldType := fun k => match k with
  | 0 => .array .int
  | _ => .int
abbrev wsX40 : List Cond := u_ws RX4 TX4 2
theorem nmX4 : ∀ a, a < 2 → ∀ b, b < 2 → a ≠ b → (TX4 a).2.1 ≠ (TX4 b).2.1 := by decide +kernel
theorem tyX4_ok : ∀ k, k < 2 → parseFieldDescriptor (TX4 k).2.2.1 = some (tyX4 k) := by decide +kernel
abbrev cX4_init : ByteArray := prog_6_method_1_code
def yX4_init : MethodName := ⟨RX4, "<init>", "()V"⟩
abbrev cX4_isFull : ByteArray := prog_6_method_2_code
def yX4_isFull : MethodName := ⟨RX4, "isFull", "()Z"⟩
abbrev cX4_add : ByteArray := prog_6_method_3_code
def yX4_add : MethodName := ⟨RX4, "add", "(I)V"⟩
abbrev cX4_clear : ByteArray := prog_6_method_4_code
def yX4_clear : MethodName := ⟨RX4, "clear", "()V"⟩
abbrev cX4_fullLength : ByteArray := prog_6_method_5_code
def yX4_fullLength : MethodName := ⟨RX4, "fullLength", "(LFlipPolygons$Polygon;)I"⟩
abbrev cX4_cornerAt : ByteArray := prog_6_method_6_code
def yX4_cornerAt : MethodName := ⟨RX4, "cornerAt", "(I)I"⟩
abbrev cX4_firstWrong : ByteArray := prog_6_method_7_code
def yX4_firstWrong : MethodName := ⟨RX4, "firstWrong", "(LFlipPolygons$Polygon;)I"⟩
abbrev cX4_fits : ByteArray := prog_6_method_8_code
def yX4_fits : MethodName := ⟨RX4, "fits", "(LFlipPolygons$Polygon;I)Z"⟩
abbrev cX4_beginsDiagonal : ByteArray := prog_6_method_9_code
def yX4_beginsDiagonal : MethodName := ⟨RX4, "beginsDiagonal", "(LFlipPolygons$Polygon;I)Z"⟩
abbrev cX4_isComplete : ByteArray := prog_6_method_10_code
def yX4_isComplete : MethodName := ⟨RX4, "isComplete", "(LFlipPolygons$Polygon;)Z"⟩
abbrev cX4_maskIn : ByteArray := prog_6_method_11_code
def yX4_maskIn : MethodName := ⟨RX4, "maskIn", "(LFlipPolygons$Polygon;)I"⟩
abbrev cX4_mixInto : ByteArray := prog_6_method_12_code
def yX4_mixInto : MethodName := ⟨RX4, "mixInto", "(J)J"⟩
def RX5 : String := "FlipPolygons"
def TX5 : u_T := fun k => match k with
  | 0 => ("FlipPolygons", "graphs", "[LFlipPolygons$FlipGraph;", true)
  | 1 => ("FlipPolygons", "now", "LFlipPolygons$State;", true)
  | 2 => ("FlipPolygons", "saved", "[LFlipPolygons$State;", true)
  | 3 => ("FlipPolygons", "savedStates", "I", false)
  | 4 => ("FlipPolygons", "snapshots", "[LFlipPolygons$State;", true)
  | 5 => ("FlipPolygons", "text", "LFlipPolygons$Text;", true)
  | 6 => ("FlipPolygons", "fromPresent", "LFlipPolygons$Reach;", true)
  | 7 => ("FlipPolygons", "fromGoal", "LFlipPolygons$Reach;", true)
  | 8 => ("FlipPolygons", "fromGoalWithLocks", "LFlipPolygons$Reach;", true)
  | 9 => ("FlipPolygons", "fromPart", "LFlipPolygons$Reach;", true)
  | _ => ("FlipPolygons", "parts", "[I", true)
def tyX5 : Nat → FieldType := fun k => match k with
  | 0 => .array (.object "FlipPolygons$FlipGraph")
  | 1 => .object "FlipPolygons$State"
  | 2 => .array (.object "FlipPolygons$State")
  | 3 => .int
  | 4 => .array (.object "FlipPolygons$State")
  | 5 => .object "FlipPolygons$Text"
  | 6 => .object "FlipPolygons$Reach"
  | 7 => .object "FlipPolygons$Reach"
  | 8 => .object "FlipPolygons$Reach"
  | 9 => .object "FlipPolygons$Reach"
  | _ => .array .int
abbrev wsX50 : List Cond := u_ws RX5 TX5 11
theorem nmX5 : ∀ a, a < 11 → ∀ b, b < 11 → a ≠ b → (TX5 a).2.1 ≠ (TX5 b).2.1 := by decide +kernel
theorem tyX5_ok : ∀ k, k < 11 → parseFieldDescriptor (TX5 k).2.2.1 = some (tyX5 k) := by decide +kernel
abbrev cX5_init : ByteArray := prog_1_method_1_code
def yX5_init : MethodName := ⟨RX5, "<init>", "()V"⟩
abbrev cX5_begin : ByteArray := prog_1_method_2_code
def yX5_begin : MethodName := ⟨RX5, "begin", "(I)I"⟩
abbrev cX5_flip : ByteArray := prog_1_method_3_code
def yX5_flip : MethodName := ⟨RX5, "flip", "(III)I"⟩
abbrev cX5_fan : ByteArray := prog_1_method_4_code
def yX5_fan : MethodName := ⟨RX5, "fan", "(II)I"⟩
abbrev cX5_turn : ByteArray := prog_1_method_5_code
def yX5_turn : MethodName := ⟨RX5, "turn", "(II)I"⟩
abbrev cX5_mirror : ByteArray := prog_1_method_6_code
def yX5_mirror : MethodName := ⟨RX5, "mirror", "(I)I"⟩
abbrev cX5_exchange : ByteArray := prog_1_method_7_code
def yX5_exchange : MethodName := ⟨RX5, "exchange", "()I"⟩
abbrev cX5_lock : ByteArray := prog_1_method_8_code
def yX5_lock : MethodName := ⟨RX5, "lock", "(IIZ)I"⟩
abbrev cX5_walk : ByteArray := prog_1_method_9_code
def yX5_walk : MethodName := ⟨RX5, "walk", "(I)I"⟩
abbrev cX5_append : ByteArray := prog_1_method_10_code
def yX5_append : MethodName := ⟨RX5, "append", "(I)I"⟩
abbrev cX5_clearBuffer : ByteArray := prog_1_method_11_code
def yX5_clearBuffer : MethodName := ⟨RX5, "clearBuffer", "()I"⟩
abbrev cX5_firstError : ByteArray := prog_1_method_12_code
def yX5_firstError : MethodName := ⟨RX5, "firstError", "()I"⟩
abbrev cX5_read : ByteArray := prog_1_method_13_code
def yX5_read : MethodName := ⟨RX5, "read", "(I)I"⟩
abbrev cX5_take : ByteArray := prog_1_method_14_code
def yX5_take : MethodName := ⟨RX5, "take", "(I)I"⟩
abbrev cX5_restore : ByteArray := prog_1_method_15_code
def yX5_restore : MethodName := ⟨RX5, "restore", "(I)I"⟩
abbrev cX5_undo : ByteArray := prog_1_method_16_code
def yX5_undo : MethodName := ⟨RX5, "undo", "()I"⟩
abbrev cX5_number : ByteArray := prog_1_method_17_code
def yX5_number : MethodName := ⟨RX5, "number", "(II)I"⟩
abbrev cX5_triangulation : ByteArray := prog_1_method_18_code
def yX5_triangulation : MethodName := ⟨RX5, "triangulation", "(II)I"⟩
abbrev cX5_degree : ByteArray := prog_1_method_19_code
def yX5_degree : MethodName := ⟨RX5, "degree", "(II)I"⟩
abbrev cX5_other : ByteArray := prog_1_method_20_code
def yX5_other : MethodName := ⟨RX5, "other", "(III)I"⟩
abbrev cX5_whyNot : ByteArray := prog_1_method_21_code
def yX5_whyNot : MethodName := ⟨RX5, "whyNot", "(II)I"⟩
abbrev cX5_distance : ByteArray := prog_1_method_22_code
def yX5_distance : MethodName := ⟨RX5, "distance", "(I)I"⟩
abbrev cX5_ifFlipped : ByteArray := prog_1_method_23_code
def yX5_ifFlipped : MethodName := ⟨RX5, "ifFlipped", "(II)I"⟩
abbrev cX5_count : ByteArray := prog_1_method_24_code
def yX5_count : MethodName := ⟨RX5, "count", "(I)I"⟩
abbrev cX5_farShare : ByteArray := prog_1_method_25_code
def yX5_farShare : MethodName := ⟨RX5, "farShare", "()D"⟩
abbrev cX5_digest : ByteArray := prog_1_method_26_code
def yX5_digest : MethodName := ⟨RX5, "digest", "()J"⟩
abbrev cX5_buildUpTo : ByteArray := prog_1_method_27_code
def yX5_buildUpTo : MethodName := ⟨RX5, "buildUpTo", "([LFlipPolygons$FlipGraph;I)V"⟩
abbrev cX5_saveState : ByteArray := prog_1_method_28_code
def yX5_saveState : MethodName := ⟨RX5, "saveState", "()V"⟩
abbrev cX5_makeFlip : ByteArray := prog_1_method_29_code
def yX5_makeFlip : MethodName := ⟨RX5, "makeFlip", "(II)I"⟩
abbrev cX5_putNew : ByteArray := prog_1_method_30_code
def yX5_putNew : MethodName := ⟨RX5, "putNew", "(II)V"⟩
abbrev cX5_isWhich : ByteArray := prog_1_method_31_code
def yX5_isWhich : MethodName := ⟨RX5, "isWhich", "(I)Z"⟩
abbrev cX5_isSnapshot : ByteArray := prog_1_method_32_code
def yX5_isSnapshot : MethodName := ⟨RX5, "isSnapshot", "(I)Z"⟩
abbrev cX5_isIn : ByteArray := prog_1_method_33_code
def yX5_isIn : MethodName := ⟨RX5, "isIn", "(II)Z"⟩
abbrev cX5_numberOfTriangulation : ByteArray := prog_1_method_34_code
def yX5_numberOfTriangulation : MethodName := ⟨RX5, "numberOfTriangulation", "(II)I"⟩
abbrev cX5_reachFrom : ByteArray := prog_1_method_35_code
def yX5_reachFrom : MethodName := ⟨RX5, "reachFrom", "(I)LFlipPolygons$Reach;"⟩
abbrev cX5_reachWithLocks : ByteArray := prog_1_method_36_code
def yX5_reachWithLocks : MethodName := ⟨RX5, "reachWithLocks", "()LFlipPolygons$Reach;"⟩
abbrev cX5_hasDistance : ByteArray := prog_1_method_37_code
def yX5_hasDistance : MethodName := ⟨RX5, "hasDistance", "()Z"⟩
abbrev cX5_distanceWithLocks : ByteArray := prog_1_method_38_code
def yX5_distanceWithLocks : MethodName := ⟨RX5, "distanceWithLocks", "()I"⟩
abbrev cX5_shortestWays : ByteArray := prog_1_method_39_code
def yX5_shortestWays : MethodName := ⟨RX5, "shortestWays", "()I"⟩
abbrev cX5_freeDistance : ByteArray := prog_1_method_40_code
def yX5_freeDistance : MethodName := ⟨RX5, "freeDistance", "()I"⟩
abbrev cX5_nextFlip : ByteArray := prog_1_method_41_code
def yX5_nextFlip : MethodName := ⟨RX5, "nextFlip", "()I"⟩
abbrev cX5_hindrance : ByteArray := prog_1_method_42_code
def yX5_hindrance : MethodName := ⟨RX5, "hindrance", "(I)I"⟩
abbrev cX5_freeDistanceBehind : ByteArray := prog_1_method_43_code
def yX5_freeDistanceBehind : MethodName := ⟨RX5, "freeDistanceBehind", "(I)I"⟩
abbrev cX5_distanceNumber : ByteArray := prog_1_method_44_code
def yX5_distanceNumber : MethodName := ⟨RX5, "distanceNumber", "(I)I"⟩
abbrev cX5_countNumber : ByteArray := prog_1_method_45_code
def yX5_countNumber : MethodName := ⟨RX5, "countNumber", "(I)I"⟩
abbrev cX5_takenSnapshots : ByteArray := prog_1_method_46_code
def yX5_takenSnapshots : MethodName := ⟨RX5, "takenSnapshots", "()I"⟩
abbrev cX5_shareOfWay : ByteArray := prog_1_method_47_code
def yX5_shareOfWay : MethodName := ⟨RX5, "shareOfWay", "()D"⟩
abbrev cX5_freeDistanceByParts : ByteArray := prog_1_method_48_code
def yX5_freeDistanceByParts : MethodName := ⟨RX5, "freeDistanceByParts", "()I"⟩
abbrev cX5_cutIntoParts : ByteArray := prog_1_method_49_code
def yX5_cutIntoParts : MethodName := ⟨RX5, "cutIntoParts", "(I)I"⟩
abbrev cX5_cutOnePart : ByteArray := prog_1_method_50_code
def yX5_cutOnePart : MethodName := ⟨RX5, "cutOnePart", "(III)V"⟩
abbrev cX5_freeDistanceInPart : ByteArray := prog_1_method_51_code
def yX5_freeDistanceInPart : MethodName := ⟨RX5, "freeDistanceInPart", "(I)I"⟩
abbrev cX5_mixTriangulation : ByteArray := prog_1_method_52_code
def yX5_mixTriangulation : MethodName := ⟨RX5, "mixTriangulation", "(JI)J"⟩
abbrev cX5_mixDiagonals : ByteArray := prog_1_method_53_code
def yX5_mixDiagonals : MethodName := ⟨RX5, "mixDiagonals", "(J)J"⟩
abbrev cX5_bitsOf : ByteArray := prog_1_method_54_code
def yX5_bitsOf : MethodName := ⟨RX5, "bitsOf", "(D)J"⟩
def RX6 : String := "FlipPolygonsModel"
def TX6 : u_T := fun k => match k with
  | 0 => ("FlipPolygonsModel", "z", "[I", true)
  | 1 => ("FlipPolygonsModel", "states", "I", false)
  | 2 => ("FlipPolygonsModel", "history", "[I", true)
  | 3 => ("FlipPolygonsModel", "snaps", "[I", true)
  | 4 => ("FlipPolygonsModel", "taken", "[I", true)
  | 5 => ("FlipPolygonsModel", "length", "I", false)
  | 6 => ("FlipPolygonsModel", "text", "[I", true)
  | 7 => ("FlipPolygonsModel", "thrown", "I", false)
  | 8 => ("FlipPolygonsModel", "laid", "I", false)
  | 9 => ("FlipPolygonsModel", "diagonals", "I", false)
  | 10 => ("FlipPolygonsModel", "lesser", "[I", true)
  | 11 => ("FlipPolygonsModel", "greater", "[I", true)
  | 12 => ("FlipPolygonsModel", "numbers", "[I", true)
  | 13 => ("FlipPolygonsModel", "all", "I", false)
  | 14 => ("FlipPolygonsModel", "masks", "[I", true)
  | 15 => ("FlipPolygonsModel", "leads", "[I", true)
  | 16 => ("FlipPolygonsModel", "classes", "I", false)
  | 17 => ("FlipPolygonsModel", "widest", "I", false)
  | 18 => ("FlipPolygonsModel", "far", "[I", true)
  | 19 => ("FlipPolygonsModel", "ways", "[I", true)
  | 20 => ("FlipPolygonsModel", "order", "[I", true)
  | _ => ("FlipPolygonsModel", "hash", "J", false)
def tyX6 : Nat → FieldType := fun k => match k with
  | 0 => .array .int
  | 1 => .int
  | 2 => .array .int
  | 3 => .array .int
  | 4 => .array .int
  | 5 => .int
  | 6 => .array .int
  | 7 => .int
  | 8 => .int
  | 9 => .int
  | 10 => .array .int
  | 11 => .array .int
  | 12 => .array .int
  | 13 => .int
  | 14 => .array .int
  | 15 => .array .int
  | 16 => .int
  | 17 => .int
  | 18 => .array .int
  | 19 => .array .int
  | 20 => .array .int
  | _ => .long
abbrev wsX60 : List Cond := u_ws RX6 TX6 22
theorem nmX6 : ∀ a, a < 22 → ∀ b, b < 22 → a ≠ b → (TX6 a).2.1 ≠ (TX6 b).2.1 := by decide +kernel
theorem tyX6_ok : ∀ k, k < 22 → parseFieldDescriptor (TX6 k).2.2.1 = some (tyX6 k) := by decide +kernel
abbrev cX6_init : ByteArray := prog_8_method_1_code
def yX6_init : MethodName := ⟨RX6, "<init>", "()V"⟩
abbrev cX6_thrown : ByteArray := prog_8_method_2_code
def yX6_thrown : MethodName := ⟨RX6, "thrown", "()I"⟩
abbrev cX6_within : ByteArray := prog_8_method_3_code
def yX6_within : MethodName := ⟨RX6, "within", "(III)Z"⟩
abbrev cX6_save : ByteArray := prog_8_method_4_code
def yX6_save : MethodName := ⟨RX6, "save", "()V"⟩
abbrev cX6_has : ByteArray := prog_8_method_5_code
def yX6_has : MethodName := ⟨RX6, "has", "(II)Z"⟩
abbrev cX6_ones : ByteArray := prog_8_method_6_code
def yX6_ones : MethodName := ⟨RX6, "ones", "(I)I"⟩
abbrev cX6_layDiagonals : ByteArray := prog_8_method_7_code
def yX6_layDiagonals : MethodName := ⟨RX6, "layDiagonals", "()V"⟩
abbrev cX6_numberOf : ByteArray := prog_8_method_8_code
def yX6_numberOf : MethodName := ⟨RX6, "numberOf", "(II)I"⟩
abbrev cX6_isDiagonal : ByteArray := prog_8_method_9_code
def yX6_isDiagonal : MethodName := ⟨RX6, "isDiagonal", "(II)Z"⟩
abbrev cX6_cross : ByteArray := prog_8_method_10_code
def yX6_cross : MethodName := ⟨RX6, "cross", "(II)Z"⟩
abbrev cX6_fanOf : ByteArray := prog_8_method_11_code
def yX6_fanOf : MethodName := ⟨RX6, "fanOf", "(I)I"⟩
abbrev cX6_joined : ByteArray := prog_8_method_12_code
def yX6_joined : MethodName := ⟨RX6, "joined", "(III)Z"⟩
abbrev cX6_apex : ByteArray := prog_8_method_13_code
def yX6_apex : MethodName := ⟨RX6, "apex", "(III)I"⟩
abbrev cX6_flipped : ByteArray := prog_8_method_14_code
def yX6_flipped : MethodName := ⟨RX6, "flipped", "(II)I"⟩
abbrev cX6_behindFlip : ByteArray := prog_8_method_15_code
def yX6_behindFlip : MethodName := ⟨RX6, "behindFlip", "(II)I"⟩
abbrev cX6_indexOf : ByteArray := prog_8_method_16_code
def yX6_indexOf : MethodName := ⟨RX6, "indexOf", "(I)I"⟩
abbrev cX6_isKnown : ByteArray := prog_8_method_17_code
def yX6_isKnown : MethodName := ⟨RX6, "isKnown", "(I)Z"⟩
abbrev cX6_findAll : ByteArray := prog_8_method_18_code
def yX6_findAll : MethodName := ⟨RX6, "findAll", "()V"⟩
abbrev cX6_sortAll : ByteArray := prog_8_method_19_code
def yX6_sortAll : MethodName := ⟨RX6, "sortAll", "()V"⟩
abbrev cX6_layLeads : ByteArray := prog_8_method_20_code
def yX6_layLeads : MethodName := ⟨RX6, "layLeads", "()V"⟩
abbrev cX6_layAll : ByteArray := prog_8_method_21_code
def yX6_layAll : MethodName := ⟨RX6, "layAll", "()V"⟩
abbrev cX6_goFrom : ByteArray := prog_8_method_22_code
def yX6_goFrom : MethodName := ⟨RX6, "goFrom", "(II)V"⟩
abbrev cX6_freeFrom : ByteArray := prog_8_method_23_code
def yX6_freeFrom : MethodName := ⟨RX6, "freeFrom", "(I)I"⟩
abbrev cX6_lockedFrom : ByteArray := prog_8_method_24_code
def yX6_lockedFrom : MethodName := ⟨RX6, "lockedFrom", "(I)I"⟩
abbrev cX6_farthestFrom : ByteArray := prog_8_method_25_code
def yX6_farthestFrom : MethodName := ⟨RX6, "farthestFrom", "(I)I"⟩
abbrev cX6_leastSoFar : ByteArray := prog_8_method_26_code
def yX6_leastSoFar : MethodName := ⟨RX6, "leastSoFar", "(I)I"⟩
abbrev cX6_nextFlip : ByteArray := prog_8_method_27_code
def yX6_nextFlip : MethodName := ⟨RX6, "nextFlip", "()I"⟩
abbrev cX6_turned : ByteArray := prog_8_method_28_code
def yX6_turned : MethodName := ⟨RX6, "turned", "(II)I"⟩
abbrev cX6_mirrored : ByteArray := prog_8_method_29_code
def yX6_mirrored : MethodName := ⟨RX6, "mirrored", "(I)I"⟩
abbrev cX6_codeOf : ByteArray := prog_8_method_30_code
def yX6_codeOf : MethodName := ⟨RX6, "codeOf", "(I)I"⟩
abbrev cX6_likenesses : ByteArray := prog_8_method_31_code
def yX6_likenesses : MethodName := ⟨RX6, "likenesses", "(I)I"⟩
abbrev cX6_begin : ByteArray := prog_8_method_32_code
def yX6_begin : MethodName := ⟨RX6, "begin", "(I)I"⟩
abbrev cX6_isWhich : ByteArray := prog_8_method_33_code
def yX6_isWhich : MethodName := ⟨RX6, "isWhich", "(I)Z"⟩
abbrev cX6_canFlip : ByteArray := prog_8_method_34_code
def yX6_canFlip : MethodName := ⟨RX6, "canFlip", "(II)Z"⟩
abbrev cX6_flip : ByteArray := prog_8_method_35_code
def yX6_flip : MethodName := ⟨RX6, "flip", "(III)I"⟩
abbrev cX6_lay : ByteArray := prog_8_method_36_code
def yX6_lay : MethodName := ⟨RX6, "lay", "(II)V"⟩
abbrev cX6_isCorner : ByteArray := prog_8_method_37_code
def yX6_isCorner : MethodName := ⟨RX6, "isCorner", "(I)Z"⟩
abbrev cX6_fan : ByteArray := prog_8_method_38_code
def yX6_fan : MethodName := ⟨RX6, "fan", "(II)I"⟩
abbrev cX6_turn : ByteArray := prog_8_method_39_code
def yX6_turn : MethodName := ⟨RX6, "turn", "(II)I"⟩
abbrev cX6_mirror : ByteArray := prog_8_method_40_code
def yX6_mirror : MethodName := ⟨RX6, "mirror", "(I)I"⟩
abbrev cX6_exchange : ByteArray := prog_8_method_41_code
def yX6_exchange : MethodName := ⟨RX6, "exchange", "()I"⟩
abbrev cX6_lock : ByteArray := prog_8_method_42_code
def yX6_lock : MethodName := ⟨RX6, "lock", "(IIZ)I"⟩
abbrev cX6_walk : ByteArray := prog_8_method_43_code
def yX6_walk : MethodName := ⟨RX6, "walk", "(I)I"⟩
abbrev cX6_append : ByteArray := prog_8_method_44_code
def yX6_append : MethodName := ⟨RX6, "append", "(I)I"⟩
abbrev cX6_clearBuffer : ByteArray := prog_8_method_45_code
def yX6_clearBuffer : MethodName := ⟨RX6, "clearBuffer", "()I"⟩
abbrev cX6_canStand : ByteArray := prog_8_method_46_code
def yX6_canStand : MethodName := ⟨RX6, "canStand", "(I)Z"⟩
abbrev cX6_rightUpTo : ByteArray := prog_8_method_47_code
def yX6_rightUpTo : MethodName := ⟨RX6, "rightUpTo", "()I"⟩
abbrev cX6_firstError : ByteArray := prog_8_method_48_code
def yX6_firstError : MethodName := ⟨RX6, "firstError", "()I"⟩
abbrev cX6_toldAt : ByteArray := prog_8_method_49_code
def yX6_toldAt : MethodName := ⟨RX6, "toldAt", "(I)I"⟩
abbrev cX6_isTriangulation : ByteArray := prog_8_method_50_code
def yX6_isTriangulation : MethodName := ⟨RX6, "isTriangulation", "()Z"⟩
abbrev cX6_read : ByteArray := prog_8_method_51_code
def yX6_read : MethodName := ⟨RX6, "read", "(I)I"⟩
abbrev cX6_isSnapshot : ByteArray := prog_8_method_52_code
def yX6_isSnapshot : MethodName := ⟨RX6, "isSnapshot", "(I)Z"⟩
abbrev cX6_take : ByteArray := prog_8_method_53_code
def yX6_take : MethodName := ⟨RX6, "take", "(I)I"⟩
abbrev cX6_restore : ByteArray := prog_8_method_54_code
def yX6_restore : MethodName := ⟨RX6, "restore", "(I)I"⟩
abbrev cX6_undo : ByteArray := prog_8_method_55_code
def yX6_undo : MethodName := ⟨RX6, "undo", "()I"⟩
abbrev cX6_number : ByteArray := prog_8_method_56_code
def yX6_number : MethodName := ⟨RX6, "number", "(II)I"⟩
abbrev cX6_degreeOf : ByteArray := prog_8_method_57_code
def yX6_degreeOf : MethodName := ⟨RX6, "degreeOf", "(II)I"⟩
abbrev cX6_cornersOf : ByteArray := prog_8_method_58_code
def yX6_cornersOf : MethodName := ⟨RX6, "cornersOf", "(IZ)I"⟩
abbrev cX6_triangulationNow : ByteArray := prog_8_method_59_code
def yX6_triangulationNow : MethodName := ⟨RX6, "triangulationNow", "(II)I"⟩
abbrev cX6_triangulation : ByteArray := prog_8_method_60_code
def yX6_triangulation : MethodName := ⟨RX6, "triangulation", "(II)I"⟩
abbrev cX6_degree : ByteArray := prog_8_method_61_code
def yX6_degree : MethodName := ⟨RX6, "degree", "(II)I"⟩
abbrev cX6_otherNow : ByteArray := prog_8_method_62_code
def yX6_otherNow : MethodName := ⟨RX6, "otherNow", "(II)I"⟩
abbrev cX6_other : ByteArray := prog_8_method_63_code
def yX6_other : MethodName := ⟨RX6, "other", "(III)I"⟩
abbrev cX6_reason : ByteArray := prog_8_method_64_code
def yX6_reason : MethodName := ⟨RX6, "reason", "(I)I"⟩
abbrev cX6_whyNot : ByteArray := prog_8_method_65_code
def yX6_whyNot : MethodName := ⟨RX6, "whyNot", "(II)I"⟩
abbrev cX6_distanceNow : ByteArray := prog_8_method_66_code
def yX6_distanceNow : MethodName := ⟨RX6, "distanceNow", "(I)I"⟩
abbrev cX6_distance : ByteArray := prog_8_method_67_code
def yX6_distance : MethodName := ⟨RX6, "distance", "(I)I"⟩
abbrev cX6_flippedThen : ByteArray := prog_8_method_68_code
def yX6_flippedThen : MethodName := ⟨RX6, "flippedThen", "(I)I"⟩
abbrev cX6_ifFlipped : ByteArray := prog_8_method_69_code
def yX6_ifFlipped : MethodName := ⟨RX6, "ifFlipped", "(II)I"⟩
abbrev cX6_counted : ByteArray := prog_8_method_70_code
def yX6_counted : MethodName := ⟨RX6, "counted", "(I)I"⟩
abbrev cX6_count : ByteArray := prog_8_method_71_code
def yX6_count : MethodName := ⟨RX6, "count", "(I)I"⟩
abbrev cX6_share : ByteArray := prog_8_method_72_code
def yX6_share : MethodName := ⟨RX6, "share", "()D"⟩
abbrev cX6_farShare : ByteArray := prog_8_method_73_code
def yX6_farShare : MethodName := ⟨RX6, "farShare", "()D"⟩
abbrev cX6_mix : ByteArray := prog_8_method_74_code
def yX6_mix : MethodName := ⟨RX6, "mix", "(J)V"⟩
abbrev cX6_digest : ByteArray := prog_8_method_75_code
def yX6_digest : MethodName := ⟨RX6, "digest", "()J"⟩
def RJx145de : String := "java/io/Serializable"
def TJx145de : u_T := fun k => match k with
  | _ => ("", "", "", false)
def tyJx145de : Nat → FieldType := fun k => match k with
  | _ => .int
abbrev wsJx145de0 : List Cond := u_ws RJx145de TJx145de 0
theorem nmJx145de : ∀ a, a < 0 → ∀ b, b < 0 → a ≠ b → (TJx145de a).2.1 ≠ (TJx145de b).2.1 := by decide +kernel
theorem tyJx145de_ok : ∀ k, k < 0 → parseFieldDescriptor (TJx145de k).2.2.1 = some (tyJx145de k) := by decide +kernel
def RJxb160c : String := "java/lang/Comparable"
def TJxb160c : u_T := fun k => match k with
  | _ => ("", "", "", false)
def tyJxb160c : Nat → FieldType := fun k => match k with
  | _ => .int
abbrev wsJxb160c0 : List Cond := u_ws RJxb160c TJxb160c 0
theorem nmJxb160c : ∀ a, a < 0 → ∀ b, b < 0 → a ≠ b → (TJxb160c a).2.1 ≠ (TJxb160c b).2.1 := by decide +kernel
theorem tyJxb160c_ok : ∀ k, k < 0 → parseFieldDescriptor (TJxb160c k).2.2.1 = some (tyJxb160c k) := by decide +kernel
def RJxe99ae : String := "java/lang/Double"
def TJxe99ae : u_T := fun k => match k with
  | _ => ("", "", "", false)
def tyJxe99ae : Nat → FieldType := fun k => match k with
  | _ => .int
abbrev wsJxe99ae0 : List Cond := u_ws RJxe99ae TJxe99ae 0
theorem nmJxe99ae : ∀ a, a < 0 → ∀ b, b < 0 → a ≠ b → (TJxe99ae a).2.1 ≠ (TJxe99ae b).2.1 := by decide +kernel
theorem tyJxe99ae_ok : ∀ k, k < 0 → parseFieldDescriptor (TJxe99ae k).2.2.1 = some (tyJxe99ae k) := by decide +kernel
abbrev cJxe99ae_isNaN_b9ae7 : ByteArray := prog_9_method_6_code
def yJxe99ae_isNaN_b9ae7 : MethodName := ⟨RJxe99ae, "isNaN", "(D)Z"⟩
abbrev cJxe99ae_doubleToLongBits_ccdee : ByteArray := prog_9_method_23_code
def yJxe99ae_doubleToLongBits_ccdee : MethodName := ⟨RJxe99ae, "doubleToLongBits", "(D)J"⟩
def RJ6 : String := "java/lang/Integer"
def TJ6 : u_T := fun k => match k with
  | _ => ("", "", "", false)
def tyJ6 : Nat → FieldType := fun k => match k with
  | _ => .int
abbrev wsJ60 : List Cond := u_ws RJ6 TJ6 0
theorem nmJ6 : ∀ a, a < 0 → ∀ b, b < 0 → a ≠ b → (TJ6 a).2.1 ≠ (TJ6 b).2.1 := by decide +kernel
theorem tyJ6_ok : ∀ k, k < 0 → parseFieldDescriptor (TJ6 k).2.2.1 = some (tyJ6 k) := by decide +kernel
abbrev cJ6_bitCount_0f7a4 : ByteArray := prog_14_method_49_code
def yJ6_bitCount_0f7a4 : MethodName := ⟨RJ6, "bitCount", "(I)I"⟩
def RJ9 : String := "java/lang/Math"
def TJ9 : u_T := fun k => match k with
  | _ => ("", "", "", false)
def tyJ9 : Nat → FieldType := fun k => match k with
  | _ => .int
abbrev wsJ90 : List Cond := u_ws RJ9 TJ9 0
theorem nmJ9 : ∀ a, a < 0 → ∀ b, b < 0 → a ≠ b → (TJ9 a).2.1 ≠ (TJ9 b).2.1 := by decide +kernel
theorem tyJ9_ok : ∀ k, k < 0 → parseFieldDescriptor (TJ9 k).2.2.1 = some (tyJ9 k) := by decide +kernel
abbrev cJ9_max_7cf53 : ByteArray := prog_15_method_65_code
def yJ9_max_7cf53 : MethodName := ⟨RJ9, "max", "(II)I"⟩
abbrev cJ9_min_7cf53 : ByteArray := prog_15_method_69_code
def yJ9_min_7cf53 : MethodName := ⟨RJ9, "min", "(II)I"⟩
def RJxd2413 : String := "java/lang/Number"
def TJxd2413 : u_T := fun k => match k with
  | _ => ("", "", "", false)
def tyJxd2413 : Nat → FieldType := fun k => match k with
  | _ => .int
abbrev wsJxd24130 : List Cond := u_ws RJxd2413 TJxd2413 0
theorem nmJxd2413 : ∀ a, a < 0 → ∀ b, b < 0 → a ≠ b → (TJxd2413 a).2.1 ≠ (TJxd2413 b).2.1 := by decide +kernel
theorem tyJxd2413_ok : ∀ k, k < 0 → parseFieldDescriptor (TJxd2413 k).2.2.1 = some (tyJxd2413 k) := by decide +kernel
def RJ0 : String := "java/lang/String"
def TJ0 : u_T := fun k => match k with
  | _ => ("", "", "", false)
def tyJ0 : Nat → FieldType := fun k => match k with
  | _ => .int
abbrev wsJ00 : List Cond := u_ws RJ0 TJ0 0
theorem nmJ0 : ∀ a, a < 0 → ∀ b, b < 0 → a ≠ b → (TJ0 a).2.1 ≠ (TJ0 b).2.1 := by decide +kernel
theorem tyJ0_ok : ∀ k, k < 0 → parseFieldDescriptor (TJ0 k).2.2.1 = some (tyJ0 k) := by decide +kernel
def RJxfd54e : String := "java/lang/constant/Constable"
def TJxfd54e : u_T := fun k => match k with
  | _ => ("", "", "", false)
def tyJxfd54e : Nat → FieldType := fun k => match k with
  | _ => .int
abbrev wsJxfd54e0 : List Cond := u_ws RJxfd54e TJxfd54e 0
theorem nmJxfd54e : ∀ a, a < 0 → ∀ b, b < 0 → a ≠ b → (TJxfd54e a).2.1 ≠ (TJxfd54e b).2.1 := by decide +kernel
theorem tyJxfd54e_ok : ∀ k, k < 0 → parseFieldDescriptor (TJxfd54e k).2.2.1 = some (tyJxfd54e k) := by decide +kernel
def RJx3cf43 : String := "java/lang/constant/ConstantDesc"
def TJx3cf43 : u_T := fun k => match k with
  | _ => ("", "", "", false)
def tyJx3cf43 : Nat → FieldType := fun k => match k with
  | _ => .int
abbrev wsJx3cf430 : List Cond := u_ws RJx3cf43 TJx3cf43 0
theorem nmJx3cf43 : ∀ a, a < 0 → ∀ b, b < 0 → a ≠ b → (TJx3cf43 a).2.1 ≠ (TJx3cf43 b).2.1 := by decide +kernel
theorem tyJx3cf43_ok : ∀ k, k < 0 → parseFieldDescriptor (TJx3cf43 k).2.2.1 = some (tyJx3cf43 k) := by decide +kernel
def RJ7 : String := "java/util/Arrays"
def TJ7 : u_T := fun k => match k with
  | _ => ("", "", "", false)
def tyJ7 : Nat → FieldType := fun k => match k with
  | _ => .int
abbrev wsJ70 : List Cond := u_ws RJ7 TJ7 0
theorem nmJ7 : ∀ a, a < 0 → ∀ b, b < 0 → a ≠ b → (TJ7 a).2.1 ≠ (TJ7 b).2.1 := by decide +kernel
theorem tyJ7_ok : ∀ k, k < 0 → parseFieldDescriptor (TJ7 k).2.2.1 = some (tyJ7 k) := by decide +kernel
abbrev cJ7_fill_53178 : ByteArray := prog_20_method_103_code
def yJ7_fill_53178 : MethodName := ⟨RJ7, "fill", "([II)V"⟩
def RL : String := "FlipPolygonsLaw"
abbrev cL_begin : ByteArray := method_3_code
def yL_begin : MethodName := ⟨RL, "begin", "(LFlipPolygons;I[J)I"⟩
abbrev cL_flip : ByteArray := method_4_code
def yL_flip : MethodName := ⟨RL, "flip", "(LFlipPolygons;III[J)I"⟩
abbrev cL_fan : ByteArray := method_5_code
def yL_fan : MethodName := ⟨RL, "fan", "(LFlipPolygons;II[J)I"⟩
abbrev cL_turn : ByteArray := method_6_code
def yL_turn : MethodName := ⟨RL, "turn", "(LFlipPolygons;II[J)I"⟩
abbrev cL_mirror : ByteArray := method_7_code
def yL_mirror : MethodName := ⟨RL, "mirror", "(LFlipPolygons;I[J)I"⟩
abbrev cL_lock : ByteArray := method_8_code
def yL_lock : MethodName := ⟨RL, "lock", "(LFlipPolygons;IIZ[J)I"⟩
abbrev cL_walk : ByteArray := method_9_code
def yL_walk : MethodName := ⟨RL, "walk", "(LFlipPolygons;I[J)I"⟩
abbrev cL_append : ByteArray := method_10_code
def yL_append : MethodName := ⟨RL, "append", "(LFlipPolygons;I[J)I"⟩
abbrev cL_read : ByteArray := method_11_code
def yL_read : MethodName := ⟨RL, "read", "(LFlipPolygons;I[J)I"⟩
abbrev cL_take : ByteArray := method_12_code
def yL_take : MethodName := ⟨RL, "take", "(LFlipPolygons;I[J)I"⟩
abbrev cL_restore : ByteArray := method_13_code
def yL_restore : MethodName := ⟨RL, "restore", "(LFlipPolygons;I[J)I"⟩
abbrev cL_undo : ByteArray := method_14_code
def yL_undo : MethodName := ⟨RL, "undo", "(LFlipPolygons;[J)I"⟩
abbrev cL_number : ByteArray := method_15_code
def yL_number : MethodName := ⟨RL, "number", "(LFlipPolygons;II[J)I"⟩
abbrev cL_triangulation : ByteArray := method_16_code
def yL_triangulation : MethodName := ⟨RL, "triangulation", "(LFlipPolygons;II[J)I"⟩
abbrev cL_degree : ByteArray := method_17_code
def yL_degree : MethodName := ⟨RL, "degree", "(LFlipPolygons;II[J)I"⟩
abbrev cL_other : ByteArray := method_18_code
def yL_other : MethodName := ⟨RL, "other", "(LFlipPolygons;III[J)I"⟩
abbrev cL_whyNot : ByteArray := method_19_code
def yL_whyNot : MethodName := ⟨RL, "whyNot", "(LFlipPolygons;II[J)I"⟩
abbrev cL_distance : ByteArray := method_20_code
def yL_distance : MethodName := ⟨RL, "distance", "(LFlipPolygons;I[J)I"⟩
abbrev cL_ifFlipped : ByteArray := method_21_code
def yL_ifFlipped : MethodName := ⟨RL, "ifFlipped", "(LFlipPolygons;II[J)I"⟩
abbrev cL_count : ByteArray := method_22_code
def yL_count : MethodName := ⟨RL, "count", "(LFlipPolygons;I[J)I"⟩
abbrev cL_law : ByteArray := code
def yL_law : MethodName := ⟨RL, "law", "([I)Z"⟩
def wsX0_ofCorners : List Cond := .code yX0_ofCorners cX0_ofCorners 3 (some .int) :: ([])
abbrev vwCl : List vw_C := [(RX0, TX0, 9), (RX1, TX1, 9), (RX2, TX2, 6), (RX3, TX3, 5), (RX4, TX4, 2), (RX5, TX5, 11), (RX6, TX6, 22)]
/-- all words of the tables that a callee may be handed -/
def zq_all : List Cond := lw_tbl.filter goodWord
theorem zq_all_ok {w : Cond} (h : w ∈ lw_tbl) (hg : goodWord w = true) : w ∈ zq_all := List.mem_filter.mpr ⟨h, hg⟩
theorem zq_in1 {i : Nat} {w : Cond} (h : tables_1_1[i]? = some w) (hg : goodWord w = true) : w ∈ zq_all := zq_all_ok (List.mem_append_right _ (List.mem_append_left _ (List.mem_of_getElem? h))) hg
theorem zq_in2 {i : Nat} {w : Cond} (h : tables_1_2[i]? = some w) (hg : goodWord w = true) : w ∈ zq_all := zq_all_ok (List.mem_append_right _ (List.mem_append_right _ (List.mem_append_left _ (List.mem_of_getElem? h)))) hg
theorem zq_in3 {i : Nat} {w : Cond} (h : tables_1_3[i]? = some w) (hg : goodWord w = true) : w ∈ zq_all := zq_all_ok (List.mem_append_right _ (List.mem_append_right _ (List.mem_append_right _ (List.mem_append_left _ (List.mem_of_getElem? h))))) hg
theorem zq_in4 {i : Nat} {w : Cond} (h : tables_1_4[i]? = some w) (hg : goodWord w = true) : w ∈ zq_all := zq_all_ok (List.mem_append_right _ (List.mem_append_right _ (List.mem_append_right _ (List.mem_append_right _ (List.mem_append_left _ (List.mem_of_getElem? h)))))) hg
theorem zq_in5 {i : Nat} {w : Cond} (h : tables_1_5[i]? = some w) (hg : goodWord w = true) : w ∈ zq_all := zq_all_ok (List.mem_append_right _ (List.mem_append_right _ (List.mem_append_right _ (List.mem_append_right _ (List.mem_append_right _ (List.mem_append_left _ (List.mem_of_getElem? h))))))) hg
theorem zq_in6 {i : Nat} {w : Cond} (h : tables_1_6[i]? = some w) (hg : goodWord w = true) : w ∈ zq_all := zq_all_ok (List.mem_append_right _ (List.mem_append_right _ (List.mem_append_right _ (List.mem_append_right _ (List.mem_append_right _ (List.mem_append_right _ (List.mem_of_getElem? h))))))) hg
theorem zq_in0 {i : Nat} {w : Cond} (h : (k2_sels lw_privs)[i]? = some w) (hg : goodWord w = true) : w ∈ zq_all := zq_all_ok (List.mem_append_left _ (List.mem_of_getElem? h)) hg
theorem wd_0 : Cond.code yX0_slotsFor cX0_slotsFor 3 (some .int) ∈ zq_all := zq_in1 (i := 110) rfl rfl
theorem wd_1 : Cond.code yX0_init cX0_init 2 none ∈ zq_all := zq_in1 (i := 97) rfl rfl
theorem wd_2 : Cond.methodLink RX0 3 objectInit ∈ zq_all := zq_in1 (i := 98) rfl rfl
theorem wd_3 : Cond.instanceMethod objectInit ∈ zq_all := zq_in1 (i := 25) rfl rfl
theorem wd_4 : Cond.code objectInit ⟨#[0xb1]⟩ 1 none ∈ zq_all := zq_in1 (i := 26) rfl rfl
theorem wd_5 : Cond.fieldLink RX0 9 "FlipPolygons$FlipGraph" "polygon" "LFlipPolygons$Polygon;" ∈ zq_all := zq_in1 (i := 111) rfl rfl
theorem wd_6 : Cond.fieldLink RX0 29 "FlipPolygons$FlipGraph" "triangulations" "I" ∈ zq_all := zq_in1 (i := 114) rfl rfl
theorem wd_7 : Cond.fieldLink RX0 35 "FlipPolygons$FlipGraph" "classes" "I" ∈ zq_all := zq_in1 (i := 116) rfl rfl
theorem wd_8 : Cond.fieldLink RX0 41 "FlipPolygons$FlipGraph" "diameter" "I" ∈ zq_all := zq_in1 (i := 118) rfl rfl
theorem wd_9 : Cond.fieldLink RX0 44 "FlipPolygons$FlipGraph" "flipsOfEach" "I" ∈ zq_all := zq_in1 (i := 120) rfl rfl
theorem wd_10 : Cond.arrayClass .int ∈ zq_all := zq_in1 (i := 94) rfl rfl
theorem wd_11 : Cond.fieldLink RX0 47 "FlipPolygons$FlipGraph" "masks" "[I" ∈ zq_all := zq_in1 (i := 122) rfl rfl
theorem wd_12 : Cond.fieldLink RX0 50 "FlipPolygons$FlipGraph" "neighbors" "[I" ∈ zq_all := zq_in1 (i := 123) rfl rfl
theorem wd_13 : Cond.fieldLink RX0 57 "FlipPolygons$FlipGraph" "slots" "[I" ∈ zq_all := zq_in1 (i := 124) rfl rfl
theorem wd_14 : Cond.methodLink RX0 25 yX0_ofCorners ∈ zq_all := zq_in1 (i := 101) rfl rfl
theorem wd_15 : Cond.static yX0_ofCorners ∈ zq_all := zq_in1 (i := 102) rfl rfl
theorem wd_16 : Cond.initialized RX0 ∈ zq_all := zq_in1 (i := 2) rfl rfl
theorem wd_17 : Cond.code yX0_ofCorners cX0_ofCorners 3 (some .int) ∈ zq_all := zq_in1 (i := 103) rfl rfl
theorem wd_18 : Cond.methodLink RX0 53 yX0_slotsFor ∈ zq_all := zq_in1 (i := 108) rfl rfl
theorem wd_19 : Cond.static yX0_slotsFor ∈ zq_all := zq_in1 (i := 109) rfl rfl
theorem wd_20 : Cond.code yX1_isCorner cX1_isCorner 2 (some .boolean) ∈ zq_all := zq_in1 (i := 58) rfl rfl
theorem wd_21 : Cond.fieldLink RX1 9 "FlipPolygons$Polygon" "corners" "I" ∈ zq_all := zq_in1 (i := 59) rfl rfl
theorem wd_22 : Cond.code yX1_fanOf cX1_fanOf 2 (some .int) ∈ zq_all := zq_in1 (i := 155) rfl rfl
theorem wd_23 : Cond.fieldLink RX1 28 "FlipPolygons$Polygon" "fans" "[I" ∈ zq_all := zq_in1 (i := 70) rfl rfl
theorem wd_24 : Cond.methodLink RX1 59 yX1_isCorner ∈ zq_all := zq_in1 (i := 55) rfl rfl
theorem wd_25 : Cond.instanceMethod yX1_isCorner ∈ zq_all := zq_in1 (i := 56) rfl rfl
theorem wd_26 : Cond.selects RX1 yX1_isCorner yX1_isCorner ∈ zq_all := zq_in1 (i := 57) rfl rfl
theorem wd_27 : Cond.initialized RX1 ∈ zq_all := zq_in1 (i := 3) rfl rfl
theorem wd_28 : Cond.code yX0_slotOf cX0_slotOf 5 (some .int) ∈ zq_all := zq_in1 (i := 163) rfl rfl
theorem wd_29 : Cond.constant RX0 81 (-1640531535) ∈ zq_all := zq_in1 (i := 164) rfl rfl
theorem wd_30 : Cond.code yX0_indexOrNew cX0_indexOrNew 3 (some .int) ∈ zq_all := zq_in1 (i := 159) rfl rfl
theorem wd_31 : Cond.fieldLink RX0 60 "FlipPolygons$FlipGraph" "found" "I" ∈ zq_all := zq_in1 (i := 125) rfl rfl
theorem wd_32 : Cond.methodLink RX0 78 yX0_slotOf ∈ zq_all := zq_in1 (i := 160) rfl rfl
theorem wd_33 : Cond.instanceMethod yX0_slotOf ∈ zq_all := zq_in1 (i := 162) rfl rfl
theorem wd_34 : Cond.selects RX0 yX0_slotOf yX0_slotOf ∈ zq_all := zq_in0 (i := 4) rfl rfl
theorem wd_35 : Cond.code yJ6_bitCount_0f7a4 cJ6_bitCount_0f7a4 1 (some .int) ∈ zq_all := zq_in1 (i := 167) rfl rfl
theorem wd_36 : Cond.constant RJ6 265 (1431655765) ∈ zq_all := zq_in1 (i := 168) rfl rfl
theorem wd_37 : Cond.constant RJ6 266 (858993459) ∈ zq_all := zq_in1 (i := 169) rfl rfl
theorem wd_38 : Cond.constant RJ6 267 (252645135) ∈ zq_all := zq_in1 (i := 170) rfl rfl
theorem wd_39 : Cond.code yX1_otherOf cX1_otherOf 5 (some .int) ∈ zq_all := zq_in1 (i := 178) rfl rfl
theorem wd_40 : Cond.fieldLink RX1 15 "FlipPolygons$Polygon" "diagonals" "I" ∈ zq_all := zq_in1 (i := 63) rfl rfl
theorem wd_41 : Cond.fieldLink RX1 31 "FlipPolygons$Polygon" "crossing" "[I" ∈ zq_all := zq_in1 (i := 71) rfl rfl
theorem wd_42 : Cond.code yX1_flipped cX1_flipped 4 (some .int) ∈ zq_all := zq_in1 (i := 174) rfl rfl
theorem wd_43 : Cond.methodLink RX1 72 yX1_otherOf ∈ zq_all := zq_in1 (i := 175) rfl rfl
theorem wd_44 : Cond.instanceMethod yX1_otherOf ∈ zq_all := zq_in1 (i := 176) rfl rfl
theorem wd_45 : Cond.selects RX1 yX1_otherOf yX1_otherOf ∈ zq_all := zq_in1 (i := 177) rfl rfl
theorem wd_46 : Cond.methodLink RX0 63 yX1_fanOf ∈ zq_all := zq_in1 (i := 152) rfl rfl
theorem wd_47 : Cond.instanceMethod yX1_fanOf ∈ zq_all := zq_in1 (i := 153) rfl rfl
theorem wd_48 : Cond.selects RX1 yX1_fanOf yX1_fanOf ∈ zq_all := zq_in1 (i := 154) rfl rfl
theorem wd_49 : Cond.methodLink RX0 66 yX0_indexOrNew ∈ zq_all := zq_in1 (i := 156) rfl rfl
theorem wd_50 : Cond.instanceMethod yX0_indexOrNew ∈ zq_all := zq_in1 (i := 158) rfl rfl
theorem wd_51 : Cond.selects RX0 yX0_indexOrNew yX0_indexOrNew ∈ zq_all := zq_in0 (i := 3) rfl rfl
theorem wd_52 : Cond.methodLink RX0 69 yJ6_bitCount_0f7a4 ∈ zq_all := zq_in1 (i := 165) rfl rfl
theorem wd_53 : Cond.static yJ6_bitCount_0f7a4 ∈ zq_all := zq_in1 (i := 166) rfl rfl
theorem wd_54 : Cond.initialized RJ6 ∈ zq_all := zq_in1 (i := 6) rfl rfl
theorem wd_55 : Cond.methodLink RX0 74 yX1_flipped ∈ zq_all := zq_in1 (i := 171) rfl rfl
theorem wd_56 : Cond.instanceMethod yX1_flipped ∈ zq_all := zq_in1 (i := 172) rfl rfl
theorem wd_57 : Cond.selects RX1 yX1_flipped yX1_flipped ∈ zq_all := zq_in1 (i := 173) rfl rfl
theorem wd_58 : Cond.code yX0_build cX0_build 5 none ∈ zq_all := zq_in1 (i := 151) rfl rfl
theorem wd_59 : Cond.code yX0_neighborOf cX0_neighborOf 4 (some .int) ∈ zq_all := zq_in2 (i := 128) rfl rfl
theorem wd_60 : Cond.code yX0_maskAt cX0_maskAt 2 (some .int) ∈ zq_all := zq_in2 (i := 124) rfl rfl
theorem wd_61 : Cond.code yX0_indexOf cX0_indexOf 2 (some .int) ∈ zq_all := zq_in2 (i := 116) rfl rfl
theorem wd_62 : Cond.code yJ7_fill_53178 cJ7_fill_53178 4 none ∈ zq_all := zq_in1 (i := 42) rfl rfl
theorem wd_63 : Cond.code yX1_nameDiagonals cX1_nameDiagonals 4 none ∈ zq_all := zq_in1 (i := 39) rfl rfl
theorem wd_64 : Cond.fieldLink RX1 25 "FlipPolygons$Polygon" "numbers" "[I" ∈ zq_all := zq_in1 (i := 69) rfl rfl
theorem wd_65 : Cond.fieldLink RX1 18 "FlipPolygons$Polygon" "lesser" "[I" ∈ zq_all := zq_in1 (i := 65) rfl rfl
theorem wd_66 : Cond.fieldLink RX1 22 "FlipPolygons$Polygon" "greater" "[I" ∈ zq_all := zq_in1 (i := 67) rfl rfl
theorem wd_67 : Cond.methodLink RX1 49 yJ7_fill_53178 ∈ zq_all := zq_in1 (i := 40) rfl rfl
theorem wd_68 : Cond.static yJ7_fill_53178 ∈ zq_all := zq_in1 (i := 41) rfl rfl
theorem wd_69 : Cond.initialized RJ7 ∈ zq_all := zq_in1 (i := 4) rfl rfl
theorem wd_70 : Cond.code yX1_findCrossings cX1_findCrossings 4 none ∈ zq_all := zq_in1 (i := 46) rfl rfl
theorem wd_71 : Cond.code yX1_numberOf cX1_numberOf 3 (some .int) ∈ zq_all := zq_in1 (i := 54) rfl rfl
theorem wd_72 : Cond.code yX1_findImages cX1_findImages 4 none ∈ zq_all := zq_in1 (i := 50) rfl rfl
theorem wd_73 : Cond.fieldLink RX1 34 "FlipPolygons$Polygon" "afterTurn" "[I" ∈ zq_all := zq_in1 (i := 73) rfl rfl
theorem wd_74 : Cond.fieldLink RX1 37 "FlipPolygons$Polygon" "afterMirror" "[I" ∈ zq_all := zq_in1 (i := 74) rfl rfl
theorem wd_75 : Cond.methodLink RX1 55 yX1_numberOf ∈ zq_all := zq_in1 (i := 51) rfl rfl
theorem wd_76 : Cond.instanceMethod yX1_numberOf ∈ zq_all := zq_in1 (i := 52) rfl rfl
theorem wd_77 : Cond.selects RX1 yX1_numberOf yX1_numberOf ∈ zq_all := zq_in1 (i := 53) rfl rfl
theorem wd_78 : Cond.methodLink RX1 3 objectInit ∈ zq_all := zq_in1 (i := 35) rfl rfl
theorem wd_79 : Cond.methodLink RX1 40 yX1_nameDiagonals ∈ zq_all := zq_in1 (i := 36) rfl rfl
theorem wd_80 : Cond.instanceMethod yX1_nameDiagonals ∈ zq_all := zq_in1 (i := 38) rfl rfl
theorem wd_81 : Cond.selects RX1 yX1_nameDiagonals yX1_nameDiagonals ∈ zq_all := zq_in0 (i := 0) rfl rfl
theorem wd_82 : Cond.methodLink RX1 43 yX1_findCrossings ∈ zq_all := zq_in1 (i := 43) rfl rfl
theorem wd_83 : Cond.instanceMethod yX1_findCrossings ∈ zq_all := zq_in1 (i := 45) rfl rfl
theorem wd_84 : Cond.selects RX1 yX1_findCrossings yX1_findCrossings ∈ zq_all := zq_in0 (i := 1) rfl rfl
theorem wd_85 : Cond.methodLink RX1 46 yX1_findImages ∈ zq_all := zq_in1 (i := 47) rfl rfl
theorem wd_86 : Cond.instanceMethod yX1_findImages ∈ zq_all := zq_in1 (i := 49) rfl rfl
theorem wd_87 : Cond.selects RX1 yX1_findImages yX1_findImages ∈ zq_all := zq_in0 (i := 2) rfl rfl
theorem wd_88 : Cond.code yX1_init cX1_init 2 none ∈ zq_all := zq_in1 (i := 34) rfl rfl
theorem wd_89 : Cond.code yX1_degreeIn cX1_degreeIn 3 (some .int) ∈ zq_all := zq_in2 (i := 188) rfl rfl
theorem wd_90 : Cond.methodLink RX1 63 yX1_fanOf ∈ zq_all := zq_in2 (i := 189) rfl rfl
theorem wd_91 : Cond.methodLink RX1 67 yJ6_bitCount_0f7a4 ∈ zq_all := zq_in2 (i := 190) rfl rfl
theorem wd_92 : Cond.code yX5_isIn cX5_isIn 2 (some .boolean) ∈ zq_all := zq_in2 (i := 173) rfl rfl
theorem wd_93 : Cond.code yX1_moved cX1_moved 4 (some .int) ∈ zq_all := zq_in2 (i := 170) rfl rfl
theorem wd_94 : Cond.static yX5_isIn ∈ zq_all := zq_in2 (i := 172) rfl rfl
theorem wd_95 : Cond.initialized RX5 ∈ zq_all := zq_in1 (i := 1) rfl rfl
theorem wd_96 : Cond.code yX1_turnedBy cX1_turnedBy 5 (some .int) ∈ zq_all := zq_in3 (i := 198) rfl rfl
theorem wd_97 : Cond.methodLink RX1 75 yX1_moved ∈ zq_all := zq_in2 (i := 168) rfl rfl
theorem wd_98 : Cond.static yX1_moved ∈ zq_all := zq_in2 (i := 169) rfl rfl
theorem wd_99 : Cond.code yX1_mirrored cX1_mirrored 2 (some .int) ∈ zq_all := zq_in2 (i := 167) rfl rfl
theorem wd_100 : Cond.code yX1_nextImage cX1_nextImage 3 (some .int) ∈ zq_all := zq_in2 (i := 163) rfl rfl
theorem wd_101 : Cond.methodLink RX1 91 yX1_mirrored ∈ zq_all := zq_in2 (i := 164) rfl rfl
theorem wd_102 : Cond.instanceMethod yX1_mirrored ∈ zq_all := zq_in2 (i := 165) rfl rfl
theorem wd_103 : Cond.selects RX1 yX1_mirrored yX1_mirrored ∈ zq_all := zq_in2 (i := 166) rfl rfl
theorem wd_104 : Cond.code yX1_leastImage cX1_leastImage 5 (some .int) ∈ zq_all := zq_in2 (i := 159) rfl rfl
theorem wd_105 : Cond.methodLink RX1 86 Lib.Math.min.name ∈ zq_all := zq_in2 (i := 174) rfl rfl
theorem wd_106 : Cond.static Lib.Math.min.name ∈ zq_all := zq_in2 (i := 175) rfl rfl
theorem wd_107 : Cond.initialized "java/lang/Math" ∈ zq_all := zq_in1 (i := 17) rfl rfl
theorem wd_108 : Cond.code Lib.Math.min.name Lib.Math.min.code 2 (some .int) ∈ zq_all := zq_in2 (i := 176) rfl rfl
theorem wd_109 : Cond.methodLink RX1 83 yX1_nextImage ∈ zq_all := zq_in2 (i := 160) rfl rfl
theorem wd_110 : Cond.instanceMethod yX1_nextImage ∈ zq_all := zq_in2 (i := 162) rfl rfl
theorem wd_111 : Cond.selects RX1 yX1_nextImage yX1_nextImage ∈ zq_all := zq_in0 (i := 16) rfl rfl
theorem wd_112 : Cond.code yX1_symmetries cX1_symmetries 5 (some .int) ∈ zq_all := zq_in2 (i := 180) rfl rfl
theorem wd_113 : Cond.code yX1_ears cX1_ears 4 (some .int) ∈ zq_all := zq_in2 (i := 184) rfl rfl
theorem wd_114 : Cond.methodLink RX1 94 yX1_degreeIn ∈ zq_all := zq_in2 (i := 185) rfl rfl
theorem wd_115 : Cond.instanceMethod yX1_degreeIn ∈ zq_all := zq_in2 (i := 186) rfl rfl
theorem wd_116 : Cond.selects RX1 yX1_degreeIn yX1_degreeIn ∈ zq_all := zq_in2 (i := 187) rfl rfl
theorem wd_117 : Cond.methodLink RX1 97 Lib.Math.max.name ∈ zq_all := zq_in2 (i := 195) rfl rfl
theorem wd_118 : Cond.static Lib.Math.max.name ∈ zq_all := zq_in2 (i := 196) rfl rfl
theorem wd_119 : Cond.code Lib.Math.max.name Lib.Math.max.code 2 (some .int) ∈ zq_all := zq_in2 (i := 197) rfl rfl
theorem wd_120 : Cond.code yX1_greatestDegree cX1_greatestDegree 4 (some .int) ∈ zq_all := zq_in2 (i := 194) rfl rfl
theorem wd_121 : Cond.code yX1_maskInPart cX1_maskInPart 10 (some .int) ∈ zq_all := zq_in3 (i := 5) rfl rfl
theorem wd_122 : Cond.code yX2_init cX2_init 2 none ∈ zq_all := zq_in1 (i := 230) rfl rfl
theorem wd_123 : Cond.methodLink RX2 3 objectInit ∈ zq_all := zq_in1 (i := 231) rfl rfl
theorem wd_124 : Cond.fieldLink RX2 9 "FlipPolygons$Reach" "flips" "[I" ∈ zq_all := zq_in1 (i := 232) rfl rfl
theorem wd_125 : Cond.fieldLink RX2 15 "FlipPolygons$Reach" "ways" "[I" ∈ zq_all := zq_in1 (i := 233) rfl rfl
theorem wd_126 : Cond.fieldLink RX2 18 "FlipPolygons$Reach" "queue" "[I" ∈ zq_all := zq_in1 (i := 234) rfl rfl
theorem wd_127 : Cond.fieldLink RX2 21 "FlipPolygons$Reach" "graph" "LFlipPolygons$FlipGraph;" ∈ zq_all := zq_in1 (i := 235) rfl rfl
theorem wd_128 : Cond.fieldLink RX2 25 "FlipPolygons$Reach" "source" "I" ∈ zq_all := zq_in1 (i := 236) rfl rfl
theorem wd_129 : Cond.code yX2_spreadOn cX2_spreadOn 8 (some .int) ∈ zq_all := zq_in2 (i := 120) rfl rfl
theorem wd_130 : Cond.fieldLink RX2 29 "FlipPolygons$Reach" "barred" "I" ∈ zq_all := zq_in1 (i := 237) rfl rfl
theorem wd_131 : Cond.methodLink RX2 48 yX0_maskAt ∈ zq_all := zq_in2 (i := 121) rfl rfl
theorem wd_132 : Cond.instanceMethod yX0_maskAt ∈ zq_all := zq_in2 (i := 122) rfl rfl
theorem wd_133 : Cond.selects RX0 yX0_maskAt yX0_maskAt ∈ zq_all := zq_in2 (i := 123) rfl rfl
theorem wd_134 : Cond.methodLink RX2 54 yX0_neighborOf ∈ zq_all := zq_in2 (i := 125) rfl rfl
theorem wd_135 : Cond.instanceMethod yX0_neighborOf ∈ zq_all := zq_in2 (i := 126) rfl rfl
theorem wd_136 : Cond.selects RX0 yX0_neighborOf yX0_neighborOf ∈ zq_all := zq_in2 (i := 127) rfl rfl
theorem wd_137 : Cond.methodLink RX2 32 yJ7_fill_53178 ∈ zq_all := zq_in2 (i := 112) rfl rfl
theorem wd_138 : Cond.methodLink RX2 38 yX0_indexOf ∈ zq_all := zq_in2 (i := 113) rfl rfl
theorem wd_139 : Cond.instanceMethod yX0_indexOf ∈ zq_all := zq_in2 (i := 114) rfl rfl
theorem wd_140 : Cond.selects RX0 yX0_indexOf yX0_indexOf ∈ zq_all := zq_in2 (i := 115) rfl rfl
theorem wd_141 : Cond.methodLink RX2 44 yX2_spreadOn ∈ zq_all := zq_in2 (i := 117) rfl rfl
theorem wd_142 : Cond.instanceMethod yX2_spreadOn ∈ zq_all := zq_in2 (i := 119) rfl rfl
theorem wd_143 : Cond.selects RX2 yX2_spreadOn yX2_spreadOn ∈ zq_all := zq_in0 (i := 11) rfl rfl
theorem wd_144 : Cond.initialized RX2 ∈ zq_all := zq_in1 (i := 9) rfl rfl
theorem wd_145 : Cond.code yX2_measure cX2_measure 7 none ∈ zq_all := zq_in2 (i := 111) rfl rfl
theorem wd_146 : Cond.code yX2_flipsTo cX2_flipsTo 3 (some .int) ∈ zq_all := zq_in2 (i := 132) rfl rfl
theorem wd_147 : Cond.code yX2_waysTo cX2_waysTo 3 (some .int) ∈ zq_all := zq_in3 (i := 13) rfl rfl
theorem wd_148 : Cond.code yX2_farthest cX2_farthest 3 (some .int) ∈ zq_all := zq_in2 (i := 201) rfl rfl
theorem wd_149 : Cond.methodLink RX2 57 Lib.Math.max.name ∈ zq_all := zq_in2 (i := 202) rfl rfl
theorem wd_150 : Cond.code yX2_leastFarthest cX2_leastFarthest 5 (some .int) ∈ zq_all := zq_in2 (i := 206) rfl rfl
theorem wd_151 : Cond.methodLink RX2 62 yX2_farthest ∈ zq_all := zq_in2 (i := 207) rfl rfl
theorem wd_152 : Cond.instanceMethod yX2_farthest ∈ zq_all := zq_in2 (i := 199) rfl rfl
theorem wd_153 : Cond.selects RX2 yX2_farthest yX2_farthest ∈ zq_all := zq_in2 (i := 200) rfl rfl
theorem wd_154 : Cond.code yX3_init cX3_init 1 none ∈ zq_all := zq_in1 (i := 183) rfl rfl
theorem wd_155 : Cond.methodLink RX3 3 objectInit ∈ zq_all := zq_in1 (i := 184) rfl rfl
theorem wd_156 : Cond.code yX3_startWith cX3_startWith 2 none ∈ zq_all := zq_in1 (i := 209) rfl rfl
theorem wd_157 : Cond.fieldLink RX3 9 "FlipPolygons$State" "graph" "LFlipPolygons$FlipGraph;" ∈ zq_all := zq_in1 (i := 185) rfl rfl
theorem wd_158 : Cond.fieldLink RX3 27 "FlipPolygons$State" "present" "I" ∈ zq_all := zq_in1 (i := 187) rfl rfl
theorem wd_159 : Cond.fieldLink RX3 31 "FlipPolygons$State" "goal" "I" ∈ zq_all := zq_in1 (i := 189) rfl rfl
theorem wd_160 : Cond.fieldLink RX3 34 "FlipPolygons$State" "locks" "I" ∈ zq_all := zq_in1 (i := 191) rfl rfl
theorem wd_161 : Cond.methodLink RX3 21 yX1_fanOf ∈ zq_all := zq_in1 (i := 210) rfl rfl
theorem wd_162 : Cond.code yX3_copy cX3_copy 2 none ∈ zq_all := zq_in2 (i := 56) rfl rfl
theorem wd_163 : Cond.fieldLink RX3 37 "FlipPolygons$State" "flips" "I" ∈ zq_all := zq_in1 (i := 193) rfl rfl
theorem wd_164 : Cond.code yX3_mask cX3_mask 2 (some .int) ∈ zq_all := zq_in2 (i := 107) rfl rfl
theorem wd_165 : Cond.code yX3_put cX3_put 3 none ∈ zq_all := zq_in3 (i := 171) rfl rfl
theorem wd_166 : Cond.code yX4_init cX4_init 1 none ∈ zq_all := zq_in1 (i := 216) rfl rfl
theorem wd_167 : Cond.methodLink RX4 3 objectInit ∈ zq_all := zq_in1 (i := 217) rfl rfl
theorem wd_168 : Cond.fieldLink RX4 11 "FlipPolygons$Text" "codes" "[I" ∈ zq_all := zq_in1 (i := 218) rfl rfl
theorem wd_169 : Cond.code yX4_isFull cX4_isFull 1 (some .boolean) ∈ zq_all := zq_in3 (i := 236) rfl rfl
theorem wd_170 : Cond.fieldLink RX4 15 "FlipPolygons$Text" "length" "I" ∈ zq_all := zq_in1 (i := 219) rfl rfl
theorem wd_171 : Cond.code yX4_add cX4_add 2 none ∈ zq_all := zq_in4 (i := 1) rfl rfl
theorem wd_172 : Cond.code yX4_clear cX4_clear 1 none ∈ zq_all := zq_in2 (i := 64) rfl rfl
theorem wd_173 : Cond.code yX4_fullLength cX4_fullLength 1 (some .int) ∈ zq_all := zq_in2 (i := 75) rfl rfl
theorem wd_174 : Cond.code yX4_cornerAt cX4_cornerAt 2 (some .int) ∈ zq_all := zq_in2 (i := 83) rfl rfl
theorem wd_175 : Cond.code yX4_beginsDiagonal cX4_beginsDiagonal 2 (some .boolean) ∈ zq_all := zq_in2 (i := 86) rfl rfl
theorem wd_176 : Cond.code yX4_fits cX4_fits 3 (some .boolean) ∈ zq_all := zq_in2 (i := 79) rfl rfl
theorem wd_177 : Cond.methodLink RX4 32 yX4_cornerAt ∈ zq_all := zq_in2 (i := 80) rfl rfl
theorem wd_178 : Cond.instanceMethod yX4_cornerAt ∈ zq_all := zq_in2 (i := 82) rfl rfl
theorem wd_179 : Cond.selects RX4 yX4_cornerAt yX4_cornerAt ∈ zq_all := zq_in0 (i := 7) rfl rfl
theorem wd_180 : Cond.initialized RX4 ∈ zq_all := zq_in1 (i := 8) rfl rfl
theorem wd_181 : Cond.methodLink RX4 36 yX4_beginsDiagonal ∈ zq_all := zq_in2 (i := 84) rfl rfl
theorem wd_182 : Cond.static yX4_beginsDiagonal ∈ zq_all := zq_in2 (i := 85) rfl rfl
theorem wd_183 : Cond.methodLink RX4 39 yX1_numberOf ∈ zq_all := zq_in2 (i := 87) rfl rfl
theorem wd_184 : Cond.methodLink RX4 24 yX4_fullLength ∈ zq_all := zq_in2 (i := 73) rfl rfl
theorem wd_185 : Cond.static yX4_fullLength ∈ zq_all := zq_in2 (i := 74) rfl rfl
theorem wd_186 : Cond.methodLink RX4 28 yX4_fits ∈ zq_all := zq_in2 (i := 76) rfl rfl
theorem wd_187 : Cond.instanceMethod yX4_fits ∈ zq_all := zq_in2 (i := 78) rfl rfl
theorem wd_188 : Cond.selects RX4 yX4_fits yX4_fits ∈ zq_all := zq_in0 (i := 6) rfl rfl
theorem wd_189 : Cond.code yX4_firstWrong cX4_firstWrong 4 (some .int) ∈ zq_all := zq_in2 (i := 72) rfl rfl
theorem wd_190 : Cond.methodLink RX4 43 yX4_firstWrong ∈ zq_all := zq_in4 (i := 13) rfl rfl
theorem wd_191 : Cond.instanceMethod yX4_firstWrong ∈ zq_all := zq_in2 (i := 70) rfl rfl
theorem wd_192 : Cond.selects RX4 yX4_firstWrong yX4_firstWrong ∈ zq_all := zq_in2 (i := 71) rfl rfl
theorem wd_193 : Cond.code yX4_isComplete cX4_isComplete 2 (some .boolean) ∈ zq_all := zq_in4 (i := 12) rfl rfl
theorem wd_194 : Cond.code yX4_maskIn cX4_maskIn 5 (some .int) ∈ zq_all := zq_in4 (i := 18) rfl rfl
theorem wd_195 : Cond.code yX4_mixInto cX4_mixInto 6 (some .long) ∈ zq_all := zq_in3 (i := 41) rfl rfl
theorem wd_196 : Cond.constantLong RX4 53 (31) ∈ zq_all := zq_in3 (i := 42) rfl rfl
theorem wd_197 : Cond.methodLink RX5 275 yX0_build ∈ zq_all := zq_in1 (i := 148) rfl rfl
theorem wd_198 : Cond.instanceMethod yX0_build ∈ zq_all := zq_in1 (i := 149) rfl rfl
theorem wd_199 : Cond.selects RX0 yX0_build yX0_build ∈ zq_all := zq_in1 (i := 150) rfl rfl
theorem wd_200 : Cond.code yX5_buildUpTo cX5_buildUpTo 3 none ∈ zq_all := zq_in1 (i := 147) rfl rfl
theorem wd_201 : Cond.methodLink RX5 1 objectInit ∈ zq_all := zq_in1 (i := 24) rfl rfl
theorem wd_202 : Cond.classLink RX5 9 RX0 ∈ zq_all := zq_in1 (i := 27) rfl rfl
theorem wd_203 : Cond.fieldLink RX5 11 "FlipPolygons" "graphs" "[LFlipPolygons$FlipGraph;" ∈ zq_all := zq_in2 (i := 11) rfl rfl
theorem wd_204 : Cond.instantiable RX0 9 ∈ zq_all := zq_in1 (i := 29) rfl rfl
theorem wd_205 : Cond.classLink RX5 15 RX1 ∈ zq_all := zq_in1 (i := 30) rfl rfl
theorem wd_206 : Cond.instantiable RX1 9 ∈ zq_all := zq_in1 (i := 31) rfl rfl
theorem wd_207 : Cond.classLink RX5 27 RX3 ∈ zq_all := zq_in1 (i := 179) rfl rfl
theorem wd_208 : Cond.instantiable RX3 5 ∈ zq_all := zq_in1 (i := 180) rfl rfl
theorem wd_209 : Cond.initialized RX3 ∈ zq_all := zq_in1 (i := 7) rfl rfl
theorem wd_210 : Cond.fieldLink RX5 30 "FlipPolygons" "now" "LFlipPolygons$State;" ∈ zq_all := zq_in2 (i := 12) rfl rfl
theorem wd_211 : Cond.fieldLink RX5 38 "FlipPolygons" "saved" "[LFlipPolygons$State;" ∈ zq_all := zq_in2 (i := 13) rfl rfl
theorem wd_212 : Cond.fieldLink RX5 42 "FlipPolygons" "snapshots" "[LFlipPolygons$State;" ∈ zq_all := zq_in2 (i := 15) rfl rfl
theorem wd_213 : Cond.classLink RX5 45 RX4 ∈ zq_all := zq_in1 (i := 212) rfl rfl
theorem wd_214 : Cond.instantiable RX4 2 ∈ zq_all := zq_in1 (i := 213) rfl rfl
theorem wd_215 : Cond.fieldLink RX5 48 "FlipPolygons" "text" "LFlipPolygons$Text;" ∈ zq_all := zq_in2 (i := 16) rfl rfl
theorem wd_216 : Cond.classLink RX5 52 RX2 ∈ zq_all := zq_in1 (i := 226) rfl rfl
theorem wd_217 : Cond.instantiable RX2 6 ∈ zq_all := zq_in1 (i := 227) rfl rfl
theorem wd_218 : Cond.fieldLink RX5 56 "FlipPolygons" "fromPresent" "LFlipPolygons$Reach;" ∈ zq_all := zq_in2 (i := 17) rfl rfl
theorem wd_219 : Cond.fieldLink RX5 60 "FlipPolygons" "fromGoal" "LFlipPolygons$Reach;" ∈ zq_all := zq_in2 (i := 18) rfl rfl
theorem wd_220 : Cond.fieldLink RX5 63 "FlipPolygons" "fromGoalWithLocks" "LFlipPolygons$Reach;" ∈ zq_all := zq_in2 (i := 19) rfl rfl
theorem wd_221 : Cond.fieldLink RX5 66 "FlipPolygons" "fromPart" "LFlipPolygons$Reach;" ∈ zq_all := zq_in2 (i := 20) rfl rfl
theorem wd_222 : Cond.fieldLink RX5 69 "FlipPolygons" "parts" "[I" ∈ zq_all := zq_in2 (i := 21) rfl rfl
theorem wd_223 : Cond.methodLink RX5 17 yX1_init ∈ zq_all := zq_in1 (i := 32) rfl rfl
theorem wd_224 : Cond.instanceMethod yX1_init ∈ zq_all := zq_in1 (i := 33) rfl rfl
theorem wd_225 : Cond.methodLink RX5 20 yX0_init ∈ zq_all := zq_in1 (i := 95) rfl rfl
theorem wd_226 : Cond.instanceMethod yX0_init ∈ zq_all := zq_in1 (i := 96) rfl rfl
theorem wd_227 : Cond.methodLink RX5 23 yX5_buildUpTo ∈ zq_all := zq_in1 (i := 145) rfl rfl
theorem wd_228 : Cond.static yX5_buildUpTo ∈ zq_all := zq_in1 (i := 146) rfl rfl
theorem wd_229 : Cond.instanceMethod yX3_init ∈ zq_all := zq_in1 (i := 182) rfl rfl
theorem wd_230 : Cond.methodLink RX5 34 yX3_startWith ∈ zq_all := zq_in1 (i := 206) rfl rfl
theorem wd_231 : Cond.instanceMethod yX3_startWith ∈ zq_all := zq_in1 (i := 207) rfl rfl
theorem wd_232 : Cond.selects RX3 yX3_startWith yX3_startWith ∈ zq_all := zq_in1 (i := 208) rfl rfl
theorem wd_233 : Cond.methodLink RX5 47 yX4_init ∈ zq_all := zq_in1 (i := 214) rfl rfl
theorem wd_234 : Cond.instanceMethod yX4_init ∈ zq_all := zq_in1 (i := 215) rfl rfl
theorem wd_235 : Cond.methodLink RX5 54 yX2_init ∈ zq_all := zq_in1 (i := 228) rfl rfl
theorem wd_236 : Cond.instanceMethod yX2_init ∈ zq_all := zq_in1 (i := 229) rfl rfl
theorem wd_237 : Cond.code yX5_init cX5_init 3 none ∈ zq_all := zq_in1 (i := 23) rfl rfl
theorem wd_238 : Cond.code yX5_saveState cX5_saveState 2 none ∈ zq_all := zq_in2 (i := 52) rfl rfl
theorem wd_239 : Cond.fieldLink RX5 224 "FlipPolygons" "savedStates" "I" ∈ zq_all := zq_in2 (i := 14) rfl rfl
theorem wd_240 : Cond.methodLink RX5 215 yX3_copy ∈ zq_all := zq_in2 (i := 53) rfl rfl
theorem wd_241 : Cond.instanceMethod yX3_copy ∈ zq_all := zq_in2 (i := 54) rfl rfl
theorem wd_242 : Cond.selects RX3 yX3_copy yX3_copy ∈ zq_all := zq_in2 (i := 55) rfl rfl
theorem wd_243 : Cond.classLink RX5 73 "java/lang/IllegalArgumentException" ∈ zq_all := zq_in3 (i := 51) rfl rfl
theorem wd_244 : Cond.initialized "java/lang/IllegalArgumentException" ∈ zq_all := zq_in1 (i := 14) rfl rfl
theorem wd_245 : Cond.methodLink RX5 80 yX5_saveState ∈ zq_all := zq_in2 (i := 49) rfl rfl
theorem wd_246 : Cond.instanceMethod yX5_saveState ∈ zq_all := zq_in2 (i := 51) rfl rfl
theorem wd_247 : Cond.selects RX5 yX5_saveState yX5_saveState ∈ zq_all := zq_in0 (i := 5) rfl rfl
theorem wd_248 : Cond.code yX5_begin cX5_begin 4 (some .int) ∈ zq_all := zq_in3 (i := 50) rfl rfl
theorem wd_249 : Cond.code yX5_isWhich cX5_isWhich 1 (some .boolean) ∈ zq_all := zq_in3 (i := 131) rfl rfl
theorem wd_250 : Cond.code yX5_makeFlip cX5_makeFlip 5 (some .int) ∈ zq_all := zq_in3 (i := 167) rfl rfl
theorem wd_251 : Cond.methodLink RX5 108 yX3_mask ∈ zq_all := zq_in2 (i := 104) rfl rfl
theorem wd_252 : Cond.instanceMethod yX3_mask ∈ zq_all := zq_in2 (i := 105) rfl rfl
theorem wd_253 : Cond.selects RX3 yX3_mask yX3_mask ∈ zq_all := zq_in2 (i := 106) rfl rfl
theorem wd_254 : Cond.methodLink RX5 237 yX1_otherOf ∈ zq_all := zq_in3 (i := 23) rfl rfl
theorem wd_255 : Cond.methodLink RX5 278 yX1_flipped ∈ zq_all := zq_in3 (i := 18) rfl rfl
theorem wd_256 : Cond.methodLink RX5 151 yX3_put ∈ zq_all := zq_in3 (i := 168) rfl rfl
theorem wd_257 : Cond.instanceMethod yX3_put ∈ zq_all := zq_in3 (i := 169) rfl rfl
theorem wd_258 : Cond.selects RX3 yX3_put yX3_put ∈ zq_all := zq_in3 (i := 170) rfl rfl
theorem wd_259 : Cond.classLink RX5 103 "java/lang/IndexOutOfBoundsException" ∈ zq_all := zq_in3 (i := 132) rfl rfl
theorem wd_260 : Cond.initialized "java/lang/IndexOutOfBoundsException" ∈ zq_all := zq_in1 (i := 15) rfl rfl
theorem wd_261 : Cond.classLink RX5 119 "java/lang/IllegalStateException" ∈ zq_all := zq_in3 (i := 148) rfl rfl
theorem wd_262 : Cond.initialized "java/lang/IllegalStateException" ∈ zq_all := zq_in1 (i := 16) rfl rfl
theorem wd_263 : Cond.methodLink RX5 95 yX1_numberOf ∈ zq_all := zq_in3 (i := 128) rfl rfl
theorem wd_264 : Cond.methodLink RX5 99 yX5_isWhich ∈ zq_all := zq_in3 (i := 129) rfl rfl
theorem wd_265 : Cond.static yX5_isWhich ∈ zq_all := zq_in3 (i := 130) rfl rfl
theorem wd_266 : Cond.methodLink RX5 112 yX5_isIn ∈ zq_all := zq_in2 (i := 233) rfl rfl
theorem wd_267 : Cond.methodLink RX5 124 yX5_makeFlip ∈ zq_all := zq_in3 (i := 164) rfl rfl
theorem wd_268 : Cond.instanceMethod yX5_makeFlip ∈ zq_all := zq_in3 (i := 166) rfl rfl
theorem wd_269 : Cond.selects RX5 yX5_makeFlip yX5_makeFlip ∈ zq_all := zq_in0 (i := 31) rfl rfl
theorem wd_270 : Cond.code yX5_flip cX5_flip 5 (some .int) ∈ zq_all := zq_in3 (i := 127) rfl rfl
theorem wd_271 : Cond.code yX5_putNew cX5_putNew 3 none ∈ zq_all := zq_in3 (i := 185) rfl rfl
theorem wd_272 : Cond.methodLink RX5 127 yX1_isCorner ∈ zq_all := zq_in3 (i := 179) rfl rfl
theorem wd_273 : Cond.methodLink RX5 132 yX1_fanOf ∈ zq_all := zq_in3 (i := 181) rfl rfl
theorem wd_274 : Cond.methodLink RX5 135 yJ6_bitCount_0f7a4 ∈ zq_all := zq_in2 (i := 143) rfl rfl
theorem wd_275 : Cond.methodLink RX5 140 yX5_putNew ∈ zq_all := zq_in3 (i := 182) rfl rfl
theorem wd_276 : Cond.instanceMethod yX5_putNew ∈ zq_all := zq_in3 (i := 184) rfl rfl
theorem wd_277 : Cond.selects RX5 yX5_putNew yX5_putNew ∈ zq_all := zq_in0 (i := 32) rfl rfl
theorem wd_278 : Cond.code yX5_fan cX5_fan 5 (some .int) ∈ zq_all := zq_in3 (i := 178) rfl rfl
theorem wd_279 : Cond.methodLink RX5 148 yX1_turnedBy ∈ zq_all := zq_in3 (i := 195) rfl rfl
theorem wd_280 : Cond.instanceMethod yX1_turnedBy ∈ zq_all := zq_in3 (i := 196) rfl rfl
theorem wd_281 : Cond.selects RX1 yX1_turnedBy yX1_turnedBy ∈ zq_all := zq_in3 (i := 197) rfl rfl
theorem wd_282 : Cond.code yX5_turn cX5_turn 4 (some .int) ∈ zq_all := zq_in3 (i := 192) rfl rfl
theorem wd_283 : Cond.methodLink RX5 154 yX1_mirrored ∈ zq_all := zq_in3 (i := 206) rfl rfl
theorem wd_284 : Cond.code yX5_mirror cX5_mirror 3 (some .int) ∈ zq_all := zq_in3 (i := 205) rfl rfl
theorem wd_285 : Cond.code yX5_exchange cX5_exchange 2 (some .int) ∈ zq_all := zq_in2 (i := 48) rfl rfl
theorem wd_286 : Cond.code yX5_lock cX5_lock 6 (some .int) ∈ zq_all := zq_in3 (i := 213) rfl rfl
theorem wd_287 : Cond.code yX5_hasDistance cX5_hasDistance 1 (some .boolean) ∈ zq_all := zq_in2 (i := 220) rfl rfl
theorem wd_288 : Cond.methodLink RX5 303 yX2_measure ∈ zq_all := zq_in2 (i := 108) rfl rfl
theorem wd_289 : Cond.instanceMethod yX2_measure ∈ zq_all := zq_in2 (i := 109) rfl rfl
theorem wd_290 : Cond.selects RX2 yX2_measure yX2_measure ∈ zq_all := zq_in2 (i := 110) rfl rfl
theorem wd_291 : Cond.code yX5_reachWithLocks cX5_reachWithLocks 2 (some (.object "FlipPolygons$Reach")) ∈ zq_all := zq_in2 (i := 224) rfl rfl
theorem wd_292 : Cond.methodLink RX5 307 yX5_hasDistance ∈ zq_all := zq_in2 (i := 217) rfl rfl
theorem wd_293 : Cond.instanceMethod yX5_hasDistance ∈ zq_all := zq_in2 (i := 219) rfl rfl
theorem wd_294 : Cond.selects RX5 yX5_hasDistance yX5_hasDistance ∈ zq_all := zq_in0 (i := 19) rfl rfl
theorem wd_295 : Cond.methodLink RX5 310 yX5_reachWithLocks ∈ zq_all := zq_in2 (i := 221) rfl rfl
theorem wd_296 : Cond.instanceMethod yX5_reachWithLocks ∈ zq_all := zq_in2 (i := 223) rfl rfl
theorem wd_297 : Cond.selects RX5 yX5_reachWithLocks yX5_reachWithLocks ∈ zq_all := zq_in0 (i := 20) rfl rfl
theorem wd_298 : Cond.methodLink RX5 314 yX2_flipsTo ∈ zq_all := zq_in2 (i := 129) rfl rfl
theorem wd_299 : Cond.instanceMethod yX2_flipsTo ∈ zq_all := zq_in2 (i := 130) rfl rfl
theorem wd_300 : Cond.selects RX2 yX2_flipsTo yX2_flipsTo ∈ zq_all := zq_in2 (i := 131) rfl rfl
theorem wd_301 : Cond.code yX5_distanceWithLocks cX5_distanceWithLocks 1 (some .int) ∈ zq_all := zq_in2 (i := 216) rfl rfl
theorem wd_302 : Cond.code yX5_nextFlip cX5_nextFlip 6 (some .int) ∈ zq_all := zq_in3 (i := 17) rfl rfl
theorem wd_303 : Cond.methodLink RX5 169 yX5_distanceWithLocks ∈ zq_all := zq_in2 (i := 213) rfl rfl
theorem wd_304 : Cond.instanceMethod yX5_distanceWithLocks ∈ zq_all := zq_in2 (i := 215) rfl rfl
theorem wd_305 : Cond.selects RX5 yX5_distanceWithLocks yX5_distanceWithLocks ∈ zq_all := zq_in0 (i := 18) rfl rfl
theorem wd_306 : Cond.methodLink RX5 175 yX5_nextFlip ∈ zq_all := zq_in3 (i := 14) rfl rfl
theorem wd_307 : Cond.instanceMethod yX5_nextFlip ∈ zq_all := zq_in3 (i := 16) rfl rfl
theorem wd_308 : Cond.selects RX5 yX5_nextFlip yX5_nextFlip ∈ zq_all := zq_in0 (i := 26) rfl rfl
theorem wd_309 : Cond.code yX5_walk cX5_walk 5 (some .int) ∈ zq_all := zq_in3 (i := 222) rfl rfl
theorem wd_310 : Cond.code yX5_append cX5_append 2 (some .int) ∈ zq_all := zq_in3 (i := 231) rfl rfl
theorem wd_311 : Cond.methodLink RX5 180 yX4_isFull ∈ zq_all := zq_in3 (i := 233) rfl rfl
theorem wd_312 : Cond.instanceMethod yX4_isFull ∈ zq_all := zq_in3 (i := 234) rfl rfl
theorem wd_313 : Cond.selects RX4 yX4_isFull yX4_isFull ∈ zq_all := zq_in3 (i := 235) rfl rfl
theorem wd_314 : Cond.methodLink RX5 186 yX4_add ∈ zq_all := zq_in3 (i := 238) rfl rfl
theorem wd_315 : Cond.instanceMethod yX4_add ∈ zq_all := zq_in3 (i := 239) rfl rfl
theorem wd_316 : Cond.selects RX4 yX4_add yX4_add ∈ zq_all := zq_in4 (i := 0) rfl rfl
theorem wd_317 : Cond.code yX5_clearBuffer cX5_clearBuffer 2 (some .int) ∈ zq_all := zq_in2 (i := 60) rfl rfl
theorem wd_318 : Cond.methodLink RX5 192 yX4_clear ∈ zq_all := zq_in2 (i := 61) rfl rfl
theorem wd_319 : Cond.instanceMethod yX4_clear ∈ zq_all := zq_in2 (i := 62) rfl rfl
theorem wd_320 : Cond.selects RX4 yX4_clear yX4_clear ∈ zq_all := zq_in2 (i := 63) rfl rfl
theorem wd_321 : Cond.methodLink RX5 195 yX4_firstWrong ∈ zq_all := zq_in2 (i := 69) rfl rfl
theorem wd_322 : Cond.code yX5_firstError cX5_firstError 1 (some .int) ∈ zq_all := zq_in2 (i := 68) rfl rfl
theorem wd_323 : Cond.methodLink RX5 199 yX4_isComplete ∈ zq_all := zq_in4 (i := 9) rfl rfl
theorem wd_324 : Cond.instanceMethod yX4_isComplete ∈ zq_all := zq_in4 (i := 10) rfl rfl
theorem wd_325 : Cond.selects RX4 yX4_isComplete yX4_isComplete ∈ zq_all := zq_in4 (i := 11) rfl rfl
theorem wd_326 : Cond.methodLink RX5 205 yX4_maskIn ∈ zq_all := zq_in4 (i := 15) rfl rfl
theorem wd_327 : Cond.instanceMethod yX4_maskIn ∈ zq_all := zq_in4 (i := 16) rfl rfl
theorem wd_328 : Cond.selects RX4 yX4_maskIn yX4_maskIn ∈ zq_all := zq_in4 (i := 17) rfl rfl
theorem wd_329 : Cond.code yX5_read cX5_read 3 (some .int) ∈ zq_all := zq_in4 (i := 8) rfl rfl
theorem wd_330 : Cond.code yX5_isSnapshot cX5_isSnapshot 2 (some .boolean) ∈ zq_all := zq_in4 (i := 31) rfl rfl
theorem wd_331 : Cond.code yX5_take cX5_take 2 (some .int) ∈ zq_all := zq_in4 (i := 27) rfl rfl
theorem wd_332 : Cond.methodLink RX5 210 yX5_isSnapshot ∈ zq_all := zq_in4 (i := 28) rfl rfl
theorem wd_333 : Cond.instanceMethod yX5_isSnapshot ∈ zq_all := zq_in4 (i := 30) rfl rfl
theorem wd_334 : Cond.selects RX5 yX5_isSnapshot yX5_isSnapshot ∈ zq_all := zq_in0 (i := 33) rfl rfl
theorem wd_335 : Cond.code yX5_restore cX5_restore 3 (some .int) ∈ zq_all := zq_in4 (i := 39) rfl rfl
theorem wd_336 : Cond.code yX5_undo cX5_undo 2 (some .int) ∈ zq_all := zq_in4 (i := 47) rfl rfl
theorem wd_337 : Cond.code yX5_number cX5_number 4 (some .int) ∈ zq_all := zq_in4 (i := 55) rfl rfl
theorem wd_338 : Cond.code yX5_reachFrom cX5_reachFrom 3 (some (.object "FlipPolygons$Reach")) ∈ zq_all := zq_in2 (i := 103) rfl rfl
theorem wd_339 : Cond.methodLink RX5 281 yX1_leastImage ∈ zq_all := zq_in2 (i := 156) rfl rfl
theorem wd_340 : Cond.instanceMethod yX1_leastImage ∈ zq_all := zq_in2 (i := 157) rfl rfl
theorem wd_341 : Cond.selects RX1 yX1_leastImage yX1_leastImage ∈ zq_all := zq_in2 (i := 158) rfl rfl
theorem wd_342 : Cond.methodLink RX5 284 yX1_symmetries ∈ zq_all := zq_in2 (i := 177) rfl rfl
theorem wd_343 : Cond.instanceMethod yX1_symmetries ∈ zq_all := zq_in2 (i := 178) rfl rfl
theorem wd_344 : Cond.selects RX1 yX1_symmetries yX1_symmetries ∈ zq_all := zq_in2 (i := 179) rfl rfl
theorem wd_345 : Cond.methodLink RX5 287 yX1_ears ∈ zq_all := zq_in2 (i := 181) rfl rfl
theorem wd_346 : Cond.instanceMethod yX1_ears ∈ zq_all := zq_in2 (i := 182) rfl rfl
theorem wd_347 : Cond.selects RX1 yX1_ears yX1_ears ∈ zq_all := zq_in2 (i := 183) rfl rfl
theorem wd_348 : Cond.methodLink RX5 290 yX1_greatestDegree ∈ zq_all := zq_in2 (i := 191) rfl rfl
theorem wd_349 : Cond.instanceMethod yX1_greatestDegree ∈ zq_all := zq_in2 (i := 192) rfl rfl
theorem wd_350 : Cond.selects RX1 yX1_greatestDegree yX1_greatestDegree ∈ zq_all := zq_in2 (i := 193) rfl rfl
theorem wd_351 : Cond.methodLink RX5 293 yX5_reachFrom ∈ zq_all := zq_in2 (i := 100) rfl rfl
theorem wd_352 : Cond.instanceMethod yX5_reachFrom ∈ zq_all := zq_in2 (i := 102) rfl rfl
theorem wd_353 : Cond.selects RX5 yX5_reachFrom yX5_reachFrom ∈ zq_all := zq_in0 (i := 10) rfl rfl
theorem wd_354 : Cond.methodLink RX5 297 yX2_farthest ∈ zq_all := zq_in2 (i := 198) rfl rfl
theorem wd_355 : Cond.methodLink RX5 300 yX2_leastFarthest ∈ zq_all := zq_in2 (i := 203) rfl rfl
theorem wd_356 : Cond.instanceMethod yX2_leastFarthest ∈ zq_all := zq_in2 (i := 204) rfl rfl
theorem wd_357 : Cond.selects RX2 yX2_leastFarthest yX2_leastFarthest ∈ zq_all := zq_in2 (i := 205) rfl rfl
theorem wd_358 : Cond.code yX5_numberOfTriangulation cX5_numberOfTriangulation 5 (some .int) ∈ zq_all := zq_in2 (i := 155) rfl rfl
theorem wd_359 : Cond.methodLink RX5 231 yX5_numberOfTriangulation ∈ zq_all := zq_in2 (i := 152) rfl rfl
theorem wd_360 : Cond.instanceMethod yX5_numberOfTriangulation ∈ zq_all := zq_in2 (i := 154) rfl rfl
theorem wd_361 : Cond.selects RX5 yX5_numberOfTriangulation yX5_numberOfTriangulation ∈ zq_all := zq_in0 (i := 15) rfl rfl
theorem wd_362 : Cond.code yX5_triangulation cX5_triangulation 3 (some .int) ∈ zq_all := zq_in4 (i := 62) rfl rfl
theorem wd_363 : Cond.methodLink RX5 234 yX1_degreeIn ∈ zq_all := zq_in2 (i := 208) rfl rfl
theorem wd_364 : Cond.code yX5_degree cX5_degree 3 (some .int) ∈ zq_all := zq_in4 (i := 70) rfl rfl
theorem wd_365 : Cond.code yX5_other cX5_other 5 (some .int) ∈ zq_all := zq_in4 (i := 77) rfl rfl
theorem wd_366 : Cond.code yX5_hindrance cX5_hindrance 2 (some .int) ∈ zq_all := zq_in3 (i := 27) rfl rfl
theorem wd_367 : Cond.code yX5_whyNot cX5_whyNot 4 (some .int) ∈ zq_all := zq_in4 (i := 84) rfl rfl
theorem wd_368 : Cond.methodLink RX5 240 yX5_hindrance ∈ zq_all := zq_in3 (i := 24) rfl rfl
theorem wd_369 : Cond.instanceMethod yX5_hindrance ∈ zq_all := zq_in3 (i := 26) rfl rfl
theorem wd_370 : Cond.selects RX5 yX5_hindrance yX5_hindrance ∈ zq_all := zq_in0 (i := 28) rfl rfl
theorem wd_371 : Cond.code yX5_freeDistance cX5_freeDistance 1 (some .int) ∈ zq_all := zq_in2 (i := 99) rfl rfl
theorem wd_372 : Cond.code yX5_cutOnePart cX5_cutOnePart 7 none ∈ zq_all := zq_in2 (i := 237) rfl rfl
theorem wd_373 : Cond.code yX5_cutIntoParts cX5_cutIntoParts 5 (some .int) ∈ zq_all := zq_in2 (i := 232) rfl rfl
theorem wd_374 : Cond.methodLink RX5 356 yX5_cutOnePart ∈ zq_all := zq_in2 (i := 234) rfl rfl
theorem wd_375 : Cond.instanceMethod yX5_cutOnePart ∈ zq_all := zq_in2 (i := 236) rfl rfl
theorem wd_376 : Cond.selects RX5 yX5_cutOnePart yX5_cutOnePart ∈ zq_all := zq_in0 (i := 23) rfl rfl
theorem wd_377 : Cond.methodLink RX5 360 yX1_maskInPart ∈ zq_all := zq_in3 (i := 2) rfl rfl
theorem wd_378 : Cond.instanceMethod yX1_maskInPart ∈ zq_all := zq_in3 (i := 3) rfl rfl
theorem wd_379 : Cond.selects RX1 yX1_maskInPart yX1_maskInPart ∈ zq_all := zq_in3 (i := 4) rfl rfl
theorem wd_380 : Cond.code yX5_freeDistanceInPart cX5_freeDistanceInPart 5 (some .int) ∈ zq_all := zq_in3 (i := 1) rfl rfl
theorem wd_381 : Cond.methodLink RX5 344 yX5_cutIntoParts ∈ zq_all := zq_in2 (i := 229) rfl rfl
theorem wd_382 : Cond.instanceMethod yX5_cutIntoParts ∈ zq_all := zq_in2 (i := 231) rfl rfl
theorem wd_383 : Cond.selects RX5 yX5_cutIntoParts yX5_cutIntoParts ∈ zq_all := zq_in0 (i := 22) rfl rfl
theorem wd_384 : Cond.methodLink RX5 347 yX5_freeDistanceInPart ∈ zq_all := zq_in2 (i := 238) rfl rfl
theorem wd_385 : Cond.instanceMethod yX5_freeDistanceInPart ∈ zq_all := zq_in3 (i := 0) rfl rfl
theorem wd_386 : Cond.selects RX5 yX5_freeDistanceInPart yX5_freeDistanceInPart ∈ zq_all := zq_in0 (i := 24) rfl rfl
theorem wd_387 : Cond.code yX5_freeDistanceByParts cX5_freeDistanceByParts 4 (some .int) ∈ zq_all := zq_in2 (i := 228) rfl rfl
theorem wd_388 : Cond.methodLink RX5 317 yX2_waysTo ∈ zq_all := zq_in3 (i := 10) rfl rfl
theorem wd_389 : Cond.instanceMethod yX2_waysTo ∈ zq_all := zq_in3 (i := 11) rfl rfl
theorem wd_390 : Cond.selects RX2 yX2_waysTo yX2_waysTo ∈ zq_all := zq_in3 (i := 12) rfl rfl
theorem wd_391 : Cond.code yX5_shortestWays cX5_shortestWays 1 (some .int) ∈ zq_all := zq_in3 (i := 9) rfl rfl
theorem wd_392 : Cond.methodLink RX5 323 yX5_freeDistance ∈ zq_all := zq_in2 (i := 96) rfl rfl
theorem wd_393 : Cond.instanceMethod yX5_freeDistance ∈ zq_all := zq_in2 (i := 98) rfl rfl
theorem wd_394 : Cond.selects RX5 yX5_freeDistance yX5_freeDistance ∈ zq_all := zq_in0 (i := 9) rfl rfl
theorem wd_395 : Cond.methodLink RX5 326 yX5_freeDistanceByParts ∈ zq_all := zq_in2 (i := 225) rfl rfl
theorem wd_396 : Cond.instanceMethod yX5_freeDistanceByParts ∈ zq_all := zq_in2 (i := 227) rfl rfl
theorem wd_397 : Cond.selects RX5 yX5_freeDistanceByParts yX5_freeDistanceByParts ∈ zq_all := zq_in0 (i := 21) rfl rfl
theorem wd_398 : Cond.methodLink RX5 329 yX5_shortestWays ∈ zq_all := zq_in3 (i := 6) rfl rfl
theorem wd_399 : Cond.instanceMethod yX5_shortestWays ∈ zq_all := zq_in3 (i := 8) rfl rfl
theorem wd_400 : Cond.selects RX5 yX5_shortestWays yX5_shortestWays ∈ zq_all := zq_in0 (i := 25) rfl rfl
theorem wd_401 : Cond.code yX5_distanceNumber cX5_distanceNumber 2 (some .int) ∈ zq_all := zq_in2 (i := 212) rfl rfl
theorem wd_402 : Cond.methodLink RX5 243 yX5_distanceNumber ∈ zq_all := zq_in2 (i := 209) rfl rfl
theorem wd_403 : Cond.instanceMethod yX5_distanceNumber ∈ zq_all := zq_in2 (i := 211) rfl rfl
theorem wd_404 : Cond.selects RX5 yX5_distanceNumber yX5_distanceNumber ∈ zq_all := zq_in0 (i := 17) rfl rfl
theorem wd_405 : Cond.code yX5_distance cX5_distance 2 (some .int) ∈ zq_all := zq_in4 (i := 91) rfl rfl
theorem wd_406 : Cond.code yX5_freeDistanceBehind cX5_freeDistanceBehind 2 (some .int) ∈ zq_all := zq_in3 (i := 31) rfl rfl
theorem wd_407 : Cond.methodLink RX5 246 yX5_freeDistanceBehind ∈ zq_all := zq_in3 (i := 28) rfl rfl
theorem wd_408 : Cond.instanceMethod yX5_freeDistanceBehind ∈ zq_all := zq_in3 (i := 30) rfl rfl
theorem wd_409 : Cond.selects RX5 yX5_freeDistanceBehind yX5_freeDistanceBehind ∈ zq_all := zq_in0 (i := 29) rfl rfl
theorem wd_410 : Cond.code yX5_ifFlipped cX5_ifFlipped 4 (some .int) ∈ zq_all := zq_in4 (i := 98) rfl rfl
theorem wd_411 : Cond.code yX5_takenSnapshots cX5_takenSnapshots 3 (some .int) ∈ zq_all := zq_in2 (i := 147) rfl rfl
theorem wd_412 : Cond.code yX5_countNumber cX5_countNumber 2 (some .int) ∈ zq_all := zq_in2 (i := 142) rfl rfl
theorem wd_413 : Cond.methodLink RX5 341 yX5_takenSnapshots ∈ zq_all := zq_in2 (i := 144) rfl rfl
theorem wd_414 : Cond.instanceMethod yX5_takenSnapshots ∈ zq_all := zq_in2 (i := 146) rfl rfl
theorem wd_415 : Cond.selects RX5 yX5_takenSnapshots yX5_takenSnapshots ∈ zq_all := zq_in0 (i := 13) rfl rfl
theorem wd_416 : Cond.code yX5_count cX5_count 2 (some .int) ∈ zq_all := zq_in4 (i := 105) rfl rfl
theorem wd_417 : Cond.methodLink RX5 249 yX5_countNumber ∈ zq_all := zq_in2 (i := 139) rfl rfl
theorem wd_418 : Cond.instanceMethod yX5_countNumber ∈ zq_all := zq_in2 (i := 141) rfl rfl
theorem wd_419 : Cond.selects RX5 yX5_countNumber yX5_countNumber ∈ zq_all := zq_in0 (i := 12) rfl rfl
theorem wd_420 : Cond.code yX5_shareOfWay cX5_shareOfWay 2 (some .double) ∈ zq_all := zq_in2 (i := 95) rfl rfl
theorem wd_421 : Cond.methodLink RX5 252 yX5_shareOfWay ∈ zq_all := zq_in2 (i := 92) rfl rfl
theorem wd_422 : Cond.instanceMethod yX5_shareOfWay ∈ zq_all := zq_in2 (i := 94) rfl rfl
theorem wd_423 : Cond.selects RX5 yX5_shareOfWay yX5_shareOfWay ∈ zq_all := zq_in0 (i := 8) rfl rfl
theorem wd_424 : Cond.code yX5_farShare cX5_farShare 1 (some .double) ∈ zq_all := zq_in2 (i := 91) rfl rfl
theorem wd_425 : Cond.constantLong RX5 258 (31) ∈ zq_all := zq_in2 (i := 138) rfl rfl
theorem wd_426 : Cond.code yX5_mixTriangulation cX5_mixTriangulation 8 (some .long) ∈ zq_all := zq_in2 (i := 151) rfl rfl
theorem wd_427 : Cond.code yX5_mixDiagonals cX5_mixDiagonals 7 (some .long) ∈ zq_all := zq_in3 (i := 22) rfl rfl
theorem wd_428 : Cond.code yX5_bitsOf cX5_bitsOf 7 (some .long) ∈ zq_all := zq_in3 (i := 34) rfl rfl
theorem wd_429 : Cond.constantLong RX5 364 (1023) ∈ zq_all := zq_in3 (i := 35) rfl rfl
theorem wd_430 : Cond.constantDouble RX5 366 (4611686018427387904) ∈ zq_all := zq_in3 (i := 36) rfl rfl
theorem wd_431 : Cond.constantDouble RX5 368 (4841369599423283200) ∈ zq_all := zq_in3 (i := 37) rfl rfl
theorem wd_432 : Cond.constantLong RX5 256 (2477) ∈ zq_all := zq_in2 (i := 137) rfl rfl
theorem wd_433 : Cond.methodLink RX5 260 yX5_mixTriangulation ∈ zq_all := zq_in2 (i := 148) rfl rfl
theorem wd_434 : Cond.instanceMethod yX5_mixTriangulation ∈ zq_all := zq_in2 (i := 150) rfl rfl
theorem wd_435 : Cond.selects RX5 yX5_mixTriangulation yX5_mixTriangulation ∈ zq_all := zq_in0 (i := 14) rfl rfl
theorem wd_436 : Cond.methodLink RX5 264 yX5_mixDiagonals ∈ zq_all := zq_in3 (i := 19) rfl rfl
theorem wd_437 : Cond.instanceMethod yX5_mixDiagonals ∈ zq_all := zq_in3 (i := 21) rfl rfl
theorem wd_438 : Cond.selects RX5 yX5_mixDiagonals yX5_mixDiagonals ∈ zq_all := zq_in0 (i := 27) rfl rfl
theorem wd_439 : Cond.methodLink RX5 268 yX5_bitsOf ∈ zq_all := zq_in3 (i := 32) rfl rfl
theorem wd_440 : Cond.static yX5_bitsOf ∈ zq_all := zq_in3 (i := 33) rfl rfl
theorem wd_441 : Cond.methodLink RX5 272 yX4_mixInto ∈ zq_all := zq_in3 (i := 38) rfl rfl
theorem wd_442 : Cond.instanceMethod yX4_mixInto ∈ zq_all := zq_in3 (i := 39) rfl rfl
theorem wd_443 : Cond.selects RX4 yX4_mixInto yX4_mixInto ∈ zq_all := zq_in3 (i := 40) rfl rfl
theorem wd_444 : Cond.code yX5_digest cX5_digest 4 (some .long) ∈ zq_all := zq_in2 (i := 136) rfl rfl
theorem wd_445 : Cond.code yX6_layDiagonals cX6_layDiagonals 3 none ∈ zq_all := zq_in4 (i := 119) rfl rfl
theorem wd_446 : Cond.fieldLink RX6 63 "FlipPolygonsModel" "diagonals" "I" ∈ zq_all := zq_in4 (i := 196) rfl rfl
theorem wd_447 : Cond.fieldLink RX6 31 "FlipPolygonsModel" "numbers" "[I" ∈ zq_all := zq_in4 (i := 199) rfl rfl
theorem wd_448 : Cond.fieldLink RX6 7 "FlipPolygonsModel" "z" "[I" ∈ zq_all := zq_in4 (i := 187) rfl rfl
theorem wd_449 : Cond.fieldLink RX6 25 "FlipPolygonsModel" "lesser" "[I" ∈ zq_all := zq_in4 (i := 197) rfl rfl
theorem wd_450 : Cond.fieldLink RX6 28 "FlipPolygonsModel" "greater" "[I" ∈ zq_all := zq_in4 (i := 198) rfl rfl
theorem wd_451 : Cond.code yX6_fanOf cX6_fanOf 4 (some .int) ∈ zq_all := zq_in4 (i := 127) rfl rfl
theorem wd_452 : Cond.code yX6_has cX6_has 2 (some .boolean) ∈ zq_all := zq_in4 (i := 130) rfl rfl
theorem wd_453 : Cond.code yX6_numberOf cX6_numberOf 3 (some .int) ∈ zq_all := zq_in4 (i := 150) rfl rfl
theorem wd_454 : Cond.code yX6_joined cX6_joined 5 (some .boolean) ∈ zq_all := zq_in4 (i := 146) rfl rfl
theorem wd_455 : Cond.methodLink RX6 70 yX6_numberOf ∈ zq_all := zq_in4 (i := 147) rfl rfl
theorem wd_456 : Cond.instanceMethod yX6_numberOf ∈ zq_all := zq_in4 (i := 149) rfl rfl
theorem wd_457 : Cond.selects RX6 yX6_numberOf yX6_numberOf ∈ zq_all := zq_in0 (i := 42) rfl rfl
theorem wd_458 : Cond.initialized RX6 ∈ zq_all := zq_in1 (i := 10) rfl rfl
theorem wd_459 : Cond.methodLink RX6 74 yX6_has ∈ zq_all := zq_in4 (i := 128) rfl rfl
theorem wd_460 : Cond.static yX6_has ∈ zq_all := zq_in4 (i := 129) rfl rfl
theorem wd_461 : Cond.code yX6_apex cX6_apex 5 (some .int) ∈ zq_all := zq_in4 (i := 142) rfl rfl
theorem wd_462 : Cond.methodLink RX6 78 yX6_joined ∈ zq_all := zq_in4 (i := 143) rfl rfl
theorem wd_463 : Cond.instanceMethod yX6_joined ∈ zq_all := zq_in4 (i := 145) rfl rfl
theorem wd_464 : Cond.selects RX6 yX6_joined yX6_joined ∈ zq_all := zq_in0 (i := 41) rfl rfl
theorem wd_465 : Cond.code yX6_flipped cX6_flipped 5 (some .int) ∈ zq_all := zq_in4 (i := 138) rfl rfl
theorem wd_466 : Cond.methodLink RX6 81 yX6_apex ∈ zq_all := zq_in4 (i := 139) rfl rfl
theorem wd_467 : Cond.instanceMethod yX6_apex ∈ zq_all := zq_in4 (i := 141) rfl rfl
theorem wd_468 : Cond.selects RX6 yX6_apex yX6_apex ∈ zq_all := zq_in0 (i := 40) rfl rfl
theorem wd_469 : Cond.code yX6_behindFlip cX6_behindFlip 3 (some .int) ∈ zq_all := zq_in4 (i := 134) rfl rfl
theorem wd_470 : Cond.methodLink RX6 85 yX6_flipped ∈ zq_all := zq_in4 (i := 135) rfl rfl
theorem wd_471 : Cond.instanceMethod yX6_flipped ∈ zq_all := zq_in4 (i := 137) rfl rfl
theorem wd_472 : Cond.selects RX6 yX6_flipped yX6_flipped ∈ zq_all := zq_in0 (i := 39) rfl rfl
theorem wd_473 : Cond.code yX6_isKnown cX6_isKnown 4 (some .boolean) ∈ zq_all := zq_in4 (i := 154) rfl rfl
theorem wd_474 : Cond.fieldLink RX6 88 "FlipPolygonsModel" "all" "I" ∈ zq_all := zq_in4 (i := 200) rfl rfl
theorem wd_475 : Cond.fieldLink RX6 34 "FlipPolygonsModel" "masks" "[I" ∈ zq_all := zq_in4 (i := 201) rfl rfl
theorem wd_476 : Cond.methodLink RX6 52 yX6_fanOf ∈ zq_all := zq_in4 (i := 124) rfl rfl
theorem wd_477 : Cond.instanceMethod yX6_fanOf ∈ zq_all := zq_in4 (i := 126) rfl rfl
theorem wd_478 : Cond.selects RX6 yX6_fanOf yX6_fanOf ∈ zq_all := zq_in0 (i := 37) rfl rfl
theorem wd_479 : Cond.methodLink RX6 91 yX6_behindFlip ∈ zq_all := zq_in4 (i := 131) rfl rfl
theorem wd_480 : Cond.instanceMethod yX6_behindFlip ∈ zq_all := zq_in4 (i := 133) rfl rfl
theorem wd_481 : Cond.selects RX6 yX6_behindFlip yX6_behindFlip ∈ zq_all := zq_in0 (i := 38) rfl rfl
theorem wd_482 : Cond.methodLink RX6 94 yX6_isKnown ∈ zq_all := zq_in4 (i := 151) rfl rfl
theorem wd_483 : Cond.instanceMethod yX6_isKnown ∈ zq_all := zq_in4 (i := 153) rfl rfl
theorem wd_484 : Cond.selects RX6 yX6_isKnown yX6_isKnown ∈ zq_all := zq_in0 (i := 43) rfl rfl
theorem wd_485 : Cond.code yX6_findAll cX6_findAll 4 none ∈ zq_all := zq_in4 (i := 123) rfl rfl
theorem wd_486 : Cond.code yX6_sortAll cX6_sortAll 4 none ∈ zq_all := zq_in4 (i := 158) rfl rfl
theorem wd_487 : Cond.code yX6_indexOf cX6_indexOf 5 (some .int) ∈ zq_all := zq_in4 (i := 166) rfl rfl
theorem wd_488 : Cond.fieldLink RX6 37 "FlipPolygonsModel" "leads" "[I" ∈ zq_all := zq_in4 (i := 202) rfl rfl
theorem wd_489 : Cond.methodLink RX6 98 yX6_indexOf ∈ zq_all := zq_in4 (i := 163) rfl rfl
theorem wd_490 : Cond.instanceMethod yX6_indexOf ∈ zq_all := zq_in4 (i := 165) rfl rfl
theorem wd_491 : Cond.selects RX6 yX6_indexOf yX6_indexOf ∈ zq_all := zq_in0 (i := 46) rfl rfl
theorem wd_492 : Cond.code yX6_layLeads cX6_layLeads 4 none ∈ zq_all := zq_in4 (i := 162) rfl rfl
theorem wd_493 : Cond.code yX6_turned cX6_turned 6 (some .int) ∈ zq_all := zq_in4 (i := 174) rfl rfl
theorem wd_494 : Cond.code yX6_mirrored cX6_mirrored 5 (some .int) ∈ zq_all := zq_in4 (i := 178) rfl rfl
theorem wd_495 : Cond.code yX6_codeOf cX6_codeOf 6 (some .int) ∈ zq_all := zq_in4 (i := 170) rfl rfl
theorem wd_496 : Cond.methodLink RX6 135 yX6_turned ∈ zq_all := zq_in4 (i := 171) rfl rfl
theorem wd_497 : Cond.instanceMethod yX6_turned ∈ zq_all := zq_in4 (i := 173) rfl rfl
theorem wd_498 : Cond.selects RX6 yX6_turned yX6_turned ∈ zq_all := zq_in0 (i := 48) rfl rfl
theorem wd_499 : Cond.methodLink RX6 138 yX6_mirrored ∈ zq_all := zq_in4 (i := 175) rfl rfl
theorem wd_500 : Cond.instanceMethod yX6_mirrored ∈ zq_all := zq_in4 (i := 177) rfl rfl
theorem wd_501 : Cond.selects RX6 yX6_mirrored yX6_mirrored ∈ zq_all := zq_in0 (i := 49) rfl rfl
theorem wd_502 : Cond.code yX6_goFrom cX6_goFrom 11 none ∈ zq_all := zq_in4 (i := 186) rfl rfl
theorem wd_503 : Cond.fieldLink RX6 40 "FlipPolygonsModel" "far" "[I" ∈ zq_all := zq_in4 (i := 205) rfl rfl
theorem wd_504 : Cond.fieldLink RX6 43 "FlipPolygonsModel" "ways" "[I" ∈ zq_all := zq_in4 (i := 206) rfl rfl
theorem wd_505 : Cond.fieldLink RX6 46 "FlipPolygonsModel" "order" "[I" ∈ zq_all := zq_in4 (i := 207) rfl rfl
theorem wd_506 : Cond.code yX6_farthestFrom cX6_farthestFrom 4 (some .int) ∈ zq_all := zq_in4 (i := 182) rfl rfl
theorem wd_507 : Cond.methodLink RX6 128 yX6_goFrom ∈ zq_all := zq_in4 (i := 183) rfl rfl
theorem wd_508 : Cond.instanceMethod yX6_goFrom ∈ zq_all := zq_in4 (i := 185) rfl rfl
theorem wd_509 : Cond.selects RX6 yX6_goFrom yX6_goFrom ∈ zq_all := zq_in0 (i := 51) rfl rfl
theorem wd_510 : Cond.fieldLink RX6 101 "FlipPolygonsModel" "laid" "I" ∈ zq_all := zq_in4 (i := 195) rfl rfl
theorem wd_511 : Cond.fieldLink RX6 116 "FlipPolygonsModel" "classes" "I" ∈ zq_all := zq_in4 (i := 203) rfl rfl
theorem wd_512 : Cond.fieldLink RX6 119 "FlipPolygonsModel" "widest" "I" ∈ zq_all := zq_in4 (i := 204) rfl rfl
theorem wd_513 : Cond.methodLink RX6 104 yX6_layDiagonals ∈ zq_all := zq_in4 (i := 116) rfl rfl
theorem wd_514 : Cond.instanceMethod yX6_layDiagonals ∈ zq_all := zq_in4 (i := 118) rfl rfl
theorem wd_515 : Cond.selects RX6 yX6_layDiagonals yX6_layDiagonals ∈ zq_all := zq_in0 (i := 35) rfl rfl
theorem wd_516 : Cond.methodLink RX6 107 yX6_findAll ∈ zq_all := zq_in4 (i := 120) rfl rfl
theorem wd_517 : Cond.instanceMethod yX6_findAll ∈ zq_all := zq_in4 (i := 122) rfl rfl
theorem wd_518 : Cond.selects RX6 yX6_findAll yX6_findAll ∈ zq_all := zq_in0 (i := 36) rfl rfl
theorem wd_519 : Cond.methodLink RX6 110 yX6_sortAll ∈ zq_all := zq_in4 (i := 155) rfl rfl
theorem wd_520 : Cond.instanceMethod yX6_sortAll ∈ zq_all := zq_in4 (i := 157) rfl rfl
theorem wd_521 : Cond.selects RX6 yX6_sortAll yX6_sortAll ∈ zq_all := zq_in0 (i := 44) rfl rfl
theorem wd_522 : Cond.methodLink RX6 113 yX6_layLeads ∈ zq_all := zq_in4 (i := 159) rfl rfl
theorem wd_523 : Cond.instanceMethod yX6_layLeads ∈ zq_all := zq_in4 (i := 161) rfl rfl
theorem wd_524 : Cond.selects RX6 yX6_layLeads yX6_layLeads ∈ zq_all := zq_in0 (i := 45) rfl rfl
theorem wd_525 : Cond.methodLink RX6 122 yX6_codeOf ∈ zq_all := zq_in4 (i := 167) rfl rfl
theorem wd_526 : Cond.instanceMethod yX6_codeOf ∈ zq_all := zq_in4 (i := 169) rfl rfl
theorem wd_527 : Cond.selects RX6 yX6_codeOf yX6_codeOf ∈ zq_all := zq_in0 (i := 47) rfl rfl
theorem wd_528 : Cond.methodLink RX6 125 yX6_farthestFrom ∈ zq_all := zq_in4 (i := 179) rfl rfl
theorem wd_529 : Cond.instanceMethod yX6_farthestFrom ∈ zq_all := zq_in4 (i := 181) rfl rfl
theorem wd_530 : Cond.selects RX6 yX6_farthestFrom yX6_farthestFrom ∈ zq_all := zq_in0 (i := 50) rfl rfl
theorem wd_531 : Cond.code yX6_layAll cX6_layAll 3 none ∈ zq_all := zq_in4 (i := 115) rfl rfl
theorem wd_532 : Cond.methodLink RX6 1 objectInit ∈ zq_all := zq_in4 (i := 111) rfl rfl
theorem wd_533 : Cond.fieldLink RX6 13 "FlipPolygonsModel" "history" "[I" ∈ zq_all := zq_in4 (i := 189) rfl rfl
theorem wd_534 : Cond.fieldLink RX6 16 "FlipPolygonsModel" "snaps" "[I" ∈ zq_all := zq_in4 (i := 190) rfl rfl
theorem wd_535 : Cond.fieldLink RX6 19 "FlipPolygonsModel" "taken" "[I" ∈ zq_all := zq_in4 (i := 191) rfl rfl
theorem wd_536 : Cond.fieldLink RX6 22 "FlipPolygonsModel" "text" "[I" ∈ zq_all := zq_in4 (i := 193) rfl rfl
theorem wd_537 : Cond.methodLink RX6 49 yX6_layAll ∈ zq_all := zq_in4 (i := 112) rfl rfl
theorem wd_538 : Cond.instanceMethod yX6_layAll ∈ zq_all := zq_in4 (i := 114) rfl rfl
theorem wd_539 : Cond.selects RX6 yX6_layAll yX6_layAll ∈ zq_all := zq_in0 (i := 34) rfl rfl
theorem wd_540 : Cond.code yX6_init cX6_init 1 none ∈ zq_all := zq_in4 (i := 110) rfl rfl
theorem wd_541 : Cond.code yX6_thrown cX6_thrown 1 (some .int) ∈ zq_all := zq_in5 (i := 17) rfl rfl
theorem wd_542 : Cond.fieldLink RX6 56 "FlipPolygonsModel" "thrown" "I" ∈ zq_all := zq_in4 (i := 194) rfl rfl
theorem wd_543 : Cond.code yX6_within cX6_within 3 (some .boolean) ∈ zq_all := zq_in5 (i := 24) rfl rfl
theorem wd_544 : Cond.code yX6_save cX6_save 2 none ∈ zq_all := zq_in5 (i := 28) rfl rfl
theorem wd_545 : Cond.fieldLink RX6 60 "FlipPolygonsModel" "states" "I" ∈ zq_all := zq_in4 (i := 188) rfl rfl
theorem wd_546 : Cond.code yX6_ones cX6_ones 3 (some .int) ∈ zq_all := zq_in5 (i := 54) rfl rfl
theorem wd_547 : Cond.code yX6_isDiagonal cX6_isDiagonal 3 (some .boolean) ∈ zq_all := zq_in5 (i := 39) rfl rfl
theorem wd_548 : Cond.methodLink RX6 66 yX6_within ∈ zq_all := zq_in5 (i := 22) rfl rfl
theorem wd_549 : Cond.static yX6_within ∈ zq_all := zq_in5 (i := 23) rfl rfl
theorem wd_550 : Cond.code yX6_cross cX6_cross 7 (some .boolean) ∈ zq_all := zq_in5 (i := 122) rfl rfl
theorem wd_551 : Cond.code yX6_freeFrom cX6_freeFrom 2 (some .int) ∈ zq_all := zq_in5 (i := 197) rfl rfl
theorem wd_552 : Cond.code yX6_lockedFrom cX6_lockedFrom 2 (some .int) ∈ zq_all := zq_in5 (i := 82) rfl rfl
theorem wd_553 : Cond.code yX6_leastSoFar cX6_leastSoFar 4 (some .int) ∈ zq_all := zq_in5 (i := 165) rfl rfl
theorem wd_554 : Cond.methodLink RX6 132 yX6_lockedFrom ∈ zq_all := zq_in5 (i := 79) rfl rfl
theorem wd_555 : Cond.instanceMethod yX6_lockedFrom ∈ zq_all := zq_in5 (i := 81) rfl rfl
theorem wd_556 : Cond.selects RX6 yX6_lockedFrom yX6_lockedFrom ∈ zq_all := zq_in0 (i := 57) rfl rfl
theorem wd_557 : Cond.code yX6_nextFlip cX6_nextFlip 3 (some .int) ∈ zq_all := zq_in5 (i := 86) rfl rfl
theorem wd_558 : Cond.code yX6_likenesses cX6_likenesses 4 (some .int) ∈ zq_all := zq_in5 (i := 153) rfl rfl
theorem wd_559 : Cond.methodLink RX6 141 yX6_save ∈ zq_all := zq_in5 (i := 25) rfl rfl
theorem wd_560 : Cond.instanceMethod yX6_save ∈ zq_all := zq_in5 (i := 27) rfl rfl
theorem wd_561 : Cond.selects RX6 yX6_save yX6_save ∈ zq_all := zq_in0 (i := 52) rfl rfl
theorem wd_562 : Cond.code yX6_begin cX6_begin 3 (some .int) ∈ zq_all := zq_in5 (i := 21) rfl rfl
theorem wd_563 : Cond.code yX6_isWhich cX6_isWhich 1 (some .boolean) ∈ zq_all := zq_in5 (i := 35) rfl rfl
theorem wd_564 : Cond.code yX6_canFlip cX6_canFlip 3 (some .boolean) ∈ zq_all := zq_in5 (i := 43) rfl rfl
theorem wd_565 : Cond.methodLink RX6 144 yX6_isWhich ∈ zq_all := zq_in5 (i := 33) rfl rfl
theorem wd_566 : Cond.static yX6_isWhich ∈ zq_all := zq_in5 (i := 34) rfl rfl
theorem wd_567 : Cond.methodLink RX6 147 yX6_isDiagonal ∈ zq_all := zq_in5 (i := 36) rfl rfl
theorem wd_568 : Cond.instanceMethod yX6_isDiagonal ∈ zq_all := zq_in5 (i := 38) rfl rfl
theorem wd_569 : Cond.selects RX6 yX6_isDiagonal yX6_isDiagonal ∈ zq_all := zq_in0 (i := 53) rfl rfl
theorem wd_570 : Cond.methodLink RX6 150 yX6_canFlip ∈ zq_all := zq_in5 (i := 40) rfl rfl
theorem wd_571 : Cond.instanceMethod yX6_canFlip ∈ zq_all := zq_in5 (i := 42) rfl rfl
theorem wd_572 : Cond.selects RX6 yX6_canFlip yX6_canFlip ∈ zq_all := zq_in0 (i := 54) rfl rfl
theorem wd_573 : Cond.code yX6_flip cX6_flip 5 (some .int) ∈ zq_all := zq_in5 (i := 32) rfl rfl
theorem wd_574 : Cond.code yX6_lay cX6_lay 3 none ∈ zq_all := zq_in5 (i := 58) rfl rfl
theorem wd_575 : Cond.code yX6_isCorner cX6_isCorner 2 (some .boolean) ∈ zq_all := zq_in5 (i := 51) rfl rfl
theorem wd_576 : Cond.methodLink RX6 153 yX6_isCorner ∈ zq_all := zq_in5 (i := 48) rfl rfl
theorem wd_577 : Cond.instanceMethod yX6_isCorner ∈ zq_all := zq_in5 (i := 50) rfl rfl
theorem wd_578 : Cond.selects RX6 yX6_isCorner yX6_isCorner ∈ zq_all := zq_in0 (i := 55) rfl rfl
theorem wd_579 : Cond.methodLink RX6 156 yX6_ones ∈ zq_all := zq_in5 (i := 52) rfl rfl
theorem wd_580 : Cond.static yX6_ones ∈ zq_all := zq_in5 (i := 53) rfl rfl
theorem wd_581 : Cond.methodLink RX6 159 yX6_lay ∈ zq_all := zq_in5 (i := 55) rfl rfl
theorem wd_582 : Cond.instanceMethod yX6_lay ∈ zq_all := zq_in5 (i := 57) rfl rfl
theorem wd_583 : Cond.selects RX6 yX6_lay yX6_lay ∈ zq_all := zq_in0 (i := 56) rfl rfl
theorem wd_584 : Cond.code yX6_fan cX6_fan 4 (some .int) ∈ zq_all := zq_in5 (i := 47) rfl rfl
theorem wd_585 : Cond.code yX6_turn cX6_turn 3 (some .int) ∈ zq_all := zq_in5 (i := 62) rfl rfl
theorem wd_586 : Cond.code yX6_mirror cX6_mirror 2 (some .int) ∈ zq_all := zq_in5 (i := 66) rfl rfl
theorem wd_587 : Cond.code yX6_exchange cX6_exchange 2 (some .int) ∈ zq_all := zq_in5 (i := 70) rfl rfl
theorem wd_588 : Cond.code yX6_lock cX6_lock 5 (some .int) ∈ zq_all := zq_in5 (i := 74) rfl rfl
theorem wd_589 : Cond.methodLink RX6 162 yX6_nextFlip ∈ zq_all := zq_in5 (i := 83) rfl rfl
theorem wd_590 : Cond.instanceMethod yX6_nextFlip ∈ zq_all := zq_in5 (i := 85) rfl rfl
theorem wd_591 : Cond.selects RX6 yX6_nextFlip yX6_nextFlip ∈ zq_all := zq_in0 (i := 58) rfl rfl
theorem wd_592 : Cond.code yX6_walk cX6_walk 4 (some .int) ∈ zq_all := zq_in5 (i := 78) rfl rfl
theorem wd_593 : Cond.code yX6_append cX6_append 2 (some .int) ∈ zq_all := zq_in5 (i := 90) rfl rfl
theorem wd_594 : Cond.fieldLink RX6 166 "FlipPolygonsModel" "length" "I" ∈ zq_all := zq_in4 (i := 192) rfl rfl
theorem wd_595 : Cond.code yX6_clearBuffer cX6_clearBuffer 2 (some .int) ∈ zq_all := zq_in5 (i := 94) rfl rfl
theorem wd_596 : Cond.code yX6_canStand cX6_canStand 3 (some .boolean) ∈ zq_all := zq_in5 (i := 106) rfl rfl
theorem wd_597 : Cond.code yX6_rightUpTo cX6_rightUpTo 2 (some .int) ∈ zq_all := zq_in5 (i := 102) rfl rfl
theorem wd_598 : Cond.methodLink RX6 169 yX6_canStand ∈ zq_all := zq_in5 (i := 103) rfl rfl
theorem wd_599 : Cond.instanceMethod yX6_canStand ∈ zq_all := zq_in5 (i := 105) rfl rfl
theorem wd_600 : Cond.selects RX6 yX6_canStand yX6_canStand ∈ zq_all := zq_in0 (i := 60) rfl rfl
theorem wd_601 : Cond.methodLink RX6 172 yX6_rightUpTo ∈ zq_all := zq_in5 (i := 99) rfl rfl
theorem wd_602 : Cond.instanceMethod yX6_rightUpTo ∈ zq_all := zq_in5 (i := 101) rfl rfl
theorem wd_603 : Cond.selects RX6 yX6_rightUpTo yX6_rightUpTo ∈ zq_all := zq_in0 (i := 59) rfl rfl
theorem wd_604 : Cond.code yX6_firstError cX6_firstError 1 (some .int) ∈ zq_all := zq_in5 (i := 98) rfl rfl
theorem wd_605 : Cond.code yX6_toldAt cX6_toldAt 2 (some .int) ∈ zq_all := zq_in5 (i := 118) rfl rfl
theorem wd_606 : Cond.code yX6_isTriangulation cX6_isTriangulation 4 (some .boolean) ∈ zq_all := zq_in5 (i := 114) rfl rfl
theorem wd_607 : Cond.methodLink RX6 175 yX6_toldAt ∈ zq_all := zq_in5 (i := 115) rfl rfl
theorem wd_608 : Cond.instanceMethod yX6_toldAt ∈ zq_all := zq_in5 (i := 117) rfl rfl
theorem wd_609 : Cond.selects RX6 yX6_toldAt yX6_toldAt ∈ zq_all := zq_in0 (i := 62) rfl rfl
theorem wd_610 : Cond.methodLink RX6 178 yX6_cross ∈ zq_all := zq_in5 (i := 119) rfl rfl
theorem wd_611 : Cond.instanceMethod yX6_cross ∈ zq_all := zq_in5 (i := 121) rfl rfl
theorem wd_612 : Cond.selects RX6 yX6_cross yX6_cross ∈ zq_all := zq_in0 (i := 63) rfl rfl
theorem wd_613 : Cond.methodLink RX6 181 yX6_isTriangulation ∈ zq_all := zq_in5 (i := 111) rfl rfl
theorem wd_614 : Cond.instanceMethod yX6_isTriangulation ∈ zq_all := zq_in5 (i := 113) rfl rfl
theorem wd_615 : Cond.selects RX6 yX6_isTriangulation yX6_isTriangulation ∈ zq_all := zq_in0 (i := 61) rfl rfl
theorem wd_616 : Cond.code yX6_read cX6_read 5 (some .int) ∈ zq_all := zq_in5 (i := 110) rfl rfl
theorem wd_617 : Cond.code yX6_isSnapshot cX6_isSnapshot 1 (some .boolean) ∈ zq_all := zq_in5 (i := 129) rfl rfl
theorem wd_618 : Cond.code yX6_take cX6_take 3 (some .int) ∈ zq_all := zq_in5 (i := 126) rfl rfl
theorem wd_619 : Cond.methodLink RX6 185 yX6_isSnapshot ∈ zq_all := zq_in5 (i := 127) rfl rfl
theorem wd_620 : Cond.static yX6_isSnapshot ∈ zq_all := zq_in5 (i := 128) rfl rfl
theorem wd_621 : Cond.code yX6_restore cX6_restore 3 (some .int) ∈ zq_all := zq_in5 (i := 133) rfl rfl
theorem wd_622 : Cond.code yX6_undo cX6_undo 2 (some .int) ∈ zq_all := zq_in5 (i := 137) rfl rfl
theorem wd_623 : Cond.code yX6_number cX6_number 3 (some .int) ∈ zq_all := zq_in5 (i := 141) rfl rfl
theorem wd_624 : Cond.code yX6_degreeOf cX6_degreeOf 3 (some .int) ∈ zq_all := zq_in5 (i := 161) rfl rfl
theorem wd_625 : Cond.code yX6_cornersOf cX6_cornersOf 7 (some .int) ∈ zq_all := zq_in5 (i := 157) rfl rfl
theorem wd_626 : Cond.methodLink RX6 188 yX6_degreeOf ∈ zq_all := zq_in5 (i := 158) rfl rfl
theorem wd_627 : Cond.instanceMethod yX6_degreeOf ∈ zq_all := zq_in5 (i := 160) rfl rfl
theorem wd_628 : Cond.selects RX6 yX6_degreeOf yX6_degreeOf ∈ zq_all := zq_in0 (i := 67) rfl rfl
theorem wd_629 : Cond.methodLink RX6 191 yX6_likenesses ∈ zq_all := zq_in5 (i := 150) rfl rfl
theorem wd_630 : Cond.instanceMethod yX6_likenesses ∈ zq_all := zq_in5 (i := 152) rfl rfl
theorem wd_631 : Cond.selects RX6 yX6_likenesses yX6_likenesses ∈ zq_all := zq_in0 (i := 65) rfl rfl
theorem wd_632 : Cond.methodLink RX6 194 yX6_cornersOf ∈ zq_all := zq_in5 (i := 154) rfl rfl
theorem wd_633 : Cond.instanceMethod yX6_cornersOf ∈ zq_all := zq_in5 (i := 156) rfl rfl
theorem wd_634 : Cond.selects RX6 yX6_cornersOf yX6_cornersOf ∈ zq_all := zq_in0 (i := 66) rfl rfl
theorem wd_635 : Cond.methodLink RX6 198 yX6_leastSoFar ∈ zq_all := zq_in5 (i := 162) rfl rfl
theorem wd_636 : Cond.instanceMethod yX6_leastSoFar ∈ zq_all := zq_in5 (i := 164) rfl rfl
theorem wd_637 : Cond.selects RX6 yX6_leastSoFar yX6_leastSoFar ∈ zq_all := zq_in0 (i := 68) rfl rfl
theorem wd_638 : Cond.code yX6_triangulationNow cX6_triangulationNow 4 (some .int) ∈ zq_all := zq_in5 (i := 149) rfl rfl
theorem wd_639 : Cond.methodLink RX6 201 yX6_triangulationNow ∈ zq_all := zq_in5 (i := 146) rfl rfl
theorem wd_640 : Cond.instanceMethod yX6_triangulationNow ∈ zq_all := zq_in5 (i := 148) rfl rfl
theorem wd_641 : Cond.selects RX6 yX6_triangulationNow yX6_triangulationNow ∈ zq_all := zq_in0 (i := 64) rfl rfl
theorem wd_642 : Cond.code yX6_triangulation cX6_triangulation 3 (some .int) ∈ zq_all := zq_in5 (i := 145) rfl rfl
theorem wd_643 : Cond.code yX6_degree cX6_degree 3 (some .int) ∈ zq_all := zq_in5 (i := 169) rfl rfl
theorem wd_644 : Cond.code yX6_otherNow cX6_otherNow 4 (some .int) ∈ zq_all := zq_in5 (i := 177) rfl rfl
theorem wd_645 : Cond.methodLink RX6 204 yX6_otherNow ∈ zq_all := zq_in5 (i := 174) rfl rfl
theorem wd_646 : Cond.instanceMethod yX6_otherNow ∈ zq_all := zq_in5 (i := 176) rfl rfl
theorem wd_647 : Cond.selects RX6 yX6_otherNow yX6_otherNow ∈ zq_all := zq_in0 (i := 69) rfl rfl
theorem wd_648 : Cond.code yX6_other cX6_other 4 (some .int) ∈ zq_all := zq_in5 (i := 173) rfl rfl
theorem wd_649 : Cond.code yX6_reason cX6_reason 2 (some .int) ∈ zq_all := zq_in5 (i := 185) rfl rfl
theorem wd_650 : Cond.code yX6_whyNot cX6_whyNot 3 (some .int) ∈ zq_all := zq_in5 (i := 181) rfl rfl
theorem wd_651 : Cond.methodLink RX6 207 yX6_reason ∈ zq_all := zq_in5 (i := 182) rfl rfl
theorem wd_652 : Cond.instanceMethod yX6_reason ∈ zq_all := zq_in5 (i := 184) rfl rfl
theorem wd_653 : Cond.selects RX6 yX6_reason yX6_reason ∈ zq_all := zq_in0 (i := 70) rfl rfl
theorem wd_654 : Cond.methodLink RX6 210 yX6_freeFrom ∈ zq_all := zq_in5 (i := 194) rfl rfl
theorem wd_655 : Cond.instanceMethod yX6_freeFrom ∈ zq_all := zq_in5 (i := 196) rfl rfl
theorem wd_656 : Cond.selects RX6 yX6_freeFrom yX6_freeFrom ∈ zq_all := zq_in0 (i := 72) rfl rfl
theorem wd_657 : Cond.code yX6_distanceNow cX6_distanceNow 3 (some .int) ∈ zq_all := zq_in5 (i := 193) rfl rfl
theorem wd_658 : Cond.methodLink RX6 213 yX6_distanceNow ∈ zq_all := zq_in5 (i := 190) rfl rfl
theorem wd_659 : Cond.instanceMethod yX6_distanceNow ∈ zq_all := zq_in5 (i := 192) rfl rfl
theorem wd_660 : Cond.selects RX6 yX6_distanceNow yX6_distanceNow ∈ zq_all := zq_in0 (i := 71) rfl rfl
theorem wd_661 : Cond.code yX6_distance cX6_distance 2 (some .int) ∈ zq_all := zq_in5 (i := 189) rfl rfl
theorem wd_662 : Cond.code yX6_flippedThen cX6_flippedThen 2 (some .int) ∈ zq_all := zq_in5 (i := 205) rfl rfl
theorem wd_663 : Cond.methodLink RX6 216 yX6_flippedThen ∈ zq_all := zq_in5 (i := 202) rfl rfl
theorem wd_664 : Cond.instanceMethod yX6_flippedThen ∈ zq_all := zq_in5 (i := 204) rfl rfl
theorem wd_665 : Cond.selects RX6 yX6_flippedThen yX6_flippedThen ∈ zq_all := zq_in0 (i := 73) rfl rfl
theorem wd_666 : Cond.code yX6_ifFlipped cX6_ifFlipped 3 (some .int) ∈ zq_all := zq_in5 (i := 201) rfl rfl
theorem wd_667 : Cond.code yX6_counted cX6_counted 2 (some .int) ∈ zq_all := zq_in5 (i := 213) rfl rfl
theorem wd_668 : Cond.code yX6_count cX6_count 2 (some .int) ∈ zq_all := zq_in5 (i := 209) rfl rfl
theorem wd_669 : Cond.methodLink RX6 219 yX6_counted ∈ zq_all := zq_in5 (i := 210) rfl rfl
theorem wd_670 : Cond.instanceMethod yX6_counted ∈ zq_all := zq_in5 (i := 212) rfl rfl
theorem wd_671 : Cond.selects RX6 yX6_counted yX6_counted ∈ zq_all := zq_in0 (i := 74) rfl rfl
theorem wd_672 : Cond.code yX6_share cX6_share 1 (some .double) ∈ zq_all := zq_in5 (i := 221) rfl rfl
theorem wd_673 : Cond.methodLink RX6 222 yX6_share ∈ zq_all := zq_in5 (i := 218) rfl rfl
theorem wd_674 : Cond.instanceMethod yX6_share ∈ zq_all := zq_in5 (i := 220) rfl rfl
theorem wd_675 : Cond.selects RX6 yX6_share yX6_share ∈ zq_all := zq_in0 (i := 75) rfl rfl
theorem wd_676 : Cond.code yX6_farShare cX6_farShare 1 (some .double) ∈ zq_all := zq_in5 (i := 217) rfl rfl
theorem wd_677 : Cond.code yX6_mix cX6_mix 3 none ∈ zq_all := zq_in5 (i := 230) rfl rfl
theorem wd_678 : Cond.constantLong RX6 226 (31) ∈ zq_all := zq_in5 (i := 231) rfl rfl
theorem wd_679 : Cond.fieldLink RX6 228 "FlipPolygonsModel" "hash" "J" ∈ zq_all := zq_in4 (i := 208) rfl rfl
theorem wd_680 : Cond.code yJxe99ae_isNaN_b9ae7 cJxe99ae_isNaN_b9ae7 2 (some .boolean) ∈ zq_all := zq_in5 (i := 237) rfl rfl
theorem wd_681 : Cond.code yJxe99ae_doubleToLongBits_ccdee cJxe99ae_doubleToLongBits_ccdee 2 (some .long) ∈ zq_all := zq_in5 (i := 234) rfl rfl
theorem wd_682 : Cond.initialized "java/lang/Double" ∈ zq_all := zq_in1 (i := 18) rfl rfl
theorem wd_683 : Cond.constantLong RJxe99ae 137 (9221120237041090560) ∈ zq_all := zq_in6 (i := 1) rfl rfl
theorem wd_684 : Cond.methodLink RJxe99ae 122 yJxe99ae_isNaN_b9ae7 ∈ zq_all := zq_in5 (i := 235) rfl rfl
theorem wd_685 : Cond.static yJxe99ae_isNaN_b9ae7 ∈ zq_all := zq_in5 (i := 236) rfl rfl
theorem wd_686 : Cond.constantLong RX6 232 (2477) ∈ zq_all := zq_in5 (i := 226) rfl rfl
theorem wd_687 : Cond.methodLink RX6 234 yX6_mix ∈ zq_all := zq_in5 (i := 227) rfl rfl
theorem wd_688 : Cond.instanceMethod yX6_mix ∈ zq_all := zq_in5 (i := 229) rfl rfl
theorem wd_689 : Cond.selects RX6 yX6_mix yX6_mix ∈ zq_all := zq_in0 (i := 76) rfl rfl
theorem wd_690 : Cond.methodLink RX6 238 yJxe99ae_doubleToLongBits_ccdee ∈ zq_all := zq_in5 (i := 232) rfl rfl
theorem wd_691 : Cond.static yJxe99ae_doubleToLongBits_ccdee ∈ zq_all := zq_in5 (i := 233) rfl rfl
theorem wd_692 : Cond.code yX6_digest cX6_digest 3 (some .long) ∈ zq_all := zq_in5 (i := 225) rfl rfl
theorem wd_693 : Cond.code yJ9_max_7cf53 cJ9_max_7cf53 2 (some .int) ∈ zq_all := zq_in2 (i := 197) rfl rfl
theorem wd_694 : Cond.code yJ9_min_7cf53 cJ9_min_7cf53 2 (some .int) ∈ zq_all := zq_in2 (i := 176) rfl rfl
theorem wd_695 : Cond.classLink RL 13 "java/lang/IllegalArgumentException" ∈ zq_all := zq_in3 (i := 46) rfl rfl
theorem wd_696 : Cond.methodLink RL 7 yX5_begin ∈ zq_all := zq_in3 (i := 47) rfl rfl
theorem wd_697 : Cond.instanceMethod yX5_begin ∈ zq_all := zq_in3 (i := 48) rfl rfl
theorem wd_698 : Cond.selects RX5 yX5_begin yX5_begin ∈ zq_all := zq_in3 (i := 49) rfl rfl
theorem wd_699 : Cond.codeWith yL_begin cL_begin 4 (some .int) [(0, 9, 12, 13)] ∈ zq_all := zq_in3 (i := 45) rfl rfl
theorem wd_700 : Cond.classLink RL 19 "java/lang/IndexOutOfBoundsException" ∈ zq_all := zq_in3 (i := 122) rfl rfl
theorem wd_701 : Cond.classLink RL 21 "java/lang/IllegalStateException" ∈ zq_all := zq_in3 (i := 123) rfl rfl
theorem wd_702 : Cond.methodLink RL 15 yX5_flip ∈ zq_all := zq_in3 (i := 124) rfl rfl
theorem wd_703 : Cond.instanceMethod yX5_flip ∈ zq_all := zq_in3 (i := 125) rfl rfl
theorem wd_704 : Cond.selects RX5 yX5_flip yX5_flip ∈ zq_all := zq_in3 (i := 126) rfl rfl
theorem wd_705 : Cond.codeWith yL_flip cL_flip 6 (some .int) [(0, 12, 15, 19), (0, 12, 19, 21)] ∈ zq_all := zq_in3 (i := 121) rfl rfl
theorem wd_706 : Cond.methodLink RL 23 yX5_fan ∈ zq_all := zq_in3 (i := 175) rfl rfl
theorem wd_707 : Cond.instanceMethod yX5_fan ∈ zq_all := zq_in3 (i := 176) rfl rfl
theorem wd_708 : Cond.selects RX5 yX5_fan yX5_fan ∈ zq_all := zq_in3 (i := 177) rfl rfl
theorem wd_709 : Cond.codeWith yL_fan cL_fan 5 (some .int) [(0, 10, 13, 19)] ∈ zq_all := zq_in3 (i := 174) rfl rfl
theorem wd_710 : Cond.methodLink RL 27 yX5_turn ∈ zq_all := zq_in3 (i := 189) rfl rfl
theorem wd_711 : Cond.instanceMethod yX5_turn ∈ zq_all := zq_in3 (i := 190) rfl rfl
theorem wd_712 : Cond.selects RX5 yX5_turn yX5_turn ∈ zq_all := zq_in3 (i := 191) rfl rfl
theorem wd_713 : Cond.codeWith yL_turn cL_turn 5 (some .int) [(0, 10, 13, 19), (0, 10, 17, 13)] ∈ zq_all := zq_in3 (i := 188) rfl rfl
theorem wd_714 : Cond.methodLink RL 30 yX5_mirror ∈ zq_all := zq_in3 (i := 202) rfl rfl
theorem wd_715 : Cond.instanceMethod yX5_mirror ∈ zq_all := zq_in3 (i := 203) rfl rfl
theorem wd_716 : Cond.selects RX5 yX5_mirror yX5_mirror ∈ zq_all := zq_in3 (i := 204) rfl rfl
theorem wd_717 : Cond.codeWith yL_mirror cL_mirror 4 (some .int) [(0, 9, 12, 19)] ∈ zq_all := zq_in3 (i := 201) rfl rfl
theorem wd_718 : Cond.methodLink RL 33 yX5_lock ∈ zq_all := zq_in3 (i := 210) rfl rfl
theorem wd_719 : Cond.instanceMethod yX5_lock ∈ zq_all := zq_in3 (i := 211) rfl rfl
theorem wd_720 : Cond.selects RX5 yX5_lock yX5_lock ∈ zq_all := zq_in3 (i := 212) rfl rfl
theorem wd_721 : Cond.codeWith yL_lock cL_lock 6 (some .int) [(0, 12, 15, 19), (0, 12, 19, 21)] ∈ zq_all := zq_in3 (i := 209) rfl rfl
theorem wd_722 : Cond.methodLink RL 37 yX5_walk ∈ zq_all := zq_in3 (i := 219) rfl rfl
theorem wd_723 : Cond.instanceMethod yX5_walk ∈ zq_all := zq_in3 (i := 220) rfl rfl
theorem wd_724 : Cond.selects RX5 yX5_walk yX5_walk ∈ zq_all := zq_in3 (i := 221) rfl rfl
theorem wd_725 : Cond.codeWith yL_walk cL_walk 4 (some .int) [(0, 9, 12, 13), (0, 9, 15, 21)] ∈ zq_all := zq_in3 (i := 218) rfl rfl
theorem wd_726 : Cond.codeWith yL_append cL_append 4 (some .int) [(0, 9, 12, 13), (0, 9, 15, 21)] ∈ zq_all := zq_in3 (i := 227) rfl rfl
theorem wd_727 : Cond.methodLink RL 40 yX5_append ∈ zq_all := zq_in3 (i := 228) rfl rfl
theorem wd_728 : Cond.instanceMethod yX5_append ∈ zq_all := zq_in3 (i := 229) rfl rfl
theorem wd_729 : Cond.selects RX5 yX5_append yX5_append ∈ zq_all := zq_in3 (i := 230) rfl rfl
theorem wd_730 : Cond.methodLink RL 43 yX5_read ∈ zq_all := zq_in4 (i := 5) rfl rfl
theorem wd_731 : Cond.instanceMethod yX5_read ∈ zq_all := zq_in4 (i := 6) rfl rfl
theorem wd_732 : Cond.selects RX5 yX5_read yX5_read ∈ zq_all := zq_in4 (i := 7) rfl rfl
theorem wd_733 : Cond.codeWith yL_read cL_read 4 (some .int) [(0, 9, 12, 19), (0, 9, 15, 13), (0, 9, 18, 21)] ∈ zq_all := zq_in4 (i := 4) rfl rfl
theorem wd_734 : Cond.codeWith yL_take cL_take 4 (some .int) [(0, 9, 12, 19)] ∈ zq_all := zq_in4 (i := 23) rfl rfl
theorem wd_735 : Cond.methodLink RL 46 yX5_take ∈ zq_all := zq_in4 (i := 24) rfl rfl
theorem wd_736 : Cond.instanceMethod yX5_take ∈ zq_all := zq_in4 (i := 25) rfl rfl
theorem wd_737 : Cond.selects RX5 yX5_take yX5_take ∈ zq_all := zq_in4 (i := 26) rfl rfl
theorem wd_738 : Cond.methodLink RL 49 yX5_restore ∈ zq_all := zq_in4 (i := 36) rfl rfl
theorem wd_739 : Cond.instanceMethod yX5_restore ∈ zq_all := zq_in4 (i := 37) rfl rfl
theorem wd_740 : Cond.selects RX5 yX5_restore yX5_restore ∈ zq_all := zq_in4 (i := 38) rfl rfl
theorem wd_741 : Cond.codeWith yL_restore cL_restore 4 (some .int) [(0, 9, 12, 19), (0, 9, 15, 21)] ∈ zq_all := zq_in4 (i := 35) rfl rfl
theorem wd_742 : Cond.codeWith yL_undo cL_undo 3 (some .int) [(0, 8, 11, 21)] ∈ zq_all := zq_in4 (i := 43) rfl rfl
theorem wd_743 : Cond.methodLink RL 52 yX5_undo ∈ zq_all := zq_in4 (i := 44) rfl rfl
theorem wd_744 : Cond.instanceMethod yX5_undo ∈ zq_all := zq_in4 (i := 45) rfl rfl
theorem wd_745 : Cond.selects RX5 yX5_undo yX5_undo ∈ zq_all := zq_in4 (i := 46) rfl rfl
theorem wd_746 : Cond.codeWith yL_number cL_number 5 (some .int) [(0, 10, 13, 19)] ∈ zq_all := zq_in4 (i := 51) rfl rfl
theorem wd_747 : Cond.methodLink RL 56 yX5_number ∈ zq_all := zq_in4 (i := 52) rfl rfl
theorem wd_748 : Cond.instanceMethod yX5_number ∈ zq_all := zq_in4 (i := 53) rfl rfl
theorem wd_749 : Cond.selects RX5 yX5_number yX5_number ∈ zq_all := zq_in4 (i := 54) rfl rfl
theorem wd_750 : Cond.methodLink RL 59 yX5_triangulation ∈ zq_all := zq_in4 (i := 59) rfl rfl
theorem wd_751 : Cond.instanceMethod yX5_triangulation ∈ zq_all := zq_in4 (i := 60) rfl rfl
theorem wd_752 : Cond.selects RX5 yX5_triangulation yX5_triangulation ∈ zq_all := zq_in4 (i := 61) rfl rfl
theorem wd_753 : Cond.codeWith yL_triangulation cL_triangulation 5 (some .int) [(0, 10, 13, 19), (0, 10, 17, 13)] ∈ zq_all := zq_in4 (i := 58) rfl rfl
theorem wd_754 : Cond.methodLink RL 62 yX5_degree ∈ zq_all := zq_in4 (i := 67) rfl rfl
theorem wd_755 : Cond.instanceMethod yX5_degree ∈ zq_all := zq_in4 (i := 68) rfl rfl
theorem wd_756 : Cond.selects RX5 yX5_degree yX5_degree ∈ zq_all := zq_in4 (i := 69) rfl rfl
theorem wd_757 : Cond.codeWith yL_degree cL_degree 5 (some .int) [(0, 10, 13, 19)] ∈ zq_all := zq_in4 (i := 66) rfl rfl
theorem wd_758 : Cond.methodLink RL 65 yX5_other ∈ zq_all := zq_in4 (i := 74) rfl rfl
theorem wd_759 : Cond.instanceMethod yX5_other ∈ zq_all := zq_in4 (i := 75) rfl rfl
theorem wd_760 : Cond.selects RX5 yX5_other yX5_other ∈ zq_all := zq_in4 (i := 76) rfl rfl
theorem wd_761 : Cond.codeWith yL_other cL_other 6 (some .int) [(0, 12, 15, 19)] ∈ zq_all := zq_in4 (i := 73) rfl rfl
theorem wd_762 : Cond.methodLink RL 68 yX5_whyNot ∈ zq_all := zq_in4 (i := 81) rfl rfl
theorem wd_763 : Cond.instanceMethod yX5_whyNot ∈ zq_all := zq_in4 (i := 82) rfl rfl
theorem wd_764 : Cond.selects RX5 yX5_whyNot yX5_whyNot ∈ zq_all := zq_in4 (i := 83) rfl rfl
theorem wd_765 : Cond.codeWith yL_whyNot cL_whyNot 5 (some .int) [(0, 10, 13, 19)] ∈ zq_all := zq_in4 (i := 80) rfl rfl
theorem wd_766 : Cond.methodLink RL 71 yX5_distance ∈ zq_all := zq_in4 (i := 88) rfl rfl
theorem wd_767 : Cond.instanceMethod yX5_distance ∈ zq_all := zq_in4 (i := 89) rfl rfl
theorem wd_768 : Cond.selects RX5 yX5_distance yX5_distance ∈ zq_all := zq_in4 (i := 90) rfl rfl
theorem wd_769 : Cond.codeWith yL_distance cL_distance 4 (some .int) [(0, 9, 12, 13)] ∈ zq_all := zq_in4 (i := 87) rfl rfl
theorem wd_770 : Cond.methodLink RL 74 yX5_ifFlipped ∈ zq_all := zq_in4 (i := 95) rfl rfl
theorem wd_771 : Cond.instanceMethod yX5_ifFlipped ∈ zq_all := zq_in4 (i := 96) rfl rfl
theorem wd_772 : Cond.selects RX5 yX5_ifFlipped yX5_ifFlipped ∈ zq_all := zq_in4 (i := 97) rfl rfl
theorem wd_773 : Cond.codeWith yL_ifFlipped cL_ifFlipped 5 (some .int) [(0, 10, 13, 19)] ∈ zq_all := zq_in4 (i := 94) rfl rfl
theorem wd_774 : Cond.methodLink RL 77 yX5_count ∈ zq_all := zq_in4 (i := 102) rfl rfl
theorem wd_775 : Cond.instanceMethod yX5_count ∈ zq_all := zq_in4 (i := 103) rfl rfl
theorem wd_776 : Cond.selects RX5 yX5_count yX5_count ∈ zq_all := zq_in4 (i := 104) rfl rfl
theorem wd_777 : Cond.codeWith yL_count cL_count 4 (some .int) [(0, 9, 12, 13)] ∈ zq_all := zq_in4 (i := 101) rfl rfl
theorem wd_778 : Cond.classLink RL 8 RX5 ∈ zq_all := zq_in1 (i := 19) rfl rfl
theorem wd_779 : Cond.instantiable RX5 11 ∈ zq_all := zq_in1 (i := 20) rfl rfl
theorem wd_780 : Cond.classLink RL 81 RX6 ∈ zq_all := zq_in4 (i := 106) rfl rfl
theorem wd_781 : Cond.instantiable RX6 22 ∈ zq_all := zq_in4 (i := 107) rfl rfl
theorem wd_782 : Cond.arrayClass .long ∈ zq_all := zq_in6 (i := 2) rfl rfl
theorem wd_783 : Cond.methodLink RL 80 yX5_init ∈ zq_all := zq_in1 (i := 21) rfl rfl
theorem wd_784 : Cond.instanceMethod yX5_init ∈ zq_all := zq_in1 (i := 22) rfl rfl
theorem wd_785 : Cond.methodLink RL 83 yX6_init ∈ zq_all := zq_in4 (i := 108) rfl rfl
theorem wd_786 : Cond.instanceMethod yX6_init ∈ zq_all := zq_in4 (i := 109) rfl rfl
theorem wd_787 : Cond.methodLink RL 84 yL_begin ∈ zq_all := zq_in3 (i := 43) rfl rfl
theorem wd_788 : Cond.static yL_begin ∈ zq_all := zq_in3 (i := 44) rfl rfl
theorem wd_789 : Cond.initialized RL ∈ zq_all := zq_in1 (i := 0) rfl rfl
theorem wd_790 : Cond.methodLink RL 89 yX6_begin ∈ zq_all := zq_in5 (i := 18) rfl rfl
theorem wd_791 : Cond.instanceMethod yX6_begin ∈ zq_all := zq_in5 (i := 19) rfl rfl
theorem wd_792 : Cond.selects RX6 yX6_begin yX6_begin ∈ zq_all := zq_in5 (i := 20) rfl rfl
theorem wd_793 : Cond.methodLink RL 90 yX6_thrown ∈ zq_all := zq_in5 (i := 14) rfl rfl
theorem wd_794 : Cond.instanceMethod yX6_thrown ∈ zq_all := zq_in5 (i := 15) rfl rfl
theorem wd_795 : Cond.selects RX6 yX6_thrown yX6_thrown ∈ zq_all := zq_in5 (i := 16) rfl rfl
theorem wd_796 : Cond.methodLink RL 93 yL_flip ∈ zq_all := zq_in3 (i := 119) rfl rfl
theorem wd_797 : Cond.static yL_flip ∈ zq_all := zq_in3 (i := 120) rfl rfl
theorem wd_798 : Cond.methodLink RL 96 yX6_flip ∈ zq_all := zq_in5 (i := 29) rfl rfl
theorem wd_799 : Cond.instanceMethod yX6_flip ∈ zq_all := zq_in5 (i := 30) rfl rfl
theorem wd_800 : Cond.selects RX6 yX6_flip yX6_flip ∈ zq_all := zq_in5 (i := 31) rfl rfl
theorem wd_801 : Cond.methodLink RL 97 yL_fan ∈ zq_all := zq_in3 (i := 172) rfl rfl
theorem wd_802 : Cond.static yL_fan ∈ zq_all := zq_in3 (i := 173) rfl rfl
theorem wd_803 : Cond.methodLink RL 100 yX6_fan ∈ zq_all := zq_in5 (i := 44) rfl rfl
theorem wd_804 : Cond.instanceMethod yX6_fan ∈ zq_all := zq_in5 (i := 45) rfl rfl
theorem wd_805 : Cond.selects RX6 yX6_fan yX6_fan ∈ zq_all := zq_in5 (i := 46) rfl rfl
theorem wd_806 : Cond.methodLink RL 101 yL_turn ∈ zq_all := zq_in3 (i := 186) rfl rfl
theorem wd_807 : Cond.static yL_turn ∈ zq_all := zq_in3 (i := 187) rfl rfl
theorem wd_808 : Cond.methodLink RL 103 yX6_turn ∈ zq_all := zq_in5 (i := 59) rfl rfl
theorem wd_809 : Cond.instanceMethod yX6_turn ∈ zq_all := zq_in5 (i := 60) rfl rfl
theorem wd_810 : Cond.selects RX6 yX6_turn yX6_turn ∈ zq_all := zq_in5 (i := 61) rfl rfl
theorem wd_811 : Cond.methodLink RL 104 yL_mirror ∈ zq_all := zq_in3 (i := 199) rfl rfl
theorem wd_812 : Cond.static yL_mirror ∈ zq_all := zq_in3 (i := 200) rfl rfl
theorem wd_813 : Cond.methodLink RL 106 yX6_mirror ∈ zq_all := zq_in5 (i := 63) rfl rfl
theorem wd_814 : Cond.instanceMethod yX6_mirror ∈ zq_all := zq_in5 (i := 64) rfl rfl
theorem wd_815 : Cond.selects RX6 yX6_mirror yX6_mirror ∈ zq_all := zq_in5 (i := 65) rfl rfl
theorem wd_816 : Cond.methodLink RL 107 yX5_exchange ∈ zq_all := zq_in2 (i := 45) rfl rfl
theorem wd_817 : Cond.instanceMethod yX5_exchange ∈ zq_all := zq_in2 (i := 46) rfl rfl
theorem wd_818 : Cond.selects RX5 yX5_exchange yX5_exchange ∈ zq_all := zq_in2 (i := 47) rfl rfl
theorem wd_819 : Cond.methodLink RL 110 yX6_exchange ∈ zq_all := zq_in5 (i := 67) rfl rfl
theorem wd_820 : Cond.instanceMethod yX6_exchange ∈ zq_all := zq_in5 (i := 68) rfl rfl
theorem wd_821 : Cond.selects RX6 yX6_exchange yX6_exchange ∈ zq_all := zq_in5 (i := 69) rfl rfl
theorem wd_822 : Cond.methodLink RL 111 yL_lock ∈ zq_all := zq_in3 (i := 207) rfl rfl
theorem wd_823 : Cond.static yL_lock ∈ zq_all := zq_in3 (i := 208) rfl rfl
theorem wd_824 : Cond.methodLink RL 114 yX6_lock ∈ zq_all := zq_in5 (i := 71) rfl rfl
theorem wd_825 : Cond.instanceMethod yX6_lock ∈ zq_all := zq_in5 (i := 72) rfl rfl
theorem wd_826 : Cond.selects RX6 yX6_lock yX6_lock ∈ zq_all := zq_in5 (i := 73) rfl rfl
theorem wd_827 : Cond.methodLink RL 115 yL_walk ∈ zq_all := zq_in3 (i := 216) rfl rfl
theorem wd_828 : Cond.static yL_walk ∈ zq_all := zq_in3 (i := 217) rfl rfl
theorem wd_829 : Cond.methodLink RL 117 yX6_walk ∈ zq_all := zq_in5 (i := 75) rfl rfl
theorem wd_830 : Cond.instanceMethod yX6_walk ∈ zq_all := zq_in5 (i := 76) rfl rfl
theorem wd_831 : Cond.selects RX6 yX6_walk yX6_walk ∈ zq_all := zq_in5 (i := 77) rfl rfl
theorem wd_832 : Cond.methodLink RL 118 yL_append ∈ zq_all := zq_in3 (i := 225) rfl rfl
theorem wd_833 : Cond.static yL_append ∈ zq_all := zq_in3 (i := 226) rfl rfl
theorem wd_834 : Cond.methodLink RL 120 yX6_append ∈ zq_all := zq_in5 (i := 87) rfl rfl
theorem wd_835 : Cond.instanceMethod yX6_append ∈ zq_all := zq_in5 (i := 88) rfl rfl
theorem wd_836 : Cond.selects RX6 yX6_append yX6_append ∈ zq_all := zq_in5 (i := 89) rfl rfl
theorem wd_837 : Cond.methodLink RL 121 yX5_clearBuffer ∈ zq_all := zq_in2 (i := 57) rfl rfl
theorem wd_838 : Cond.instanceMethod yX5_clearBuffer ∈ zq_all := zq_in2 (i := 58) rfl rfl
theorem wd_839 : Cond.selects RX5 yX5_clearBuffer yX5_clearBuffer ∈ zq_all := zq_in2 (i := 59) rfl rfl
theorem wd_840 : Cond.methodLink RL 124 yX6_clearBuffer ∈ zq_all := zq_in5 (i := 91) rfl rfl
theorem wd_841 : Cond.instanceMethod yX6_clearBuffer ∈ zq_all := zq_in5 (i := 92) rfl rfl
theorem wd_842 : Cond.selects RX6 yX6_clearBuffer yX6_clearBuffer ∈ zq_all := zq_in5 (i := 93) rfl rfl
theorem wd_843 : Cond.methodLink RL 125 yX5_firstError ∈ zq_all := zq_in2 (i := 65) rfl rfl
theorem wd_844 : Cond.instanceMethod yX5_firstError ∈ zq_all := zq_in2 (i := 66) rfl rfl
theorem wd_845 : Cond.selects RX5 yX5_firstError yX5_firstError ∈ zq_all := zq_in2 (i := 67) rfl rfl
theorem wd_846 : Cond.methodLink RL 128 yX6_firstError ∈ zq_all := zq_in5 (i := 95) rfl rfl
theorem wd_847 : Cond.instanceMethod yX6_firstError ∈ zq_all := zq_in5 (i := 96) rfl rfl
theorem wd_848 : Cond.selects RX6 yX6_firstError yX6_firstError ∈ zq_all := zq_in5 (i := 97) rfl rfl
theorem wd_849 : Cond.methodLink RL 129 yL_read ∈ zq_all := zq_in4 (i := 2) rfl rfl
theorem wd_850 : Cond.static yL_read ∈ zq_all := zq_in4 (i := 3) rfl rfl
theorem wd_851 : Cond.methodLink RL 131 yX6_read ∈ zq_all := zq_in5 (i := 107) rfl rfl
theorem wd_852 : Cond.instanceMethod yX6_read ∈ zq_all := zq_in5 (i := 108) rfl rfl
theorem wd_853 : Cond.selects RX6 yX6_read yX6_read ∈ zq_all := zq_in5 (i := 109) rfl rfl
theorem wd_854 : Cond.methodLink RL 132 yL_take ∈ zq_all := zq_in4 (i := 21) rfl rfl
theorem wd_855 : Cond.static yL_take ∈ zq_all := zq_in4 (i := 22) rfl rfl
theorem wd_856 : Cond.methodLink RL 134 yX6_take ∈ zq_all := zq_in5 (i := 123) rfl rfl
theorem wd_857 : Cond.instanceMethod yX6_take ∈ zq_all := zq_in5 (i := 124) rfl rfl
theorem wd_858 : Cond.selects RX6 yX6_take yX6_take ∈ zq_all := zq_in5 (i := 125) rfl rfl
theorem wd_859 : Cond.methodLink RL 135 yL_restore ∈ zq_all := zq_in4 (i := 33) rfl rfl
theorem wd_860 : Cond.static yL_restore ∈ zq_all := zq_in4 (i := 34) rfl rfl
theorem wd_861 : Cond.methodLink RL 137 yX6_restore ∈ zq_all := zq_in5 (i := 130) rfl rfl
theorem wd_862 : Cond.instanceMethod yX6_restore ∈ zq_all := zq_in5 (i := 131) rfl rfl
theorem wd_863 : Cond.selects RX6 yX6_restore yX6_restore ∈ zq_all := zq_in5 (i := 132) rfl rfl
theorem wd_864 : Cond.methodLink RL 138 yL_undo ∈ zq_all := zq_in4 (i := 41) rfl rfl
theorem wd_865 : Cond.static yL_undo ∈ zq_all := zq_in4 (i := 42) rfl rfl
theorem wd_866 : Cond.methodLink RL 141 yX6_undo ∈ zq_all := zq_in5 (i := 134) rfl rfl
theorem wd_867 : Cond.instanceMethod yX6_undo ∈ zq_all := zq_in5 (i := 135) rfl rfl
theorem wd_868 : Cond.selects RX6 yX6_undo yX6_undo ∈ zq_all := zq_in5 (i := 136) rfl rfl
theorem wd_869 : Cond.methodLink RL 142 yL_number ∈ zq_all := zq_in4 (i := 49) rfl rfl
theorem wd_870 : Cond.static yL_number ∈ zq_all := zq_in4 (i := 50) rfl rfl
theorem wd_871 : Cond.methodLink RL 144 yX6_number ∈ zq_all := zq_in5 (i := 138) rfl rfl
theorem wd_872 : Cond.instanceMethod yX6_number ∈ zq_all := zq_in5 (i := 139) rfl rfl
theorem wd_873 : Cond.selects RX6 yX6_number yX6_number ∈ zq_all := zq_in5 (i := 140) rfl rfl
theorem wd_874 : Cond.methodLink RL 145 yL_triangulation ∈ zq_all := zq_in4 (i := 56) rfl rfl
theorem wd_875 : Cond.static yL_triangulation ∈ zq_all := zq_in4 (i := 57) rfl rfl
theorem wd_876 : Cond.methodLink RL 147 yX6_triangulation ∈ zq_all := zq_in5 (i := 142) rfl rfl
theorem wd_877 : Cond.instanceMethod yX6_triangulation ∈ zq_all := zq_in5 (i := 143) rfl rfl
theorem wd_878 : Cond.selects RX6 yX6_triangulation yX6_triangulation ∈ zq_all := zq_in5 (i := 144) rfl rfl
theorem wd_879 : Cond.methodLink RL 148 yL_degree ∈ zq_all := zq_in4 (i := 64) rfl rfl
theorem wd_880 : Cond.static yL_degree ∈ zq_all := zq_in4 (i := 65) rfl rfl
theorem wd_881 : Cond.methodLink RL 150 yX6_degree ∈ zq_all := zq_in5 (i := 166) rfl rfl
theorem wd_882 : Cond.instanceMethod yX6_degree ∈ zq_all := zq_in5 (i := 167) rfl rfl
theorem wd_883 : Cond.selects RX6 yX6_degree yX6_degree ∈ zq_all := zq_in5 (i := 168) rfl rfl
theorem wd_884 : Cond.methodLink RL 151 yL_other ∈ zq_all := zq_in4 (i := 71) rfl rfl
theorem wd_885 : Cond.static yL_other ∈ zq_all := zq_in4 (i := 72) rfl rfl
theorem wd_886 : Cond.methodLink RL 153 yX6_other ∈ zq_all := zq_in5 (i := 170) rfl rfl
theorem wd_887 : Cond.instanceMethod yX6_other ∈ zq_all := zq_in5 (i := 171) rfl rfl
theorem wd_888 : Cond.selects RX6 yX6_other yX6_other ∈ zq_all := zq_in5 (i := 172) rfl rfl
theorem wd_889 : Cond.methodLink RL 154 yL_whyNot ∈ zq_all := zq_in4 (i := 78) rfl rfl
theorem wd_890 : Cond.static yL_whyNot ∈ zq_all := zq_in4 (i := 79) rfl rfl
theorem wd_891 : Cond.methodLink RL 156 yX6_whyNot ∈ zq_all := zq_in5 (i := 178) rfl rfl
theorem wd_892 : Cond.instanceMethod yX6_whyNot ∈ zq_all := zq_in5 (i := 179) rfl rfl
theorem wd_893 : Cond.selects RX6 yX6_whyNot yX6_whyNot ∈ zq_all := zq_in5 (i := 180) rfl rfl
theorem wd_894 : Cond.methodLink RL 157 yL_distance ∈ zq_all := zq_in4 (i := 85) rfl rfl
theorem wd_895 : Cond.static yL_distance ∈ zq_all := zq_in4 (i := 86) rfl rfl
theorem wd_896 : Cond.methodLink RL 159 yX6_distance ∈ zq_all := zq_in5 (i := 186) rfl rfl
theorem wd_897 : Cond.instanceMethod yX6_distance ∈ zq_all := zq_in5 (i := 187) rfl rfl
theorem wd_898 : Cond.selects RX6 yX6_distance yX6_distance ∈ zq_all := zq_in5 (i := 188) rfl rfl
theorem wd_899 : Cond.methodLink RL 160 yL_ifFlipped ∈ zq_all := zq_in4 (i := 92) rfl rfl
theorem wd_900 : Cond.static yL_ifFlipped ∈ zq_all := zq_in4 (i := 93) rfl rfl
theorem wd_901 : Cond.methodLink RL 162 yX6_ifFlipped ∈ zq_all := zq_in5 (i := 198) rfl rfl
theorem wd_902 : Cond.instanceMethod yX6_ifFlipped ∈ zq_all := zq_in5 (i := 199) rfl rfl
theorem wd_903 : Cond.selects RX6 yX6_ifFlipped yX6_ifFlipped ∈ zq_all := zq_in5 (i := 200) rfl rfl
theorem wd_904 : Cond.methodLink RL 163 yL_count ∈ zq_all := zq_in4 (i := 99) rfl rfl
theorem wd_905 : Cond.static yL_count ∈ zq_all := zq_in4 (i := 100) rfl rfl
theorem wd_906 : Cond.methodLink RL 165 yX6_count ∈ zq_all := zq_in5 (i := 206) rfl rfl
theorem wd_907 : Cond.instanceMethod yX6_count ∈ zq_all := zq_in5 (i := 207) rfl rfl
theorem wd_908 : Cond.selects RX6 yX6_count yX6_count ∈ zq_all := zq_in5 (i := 208) rfl rfl
theorem wd_909 : Cond.methodLink RL 166 yX5_farShare ∈ zq_all := zq_in2 (i := 88) rfl rfl
theorem wd_910 : Cond.instanceMethod yX5_farShare ∈ zq_all := zq_in2 (i := 89) rfl rfl
theorem wd_911 : Cond.selects RX5 yX5_farShare yX5_farShare ∈ zq_all := zq_in2 (i := 90) rfl rfl
theorem wd_912 : Cond.methodLink RL 170 yX6_farShare ∈ zq_all := zq_in5 (i := 214) rfl rfl
theorem wd_913 : Cond.instanceMethod yX6_farShare ∈ zq_all := zq_in5 (i := 215) rfl rfl
theorem wd_914 : Cond.selects RX6 yX6_farShare yX6_farShare ∈ zq_all := zq_in5 (i := 216) rfl rfl
theorem wd_915 : Cond.methodLink RL 171 yX5_digest ∈ zq_all := zq_in2 (i := 133) rfl rfl
theorem wd_916 : Cond.instanceMethod yX5_digest ∈ zq_all := zq_in2 (i := 134) rfl rfl
theorem wd_917 : Cond.selects RX5 yX5_digest yX5_digest ∈ zq_all := zq_in2 (i := 135) rfl rfl
theorem wd_918 : Cond.methodLink RL 175 yX6_digest ∈ zq_all := zq_in5 (i := 222) rfl rfl
theorem wd_919 : Cond.instanceMethod yX6_digest ∈ zq_all := zq_in5 (i := 223) rfl rfl
theorem wd_920 : Cond.selects RX6 yX6_digest yX6_digest ∈ zq_all := zq_in5 (i := 224) rfl rfl
theorem wd_921 : Cond.laysFinal "FlipPolygons$Polygon" "FlipPolygons$Polygon" "corners" "I" ∈ zq_all := zq_in1 (i := 75) rfl rfl
theorem wd_922 : Cond.laysFinal "FlipPolygons$Polygon" "FlipPolygons$Polygon" "diagonals" "I" ∈ zq_all := zq_in1 (i := 77) rfl rfl
theorem wd_923 : Cond.laysFinal "FlipPolygons$Polygon" "FlipPolygons$Polygon" "lesser" "[I" ∈ zq_all := zq_in1 (i := 79) rfl rfl
theorem wd_924 : Cond.laysFinal "FlipPolygons$Polygon" "FlipPolygons$Polygon" "greater" "[I" ∈ zq_all := zq_in1 (i := 81) rfl rfl
theorem wd_925 : Cond.laysFinal "FlipPolygons$Polygon" "FlipPolygons$Polygon" "numbers" "[I" ∈ zq_all := zq_in1 (i := 83) rfl rfl
theorem wd_926 : Cond.laysFinal "FlipPolygons$Polygon" "FlipPolygons$Polygon" "fans" "[I" ∈ zq_all := zq_in1 (i := 85) rfl rfl
theorem wd_927 : Cond.laysFinal "FlipPolygons$Polygon" "FlipPolygons$Polygon" "crossing" "[I" ∈ zq_all := zq_in1 (i := 87) rfl rfl
theorem wd_928 : Cond.laysFinal "FlipPolygons$Polygon" "FlipPolygons$Polygon" "afterTurn" "[I" ∈ zq_all := zq_in1 (i := 89) rfl rfl
theorem wd_929 : Cond.laysFinal "FlipPolygons$Polygon" "FlipPolygons$Polygon" "afterMirror" "[I" ∈ zq_all := zq_in1 (i := 91) rfl rfl
theorem wd_930 : Cond.laysFinal "FlipPolygons$FlipGraph" "FlipPolygons$FlipGraph" "polygon" "LFlipPolygons$Polygon;" ∈ zq_all := zq_in1 (i := 126) rfl rfl
theorem wd_931 : Cond.laysFinal "FlipPolygons$FlipGraph" "FlipPolygons$FlipGraph" "triangulations" "I" ∈ zq_all := zq_in1 (i := 128) rfl rfl
theorem wd_932 : Cond.laysFinal "FlipPolygons$FlipGraph" "FlipPolygons$FlipGraph" "classes" "I" ∈ zq_all := zq_in1 (i := 130) rfl rfl
theorem wd_933 : Cond.laysFinal "FlipPolygons$FlipGraph" "FlipPolygons$FlipGraph" "diameter" "I" ∈ zq_all := zq_in1 (i := 132) rfl rfl
theorem wd_934 : Cond.laysFinal "FlipPolygons$FlipGraph" "FlipPolygons$FlipGraph" "flipsOfEach" "I" ∈ zq_all := zq_in1 (i := 134) rfl rfl
theorem wd_935 : Cond.laysFinal "FlipPolygons$FlipGraph" "FlipPolygons$FlipGraph" "masks" "[I" ∈ zq_all := zq_in1 (i := 136) rfl rfl
theorem wd_936 : Cond.laysFinal "FlipPolygons$FlipGraph" "FlipPolygons$FlipGraph" "neighbors" "[I" ∈ zq_all := zq_in1 (i := 138) rfl rfl
theorem wd_937 : Cond.laysFinal "FlipPolygons$FlipGraph" "FlipPolygons$FlipGraph" "slots" "[I" ∈ zq_all := zq_in1 (i := 140) rfl rfl
theorem wd_938 : Cond.lays "FlipPolygons$FlipGraph" "FlipPolygons$FlipGraph" "found" "I" ∈ zq_all := zq_in1 (i := 142) rfl rfl
theorem wd_939 : Cond.lays "FlipPolygons$State" "FlipPolygons$State" "graph" "LFlipPolygons$FlipGraph;" ∈ zq_all := zq_in1 (i := 195) rfl rfl
theorem wd_940 : Cond.lays "FlipPolygons$State" "FlipPolygons$State" "present" "I" ∈ zq_all := zq_in1 (i := 197) rfl rfl
theorem wd_941 : Cond.lays "FlipPolygons$State" "FlipPolygons$State" "goal" "I" ∈ zq_all := zq_in1 (i := 199) rfl rfl
theorem wd_942 : Cond.lays "FlipPolygons$State" "FlipPolygons$State" "locks" "I" ∈ zq_all := zq_in1 (i := 201) rfl rfl
theorem wd_943 : Cond.lays "FlipPolygons$State" "FlipPolygons$State" "flips" "I" ∈ zq_all := zq_in1 (i := 203) rfl rfl
theorem wd_944 : Cond.laysFinal "FlipPolygons$Text" "FlipPolygons$Text" "codes" "[I" ∈ zq_all := zq_in1 (i := 221) rfl rfl
theorem wd_945 : Cond.lays "FlipPolygons$Text" "FlipPolygons$Text" "length" "I" ∈ zq_all := zq_in1 (i := 223) rfl rfl
theorem wd_946 : Cond.laysFinal "FlipPolygons$Reach" "FlipPolygons$Reach" "flips" "[I" ∈ zq_all := zq_in1 (i := 238) rfl rfl
theorem wd_947 : Cond.laysFinal "FlipPolygons$Reach" "FlipPolygons$Reach" "ways" "[I" ∈ zq_all := zq_in2 (i := 0) rfl rfl
theorem wd_948 : Cond.laysFinal "FlipPolygons$Reach" "FlipPolygons$Reach" "queue" "[I" ∈ zq_all := zq_in2 (i := 2) rfl rfl
theorem wd_949 : Cond.lays "FlipPolygons$Reach" "FlipPolygons$Reach" "graph" "LFlipPolygons$FlipGraph;" ∈ zq_all := zq_in2 (i := 4) rfl rfl
theorem wd_950 : Cond.lays "FlipPolygons$Reach" "FlipPolygons$Reach" "source" "I" ∈ zq_all := zq_in2 (i := 6) rfl rfl
theorem wd_951 : Cond.lays "FlipPolygons$Reach" "FlipPolygons$Reach" "barred" "I" ∈ zq_all := zq_in2 (i := 8) rfl rfl
theorem wd_952 : Cond.laysFinal "FlipPolygons" "FlipPolygons" "graphs" "[LFlipPolygons$FlipGraph;" ∈ zq_all := zq_in2 (i := 22) rfl rfl
theorem wd_953 : Cond.laysFinal "FlipPolygons" "FlipPolygons" "now" "LFlipPolygons$State;" ∈ zq_all := zq_in2 (i := 24) rfl rfl
theorem wd_954 : Cond.laysFinal "FlipPolygons" "FlipPolygons" "saved" "[LFlipPolygons$State;" ∈ zq_all := zq_in2 (i := 26) rfl rfl
theorem wd_955 : Cond.lays "FlipPolygons" "FlipPolygons" "savedStates" "I" ∈ zq_all := zq_in2 (i := 28) rfl rfl
theorem wd_956 : Cond.laysFinal "FlipPolygons" "FlipPolygons" "snapshots" "[LFlipPolygons$State;" ∈ zq_all := zq_in2 (i := 30) rfl rfl
theorem wd_957 : Cond.laysFinal "FlipPolygons" "FlipPolygons" "text" "LFlipPolygons$Text;" ∈ zq_all := zq_in2 (i := 32) rfl rfl
theorem wd_958 : Cond.laysFinal "FlipPolygons" "FlipPolygons" "fromPresent" "LFlipPolygons$Reach;" ∈ zq_all := zq_in2 (i := 34) rfl rfl
theorem wd_959 : Cond.laysFinal "FlipPolygons" "FlipPolygons" "fromGoal" "LFlipPolygons$Reach;" ∈ zq_all := zq_in2 (i := 36) rfl rfl
theorem wd_960 : Cond.laysFinal "FlipPolygons" "FlipPolygons" "fromGoalWithLocks" "LFlipPolygons$Reach;" ∈ zq_all := zq_in2 (i := 38) rfl rfl
theorem wd_961 : Cond.laysFinal "FlipPolygons" "FlipPolygons" "fromPart" "LFlipPolygons$Reach;" ∈ zq_all := zq_in2 (i := 40) rfl rfl
theorem wd_962 : Cond.laysFinal "FlipPolygons" "FlipPolygons" "parts" "[I" ∈ zq_all := zq_in2 (i := 42) rfl rfl
theorem wd_963 : Cond.code ({ cls := "FlipPolygons", name := "reachFrom", desc := "(I)LFlipPolygons$Reach;" } : Jvm.MethodName) prog_1_method_35_code (3 : Nat) (Option.some (Jvm.ClassFile.FieldType.object "FlipPolygons$Reach")) ∈ zq_all := zq_in2 (i := 103) rfl rfl
theorem wd_964 : Cond.code ({ cls := "FlipPolygons", name := "reachWithLocks", desc := "()LFlipPolygons$Reach;" } : Jvm.MethodName) prog_1_method_36_code (2 : Nat) (Option.some (Jvm.ClassFile.FieldType.object "FlipPolygons$Reach")) ∈ zq_all := zq_in2 (i := 224) rfl rfl
theorem wd_965 : Cond.native ({ cls := "java/lang/Throwable", name := "fillInStackTrace", desc := "(I)Ljava/lang/Throwable;" } : Jvm.MethodName) ∈ zq_all := zq_in3 (i := 91) rfl rfl
theorem wd_966 : Cond.methodLink "FlipPolygons" (77 : Nat) ({ cls := "java/lang/IllegalArgumentException", name := "<init>", desc := "(Ljava/lang/String;)V" } : Jvm.MethodName) ∈ zq_all := zq_in3 (i := 93) rfl rfl
theorem wd_967 : Cond.arrayClass Jvm.ClassFile.FieldType.byte ∈ zq_all := zq_in3 (i := 118) rfl rfl
theorem wd_968 : Cond.methodLink "FlipPolygons" (107 : Nat) ({ cls := "java/lang/IndexOutOfBoundsException", name := "<init>", desc := "(Ljava/lang/String;)V" } : Jvm.MethodName) ∈ zq_all := zq_in3 (i := 142) rfl rfl
theorem wd_969 : Cond.methodLink "FlipPolygons" (123 : Nat) ({ cls := "java/lang/IllegalStateException", name := "<init>", desc := "(Ljava/lang/String;)V" } : Jvm.MethodName) ∈ zq_all := zq_in3 (i := 158) rfl rfl
theorem wd_970 : Cond.laysFinal "FlipPolygonsModel" "FlipPolygonsModel" "z" "[I" ∈ zq_all := zq_in4 (i := 209) rfl rfl
theorem wd_971 : Cond.lays "FlipPolygonsModel" "FlipPolygonsModel" "states" "I" ∈ zq_all := zq_in4 (i := 211) rfl rfl
theorem wd_972 : Cond.laysFinal "FlipPolygonsModel" "FlipPolygonsModel" "history" "[I" ∈ zq_all := zq_in4 (i := 213) rfl rfl
theorem wd_973 : Cond.laysFinal "FlipPolygonsModel" "FlipPolygonsModel" "snaps" "[I" ∈ zq_all := zq_in4 (i := 215) rfl rfl
theorem wd_974 : Cond.laysFinal "FlipPolygonsModel" "FlipPolygonsModel" "taken" "[I" ∈ zq_all := zq_in4 (i := 217) rfl rfl
theorem wd_975 : Cond.lays "FlipPolygonsModel" "FlipPolygonsModel" "length" "I" ∈ zq_all := zq_in4 (i := 219) rfl rfl
theorem wd_976 : Cond.laysFinal "FlipPolygonsModel" "FlipPolygonsModel" "text" "[I" ∈ zq_all := zq_in4 (i := 221) rfl rfl
theorem wd_977 : Cond.lays "FlipPolygonsModel" "FlipPolygonsModel" "thrown" "I" ∈ zq_all := zq_in4 (i := 223) rfl rfl
theorem wd_978 : Cond.lays "FlipPolygonsModel" "FlipPolygonsModel" "laid" "I" ∈ zq_all := zq_in4 (i := 225) rfl rfl
theorem wd_979 : Cond.lays "FlipPolygonsModel" "FlipPolygonsModel" "diagonals" "I" ∈ zq_all := zq_in4 (i := 227) rfl rfl
theorem wd_980 : Cond.laysFinal "FlipPolygonsModel" "FlipPolygonsModel" "lesser" "[I" ∈ zq_all := zq_in4 (i := 229) rfl rfl
theorem wd_981 : Cond.laysFinal "FlipPolygonsModel" "FlipPolygonsModel" "greater" "[I" ∈ zq_all := zq_in4 (i := 231) rfl rfl
theorem wd_982 : Cond.laysFinal "FlipPolygonsModel" "FlipPolygonsModel" "numbers" "[I" ∈ zq_all := zq_in4 (i := 233) rfl rfl
theorem wd_983 : Cond.lays "FlipPolygonsModel" "FlipPolygonsModel" "all" "I" ∈ zq_all := zq_in4 (i := 235) rfl rfl
theorem wd_984 : Cond.laysFinal "FlipPolygonsModel" "FlipPolygonsModel" "masks" "[I" ∈ zq_all := zq_in4 (i := 237) rfl rfl
theorem wd_985 : Cond.laysFinal "FlipPolygonsModel" "FlipPolygonsModel" "leads" "[I" ∈ zq_all := zq_in4 (i := 239) rfl rfl
theorem wd_986 : Cond.lays "FlipPolygonsModel" "FlipPolygonsModel" "classes" "I" ∈ zq_all := zq_in5 (i := 1) rfl rfl
theorem wd_987 : Cond.lays "FlipPolygonsModel" "FlipPolygonsModel" "widest" "I" ∈ zq_all := zq_in5 (i := 3) rfl rfl
theorem wd_988 : Cond.laysFinal "FlipPolygonsModel" "FlipPolygonsModel" "far" "[I" ∈ zq_all := zq_in5 (i := 5) rfl rfl
theorem wd_989 : Cond.laysFinal "FlipPolygonsModel" "FlipPolygonsModel" "ways" "[I" ∈ zq_all := zq_in5 (i := 7) rfl rfl
theorem wd_990 : Cond.laysFinal "FlipPolygonsModel" "FlipPolygonsModel" "order" "[I" ∈ zq_all := zq_in5 (i := 9) rfl rfl
theorem wd_991 : Cond.lays "FlipPolygonsModel" "FlipPolygonsModel" "hash" "J" ∈ zq_all := zq_in5 (i := 11) rfl rfl
theorem wd_992 : Cond.methodLink "java/lang/Double" (134 : Nat) ({ cls := "java/lang/Double", name := "doubleToRawLongBits", desc := "(D)J" } : Jvm.MethodName) ∈ zq_all := zq_in5 (i := 238) rfl rfl
theorem wd_993 : Cond.static ({ cls := "java/lang/Double", name := "doubleToRawLongBits", desc := "(D)J" } : Jvm.MethodName) ∈ zq_all := zq_in5 (i := 239) rfl rfl
theorem wd_994 : Cond.native ({ cls := "java/lang/Double", name := "doubleToRawLongBits", desc := "(D)J" } : Jvm.MethodName) ∈ zq_all := zq_in6 (i := 0) rfl rfl
