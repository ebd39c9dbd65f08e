section
/-! ===== BEGIN exceptions that leave a method, and their catching by the caller (launches without stack traces) ===== -/
section VXA
/-! The laws vx_back, vx_callV, vx_callS, vx_callSW, vx_throw0, vx_throwS follow proofs of the library, with one case more: JvmDerived/Free/Laws.lean (Back.of_free), Shelf42/LK1.lean (callV, callS), Shelf/KitTraced.lean (throwNew0V, throwNewS). -/
/-- where a method has thrown q: the class by its name, the cell, what was written, the world -/
def vx_T (XC : String → State → State → Prop) (st : State) (q : Addr) (t : State) (mc ms : Nat) (free : Addr → Prop) : Prop :=
  ∃ (E : String) (ce : Cell) (L : List Loc), XC E st t ∧ t.heap[q]? = some ce ∧ ce.vm = .none ∧ st.vm.findClass E = some ce.cls ∧ st.WarmedH t.vm ∧ st.sameButNew ({ t with vm := st.vm } : State) L mc ms ∧ ∀ z ∈ L, free z.base
def vx_Q (Qc : Array Value → State → Outcome → State → Prop) (XC : String → State → State → Prop) (mc ms : Nat) (free : Addr → Prop) : Array Value → State → Outcome → State → Prop := fun a st o t =>
  (Qc a st o t ∧ ∃ L, FrameEnd st o t L mc ms ∧ ∀ q ∈ L, free q.base) ∨ ∃ q, o = .threw q ∧ vx_T XC st q t mc ms free
/-- a callee that returns or throws -/
def vx_Met (l : Launch) (y : MethodName) (ws : List Cond) (rm : Room) (Pc : Array Value → State → Prop) (Qc : Array Value → State → Outcome → State → Prop) (XC : String → State → State → Prop) (mc ms : Nat) (free : Addr → Prop) : Prop :=
  MetFree l y (headSpec ws rm) Pc (fun _ _ _ _ _ => True) (vx_Q Qc XC mc ms free)
def vx_Post (XC : String → State → State → Prop) (mc ms : Nat) (free : Addr → Prop) : Pt → Array Value → Addr → Pt → Prop := fun A a q B =>
  ∃ (g : JFrame) (mk : MethodId) (t : State) (L : List Loc) (E : String) (ce : Cell), B.U.heap = t.heap ∧ B.U.vm = t.vm ∧ XC E (A.U.calling g mk a) t ∧ t.heap[q]? = some ce ∧ ce.vm = .none ∧ A.U.vm.findClass E = some ce.cls ∧ B.locs = A.locs ++ L ∧ (∀ z ∈ L, free z.base) ∧ B.cells = A.cells + mc ∧ B.slots = A.slots + ms
def vx_Back (l : Launch) (R : Room) (p : Program) (e : Env) (below : List Frame) (s : State) (sargs : Array Value) (y : MethodName) (len W9 : Nat)
    (Pre : Pt → Array Value → Prop) (Post : Pt → Array Value → Option Value → Pt → Prop) (PostX : Pt → Array Value → Addr → Pt → Prop) : Prop :=
  ∀ (m : MethodId) (meth : Method) (c : Code) (A : Pt) (g : JFrame) (ig : Instr) (mk : MethodId) (a : Array Value),
    Stand p l e R s m sargs below meth c A.U A.locs A.cells A.slots → g.method = m → g.locals.size = c.maxLocals → decode c.code g.pc = .ok (ig, len) →
    2 * g.monitorRoom + (g.stack.map fun v => v.category).sum ≤ W9 → A.U.methodNamed? y = some mk → Pre A a →
    (∃ (v : Option Value) (B : Pt), Stand p l e R s m sargs below meth c B.U B.locs B.cells B.slots ∧ Post A a v B ∧
      Steps p.tables e below (doInvoke e (A.U.setTop g) [] mk a).1 (B.U.setTop { g with pc := g.pc + len, stack := v.toList ++ g.stack })) ∨
    (∃ (q : Addr) (B : Pt), Stand p l e R s m sargs below meth c B.U B.locs B.cells B.slots ∧ PostX A a q B ∧
      Steps p.tables e below (doInvoke e (A.U.setTop g) [] mk a).1 ((B.U.setTop g).pushFrame (.throwing q)))
section Payer
variable {l : Launch} {R : Room} {p : Program} {e : Env} {below : List Frame} {s : State} {sargs : Array Value} {y : MethodName} {len W9 : Nat}
theorem vx_back {ws : List Cond} {rm : Room} {Pc : Array Value → State → Prop} {Qc : Array Value → State → Outcome → State → Prop} {XC : String → State → State → Prop} {mc ms : Nat} {free : Addr → Prop} {bytes : ByteArray} {maxL : Nat} {ret : Option FieldType}
    (hM : vx_Met l y ws rm Pc Qc XC mc ms free) (hblind : FrameBlind Pc) (hrc : rm.cells = mc) (hrs : rm.slots = ms)
    (hframes : rm.frames + 1 ≤ R.frames) (hlocals : W9 + (maxL + 11) + rm.locals ≤ R.locals)
    (hws : ∀ w ∈ ws, ∀ a' U, s.WarmedH U.vm → w.before a' U = true) (hcode : Cond.code y bytes maxL ret ∈ ws) (hinit : ∀ a' U, s.WarmedH U.vm → (Cond.initialized y.cls).before a' U = true) :
    vx_Back l R p e below s sargs y len W9 (PreOf R mc ms Pc) (PostOf Qc mc ms free) (vx_Post XC mc ms free) := by
  intro m meth c A g ig mk a X hg hsize hdg hW hn hp
  have h1 : (headSpec ws rm).pre.before a A.U = true := atoms_intro fun w hw => hws w hw _ _ X.warmed
  have h2 : (Cond.code y bytes maxL ret).before a A.U = true := hws _ hcode _ _ X.warmed
  have h3 : (Cond.initialized y.cls).before a A.U = true := hinit _ _ X.warmed
  have h4 : A.cells + (headSpec ws rm).room.cells ≤ R.cells := by rw [show (headSpec ws rm).room.cells = mc from hrc]; exact hp.1
  have h5 : A.slots + (headSpec ws rm).room.slots ≤ R.slots := by rw [show (headSpec ws rm).room.slots = ms from hrs]; exact hp.2.1
  have hPc : Pc a (A.U.calling g mk a) := hblind _ _ _ _ hp.2.2
  obtain ⟨U, Ls, c0, s0⟩ := A
  dsimp only [Pt.U, Pt.locs, Pt.cells, Pt.slots] at h1 h2 h3 h4 h5 X hn hPc ⊢
  obtain ⟨methY, cY, hmY, hcY, -, hlY, -, -, -, -⟩ := Cond.code_spec hn h2
  obtain ⟨kY, hkY, -⟩ := className_of_methodNamed hn
  have hinitY : kY.init = .initialized := Cond.initialized_spec (findClass_of_methodNamed hn) hkY h3
  have h : At U g.method c below := by rw [hg]; exact X.here
  have hlocals9 : W9 + (maxL + 11) + (headSpec ws rm).room.locals ≤ R.locals := hlocals
  have happ : (headSpec ws rm).appliesLoose y e.platform (U.calling g mk a) = true :=
    Spec.appliesLoose_calling (g := g) h hdg hn hkY hinitY
      (X.room_calling (g := g) (R' := (headSpec ws rm).room) hsize hmY hcY hframes (by rw [hlY]; omega) h4 h5) h1
  obtain ⟨mid, hmid⟩ := h.above
  have hfr : (U.setTop g).frames = (.java g :: mid) ++ below := by rw [State.frames_setTop' g h.top, hmid]; rfl
  obtain ⟨o, s₂, hsteps, -, hend, hq⟩ := Steps.callFree hM p X.admits X.cas X.clock (acts := []) hfr happ hPc trivial
  have hq' : vx_Q Qc XC mc ms free a (U.calling g mk a) o s₂ := hq
  rw [State.frames_setTop' g h.top] at hend
  obtain ⟨g₀, hg0⟩ := Option.isSome_iff_exists.mp h.top
  obtain ⟨r, hr⟩ := State.topJava?_eq_some.mp hg0
  have hr' : (({ U with heap := s₂.heap, slotsUsed := s₂.slotsUsed } : State).setVm s₂.vm).frames = .java g₀ :: r := hr
  rcases hq' with ⟨hqc, L, hfe, hL⟩ | ⟨q, rfl, E, ce, L, hx, hce, hcv, hcl, hW₂, hsm, hL⟩
  · obtain ⟨⟨v, rfl⟩, hW₂, e2, q2, q3, q4, q5, q6⟩ := id hfe
    have e3 : s₂ = ({ (U.calling g mk a).setFrames s₂.frames with heap := s₂.heap, slotsUsed := s₂.slotsUsed } : State).setVm s₂.vm := by
      have : s₂ = ({ s₂ with vm := (U.calling g mk a).vm } : State).setVm s₂.vm := rfl
      rw [e2] at this
      exact this
    obtain ⟨c₂, i₂, len₂, hc₂, hd₂, hf₂⟩ := hend
    have hW' : U.WarmedH s₂.vm := hW₂
    have hcc : c₂ = c := by
      have h1 : s₂.code? g.method = U.code? g.method := by
        rw [State.code?_eq, State.code?_eq, hW'.alike.method?]
      exact Option.some.inj (hc₂.symm.trans (h1.trans h.code))
    subst hcc
    have hlen : len₂ = len := by rw [hdg] at hd₂; cases hd₂; rfl
    subst hlen
    have hs₂ : s₂ = (({ U with heap := s₂.heap, slotsUsed := s₂.slotsUsed } : State).setVm s₂.vm).setTop { g with pc := g.pc + len₂, stack := v.toList ++ g.stack } := by
      refine e3.trans ?_
      rw [hf₂, State.calling_eq h.top, State.setFrames_setFrames, State.setTop_of_frames _ hr', hr]
      rfl
    have hsame : U.sameButNew ({ U with heap := s₂.heap, slotsUsed := s₂.slotsUsed } : State) L mc ms := by
      refine ⟨?_, q2, q3, q4, q5, q6⟩
      obtain ⟨t, ht, -⟩ := State.frames_cons hr
      show ({ U with heap := s₂.heap, slotsUsed := s₂.slotsUsed } : State) = { U.setFrames U.frames with heap := s₂.heap, slotsUsed := s₂.slotsUsed }
      rw [State.setFrames_self ht]
    subst hg
    refine Or.inl ⟨v, ⟨(({ U with heap := s₂.heap, slotsUsed := s₂.slotsUsed } : State).setVm s₂.vm), Ls ++ L, c0 + mc, s0 + ms⟩,
      ⟨X.admits, X.cas, X.clock, X.frames, X.room, X.hears, X.method, X.code, (X.here.setHeapUsed s₂.heap s₂.slotsUsed).setVm hW'.alike, X.tail, State.WarmedH.trans X.warmed hW', X.limits, X.bytes, X.same.trans (hsame.setVm s.vm)⟩,
      ⟨g, mk, s₂, L, rfl, rfl, hqc, rfl, hL, rfl, rfl⟩, ?_⟩
    show Steps p.tables e below _ ((({ U with heap := s₂.heap, slotsUsed := s₂.slotsUsed } : State).setVm s₂.vm).setTop { g with pc := g.pc + len₂, stack := v.toList ++ g.stack })
    rw [← hs₂]
    exact hsteps
  · obtain ⟨e2, q2, q3, q4, q5, q6⟩ := id hsm
    have e3 : s₂ = ({ (U.calling g mk a).setFrames s₂.frames with heap := s₂.heap, slotsUsed := s₂.slotsUsed } : State).setVm s₂.vm := by
      have : s₂ = ({ s₂ with vm := (U.calling g mk a).vm } : State).setVm s₂.vm := rfl
      rw [e2] at this
      exact this
    have hf₂ : s₂.frames = .throwing q :: .java g :: U.frames.tail := hend
    have hW' : U.WarmedH s₂.vm := hW₂
    have hs₂ : s₂ = ((({ U with heap := s₂.heap, slotsUsed := s₂.slotsUsed } : State).setVm s₂.vm).setTop g).pushFrame (.throwing q) := by
      refine e3.trans ?_
      rw [hf₂, State.calling_eq h.top, State.setFrames_setFrames, State.pushFrame, State.frames_setTop _ hr', State.setTop_of_frames _ hr', State.setFrames_setFrames, hr]
      rfl
    have hsame : U.sameButNew ({ U with heap := s₂.heap, slotsUsed := s₂.slotsUsed } : State) L mc ms := by
      refine ⟨?_, q2, q3, q4, q5, q6⟩
      obtain ⟨t, ht, -⟩ := State.frames_cons hr
      show ({ U with heap := s₂.heap, slotsUsed := s₂.slotsUsed } : State) = { U.setFrames U.frames with heap := s₂.heap, slotsUsed := s₂.slotsUsed }
      rw [State.setFrames_self ht]
    subst hg
    refine Or.inr ⟨q, ⟨(({ U with heap := s₂.heap, slotsUsed := s₂.slotsUsed } : State).setVm s₂.vm), Ls ++ L, c0 + mc, s0 + ms⟩,
      ⟨X.admits, X.cas, X.clock, X.frames, X.room, X.hears, X.method, X.code, (X.here.setHeapUsed s₂.heap s₂.slotsUsed).setVm hW'.alike, X.tail, State.WarmedH.trans X.warmed hW', X.limits, X.bytes, X.same.trans (hsame.setVm s.vm)⟩,
      ⟨g, mk, s₂, L, E, ce, rfl, rfl, hx, hce, hcv, hcl, rfl, hL, rfl, rfl⟩, ?_⟩
    show Steps p.tables e below _ (((({ U with heap := s₂.heap, slotsUsed := s₂.slotsUsed } : State).setVm s₂.vm).setTop g).pushFrame (.throwing q))
    rw [← hs₂]
    exact hsteps
end Payer
section Calls
variable {p : Program} {l : Launch} {e : Env} {R : Room} {s : State} {m : MethodId} {args : Array Value} {below : List Frame} {meth : Method} {c : Code} {T : State} {locs : List Loc} {cells slots : Nat}
theorem vx_callV (X : Stand p l e R s m args below meth c T locs cells slots) (hexec : p.tables.exec = Jvm.exec) {own C : String} {index : Nat} {y : MethodName} {bytes : ByteArray} {maxL : Nat} {ret : Option FieldType}
    (hown : s.vm.findClass own = some m.cls) (hlink : (Cond.methodLink own index y).before args s = true) (hinst : (Cond.instanceMethod y).before args s = true) (hsel : (Cond.selects C y y).before args s = true)
    (hcode : (Cond.code y bytes maxL ret).before args s = true) (hy : y.cls ≠ "java/lang/invoke/MethodHandle" ∧ y.cls ≠ "java/lang/invoke/VarHandle")
    {W9 : Nat} {Pre : Pt → Array Value → Prop} {Post : Pt → Array Value → Option Value → Pt → Prop} {PostX : Pt → Array Value → Addr → Pt → Prop} (hK : vx_Back l R p e below s args y 3 W9 Pre Post PostX)
    {b : Addr} {cellB : Cell} (hcell : T.heap[b]? = some cellB) (hobj : cellB.vm.isStatics = false) (hcls : s.vm.findClass C = some cellB.cls)
    {g : JFrame} (hg : g.method = m) (hsize : g.locals.size = c.maxLocals) {argsL rest : List Value} (hlen : ∀ sig, parseMethodDescriptor y.desc = some sig → argsL.length = sig.parameters.length)
    (hstack : g.stack = argsL.reverse ++ .ref b :: rest) (hW : 2 * g.monitorRoom + (rest.map fun v => v.category).sum ≤ W9) (hdg : decode c.code g.pc = .ok (.invokevirtual index, 3))
    (hpre : ∀ vm₁, s.WarmedH vm₁ → Pre ⟨T.setVm vm₁, locs, cells, slots⟩ (Value.ref b :: argsL).toArray) :
    (∃ (v : Option Value) (vm₁ : Vm) (B : Pt), s.WarmedH vm₁ ∧ Stand p l e R s m args below meth c B.U B.locs B.cells B.slots ∧ Post ⟨T.setVm vm₁, locs, cells, slots⟩ (Value.ref b :: argsL).toArray v B ∧
      ∀ target, Steps p.tables e below (B.U.setTop { g with pc := g.pc + 3, stack := v.toList ++ rest }) target → Steps p.tables e below (T.setTop g) target) ∨
    (∃ (q : Addr) (vm₁ : Vm) (B : Pt), s.WarmedH vm₁ ∧ Stand p l e R s m args below meth c B.U B.locs B.cells B.slots ∧ PostX ⟨T.setVm vm₁, locs, cells, slots⟩ (Value.ref b :: argsL).toArray q B ∧
      Steps p.tables e below (T.setTop g) ((B.U.setTop { g with stack := rest }).pushFrame (.throwing q))) := by
  obtain ⟨mk, methM, hnamed, hmethM, hstM, habM⟩ := Cond.instanceMethod_spec hinst
  obtain ⟨methM', cM, hmethM', -, -, -, -, -, -, hsigM⟩ := Cond.code_spec hnamed hcode
  cases hmethM.symm.trans hmethM'
  obtain ⟨c2, r2, m2, q1, q2, q3, q4, kP, hkP, hkPi⟩ := Cond.selects_spec hsel
  cases hcls.symm.trans q1
  cases (State.methodFound?_of_named hnamed hy).symm.trans q2
  cases hnamed.symm.trans q3
  have hselP : selectMethod e.platform s.vm cellB.cls mk = .method mk := by rw [Launch.admits_selectMethod X.admits]; exact q4
  obtain ⟨vm₁, X₁, hstep₁⟩ := X.invokevirtual hexec hown hlink hnamed hmethM hstM hkP hkPi hy (a := b) (cell := cellB) hcell
    (fun z h => by rw [h] at hobj; cases hobj) hselP hmethM habM hkP hkPi (g := g) hg (argsL := argsL) (rest := rest) (hlen _ hsigM) hstack hdg
  rcases hK m meth c ⟨T.setVm vm₁, locs, cells, slots⟩ { g with stack := rest } (.invokevirtual index) mk (Value.ref b :: argsL).toArray X₁ hg hsize hdg hW (X₁.named hnamed) (hpre vm₁ X₁.warmed) with ⟨v, B, X', hpost, hsteps⟩ | ⟨q, B, X', hpost, hsteps⟩
  · exact Or.inl ⟨v, vm₁, B, X₁.warmed, X', hpost, fun target h => hstep₁ _ fun acts => by rw [doInvoke_state]; exact hsteps.trans h⟩
  · exact Or.inr ⟨q, vm₁, B, X₁.warmed, X', hpost, hstep₁ _ fun acts => by rw [doInvoke_state]; exact hsteps⟩
theorem vx_callS (X : Stand p l e R s m args below meth c T locs cells slots) (hexec : p.tables.exec = Jvm.exec) {own : String} {index : Nat} {y : MethodName} {bytes : ByteArray} {maxL : Nat} {ret : Option FieldType}
    (hown : s.vm.findClass own = some m.cls) (hlink : (Cond.methodLink own index y).before args s = true) (hstat : (Cond.static y).before args s = true) (hinit : (Cond.initialized y.cls).before args s = true)
    (hcode : (Cond.code y bytes maxL ret).before args s = true) (hy : y.cls ≠ "java/lang/invoke/MethodHandle" ∧ y.cls ≠ "java/lang/invoke/VarHandle")
    {W9 : Nat} {Pre : Pt → Array Value → Prop} {Post : Pt → Array Value → Option Value → Pt → Prop} {PostX : Pt → Array Value → Addr → Pt → Prop} (hK : vx_Back l R p e below s args y 3 W9 Pre Post PostX)
    {g : JFrame} (hg : g.method = m) (hsize : g.locals.size = c.maxLocals) {argsL rest : List Value} (hlen : ∀ sig, parseMethodDescriptor y.desc = some sig → argsL.length = sig.parameters.length)
    (hstack : g.stack = argsL.reverse ++ rest) (hW : 2 * g.monitorRoom + (rest.map fun v => v.category).sum ≤ W9) (hdg : decode c.code g.pc = .ok (.invokestatic index, 3))
    (hpre : ∀ vm₁, s.WarmedH vm₁ → Pre ⟨T.setVm vm₁, locs, cells, slots⟩ argsL.toArray) :
    (∃ (v : Option Value) (vm₁ : Vm) (B : Pt), s.WarmedH vm₁ ∧ Stand p l e R s m args below meth c B.U B.locs B.cells B.slots ∧ Post ⟨T.setVm vm₁, locs, cells, slots⟩ argsL.toArray v B ∧
      ∀ target, Steps p.tables e below (B.U.setTop { g with pc := g.pc + 3, stack := v.toList ++ rest }) target → Steps p.tables e below (T.setTop g) target) ∨
    (∃ (q : Addr) (vm₁ : Vm) (B : Pt), s.WarmedH vm₁ ∧ Stand p l e R s m args below meth c B.U B.locs B.cells B.slots ∧ PostX ⟨T.setVm vm₁, locs, cells, slots⟩ argsL.toArray q B ∧
      Steps p.tables e below (T.setTop g) ((B.U.setTop { g with stack := rest }).pushFrame (.throwing q))) := by
  obtain ⟨mk, hnamed⟩ := Cond.code_named hcode
  obtain ⟨methM, cM, hmethM, -, -, -, -, -, -, hsigM⟩ := Cond.code_spec hnamed hcode
  have hstatic : methM.isStatic = true := Cond.static_spec hnamed hmethM hstat
  obtain ⟨kP, hkP, -⟩ := className_of_methodNamed hnamed
  have hinitP : kP.init = .initialized := Cond.initialized_spec (findClass_of_methodNamed hnamed) hkP hinit
  obtain ⟨vm₁, X₁, hstep₁⟩ := X.invokestatic hexec hown hlink hnamed hmethM hstatic hkP hinitP hy (g := g) hg (argsL := argsL) (rest := rest) (hlen _ hsigM) hstack hdg
  rcases hK m meth c ⟨T.setVm vm₁, locs, cells, slots⟩ { g with stack := rest } (.invokestatic index) mk argsL.toArray X₁ hg hsize hdg hW (X₁.named hnamed) (hpre vm₁ X₁.warmed) with ⟨v, B, X', hpost, hsteps⟩ | ⟨q, B, X', hpost, hsteps⟩
  · exact Or.inl ⟨v, vm₁, B, X₁.warmed, X', hpost, fun target h => hstep₁ _ fun acts => by rw [doInvoke_state]; exact hsteps.trans h⟩
  · exact Or.inr ⟨q, vm₁, B, X₁.warmed, X', hpost, hstep₁ _ fun acts => by rw [doInvoke_state]; exact hsteps⟩
end Calls
theorem vx_cls {s : State} {T : State} {vm₁ : Vm} {E : String} {k : ClassId} (hW : s.WarmedH vm₁) (h : (T.setVm vm₁).vm.findClass E = some k) : s.vm.findClass E = some k := by
  have h1 : vm₁.findClass E = some k := h
  rw [hW.alike.findClass] at h1
  exact h1
/-- the method's frame g, with q thrown over it -/
def vx_W (p : Program) (l : Launch) (e : Env) (R : Room) (s : State) (m : MethodId) (args : Array Value) (below : List Frame) (meth : Method) (c : Code) (H : Heap) (locs : List Loc) (cells slots : Nat) (Q : State → Prop) (g : JFrame) (q : Addr) : Prop :=
  ∀ T : State, T.heap = H → Stand p l e R s m args below meth c T locs cells slots → ∃ t, Steps p.tables e below ((T.setTop g).pushFrame (.throwing q)) t ∧ Q t
def vx_Run (p : Program) (l : Launch) (e : Env) (R : Room) (s : State) (m : MethodId) (args : Array Value) (below : List Frame) (meth : Method) (c : Code) (H : Heap) (locs : List Loc) (cells slots mc ms : Nat) (g : JFrame) (rest : List Value) (Qa : State → Outcome → State → Prop) (XC : String → State → State → Prop) (free : Addr → Prop) : Prop :=
  ∀ T : State, T.heap = H → Stand p l e R s m args below meth c T locs cells slots →
    (∃ (v : Option Value) (st₀ t T' : State) (L : List Loc), st₀.heap = H ∧ Stand p l e R s m args below meth c T' (locs ++ L) (cells + mc) (slots + ms) ∧ (∀ q ∈ L, free q.base) ∧ T'.heap = t.heap ∧ T'.vm = t.vm ∧ Qa st₀ (.returned v) t ∧
      Goes p e below T g T' { g with pc := g.pc + 3, stack := v.toList ++ rest }) ∨
    (∃ (q : Addr) (st₀ t T' : State) (L : List Loc) (E : String) (ce : Cell), st₀.heap = H ∧ Stand p l e R s m args below meth c T' (locs ++ L) (cells + mc) (slots + ms) ∧ (∀ z ∈ L, free z.base) ∧ T'.heap = t.heap ∧ T'.vm = t.vm ∧ XC E st₀ t ∧ t.heap[q]? = some ce ∧ ce.vm = .none ∧ s.vm.findClass E = some ce.cls ∧
      Steps p.tables e below (T.setTop g) ((T'.setTop { g with stack := rest }).pushFrame (.throwing q)))
def vx_X {S : Type} (px : S → Prop) (B : String → S → State → Prop) (A : Nat → Prop) : String → State → State → Prop := fun E st t => ∃ u : S, px u ∧ B E u t ∧ va_F A st t
section Runs
variable {p : Program} {l : Launch} {e : Env} {R : Room} {s : State} {m : MethodId} {args : Array Value} {below : List Frame} {meth : Method} {c : Code} {H : Heap} {locs : List Loc} {cells slots : Nat}
variable {y : MethodName} {bytes cc : ByteArray} {maxL nL mc ms n index : Nat} {ret : Option FieldType} {ws : List Cond} {rm : Room} {Pc : Array Value → State → Prop} {Qc : Array Value → State → Outcome → State → Prop} {XC : String → State → State → Prop} {free : Addr → Prop} {Ts : List Cond} {own C : String} {b : Addr} {As rest : List Value} {g : JFrame}
theorem vx_callBack (cb : CallB R s args own index y bytes maxL ret ws rm mc ms n) (hM : vx_Met l y ws rm Pc Qc XC mc ms free) (hbl : FrameBlind Pc) : vx_Back l R p e below s args y 3 8 (PreOf R mc ms Pc) (PostOf Qc mc ms free) (vx_Post XC mc ms free) := by
  obtain ⟨hrc, hrs, hfr, hlo, hws, hcw, -, hini, -⟩ := cb
  exact vx_back (bytes := bytes) (maxL := maxL) (ret := ret) hM hbl hrc hrs hfr hlo hws hcw (fun a' U hW => word_at hW (Or.inl (by first | rfl | simp [Cond.onTables, Cond.keeps, Cond.steady])) hini)
theorem vx_runV (S : CallFix p m c cc nL s args Ts own) (hM : vx_Met l y ws rm Pc Qc XC mc ms free) (cw : CallW R s args own C index y bytes maxL ret ws rm mc ms n) (hp : PreV s H C b Pc As)
    (hg : g.method = m) (hn : As.length = n) (hsize : g.locals.size = nL) (hstack : g.stack = As.reverse ++ .ref b :: rest) (hW : 2 * g.monitorRoom + (rest.map fun v => v.category).sum ≤ 8) (hdg : decode cc g.pc = .ok (.invokevirtual index, 3)) (hf : cells + mc ≤ R.cells ∧ slots + ms ≤ R.slots) :
    vx_Run p l e R s m args below meth c H locs cells slots mc ms g rest (Qc (Value.ref b :: As).toArray) XC free := by
  have hK : vx_Back l R p e below s args y 3 8 (PreOf R mc ms Pc) (PostOf Qc mc ms free) (vx_Post XC mc ms free) := vx_callBack cw.1 hM hp.1
  obtain ⟨⟨-, -, -, -, -, -, hcode, -, hy, hlen, hl⟩, hin, hse⟩ := cw
  obtain ⟨hx, hb, hml, ho, -⟩ := S
  obtain ⟨-, ⟨cellB, hcB, hoB, hclB⟩, hPc⟩ := hp
  intro T hT X
  rcases vx_callV X hx (C := C) (bytes := bytes) (maxL := maxL) (ret := ret) ho hl hin hse hcode hy hK (by rw [hT]; exact hcB) hoB hclB hg (hsize.trans hml.symm) (argsL := As) (rest := rest) (fun sig h => hn.trans (hlen sig h)) hstack hW (by rw [hb]; exact hdg)
    (fun vm₁ hW₁ => ⟨hf.1, hf.2, hPc (T.setVm vm₁) hT hW₁⟩) with ⟨v, vm₁, ⟨U', l2, c2, s2⟩, hW₁, X', ⟨g', mk, t, L, e1, e2, hq, h1, hL, h2, h3⟩, st⟩ | ⟨q, vm₁, ⟨U', l2, c2, s2⟩, hW₁, X', ⟨g', mk, t, L, E, ce, e1, e2, hq, hce, hcv, hcl, h1, hL, h2, h3⟩, st⟩
  · dsimp only [Pt.U, Pt.locs, Pt.cells, Pt.slots] at X' e1 e2 h1 h2 h3 st
    subst h1; subst h2; subst h3
    exact Or.inl ⟨v, (T.setVm vm₁).calling g' mk (Value.ref b :: As).toArray, t, U', L, hT, X', hL, e1, e2, hq, st⟩
  · dsimp only [Pt.U, Pt.locs, Pt.cells, Pt.slots] at X' e1 e2 h1 h2 h3 st hcl
    subst h1; subst h2; subst h3
    exact Or.inr ⟨q, (T.setVm vm₁).calling g' mk (Value.ref b :: As).toArray, t, U', L, E, ce, hT, X', hL, e1, e2, hq, hce, hcv, vx_cls hW₁ hcl, st⟩
theorem vx_runS (S : CallFix p m c cc nL s args Ts own) (hM : vx_Met l y ws rm Pc Qc XC mc ms free) (cw : CallB R s args own index y bytes maxL ret ws rm mc ms n ∧ (Cond.static y).before args s = true) (hp : PreS s H Pc As)
    (hg : g.method = m) (hn : As.length = n) (hsize : g.locals.size = nL) (hstack : g.stack = As.reverse ++ rest) (hW : 2 * g.monitorRoom + (rest.map fun v => v.category).sum ≤ 8) (hdg : decode cc g.pc = .ok (.invokestatic index, 3)) (hf : cells + mc ≤ R.cells ∧ slots + ms ≤ R.slots) :
    vx_Run p l e R s m args below meth c H locs cells slots mc ms g rest (Qc As.toArray) XC free := by
  have hK : vx_Back l R p e below s args y 3 8 (PreOf R mc ms Pc) (PostOf Qc mc ms free) (vx_Post XC mc ms free) := vx_callBack cw.1 hM hp.1
  obtain ⟨⟨-, -, -, -, -, -, hcode, hini, hy, hlen, hl⟩, hstt⟩ := cw
  obtain ⟨hx, hb, hml, ho, -⟩ := S
  intro T hT X
  rcases vx_callS X hx (bytes := bytes) (maxL := maxL) (ret := ret) ho hl hstt hini hcode hy hK hg (hsize.trans hml.symm) (argsL := As) (rest := rest) (fun sig h => hn.trans (hlen sig h)) hstack hW (by rw [hb]; exact hdg)
    (fun vm₁ hW₁ => ⟨hf.1, hf.2, hp.2 (T.setVm vm₁) hT hW₁⟩) with ⟨v, vm₁, ⟨U', l2, c2, s2⟩, hW₁, X', ⟨g', mk, t, L, e1, e2, hq, h1, hL, h2, h3⟩, st⟩ | ⟨q, vm₁, ⟨U', l2, c2, s2⟩, hW₁, X', ⟨g', mk, t, L, E, ce, e1, e2, hq, hce, hcv, hcl, h1, hL, h2, h3⟩, st⟩
  · dsimp only [Pt.U, Pt.locs, Pt.cells, Pt.slots] at X' e1 e2 h1 h2 h3 st
    subst h1; subst h2; subst h3
    exact Or.inl ⟨v, (T.setVm vm₁).calling g' mk As.toArray, t, U', L, hT, X', hL, e1, e2, hq, st⟩
  · dsimp only [Pt.U, Pt.locs, Pt.cells, Pt.slots] at X' e1 e2 h1 h2 h3 st hcl
    subst h1; subst h2; subst h3
    exact Or.inr ⟨q, (T.setVm vm₁).calling g' mk As.toArray, t, U', L, E, ce, hT, X', hL, e1, e2, hq, hce, hcv, vx_cls hW₁ hcl, st⟩
end Runs
section Rows
variable {p : Program} {l : Launch} {e : Env} {R : Room} {s : State} {m : MethodId} {args : Array Value} {below : List Frame} {meth : Method} {c : Code} {H : Heap} {locs : List Loc} {cells slots : Nat} {Q : State → Prop}
variable {mc ms : Nat} {free : Addr → Prop} {A0 A1 : Nat → Prop} {H0 : Heap} {a : Array Value} {pc : Nat} {ls : Array Slot} {st0 rest : List Value}
theorem vx_keep {st₀ t T' : State} {L : List Loc} (h0 : st₀.heap = H) (e1 : T'.heap = t.heap) (hS : va_S A0 H0 H locs) (hA : ∀ q, q < H.size → A1 q → A0 q) (hf : ∀ q, free q → A0 q) (hL : ∀ q ∈ L, free q.base) (hF : va_F A1 st₀ t) :
    H.size ≤ T'.heap.size ∧ (∀ q : Nat, q < H.size → ¬ A1 q → T'.heap[q]? = H[q]?) ∧ va_S A0 H0 T'.heap (locs ++ L) := by
  obtain ⟨hz, hk⟩ := hF
  rw [h0] at hz hk
  exact ⟨by rw [e1]; exact hz, fun q h1 h2 => by rw [e1]; exact hk q h1 h2,
    ⟨Nat.le_trans hS.1 (by rw [e1]; exact hz), fun q h1 h2 => by rw [e1, hk q (Nat.lt_of_lt_of_le h1 hS.1) (fun z => h2 (hA q (Nat.lt_of_lt_of_le h1 hS.1) z))]; exact hS.2.1 q h1 h2, fun q hq => by
      rcases List.mem_append.mp hq with h | h
      · exact hS.2.2 q h
      · exact hf _ (hL q h)⟩⟩
theorem vx_calli {S SX : Type} {post : Int32 → S → Prop} {px : SX → Prop} {B : S → State → Prop} {BX : String → SX → State → Prop} {AX : Nat → Prop} (hr : vx_Run p l e R s m args below meth c H locs cells slots mc ms (F0 m pc ls st0) rest (va_Qi post B A1 a) (vx_X px BX AX) free) (hS : va_S A0 H0 H locs) (hA : ∀ q, q < H.size → A1 q → A0 q) (hf : ∀ q, free q → A0 q) (hAX : ∀ q, q < H.size → AX q → A0 q)
    (kx : ∀ (E : String) (ce : Cell) (q9 : Addr) (u : SX) (t : State) (H1 : Heap) (locs1 : List Loc), t.heap = H1 → s.vm.Alike t.vm → px u → BX E u t → H.size ≤ H1.size → (∀ q : Nat, q < H.size → ¬ AX q → H1[q]? = H[q]?) → va_S A0 H0 H1 locs1 → H1[q9]? = some ce → ce.vm = .none → s.vm.findClass E = some ce.cls → vx_W p l e R s m args below meth c H1 locs1 (cells + mc) (slots + ms) Q (F0 m pc ls rest) q9)
    (kk : ∀ (r : Int32) (u : S) (t : State) (H1 : Heap) (locs1 : List Loc), t.heap = H1 → s.vm.Alike t.vm → post r u → B u t → H.size ≤ H1.size → (∀ q : Nat, q < H.size → ¬ A1 q → H1[q]? = H[q]?) → va_S A0 H0 H1 locs1 → W p l e R s m args below meth c H1 locs1 (cells + mc) (slots + ms) Q (F0 m (pc + 3) ls (.int r :: rest))) : W p l e R s m args below meth c H locs cells slots Q (F0 m pc ls st0) := by
  intro T hT X
  rcases hr T hT X with ⟨v, st₀, t, T', L, h0, X', hL, e1, e2, ⟨⟨r, u, hv, hp, hb⟩, hF⟩, st⟩ | ⟨q, st₀, t, T', L, E, ce, h0, X', hL, e1, e2, ⟨u, hp, hb, hF⟩, hce, hcv, hcl, st⟩
  · cases hv
    obtain ⟨k1, k2, k3⟩ := vx_keep h0 e1 hS hA hf hL hF
    obtain ⟨t2, a1, b1⟩ := kk r u t T'.heap (locs ++ L) e1.symm (by rw [← e2]; exact X'.warmed.alike) hp hb k1 k2 k3 T' rfl X'
    exact ⟨t2, st t2 a1, b1⟩
  · obtain ⟨k1, k2, k3⟩ := vx_keep h0 e1 hS hAX hf hL hF
    obtain ⟨t2, a1, b1⟩ := kx E ce q u t T'.heap (locs ++ L) e1.symm (by rw [← e2]; exact X'.warmed.alike) hp hb k1 k2 k3 (by rw [e1]; exact hce) hcv hcl T' rfl X'
    exact ⟨t2, st.trans a1, b1⟩
theorem vx_calll {S SX : Type} {post : Int64 → S → Prop} {px : SX → Prop} {B : S → State → Prop} {BX : String → SX → State → Prop} {AX : Nat → Prop} (hr : vx_Run p l e R s m args below meth c H locs cells slots mc ms (F0 m pc ls st0) rest (va_Ql post B A1 a) (vx_X px BX AX) free) (hS : va_S A0 H0 H locs) (hA : ∀ q, q < H.size → A1 q → A0 q) (hf : ∀ q, free q → A0 q) (hAX : ∀ q, q < H.size → AX q → A0 q)
    (kx : ∀ (E : String) (ce : Cell) (q9 : Addr) (u : SX) (t : State) (H1 : Heap) (locs1 : List Loc), t.heap = H1 → s.vm.Alike t.vm → px u → BX E u t → H.size ≤ H1.size → (∀ q : Nat, q < H.size → ¬ AX q → H1[q]? = H[q]?) → va_S A0 H0 H1 locs1 → H1[q9]? = some ce → ce.vm = .none → s.vm.findClass E = some ce.cls → vx_W p l e R s m args below meth c H1 locs1 (cells + mc) (slots + ms) Q (F0 m pc ls rest) q9)
    (kk : ∀ (r : Int64) (u : S) (t : State) (H1 : Heap) (locs1 : List Loc), t.heap = H1 → s.vm.Alike t.vm → post r u → B u t → H.size ≤ H1.size → (∀ q : Nat, q < H.size → ¬ A1 q → H1[q]? = H[q]?) → va_S A0 H0 H1 locs1 → W p l e R s m args below meth c H1 locs1 (cells + mc) (slots + ms) Q (F0 m (pc + 3) ls (.long r :: rest))) : W p l e R s m args below meth c H locs cells slots Q (F0 m pc ls st0) := by
  intro T hT X
  rcases hr T hT X with ⟨v, st₀, t, T', L, h0, X', hL, e1, e2, ⟨⟨r, u, hv, hp, hb⟩, hF⟩, st⟩ | ⟨q, st₀, t, T', L, E, ce, h0, X', hL, e1, e2, ⟨u, hp, hb, hF⟩, hce, hcv, hcl, st⟩
  · cases hv
    obtain ⟨k1, k2, k3⟩ := vx_keep h0 e1 hS hA hf hL hF
    obtain ⟨t2, a1, b1⟩ := kk r u t T'.heap (locs ++ L) e1.symm (by rw [← e2]; exact X'.warmed.alike) hp hb k1 k2 k3 T' rfl X'
    exact ⟨t2, st t2 a1, b1⟩
  · obtain ⟨k1, k2, k3⟩ := vx_keep h0 e1 hS hAX hf hL hF
    obtain ⟨t2, a1, b1⟩ := kx E ce q u t T'.heap (locs ++ L) e1.symm (by rw [← e2]; exact X'.warmed.alike) hp hb k1 k2 k3 (by rw [e1]; exact hce) hcv hcl T' rfl X'
    exact ⟨t2, st.trans a1, b1⟩
theorem vx_callf {S SX : Type} {post : UInt32 → S → Prop} {px : SX → Prop} {B : S → State → Prop} {BX : String → SX → State → Prop} {AX : Nat → Prop} (hr : vx_Run p l e R s m args below meth c H locs cells slots mc ms (F0 m pc ls st0) rest (va_Qf post B A1 a) (vx_X px BX AX) free) (hS : va_S A0 H0 H locs) (hA : ∀ q, q < H.size → A1 q → A0 q) (hf : ∀ q, free q → A0 q) (hAX : ∀ q, q < H.size → AX q → A0 q)
    (kx : ∀ (E : String) (ce : Cell) (q9 : Addr) (u : SX) (t : State) (H1 : Heap) (locs1 : List Loc), t.heap = H1 → s.vm.Alike t.vm → px u → BX E u t → H.size ≤ H1.size → (∀ q : Nat, q < H.size → ¬ AX q → H1[q]? = H[q]?) → va_S A0 H0 H1 locs1 → H1[q9]? = some ce → ce.vm = .none → s.vm.findClass E = some ce.cls → vx_W p l e R s m args below meth c H1 locs1 (cells + mc) (slots + ms) Q (F0 m pc ls rest) q9)
    (kk : ∀ (r : UInt32) (u : S) (t : State) (H1 : Heap) (locs1 : List Loc), t.heap = H1 → s.vm.Alike t.vm → post r u → B u t → H.size ≤ H1.size → (∀ q : Nat, q < H.size → ¬ A1 q → H1[q]? = H[q]?) → va_S A0 H0 H1 locs1 → W p l e R s m args below meth c H1 locs1 (cells + mc) (slots + ms) Q (F0 m (pc + 3) ls (.float r :: rest))) : W p l e R s m args below meth c H locs cells slots Q (F0 m pc ls st0) := by
  intro T hT X
  rcases hr T hT X with ⟨v, st₀, t, T', L, h0, X', hL, e1, e2, ⟨⟨r, u, hv, hp, hb⟩, hF⟩, st⟩ | ⟨q, st₀, t, T', L, E, ce, h0, X', hL, e1, e2, ⟨u, hp, hb, hF⟩, hce, hcv, hcl, st⟩
  · cases hv
    obtain ⟨k1, k2, k3⟩ := vx_keep h0 e1 hS hA hf hL hF
    obtain ⟨t2, a1, b1⟩ := kk r u t T'.heap (locs ++ L) e1.symm (by rw [← e2]; exact X'.warmed.alike) hp hb k1 k2 k3 T' rfl X'
    exact ⟨t2, st t2 a1, b1⟩
  · obtain ⟨k1, k2, k3⟩ := vx_keep h0 e1 hS hAX hf hL hF
    obtain ⟨t2, a1, b1⟩ := kx E ce q u t T'.heap (locs ++ L) e1.symm (by rw [← e2]; exact X'.warmed.alike) hp hb k1 k2 k3 (by rw [e1]; exact hce) hcv hcl T' rfl X'
    exact ⟨t2, st.trans a1, b1⟩
theorem vx_calld {S SX : Type} {post : UInt64 → S → Prop} {px : SX → Prop} {B : S → State → Prop} {BX : String → SX → State → Prop} {AX : Nat → Prop} (hr : vx_Run p l e R s m args below meth c H locs cells slots mc ms (F0 m pc ls st0) rest (va_Qd post B A1 a) (vx_X px BX AX) free) (hS : va_S A0 H0 H locs) (hA : ∀ q, q < H.size → A1 q → A0 q) (hf : ∀ q, free q → A0 q) (hAX : ∀ q, q < H.size → AX q → A0 q)
    (kx : ∀ (E : String) (ce : Cell) (q9 : Addr) (u : SX) (t : State) (H1 : Heap) (locs1 : List Loc), t.heap = H1 → s.vm.Alike t.vm → px u → BX E u t → H.size ≤ H1.size → (∀ q : Nat, q < H.size → ¬ AX q → H1[q]? = H[q]?) → va_S A0 H0 H1 locs1 → H1[q9]? = some ce → ce.vm = .none → s.vm.findClass E = some ce.cls → vx_W p l e R s m args below meth c H1 locs1 (cells + mc) (slots + ms) Q (F0 m pc ls rest) q9)
    (kk : ∀ (r : UInt64) (u : S) (t : State) (H1 : Heap) (locs1 : List Loc), t.heap = H1 → s.vm.Alike t.vm → post r u → B u t → H.size ≤ H1.size → (∀ q : Nat, q < H.size → ¬ A1 q → H1[q]? = H[q]?) → va_S A0 H0 H1 locs1 → W p l e R s m args below meth c H1 locs1 (cells + mc) (slots + ms) Q (F0 m (pc + 3) ls (.double r :: rest))) : W p l e R s m args below meth c H locs cells slots Q (F0 m pc ls st0) := by
  intro T hT X
  rcases hr T hT X with ⟨v, st₀, t, T', L, h0, X', hL, e1, e2, ⟨⟨r, u, hv, hp, hb⟩, hF⟩, st⟩ | ⟨q, st₀, t, T', L, E, ce, h0, X', hL, e1, e2, ⟨u, hp, hb, hF⟩, hce, hcv, hcl, st⟩
  · cases hv
    obtain ⟨k1, k2, k3⟩ := vx_keep h0 e1 hS hA hf hL hF
    obtain ⟨t2, a1, b1⟩ := kk r u t T'.heap (locs ++ L) e1.symm (by rw [← e2]; exact X'.warmed.alike) hp hb k1 k2 k3 T' rfl X'
    exact ⟨t2, st t2 a1, b1⟩
  · obtain ⟨k1, k2, k3⟩ := vx_keep h0 e1 hS hAX hf hL hF
    obtain ⟨t2, a1, b1⟩ := kx E ce q u t T'.heap (locs ++ L) e1.symm (by rw [← e2]; exact X'.warmed.alike) hp hb k1 k2 k3 (by rw [e1]; exact hce) hcv hcl T' rfl X'
    exact ⟨t2, st.trans a1, b1⟩
theorem vx_callv {S SX : Type} {post : S → Prop} {px : SX → Prop} {B : S → State → Prop} {BX : String → SX → State → Prop} {AX : Nat → Prop} (hr : vx_Run p l e R s m args below meth c H locs cells slots mc ms (F0 m pc ls st0) rest (va_Qv post B A1 a) (vx_X px BX AX) free) (hS : va_S A0 H0 H locs) (hA : ∀ q, q < H.size → A1 q → A0 q) (hf : ∀ q, free q → A0 q) (hAX : ∀ q, q < H.size → AX q → A0 q)
    (kx : ∀ (E : String) (ce : Cell) (q9 : Addr) (u : SX) (t : State) (H1 : Heap) (locs1 : List Loc), t.heap = H1 → s.vm.Alike t.vm → px u → BX E u t → H.size ≤ H1.size → (∀ q : Nat, q < H.size → ¬ AX q → H1[q]? = H[q]?) → va_S A0 H0 H1 locs1 → H1[q9]? = some ce → ce.vm = .none → s.vm.findClass E = some ce.cls → vx_W p l e R s m args below meth c H1 locs1 (cells + mc) (slots + ms) Q (F0 m pc ls rest) q9)
    (kk : ∀ (u : S) (t : State) (H1 : Heap) (locs1 : List Loc), t.heap = H1 → s.vm.Alike t.vm → post u → B u t → H.size ≤ H1.size → (∀ q : Nat, q < H.size → ¬ A1 q → H1[q]? = H[q]?) → va_S A0 H0 H1 locs1 → W p l e R s m args below meth c H1 locs1 (cells + mc) (slots + ms) Q (F0 m (pc + 3) ls (rest))) : W p l e R s m args below meth c H locs cells slots Q (F0 m pc ls st0) := by
  intro T hT X
  rcases hr T hT X with ⟨v, st₀, t, T', L, h0, X', hL, e1, e2, ⟨⟨u, hv, hp, hb⟩, hF⟩, st⟩ | ⟨q, st₀, t, T', L, E, ce, h0, X', hL, e1, e2, ⟨u, hp, hb, hF⟩, hce, hcv, hcl, st⟩
  · cases hv
    obtain ⟨k1, k2, k3⟩ := vx_keep h0 e1 hS hA hf hL hF
    obtain ⟨t2, a1, b1⟩ := kk u t T'.heap (locs ++ L) e1.symm (by rw [← e2]; exact X'.warmed.alike) hp hb k1 k2 k3 T' rfl X'
    exact ⟨t2, st t2 a1, b1⟩
  · obtain ⟨k1, k2, k3⟩ := vx_keep h0 e1 hS hAX hf hL hF
    obtain ⟨t2, a1, b1⟩ := kx E ce q u t T'.heap (locs ++ L) e1.symm (by rw [← e2]; exact X'.warmed.alike) hp hb k1 k2 k3 (by rw [e1]; exact hce) hcv hcl T' rfl X'
    exact ⟨t2, st.trans a1, b1⟩
/-- caught by the row x of this method's table; the rows ahead don't take it -/
theorem vx_catch {own name : String} {E : String} {ce : Cell} {q : Addr} (hown : s.vm.findClass own = some m.cls) (pre : List ExceptionTableEntry) (x : ExceptionTableEntry) (suf : List ExceptionTableEntry) (hsplit : c.exceptionTable.toList = pre ++ x :: suf)
    (hpass : ∀ z ∈ pre, covers z pc = false ∨ (z.catchType ≠ 0 ∧ ∃ nm : String, (Cond.classLink own z.catchType nm).before args s = true ∧ va_Nc E nm s)) (hx : covers x pc = true) (h0 : x.catchType ≠ 0)
    (hlink : (Cond.classLink own x.catchType name).before args s = true) (hcast : (Cond.castable E name).before args s = true) (hcell : H[q]? = some ce) (hv : ce.vm = .none) (hcl : s.vm.findClass E = some ce.cls)
    (kk : W p l e R s m args below meth c H locs cells slots Q (F0 m x.handlerPc ls [.ref q])) : vx_W p l e R s m args below meth c H locs cells slots Q (F0 m pc ls rest) q := by
  intro T hT X
  have hpl : e.platform.magicAccessors = ({} : Platform).magicAccessors := by rw [X.admits.platform]
  obtain ⟨c3, c4, hc3, hc4, hasg⟩ := Cond.castable_spec hcast
  cases Option.some.inj (hc3.symm.trans hcl)
  obtain ⟨c5, hc5, hcl5⟩ := Cond.classLink_spec hown hlink e.platform hpl
  cases Option.some.inj (hc4.symm.trans hc5)
  obtain ⟨vm', X', st⟩ := X.thenCaughtThrough q (g := F0 m pc ls rest) rfl (Steps.refl _) (by rw [hT]; exact hcell) (by rw [hv]; rfl) (by obtain ⟨k9, h9, -⟩ := Vm.findClass_spec hcl; exact ⟨k9, h9⟩) pre x suf hsplit
    (fun z hz => by
      rcases hpass z hz with h | ⟨hz0, nm, hl1, hn1⟩
      · exact Or.inl h
      · obtain ⟨c6, hc6, hcl6⟩ := Cond.classLink_spec hown hl1 e.platform hpl
        obtain ⟨a8, b8, h1, h2, h3⟩ := hn1
        cases Option.some.inj (h1.symm.trans hcl)
        cases Option.some.inj (h2.symm.trans hc6)
        exact Or.inr ⟨hz0, _, hcl6, h3⟩) hx (Or.inr ⟨h0, c4, hcl5, hasg⟩)
  obtain ⟨t, a1, b1⟩ := kk (T.setVm vm') hT X'
  exact ⟨t, st.trans a1, b1⟩
end Rows
section Ends
variable {p : Program} {l : Launch} {e : Env} {R : Room} {s : State} {m : MethodId} {args : Array Value} {below : List Frame} {meth : Method} {c : Code} {H : Heap} {locs : List Loc} {cells slots : Nat} {Q : State → Prop}
variable {mc ms : Nat} {free : Addr → Prop} {A0 A1 : Nat → Prop} {H0 : Heap} {a : Array Value} {ls : Array Slot} {st0 rest : List Value}
variable {Qc : Array Value → State → Outcome → State → Prop} {XC : String → State → State → Prop}
/-- what a body that may throw owes at its end -/
def vx_MQ (below : List Frame) (Qc : Array Value → State → Outcome → State → Prop) (XC : String → State → State → Prop) (a : Array Value) (s : State) (mc ms : Nat) (free : Addr → Prop) : State → Prop := fun t =>
  ∃ o, t.status = .running ∧ Ended t below o ∧ vx_Q Qc XC mc ms free a s o t
theorem vx_ret {g : JFrame} {mc ms : Nat} (k : W p l e R s m args below meth c H locs cells slots (MQ below Qc args s mc ms free) g) : W p l e R s m args below meth c H locs cells slots (vx_MQ below Qc XC args s mc ms free) g := by
  intro T hT X
  obtain ⟨t, a1, o, b1, b2, b3, b4⟩ := k T hT X
  exact ⟨t, a1, o, b1, b2, Or.inl ⟨b3, b4⟩⟩
/-- not caught here: it goes on to the caller -/
theorem vx_widen {g : JFrame} {q : Addr} {k n : Nat} (h1 : cells ≤ k) (h2 : slots ≤ n) (kk : vx_W p l e R s m args below meth c H locs k n Q g q) : vx_W p l e R s m args below meth c H locs cells slots Q g q := fun T hT X => kk T hT (stand_widen X h1 h2)
theorem vx_out {pc : Nat} {E : String} {ce : Cell} {q : Addr} {mc ms : Nat} (hout : ∀ x ∈ c.exceptionTable.toList, covers x pc = false) (hlocks : meth.locks = false) (hcell : H[q]? = some ce) (hv : ce.vm = .none) (hcl : s.vm.findClass E = some ce.cls)
    (hx : ∀ t : State, t.heap = H → s.vm.Alike t.vm → XC E s t) (hf : ∀ z ∈ locs, free z.base) (hc : cells ≤ mc) (hs : slots ≤ ms) :
    vx_W p l e R s m args below meth c H locs cells slots (vx_MQ below Qc XC args s mc ms free) (F0 m pc ls rest) q := by
  intro T hT X
  obtain ⟨st1, hrun, hend, hW, hsm⟩ := X.leaveThrown q (g := F0 m pc ls rest) rfl rfl rfl hout hlocks
  have hcell9 : (T.setFrames (.throwing q :: below)).heap[q]? = some ce := by
    show T.heap[q]? = some ce
    rw [hT]; exact hcell
  exact ⟨_, st1, .threw q, hrun, hend, Or.inr ⟨q, rfl, E, ce, locs, hx _ hT hW.alike, hcell9, hv, hcl, hW, hsm.mono hc hs, hf⟩⟩
theorem vx_frame {U : State} {k n : Nat} (h : s.sameButNew ({ U with vm := s.vm } : State) locs k n) : s.heap.size ≤ U.heap.size ∧ ∀ q : Nat, q < s.heap.size → (∀ z ∈ locs, z.base ≠ q) → U.heap[q]? = s.heap[q]? := by
  obtain ⟨-, h2, -, -, -, h6⟩ := h
  refine ⟨h2, fun q hq hz => ?_⟩
  obtain ⟨c9, e1, e2, e3, e4⟩ := h6 q _ (Array.getElem?_eq_getElem hq)
  have hs : c9.slots = (s.heap[q]).slots := Array.ext_getElem? fun i => e4 i fun hm => hz _ hm rfl
  have h9 : c9 = s.heap[q] := by
    rw [hs] at e2
    exact e2
  have e5 : U.heap[q]? = some c9 := e1
  rw [e5, h9, Array.getElem?_eq_getElem hq]
end Ends
section Bodies
variable {l : Launch}
theorem vx_ofW {y : MethodName} {ws ws' : List Cond} {rm : Room} {Pc : Array Value → State → Prop} {Qc : Array Value → State → Outcome → State → Prop} {XC : String → State → State → Prop} {mc ms : Nat} {free : Addr → Prop} {cc : ByteArray} {maxL : Nat} {ret : Option FieldType}
    (hy : plainName y.cls = true) (hw : ws = Cond.code y cc maxL ret :: ws')
    (body : ∀ p e s m args below meth c s₁, BodyLoose p l y (headSpec ws rm) cc maxL ret e s m args below meth c s₁ → c.maxLocals = maxL → (∀ x ∈ c.exceptionTable.toList, False) → Pc args s →
      W p l e (headSpec ws rm).room s m args below meth c s.heap [] 0 0 (vx_MQ below Qc XC args s mc ms free) (entryFrame m args maxL)) : vx_Met l y ws rm Pc Qc XC mc ms free := by
  refine MetFree.of_bodyS (code := cc) (maxLocals := maxL) (ret := ret) hy ?_ ?_
  · intro args s m h hn
    obtain ⟨meth, c, h1, h2, h3, h4, h5, h6, -, -⟩ := Cond.code_spec hn (atoms_spec (ws := ws) h _ (by rw [hw]; exact List.mem_cons_self))
    exact ⟨meth, c, h1, h2, h3, h4, h5, h6⟩
  · intro p e s m args below meth c s₁ B hml hP _
    have hh0 : s₁.heap = s.heap := by rw [B.state]; rfl
    have ht : ∀ x ∈ c.exceptionTable.toList, False := by
      obtain ⟨meth9, c9, h1, h2, -, -, -, -, h7, -⟩ := Cond.code_spec B.named (atoms_spec (ws := ws) B.pre _ (by rw [hw]; exact List.mem_cons_self))
      cases Option.some.inj (h1.symm.trans B.method)
      cases Option.some.inj (h2.symm.trans (Stand.of_body B).code)
      intro x hx
      rw [Array.isEmpty_iff.mp h7] at hx
      cases hx
    obtain ⟨t, a1, o, b1, b2, b3⟩ := body p e s m args below meth c s₁ B hml ht hP s₁ hh0 (Stand.of_body B)
    exact ⟨t, o, a1, b1, b2, b3⟩
/-- the table of a body with handlers -/
theorem vx_table {p : Program} {x y : MethodName} {S : Spec} {cc bytes : ByteArray} {maxL maxL' : Nat} {ret ret' : Option FieldType} {e : Env} {s s₁ : State} {m : MethodId} {args : Array Value} {below : List Frame} {meth : Method} {c : Code} {hh : List (Nat × Nat × Nat × Nat)}
    (B : BodyLoose p l y S cc maxL ret e s m args below meth c s₁) (h : (Cond.codeWith y bytes maxL' ret' hh).before args s = true) : c.exceptionTable.toList = tableOf hh := by
  obtain ⟨m9, meth9, c9, hn9, h1, h2, -, -, h6, -⟩ := Cond.codeWith_spec h
  cases Option.some.inj (hn9.symm.trans B.named)
  cases Option.some.inj (h1.symm.trans B.method)
  cases Option.some.inj (h2.symm.trans (Stand.of_body B).code)
  rw [← h6, table_eq]
end Bodies
end VXA
/-! ===== BEGIN a private method of a nest mate that may throw (follows va_callVN, va_callSN, va_runVN, va_runSN) ===== -/
section
variable {p : Program} {l : Launch} {e : Env} {R : Room} {s : State} {m : MethodId} {args : Array Value} {below : List Frame} {meth : Method} {c : Code} {H : Heap} {locs : List Loc} {cells slots : Nat}
variable {T : State}
theorem vx_callVN (X : Stand p l e R s m args below meth c T locs cells slots) (hexec : p.tables.exec = Jvm.exec) {own C : String} {index : Nat} {host : String} {y : MethodName} {bytes : ByteArray} {maxL : Nat} {ret : Option FieldType}
    (hown : s.vm.findClass own = some m.cls) (hlink : (Cond.methodLinkNest own index y host).before args s = true) (hinst : (Cond.instanceMethod y).before args s = true) (hsel : (Cond.selects C y y).before args s = true)
    (hcode : (Cond.code y bytes maxL ret).before args s = true) (hy : y.cls ≠ "java/lang/invoke/MethodHandle" ∧ y.cls ≠ "java/lang/invoke/VarHandle")
    {W : Nat} {Pre : Pt → Array Value → Prop} {Post : Pt → Array Value → Option Value → Pt → Prop} {PostX : Pt → Array Value → Addr → Pt → Prop} (hK : vx_Back l R p e below s args y 3 W Pre Post PostX)
    {b : Addr} {cellB : Cell} (hcell : T.heap[b]? = some cellB) (hobj : cellB.vm.isStatics = false) (hcls : s.vm.findClass C = some cellB.cls)
    {g : JFrame} (hg : g.method = m) (hsize : g.locals.size = c.maxLocals) {argsL rest : List Value} (hlen : ∀ sig, parseMethodDescriptor y.desc = some sig → argsL.length = sig.parameters.length)
    (hstack : g.stack = argsL.reverse ++ .ref b :: rest) (hW : 2 * g.monitorRoom + (rest.map fun v => v.category).sum ≤ W) (hdg : decode c.code g.pc = .ok (.invokevirtual index, 3))
    (hpre : ∀ vm₁, s.WarmedH vm₁ → Pre ⟨T.setVm vm₁, locs, cells, slots⟩ (Value.ref b :: argsL).toArray) :
    (∃ (v : Option Value) (vm₁ : Vm) (B : Pt), s.WarmedH vm₁ ∧ Stand p l e R s m args below meth c B.U B.locs B.cells B.slots ∧ Post ⟨T.setVm vm₁, locs, cells, slots⟩ (Value.ref b :: argsL).toArray v B ∧
      ∀ target, Steps p.tables e below (B.U.setTop { g with pc := g.pc + 3, stack := v.toList ++ rest }) target → Steps p.tables e below (T.setTop g) target) ∨
    (∃ (q : Addr) (vm₁ : Vm) (B : Pt), s.WarmedH vm₁ ∧ Stand p l e R s m args below meth c B.U B.locs B.cells B.slots ∧ PostX ⟨T.setVm vm₁, locs, cells, slots⟩ (Value.ref b :: argsL).toArray q B ∧
      Steps p.tables e below (T.setTop g) ((B.U.setTop { g with stack := rest }).pushFrame (.throwing q))) := by
  obtain ⟨mk, methM, hnamed, hmethM, hstM, habM⟩ := Cond.instanceMethod_spec hinst
  obtain ⟨methM', cM, hmethM', -, -, -, -, -, -, hsigM⟩ := Cond.code_spec hnamed hcode
  cases hmethM.symm.trans hmethM'
  obtain ⟨c2, r2, m2, q1, q2, q3, q4, kP, hkP, hkPi⟩ := Cond.selects_spec hsel
  cases hcls.symm.trans q1
  cases (State.methodFound?_of_named hnamed hy).symm.trans q2
  cases hnamed.symm.trans q3
  have hselP : selectMethod e.platform s.vm cellB.cls mk = .method mk := by rw [Launch.admits_selectMethod X.admits]; exact q4
  obtain ⟨vm₁, X₁, hstep₁⟩ := X.invokevirtualNest hexec hown hlink hnamed hmethM hstM hkP hkPi hy (a := b) (cell := cellB) hcell
    (fun z h => by rw [h] at hobj; cases hobj) hselP hmethM habM hkP hkPi (g := g) hg (argsL := argsL) (rest := rest) (hlen _ hsigM) hstack hdg
  rcases hK m meth c ⟨T.setVm vm₁, locs, cells, slots⟩ { g with stack := rest } (.invokevirtual index) mk (Value.ref b :: argsL).toArray X₁ hg hsize hdg hW (X₁.named hnamed) (hpre vm₁ X₁.warmed) with ⟨v, B, X', hpost, hsteps⟩ | ⟨q, B, X', hpost, hsteps⟩
  · exact Or.inl ⟨v, vm₁, B, X₁.warmed, X', hpost, fun target h => hstep₁ _ fun acts => by rw [doInvoke_state]; exact hsteps.trans h⟩
  · exact Or.inr ⟨q, vm₁, B, X₁.warmed, X', hpost, hstep₁ _ fun acts => by rw [doInvoke_state]; exact hsteps⟩
theorem vx_callSN (X : Stand p l e R s m args below meth c T locs cells slots) (hexec : p.tables.exec = Jvm.exec) {own : String} {index : Nat} {host : String} {y : MethodName} {bytes : ByteArray} {maxL : Nat} {ret : Option FieldType}
    (hown : s.vm.findClass own = some m.cls) (hlink : (Cond.methodLinkNest own index y host).before args s = true) (hstat : (Cond.static y).before args s = true) (hinit : (Cond.initialized y.cls).before args s = true)
    (hcode : (Cond.code y bytes maxL ret).before args s = true) (hy : y.cls ≠ "java/lang/invoke/MethodHandle" ∧ y.cls ≠ "java/lang/invoke/VarHandle")
    {W : Nat} {Pre : Pt → Array Value → Prop} {Post : Pt → Array Value → Option Value → Pt → Prop} {PostX : Pt → Array Value → Addr → Pt → Prop} (hK : vx_Back l R p e below s args y 3 W Pre Post PostX)
    {g : JFrame} (hg : g.method = m) (hsize : g.locals.size = c.maxLocals) {argsL rest : List Value} (hlen : ∀ sig, parseMethodDescriptor y.desc = some sig → argsL.length = sig.parameters.length)
    (hstack : g.stack = argsL.reverse ++ rest) (hW : 2 * g.monitorRoom + (rest.map fun v => v.category).sum ≤ W) (hdg : decode c.code g.pc = .ok (.invokestatic index, 3))
    (hpre : ∀ vm₁, s.WarmedH vm₁ → Pre ⟨T.setVm vm₁, locs, cells, slots⟩ argsL.toArray) :
    (∃ (v : Option Value) (vm₁ : Vm) (B : Pt), s.WarmedH vm₁ ∧ Stand p l e R s m args below meth c B.U B.locs B.cells B.slots ∧ Post ⟨T.setVm vm₁, locs, cells, slots⟩ argsL.toArray v B ∧
      ∀ target, Steps p.tables e below (B.U.setTop { g with pc := g.pc + 3, stack := v.toList ++ rest }) target → Steps p.tables e below (T.setTop g) target) ∨
    (∃ (q : Addr) (vm₁ : Vm) (B : Pt), s.WarmedH vm₁ ∧ Stand p l e R s m args below meth c B.U B.locs B.cells B.slots ∧ PostX ⟨T.setVm vm₁, locs, cells, slots⟩ argsL.toArray q B ∧
      Steps p.tables e below (T.setTop g) ((B.U.setTop { g with stack := rest }).pushFrame (.throwing q))) := by
  obtain ⟨mk, hnamed⟩ := Cond.code_named hcode
  obtain ⟨methM, cM, hmethM, -, -, -, -, -, -, hsigM⟩ := Cond.code_spec hnamed hcode
  have hstatic : methM.isStatic = true := Cond.static_spec hnamed hmethM hstat
  obtain ⟨kP, hkP, -⟩ := className_of_methodNamed hnamed
  have hinitP : kP.init = .initialized := Cond.initialized_spec (findClass_of_methodNamed hnamed) hkP hinit
  obtain ⟨vm₁, X₁, hstep₁⟩ := X.invokestaticNest hexec hown hlink hnamed hmethM hstatic hkP hinitP hy (g := g) hg (argsL := argsL) (rest := rest) (hlen _ hsigM) hstack hdg
  rcases hK m meth c ⟨T.setVm vm₁, locs, cells, slots⟩ { g with stack := rest } (.invokestatic index) mk argsL.toArray X₁ hg hsize hdg hW (X₁.named hnamed) (hpre vm₁ X₁.warmed) with ⟨v, B, X', hpost, hsteps⟩ | ⟨q, B, X', hpost, hsteps⟩
  · exact Or.inl ⟨v, vm₁, B, X₁.warmed, X', hpost, fun target h => hstep₁ _ fun acts => by rw [doInvoke_state]; exact hsteps.trans h⟩
  · exact Or.inr ⟨q, vm₁, B, X₁.warmed, X', hpost, hstep₁ _ fun acts => by rw [doInvoke_state]; exact hsteps⟩
theorem vx_runVN {y : MethodName} {bytes cc : ByteArray} {maxL nL mc ms n index : Nat} {ret : Option FieldType} {ws : List Cond} {rm : Room} {Pc : Array Value → State → Prop} {Qc : Array Value → State → Outcome → State → Prop} {XC : String → State → State → Prop} {free : Addr → Prop} {Ts : List Cond} {own C host : String} {b : Addr} {As rest : List Value} {g : JFrame}
    (S : CallFix p m c cc nL s args Ts own) (hM : vx_Met l y ws rm Pc Qc XC mc ms free) (cw : va_CN R s args own index y host bytes maxL ret ws rm mc ms n ∧ (Cond.instanceMethod y).before args s = true ∧ (Cond.selects C y y).before args s = true) (hp : PreV s H C b Pc As)
    (hg : g.method = m) (hn : As.length = n) (hsize : g.locals.size = nL) (hstack : g.stack = As.reverse ++ .ref b :: rest) (hW : 2 * g.monitorRoom + (rest.map fun v => v.category).sum ≤ 8) (hdg : decode cc g.pc = .ok (.invokevirtual index, 3)) (hf : cells + mc ≤ R.cells ∧ slots + ms ≤ R.slots) :
    vx_Run p l e R s m args below meth c H locs cells slots mc ms g rest (Qc (Value.ref b :: As).toArray) XC free := by
  obtain ⟨⟨⟨hrc, hrs, hfr, hlo, hws, hcw⟩, hcode, hini, hy, hlen, hl⟩, hx1, hx2⟩ := cw
  have hK : vx_Back l R p e below s args y 3 8 (PreOf R mc ms Pc) (PostOf Qc mc ms free) (vx_Post XC mc ms free) := vx_back (bytes := bytes) (maxL := maxL) (ret := ret) hM hp.1 hrc hrs hfr hlo hws hcw (fun a' U hW => word_at hW (Or.inl (by first | rfl | simp [Cond.onTables, Cond.keeps, Cond.steady])) hini)
  obtain ⟨hx, hb, hml, ho, -⟩ := S
  obtain ⟨-, ⟨cellB, hcB, hoB, hclB⟩, hPc⟩ := hp
  intro T hT X
  rcases vx_callVN X hx (C := C) (bytes := bytes) (maxL := maxL) (ret := ret) ho hl hx1 hx2 hcode hy hK (by rw [hT]; exact hcB) hoB hclB hg (hsize.trans hml.symm) (argsL := As) (rest := rest) (fun sig h => hn.trans (hlen sig h)) hstack hW (by rw [hb]; exact hdg)
    (fun vm₁ hW₁ => ⟨hf.1, hf.2, hPc (T.setVm vm₁) hT hW₁⟩) with ⟨v, vm₁, ⟨U', l2, c2, s2⟩, hW₁, X', ⟨g', mk, t, L, e1, e2, hq, h1, hL, h2, h3⟩, st⟩ | ⟨q, vm₁, ⟨U', l2, c2, s2⟩, hW₁, X', ⟨g', mk, t, L, E, ce, e1, e2, hq, hce, hcv, hcl, h1, hL, h2, h3⟩, st⟩
  · dsimp only [Pt.U, Pt.locs, Pt.cells, Pt.slots] at X' e1 e2 h1 h2 h3 st
    subst h1; subst h2; subst h3
    exact Or.inl ⟨v, (T.setVm vm₁).calling g' mk (Value.ref b :: As).toArray, t, U', L, hT, X', hL, e1, e2, hq, st⟩
  · dsimp only [Pt.U, Pt.locs, Pt.cells, Pt.slots] at X' e1 e2 h1 h2 h3 st hcl
    subst h1; subst h2; subst h3
    exact Or.inr ⟨q, (T.setVm vm₁).calling g' mk (Value.ref b :: As).toArray, t, U', L, E, ce, hT, X', hL, e1, e2, hq, hce, hcv, vx_cls hW₁ hcl, st⟩
theorem vx_runSN {y : MethodName} {bytes cc : ByteArray} {maxL nL mc ms n index : Nat} {ret : Option FieldType} {ws : List Cond} {rm : Room} {Pc : Array Value → State → Prop} {Qc : Array Value → State → Outcome → State → Prop} {XC : String → State → State → Prop} {free : Addr → Prop} {Ts : List Cond} {own host : String} {As rest : List Value} {g : JFrame}
    (S : CallFix p m c cc nL s args Ts own) (hM : vx_Met l y ws rm Pc Qc XC mc ms free) (cw : va_CN R s args own index y host bytes maxL ret ws rm mc ms n ∧ (Cond.static y).before args s = true ∧ True) (hp : PreS s H Pc As)
    (hg : g.method = m) (hn : As.length = n) (hsize : g.locals.size = nL) (hstack : g.stack = As.reverse ++ rest) (hW : 2 * g.monitorRoom + (rest.map fun v => v.category).sum ≤ 8) (hdg : decode cc g.pc = .ok (.invokestatic index, 3)) (hf : cells + mc ≤ R.cells ∧ slots + ms ≤ R.slots) :
    vx_Run p l e R s m args below meth c H locs cells slots mc ms g rest (Qc As.toArray) XC free := by
  obtain ⟨⟨⟨hrc, hrs, hfr, hlo, hws, hcw⟩, hcode, hini, hy, hlen, hl⟩, hx1, hx2⟩ := cw
  have hK : vx_Back l R p e below s args y 3 8 (PreOf R mc ms Pc) (PostOf Qc mc ms free) (vx_Post XC mc ms free) := vx_back (bytes := bytes) (maxL := maxL) (ret := ret) hM hp.1 hrc hrs hfr hlo hws hcw (fun a' U hW => word_at hW (Or.inl (by first | rfl | simp [Cond.onTables, Cond.keeps, Cond.steady])) hini)
  obtain ⟨hx, hb, hml, ho, -⟩ := S
  have hPc := hp.2
  intro T hT X
  rcases vx_callSN X hx (bytes := bytes) (maxL := maxL) (ret := ret) ho hl hx1 hini hcode hy hK hg (hsize.trans hml.symm) (argsL := As) (rest := rest) (fun sig h => hn.trans (hlen sig h)) hstack hW (by rw [hb]; exact hdg)
    (fun vm₁ hW₁ => ⟨hf.1, hf.2, hPc (T.setVm vm₁) hT hW₁⟩) with ⟨v, vm₁, ⟨U', l2, c2, s2⟩, hW₁, X', ⟨g', mk, t, L, e1, e2, hq, h1, hL, h2, h3⟩, st⟩ | ⟨q, vm₁, ⟨U', l2, c2, s2⟩, hW₁, X', ⟨g', mk, t, L, E, ce, e1, e2, hq, hce, hcv, hcl, h1, hL, h2, h3⟩, st⟩
  · dsimp only [Pt.U, Pt.locs, Pt.cells, Pt.slots] at X' e1 e2 h1 h2 h3 st
    subst h1; subst h2; subst h3
    exact Or.inl ⟨v, (T.setVm vm₁).calling g' mk As.toArray, t, U', L, hT, X', hL, e1, e2, hq, st⟩
  · dsimp only [Pt.U, Pt.locs, Pt.cells, Pt.slots] at X' e1 e2 h1 h2 h3 st hcl
    subst h1; subst h2; subst h3
    exact Or.inr ⟨q, (T.setVm vm₁).calling g' mk As.toArray, t, U', L, E, ce, hT, X', hL, e1, e2, hq, hce, hcv, vx_cls hW₁ hcl, st⟩
end
/-! ===== END ===== -/
section VXK9
variable {p : Program} {l : Launch} {e : Env} {R : Room} {s : State} {m : MethodId} {args : Array Value} {below : List Frame} {meth : Method} {c : Code} {H : Heap} {locs : List Loc} {cells slots : Nat} {Q : State → Prop}
variable {ls : Array Slot} {rest : List Value} {D : va_G} {cl : List vw_C} {tys : List (ClassId × FieldType)} {ws : va_W}
/-- 'throw x' of an object that was made before -/
theorem vx_athrow {cc : ByteArray} {pc : Nat} (hexec : p.tables.exec = Jvm.exec) (hb : c.code = cc) {q : Addr} (hdg : decode cc pc = .ok (.athrow, 1)) (k : vx_W p l e R s m args below meth c H locs cells slots Q (F0 m pc ls rest) q) : W p l e R s m args below meth c H locs cells slots Q (F0 m pc ls (.ref q :: rest)) := by
  intro T hT X
  obtain ⟨t, st, hq⟩ := k T hT X
  refine ⟨t, ?_, hq⟩
  have hdg' : decode c.code pc = .ok (.athrow, 1) := by rw [hb]; exact hdg
  jvm_step X.here [X.here.top, hexec, hdg', athrow.wp_sem]
  exact st
end VXK9
end
section
-- ===== PART A: goes FIRST, ahead of the names: the tables' words, and 'selects' of the private methods out of them =====
/-- a private method of a class that the tables say can be made, by its rows of tables_1 -/
def lw_okq (q : MethodName × Nat) : Prop := (q.1.cls ≠ "java/lang/invoke/MethodHandle" ∧ q.1.cls ≠ "java/lang/invoke/VarHandle") ∧ Cond.instantiable q.1.cls q.2 ∈ tables_1 ∧ Cond.privateMethod q.1 ∈ tables_1 ∧ Cond.instanceMethod q.1 ∈ tables_1
theorem lw_p0 : lw_okq (⟨"ModuleCheck$Input", "add", "(I)V"⟩, 6) := ⟨⟨by decide +kernel, by decide +kernel⟩, List.mem_of_getElem? (i := 31) (by decide +kernel), List.mem_of_getElem? (i := 336) (by decide +kernel), List.mem_of_getElem? (i := 337) (by decide +kernel)⟩
theorem lw_p1 : lw_okq (⟨"ModuleCheck$Sections", "begin", "()V"⟩, 6) := ⟨⟨by decide +kernel, by decide +kernel⟩, List.mem_of_getElem? (i := 173) (by decide +kernel), List.mem_of_getElem? (i := 348) (by decide +kernel), List.mem_of_getElem? (i := 349) (by decide +kernel)⟩
theorem lw_p2 : lw_okq (⟨"ModuleCheck$Input", "restart", "()V"⟩, 6) := ⟨⟨by decide +kernel, by decide +kernel⟩, List.mem_of_getElem? (i := 31) (by decide +kernel), List.mem_of_getElem? (i := 352) (by decide +kernel), List.mem_of_getElem? (i := 353) (by decide +kernel)⟩
theorem lw_p3 : lw_okq (⟨"ModuleCheck$Facts", "clear", "()V"⟩, 15) := ⟨⟨by decide +kernel, by decide +kernel⟩, List.mem_of_getElem? (i := 67) (by decide +kernel), List.mem_of_getElem? (i := 356) (by decide +kernel), List.mem_of_getElem? (i := 357) (by decide +kernel)⟩
theorem lw_p4 : lw_okq (⟨"ModuleCheck$Bodies", "begin", "()V"⟩, 7) := ⟨⟨by decide +kernel, by decide +kernel⟩, List.mem_of_getElem? (i := 179) (by decide +kernel), List.mem_of_getElem? (i := 361) (by decide +kernel), List.mem_of_getElem? (i := 362) (by decide +kernel)⟩
theorem lw_p5 : lw_okq (⟨"ModuleCheck$Input", "octetWithin", "(II)I"⟩, 6) := ⟨⟨by decide +kernel, by decide +kernel⟩, List.mem_of_getElem? (i := 31) (by decide +kernel), List.mem_of_getElem? (i := 367) (by decide +kernel), List.mem_of_getElem? (i := 368) (by decide +kernel)⟩
theorem lw_p6 : lw_okq (⟨"ModuleCheck$Input", "octet", "()I"⟩, 6) := ⟨⟨by decide +kernel, by decide +kernel⟩, List.mem_of_getElem? (i := 31) (by decide +kernel), List.mem_of_getElem? (i := 371) (by decide +kernel), List.mem_of_getElem? (i := 372) (by decide +kernel)⟩
theorem lw_p7 : lw_okq (⟨"ModuleCheck$Input", "fail", "(II)V"⟩, 6) := ⟨⟨by decide +kernel, by decide +kernel⟩, List.mem_of_getElem? (i := 31) (by decide +kernel), List.mem_of_getElem? (i := 375) (by decide +kernel), List.mem_of_getElem? (i := 376) (by decide +kernel)⟩
theorem lw_p8 : lw_okq (⟨"ModuleCheck$Sections", "areMore", "()Z"⟩, 6) := ⟨⟨by decide +kernel, by decide +kernel⟩, List.mem_of_getElem? (i := 173) (by decide +kernel), List.mem_of_getElem? (i := 379) (by decide +kernel), List.mem_of_getElem? (i := 380) (by decide +kernel)⟩
theorem lw_p9 : lw_okq (⟨"ModuleCheck$Sections", "readSection", "()V"⟩, 6) := ⟨⟨by decide +kernel, by decide +kernel⟩, List.mem_of_getElem? (i := 173) (by decide +kernel), List.mem_of_getElem? (i := 383) (by decide +kernel), List.mem_of_getElem? (i := 384) (by decide +kernel)⟩
theorem lw_p10 : lw_okq (⟨"ModuleCheck$Sections", "readSectionNumber", "()I"⟩, 6) := ⟨⟨by decide +kernel, by decide +kernel⟩, List.mem_of_getElem? (i := 173) (by decide +kernel), List.mem_of_getElem? (i := 387) (by decide +kernel), List.mem_of_getElem? (i := 388) (by decide +kernel)⟩
theorem lw_p11 : lw_okq (⟨"ModuleCheck$Input", "enter", "()I"⟩, 6) := ⟨⟨by decide +kernel, by decide +kernel⟩, List.mem_of_getElem? (i := 31) (by decide +kernel), List.mem_of_getElem? (i := 394) (by decide +kernel), List.mem_of_getElem? (i := 395) (by decide +kernel)⟩
theorem lw_p12 : lw_okq (⟨"ModuleCheck$Input", "length", "()I"⟩, 6) := ⟨⟨by decide +kernel, by decide +kernel⟩, List.mem_of_getElem? (i := 31) (by decide +kernel), List.mem_of_getElem? (i := 398) (by decide +kernel), List.mem_of_getElem? (i := 399) (by decide +kernel)⟩
theorem lw_p13 : lw_okq (⟨"ModuleCheck$Input", "number", "()J"⟩, 6) := ⟨⟨by decide +kernel, by decide +kernel⟩, List.mem_of_getElem? (i := 31) (by decide +kernel), List.mem_of_getElem? (i := 402) (by decide +kernel), List.mem_of_getElem? (i := 403) (by decide +kernel)⟩
theorem lw_p14 : lw_okq (⟨"ModuleCheck$Input", "rowLength", "()I"⟩, 6) := ⟨⟨by decide +kernel, by decide +kernel⟩, List.mem_of_getElem? (i := 31) (by decide +kernel), List.mem_of_getElem? (i := 409) (by decide +kernel), List.mem_of_getElem? (i := 410) (by decide +kernel)⟩
theorem lw_p15 : lw_okq (⟨"ModuleCheck$Sections", "refuseBeyond", "(II)V"⟩, 6) := ⟨⟨by decide +kernel, by decide +kernel⟩, List.mem_of_getElem? (i := 173) (by decide +kernel), List.mem_of_getElem? (i := 419) (by decide +kernel), List.mem_of_getElem? (i := 420) (by decide +kernel)⟩
def lw_privs_1 : List (MethodName × Nat) := [(⟨"ModuleCheck$Input", "add", "(I)V"⟩, 6), (⟨"ModuleCheck$Sections", "begin", "()V"⟩, 6), (⟨"ModuleCheck$Input", "restart", "()V"⟩, 6), (⟨"ModuleCheck$Facts", "clear", "()V"⟩, 15), (⟨"ModuleCheck$Bodies", "begin", "()V"⟩, 7), (⟨"ModuleCheck$Input", "octetWithin", "(II)I"⟩, 6), (⟨"ModuleCheck$Input", "octet", "()I"⟩, 6), (⟨"ModuleCheck$Input", "fail", "(II)V"⟩, 6), (⟨"ModuleCheck$Sections", "areMore", "()Z"⟩, 6), (⟨"ModuleCheck$Sections", "readSection", "()V"⟩, 6), (⟨"ModuleCheck$Sections", "readSectionNumber", "()I"⟩, 6), (⟨"ModuleCheck$Input", "enter", "()I"⟩, 6), (⟨"ModuleCheck$Input", "length", "()I"⟩, 6), (⟨"ModuleCheck$Input", "number", "()J"⟩, 6), (⟨"ModuleCheck$Input", "rowLength", "()I"⟩, 6), (⟨"ModuleCheck$Sections", "refuseBeyond", "(II)V"⟩, 6)]
theorem lw_r1 : ∀ q ∈ lw_privs_1, lw_okq q := List.forall_mem_cons.mpr ⟨lw_p0, List.forall_mem_cons.mpr ⟨lw_p1, List.forall_mem_cons.mpr ⟨lw_p2, List.forall_mem_cons.mpr ⟨lw_p3, List.forall_mem_cons.mpr ⟨lw_p4, List.forall_mem_cons.mpr ⟨lw_p5, List.forall_mem_cons.mpr ⟨lw_p6, List.forall_mem_cons.mpr ⟨lw_p7, List.forall_mem_cons.mpr ⟨lw_p8, List.forall_mem_cons.mpr ⟨lw_p9, List.forall_mem_cons.mpr ⟨lw_p10, List.forall_mem_cons.mpr ⟨lw_p11, List.forall_mem_cons.mpr ⟨lw_p12, List.forall_mem_cons.mpr ⟨lw_p13, List.forall_mem_cons.mpr ⟨lw_p14, List.forall_mem_cons.mpr ⟨lw_p15, fun _ h => absurd h List.not_mem_nil⟩⟩⟩⟩⟩⟩⟩⟩⟩⟩⟩⟩⟩⟩⟩⟩
theorem lw_p16 : lw_okq (⟨"ModuleCheck$Sections", "readSignature", "()V"⟩, 6) := ⟨⟨by decide +kernel, by decide +kernel⟩, List.mem_of_getElem? (i := 173) (by decide +kernel), List.mem_of_getElem? (i := 423) (by decide +kernel), List.mem_of_getElem? (i := 424) (by decide +kernel)⟩
theorem lw_p17 : lw_okq (⟨"ModuleCheck$Input", "type", "()I"⟩, 6) := ⟨⟨by decide +kernel, by decide +kernel⟩, List.mem_of_getElem? (i := 31) (by decide +kernel), List.mem_of_getElem? (i := 427) (by decide +kernel), List.mem_of_getElem? (i := 428) (by decide +kernel)⟩
theorem lw_p18 : lw_okq (⟨"ModuleCheck$Facts", "addParameter", "(II)V"⟩, 15) := ⟨⟨by decide +kernel, by decide +kernel⟩, List.mem_of_getElem? (i := 67) (by decide +kernel), List.mem_of_getElem? (i := 432) (by decide +kernel), List.mem_of_getElem? (i := 433) (by decide +kernel)⟩
theorem lw_p19 : lw_okq (⟨"ModuleCheck$Sections", "readImport", "()V"⟩, 6) := ⟨⟨by decide +kernel, by decide +kernel⟩, List.mem_of_getElem? (i := 173) (by decide +kernel), List.mem_of_getElem? (i := 436) (by decide +kernel), List.mem_of_getElem? (i := 437) (by decide +kernel)⟩
theorem lw_p20 : lw_okq (⟨"ModuleCheck$Input", "outerName", "()I"⟩, 6) := ⟨⟨by decide +kernel, by decide +kernel⟩, List.mem_of_getElem? (i := 31) (by decide +kernel), List.mem_of_getElem? (i := 440) (by decide +kernel), List.mem_of_getElem? (i := 441) (by decide +kernel)⟩
theorem lw_p21 : lw_okq (⟨"ModuleCheck$Input", "name", "()I"⟩, 6) := ⟨⟨by decide +kernel, by decide +kernel⟩, List.mem_of_getElem? (i := 31) (by decide +kernel), List.mem_of_getElem? (i := 444) (by decide +kernel), List.mem_of_getElem? (i := 445) (by decide +kernel)⟩
theorem lw_p22 : lw_okq (⟨"ModuleCheck$Sections", "readSignatureOfFunction", "(I)V"⟩, 6) := ⟨⟨by decide +kernel, by decide +kernel⟩, List.mem_of_getElem? (i := 173) (by decide +kernel), List.mem_of_getElem? (i := 449) (by decide +kernel), List.mem_of_getElem? (i := 450) (by decide +kernel)⟩
theorem lw_p23 : lw_okq (⟨"ModuleCheck$Facts", "noteWrong", "(II)V"⟩, 15) := ⟨⟨by decide +kernel, by decide +kernel⟩, List.mem_of_getElem? (i := 67) (by decide +kernel), List.mem_of_getElem? (i := 454) (by decide +kernel), List.mem_of_getElem? (i := 455) (by decide +kernel)⟩
theorem lw_p24 : lw_okq (⟨"ModuleCheck$Facts", "addFunction", "(J)V"⟩, 15) := ⟨⟨by decide +kernel, by decide +kernel⟩, List.mem_of_getElem? (i := 67) (by decide +kernel), List.mem_of_getElem? (i := 458) (by decide +kernel), List.mem_of_getElem? (i := 459) (by decide +kernel)⟩
theorem lw_p25 : lw_okq (⟨"ModuleCheck$Sections", "readLimits", "(IZ)V"⟩, 6) := ⟨⟨by decide +kernel, by decide +kernel⟩, List.mem_of_getElem? (i := 173) (by decide +kernel), List.mem_of_getElem? (i := 462) (by decide +kernel), List.mem_of_getElem? (i := 463) (by decide +kernel)⟩
theorem lw_p26 : lw_okq (⟨"ModuleCheck$Sections", "addTable", "(I)V"⟩, 6) := ⟨⟨by decide +kernel, by decide +kernel⟩, List.mem_of_getElem? (i := 173) (by decide +kernel), List.mem_of_getElem? (i := 467) (by decide +kernel), List.mem_of_getElem? (i := 468) (by decide +kernel)⟩
theorem lw_p27 : lw_okq (⟨"ModuleCheck$Sections", "addMemory", "(I)V"⟩, 6) := ⟨⟨by decide +kernel, by decide +kernel⟩, List.mem_of_getElem? (i := 173) (by decide +kernel), List.mem_of_getElem? (i := 471) (by decide +kernel), List.mem_of_getElem? (i := 472) (by decide +kernel)⟩
theorem lw_p28 : lw_okq (⟨"ModuleCheck$Facts", "addGlobal", "(IZ)V"⟩, 15) := ⟨⟨by decide +kernel, by decide +kernel⟩, List.mem_of_getElem? (i := 67) (by decide +kernel), List.mem_of_getElem? (i := 475) (by decide +kernel), List.mem_of_getElem? (i := 476) (by decide +kernel)⟩
theorem lw_p29 : lw_okq (⟨"ModuleCheck$Sections", "readTable", "()V"⟩, 6) := ⟨⟨by decide +kernel, by decide +kernel⟩, List.mem_of_getElem? (i := 173) (by decide +kernel), List.mem_of_getElem? (i := 479) (by decide +kernel), List.mem_of_getElem? (i := 480) (by decide +kernel)⟩
theorem lw_p30 : lw_okq (⟨"ModuleCheck$Sections", "readMemory", "()V"⟩, 6) := ⟨⟨by decide +kernel, by decide +kernel⟩, List.mem_of_getElem? (i := 173) (by decide +kernel), List.mem_of_getElem? (i := 483) (by decide +kernel), List.mem_of_getElem? (i := 484) (by decide +kernel)⟩
theorem lw_p31 : lw_okq (⟨"ModuleCheck$Sections", "readGlobal", "()V"⟩, 6) := ⟨⟨by decide +kernel, by decide +kernel⟩, List.mem_of_getElem? (i := 173) (by decide +kernel), List.mem_of_getElem? (i := 487) (by decide +kernel), List.mem_of_getElem? (i := 488) (by decide +kernel)⟩
def lw_privs_2 : List (MethodName × Nat) := [(⟨"ModuleCheck$Sections", "readSignature", "()V"⟩, 6), (⟨"ModuleCheck$Input", "type", "()I"⟩, 6), (⟨"ModuleCheck$Facts", "addParameter", "(II)V"⟩, 15), (⟨"ModuleCheck$Sections", "readImport", "()V"⟩, 6), (⟨"ModuleCheck$Input", "outerName", "()I"⟩, 6), (⟨"ModuleCheck$Input", "name", "()I"⟩, 6), (⟨"ModuleCheck$Sections", "readSignatureOfFunction", "(I)V"⟩, 6), (⟨"ModuleCheck$Facts", "noteWrong", "(II)V"⟩, 15), (⟨"ModuleCheck$Facts", "addFunction", "(J)V"⟩, 15), (⟨"ModuleCheck$Sections", "readLimits", "(IZ)V"⟩, 6), (⟨"ModuleCheck$Sections", "addTable", "(I)V"⟩, 6), (⟨"ModuleCheck$Sections", "addMemory", "(I)V"⟩, 6), (⟨"ModuleCheck$Facts", "addGlobal", "(IZ)V"⟩, 15), (⟨"ModuleCheck$Sections", "readTable", "()V"⟩, 6), (⟨"ModuleCheck$Sections", "readMemory", "()V"⟩, 6), (⟨"ModuleCheck$Sections", "readGlobal", "()V"⟩, 6)]
theorem lw_r2 : ∀ q ∈ lw_privs_2, lw_okq q := List.forall_mem_cons.mpr ⟨lw_p16, List.forall_mem_cons.mpr ⟨lw_p17, List.forall_mem_cons.mpr ⟨lw_p18, List.forall_mem_cons.mpr ⟨lw_p19, List.forall_mem_cons.mpr ⟨lw_p20, List.forall_mem_cons.mpr ⟨lw_p21, List.forall_mem_cons.mpr ⟨lw_p22, List.forall_mem_cons.mpr ⟨lw_p23, List.forall_mem_cons.mpr ⟨lw_p24, List.forall_mem_cons.mpr ⟨lw_p25, List.forall_mem_cons.mpr ⟨lw_p26, List.forall_mem_cons.mpr ⟨lw_p27, List.forall_mem_cons.mpr ⟨lw_p28, List.forall_mem_cons.mpr ⟨lw_p29, List.forall_mem_cons.mpr ⟨lw_p30, List.forall_mem_cons.mpr ⟨lw_p31, fun _ h => absurd h List.not_mem_nil⟩⟩⟩⟩⟩⟩⟩⟩⟩⟩⟩⟩⟩⟩⟩⟩
theorem lw_p32 : lw_okq (⟨"ModuleCheck$Sections", "readConstant", "(II)V"⟩, 6) := ⟨⟨by decide +kernel, by decide +kernel⟩, List.mem_of_getElem? (i := 173) (by decide +kernel), List.mem_of_getElem? (i := 491) (by decide +kernel), List.mem_of_getElem? (i := 492) (by decide +kernel)⟩
theorem lw_p33 : lw_okq (⟨"ModuleCheck$Input", "skipSigned", "(II)V"⟩, 6) := ⟨⟨by decide +kernel, by decide +kernel⟩, List.mem_of_getElem? (i := 31) (by decide +kernel), List.mem_of_getElem? (i := 496) (by decide +kernel), List.mem_of_getElem? (i := 497) (by decide +kernel)⟩
theorem lw_p34 : lw_okq (⟨"ModuleCheck$Facts", "isUnchangedImport", "(J)Z"⟩, 15) := ⟨⟨by decide +kernel, by decide +kernel⟩, List.mem_of_getElem? (i := 67) (by decide +kernel), List.mem_of_getElem? (i := 500) (by decide +kernel), List.mem_of_getElem? (i := 501) (by decide +kernel)⟩
theorem lw_p35 : lw_okq (⟨"ModuleCheck$Facts", "changesGlobal", "(I)Z"⟩, 15) := ⟨⟨by decide +kernel, by decide +kernel⟩, List.mem_of_getElem? (i := 67) (by decide +kernel), List.mem_of_getElem? (i := 504) (by decide +kernel), List.mem_of_getElem? (i := 505) (by decide +kernel)⟩
theorem lw_p36 : lw_okq (⟨"ModuleCheck$Facts", "typeOfGlobal", "(I)I"⟩, 15) := ⟨⟨by decide +kernel, by decide +kernel⟩, List.mem_of_getElem? (i := 67) (by decide +kernel), List.mem_of_getElem? (i := 508) (by decide +kernel), List.mem_of_getElem? (i := 509) (by decide +kernel)⟩
theorem lw_p37 : lw_okq (⟨"ModuleCheck$Sections", "readExport", "()V"⟩, 6) := ⟨⟨by decide +kernel, by decide +kernel⟩, List.mem_of_getElem? (i := 173) (by decide +kernel), List.mem_of_getElem? (i := 512) (by decide +kernel), List.mem_of_getElem? (i := 513) (by decide +kernel)⟩
theorem lw_p38 : lw_okq (⟨"ModuleCheck$Facts", "countOfKind", "(I)I"⟩, 15) := ⟨⟨by decide +kernel, by decide +kernel⟩, List.mem_of_getElem? (i := 67) (by decide +kernel), List.mem_of_getElem? (i := 516) (by decide +kernel), List.mem_of_getElem? (i := 517) (by decide +kernel)⟩
theorem lw_p39 : lw_okq (⟨"ModuleCheck$Sections", "isExported", "(II)Z"⟩, 6) := ⟨⟨by decide +kernel, by decide +kernel⟩, List.mem_of_getElem? (i := 173) (by decide +kernel), List.mem_of_getElem? (i := 520) (by decide +kernel), List.mem_of_getElem? (i := 521) (by decide +kernel)⟩
theorem lw_p40 : lw_okq (⟨"ModuleCheck$Input", "sameBytes", "(III)Z"⟩, 6) := ⟨⟨by decide +kernel, by decide +kernel⟩, List.mem_of_getElem? (i := 31) (by decide +kernel), List.mem_of_getElem? (i := 524) (by decide +kernel), List.mem_of_getElem? (i := 525) (by decide +kernel)⟩
theorem lw_p41 : lw_okq (⟨"ModuleCheck$Sections", "readStart", "()V"⟩, 6) := ⟨⟨by decide +kernel, by decide +kernel⟩, List.mem_of_getElem? (i := 173) (by decide +kernel), List.mem_of_getElem? (i := 528) (by decide +kernel), List.mem_of_getElem? (i := 529) (by decide +kernel)⟩
theorem lw_p42 : lw_okq (⟨"ModuleCheck$Facts", "signatureOf", "(J)I"⟩, 15) := ⟨⟨by decide +kernel, by decide +kernel⟩, List.mem_of_getElem? (i := 67) (by decide +kernel), List.mem_of_getElem? (i := 532) (by decide +kernel), List.mem_of_getElem? (i := 533) (by decide +kernel)⟩
theorem lw_p43 : lw_okq (⟨"ModuleCheck$Facts", "parameterCount", "(I)I"⟩, 15) := ⟨⟨by decide +kernel, by decide +kernel⟩, List.mem_of_getElem? (i := 67) (by decide +kernel), List.mem_of_getElem? (i := 536) (by decide +kernel), List.mem_of_getElem? (i := 537) (by decide +kernel)⟩
theorem lw_p44 : lw_okq (⟨"ModuleCheck$Facts", "resultOf", "(I)I"⟩, 15) := ⟨⟨by decide +kernel, by decide +kernel⟩, List.mem_of_getElem? (i := 67) (by decide +kernel), List.mem_of_getElem? (i := 540) (by decide +kernel), List.mem_of_getElem? (i := 541) (by decide +kernel)⟩
theorem lw_p45 : lw_okq (⟨"ModuleCheck$Sections", "readElement", "()V"⟩, 6) := ⟨⟨by decide +kernel, by decide +kernel⟩, List.mem_of_getElem? (i := 173) (by decide +kernel), List.mem_of_getElem? (i := 544) (by decide +kernel), List.mem_of_getElem? (i := 545) (by decide +kernel)⟩
theorem lw_p46 : lw_okq (⟨"ModuleCheck$Sections", "readRowOfFunctions", "()V"⟩, 6) := ⟨⟨by decide +kernel, by decide +kernel⟩, List.mem_of_getElem? (i := 173) (by decide +kernel), List.mem_of_getElem? (i := 548) (by decide +kernel), List.mem_of_getElem? (i := 549) (by decide +kernel)⟩
theorem lw_p47 : lw_okq (⟨"ModuleCheck$Bodies", "readBody", "(I)V"⟩, 7) := ⟨⟨by decide +kernel, by decide +kernel⟩, List.mem_of_getElem? (i := 179) (by decide +kernel), List.mem_of_getElem? (i := 552) (by decide +kernel), List.mem_of_getElem? (i := 553) (by decide +kernel)⟩
def lw_privs_3 : List (MethodName × Nat) := [(⟨"ModuleCheck$Sections", "readConstant", "(II)V"⟩, 6), (⟨"ModuleCheck$Input", "skipSigned", "(II)V"⟩, 6), (⟨"ModuleCheck$Facts", "isUnchangedImport", "(J)Z"⟩, 15), (⟨"ModuleCheck$Facts", "changesGlobal", "(I)Z"⟩, 15), (⟨"ModuleCheck$Facts", "typeOfGlobal", "(I)I"⟩, 15), (⟨"ModuleCheck$Sections", "readExport", "()V"⟩, 6), (⟨"ModuleCheck$Facts", "countOfKind", "(I)I"⟩, 15), (⟨"ModuleCheck$Sections", "isExported", "(II)Z"⟩, 6), (⟨"ModuleCheck$Input", "sameBytes", "(III)Z"⟩, 6), (⟨"ModuleCheck$Sections", "readStart", "()V"⟩, 6), (⟨"ModuleCheck$Facts", "signatureOf", "(J)I"⟩, 15), (⟨"ModuleCheck$Facts", "parameterCount", "(I)I"⟩, 15), (⟨"ModuleCheck$Facts", "resultOf", "(I)I"⟩, 15), (⟨"ModuleCheck$Sections", "readElement", "()V"⟩, 6), (⟨"ModuleCheck$Sections", "readRowOfFunctions", "()V"⟩, 6), (⟨"ModuleCheck$Bodies", "readBody", "(I)V"⟩, 7)]
theorem lw_r3 : ∀ q ∈ lw_privs_3, lw_okq q := List.forall_mem_cons.mpr ⟨lw_p32, List.forall_mem_cons.mpr ⟨lw_p33, List.forall_mem_cons.mpr ⟨lw_p34, List.forall_mem_cons.mpr ⟨lw_p35, List.forall_mem_cons.mpr ⟨lw_p36, List.forall_mem_cons.mpr ⟨lw_p37, List.forall_mem_cons.mpr ⟨lw_p38, List.forall_mem_cons.mpr ⟨lw_p39, List.forall_mem_cons.mpr ⟨lw_p40, List.forall_mem_cons.mpr ⟨lw_p41, List.forall_mem_cons.mpr ⟨lw_p42, List.forall_mem_cons.mpr ⟨lw_p43, List.forall_mem_cons.mpr ⟨lw_p44, List.forall_mem_cons.mpr ⟨lw_p45, List.forall_mem_cons.mpr ⟨lw_p46, List.forall_mem_cons.mpr ⟨lw_p47, fun _ h => absurd h List.not_mem_nil⟩⟩⟩⟩⟩⟩⟩⟩⟩⟩⟩⟩⟩⟩⟩⟩
theorem lw_p48 : lw_okq (⟨"ModuleCheck$Typing", "begin", "(I)V"⟩, 4) := ⟨⟨by decide +kernel, by decide +kernel⟩, List.mem_of_getElem? (i := 248) (by decide +kernel), List.mem_of_getElem? (i := 558) (by decide +kernel), List.mem_of_getElem? (i := 559) (by decide +kernel)⟩
theorem lw_p49 : lw_okq (⟨"ModuleCheck$Frames", "begin", "(I)V"⟩, 8) := ⟨⟨by decide +kernel, by decide +kernel⟩, List.mem_of_getElem? (i := 185) (by decide +kernel), List.mem_of_getElem? (i := 563) (by decide +kernel), List.mem_of_getElem? (i := 564) (by decide +kernel)⟩
theorem lw_p50 : lw_okq (⟨"ModuleCheck$Frames", "open", "(II)V"⟩, 8) := ⟨⟨by decide +kernel, by decide +kernel⟩, List.mem_of_getElem? (i := 185) (by decide +kernel), List.mem_of_getElem? (i := 567) (by decide +kernel), List.mem_of_getElem? (i := 568) (by decide +kernel)⟩
theorem lw_p51 : lw_okq (⟨"ModuleCheck$Facts", "parameter", "(II)I"⟩, 15) := ⟨⟨by decide +kernel, by decide +kernel⟩, List.mem_of_getElem? (i := 67) (by decide +kernel), List.mem_of_getElem? (i := 572) (by decide +kernel), List.mem_of_getElem? (i := 573) (by decide +kernel)⟩
theorem lw_p52 : lw_okq (⟨"ModuleCheck$Typing", "addLocals", "(II)V"⟩, 4) := ⟨⟨by decide +kernel, by decide +kernel⟩, List.mem_of_getElem? (i := 248) (by decide +kernel), List.mem_of_getElem? (i := 576) (by decide +kernel), List.mem_of_getElem? (i := 577) (by decide +kernel)⟩
theorem lw_p53 : lw_okq (⟨"ModuleCheck$Bodies", "readGroups", "()V"⟩, 7) := ⟨⟨by decide +kernel, by decide +kernel⟩, List.mem_of_getElem? (i := 179) (by decide +kernel), List.mem_of_getElem? (i := 580) (by decide +kernel), List.mem_of_getElem? (i := 581) (by decide +kernel)⟩
theorem lw_p54 : lw_okq (⟨"ModuleCheck$Answers", "beginBody", "(II)V"⟩, 8) := ⟨⟨by decide +kernel, by decide +kernel⟩, List.mem_of_getElem? (i := 138) (by decide +kernel), List.mem_of_getElem? (i := 590) (by decide +kernel), List.mem_of_getElem? (i := 591) (by decide +kernel)⟩
theorem lw_p55 : lw_okq (⟨"ModuleCheck$Bodies", "readInstruction", "()V"⟩, 7) := ⟨⟨by decide +kernel, by decide +kernel⟩, List.mem_of_getElem? (i := 179) (by decide +kernel), List.mem_of_getElem? (i := 594) (by decide +kernel), List.mem_of_getElem? (i := 595) (by decide +kernel)⟩
theorem lw_p56 : lw_okq (⟨"ModuleCheck$Instruction", "readNumber", "(LModuleCheck$Input;)V"⟩, 5) := ⟨⟨by decide +kernel, by decide +kernel⟩, List.mem_of_getElem? (i := 218) (by decide +kernel), List.mem_of_getElem? (i := 598) (by decide +kernel), List.mem_of_getElem? (i := 599) (by decide +kernel)⟩
theorem lw_p57 : lw_okq (⟨"ModuleCheck$Bodies", "lookWhereItStands", "()V"⟩, 7) := ⟨⟨by decide +kernel, by decide +kernel⟩, List.mem_of_getElem? (i := 179) (by decide +kernel), List.mem_of_getElem? (i := 612) (by decide +kernel), List.mem_of_getElem? (i := 613) (by decide +kernel)⟩
theorem lw_p58 : lw_okq (⟨"ModuleCheck$Frames", "openedBy", "()I"⟩, 8) := ⟨⟨by decide +kernel, by decide +kernel⟩, List.mem_of_getElem? (i := 185) (by decide +kernel), List.mem_of_getElem? (i := 616) (by decide +kernel), List.mem_of_getElem? (i := 617) (by decide +kernel)⟩
theorem lw_p59 : lw_okq (⟨"ModuleCheck$Instruction", "readLabels", "(LModuleCheck$Input;)V"⟩, 5) := ⟨⟨by decide +kernel, by decide +kernel⟩, List.mem_of_getElem? (i := 218) (by decide +kernel), List.mem_of_getElem? (i := 620) (by decide +kernel), List.mem_of_getElem? (i := 621) (by decide +kernel)⟩
theorem lw_p60 : lw_okq (⟨"ModuleCheck$Instruction", "readArguments", "(LModuleCheck$Input;)V"⟩, 5) := ⟨⟨by decide +kernel, by decide +kernel⟩, List.mem_of_getElem? (i := 218) (by decide +kernel), List.mem_of_getElem? (i := 625) (by decide +kernel), List.mem_of_getElem? (i := 626) (by decide +kernel)⟩
theorem lw_p61 : lw_okq (⟨"ModuleCheck$Input", "blockType", "()I"⟩, 6) := ⟨⟨by decide +kernel, by decide +kernel⟩, List.mem_of_getElem? (i := 31) (by decide +kernel), List.mem_of_getElem? (i := 629) (by decide +kernel), List.mem_of_getElem? (i := 630) (by decide +kernel)⟩
theorem lw_p62 : lw_okq (⟨"ModuleCheck$Answers", "addCode", "(I)V"⟩, 8) := ⟨⟨by decide +kernel, by decide +kernel⟩, List.mem_of_getElem? (i := 138) (by decide +kernel), List.mem_of_getElem? (i := 635) (by decide +kernel), List.mem_of_getElem? (i := 636) (by decide +kernel)⟩
theorem lw_p63 : lw_okq (⟨"ModuleCheck$Typing", "isRight", "(LModuleCheck$Instruction;)Z"⟩, 4) := ⟨⟨by decide +kernel, by decide +kernel⟩, List.mem_of_getElem? (i := 248) (by decide +kernel), List.mem_of_getElem? (i := 639) (by decide +kernel), List.mem_of_getElem? (i := 640) (by decide +kernel)⟩
def lw_privs_4 : List (MethodName × Nat) := [(⟨"ModuleCheck$Typing", "begin", "(I)V"⟩, 4), (⟨"ModuleCheck$Frames", "begin", "(I)V"⟩, 8), (⟨"ModuleCheck$Frames", "open", "(II)V"⟩, 8), (⟨"ModuleCheck$Facts", "parameter", "(II)I"⟩, 15), (⟨"ModuleCheck$Typing", "addLocals", "(II)V"⟩, 4), (⟨"ModuleCheck$Bodies", "readGroups", "()V"⟩, 7), (⟨"ModuleCheck$Answers", "beginBody", "(II)V"⟩, 8), (⟨"ModuleCheck$Bodies", "readInstruction", "()V"⟩, 7), (⟨"ModuleCheck$Instruction", "readNumber", "(LModuleCheck$Input;)V"⟩, 5), (⟨"ModuleCheck$Bodies", "lookWhereItStands", "()V"⟩, 7), (⟨"ModuleCheck$Frames", "openedBy", "()I"⟩, 8), (⟨"ModuleCheck$Instruction", "readLabels", "(LModuleCheck$Input;)V"⟩, 5), (⟨"ModuleCheck$Instruction", "readArguments", "(LModuleCheck$Input;)V"⟩, 5), (⟨"ModuleCheck$Input", "blockType", "()I"⟩, 6), (⟨"ModuleCheck$Answers", "addCode", "(I)V"⟩, 8), (⟨"ModuleCheck$Typing", "isRight", "(LModuleCheck$Instruction;)Z"⟩, 4)]
theorem lw_r4 : ∀ q ∈ lw_privs_4, lw_okq q := List.forall_mem_cons.mpr ⟨lw_p48, List.forall_mem_cons.mpr ⟨lw_p49, List.forall_mem_cons.mpr ⟨lw_p50, List.forall_mem_cons.mpr ⟨lw_p51, List.forall_mem_cons.mpr ⟨lw_p52, List.forall_mem_cons.mpr ⟨lw_p53, List.forall_mem_cons.mpr ⟨lw_p54, List.forall_mem_cons.mpr ⟨lw_p55, List.forall_mem_cons.mpr ⟨lw_p56, List.forall_mem_cons.mpr ⟨lw_p57, List.forall_mem_cons.mpr ⟨lw_p58, List.forall_mem_cons.mpr ⟨lw_p59, List.forall_mem_cons.mpr ⟨lw_p60, List.forall_mem_cons.mpr ⟨lw_p61, List.forall_mem_cons.mpr ⟨lw_p62, List.forall_mem_cons.mpr ⟨lw_p63, fun _ h => absurd h List.not_mem_nil⟩⟩⟩⟩⟩⟩⟩⟩⟩⟩⟩⟩⟩⟩⟩⟩
theorem lw_p64 : lw_okq (⟨"ModuleCheck$Typing", "followFrame", "(I)V"⟩, 4) := ⟨⟨by decide +kernel, by decide +kernel⟩, List.mem_of_getElem? (i := 248) (by decide +kernel), List.mem_of_getElem? (i := 643) (by decide +kernel), List.mem_of_getElem? (i := 644) (by decide +kernel)⟩
theorem lw_p65 : lw_okq (⟨"ModuleCheck$Frames", "forget", "()V"⟩, 8) := ⟨⟨by decide +kernel, by decide +kernel⟩, List.mem_of_getElem? (i := 185) (by decide +kernel), List.mem_of_getElem? (i := 647) (by decide +kernel), List.mem_of_getElem? (i := 648) (by decide +kernel)⟩
theorem lw_p66 : lw_okq (⟨"ModuleCheck$Frames", "take", "(I)I"⟩, 8) := ⟨⟨by decide +kernel, by decide +kernel⟩, List.mem_of_getElem? (i := 185) (by decide +kernel), List.mem_of_getElem? (i := 651) (by decide +kernel), List.mem_of_getElem? (i := 652) (by decide +kernel)⟩
theorem lw_p67 : lw_okq (⟨"ModuleCheck$Frames", "result", "()I"⟩, 8) := ⟨⟨by decide +kernel, by decide +kernel⟩, List.mem_of_getElem? (i := 185) (by decide +kernel), List.mem_of_getElem? (i := 656) (by decide +kernel), List.mem_of_getElem? (i := 657) (by decide +kernel)⟩
theorem lw_p68 : lw_okq (⟨"ModuleCheck$Frames", "demand", "(Z)V"⟩, 8) := ⟨⟨by decide +kernel, by decide +kernel⟩, List.mem_of_getElem? (i := 185) (by decide +kernel), List.mem_of_getElem? (i := 660) (by decide +kernel), List.mem_of_getElem? (i := 661) (by decide +kernel)⟩
theorem lw_p69 : lw_okq (⟨"ModuleCheck$Frames", "isEmpty", "()Z"⟩, 8) := ⟨⟨by decide +kernel, by decide +kernel⟩, List.mem_of_getElem? (i := 185) (by decide +kernel), List.mem_of_getElem? (i := 664) (by decide +kernel), List.mem_of_getElem? (i := 665) (by decide +kernel)⟩
theorem lw_p70 : lw_okq (⟨"ModuleCheck$Typing", "followTable", "(LModuleCheck$Instruction;)V"⟩, 4) := ⟨⟨by decide +kernel, by decide +kernel⟩, List.mem_of_getElem? (i := 248) (by decide +kernel), List.mem_of_getElem? (i := 668) (by decide +kernel), List.mem_of_getElem? (i := 669) (by decide +kernel)⟩
theorem lw_p71 : lw_okq (⟨"ModuleCheck$Frames", "labelType", "(J)I"⟩, 8) := ⟨⟨by decide +kernel, by decide +kernel⟩, List.mem_of_getElem? (i := 185) (by decide +kernel), List.mem_of_getElem? (i := 672) (by decide +kernel), List.mem_of_getElem? (i := 673) (by decide +kernel)⟩
theorem lw_p72 : lw_okq (⟨"ModuleCheck$Typing", "followLeap", "(IJ)V"⟩, 4) := ⟨⟨by decide +kernel, by decide +kernel⟩, List.mem_of_getElem? (i := 248) (by decide +kernel), List.mem_of_getElem? (i := 676) (by decide +kernel), List.mem_of_getElem? (i := 677) (by decide +kernel)⟩
theorem lw_p73 : lw_okq (⟨"ModuleCheck$Frames", "bodyResult", "()I"⟩, 8) := ⟨⟨by decide +kernel, by decide +kernel⟩, List.mem_of_getElem? (i := 185) (by decide +kernel), List.mem_of_getElem? (i := 680) (by decide +kernel), List.mem_of_getElem? (i := 681) (by decide +kernel)⟩
theorem lw_p74 : lw_okq (⟨"ModuleCheck$Frames", "leave", "(I)V"⟩, 8) := ⟨⟨by decide +kernel, by decide +kernel⟩, List.mem_of_getElem? (i := 185) (by decide +kernel), List.mem_of_getElem? (i := 684) (by decide +kernel), List.mem_of_getElem? (i := 685) (by decide +kernel)⟩
theorem lw_p75 : lw_okq (⟨"ModuleCheck$Typing", "followCall", "(IJ)V"⟩, 4) := ⟨⟨by decide +kernel, by decide +kernel⟩, List.mem_of_getElem? (i := 248) (by decide +kernel), List.mem_of_getElem? (i := 688) (by decide +kernel), List.mem_of_getElem? (i := 689) (by decide +kernel)⟩
theorem lw_p76 : lw_okq (⟨"ModuleCheck$Typing", "followChoice", "(I)V"⟩, 4) := ⟨⟨by decide +kernel, by decide +kernel⟩, List.mem_of_getElem? (i := 248) (by decide +kernel), List.mem_of_getElem? (i := 693) (by decide +kernel), List.mem_of_getElem? (i := 694) (by decide +kernel)⟩
theorem lw_p77 : lw_okq (⟨"ModuleCheck$Typing", "followLocal", "(IJ)V"⟩, 4) := ⟨⟨by decide +kernel, by decide +kernel⟩, List.mem_of_getElem? (i := 248) (by decide +kernel), List.mem_of_getElem? (i := 697) (by decide +kernel), List.mem_of_getElem? (i := 698) (by decide +kernel)⟩
theorem lw_p78 : lw_okq (⟨"ModuleCheck$Typing", "followGlobal", "(IJ)V"⟩, 4) := ⟨⟨by decide +kernel, by decide +kernel⟩, List.mem_of_getElem? (i := 248) (by decide +kernel), List.mem_of_getElem? (i := 701) (by decide +kernel), List.mem_of_getElem? (i := 702) (by decide +kernel)⟩
theorem lw_p79 : lw_okq (⟨"ModuleCheck$Typing", "followAccess", "(IJ)V"⟩, 4) := ⟨⟨by decide +kernel, by decide +kernel⟩, List.mem_of_getElem? (i := 248) (by decide +kernel), List.mem_of_getElem? (i := 707) (by decide +kernel), List.mem_of_getElem? (i := 708) (by decide +kernel)⟩
def lw_privs_5 : List (MethodName × Nat) := [(⟨"ModuleCheck$Typing", "followFrame", "(I)V"⟩, 4), (⟨"ModuleCheck$Frames", "forget", "()V"⟩, 8), (⟨"ModuleCheck$Frames", "take", "(I)I"⟩, 8), (⟨"ModuleCheck$Frames", "result", "()I"⟩, 8), (⟨"ModuleCheck$Frames", "demand", "(Z)V"⟩, 8), (⟨"ModuleCheck$Frames", "isEmpty", "()Z"⟩, 8), (⟨"ModuleCheck$Typing", "followTable", "(LModuleCheck$Instruction;)V"⟩, 4), (⟨"ModuleCheck$Frames", "labelType", "(J)I"⟩, 8), (⟨"ModuleCheck$Typing", "followLeap", "(IJ)V"⟩, 4), (⟨"ModuleCheck$Frames", "bodyResult", "()I"⟩, 8), (⟨"ModuleCheck$Frames", "leave", "(I)V"⟩, 8), (⟨"ModuleCheck$Typing", "followCall", "(IJ)V"⟩, 4), (⟨"ModuleCheck$Typing", "followChoice", "(I)V"⟩, 4), (⟨"ModuleCheck$Typing", "followLocal", "(IJ)V"⟩, 4), (⟨"ModuleCheck$Typing", "followGlobal", "(IJ)V"⟩, 4), (⟨"ModuleCheck$Typing", "followAccess", "(IJ)V"⟩, 4)]
theorem lw_r5 : ∀ q ∈ lw_privs_5, lw_okq q := List.forall_mem_cons.mpr ⟨lw_p64, List.forall_mem_cons.mpr ⟨lw_p65, List.forall_mem_cons.mpr ⟨lw_p66, List.forall_mem_cons.mpr ⟨lw_p67, List.forall_mem_cons.mpr ⟨lw_p68, List.forall_mem_cons.mpr ⟨lw_p69, List.forall_mem_cons.mpr ⟨lw_p70, List.forall_mem_cons.mpr ⟨lw_p71, List.forall_mem_cons.mpr ⟨lw_p72, List.forall_mem_cons.mpr ⟨lw_p73, List.forall_mem_cons.mpr ⟨lw_p74, List.forall_mem_cons.mpr ⟨lw_p75, List.forall_mem_cons.mpr ⟨lw_p76, List.forall_mem_cons.mpr ⟨lw_p77, List.forall_mem_cons.mpr ⟨lw_p78, List.forall_mem_cons.mpr ⟨lw_p79, fun _ h => absurd h List.not_mem_nil⟩⟩⟩⟩⟩⟩⟩⟩⟩⟩⟩⟩⟩⟩⟩⟩
theorem lw_p80 : lw_okq (⟨"ModuleCheck$Typing", "followSize", "(I)V"⟩, 4) := ⟨⟨by decide +kernel, by decide +kernel⟩, List.mem_of_getElem? (i := 248) (by decide +kernel), List.mem_of_getElem? (i := 713) (by decide +kernel), List.mem_of_getElem? (i := 714) (by decide +kernel)⟩
theorem lw_p81 : lw_okq (⟨"ModuleCheck$Typing", "followPlain", "(I)V"⟩, 4) := ⟨⟨by decide +kernel, by decide +kernel⟩, List.mem_of_getElem? (i := 248) (by decide +kernel), List.mem_of_getElem? (i := 717) (by decide +kernel), List.mem_of_getElem? (i := 718) (by decide +kernel)⟩
theorem lw_p82 : lw_okq (⟨"ModuleCheck$Typing", "followLonger", "(IJ)V"⟩, 4) := ⟨⟨by decide +kernel, by decide +kernel⟩, List.mem_of_getElem? (i := 248) (by decide +kernel), List.mem_of_getElem? (i := 730) (by decide +kernel), List.mem_of_getElem? (i := 731) (by decide +kernel)⟩
theorem lw_p83 : lw_okq (⟨"ModuleCheck$Bodies", "turnFrames", "()V"⟩, 7) := ⟨⟨by decide +kernel, by decide +kernel⟩, List.mem_of_getElem? (i := 179) (by decide +kernel), List.mem_of_getElem? (i := 735) (by decide +kernel), List.mem_of_getElem? (i := 736) (by decide +kernel)⟩
theorem lw_p84 : lw_okq (⟨"ModuleCheck$Frames", "turnToElse", "()V"⟩, 8) := ⟨⟨by decide +kernel, by decide +kernel⟩, List.mem_of_getElem? (i := 185) (by decide +kernel), List.mem_of_getElem? (i := 740) (by decide +kernel), List.mem_of_getElem? (i := 741) (by decide +kernel)⟩
theorem lw_p85 : lw_okq (⟨"ModuleCheck$Frames", "close", "()V"⟩, 8) := ⟨⟨by decide +kernel, by decide +kernel⟩, List.mem_of_getElem? (i := 185) (by decide +kernel), List.mem_of_getElem? (i := 744) (by decide +kernel), List.mem_of_getElem? (i := 745) (by decide +kernel)⟩
theorem lw_p86 : lw_okq (⟨"ModuleCheck$Answers", "endBody", "(I)V"⟩, 8) := ⟨⟨by decide +kernel, by decide +kernel⟩, List.mem_of_getElem? (i := 138) (by decide +kernel), List.mem_of_getElem? (i := 749) (by decide +kernel), List.mem_of_getElem? (i := 750) (by decide +kernel)⟩
theorem lw_p87 : lw_okq (⟨"ModuleCheck$Input", "leave", "(I)V"⟩, 6) := ⟨⟨by decide +kernel, by decide +kernel⟩, List.mem_of_getElem? (i := 31) (by decide +kernel), List.mem_of_getElem? (i := 753) (by decide +kernel), List.mem_of_getElem? (i := 754) (by decide +kernel)⟩
theorem lw_p88 : lw_okq (⟨"ModuleCheck$Sections", "readData", "()V"⟩, 6) := ⟨⟨by decide +kernel, by decide +kernel⟩, List.mem_of_getElem? (i := 173) (by decide +kernel), List.mem_of_getElem? (i := 757) (by decide +kernel), List.mem_of_getElem? (i := 758) (by decide +kernel)⟩
theorem lw_p89 : lw_okq (⟨"ModuleCheck$Input", "skipRest", "()V"⟩, 6) := ⟨⟨by decide +kernel, by decide +kernel⟩, List.mem_of_getElem? (i := 31) (by decide +kernel), List.mem_of_getElem? (i := 763) (by decide +kernel), List.mem_of_getElem? (i := 764) (by decide +kernel)⟩
theorem lw_p90 : lw_okq (⟨"ModuleCheck$Sections", "fit", "(I)V"⟩, 6) := ⟨⟨by decide +kernel, by decide +kernel⟩, List.mem_of_getElem? (i := 173) (by decide +kernel), List.mem_of_getElem? (i := 771) (by decide +kernel), List.mem_of_getElem? (i := 772) (by decide +kernel)⟩
theorem lw_p91 : lw_okq (⟨"ModuleCheck$Sections", "finish", "()V"⟩, 6) := ⟨⟨by decide +kernel, by decide +kernel⟩, List.mem_of_getElem? (i := 173) (by decide +kernel), List.mem_of_getElem? (i := 775) (by decide +kernel), List.mem_of_getElem? (i := 776) (by decide +kernel)⟩
theorem lw_p92 : lw_okq (⟨"ModuleCheck$Facts", "firstWrong", "()I"⟩, 15) := ⟨⟨by decide +kernel, by decide +kernel⟩, List.mem_of_getElem? (i := 67) (by decide +kernel), List.mem_of_getElem? (i := 779) (by decide +kernel), List.mem_of_getElem? (i := 780) (by decide +kernel)⟩
theorem lw_p93 : lw_okq (⟨"ModuleCheck$Answers", "fillCounts", "(LModuleCheck$Facts;)V"⟩, 8) := ⟨⟨by decide +kernel, by decide +kernel⟩, List.mem_of_getElem? (i := 138) (by decide +kernel), List.mem_of_getElem? (i := 783) (by decide +kernel), List.mem_of_getElem? (i := 784) (by decide +kernel)⟩
theorem lw_p94 : lw_okq (⟨"ModuleCheck$Answers", "copy", "(LModuleCheck$Answers;)V"⟩, 8) := ⟨⟨by decide +kernel, by decide +kernel⟩, List.mem_of_getElem? (i := 138) (by decide +kernel), List.mem_of_getElem? (i := 787) (by decide +kernel), List.mem_of_getElem? (i := 788) (by decide +kernel)⟩
theorem lw_p95 : lw_okq (⟨"ModuleCheck$Answers", "countOf", "(I)I"⟩, 8) := ⟨⟨by decide +kernel, by decide +kernel⟩, List.mem_of_getElem? (i := 138) (by decide +kernel), List.mem_of_getElem? (i := 806) (by decide +kernel), List.mem_of_getElem? (i := 807) (by decide +kernel)⟩
def lw_privs_6 : List (MethodName × Nat) := [(⟨"ModuleCheck$Typing", "followSize", "(I)V"⟩, 4), (⟨"ModuleCheck$Typing", "followPlain", "(I)V"⟩, 4), (⟨"ModuleCheck$Typing", "followLonger", "(IJ)V"⟩, 4), (⟨"ModuleCheck$Bodies", "turnFrames", "()V"⟩, 7), (⟨"ModuleCheck$Frames", "turnToElse", "()V"⟩, 8), (⟨"ModuleCheck$Frames", "close", "()V"⟩, 8), (⟨"ModuleCheck$Answers", "endBody", "(I)V"⟩, 8), (⟨"ModuleCheck$Input", "leave", "(I)V"⟩, 6), (⟨"ModuleCheck$Sections", "readData", "()V"⟩, 6), (⟨"ModuleCheck$Input", "skipRest", "()V"⟩, 6), (⟨"ModuleCheck$Sections", "fit", "(I)V"⟩, 6), (⟨"ModuleCheck$Sections", "finish", "()V"⟩, 6), (⟨"ModuleCheck$Facts", "firstWrong", "()I"⟩, 15), (⟨"ModuleCheck$Answers", "fillCounts", "(LModuleCheck$Facts;)V"⟩, 8), (⟨"ModuleCheck$Answers", "copy", "(LModuleCheck$Answers;)V"⟩, 8), (⟨"ModuleCheck$Answers", "countOf", "(I)I"⟩, 8)]
theorem lw_r6 : ∀ q ∈ lw_privs_6, lw_okq q := List.forall_mem_cons.mpr ⟨lw_p80, List.forall_mem_cons.mpr ⟨lw_p81, List.forall_mem_cons.mpr ⟨lw_p82, List.forall_mem_cons.mpr ⟨lw_p83, List.forall_mem_cons.mpr ⟨lw_p84, List.forall_mem_cons.mpr ⟨lw_p85, List.forall_mem_cons.mpr ⟨lw_p86, List.forall_mem_cons.mpr ⟨lw_p87, List.forall_mem_cons.mpr ⟨lw_p88, List.forall_mem_cons.mpr ⟨lw_p89, List.forall_mem_cons.mpr ⟨lw_p90, List.forall_mem_cons.mpr ⟨lw_p91, List.forall_mem_cons.mpr ⟨lw_p92, List.forall_mem_cons.mpr ⟨lw_p93, List.forall_mem_cons.mpr ⟨lw_p94, List.forall_mem_cons.mpr ⟨lw_p95, fun _ h => absurd h List.not_mem_nil⟩⟩⟩⟩⟩⟩⟩⟩⟩⟩⟩⟩⟩⟩⟩⟩
theorem lw_p96 : lw_okq (⟨"ModuleCheck$Answers", "has", "(I)Z"⟩, 8) := ⟨⟨by decide +kernel, by decide +kernel⟩, List.mem_of_getElem? (i := 138) (by decide +kernel), List.mem_of_getElem? (i := 814) (by decide +kernel), List.mem_of_getElem? (i := 815) (by decide +kernel)⟩
theorem lw_p97 : lw_okq (⟨"ModuleCheck$Answers", "codeAt", "(II)I"⟩, 8) := ⟨⟨by decide +kernel, by decide +kernel⟩, List.mem_of_getElem? (i := 138) (by decide +kernel), List.mem_of_getElem? (i := 822) (by decide +kernel), List.mem_of_getElem? (i := 823) (by decide +kernel)⟩
theorem lw_p98 : lw_okq (⟨"java/lang/Throwable", "fillInStackTrace", "(I)Ljava/lang/Throwable;"⟩, 6) := ⟨⟨by decide +kernel, by decide +kernel⟩, List.mem_of_getElem? (i := 1096) (by decide +kernel), List.mem_of_getElem? (i := 1094) (by decide +kernel), List.mem_of_getElem? (i := 1095) (by decide +kernel)⟩
theorem lw_p99 : lw_okq (⟨"ModuleCheckModel", "word", "(I)V"⟩, 32) := ⟨⟨by decide +kernel, by decide +kernel⟩, List.mem_of_getElem? (i := 831) (by decide +kernel), List.mem_of_getElem? (i := 1223) (by decide +kernel), List.mem_of_getElem? (i := 1224) (by decide +kernel)⟩
theorem lw_p100 : lw_okq (⟨"ModuleCheckModel", "read", "(LModuleCheckModel$Module;)V"⟩, 32) := ⟨⟨by decide +kernel, by decide +kernel⟩, List.mem_of_getElem? (i := 831) (by decide +kernel), List.mem_of_getElem? (i := 1235) (by decide +kernel), List.mem_of_getElem? (i := 1236) (by decide +kernel)⟩
theorem lw_p101 : lw_okq (⟨"ModuleCheckModel", "needOctet", "(I)V"⟩, 32) := ⟨⟨by decide +kernel, by decide +kernel⟩, List.mem_of_getElem? (i := 831) (by decide +kernel), List.mem_of_getElem? (i := 1242) (by decide +kernel), List.mem_of_getElem? (i := 1243) (by decide +kernel)⟩
theorem lw_p102 : lw_okq (⟨"ModuleCheckModel", "octet", "()I"⟩, 32) := ⟨⟨by decide +kernel, by decide +kernel⟩, List.mem_of_getElem? (i := 831) (by decide +kernel), List.mem_of_getElem? (i := 1246) (by decide +kernel), List.mem_of_getElem? (i := 1247) (by decide +kernel)⟩
theorem lw_p103 : lw_okq (⟨"ModuleCheckModel", "wrong", "(II)Ljava/lang/IllegalStateException;"⟩, 32) := ⟨⟨by decide +kernel, by decide +kernel⟩, List.mem_of_getElem? (i := 831) (by decide +kernel), List.mem_of_getElem? (i := 1250) (by decide +kernel), List.mem_of_getElem? (i := 1251) (by decide +kernel)⟩
theorem lw_p104 : lw_okq (⟨"ModuleCheckModel", "u", "()J"⟩, 32) := ⟨⟨by decide +kernel, by decide +kernel⟩, List.mem_of_getElem? (i := 831) (by decide +kernel), List.mem_of_getElem? (i := 1306) (by decide +kernel), List.mem_of_getElem? (i := 1307) (by decide +kernel)⟩
theorem lw_p105 : lw_okq (⟨"ModuleCheckModel", "nameItem", "(Z)V"⟩, 32) := ⟨⟨by decide +kernel, by decide +kernel⟩, List.mem_of_getElem? (i := 831) (by decide +kernel), List.mem_of_getElem? (i := 1310) (by decide +kernel), List.mem_of_getElem? (i := 1311) (by decide +kernel)⟩
theorem lw_p106 : lw_okq (⟨"ModuleCheckModel", "section", "(LModuleCheckModel$Module;I)V"⟩, 32) := ⟨⟨by decide +kernel, by decide +kernel⟩, List.mem_of_getElem? (i := 831) (by decide +kernel), List.mem_of_getElem? (i := 1316) (by decide +kernel), List.mem_of_getElem? (i := 1317) (by decide +kernel)⟩
theorem lw_p107 : lw_okq (⟨"ModuleCheckModel", "signature", "(LModuleCheckModel$Module;)V"⟩, 32) := ⟨⟨by decide +kernel, by decide +kernel⟩, List.mem_of_getElem? (i := 831) (by decide +kernel), List.mem_of_getElem? (i := 1322) (by decide +kernel), List.mem_of_getElem? (i := 1323) (by decide +kernel)⟩
theorem lw_p108 : lw_okq (⟨"ModuleCheckModel", "type", "()I"⟩, 32) := ⟨⟨by decide +kernel, by decide +kernel⟩, List.mem_of_getElem? (i := 831) (by decide +kernel), List.mem_of_getElem? (i := 1327) (by decide +kernel), List.mem_of_getElem? (i := 1328) (by decide +kernel)⟩
theorem lw_p109 : lw_okq (⟨"ModuleCheckModel", "importLine", "(LModuleCheckModel$Module;)V"⟩, 32) := ⟨⟨by decide +kernel, by decide +kernel⟩, List.mem_of_getElem? (i := 831) (by decide +kernel), List.mem_of_getElem? (i := 1331) (by decide +kernel), List.mem_of_getElem? (i := 1332) (by decide +kernel)⟩
theorem lw_p110 : lw_okq (⟨"ModuleCheckModel", "flag", "()Z"⟩, 32) := ⟨⟨by decide +kernel, by decide +kernel⟩, List.mem_of_getElem? (i := 831) (by decide +kernel), List.mem_of_getElem? (i := 1335) (by decide +kernel), List.mem_of_getElem? (i := 1336) (by decide +kernel)⟩
theorem lw_p111 : lw_okq (⟨"ModuleCheckModel", "limits", "()V"⟩, 32) := ⟨⟨by decide +kernel, by decide +kernel⟩, List.mem_of_getElem? (i := 831) (by decide +kernel), List.mem_of_getElem? (i := 1339) (by decide +kernel), List.mem_of_getElem? (i := 1340) (by decide +kernel)⟩
def lw_privs_7 : List (MethodName × Nat) := [(⟨"ModuleCheck$Answers", "has", "(I)Z"⟩, 8), (⟨"ModuleCheck$Answers", "codeAt", "(II)I"⟩, 8), (⟨"java/lang/Throwable", "fillInStackTrace", "(I)Ljava/lang/Throwable;"⟩, 6), (⟨"ModuleCheckModel", "word", "(I)V"⟩, 32), (⟨"ModuleCheckModel", "read", "(LModuleCheckModel$Module;)V"⟩, 32), (⟨"ModuleCheckModel", "needOctet", "(I)V"⟩, 32), (⟨"ModuleCheckModel", "octet", "()I"⟩, 32), (⟨"ModuleCheckModel", "wrong", "(II)Ljava/lang/IllegalStateException;"⟩, 32), (⟨"ModuleCheckModel", "u", "()J"⟩, 32), (⟨"ModuleCheckModel", "nameItem", "(Z)V"⟩, 32), (⟨"ModuleCheckModel", "section", "(LModuleCheckModel$Module;I)V"⟩, 32), (⟨"ModuleCheckModel", "signature", "(LModuleCheckModel$Module;)V"⟩, 32), (⟨"ModuleCheckModel", "type", "()I"⟩, 32), (⟨"ModuleCheckModel", "importLine", "(LModuleCheckModel$Module;)V"⟩, 32), (⟨"ModuleCheckModel", "flag", "()Z"⟩, 32), (⟨"ModuleCheckModel", "limits", "()V"⟩, 32)]
theorem lw_r7 : ∀ q ∈ lw_privs_7, lw_okq q := List.forall_mem_cons.mpr ⟨lw_p96, List.forall_mem_cons.mpr ⟨lw_p97, List.forall_mem_cons.mpr ⟨lw_p98, List.forall_mem_cons.mpr ⟨lw_p99, List.forall_mem_cons.mpr ⟨lw_p100, List.forall_mem_cons.mpr ⟨lw_p101, List.forall_mem_cons.mpr ⟨lw_p102, List.forall_mem_cons.mpr ⟨lw_p103, List.forall_mem_cons.mpr ⟨lw_p104, List.forall_mem_cons.mpr ⟨lw_p105, List.forall_mem_cons.mpr ⟨lw_p106, List.forall_mem_cons.mpr ⟨lw_p107, List.forall_mem_cons.mpr ⟨lw_p108, List.forall_mem_cons.mpr ⟨lw_p109, List.forall_mem_cons.mpr ⟨lw_p110, List.forall_mem_cons.mpr ⟨lw_p111, fun _ h => absurd h List.not_mem_nil⟩⟩⟩⟩⟩⟩⟩⟩⟩⟩⟩⟩⟩⟩⟩⟩
theorem lw_p112 : lw_okq (⟨"ModuleCheckModel", "ownLimits", "(LModuleCheckModel$Module;I)V"⟩, 32) := ⟨⟨by decide +kernel, by decide +kernel⟩, List.mem_of_getElem? (i := 831) (by decide +kernel), List.mem_of_getElem? (i := 1344) (by decide +kernel), List.mem_of_getElem? (i := 1345) (by decide +kernel)⟩
theorem lw_p113 : lw_okq (⟨"ModuleCheckModel", "globalLine", "(LModuleCheckModel$Module;)V"⟩, 32) := ⟨⟨by decide +kernel, by decide +kernel⟩, List.mem_of_getElem? (i := 831) (by decide +kernel), List.mem_of_getElem? (i := 1348) (by decide +kernel), List.mem_of_getElem? (i := 1349) (by decide +kernel)⟩
theorem lw_p114 : lw_okq (⟨"ModuleCheckModel", "constant", "()I"⟩, 32) := ⟨⟨by decide +kernel, by decide +kernel⟩, List.mem_of_getElem? (i := 831) (by decide +kernel), List.mem_of_getElem? (i := 1352) (by decide +kernel), List.mem_of_getElem? (i := 1353) (by decide +kernel)⟩
theorem lw_p115 : lw_okq (⟨"ModuleCheckModel", "s", "()I"⟩, 32) := ⟨⟨by decide +kernel, by decide +kernel⟩, List.mem_of_getElem? (i := 831) (by decide +kernel), List.mem_of_getElem? (i := 1356) (by decide +kernel), List.mem_of_getElem? (i := 1357) (by decide +kernel)⟩
theorem lw_p116 : lw_okq (⟨"ModuleCheckModel", "signed", "(III)J"⟩, 32) := ⟨⟨by decide +kernel, by decide +kernel⟩, List.mem_of_getElem? (i := 831) (by decide +kernel), List.mem_of_getElem? (i := 1360) (by decide +kernel), List.mem_of_getElem? (i := 1361) (by decide +kernel)⟩
theorem lw_p117 : lw_okq (⟨"ModuleCheckModel", "l", "()J"⟩, 32) := ⟨⟨by decide +kernel, by decide +kernel⟩, List.mem_of_getElem? (i := 831) (by decide +kernel), List.mem_of_getElem? (i := 1364) (by decide +kernel), List.mem_of_getElem? (i := 1365) (by decide +kernel)⟩
theorem lw_p118 : lw_okq (⟨"ModuleCheckModel", "exportLine", "(LModuleCheckModel$Module;)V"⟩, 32) := ⟨⟨by decide +kernel, by decide +kernel⟩, List.mem_of_getElem? (i := 831) (by decide +kernel), List.mem_of_getElem? (i := 1368) (by decide +kernel), List.mem_of_getElem? (i := 1369) (by decide +kernel)⟩
theorem lw_p119 : lw_okq (⟨"ModuleCheckModel", "elementLine", "(LModuleCheckModel$Module;)V"⟩, 32) := ⟨⟨by decide +kernel, by decide +kernel⟩, List.mem_of_getElem? (i := 831) (by decide +kernel), List.mem_of_getElem? (i := 1372) (by decide +kernel), List.mem_of_getElem? (i := 1373) (by decide +kernel)⟩
theorem lw_p120 : lw_okq (⟨"ModuleCheckModel", "body", "(LModuleCheckModel$Module;)V"⟩, 32) := ⟨⟨by decide +kernel, by decide +kernel⟩, List.mem_of_getElem? (i := 831) (by decide +kernel), List.mem_of_getElem? (i := 1377) (by decide +kernel), List.mem_of_getElem? (i := 1378) (by decide +kernel)⟩
theorem lw_p121 : lw_okq (⟨"ModuleCheckModel", "readCode", "()V"⟩, 32) := ⟨⟨by decide +kernel, by decide +kernel⟩, List.mem_of_getElem? (i := 831) (by decide +kernel), List.mem_of_getElem? (i := 1382) (by decide +kernel), List.mem_of_getElem? (i := 1383) (by decide +kernel)⟩
theorem lw_p122 : lw_okq (⟨"ModuleCheckModel", "operands", "(II)V"⟩, 32) := ⟨⟨by decide +kernel, by decide +kernel⟩, List.mem_of_getElem? (i := 831) (by decide +kernel), List.mem_of_getElem? (i := 1386) (by decide +kernel), List.mem_of_getElem? (i := 1387) (by decide +kernel)⟩
theorem lw_p123 : lw_okq (⟨"ModuleCheckModel", "blockType", "()I"⟩, 32) := ⟨⟨by decide +kernel, by decide +kernel⟩, List.mem_of_getElem? (i := 831) (by decide +kernel), List.mem_of_getElem? (i := 1399) (by decide +kernel), List.mem_of_getElem? (i := 1400) (by decide +kernel)⟩
theorem lw_p124 : lw_okq (⟨"ModuleCheckModel", "many", "(I)V"⟩, 32) := ⟨⟨by decide +kernel, by decide +kernel⟩, List.mem_of_getElem? (i := 831) (by decide +kernel), List.mem_of_getElem? (i := 1403) (by decide +kernel), List.mem_of_getElem? (i := 1404) (by decide +kernel)⟩
theorem lw_p125 : lw_okq (⟨"ModuleCheckModel", "dataLine", "(LModuleCheckModel$Module;)V"⟩, 32) := ⟨⟨by decide +kernel, by decide +kernel⟩, List.mem_of_getElem? (i := 831) (by decide +kernel), List.mem_of_getElem? (i := 1414) (by decide +kernel), List.mem_of_getElem? (i := 1415) (by decide +kernel)⟩
theorem lw_p126 : lw_okq (⟨"ModuleCheckModel", "means", "(LModuleCheckModel$Module;)V"⟩, 32) := ⟨⟨by decide +kernel, by decide +kernel⟩, List.mem_of_getElem? (i := 831) (by decide +kernel), List.mem_of_getElem? (i := 1418) (by decide +kernel), List.mem_of_getElem? (i := 1419) (by decide +kernel)⟩
theorem lw_p127 : lw_okq (⟨"ModuleCheckModel", "must", "(ZI)V"⟩, 32) := ⟨⟨by decide +kernel, by decide +kernel⟩, List.mem_of_getElem? (i := 831) (by decide +kernel), List.mem_of_getElem? (i := 1422) (by decide +kernel), List.mem_of_getElem? (i := 1423) (by decide +kernel)⟩
def lw_privs_8 : List (MethodName × Nat) := [(⟨"ModuleCheckModel", "ownLimits", "(LModuleCheckModel$Module;I)V"⟩, 32), (⟨"ModuleCheckModel", "globalLine", "(LModuleCheckModel$Module;)V"⟩, 32), (⟨"ModuleCheckModel", "constant", "()I"⟩, 32), (⟨"ModuleCheckModel", "s", "()I"⟩, 32), (⟨"ModuleCheckModel", "signed", "(III)J"⟩, 32), (⟨"ModuleCheckModel", "l", "()J"⟩, 32), (⟨"ModuleCheckModel", "exportLine", "(LModuleCheckModel$Module;)V"⟩, 32), (⟨"ModuleCheckModel", "elementLine", "(LModuleCheckModel$Module;)V"⟩, 32), (⟨"ModuleCheckModel", "body", "(LModuleCheckModel$Module;)V"⟩, 32), (⟨"ModuleCheckModel", "readCode", "()V"⟩, 32), (⟨"ModuleCheckModel", "operands", "(II)V"⟩, 32), (⟨"ModuleCheckModel", "blockType", "()I"⟩, 32), (⟨"ModuleCheckModel", "many", "(I)V"⟩, 32), (⟨"ModuleCheckModel", "dataLine", "(LModuleCheckModel$Module;)V"⟩, 32), (⟨"ModuleCheckModel", "means", "(LModuleCheckModel$Module;)V"⟩, 32), (⟨"ModuleCheckModel", "must", "(ZI)V"⟩, 32)]
theorem lw_r8 : ∀ q ∈ lw_privs_8, lw_okq q := List.forall_mem_cons.mpr ⟨lw_p112, List.forall_mem_cons.mpr ⟨lw_p113, List.forall_mem_cons.mpr ⟨lw_p114, List.forall_mem_cons.mpr ⟨lw_p115, List.forall_mem_cons.mpr ⟨lw_p116, List.forall_mem_cons.mpr ⟨lw_p117, List.forall_mem_cons.mpr ⟨lw_p118, List.forall_mem_cons.mpr ⟨lw_p119, List.forall_mem_cons.mpr ⟨lw_p120, List.forall_mem_cons.mpr ⟨lw_p121, List.forall_mem_cons.mpr ⟨lw_p122, List.forall_mem_cons.mpr ⟨lw_p123, List.forall_mem_cons.mpr ⟨lw_p124, List.forall_mem_cons.mpr ⟨lw_p125, List.forall_mem_cons.mpr ⟨lw_p126, List.forall_mem_cons.mpr ⟨lw_p127, fun _ h => absurd h List.not_mem_nil⟩⟩⟩⟩⟩⟩⟩⟩⟩⟩⟩⟩⟩⟩⟩⟩
theorem lw_p128 : lw_okq (⟨"ModuleCheckModel", "one", "(LModuleCheckModel$Module;II)V"⟩, 32) := ⟨⟨by decide +kernel, by decide +kernel⟩, List.mem_of_getElem? (i := 831) (by decide +kernel), List.mem_of_getElem? (i := 1430) (by decide +kernel), List.mem_of_getElem? (i := 1431) (by decide +kernel)⟩
theorem lw_p129 : lw_okq (⟨"ModuleCheckModel", "isConstant", "(LModuleCheckModel$Module;II)Z"⟩, 32) := ⟨⟨by decide +kernel, by decide +kernel⟩, List.mem_of_getElem? (i := 831) (by decide +kernel), List.mem_of_getElem? (i := 1437) (by decide +kernel), List.mem_of_getElem? (i := 1438) (by decide +kernel)⟩
theorem lw_p130 : lw_okq (⟨"ModuleCheckModel", "exported", "(LModuleCheckModel$Module;I)V"⟩, 32) := ⟨⟨by decide +kernel, by decide +kernel⟩, List.mem_of_getElem? (i := 831) (by decide +kernel), List.mem_of_getElem? (i := 1447) (by decide +kernel), List.mem_of_getElem? (i := 1448) (by decide +kernel)⟩
theorem lw_p131 : lw_okq (⟨"ModuleCheckModel", "isSame", "(IIII)Z"⟩, 32) := ⟨⟨by decide +kernel, by decide +kernel⟩, List.mem_of_getElem? (i := 831) (by decide +kernel), List.mem_of_getElem? (i := 1461) (by decide +kernel), List.mem_of_getElem? (i := 1462) (by decide +kernel)⟩
theorem lw_p132 : lw_okq (⟨"ModuleCheckModel", "checkBody", "(LModuleCheckModel$Module;I)V"⟩, 32) := ⟨⟨by decide +kernel, by decide +kernel⟩, List.mem_of_getElem? (i := 831) (by decide +kernel), List.mem_of_getElem? (i := 1474) (by decide +kernel), List.mem_of_getElem? (i := 1475) (by decide +kernel)⟩
theorem lw_p133 : lw_okq (⟨"ModuleCheckModel", "readLocals", "(II)V"⟩, 32) := ⟨⟨by decide +kernel, by decide +kernel⟩, List.mem_of_getElem? (i := 831) (by decide +kernel), List.mem_of_getElem? (i := 1478) (by decide +kernel), List.mem_of_getElem? (i := 1479) (by decide +kernel)⟩
theorem lw_p134 : lw_okq (⟨"ModuleCheckModel", "openFrame", "(III)V"⟩, 32) := ⟨⟨by decide +kernel, by decide +kernel⟩, List.mem_of_getElem? (i := 831) (by decide +kernel), List.mem_of_getElem? (i := 1485) (by decide +kernel), List.mem_of_getElem? (i := 1486) (by decide +kernel)⟩
theorem lw_p135 : lw_okq (⟨"ModuleCheckModel", "checkMany", "(LModuleCheckModel$Module;)V"⟩, 32) := ⟨⟨by decide +kernel, by decide +kernel⟩, List.mem_of_getElem? (i := 831) (by decide +kernel), List.mem_of_getElem? (i := 1489) (by decide +kernel), List.mem_of_getElem? (i := 1490) (by decide +kernel)⟩
theorem lw_p136 : lw_okq (⟨"ModuleCheckModel", "need", "(Z)V"⟩, 32) := ⟨⟨by decide +kernel, by decide +kernel⟩, List.mem_of_getElem? (i := 831) (by decide +kernel), List.mem_of_getElem? (i := 1493) (by decide +kernel), List.mem_of_getElem? (i := 1494) (by decide +kernel)⟩
theorem lw_p137 : lw_okq (⟨"ModuleCheckModel", "turns", "(III)V"⟩, 32) := ⟨⟨by decide +kernel, by decide +kernel⟩, List.mem_of_getElem? (i := 831) (by decide +kernel), List.mem_of_getElem? (i := 1497) (by decide +kernel), List.mem_of_getElem? (i := 1498) (by decide +kernel)⟩
theorem lw_p138 : lw_okq (⟨"ModuleCheckModel", "takes", "(I)I"⟩, 32) := ⟨⟨by decide +kernel, by decide +kernel⟩, List.mem_of_getElem? (i := 831) (by decide +kernel), List.mem_of_getElem? (i := 1501) (by decide +kernel), List.mem_of_getElem? (i := 1502) (by decide +kernel)⟩
theorem lw_p139 : lw_okq (⟨"ModuleCheckModel", "gives", "(I)V"⟩, 32) := ⟨⟨by decide +kernel, by decide +kernel⟩, List.mem_of_getElem? (i := 831) (by decide +kernel), List.mem_of_getElem? (i := 1505) (by decide +kernel), List.mem_of_getElem? (i := 1506) (by decide +kernel)⟩
theorem lw_p140 : lw_okq (⟨"ModuleCheckModel", "checkOne", "(LModuleCheckModel$Module;II)V"⟩, 32) := ⟨⟨by decide +kernel, by decide +kernel⟩, List.mem_of_getElem? (i := 831) (by decide +kernel), List.mem_of_getElem? (i := 1509) (by decide +kernel), List.mem_of_getElem? (i := 1510) (by decide +kernel)⟩
theorem lw_p141 : lw_okq (⟨"ModuleCheckModel", "rest", "()V"⟩, 32) := ⟨⟨by decide +kernel, by decide +kernel⟩, List.mem_of_getElem? (i := 831) (by decide +kernel), List.mem_of_getElem? (i := 1513) (by decide +kernel), List.mem_of_getElem? (i := 1514) (by decide +kernel)⟩
theorem lw_p142 : lw_okq (⟨"ModuleCheckModel", "closes", "()V"⟩, 32) := ⟨⟨by decide +kernel, by decide +kernel⟩, List.mem_of_getElem? (i := 831) (by decide +kernel), List.mem_of_getElem? (i := 1517) (by decide +kernel), List.mem_of_getElem? (i := 1518) (by decide +kernel)⟩
theorem lw_p143 : lw_okq (⟨"ModuleCheckModel", "label", "(J)I"⟩, 32) := ⟨⟨by decide +kernel, by decide +kernel⟩, List.mem_of_getElem? (i := 831) (by decide +kernel), List.mem_of_getElem? (i := 1521) (by decide +kernel), List.mem_of_getElem? (i := 1522) (by decide +kernel)⟩
def lw_privs_9 : List (MethodName × Nat) := [(⟨"ModuleCheckModel", "one", "(LModuleCheckModel$Module;II)V"⟩, 32), (⟨"ModuleCheckModel", "isConstant", "(LModuleCheckModel$Module;II)Z"⟩, 32), (⟨"ModuleCheckModel", "exported", "(LModuleCheckModel$Module;I)V"⟩, 32), (⟨"ModuleCheckModel", "isSame", "(IIII)Z"⟩, 32), (⟨"ModuleCheckModel", "checkBody", "(LModuleCheckModel$Module;I)V"⟩, 32), (⟨"ModuleCheckModel", "readLocals", "(II)V"⟩, 32), (⟨"ModuleCheckModel", "openFrame", "(III)V"⟩, 32), (⟨"ModuleCheckModel", "checkMany", "(LModuleCheckModel$Module;)V"⟩, 32), (⟨"ModuleCheckModel", "need", "(Z)V"⟩, 32), (⟨"ModuleCheckModel", "turns", "(III)V"⟩, 32), (⟨"ModuleCheckModel", "takes", "(I)I"⟩, 32), (⟨"ModuleCheckModel", "gives", "(I)V"⟩, 32), (⟨"ModuleCheckModel", "checkOne", "(LModuleCheckModel$Module;II)V"⟩, 32), (⟨"ModuleCheckModel", "rest", "()V"⟩, 32), (⟨"ModuleCheckModel", "closes", "()V"⟩, 32), (⟨"ModuleCheckModel", "label", "(J)I"⟩, 32)]
theorem lw_r9 : ∀ q ∈ lw_privs_9, lw_okq q := List.forall_mem_cons.mpr ⟨lw_p128, List.forall_mem_cons.mpr ⟨lw_p129, List.forall_mem_cons.mpr ⟨lw_p130, List.forall_mem_cons.mpr ⟨lw_p131, List.forall_mem_cons.mpr ⟨lw_p132, List.forall_mem_cons.mpr ⟨lw_p133, List.forall_mem_cons.mpr ⟨lw_p134, List.forall_mem_cons.mpr ⟨lw_p135, List.forall_mem_cons.mpr ⟨lw_p136, List.forall_mem_cons.mpr ⟨lw_p137, List.forall_mem_cons.mpr ⟨lw_p138, List.forall_mem_cons.mpr ⟨lw_p139, List.forall_mem_cons.mpr ⟨lw_p140, List.forall_mem_cons.mpr ⟨lw_p141, List.forall_mem_cons.mpr ⟨lw_p142, List.forall_mem_cons.mpr ⟨lw_p143, fun _ h => absurd h List.not_mem_nil⟩⟩⟩⟩⟩⟩⟩⟩⟩⟩⟩⟩⟩⟩⟩⟩
theorem lw_p144 : lw_okq (⟨"ModuleCheckModel", "labelRow", "()V"⟩, 32) := ⟨⟨by decide +kernel, by decide +kernel⟩, List.mem_of_getElem? (i := 831) (by decide +kernel), List.mem_of_getElem? (i := 1525) (by decide +kernel), List.mem_of_getElem? (i := 1526) (by decide +kernel)⟩
theorem lw_p145 : lw_okq (⟨"ModuleCheckModel", "calls", "(I)V"⟩, 32) := ⟨⟨by decide +kernel, by decide +kernel⟩, List.mem_of_getElem? (i := 831) (by decide +kernel), List.mem_of_getElem? (i := 1529) (by decide +kernel), List.mem_of_getElem? (i := 1530) (by decide +kernel)⟩
theorem lw_p146 : lw_okq (⟨"ModuleCheckModel", "access", "(LModuleCheckModel$Module;I)V"⟩, 32) := ⟨⟨by decide +kernel, by decide +kernel⟩, List.mem_of_getElem? (i := 831) (by decide +kernel), List.mem_of_getElem? (i := 1533) (by decide +kernel), List.mem_of_getElem? (i := 1534) (by decide +kernel)⟩
theorem lw_p147 : lw_okq (⟨"ModuleCheckModel", "numbers", "(I)V"⟩, 32) := ⟨⟨by decide +kernel, by decide +kernel⟩, List.mem_of_getElem? (i := 831) (by decide +kernel), List.mem_of_getElem? (i := 1543) (by decide +kernel), List.mem_of_getElem? (i := 1544) (by decide +kernel)⟩
theorem lw_p148 : lw_okq (⟨"ModuleCheckModel", "isOwn", "(I)Z"⟩, 32) := ⟨⟨by decide +kernel, by decide +kernel⟩, List.mem_of_getElem? (i := 831) (by decide +kernel), List.mem_of_getElem? (i := 1559) (by decide +kernel), List.mem_of_getElem? (i := 1560) (by decide +kernel)⟩
theorem lw_p149 : lw_okq (⟨"ModuleCheckModel", "walked", "(II)I"⟩, 32) := ⟨⟨by decide +kernel, by decide +kernel⟩, List.mem_of_getElem? (i := 831) (by decide +kernel), List.mem_of_getElem? (i := 1563) (by decide +kernel), List.mem_of_getElem? (i := 1564) (by decide +kernel)⟩
def lw_privs_10 : List (MethodName × Nat) := [(⟨"ModuleCheckModel", "labelRow", "()V"⟩, 32), (⟨"ModuleCheckModel", "calls", "(I)V"⟩, 32), (⟨"ModuleCheckModel", "access", "(LModuleCheckModel$Module;I)V"⟩, 32), (⟨"ModuleCheckModel", "numbers", "(I)V"⟩, 32), (⟨"ModuleCheckModel", "isOwn", "(I)Z"⟩, 32), (⟨"ModuleCheckModel", "walked", "(II)I"⟩, 32)]
theorem lw_r10 : ∀ q ∈ lw_privs_10, lw_okq q := List.forall_mem_cons.mpr ⟨lw_p144, List.forall_mem_cons.mpr ⟨lw_p145, List.forall_mem_cons.mpr ⟨lw_p146, List.forall_mem_cons.mpr ⟨lw_p147, List.forall_mem_cons.mpr ⟨lw_p148, List.forall_mem_cons.mpr ⟨lw_p149, fun _ h => absurd h List.not_mem_nil⟩⟩⟩⟩⟩⟩
def lw_privs : List (MethodName × Nat) := lw_privs_1 ++ (lw_privs_2 ++ (lw_privs_3 ++ (lw_privs_4 ++ (lw_privs_5 ++ (lw_privs_6 ++ (lw_privs_7 ++ (lw_privs_8 ++ (lw_privs_9 ++ (lw_privs_10)))))))))
def lw_tbl : List Cond := k2_sels lw_privs ++ tables_1
theorem lw_privs_ok : ∀ q ∈ lw_privs, lw_okq q := by
  show ∀ q ∈ lw_privs_1 ++ (lw_privs_2 ++ (lw_privs_3 ++ (lw_privs_4 ++ (lw_privs_5 ++ (lw_privs_6 ++ (lw_privs_7 ++ (lw_privs_8 ++ (lw_privs_9 ++ (lw_privs_10))))))))), lw_okq q
  exact List.forall_mem_append.mpr ⟨lw_r1, List.forall_mem_append.mpr ⟨lw_r2, List.forall_mem_append.mpr ⟨lw_r3, List.forall_mem_append.mpr ⟨lw_r4, List.forall_mem_append.mpr ⟨lw_r5, List.forall_mem_append.mpr ⟨lw_r6, List.forall_mem_append.mpr ⟨lw_r7, List.forall_mem_append.mpr ⟨lw_r8, List.forall_mem_append.mpr ⟨lw_r9, lw_r10⟩⟩⟩⟩⟩⟩⟩⟩⟩
def RX0 : String := "ModuleCheck$Answers"
def TX0 : u_T := fun k => match k with
  | 0 => ("ModuleCheck$Answers", "counts", "[I", true)
  | 1 => ("ModuleCheck$Answers", "firstCodes", "[I", true)
  | 2 => ("ModuleCheck$Answers", "codeCounts", "[I", true)
  | 3 => ("ModuleCheck$Answers", "localCounts", "[I", true)
  | 4 => ("ModuleCheck$Answers", "codes", "[S", true)
  | 5 => ("ModuleCheck$Answers", "codesUsed", "I", false)
  | 6 => ("ModuleCheck$Answers", "functions", "I", false)
  | _ => ("ModuleCheck$Answers", "isFilled", "Z", false)
def tyX0 : Nat → FieldType := fun k => match k with
  | 0 => .array .int
  | 1 => .array .int
  | 2 => .array .int
  | 3 => .array .int
  | 4 => .array .short
  | 5 => .int
  | 6 => .int
  | _ => .boolean
abbrev wsX00 : List Cond := u_ws RX0 TX0 8
theorem nmX0 : ∀ a, a < 8 → ∀ b, b < 8 → a ≠ b → (TX0 a).2.1 ≠ (TX0 b).2.1 := by decide +kernel
theorem tyX0_ok : ∀ k, k < 8 → parseFieldDescriptor (TX0 k).2.2.1 = some (tyX0 k) := by decide +kernel
abbrev cX0_init : ByteArray := prog_2_method_1_code
def yX0_init : MethodName := ⟨RX0, "<init>", "()V"⟩
abbrev cX0_beginBody : ByteArray := prog_2_method_2_code
def yX0_beginBody : MethodName := ⟨RX0, "beginBody", "(II)V"⟩
abbrev cX0_addCode : ByteArray := prog_2_method_3_code
def yX0_addCode : MethodName := ⟨RX0, "addCode", "(I)V"⟩
abbrev cX0_endBody : ByteArray := prog_2_method_4_code
def yX0_endBody : MethodName := ⟨RX0, "endBody", "(I)V"⟩
abbrev cX0_fillCounts : ByteArray := prog_2_method_5_code
def yX0_fillCounts : MethodName := ⟨RX0, "fillCounts", "(LModuleCheck$Facts;)V"⟩
abbrev cX0_copy : ByteArray := prog_2_method_6_code
def yX0_copy : MethodName := ⟨RX0, "copy", "(LModuleCheck$Answers;)V"⟩
abbrev cX0_countOf : ByteArray := prog_2_method_7_code
def yX0_countOf : MethodName := ⟨RX0, "countOf", "(I)I"⟩
abbrev cX0_has : ByteArray := prog_2_method_8_code
def yX0_has : MethodName := ⟨RX0, "has", "(I)Z"⟩
abbrev cX0_codeAt : ByteArray := prog_2_method_9_code
def yX0_codeAt : MethodName := ⟨RX0, "codeAt", "(II)I"⟩
def RX1 : String := "ModuleCheck$Bodies"
def TX1 : u_T := fun k => match k with
  | 0 => ("ModuleCheck$Bodies", "in", "LModuleCheck$Input;", true)
  | 1 => ("ModuleCheck$Bodies", "facts", "LModuleCheck$Facts;", true)
  | 2 => ("ModuleCheck$Bodies", "frames", "LModuleCheck$Frames;", true)
  | 3 => ("ModuleCheck$Bodies", "next", "LModuleCheck$Instruction;", true)
  | 4 => ("ModuleCheck$Bodies", "typing", "LModuleCheck$Typing;", true)
  | 5 => ("ModuleCheck$Bodies", "answers", "LModuleCheck$Answers;", true)
  | _ => ("ModuleCheck$Bodies", "followed", "Z", false)
def tyX1 : Nat → FieldType := fun k => match k with
  | 0 => .object "ModuleCheck$Input"
  | 1 => .object "ModuleCheck$Facts"
  | 2 => .object "ModuleCheck$Frames"
  | 3 => .object "ModuleCheck$Instruction"
  | 4 => .object "ModuleCheck$Typing"
  | 5 => .object "ModuleCheck$Answers"
  | _ => .boolean
abbrev wsX10 : List Cond := u_ws RX1 TX1 7
theorem nmX1 : ∀ a, a < 7 → ∀ b, b < 7 → a ≠ b → (TX1 a).2.1 ≠ (TX1 b).2.1 := by decide +kernel
theorem tyX1_ok : ∀ k, k < 7 → parseFieldDescriptor (TX1 k).2.2.1 = some (tyX1 k) := by decide +kernel
abbrev cX1_init : ByteArray := prog_3_method_1_code
def yX1_init : MethodName := ⟨RX1, "<init>", "(LModuleCheck$Input;LModuleCheck$Facts;LModuleCheck$Answers;)V"⟩
abbrev cX1_begin : ByteArray := prog_3_method_2_code
def yX1_begin : MethodName := ⟨RX1, "begin", "()V"⟩
abbrev cX1_readBody : ByteArray := prog_3_method_3_code
def yX1_readBody : MethodName := ⟨RX1, "readBody", "(I)V"⟩
abbrev cX1_readGroups : ByteArray := prog_3_method_4_code
def yX1_readGroups : MethodName := ⟨RX1, "readGroups", "()V"⟩
abbrev cX1_readInstruction : ByteArray := prog_3_method_5_code
def yX1_readInstruction : MethodName := ⟨RX1, "readInstruction", "()V"⟩
abbrev cX1_lookWhereItStands : ByteArray := prog_3_method_6_code
def yX1_lookWhereItStands : MethodName := ⟨RX1, "lookWhereItStands", "()V"⟩
abbrev cX1_turnFrames : ByteArray := prog_3_method_7_code
def yX1_turnFrames : MethodName := ⟨RX1, "turnFrames", "()V"⟩
def RX2 : String := "ModuleCheck$Facts"
def TX2 : u_T := fun k => match k with
  | 0 => ("ModuleCheck$Facts", "parameterCounts", "[I", true)
  | 1 => ("ModuleCheck$Facts", "parameters", "[I", true)
  | 2 => ("ModuleCheck$Facts", "results", "[I", true)
  | 3 => ("ModuleCheck$Facts", "functionSignatures", "[I", true)
  | 4 => ("ModuleCheck$Facts", "globalTypes", "[I", true)
  | 5 => ("ModuleCheck$Facts", "globalChanges", "[Z", true)
  | 6 => ("ModuleCheck$Facts", "wrongAt", "[I", true)
  | 7 => ("ModuleCheck$Facts", "items", "[I", true)
  | 8 => ("ModuleCheck$Facts", "functions", "I", false)
  | 9 => ("ModuleCheck$Facts", "importedFunctions", "I", false)
  | 10 => ("ModuleCheck$Facts", "tables", "I", false)
  | 11 => ("ModuleCheck$Facts", "memories", "I", false)
  | 12 => ("ModuleCheck$Facts", "globals", "I", false)
  | 13 => ("ModuleCheck$Facts", "importedGlobals", "I", false)
  | _ => ("ModuleCheck$Facts", "toldData", "J", false)
def tyX2 : Nat → FieldType := fun k => match k with
  | 0 => .array .int
  | 1 => .array .int
  | 2 => .array .int
  | 3 => .array .int
  | 4 => .array .int
  | 5 => .array .boolean
  | 6 => .array .int
  | 7 => .array .int
  | 8 => .int
  | 9 => .int
  | 10 => .int
  | 11 => .int
  | 12 => .int
  | 13 => .int
  | _ => .long
abbrev wsX20 : List Cond := u_ws RX2 TX2 15
theorem nmX2 : ∀ a, a < 15 → ∀ b, b < 15 → a ≠ b → (TX2 a).2.1 ≠ (TX2 b).2.1 := by decide +kernel
theorem tyX2_ok : ∀ k, k < 15 → parseFieldDescriptor (TX2 k).2.2.1 = some (tyX2 k) := by decide +kernel
abbrev cX2_init : ByteArray := prog_4_method_1_code
def yX2_init : MethodName := ⟨RX2, "<init>", "()V"⟩
abbrev cX2_clear : ByteArray := prog_4_method_2_code
def yX2_clear : MethodName := ⟨RX2, "clear", "()V"⟩
abbrev cX2_noteWrong : ByteArray := prog_4_method_3_code
def yX2_noteWrong : MethodName := ⟨RX2, "noteWrong", "(II)V"⟩
abbrev cX2_firstWrong : ByteArray := prog_4_method_4_code
def yX2_firstWrong : MethodName := ⟨RX2, "firstWrong", "()I"⟩
abbrev cX2_addParameter : ByteArray := prog_4_method_5_code
def yX2_addParameter : MethodName := ⟨RX2, "addParameter", "(II)V"⟩
abbrev cX2_addFunction : ByteArray := prog_4_method_6_code
def yX2_addFunction : MethodName := ⟨RX2, "addFunction", "(J)V"⟩
abbrev cX2_addGlobal : ByteArray := prog_4_method_7_code
def yX2_addGlobal : MethodName := ⟨RX2, "addGlobal", "(IZ)V"⟩
abbrev cX2_signatureOf : ByteArray := prog_4_method_8_code
def yX2_signatureOf : MethodName := ⟨RX2, "signatureOf", "(J)I"⟩
abbrev cX2_parameterCount : ByteArray := prog_4_method_9_code
def yX2_parameterCount : MethodName := ⟨RX2, "parameterCount", "(I)I"⟩
abbrev cX2_parameter : ByteArray := prog_4_method_10_code
def yX2_parameter : MethodName := ⟨RX2, "parameter", "(II)I"⟩
abbrev cX2_resultOf : ByteArray := prog_4_method_11_code
def yX2_resultOf : MethodName := ⟨RX2, "resultOf", "(I)I"⟩
abbrev cX2_countOfKind : ByteArray := prog_4_method_12_code
def yX2_countOfKind : MethodName := ⟨RX2, "countOfKind", "(I)I"⟩
abbrev cX2_isUnchangedImport : ByteArray := prog_4_method_13_code
def yX2_isUnchangedImport : MethodName := ⟨RX2, "isUnchangedImport", "(J)Z"⟩
abbrev cX2_changesGlobal : ByteArray := prog_4_method_14_code
def yX2_changesGlobal : MethodName := ⟨RX2, "changesGlobal", "(I)Z"⟩
abbrev cX2_typeOfGlobal : ByteArray := prog_4_method_15_code
def yX2_typeOfGlobal : MethodName := ⟨RX2, "typeOfGlobal", "(I)I"⟩
def RX3 : String := "ModuleCheck$Frames"
def TX3 : u_T := fun k => match k with
  | 0 => ("ModuleCheck$Frames", "openers", "[I", true)
  | 1 => ("ModuleCheck$Frames", "results", "[I", true)
  | 2 => ("ModuleCheck$Frames", "bases", "[I", true)
  | 3 => ("ModuleCheck$Frames", "unknown", "[Z", true)
  | 4 => ("ModuleCheck$Frames", "types", "[B", true)
  | 5 => ("ModuleCheck$Frames", "depth", "I", false)
  | 6 => ("ModuleCheck$Frames", "height", "I", false)
  | _ => ("ModuleCheck$Frames", "right", "Z", false)
def tyX3 : Nat → FieldType := fun k => match k with
  | 0 => .array .int
  | 1 => .array .int
  | 2 => .array .int
  | 3 => .array .boolean
  | 4 => .array .byte
  | 5 => .int
  | 6 => .int
  | _ => .boolean
abbrev wsX30 : List Cond := u_ws RX3 TX3 8
theorem nmX3 : ∀ a, a < 8 → ∀ b, b < 8 → a ≠ b → (TX3 a).2.1 ≠ (TX3 b).2.1 := by decide +kernel
theorem tyX3_ok : ∀ k, k < 8 → parseFieldDescriptor (TX3 k).2.2.1 = some (tyX3 k) := by decide +kernel
abbrev cX3_init : ByteArray := prog_5_method_1_code
def yX3_init : MethodName := ⟨RX3, "<init>", "()V"⟩
abbrev cX3_begin : ByteArray := prog_5_method_2_code
def yX3_begin : MethodName := ⟨RX3, "begin", "(I)V"⟩
abbrev cX3_open : ByteArray := prog_5_method_3_code
def yX3_open : MethodName := ⟨RX3, "open", "(II)V"⟩
abbrev cX3_turnToElse : ByteArray := prog_5_method_4_code
def yX3_turnToElse : MethodName := ⟨RX3, "turnToElse", "()V"⟩
abbrev cX3_close : ByteArray := prog_5_method_5_code
def yX3_close : MethodName := ⟨RX3, "close", "()V"⟩
abbrev cX3_openedBy : ByteArray := prog_5_method_6_code
def yX3_openedBy : MethodName := ⟨RX3, "openedBy", "()I"⟩
abbrev cX3_result : ByteArray := prog_5_method_7_code
def yX3_result : MethodName := ⟨RX3, "result", "()I"⟩
abbrev cX3_bodyResult : ByteArray := prog_5_method_8_code
def yX3_bodyResult : MethodName := ⟨RX3, "bodyResult", "()I"⟩
abbrev cX3_isEmpty : ByteArray := prog_5_method_9_code
def yX3_isEmpty : MethodName := ⟨RX3, "isEmpty", "()Z"⟩
abbrev cX3_labelType : ByteArray := prog_5_method_10_code
def yX3_labelType : MethodName := ⟨RX3, "labelType", "(J)I"⟩
abbrev cX3_demand : ByteArray := prog_5_method_11_code
def yX3_demand : MethodName := ⟨RX3, "demand", "(Z)V"⟩
abbrev cX3_forget : ByteArray := prog_5_method_12_code
def yX3_forget : MethodName := ⟨RX3, "forget", "()V"⟩
abbrev cX3_leave : ByteArray := prog_5_method_13_code
def yX3_leave : MethodName := ⟨RX3, "leave", "(I)V"⟩
abbrev cX3_take : ByteArray := prog_5_method_14_code
def yX3_take : MethodName := ⟨RX3, "take", "(I)I"⟩
def RX4 : String := "ModuleCheck$Input"
def TX4 : u_T := fun k => match k with
  | 0 => ("ModuleCheck$Input", "bytes", "[B", true)
  | 1 => ("ModuleCheck$Input", "size", "I", false)
  | 2 => ("ModuleCheck$Input", "at", "I", false)
  | 3 => ("ModuleCheck$Input", "end", "I", false)
  | 4 => ("ModuleCheck$Input", "fault", "I", false)
  | _ => ("ModuleCheck$Input", "faultAt", "I", false)
def tyX4 : Nat → FieldType := fun k => match k with
  | 0 => .array .byte
  | 1 => .int
  | 2 => .int
  | 3 => .int
  | 4 => .int
  | _ => .int
abbrev wsX40 : List Cond := u_ws RX4 TX4 6
theorem nmX4 : ∀ a, a < 6 → ∀ b, b < 6 → a ≠ b → (TX4 a).2.1 ≠ (TX4 b).2.1 := by decide +kernel
theorem tyX4_ok : ∀ k, k < 6 → parseFieldDescriptor (TX4 k).2.2.1 = some (tyX4 k) := by decide +kernel
abbrev cX4_init : ByteArray := prog_6_method_1_code
def yX4_init : MethodName := ⟨RX4, "<init>", "()V"⟩
abbrev cX4_add : ByteArray := prog_6_method_2_code
def yX4_add : MethodName := ⟨RX4, "add", "(I)V"⟩
abbrev cX4_restart : ByteArray := prog_6_method_3_code
def yX4_restart : MethodName := ⟨RX4, "restart", "()V"⟩
abbrev cX4_fail : ByteArray := prog_6_method_4_code
def yX4_fail : MethodName := ⟨RX4, "fail", "(II)V"⟩
abbrev cX4_octet : ByteArray := prog_6_method_5_code
def yX4_octet : MethodName := ⟨RX4, "octet", "()I"⟩
abbrev cX4_octetWithin : ByteArray := prog_6_method_6_code
def yX4_octetWithin : MethodName := ⟨RX4, "octetWithin", "(II)I"⟩
abbrev cX4_type : ByteArray := prog_6_method_7_code
def yX4_type : MethodName := ⟨RX4, "type", "()I"⟩
abbrev cX4_blockType : ByteArray := prog_6_method_8_code
def yX4_blockType : MethodName := ⟨RX4, "blockType", "()I"⟩
abbrev cX4_number : ByteArray := prog_6_method_9_code
def yX4_number : MethodName := ⟨RX4, "number", "()J"⟩
abbrev cX4_skipSigned : ByteArray := prog_6_method_10_code
def yX4_skipSigned : MethodName := ⟨RX4, "skipSigned", "(II)V"⟩
abbrev cX4_rowLength : ByteArray := prog_6_method_11_code
def yX4_rowLength : MethodName := ⟨RX4, "rowLength", "()I"⟩
abbrev cX4_length : ByteArray := prog_6_method_12_code
def yX4_length : MethodName := ⟨RX4, "length", "()I"⟩
abbrev cX4_name : ByteArray := prog_6_method_13_code
def yX4_name : MethodName := ⟨RX4, "name", "()I"⟩
abbrev cX4_outerName : ByteArray := prog_6_method_14_code
def yX4_outerName : MethodName := ⟨RX4, "outerName", "()I"⟩
abbrev cX4_enter : ByteArray := prog_6_method_15_code
def yX4_enter : MethodName := ⟨RX4, "enter", "()I"⟩
abbrev cX4_leave : ByteArray := prog_6_method_16_code
def yX4_leave : MethodName := ⟨RX4, "leave", "(I)V"⟩
abbrev cX4_skipRest : ByteArray := prog_6_method_17_code
def yX4_skipRest : MethodName := ⟨RX4, "skipRest", "()V"⟩
abbrev cX4_sameBytes : ByteArray := prog_6_method_18_code
def yX4_sameBytes : MethodName := ⟨RX4, "sameBytes", "(III)Z"⟩
def RX5 : String := "ModuleCheck$Instruction"
def TX5 : u_T := fun k => match k with
  | 0 => ("ModuleCheck$Instruction", "labels", "[J", true)
  | 1 => ("ModuleCheck$Instruction", "labelCount", "I", false)
  | 2 => ("ModuleCheck$Instruction", "where", "I", false)
  | 3 => ("ModuleCheck$Instruction", "number", "I", false)
  | _ => ("ModuleCheck$Instruction", "argument", "J", false)
def tyX5 : Nat → FieldType := fun k => match k with
  | 0 => .array .long
  | 1 => .int
  | 2 => .int
  | 3 => .int
  | _ => .long
abbrev wsX50 : List Cond := u_ws RX5 TX5 5
theorem nmX5 : ∀ a, a < 5 → ∀ b, b < 5 → a ≠ b → (TX5 a).2.1 ≠ (TX5 b).2.1 := by decide +kernel
theorem tyX5_ok : ∀ k, k < 5 → parseFieldDescriptor (TX5 k).2.2.1 = some (tyX5 k) := by decide +kernel
abbrev cX5_init : ByteArray := prog_7_method_1_code
def yX5_init : MethodName := ⟨RX5, "<init>", "()V"⟩
abbrev cX5_readNumber : ByteArray := prog_7_method_2_code
def yX5_readNumber : MethodName := ⟨RX5, "readNumber", "(LModuleCheck$Input;)V"⟩
abbrev cX5_isOfOneByte : ByteArray := prog_7_method_3_code
def yX5_isOfOneByte : MethodName := ⟨RX5, "isOfOneByte", "(I)Z"⟩
abbrev cX5_readArguments : ByteArray := prog_7_method_4_code
def yX5_readArguments : MethodName := ⟨RX5, "readArguments", "(LModuleCheck$Input;)V"⟩
abbrev cX5_readLabels : ByteArray := prog_7_method_5_code
def yX5_readLabels : MethodName := ⟨RX5, "readLabels", "(LModuleCheck$Input;)V"⟩
def RX6 : String := "ModuleCheck$Sections"
def TX6 : u_T := fun k => match k with
  | 0 => ("ModuleCheck$Sections", "in", "LModuleCheck$Input;", true)
  | 1 => ("ModuleCheck$Sections", "facts", "LModuleCheck$Facts;", true)
  | 2 => ("ModuleCheck$Sections", "bodies", "LModuleCheck$Bodies;", true)
  | 3 => ("ModuleCheck$Sections", "nameStarts", "[I", true)
  | 4 => ("ModuleCheck$Sections", "nameLengths", "[I", true)
  | _ => ("ModuleCheck$Sections", "lastInOrder", "I", false)
def tyX6 : Nat → FieldType := fun k => match k with
  | 0 => .object "ModuleCheck$Input"
  | 1 => .object "ModuleCheck$Facts"
  | 2 => .object "ModuleCheck$Bodies"
  | 3 => .array .int
  | 4 => .array .int
  | _ => .int
abbrev wsX60 : List Cond := u_ws RX6 TX6 6
theorem nmX6 : ∀ a, a < 6 → ∀ b, b < 6 → a ≠ b → (TX6 a).2.1 ≠ (TX6 b).2.1 := by decide +kernel
theorem tyX6_ok : ∀ k, k < 6 → parseFieldDescriptor (TX6 k).2.2.1 = some (tyX6 k) := by decide +kernel
abbrev cX6_init : ByteArray := prog_8_method_1_code
def yX6_init : MethodName := ⟨RX6, "<init>", "(LModuleCheck$Input;LModuleCheck$Facts;LModuleCheck$Answers;)V"⟩
abbrev cX6_begin : ByteArray := prog_8_method_2_code
def yX6_begin : MethodName := ⟨RX6, "begin", "()V"⟩
abbrev cX6_areMore : ByteArray := prog_8_method_3_code
def yX6_areMore : MethodName := ⟨RX6, "areMore", "()Z"⟩
abbrev cX6_finish : ByteArray := prog_8_method_4_code
def yX6_finish : MethodName := ⟨RX6, "finish", "()V"⟩
abbrev cX6_readSection : ByteArray := prog_8_method_5_code
def yX6_readSection : MethodName := ⟨RX6, "readSection", "()V"⟩
abbrev cX6_readSectionNumber : ByteArray := prog_8_method_6_code
def yX6_readSectionNumber : MethodName := ⟨RX6, "readSectionNumber", "()I"⟩
abbrev cX6_isRow : ByteArray := prog_8_method_7_code
def yX6_isRow : MethodName := ⟨RX6, "isRow", "(I)Z"⟩
abbrev cX6_fit : ByteArray := prog_8_method_8_code
def yX6_fit : MethodName := ⟨RX6, "fit", "(I)V"⟩
abbrev cX6_refuseBeyond : ByteArray := prog_8_method_9_code
def yX6_refuseBeyond : MethodName := ⟨RX6, "refuseBeyond", "(II)V"⟩
abbrev cX6_readSignature : ByteArray := prog_8_method_10_code
def yX6_readSignature : MethodName := ⟨RX6, "readSignature", "()V"⟩
abbrev cX6_readImport : ByteArray := prog_8_method_11_code
def yX6_readImport : MethodName := ⟨RX6, "readImport", "()V"⟩
abbrev cX6_readSignatureOfFunction : ByteArray := prog_8_method_12_code
def yX6_readSignatureOfFunction : MethodName := ⟨RX6, "readSignatureOfFunction", "(I)V"⟩
abbrev cX6_readLimits : ByteArray := prog_8_method_13_code
def yX6_readLimits : MethodName := ⟨RX6, "readLimits", "(IZ)V"⟩
abbrev cX6_addTable : ByteArray := prog_8_method_14_code
def yX6_addTable : MethodName := ⟨RX6, "addTable", "(I)V"⟩
abbrev cX6_addMemory : ByteArray := prog_8_method_15_code
def yX6_addMemory : MethodName := ⟨RX6, "addMemory", "(I)V"⟩
abbrev cX6_readTable : ByteArray := prog_8_method_16_code
def yX6_readTable : MethodName := ⟨RX6, "readTable", "()V"⟩
abbrev cX6_readMemory : ByteArray := prog_8_method_17_code
def yX6_readMemory : MethodName := ⟨RX6, "readMemory", "()V"⟩
abbrev cX6_readGlobal : ByteArray := prog_8_method_18_code
def yX6_readGlobal : MethodName := ⟨RX6, "readGlobal", "()V"⟩
abbrev cX6_readConstant : ByteArray := prog_8_method_19_code
def yX6_readConstant : MethodName := ⟨RX6, "readConstant", "(II)V"⟩
abbrev cX6_readExport : ByteArray := prog_8_method_20_code
def yX6_readExport : MethodName := ⟨RX6, "readExport", "()V"⟩
abbrev cX6_isExported : ByteArray := prog_8_method_21_code
def yX6_isExported : MethodName := ⟨RX6, "isExported", "(II)Z"⟩
abbrev cX6_readStart : ByteArray := prog_8_method_22_code
def yX6_readStart : MethodName := ⟨RX6, "readStart", "()V"⟩
abbrev cX6_readElement : ByteArray := prog_8_method_23_code
def yX6_readElement : MethodName := ⟨RX6, "readElement", "()V"⟩
abbrev cX6_readRowOfFunctions : ByteArray := prog_8_method_24_code
def yX6_readRowOfFunctions : MethodName := ⟨RX6, "readRowOfFunctions", "()V"⟩
abbrev cX6_readData : ByteArray := prog_8_method_25_code
def yX6_readData : MethodName := ⟨RX6, "readData", "()V"⟩
def RX7 : String := "ModuleCheck$Typing"
def TX7 : u_T := fun k => match k with
  | 0 => ("ModuleCheck$Typing", "facts", "LModuleCheck$Facts;", true)
  | 1 => ("ModuleCheck$Typing", "frames", "LModuleCheck$Frames;", true)
  | 2 => ("ModuleCheck$Typing", "localTypes", "[I", true)
  | _ => ("ModuleCheck$Typing", "localCount", "I", false)
def tyX7 : Nat → FieldType := fun k => match k with
  | 0 => .object "ModuleCheck$Facts"
  | 1 => .object "ModuleCheck$Frames"
  | 2 => .array .int
  | _ => .int
abbrev wsX70 : List Cond := u_ws RX7 TX7 4
theorem nmX7 : ∀ a, a < 4 → ∀ b, b < 4 → a ≠ b → (TX7 a).2.1 ≠ (TX7 b).2.1 := by decide +kernel
theorem tyX7_ok : ∀ k, k < 4 → parseFieldDescriptor (TX7 k).2.2.1 = some (tyX7 k) := by decide +kernel
abbrev cX7_init : ByteArray := prog_9_method_1_code
def yX7_init : MethodName := ⟨RX7, "<init>", "(LModuleCheck$Facts;LModuleCheck$Frames;)V"⟩
abbrev cX7_begin : ByteArray := prog_9_method_2_code
def yX7_begin : MethodName := ⟨RX7, "begin", "(I)V"⟩
abbrev cX7_addLocals : ByteArray := prog_9_method_3_code
def yX7_addLocals : MethodName := ⟨RX7, "addLocals", "(II)V"⟩
abbrev cX7_isRight : ByteArray := prog_9_method_4_code
def yX7_isRight : MethodName := ⟨RX7, "isRight", "(LModuleCheck$Instruction;)Z"⟩
abbrev cX7_followFrame : ByteArray := prog_9_method_5_code
def yX7_followFrame : MethodName := ⟨RX7, "followFrame", "(I)V"⟩
abbrev cX7_followTable : ByteArray := prog_9_method_6_code
def yX7_followTable : MethodName := ⟨RX7, "followTable", "(LModuleCheck$Instruction;)V"⟩
abbrev cX7_followLeap : ByteArray := prog_9_method_7_code
def yX7_followLeap : MethodName := ⟨RX7, "followLeap", "(IJ)V"⟩
abbrev cX7_followCall : ByteArray := prog_9_method_8_code
def yX7_followCall : MethodName := ⟨RX7, "followCall", "(IJ)V"⟩
abbrev cX7_followChoice : ByteArray := prog_9_method_9_code
def yX7_followChoice : MethodName := ⟨RX7, "followChoice", "(I)V"⟩
abbrev cX7_followLocal : ByteArray := prog_9_method_10_code
def yX7_followLocal : MethodName := ⟨RX7, "followLocal", "(IJ)V"⟩
abbrev cX7_followGlobal : ByteArray := prog_9_method_11_code
def yX7_followGlobal : MethodName := ⟨RX7, "followGlobal", "(IJ)V"⟩
abbrev cX7_followAccess : ByteArray := prog_9_method_12_code
def yX7_followAccess : MethodName := ⟨RX7, "followAccess", "(IJ)V"⟩
abbrev cX7_followSize : ByteArray := prog_9_method_13_code
def yX7_followSize : MethodName := ⟨RX7, "followSize", "(I)V"⟩
abbrev cX7_followPlain : ByteArray := prog_9_method_14_code
def yX7_followPlain : MethodName := ⟨RX7, "followPlain", "(I)V"⟩
abbrev cX7_takesLong : ByteArray := prog_9_method_15_code
def yX7_takesLong : MethodName := ⟨RX7, "takesLong", "(I)Z"⟩
abbrev cX7_takesTwo : ByteArray := prog_9_method_16_code
def yX7_takesTwo : MethodName := ⟨RX7, "takesTwo", "(I)Z"⟩
abbrev cX7_leavesLong : ByteArray := prog_9_method_17_code
def yX7_leavesLong : MethodName := ⟨RX7, "leavesLong", "(I)Z"⟩
abbrev cX7_followLonger : ByteArray := prog_9_method_18_code
def yX7_followLonger : MethodName := ⟨RX7, "followLonger", "(IJ)V"⟩
def RX8 : String := "ModuleCheck"
def TX8 : u_T := fun k => match k with
  | 0 => ("ModuleCheck", "input", "LModuleCheck$Input;", true)
  | 1 => ("ModuleCheck", "facts", "LModuleCheck$Facts;", true)
  | 2 => ("ModuleCheck", "sections", "LModuleCheck$Sections;", true)
  | 3 => ("ModuleCheck", "draft", "LModuleCheck$Answers;", true)
  | 4 => ("ModuleCheck", "kept", "LModuleCheck$Answers;", true)
  | 5 => ("ModuleCheck", "fed", "I", false)
  | _ => ("ModuleCheck", "latestPlace", "I", false)
def tyX8 : Nat → FieldType := fun k => match k with
  | 0 => .object "ModuleCheck$Input"
  | 1 => .object "ModuleCheck$Facts"
  | 2 => .object "ModuleCheck$Sections"
  | 3 => .object "ModuleCheck$Answers"
  | 4 => .object "ModuleCheck$Answers"
  | 5 => .int
  | _ => .int
abbrev wsX80 : List Cond := u_ws RX8 TX8 7
theorem nmX8 : ∀ a, a < 7 → ∀ b, b < 7 → a ≠ b → (TX8 a).2.1 ≠ (TX8 b).2.1 := by decide +kernel
theorem tyX8_ok : ∀ k, k < 7 → parseFieldDescriptor (TX8 k).2.2.1 = some (tyX8 k) := by decide +kernel
abbrev cX8_init : ByteArray := prog_1_method_1_code
def yX8_init : MethodName := ⟨RX8, "<init>", "()V"⟩
abbrev cX8_feed : ByteArray := prog_1_method_2_code
def yX8_feed : MethodName := ⟨RX8, "feed", "(IIIII)I"⟩
abbrev cX8_end : ByteArray := prog_1_method_3_code
def yX8_end : MethodName := ⟨RX8, "end", "(I)Z"⟩
abbrev cX8_check : ByteArray := prog_1_method_4_code
def yX8_check : MethodName := ⟨RX8, "check", "()I"⟩
abbrev cX8_place : ByteArray := prog_1_method_5_code
def yX8_place : MethodName := ⟨RX8, "place", "()I"⟩
abbrev cX8_count : ByteArray := prog_1_method_6_code
def yX8_count : MethodName := ⟨RX8, "count", "(I)I"⟩
abbrev cX8_instructions : ByteArray := prog_1_method_7_code
def yX8_instructions : MethodName := ⟨RX8, "instructions", "(I)I"⟩
abbrev cX8_code : ByteArray := prog_1_method_8_code
def yX8_code : MethodName := ⟨RX8, "code", "(II)I"⟩
abbrev cX8_locals : ByteArray := prog_1_method_9_code
def yX8_locals : MethodName := ⟨RX8, "locals", "(I)I"⟩
def RX9 : String := "ModuleCheckModel$Module"
def TX9 : u_T := fun k => match k with
  | 0 => ("ModuleCheckModel$Module", "from", "I", false)
  | 1 => ("ModuleCheckModel$Module", "end", "I", false)
  | 2 => ("ModuleCheckModel$Module", "sigs", "I", false)
  | 3 => ("ModuleCheckModel$Module", "imports", "I", false)
  | 4 => ("ModuleCheckModel$Module", "functions", "I", false)
  | 5 => ("ModuleCheckModel$Module", "globals", "I", false)
  | 6 => ("ModuleCheckModel$Module", "exports", "I", false)
  | 7 => ("ModuleCheckModel$Module", "elements", "I", false)
  | 8 => ("ModuleCheckModel$Module", "dataCount", "I", false)
  | 9 => ("ModuleCheckModel$Module", "bodies", "I", false)
  | 10 => ("ModuleCheckModel$Module", "start", "I", false)
  | 11 => ("ModuleCheckModel$Module", "startAt", "I", false)
  | 12 => ("ModuleCheckModel$Module", "tables", "I", false)
  | 13 => ("ModuleCheckModel$Module", "memories", "I", false)
  | 14 => ("ModuleCheckModel$Module", "least", "[J", true)
  | 15 => ("ModuleCheckModel$Module", "most", "[J", true)
  | 16 => ("ModuleCheckModel$Module", "limitsAt", "[I", true)
  | 17 => ("ModuleCheckModel$Module", "secondAt", "[I", true)
  | 18 => ("ModuleCheckModel$Module", "firstAt", "[I", true)
  | 19 => ("ModuleCheckModel$Module", "sig", "[I", true)
  | 20 => ("ModuleCheckModel$Module", "importModule", "[I", true)
  | 21 => ("ModuleCheckModel$Module", "importModuleLength", "[I", true)
  | 22 => ("ModuleCheckModel$Module", "importName", "[I", true)
  | 23 => ("ModuleCheckModel$Module", "importNameLength", "[I", true)
  | 24 => ("ModuleCheckModel$Module", "importKind", "[I", true)
  | 25 => ("ModuleCheckModel$Module", "importWhat", "[J", true)
  | 26 => ("ModuleCheckModel$Module", "importAt", "[I", true)
  | 27 => ("ModuleCheckModel$Module", "importBegin", "[I", true)
  | 28 => ("ModuleCheckModel$Module", "importChanges", "[Z", true)
  | 29 => ("ModuleCheckModel$Module", "importLeast", "[J", true)
  | 30 => ("ModuleCheckModel$Module", "importMost", "[J", true)
  | 31 => ("ModuleCheckModel$Module", "functionSig", "[J", true)
  | 32 => ("ModuleCheckModel$Module", "functionAt", "[I", true)
  | 33 => ("ModuleCheckModel$Module", "globalType", "[I", true)
  | 34 => ("ModuleCheckModel$Module", "globalChanges", "[Z", true)
  | 35 => ("ModuleCheckModel$Module", "globalConstant", "[I", true)
  | 36 => ("ModuleCheckModel$Module", "exportName", "[I", true)
  | 37 => ("ModuleCheckModel$Module", "exportNameLength", "[I", true)
  | 38 => ("ModuleCheckModel$Module", "exportNameAt", "[I", true)
  | 39 => ("ModuleCheckModel$Module", "exportKind", "[I", true)
  | 40 => ("ModuleCheckModel$Module", "exportWhat", "[J", true)
  | 41 => ("ModuleCheckModel$Module", "exportAt", "[I", true)
  | 42 => ("ModuleCheckModel$Module", "elementMode", "[I", true)
  | 43 => ("ModuleCheckModel$Module", "elementAt", "[I", true)
  | 44 => ("ModuleCheckModel$Module", "elementConstant", "[I", true)
  | 45 => ("ModuleCheckModel$Module", "elementRow", "[I", true)
  | 46 => ("ModuleCheckModel$Module", "elementCount", "[I", true)
  | 47 => ("ModuleCheckModel$Module", "dataMode", "[I", true)
  | 48 => ("ModuleCheckModel$Module", "dataAt", "[I", true)
  | 49 => ("ModuleCheckModel$Module", "dataConstant", "[I", true)
  | 50 => ("ModuleCheckModel$Module", "dataRow", "[I", true)
  | 51 => ("ModuleCheckModel$Module", "dataBytes", "[I", true)
  | 52 => ("ModuleCheckModel$Module", "groupsAt", "[I", true)
  | 53 => ("ModuleCheckModel$Module", "codeAt", "[I", true)
  | 54 => ("ModuleCheckModel$Module", "bodyEnd", "[I", true)
  | 55 => ("ModuleCheckModel$Module", "imported", "[I", true)
  | _ => ("ModuleCheckModel$Module", "importedAs", "[I", true)
def tyX9 : Nat → FieldType := fun k => match k with
  | 0 => .int
  | 1 => .int
  | 2 => .int
  | 3 => .int
  | 4 => .int
  | 5 => .int
  | 6 => .int
  | 7 => .int
  | 8 => .int
  | 9 => .int
  | 10 => .int
  | 11 => .int
  | 12 => .int
  | 13 => .int
  | 14 => .array .long
  | 15 => .array .long
  | 16 => .array .int
  | 17 => .array .int
  | 18 => .array .int
  | 19 => .array .int
  | 20 => .array .int
  | 21 => .array .int
  | 22 => .array .int
  | 23 => .array .int
  | 24 => .array .int
  | 25 => .array .long
  | 26 => .array .int
  | 27 => .array .int
  | 28 => .array .boolean
  | 29 => .array .long
  | 30 => .array .long
  | 31 => .array .long
  | 32 => .array .int
  | 33 => .array .int
  | 34 => .array .boolean
  | 35 => .array .int
  | 36 => .array .int
  | 37 => .array .int
  | 38 => .array .int
  | 39 => .array .int
  | 40 => .array .long
  | 41 => .array .int
  | 42 => .array .int
  | 43 => .array .int
  | 44 => .array .int
  | 45 => .array .int
  | 46 => .array .int
  | 47 => .array .int
  | 48 => .array .int
  | 49 => .array .int
  | 50 => .array .int
  | 51 => .array .int
  | 52 => .array .int
  | 53 => .array .int
  | 54 => .array .int
  | 55 => .array .int
  | _ => .array .int
abbrev wsX90 : List Cond := u_ws RX9 TX9 57
theorem nmX9 : ∀ a, a < 57 → ∀ b, b < 57 → a ≠ b → (TX9 a).2.1 ≠ (TX9 b).2.1 := by decide +kernel
theorem tyX9_ok : ∀ k, k < 57 → parseFieldDescriptor (TX9 k).2.2.1 = some (tyX9 k) := by decide +kernel
abbrev cX9_init : ByteArray := prog_12_method_1_code
def yX9_init : MethodName := ⟨RX9, "<init>", "()V"⟩
abbrev cX9_has : ByteArray := prog_12_method_2_code
def yX9_has : MethodName := ⟨RX9, "has", "(I)Z"⟩
def RX10 : String := "ModuleCheckModel"
def TX10 : u_T := fun k => match k with
  | 0 => ("ModuleCheckModel", "right", "LModuleCheckModel$Module;", false)
  | 1 => ("ModuleCheckModel", "next", "LModuleCheckModel$Module;", false)
  | 2 => ("ModuleCheckModel", "isThere", "Z", false)
  | 3 => ("ModuleCheckModel", "store", "[B", true)
  | 4 => ("ModuleCheckModel", "tray", "[B", true)
  | 5 => ("ModuleCheckModel", "trayed", "I", false)
  | 6 => ("ModuleCheckModel", "allFed", "I", false)
  | 7 => ("ModuleCheckModel", "place", "I", false)
  | 8 => ("ModuleCheckModel", "walkedOver", "I", false)
  | 9 => ("ModuleCheckModel", "stop", "Ljava/lang/IllegalStateException;", true)
  | 10 => ("ModuleCheckModel", "fault", "I", false)
  | 11 => ("ModuleCheckModel", "faultAt", "I", false)
  | 12 => ("ModuleCheckModel", "at", "I", false)
  | 13 => ("ModuleCheckModel", "end", "I", false)
  | 14 => ("ModuleCheckModel", "nameAt", "I", false)
  | 15 => ("ModuleCheckModel", "nameLength", "I", false)
  | 16 => ("ModuleCheckModel", "least", "J", false)
  | 17 => ("ModuleCheckModel", "most", "J", false)
  | 18 => ("ModuleCheckModel", "hasCount", "Z", false)
  | 19 => ("ModuleCheckModel", "toldCount", "J", false)
  | 20 => ("ModuleCheckModel", "openWith", "[I", true)
  | 21 => ("ModuleCheckModel", "types", "[B", true)
  | 22 => ("ModuleCheckModel", "top", "I", false)
  | 23 => ("ModuleCheckModel", "frameLabel", "[I", true)
  | 24 => ("ModuleCheckModel", "frameResult", "[I", true)
  | 25 => ("ModuleCheckModel", "frameBase", "[I", true)
  | 26 => ("ModuleCheckModel", "frameWith", "[I", true)
  | 27 => ("ModuleCheckModel", "frameOpen", "[Z", true)
  | 28 => ("ModuleCheckModel", "frames", "I", false)
  | 29 => ("ModuleCheckModel", "localType", "[I", true)
  | 30 => ("ModuleCheckModel", "locals", "I", false)
  | _ => ("ModuleCheckModel", "good", "Z", false)
def tyX10 : Nat → FieldType := fun k => match k with
  | 0 => .object "ModuleCheckModel$Module"
  | 1 => .object "ModuleCheckModel$Module"
  | 2 => .boolean
  | 3 => .array .byte
  | 4 => .array .byte
  | 5 => .int
  | 6 => .int
  | 7 => .int
  | 8 => .int
  | 9 => .object "java/lang/IllegalStateException"
  | 10 => .int
  | 11 => .int
  | 12 => .int
  | 13 => .int
  | 14 => .int
  | 15 => .int
  | 16 => .long
  | 17 => .long
  | 18 => .boolean
  | 19 => .long
  | 20 => .array .int
  | 21 => .array .byte
  | 22 => .int
  | 23 => .array .int
  | 24 => .array .int
  | 25 => .array .int
  | 26 => .array .int
  | 27 => .array .boolean
  | 28 => .int
  | 29 => .array .int
  | 30 => .int
  | _ => .boolean
abbrev wsX100 : List Cond := u_ws RX10 TX10 32
theorem nmX10 : ∀ a, a < 32 → ∀ b, b < 32 → a ≠ b → (TX10 a).2.1 ≠ (TX10 b).2.1 := by decide +kernel
theorem tyX10_ok : ∀ k, k < 32 → parseFieldDescriptor (TX10 k).2.2.1 = some (tyX10 k) := by decide +kernel
abbrev cX10_init : ByteArray := prog_11_method_1_code
def yX10_init : MethodName := ⟨RX10, "<init>", "()V"⟩
abbrev cX10_word : ByteArray := prog_11_method_3_code
def yX10_word : MethodName := ⟨RX10, "word", "(I)V"⟩
abbrev cX10_feed : ByteArray := prog_11_method_4_code
def yX10_feed : MethodName := ⟨RX10, "feed", "(IIIII)I"⟩
abbrev cX10_end : ByteArray := prog_11_method_5_code
def yX10_end : MethodName := ⟨RX10, "end", "(I)Z"⟩
abbrev cX10_check : ByteArray := prog_11_method_6_code
def yX10_check : MethodName := ⟨RX10, "check", "()I"⟩
abbrev cX10_place : ByteArray := prog_11_method_7_code
def yX10_place : MethodName := ⟨RX10, "place", "()I"⟩
abbrev cX10_count : ByteArray := prog_11_method_8_code
def yX10_count : MethodName := ⟨RX10, "count", "(I)I"⟩
abbrev cX10_isOwn : ByteArray := prog_11_method_9_code
def yX10_isOwn : MethodName := ⟨RX10, "isOwn", "(I)Z"⟩
abbrev cX10_walked : ByteArray := prog_11_method_10_code
def yX10_walked : MethodName := ⟨RX10, "walked", "(II)I"⟩
abbrev cX10_instructions : ByteArray := prog_11_method_11_code
def yX10_instructions : MethodName := ⟨RX10, "instructions", "(I)I"⟩
abbrev cX10_code : ByteArray := prog_11_method_12_code
def yX10_code : MethodName := ⟨RX10, "code", "(II)I"⟩
abbrev cX10_locals : ByteArray := prog_11_method_13_code
def yX10_locals : MethodName := ⟨RX10, "locals", "(I)I"⟩
abbrev cX10_wrong : ByteArray := prog_11_method_14_code
def yX10_wrong : MethodName := ⟨RX10, "wrong", "(II)Ljava/lang/IllegalStateException;"⟩
abbrev cX10_octet : ByteArray := prog_11_method_15_code
def yX10_octet : MethodName := ⟨RX10, "octet", "()I"⟩
abbrev cX10_needOctet : ByteArray := prog_11_method_16_code
def yX10_needOctet : MethodName := ⟨RX10, "needOctet", "(I)V"⟩
abbrev cX10_u : ByteArray := prog_11_method_17_code
def yX10_u : MethodName := ⟨RX10, "u", "()J"⟩
abbrev cX10_signed : ByteArray := prog_11_method_18_code
def yX10_signed : MethodName := ⟨RX10, "signed", "(III)J"⟩
abbrev cX10_s : ByteArray := prog_11_method_19_code
def yX10_s : MethodName := ⟨RX10, "s", "()I"⟩
abbrev cX10_l : ByteArray := prog_11_method_20_code
def yX10_l : MethodName := ⟨RX10, "l", "()J"⟩
abbrev cX10_type : ByteArray := prog_11_method_21_code
def yX10_type : MethodName := ⟨RX10, "type", "()I"⟩
abbrev cX10_nameItem : ByteArray := prog_11_method_22_code
def yX10_nameItem : MethodName := ⟨RX10, "nameItem", "(Z)V"⟩
abbrev cX10_limits : ByteArray := prog_11_method_23_code
def yX10_limits : MethodName := ⟨RX10, "limits", "()V"⟩
abbrev cX10_constant : ByteArray := prog_11_method_24_code
def yX10_constant : MethodName := ⟨RX10, "constant", "()I"⟩
abbrev cX10_headerAt : ByteArray := prog_11_method_25_code
def yX10_headerAt : MethodName := ⟨RX10, "headerAt", "(I)I"⟩
abbrev cX10_read : ByteArray := prog_11_method_26_code
def yX10_read : MethodName := ⟨RX10, "read", "(LModuleCheckModel$Module;)V"⟩
abbrev cX10_orderOf : ByteArray := prog_11_method_27_code
def yX10_orderOf : MethodName := ⟨RX10, "orderOf", "(I)I"⟩
abbrev cX10_section : ByteArray := prog_11_method_28_code
def yX10_section : MethodName := ⟨RX10, "section", "(LModuleCheckModel$Module;I)V"⟩
abbrev cX10_signature : ByteArray := prog_11_method_29_code
def yX10_signature : MethodName := ⟨RX10, "signature", "(LModuleCheckModel$Module;)V"⟩
abbrev cX10_parameters : ByteArray := prog_11_method_30_code
def yX10_parameters : MethodName := ⟨RX10, "parameters", "(I)I"⟩
abbrev cX10_parameter : ByteArray := prog_11_method_31_code
def yX10_parameter : MethodName := ⟨RX10, "parameter", "(II)I"⟩
abbrev cX10_resultOf : ByteArray := prog_11_method_32_code
def yX10_resultOf : MethodName := ⟨RX10, "resultOf", "(I)I"⟩
abbrev cX10_importLine : ByteArray := prog_11_method_33_code
def yX10_importLine : MethodName := ⟨RX10, "importLine", "(LModuleCheckModel$Module;)V"⟩
abbrev cX10_flag : ByteArray := prog_11_method_34_code
def yX10_flag : MethodName := ⟨RX10, "flag", "()Z"⟩
abbrev cX10_ownLimits : ByteArray := prog_11_method_35_code
def yX10_ownLimits : MethodName := ⟨RX10, "ownLimits", "(LModuleCheckModel$Module;I)V"⟩
abbrev cX10_globalLine : ByteArray := prog_11_method_36_code
def yX10_globalLine : MethodName := ⟨RX10, "globalLine", "(LModuleCheckModel$Module;)V"⟩
abbrev cX10_exportLine : ByteArray := prog_11_method_37_code
def yX10_exportLine : MethodName := ⟨RX10, "exportLine", "(LModuleCheckModel$Module;)V"⟩
abbrev cX10_elementLine : ByteArray := prog_11_method_38_code
def yX10_elementLine : MethodName := ⟨RX10, "elementLine", "(LModuleCheckModel$Module;)V"⟩
abbrev cX10_dataLine : ByteArray := prog_11_method_39_code
def yX10_dataLine : MethodName := ⟨RX10, "dataLine", "(LModuleCheckModel$Module;)V"⟩
abbrev cX10_body : ByteArray := prog_11_method_40_code
def yX10_body : MethodName := ⟨RX10, "body", "(LModuleCheckModel$Module;)V"⟩
abbrev cX10_follows : ByteArray := prog_11_method_41_code
def yX10_follows : MethodName := ⟨RX10, "follows", "(I)I"⟩
abbrev cX10_isLoad : ByteArray := prog_11_method_42_code
def yX10_isLoad : MethodName := ⟨RX10, "isLoad", "(I)Z"⟩
abbrev cX10_isStore : ByteArray := prog_11_method_43_code
def yX10_isStore : MethodName := ⟨RX10, "isStore", "(I)Z"⟩
abbrev cX10_operands : ByteArray := prog_11_method_44_code
def yX10_operands : MethodName := ⟨RX10, "operands", "(II)V"⟩
abbrev cX10_blockType : ByteArray := prog_11_method_45_code
def yX10_blockType : MethodName := ⟨RX10, "blockType", "()I"⟩
abbrev cX10_many : ByteArray := prog_11_method_46_code
def yX10_many : MethodName := ⟨RX10, "many", "(I)V"⟩
abbrev cX10_readCode : ByteArray := prog_11_method_47_code
def yX10_readCode : MethodName := ⟨RX10, "readCode", "()V"⟩
abbrev cX10_functionsOf : ByteArray := prog_11_method_48_code
def yX10_functionsOf : MethodName := ⟨RX10, "functionsOf", "(LModuleCheckModel$Module;)I"⟩
abbrev cX10_globalsOf : ByteArray := prog_11_method_49_code
def yX10_globalsOf : MethodName := ⟨RX10, "globalsOf", "(LModuleCheckModel$Module;)I"⟩
abbrev cX10_importOf : ByteArray := prog_11_method_50_code
def yX10_importOf : MethodName := ⟨RX10, "importOf", "(LModuleCheckModel$Module;II)I"⟩
abbrev cX10_sigOf : ByteArray := prog_11_method_51_code
def yX10_sigOf : MethodName := ⟨RX10, "sigOf", "(LModuleCheckModel$Module;I)I"⟩
abbrev cX10_typeOf : ByteArray := prog_11_method_52_code
def yX10_typeOf : MethodName := ⟨RX10, "typeOf", "(LModuleCheckModel$Module;I)I"⟩
abbrev cX10_isChanged : ByteArray := prog_11_method_53_code
def yX10_isChanged : MethodName := ⟨RX10, "isChanged", "(LModuleCheckModel$Module;I)Z"⟩
abbrev cX10_must : ByteArray := prog_11_method_54_code
def yX10_must : MethodName := ⟨RX10, "must", "(ZI)V"⟩
abbrev cX10_areRight : ByteArray := prog_11_method_55_code
def yX10_areRight : MethodName := ⟨RX10, "areRight", "(IJJ)Z"⟩
abbrev cX10_means : ByteArray := prog_11_method_56_code
def yX10_means : MethodName := ⟨RX10, "means", "(LModuleCheckModel$Module;)V"⟩
abbrev cX10_one : ByteArray := prog_11_method_57_code
def yX10_one : MethodName := ⟨RX10, "one", "(LModuleCheckModel$Module;II)V"⟩
abbrev cX10_isConstant : ByteArray := prog_11_method_58_code
def yX10_isConstant : MethodName := ⟨RX10, "isConstant", "(LModuleCheckModel$Module;II)Z"⟩
abbrev cX10_exported : ByteArray := prog_11_method_59_code
def yX10_exported : MethodName := ⟨RX10, "exported", "(LModuleCheckModel$Module;I)V"⟩
abbrev cX10_isSame : ByteArray := prog_11_method_60_code
def yX10_isSame : MethodName := ⟨RX10, "isSame", "(IIII)Z"⟩
abbrev cX10_openFrame : ByteArray := prog_11_method_61_code
def yX10_openFrame : MethodName := ⟨RX10, "openFrame", "(III)V"⟩
abbrev cX10_gives : ByteArray := prog_11_method_62_code
def yX10_gives : MethodName := ⟨RX10, "gives", "(I)V"⟩
abbrev cX10_takes : ByteArray := prog_11_method_63_code
def yX10_takes : MethodName := ⟨RX10, "takes", "(I)I"⟩
abbrev cX10_rest : ByteArray := prog_11_method_64_code
def yX10_rest : MethodName := ⟨RX10, "rest", "()V"⟩
abbrev cX10_readLocals : ByteArray := prog_11_method_65_code
def yX10_readLocals : MethodName := ⟨RX10, "readLocals", "(II)V"⟩
abbrev cX10_checkBody : ByteArray := prog_11_method_66_code
def yX10_checkBody : MethodName := ⟨RX10, "checkBody", "(LModuleCheckModel$Module;I)V"⟩
abbrev cX10_need : ByteArray := prog_11_method_67_code
def yX10_need : MethodName := ⟨RX10, "need", "(Z)V"⟩
abbrev cX10_label : ByteArray := prog_11_method_68_code
def yX10_label : MethodName := ⟨RX10, "label", "(J)I"⟩
abbrev cX10_calls : ByteArray := prog_11_method_69_code
def yX10_calls : MethodName := ⟨RX10, "calls", "(I)V"⟩
abbrev cX10_turns : ByteArray := prog_11_method_70_code
def yX10_turns : MethodName := ⟨RX10, "turns", "(III)V"⟩
abbrev cX10_width : ByteArray := prog_11_method_71_code
def yX10_width : MethodName := ⟨RX10, "width", "(I)I"⟩
abbrev cX10_valueType : ByteArray := prog_11_method_72_code
def yX10_valueType : MethodName := ⟨RX10, "valueType", "(I)I"⟩
abbrev cX10_checkOne : ByteArray := prog_11_method_73_code
def yX10_checkOne : MethodName := ⟨RX10, "checkOne", "(LModuleCheckModel$Module;II)V"⟩
abbrev cX10_closes : ByteArray := prog_11_method_74_code
def yX10_closes : MethodName := ⟨RX10, "closes", "()V"⟩
abbrev cX10_labelRow : ByteArray := prog_11_method_75_code
def yX10_labelRow : MethodName := ⟨RX10, "labelRow", "()V"⟩
abbrev cX10_access : ByteArray := prog_11_method_76_code
def yX10_access : MethodName := ⟨RX10, "access", "(LModuleCheckModel$Module;I)V"⟩
abbrev cX10_numbers : ByteArray := prog_11_method_77_code
def yX10_numbers : MethodName := ⟨RX10, "numbers", "(I)V"⟩
abbrev cX10_checkMany : ByteArray := prog_11_method_78_code
def yX10_checkMany : MethodName := ⟨RX10, "checkMany", "(LModuleCheckModel$Module;)V"⟩
def RL : String := "ModuleCheckLaw"
abbrev cL_law : ByteArray := code
def yL_law : MethodName := ⟨RL, "law", "([I)Z"⟩
def zWS : List Cond := lw_tbl.filter goodWord
def zNest : Cond → Bool
  | .fieldLinkNest .. => true
  | .methodLinkNest .. => true
  | _ => false
def zNW : List Cond := lw_tbl.filter zNest
theorem zmT {w : Cond} (h : w ∈ tables_1) : w ∈ lw_tbl := List.mem_append_right _ h
theorem zmT1 {w : Cond} (k : Nat) (h : tables_1_1[k]? = some w) : w ∈ lw_tbl := zmT (List.mem_append_left _ (List.mem_of_getElem? h))
theorem zWS1 {w : Cond} (k : Nat) (h : tables_1_1[k]? = some w) (hg : goodWord w = true) : w ∈ zWS := List.mem_filter.mpr ⟨zmT1 k h, hg⟩
theorem zNW1 {w : Cond} (k : Nat) (h : tables_1_1[k]? = some w) (hg : zNest w = true) : w ∈ zNW := List.mem_filter.mpr ⟨zmT1 k h, hg⟩
theorem zmT2 {w : Cond} (k : Nat) (h : tables_1_2[k]? = some w) : w ∈ lw_tbl := zmT (List.mem_append_right _ (List.mem_append_left _ (List.mem_of_getElem? h)))
theorem zWS2 {w : Cond} (k : Nat) (h : tables_1_2[k]? = some w) (hg : goodWord w = true) : w ∈ zWS := List.mem_filter.mpr ⟨zmT2 k h, hg⟩
theorem zNW2 {w : Cond} (k : Nat) (h : tables_1_2[k]? = some w) (hg : zNest w = true) : w ∈ zNW := List.mem_filter.mpr ⟨zmT2 k h, hg⟩
theorem zmT3 {w : Cond} (k : Nat) (h : tables_1_3[k]? = some w) : w ∈ lw_tbl := zmT (List.mem_append_right _ (List.mem_append_right _ (List.mem_append_left _ (List.mem_of_getElem? h))))
theorem zWS3 {w : Cond} (k : Nat) (h : tables_1_3[k]? = some w) (hg : goodWord w = true) : w ∈ zWS := List.mem_filter.mpr ⟨zmT3 k h, hg⟩
theorem zNW3 {w : Cond} (k : Nat) (h : tables_1_3[k]? = some w) (hg : zNest w = true) : w ∈ zNW := List.mem_filter.mpr ⟨zmT3 k h, hg⟩
theorem zmT4 {w : Cond} (k : Nat) (h : tables_1_4[k]? = some w) : w ∈ lw_tbl := zmT (List.mem_append_right _ (List.mem_append_right _ (List.mem_append_right _ (List.mem_append_left _ (List.mem_of_getElem? h)))))
theorem zWS4 {w : Cond} (k : Nat) (h : tables_1_4[k]? = some w) (hg : goodWord w = true) : w ∈ zWS := List.mem_filter.mpr ⟨zmT4 k h, hg⟩
theorem zNW4 {w : Cond} (k : Nat) (h : tables_1_4[k]? = some w) (hg : zNest w = true) : w ∈ zNW := List.mem_filter.mpr ⟨zmT4 k h, hg⟩
theorem zmT5 {w : Cond} (k : Nat) (h : tables_1_5[k]? = some w) : w ∈ lw_tbl := zmT (List.mem_append_right _ (List.mem_append_right _ (List.mem_append_right _ (List.mem_append_right _ (List.mem_append_left _ (List.mem_of_getElem? h))))))
theorem zWS5 {w : Cond} (k : Nat) (h : tables_1_5[k]? = some w) (hg : goodWord w = true) : w ∈ zWS := List.mem_filter.mpr ⟨zmT5 k h, hg⟩
theorem zNW5 {w : Cond} (k : Nat) (h : tables_1_5[k]? = some w) (hg : zNest w = true) : w ∈ zNW := List.mem_filter.mpr ⟨zmT5 k h, hg⟩
theorem zmT6 {w : Cond} (k : Nat) (h : tables_1_6[k]? = some w) : w ∈ lw_tbl := zmT (List.mem_append_right _ (List.mem_append_right _ (List.mem_append_right _ (List.mem_append_right _ (List.mem_append_right _ (List.mem_append_left _ (List.mem_of_getElem? h)))))))
theorem zWS6 {w : Cond} (k : Nat) (h : tables_1_6[k]? = some w) (hg : goodWord w = true) : w ∈ zWS := List.mem_filter.mpr ⟨zmT6 k h, hg⟩
theorem zNW6 {w : Cond} (k : Nat) (h : tables_1_6[k]? = some w) (hg : zNest w = true) : w ∈ zNW := List.mem_filter.mpr ⟨zmT6 k h, hg⟩
theorem zmT7 {w : Cond} (k : Nat) (h : tables_1_7[k]? = some w) : w ∈ lw_tbl := zmT (List.mem_append_right _ (List.mem_append_right _ (List.mem_append_right _ (List.mem_append_right _ (List.mem_append_right _ (List.mem_append_right _ (List.mem_of_getElem? h)))))))
theorem zWS7 {w : Cond} (k : Nat) (h : tables_1_7[k]? = some w) (hg : goodWord w = true) : w ∈ zWS := List.mem_filter.mpr ⟨zmT7 k h, hg⟩
theorem zNW7 {w : Cond} (k : Nat) (h : tables_1_7[k]? = some w) (hg : zNest w = true) : w ∈ zNW := List.mem_filter.mpr ⟨zmT7 k h, hg⟩
theorem zSL1 {y : MethodName} (k n : Nat) (h : lw_privs_1[k]? = some (y, n)) : Cond.selects y.cls y y ∈ zWS := List.mem_filter.mpr ⟨List.mem_append_left _ (List.mem_map.mpr ⟨(y, n), List.mem_append_left _ (List.mem_of_getElem? h), rfl⟩), rfl⟩
theorem zSL2 {y : MethodName} (k n : Nat) (h : lw_privs_2[k]? = some (y, n)) : Cond.selects y.cls y y ∈ zWS := List.mem_filter.mpr ⟨List.mem_append_left _ (List.mem_map.mpr ⟨(y, n), List.mem_append_right _ (List.mem_append_left _ (List.mem_of_getElem? h)), rfl⟩), rfl⟩
theorem zSL3 {y : MethodName} (k n : Nat) (h : lw_privs_3[k]? = some (y, n)) : Cond.selects y.cls y y ∈ zWS := List.mem_filter.mpr ⟨List.mem_append_left _ (List.mem_map.mpr ⟨(y, n), List.mem_append_right _ (List.mem_append_right _ (List.mem_append_left _ (List.mem_of_getElem? h))), rfl⟩), rfl⟩
theorem zSL4 {y : MethodName} (k n : Nat) (h : lw_privs_4[k]? = some (y, n)) : Cond.selects y.cls y y ∈ zWS := List.mem_filter.mpr ⟨List.mem_append_left _ (List.mem_map.mpr ⟨(y, n), List.mem_append_right _ (List.mem_append_right _ (List.mem_append_right _ (List.mem_append_left _ (List.mem_of_getElem? h)))), rfl⟩), rfl⟩
theorem zSL5 {y : MethodName} (k n : Nat) (h : lw_privs_5[k]? = some (y, n)) : Cond.selects y.cls y y ∈ zWS := List.mem_filter.mpr ⟨List.mem_append_left _ (List.mem_map.mpr ⟨(y, n), List.mem_append_right _ (List.mem_append_right _ (List.mem_append_right _ (List.mem_append_right _ (List.mem_append_left _ (List.mem_of_getElem? h))))), rfl⟩), rfl⟩
theorem zSL6 {y : MethodName} (k n : Nat) (h : lw_privs_6[k]? = some (y, n)) : Cond.selects y.cls y y ∈ zWS := List.mem_filter.mpr ⟨List.mem_append_left _ (List.mem_map.mpr ⟨(y, n), List.mem_append_right _ (List.mem_append_right _ (List.mem_append_right _ (List.mem_append_right _ (List.mem_append_right _ (List.mem_append_left _ (List.mem_of_getElem? h)))))), rfl⟩), rfl⟩
theorem zSL7 {y : MethodName} (k n : Nat) (h : lw_privs_7[k]? = some (y, n)) : Cond.selects y.cls y y ∈ zWS := List.mem_filter.mpr ⟨List.mem_append_left _ (List.mem_map.mpr ⟨(y, n), List.mem_append_right _ (List.mem_append_right _ (List.mem_append_right _ (List.mem_append_right _ (List.mem_append_right _ (List.mem_append_right _ (List.mem_append_left _ (List.mem_of_getElem? h))))))), rfl⟩), rfl⟩
theorem zSL8 {y : MethodName} (k n : Nat) (h : lw_privs_8[k]? = some (y, n)) : Cond.selects y.cls y y ∈ zWS := List.mem_filter.mpr ⟨List.mem_append_left _ (List.mem_map.mpr ⟨(y, n), List.mem_append_right _ (List.mem_append_right _ (List.mem_append_right _ (List.mem_append_right _ (List.mem_append_right _ (List.mem_append_right _ (List.mem_append_right _ (List.mem_append_left _ (List.mem_of_getElem? h)))))))), rfl⟩), rfl⟩
theorem zSL9 {y : MethodName} (k n : Nat) (h : lw_privs_9[k]? = some (y, n)) : Cond.selects y.cls y y ∈ zWS := List.mem_filter.mpr ⟨List.mem_append_left _ (List.mem_map.mpr ⟨(y, n), List.mem_append_right _ (List.mem_append_right _ (List.mem_append_right _ (List.mem_append_right _ (List.mem_append_right _ (List.mem_append_right _ (List.mem_append_right _ (List.mem_append_right _ (List.mem_append_left _ (List.mem_of_getElem? h))))))))), rfl⟩), rfl⟩
theorem zSL10 {y : MethodName} (k n : Nat) (h : lw_privs_10[k]? = some (y, n)) : Cond.selects y.cls y y ∈ zWS := List.mem_filter.mpr ⟨List.mem_append_left _ (List.mem_map.mpr ⟨(y, n), List.mem_append_right _ (List.mem_append_right _ (List.mem_append_right _ (List.mem_append_right _ (List.mem_append_right _ (List.mem_append_right _ (List.mem_append_right _ (List.mem_append_right _ (List.mem_append_right _ (List.mem_of_getElem? h))))))))), rfl⟩), rfl⟩
end
section
/-! A uniform world: every cell of a system by a number; the pure state is what its ints and longs are. -/
abbrev zK : Type := Nat × Nat
abbrev zC : Type := (Nat × List zK) ⊕ (FieldType × Nat)
abbrev zS : Type := (Nat → Nat → Int32) × (Nat → Nat → Int64)
abbrev zG : Type := va_G × (FieldType → ClassId) × (Nat → Nat)
abbrev zZ : Type := List vw_C × List zC × (zG → (Nat → Prop) → State → Prop)
abbrev zM : Type := MethodName × ByteArray × Nat × Option FieldType × Nat
abbrev zLo : Type := List (Nat × Value)
abbrev zKK : Type := zLo → List Value → zS → Prop
abbrev zOp : Type := (Option Value → zS → Prop) → (zS → Prop) → (Nat → zKK) → zKK
def zv (ad : Nat → Nat) : Value → Value
  | .ref k => .ref (ad k)
  | v => v
theorem zv_cat (ad : Nat → Nat) (v : Value) : (zv ad v).category = v.category := by cases v <;> rfl
/-- what a field of kind k holds -/
def zsl (σ : zS) (c j : Nat) (k : zK) : Value := match k.1 with
  | 0 => .int (σ.1 c j)
  | 1 => .long (σ.2 c j)
  | 2 => .ref k.2
  | _ => .null
def zcell (G : zG) (σ : zS) (c : Nat) (x : zC) : va_E := match x with
  | .inl o => .inr (o.1, o.2.mapIdx fun j k => zv G.2.2 (zsl σ c j k))
  | .inr a => .inl (G.2.1 a.1, a.2, match a.1 with
    | .long => .inr (.inl (σ.2 c))
    | _ => .inl (σ.1 c))
def zW (Z : zZ) (G : zG) (σ : zS) : va_W := Z.2.1.mapIdx fun c x => (G.2.2 c, zcell G σ c x)
def zHd (Z : zZ) (G : zG) (σ : zS) (H : Heap) : Prop := va_P G.1 Z.1 (zW Z G σ) H
def zA (Z : zZ) (G : zG) : Nat → Prop := fun q => ∃ c, c < Z.2.1.length ∧ q = G.2.2 c
def zT (dA : FieldType → ClassId) : List (ClassId × FieldType) := [(dA .int, .int), (dA .long, .long), (dA .byte, .byte), (dA .short, .short), (dA .boolean, .boolean)]
theorem zNest_tab {w : Cond} (h : zNest w = true) : w.onTables = true := by cases w <;> first | rfl | (simp [zNest] at h)
theorem zNest_warm {w : Cond} {s U : State} (h : zNest w = true) (hW : s.WarmedH U.vm) (hz : va_Nw w s) : va_Nw w U := by
  cases w <;> first | exact va_Nw.warmF hW hz | exact va_Nw.warmM hW hz | (simp [zNest] at h)
/-- what stays the same while a method runs, seen from its start -/
def zEnv (Z : zZ) (G : zG) (s : State) : Prop := va_K G.1 Z.1 (zT G.2.1) s ∧ (∀ i j : Nat, i < Z.2.1.length → j < Z.2.1.length → G.2.2 i = G.2.2 j → i = j) ∧ (∀ w ∈ zNW, va_Nw w s) ∧ Z.2.2 G (zA Z G) s
def zEok (Z : zZ) : Prop := (∀ (G : zG) (A : Nat → Prop) (U : State) (g : JFrame) (mk : MethodId) (a : Array Value), Z.2.2 G A U → Z.2.2 G A (U.calling g mk a)) ∧
  ∀ (G : zG) (A : Nat → Prop) (s U : State), Z.2.2 G A s → s.WarmedH U.vm → s.heap.size ≤ U.heap.size → (∀ q : Nat, q < s.heap.size → ¬ A q → U.heap[q]? = s.heap[q]?) → Z.2.2 G A U
theorem zEnv_call {Z : zZ} {G : zG} {U : State} (hZ : zEok Z) (g : JFrame) (mk : MethodId) (a : Array Value) (h : zEnv Z G U) : zEnv Z G (U.calling g mk a) :=
  ⟨va_K.moved (u := U) (U := U.calling g mk a) (Vm.Alike.refl U.vm) h.1, h.2.1, fun w hw => va_Nw.same (zNest_tab (List.mem_filter.mp hw).2) (show U.vm = (U.calling g mk a).vm from rfl) (h.2.2.1 w hw), hZ.1 G _ U g mk a h.2.2.2⟩
theorem zEnv_warm {Z : zZ} {G : zG} {s U : State} {H : Heap} {locs : List Loc} (hZ : zEok Z) (h : zEnv Z G s) (hU : U.heap = H) (hW : s.WarmedH U.vm) (hS : va_S (zA Z G) s.heap H locs) : zEnv Z G U :=
  ⟨va_K.moved hW.alike h.1, h.2.1, fun w hw => zNest_warm (List.mem_filter.mp hw).2 hW (h.2.2.1 w hw), hZ.2 G _ s U h.2.2.2 hW (by rw [hU]; exact hS.1) (fun q h1 h2 => by rw [hU]; exact hS.2.1 q h1 h2)⟩
theorem zW_get {Z : zZ} {G : zG} {σ : zS} {c : Nat} {x : zC} (h : Z.2.1[c]? = some x) : (zW Z G σ)[c]? = some (G.2.2 c, zcell G σ c x) := by
  simp [zW, List.getElem?_mapIdx, h]
theorem zW_at {Z : zZ} {G : zG} {σ : zS} {k : Nat} {q : Nat × va_E} (h : (zW Z G σ)[k]? = some q) : k < Z.2.1.length ∧ q.1 = G.2.2 k := by
  have hl := (List.getElem?_eq_some_iff.mp h).1
  have hl2 : k < Z.2.1.length := by simpa [zW] using hl
  refine ⟨hl2, ?_⟩
  rw [zW_get (List.getElem?_eq_getElem hl2)] at h
  cases h
  rfl
theorem zW_D {Z : zZ} {G : zG} {σ : zS} (hi : ∀ i j : Nat, i < Z.2.1.length → j < Z.2.1.length → G.2.2 i = G.2.2 j → i = j) : va_D (zA Z G) (zW Z G σ) := by
  refine ⟨fun i j p q h1 h2 e => ?_, fun k q h => ?_⟩
  · obtain ⟨a1, a2⟩ := zW_at h1
    obtain ⟨b1, b2⟩ := zW_at h2
    exact hi i j a1 b1 (by rw [← a2, ← b2, e])
  · obtain ⟨a1, a2⟩ := zW_at h
    exact ⟨k, a1, a2⟩
def zsI (σ : zS) (c j : Nat) (x : Int32) : zS := (fun a b => if a = c ∧ b = j then x else σ.1 a b, σ.2)
def zsL (σ : zS) (c j : Nat) (x : Int64) : zS := (σ.1, fun a b => if a = c ∧ b = j then x else σ.2 a b)
theorem zsl_eq {σ τ : zS} {c j : Nat} {k : zK} (h1 : σ.1 c j = τ.1 c j) (h2 : σ.2 c j = τ.2 c j) : zsl σ c j k = zsl τ c j k := by
  unfold zsl
  split <;> simp_all
theorem zcell_eq {G : zG} {σ τ : zS} {c : Nat} {x : zC} (h1 : σ.1 c = τ.1 c) (h2 : σ.2 c = τ.2 c) : zcell G σ c x = zcell G τ c x := by
  cases x with
  | inl o =>
    have e : (fun (j : Nat) (k : zK) => zv G.2.2 (zsl σ c j k)) = (fun (j : Nat) (k : zK) => zv G.2.2 (zsl τ c j k)) := by
      funext j k
      exact congrArg (zv G.2.2) (zsl_eq (by rw [h1]) (by rw [h2]))
    simp only [zcell, e]
  | inr a => simp only [zcell, h1, h2]
theorem zW_set {Z : zZ} {G : zG} {σ τ : zS} {c : Nat} {x : zC} {e : va_E} (hx : Z.2.1[c]? = some x) (he : zcell G τ c x = e) (ho : ∀ a, a ≠ c → τ.1 a = σ.1 a ∧ τ.2 a = σ.2 a) : (zW Z G σ).set c (G.2.2 c, e) = zW Z G τ := by
  apply List.ext_getElem?
  intro i
  by_cases hi : i = c
  · subst hi
    have hl : i < (zW Z G σ).length := by
      have := (List.getElem?_eq_some_iff.mp hx).1
      simpa [zW] using this
    rw [List.getElem?_set_self hl, zW_get hx, he]
  · rw [List.getElem?_set_ne (fun h => hi h.symm)]
    cases hy : Z.2.1[i]? with
    | none => simp [zW, List.getElem?_mapIdx, hy]
    | some y => rw [zW_get hy, zW_get hy, zcell_eq (ho i hi).1 (ho i hi).2]
theorem zsI_ne {σ : zS} {c j : Nat} {x : Int32} : ∀ a, a ≠ c → (zsI σ c j x).1 a = σ.1 a ∧ (zsI σ c j x).2 a = σ.2 a := fun a h => ⟨by funext b; simp [zsI, h], rfl⟩
theorem zsL_ne {σ : zS} {c j : Nat} {x : Int64} : ∀ a, a ≠ c → (zsL σ c j x).1 a = σ.1 a ∧ (zsL σ c j x).2 a = σ.2 a := fun a h => ⟨rfl, by funext b; simp [zsL, h]⟩
theorem zfs_set {G : zG} {σ τ : zS} {c j : Nat} {ks : List zK} {κ : zK} {v : Value} (hk : ks[j]? = some κ) (hv : zv G.2.2 (zsl τ c j κ) = v) (ho : ∀ i, i ≠ j → τ.1 c i = σ.1 c i ∧ τ.2 c i = σ.2 c i) :
    (ks.mapIdx fun i k => zv G.2.2 (zsl τ c i k)) = (ks.mapIdx fun i k => zv G.2.2 (zsl σ c i k)).set j v := by
  apply List.ext_getElem?
  intro i
  have hl : j < ks.length := (List.getElem?_eq_some_iff.mp hk).1
  by_cases hi : i = j
  · subst hi
    rw [List.getElem?_set_self (by simpa using hl)]
    simp [List.getElem?_mapIdx, hk, hv]
  · rw [List.getElem?_set_ne (fun h => hi h.symm)]
    cases hy : ks[i]? with
    | none => simp [List.getElem?_mapIdx, hy]
    | some y =>
      simp only [List.getElem?_mapIdx, hy, Option.map_some]
      rw [zsl_eq (ho i hi).1 (ho i hi).2]
def zR (d : Nat) : Room := { frames := d, cells := 0, slots := 0, locals := 40 * d }
def zPc (Z : zZ) (G : zG) (As : List Value) (σ : zS) : Array Value → State → Prop := va_Pc (As.map (zv G.2.2)) (fun U => zHd Z G σ U.heap ∧ zEnv Z G U)
def zQc (Z : zZ) (G : zG) (Q : Option Value → zS → Prop) : Array Value → State → Outcome → State → Prop := fun _ st o t => (∃ (v : Option Value) (σ' : zS), o = .returned (v.map (zv G.2.2)) ∧ Q v σ' ∧ zHd Z G σ' t.heap) ∧ va_F (zA Z G) st t
def zXC (Z : zZ) (G : zG) (QX : zS → Prop) : String → State → State → Prop := fun E st t => E = "java/lang/IllegalStateException" ∧ (∃ σ' : zS, QX σ' ∧ zHd Z G σ' t.heap) ∧ va_F (zA Z G) st t
/-- a method's contract: from σ it comes to its end with Q, or throws with QX -/
def zCT (Z : zZ) (M : zM) (As : List Value) (σ : zS) (Q : Option Value → zS → Prop) (QX : zS → Prop) : Prop :=
  ∀ (l : Launch) (G : zG), vx_Met l M.1 (Cond.code M.1 M.2.1 M.2.2.1 M.2.2.2.1 :: zWS) (zR M.2.2.2.2) (zPc Z G As σ) (zQc Z G Q) (zXC Z G QX) 0 0 (zA Z G)
theorem zPc_blind {Z : zZ} {G : zG} {As : List Value} {σ : zS} (hZ : zEok Z) : FrameBlind (zPc Z G As σ) := fun a U g mk h => ⟨h.1, h.2.1, zEnv_call hZ g mk a h.2.2⟩
/-- the facts of a running method -/
def zF (Z : zZ) (M : zM) (G : zG) (p : Program) (l : Launch) (e : Env) (s : State) (m : MethodId) (args : Array Value) (below : List Frame) (meth : Method) (c : Code) : Prop :=
  p.tables.exec = Jvm.exec ∧ c.code = M.2.1 ∧ meth.sig.returnType = M.2.2.2.1 ∧ c.maxLocals = M.2.2.1 ∧ s.vm.findClass M.1.cls = some m.cls ∧ (∀ w ∈ Cond.code M.1 M.2.1 M.2.2.1 M.2.2.2.1 :: zWS, w.before args s = true) ∧ zEnv Z G s ∧ meth.locks = false ∧ (∀ x ∈ c.exceptionTable.toList, False) ∧ zEok Z
def zJ (Z : zZ) (M : zM) (G : zG) (p : Program) (l : Launch) (e : Env) (s : State) (m : MethodId) (args : Array Value) (below : List Frame) (meth : Method) (c : Code) (Q : Option Value → zS → Prop) (QX : zS → Prop) (pc : Nat) (k : zKK) : Prop :=
  ∀ (ls : zLo) (st : List Value) (σ : zS) (H : Heap) (locs : List Loc) (la : Array Slot), zHd Z G σ H → va_S (zA Z G) s.heap H locs → lv_has la M.2.2.1 (ls.map fun q => (q.1, zv G.2.2 q.2)) → k ls st σ →
    W p l e (zR M.2.2.2.2) s m args below meth c H locs 0 0 (vx_MQ below (zQc Z G Q) (zXC Z G QX) args s 0 0 (zA Z G)) (F0 m pc la (st.map (zv G.2.2)))
def zSnd (Z : zZ) (M : zM) (pc : Nat) (op : zOp) : Prop :=
  ∀ (G : zG) (p : Program) (l : Launch) (e : Env) (s : State) (m : MethodId) (args : Array Value) (below : List Frame) (meth : Method) (c : Code), zF Z M G p l e s m args below meth c →
    ∀ (Q : Option Value → zS → Prop) (QX : zS → Prop) (tr : Nat → zKK), (∀ t, zJ Z M G p l e s m args below meth c Q QX t (tr t)) → zJ Z M G p l e s m args below meth c Q QX pc (op Q QX tr)
/-- a code's walk from the place go: J tells where it stops, B what is asked there -/
def zwp (J : Nat → Bool) (B : Nat → zKK) (Q : Option Value → zS → Prop) (QX : zS → Prop) : List (Nat × zOp) → Nat → zKK
  | [], _ => fun _ _ _ => False
  | q :: r, go => bif Nat.blt q.1 go then zwp J B Q QX r go else bif Nat.beq q.1 go then q.2 Q QX (fun t => bif J t then B t else zwp J B Q QX r t) else fun _ _ _ => False
theorem zwp_ok {Z : zZ} {M : zM} {G : zG} {p : Program} {l : Launch} {e : Env} {s : State} {m : MethodId} {args : Array Value} {below : List Frame} {meth : Method} {c : Code} (F : zF Z M G p l e s m args below meth c) {Q : Option Value → zS → Prop} {QX : zS → Prop} {J : Nat → Bool} {B : Nat → zKK}
    (hB : ∀ t, J t = true → zJ Z M G p l e s m args below meth c Q QX t (B t)) : ∀ (code : List (Nat × zOp)), (∀ q ∈ code, zSnd Z M q.1 q.2) → ∀ go, zJ Z M G p l e s m args below meth c Q QX go (zwp J B Q QX code go) := by
  intro code
  induction code with
  | nil => intro _ go ls st σ H locs la _ _ _ hk; exact hk.elim
  | cons q r ih =>
    intro hc go
    have ihr := ih (fun x hx => hc x (List.mem_cons_of_mem _ hx))
    unfold zwp
    cases h1 : Nat.blt q.1 go with
    | true => exact ihr go
    | false =>
      cases h2 : Nat.beq q.1 go with
      | false => intro ls st σ H locs la _ _ _ hk; exact hk.elim
      | true =>
        have e2 : q.1 = go := Nat.eq_of_beq_eq_true h2
        subst e2
        refine hc q List.mem_cons_self G p l e s m args below meth c F Q QX _ (fun t => ?_)
        cases h3 : J t with
        | true => exact hB t h3
        | false => exact ihr t
/-- a method out of its code: Inv t n is what holds at the stop t with measure n -/
theorem zCT_of {Z : zZ} {M : zM} {As : List Value} {σ : zS} {Q : Option Value → zS → Prop} {QX : zS → Prop} (hZ : zEok Z) (hpn : plainName M.1.cls = true) (hn : (lg_sl As).length ≤ M.2.2.1) (code : List (Nat × zOp)) (hc : ∀ q ∈ code, zSnd Z M q.1 q.2) (J : Nat → Bool) (Inv : Nat → Nat → zKK)
    (hs : ∀ n t ls st σ', J t = true → Inv t n ls st σ' → zwp J (fun t' ls' st' σ'' => ∃ n', n' < n ∧ Inv t' n' ls' st' σ'') Q QX code t ls st σ')
    (h0 : zwp J (fun t' ls' st' σ'' => ∃ n', Inv t' n' ls' st' σ'') Q QX code 0 (lv_args 0 As) [] σ) : zCT Z M As σ Q QX := by
  intro l G
  refine vx_ofW (cc := M.2.1) (maxL := M.2.2.1) (ret := M.2.2.2.1) hpn rfl ?_
  intro p e s m args below meth c s₁ B hml hxt hv
  obtain ⟨rfl, hH, hE⟩ := hv
  have hts := atoms_spec (ws := Cond.code M.1 M.2.1 M.2.2.1 M.2.2.2.1 :: zWS) B.pre
  have F : zF Z M G p l e s m (As.map (zv G.2.2)).toArray below meth c := ⟨B.exec, B.bytes, B.returns, hml, findClass_of_methodNamed B.named, hts, hE, B.notSynchronized, hxt, hZ⟩
  have key : ∀ n t, J t = true → zJ Z M G p l e s m (As.map (zv G.2.2)).toArray below meth c Q QX t (Inv t n) := by
    intro n
    induction n using Nat.strongRecOn with
    | ind n ih =>
      intro t ht ls st σ' H locs la a1 a2 a3 a4
      refine zwp_ok F (B := fun t' ls' st' σ'' => ∃ n', n' < n ∧ Inv t' n' ls' st' σ'') (fun t' ht' ls' st' σ'' H' locs' la' b1 b2 b3 b4 => ?_) code hc t ls st σ' H locs la a1 a2 a3 (hs n t ls st σ' ht a4)
      obtain ⟨n', hn', hI⟩ := b4
      exact ih n' hn' t' ht' ls' st' σ'' H' locs' la' b1 b2 b3 hI
  have hlen : (lg_sl (As.map (zv G.2.2))).length = (lg_sl As).length := by
    clear hs h0 hc key F hts hE hH B hn
    induction As with
    | nil => rfl
    | cons v r ih => cases v <;> simp_all [lg_sl, zv, Value.category]
  have hargs : ∀ (i : Nat) (vs : List Value), lv_args i (vs.map (zv G.2.2)) = (lv_args i vs).map fun q => (q.1, zv G.2.2 q.2) := by
    intro i vs
    induction vs generalizing i with
    | nil => rfl
    | cons v r ih => simp only [List.map_cons, lv_args, zv_cat, ih]
  have hl := lv_entry (As.map (zv G.2.2)) (n := M.2.2.1) (by rw [hlen]; exact hn)
  rw [lg_entry_eq]
  refine zwp_ok F (B := fun t' ls' st' σ'' => ∃ n', Inv t' n' ls' st' σ'') (fun t' ht' ls' st' σ'' H' locs' la' b1 b2 b3 b4 => ?_) code hc 0 (lv_args 0 As) [] σ s.heap [] _ hH va_S.rf (by rw [← hargs]; exact hl) h0
  obtain ⟨n', hI⟩ := b4
  exact key n' t' ht' ls' st' σ'' H' locs' la' b1 b2 b3 hI
end
section
def zat {α : Type} : List α → Nat → Option α
  | [], _ => none
  | a :: _, 0 => some a
  | _ :: r, n + 1 => zat r n
theorem zat_eq {α : Type} (l : List α) (n : Nat) : zat l n = l[n]? := by
  induction l generalizing n with
  | nil => simp [zat]
  | cons a r ih => cases n with
    | zero => simp [zat]
    | succ n => simp [zat, ih]
def zget : zLo → Nat → Option Value
  | [], _ => none
  | q :: r, i => bif Nat.beq q.1 i then some q.2 else zget r i
theorem zget_mem {ls : zLo} {i : Nat} {v : Value} (h : zget ls i = some v) : (i, v) ∈ ls := by
  induction ls with
  | nil => cases h
  | cons q r ih =>
    unfold zget at h
    cases hb : Nat.beq q.1 i with
    | true =>
      rw [hb] at h
      have e := Nat.eq_of_beq_eq_true hb
      cases h
      subst e
      exact List.mem_cons_self
    | false =>
      rw [hb] at h
      exact List.mem_cons_of_mem _ (ih h)
theorem zget_at {ls : zLo} {i nL : Nat} {v : Value} {la : Array Slot} {ad : Nat → Nat} (h : zget ls i = some v) (hl : lv_has la nL (ls.map fun q => (q.1, zv ad q.2))) : la[i]? = some (.val (zv ad v)) :=
  hl.2.2 (i, zv ad v) (List.mem_map.mpr ⟨(i, v), zget_mem h, rfl⟩)
def zwide : Value → Bool
  | .long _ => true
  | .double _ => true
  | _ => false
theorem zwide_cat (v : Value) : zwide v = (v.category == 2) := by cases v <;> rfl
/-- the locals behind a store of one slot -/
def zdel1 (i : Nat) : zLo → zLo
  | [] => []
  | q :: r => bif Nat.beq q.1 i then zdel1 i r else bif Nat.beq (q.1 + 1) i && zwide q.2 then zdel1 i r else q :: zdel1 i r
def zdel2 (i : Nat) : zLo → zLo
  | [] => []
  | q :: r => bif Nat.beq q.1 i then zdel2 i r else bif Nat.beq q.1 (i + 1) then zdel2 i r else bif Nat.beq (q.1 + 1) i && zwide q.2 then zdel2 i r else q :: zdel2 i r
theorem zbeq_eq (a b : Nat) : Nat.beq a b = (a == b) := by
  cases h : Nat.beq a b with
  | true => have := Nat.eq_of_beq_eq_true h; subst this; simp
  | false => have := Nat.ne_of_beq_eq_false h; simp [this]
theorem zdel1_mem {i : Nat} {ls : zLo} {q : Nat × Value} (h : q ∈ zdel1 i ls) : q ∈ ls ∧ (!(q.1 == i) && !(q.1 + 1 == i && q.2.category == 2)) = true := by
  induction ls with
  | nil => cases h
  | cons x r ih =>
    unfold zdel1 at h
    cases h1 : Nat.beq x.1 i with
    | true =>
      rw [h1] at h
      exact ⟨List.mem_cons_of_mem _ (ih h).1, (ih h).2⟩
    | false =>
      rw [h1] at h
      cases h2 : (Nat.beq (x.1 + 1) i && zwide x.2) with
      | true =>
        rw [h2] at h
        exact ⟨List.mem_cons_of_mem _ (ih h).1, (ih h).2⟩
      | false =>
        rw [h2] at h
        rcases List.mem_cons.mp h with e | e
        · subst e
          refine ⟨List.mem_cons_self, ?_⟩
          rw [zbeq_eq] at h1
          rw [zbeq_eq, zwide_cat] at h2
          rw [h1, h2]; rfl
        · exact ⟨List.mem_cons_of_mem _ (ih e).1, (ih e).2⟩
theorem zdel2_mem {i : Nat} {ls : zLo} {q : Nat × Value} (h : q ∈ zdel2 i ls) : q ∈ ls ∧ (!(q.1 == i) && (!(q.1 == i + 1) && !(q.1 + 1 == i && q.2.category == 2))) = true := by
  induction ls with
  | nil => cases h
  | cons x r ih =>
    unfold zdel2 at h
    cases h1 : Nat.beq x.1 i with
    | true =>
      rw [h1] at h
      exact ⟨List.mem_cons_of_mem _ (ih h).1, (ih h).2⟩
    | false =>
      rw [h1] at h
      cases h3 : Nat.beq x.1 (i + 1) with
      | true =>
        rw [h3] at h
        exact ⟨List.mem_cons_of_mem _ (ih h).1, (ih h).2⟩
      | false =>
        rw [h3] at h
        cases h2 : (Nat.beq (x.1 + 1) i && zwide x.2) with
        | true =>
          rw [h2] at h
          exact ⟨List.mem_cons_of_mem _ (ih h).1, (ih h).2⟩
        | false =>
          rw [h2] at h
          rcases List.mem_cons.mp h with e | e
          · subst e
            refine ⟨List.mem_cons_self, ?_⟩
            rw [zbeq_eq] at h1
            rw [zbeq_eq] at h3
            rw [zbeq_eq, zwide_cat] at h2
            rw [h1, h2, h3]; rfl
          · exact ⟨List.mem_cons_of_mem _ (ih e).1, (ih e).2⟩
theorem zhas_sub {la : Array Slot} {nL : Nat} {l l' : List (Nat × Value)} (h : lv_has la nL l) (hs : ∀ q ∈ l', q ∈ l) : lv_has la nL l' := ⟨h.1, h.2.1, fun q hq => h.2.2 q (hs q hq)⟩
def zst1 (i : Nat) (v : Value) (ls : zLo) : zLo := (i, v) :: zdel1 i ls
def zst2 (i : Nat) (v : Value) (ls : zLo) : zLo := (i, v) :: zdel2 i ls
theorem zst1_sub {i : Nat} {v : Value} {ls : zLo} {ad : Nat → Nat} : ∀ q ∈ ((zst1 i v ls).map fun q => (q.1, zv ad q.2)), q ∈ (i, zv ad v) :: (ls.map fun q => (q.1, zv ad q.2)).filter (fun q => !(q.1 == i) && !(q.1 + 1 == i && q.2.category == 2)) := by
  intro q hq
  obtain ⟨x, hx, rfl⟩ := List.mem_map.mp hq
  rcases List.mem_cons.mp hx with e | e
  · subst e; exact List.mem_cons_self
  · obtain ⟨h1, h2⟩ := zdel1_mem e
    exact List.mem_cons_of_mem _ (List.mem_filter.mpr ⟨List.mem_map.mpr ⟨x, h1, rfl⟩, by simpa [zv_cat] using h2⟩)
theorem zst2_sub {i : Nat} {v : Value} {ls : zLo} {ad : Nat → Nat} : ∀ q ∈ ((zst2 i v ls).map fun q => (q.1, zv ad q.2)), q ∈ (i, zv ad v) :: (ls.map fun q => (q.1, zv ad q.2)).filter (fun q => !(q.1 == i) && (!(q.1 == i + 1) && !(q.1 + 1 == i && q.2.category == 2))) := by
  intro q hq
  obtain ⟨x, hx, rfl⟩ := List.mem_map.mp hq
  rcases List.mem_cons.mp hx with e | e
  · subst e; exact List.mem_cons_self
  · obtain ⟨h1, h2⟩ := zdel2_mem e
    exact List.mem_cons_of_mem _ (List.mem_filter.mpr ⟨List.mem_map.mpr ⟨x, h1, rfl⟩, by simpa [zv_cat] using h2⟩)
section ZOPS
variable {Z : zZ} {M : zM} {pc : Nat}
def o_ic (x : Int32) (n : Nat) : zOp := fun Q QX tr ls st σ => tr n ls (.int x :: st) σ
def o_lc (x : Int64) (n : Nat) : zOp := fun Q QX tr ls st σ => tr n ls (.long x :: st) σ
theorem s_iconst {i : Int} {x : Int32} (hd : decode M.2.1 pc = .ok (.iconst i, 1)) (hv : Int32.ofInt i = x) : zSnd Z M pc (o_ic x (pc + 1)) := by
  intro G p l e s m args below meth c F Q QX tr htr ls st σ H locs la hH hS hl hk
  exact lv_iconst F.1 F.2.1 hd hv (htr _ ls _ σ H locs la hH hS hl hk)
theorem s_bipush {i : Int} {x : Int32} (hd : decode M.2.1 pc = .ok (.bipush i, 2)) (hv : (Int8.ofInt i).toInt32 = x) : zSnd Z M pc (o_ic x (pc + 2)) := by
  intro G p l e s m args below meth c F Q QX tr htr ls st σ H locs la hH hS hl hk
  exact lv_bipush F.1 F.2.1 hd hv (htr _ ls _ σ H locs la hH hS hl hk)
theorem s_sipush {i : Int} {x : Int32} (hd : decode M.2.1 pc = .ok (.sipush i, 3)) (hv : (Int16.ofInt i).toInt32 = x) : zSnd Z M pc (o_ic x (pc + 3)) := by
  intro G p l e s m args below meth c F Q QX tr htr ls st σ H locs la hH hS hl hk
  exact lv_sipush F.1 F.2.1 hd hv (htr _ ls _ σ H locs la hH hS hl hk)
theorem s_lconst {i : Fin 2} {x : Int64} (hd : decode M.2.1 pc = .ok (.lconst i, 1)) (hv : Int64.ofNat (i : Nat) = x) : zSnd Z M pc (o_lc x (pc + 1)) := by
  intro G p l e s m args below meth c F Q QX tr htr ls st σ H locs la hH hS hl hk
  exact lv_lconst F.1 F.2.1 hd hv (htr _ ls _ σ H locs la hH hS hl hk)
theorem s_ldc {i : Nat} {x : Int32} (hd : decode M.2.1 pc = .ok (.ldc i, 2)) (hw : Cond.constant M.1.cls i x ∈ zWS) : zSnd Z M pc (o_ic x (pc + 2)) := by
  intro G p l e s m args below meth c F Q QX tr htr ls st σ H locs la hH hS hl hk
  exact lv_ldc F.1 F.2.1 F.2.2.2.2.1 (F.2.2.2.2.2.1 _ (List.mem_cons_of_mem _ hw)) hd (htr _ ls _ σ H locs la hH hS hl hk)
theorem s_ldc2 {i : Nat} {x : Int64} (hd : decode M.2.1 pc = .ok (.ldc2_w i, 3)) (hw : Cond.constantLong M.1.cls i x ∈ zWS) : zSnd Z M pc (o_lc x (pc + 3)) := by
  intro G p l e s m args below meth c F Q QX tr htr ls st σ H locs la hH hS hl hk
  exact lv_ldc2 F.1 F.2.1 F.2.2.2.2.1 (F.2.2.2.2.2.1 _ (List.mem_cons_of_mem _ hw)) hd (htr _ ls _ σ H locs la hH hS hl hk)
def o_iload (i n : Nat) : zOp := fun Q QX tr ls st σ => match zget ls i with
  | some (.int x) => tr n ls (.int x :: st) σ
  | _ => False
theorem s_iload_n {k : Fin 4} {i : Nat} (hd : decode M.2.1 pc = .ok (.iload_n k, 1)) (hi : (k : Nat) = i) : zSnd Z M pc (o_iload i (pc + 1)) := by
  intro G p l e s m args below meth c F Q QX tr htr ls st σ H locs la hH hS hl hk
  unfold o_iload at hk
  split at hk
  · rename_i x hx
    exact lv_iload_n F.1 F.2.1 hd hi (zget_at hx hl) (htr _ ls _ σ H locs la hH hS hl hk)
  · exact hk.elim
theorem s_iload {i : Nat} (hd : decode M.2.1 pc = .ok (.iload i, 2)) : zSnd Z M pc (o_iload i (pc + 2)) := by
  intro G p l e s m args below meth c F Q QX tr htr ls st σ H locs la hH hS hl hk
  unfold o_iload at hk
  split at hk
  · rename_i x hx
    exact lv_iload F.1 F.2.1 hd (zget_at hx hl) (htr _ ls _ σ H locs la hH hS hl hk)
  · exact hk.elim
def o_lload (i n : Nat) : zOp := fun Q QX tr ls st σ => match zget ls i with
  | some (.long x) => tr n ls (.long x :: st) σ
  | _ => False
theorem s_lload_n {k : Fin 4} {i : Nat} (hd : decode M.2.1 pc = .ok (.lload_n k, 1)) (hi : (k : Nat) = i) : zSnd Z M pc (o_lload i (pc + 1)) := by
  intro G p l e s m args below meth c F Q QX tr htr ls st σ H locs la hH hS hl hk
  unfold o_lload at hk
  split at hk
  · rename_i x hx
    exact lv_lload_n F.1 F.2.1 hd hi (zget_at hx hl) (htr _ ls _ σ H locs la hH hS hl hk)
  · exact hk.elim
theorem s_lload {i : Nat} (hd : decode M.2.1 pc = .ok (.lload i, 2)) : zSnd Z M pc (o_lload i (pc + 2)) := by
  intro G p l e s m args below meth c F Q QX tr htr ls st σ H locs la hH hS hl hk
  unfold o_lload at hk
  split at hk
  · rename_i x hx
    exact lv_lload F.1 F.2.1 hd (zget_at hx hl) (htr _ ls _ σ H locs la hH hS hl hk)
  · exact hk.elim
def o_aload (i n : Nat) : zOp := fun Q QX tr ls st σ => match zget ls i with
  | some (.ref x) => tr n ls (.ref x :: st) σ
  | _ => False
theorem s_aload_n {k : Fin 4} {i : Nat} (hd : decode M.2.1 pc = .ok (.aload_n k, 1)) (hi : (k : Nat) = i) : zSnd Z M pc (o_aload i (pc + 1)) := by
  intro G p l e s m args below meth c F Q QX tr htr ls st σ H locs la hH hS hl hk
  unfold o_aload at hk
  split at hk
  · rename_i x hx
    exact lv_aload_n F.1 F.2.1 hd hi (zget_at hx hl) (htr _ ls _ σ H locs la hH hS hl hk)
  · exact hk.elim
theorem s_aload {i : Nat} (hd : decode M.2.1 pc = .ok (.aload i, 2)) : zSnd Z M pc (o_aload i (pc + 2)) := by
  intro G p l e s m args below meth c F Q QX tr htr ls st σ H locs la hH hS hl hk
  unfold o_aload at hk
  split at hk
  · rename_i x hx
    exact lv_aload F.1 F.2.1 hd (zget_at hx hl) (htr _ ls _ σ H locs la hH hS hl hk)
  · exact hk.elim
def o_istore (i n : Nat) : zOp := fun Q QX tr ls st σ => match st with
  | .int x :: r => tr n (zst1 i (.int x) ls) r σ
  | _ => False
theorem s_istore_n {k : Fin 4} {i : Nat} (hd : decode M.2.1 pc = .ok (.istore_n k, 1)) (hi : (k : Nat) = i) (hb : i < M.2.2.1) : zSnd Z M pc (o_istore i (pc + 1)) := by
  intro G p l e s m args below meth c F Q QX tr htr ls st σ H locs la hH hS hl hk
  unfold o_istore at hk
  split at hk
  · exact lv_istore_n F.1 F.2.1 hd hi hl hb rfl (fun la' h' => htr _ _ _ σ H locs la' hH hS (zhas_sub h' zst1_sub) hk)
  · exact hk.elim
theorem s_istore {i : Nat} (hd : decode M.2.1 pc = .ok (.istore i, 2)) (hb : i < M.2.2.1) : zSnd Z M pc (o_istore i (pc + 2)) := by
  intro G p l e s m args below meth c F Q QX tr htr ls st σ H locs la hH hS hl hk
  unfold o_istore at hk
  split at hk
  · exact lv_istore F.1 F.2.1 hd hl hb rfl (fun la' h' => htr _ _ _ σ H locs la' hH hS (zhas_sub h' zst1_sub) hk)
  · exact hk.elim
def o_lstore (i n : Nat) : zOp := fun Q QX tr ls st σ => match st with
  | .long x :: r => tr n (zst2 i (.long x) ls) r σ
  | _ => False
theorem s_lstore_n {k : Fin 4} {i : Nat} (hd : decode M.2.1 pc = .ok (.lstore_n k, 1)) (hi : (k : Nat) = i) (hb : i + 1 < M.2.2.1) : zSnd Z M pc (o_lstore i (pc + 1)) := by
  intro G p l e s m args below meth c F Q QX tr htr ls st σ H locs la hH hS hl hk
  unfold o_lstore at hk
  split at hk
  · exact lv_lstore_n F.1 F.2.1 hd hi hl hb rfl (fun la' h' => htr _ _ _ σ H locs la' hH hS (zhas_sub h' zst2_sub) hk)
  · exact hk.elim
theorem s_lstore {i : Nat} (hd : decode M.2.1 pc = .ok (.lstore i, 2)) (hb : i + 1 < M.2.2.1) : zSnd Z M pc (o_lstore i (pc + 2)) := by
  intro G p l e s m args below meth c F Q QX tr htr ls st σ H locs la hH hS hl hk
  unfold o_lstore at hk
  split at hk
  · exact lv_lstore F.1 F.2.1 hd hl hb rfl (fun la' h' => htr _ _ _ σ H locs la' hH hS (zhas_sub h' zst2_sub) hk)
  · exact hk.elim
def o_astore (i n : Nat) : zOp := fun Q QX tr ls st σ => match st with
  | .ref x :: r => tr n (zst1 i (.ref x) ls) r σ
  | _ => False
theorem s_astore_n {k : Fin 4} {i : Nat} (hd : decode M.2.1 pc = .ok (.astore_n k, 1)) (hi : (k : Nat) = i) (hb : i < M.2.2.1) : zSnd Z M pc (o_astore i (pc + 1)) := by
  intro G p l e s m args below meth c F Q QX tr htr ls st σ H locs la hH hS hl hk
  unfold o_astore at hk
  split at hk
  · exact lv_astore_n F.1 F.2.1 hd hi hl hb rfl (fun la' h' => htr _ _ _ σ H locs la' hH hS (zhas_sub h' zst1_sub) hk)
  · exact hk.elim
theorem s_astore {i : Nat} (hd : decode M.2.1 pc = .ok (.astore i, 2)) (hb : i < M.2.2.1) : zSnd Z M pc (o_astore i (pc + 2)) := by
  intro G p l e s m args below meth c F Q QX tr htr ls st σ H locs la hH hS hl hk
  unfold o_astore at hk
  split at hk
  · exact lv_astore F.1 F.2.1 hd hl hb rfl (fun la' h' => htr _ _ _ σ H locs la' hH hS (zhas_sub h' zst1_sub) hk)
  · exact hk.elim
def o_iinc (i : Nat) (d : Int32) (n : Nat) : zOp := fun Q QX tr ls st σ => match zget ls i with
  | some (.int x) => tr n (zst1 i (.int (x + d)) ls) st σ
  | _ => False
theorem s_iinc {i : Nat} {a : Int} {d : Int32} (hd : decode M.2.1 pc = .ok (.iinc i a, 3)) (hv : Int32.ofInt a = d) (hb : i < M.2.2.1) : zSnd Z M pc (o_iinc i d (pc + 3)) := by
  intro G p l e s m args below meth c F Q QX tr htr ls st σ H locs la hH hS hl hk
  unfold o_iinc at hk
  split at hk
  · rename_i x hx
    have hm : (i, Value.int x) ∈ (ls.map fun q => (q.1, zv G.2.2 q.2)) := List.mem_map.mpr ⟨(i, .int x), zget_mem hx, rfl⟩
    obtain ⟨j, hj⟩ := List.getElem?_of_mem hm
    exact lv_iinc F.1 F.2.1 hd hl hj (by rw [hv]) hb rfl (fun la' h' => htr _ _ _ σ H locs la' hH hS (zhas_sub h' zst1_sub) hk)
  · exact hk.elim
def o_ibin (f : Int32 → Int32 → Int32) (n : Nat) : zOp := fun Q QX tr ls st σ => match st with
  | .int y :: .int x :: r => tr n ls (.int (f x y) :: r) σ
  | _ => False
def o_lbin (f : Int64 → Int64 → Int64) (n : Nat) : zOp := fun Q QX tr ls st σ => match st with
  | .long y :: .long x :: r => tr n ls (.long (f x y) :: r) σ
  | _ => False
def o_lsh (f : Int64 → Int32 → Int64) (n : Nat) : zOp := fun Q QX tr ls st σ => match st with
  | .int y :: .long x :: r => tr n ls (.long (f x y) :: r) σ
  | _ => False
def o_iun (f : Int32 → Int32) (n : Nat) : zOp := fun Q QX tr ls st σ => match st with
  | .int x :: r => tr n ls (.int (f x) :: r) σ
  | _ => False
def o_i2l (n : Nat) : zOp := fun Q QX tr ls st σ => match st with
  | .int x :: r => tr n ls (.long x.toInt64 :: r) σ
  | _ => False
def o_l2i (n : Nat) : zOp := fun Q QX tr ls st σ => match st with
  | .long x :: r => tr n ls (.int x.toInt32 :: r) σ
  | _ => False
theorem s_iadd (hd : decode M.2.1 pc = .ok (.iadd, 1)) : zSnd Z M pc (o_ibin (fun x y => x + y) (pc + 1)) := by
  intro G p l e s m args below meth c F Q QX tr htr ls st σ H locs la hH hS hl hk
  unfold o_ibin at hk
  split at hk
  · exact lv_iadd F.1 F.2.1 hd (htr _ ls _ σ H locs la hH hS hl hk)
  · exact hk.elim
theorem s_isub (hd : decode M.2.1 pc = .ok (.isub, 1)) : zSnd Z M pc (o_ibin (fun x y => x - y) (pc + 1)) := by
  intro G p l e s m args below meth c F Q QX tr htr ls st σ H locs la hH hS hl hk
  unfold o_ibin at hk
  split at hk
  · exact lv_isub F.1 F.2.1 hd (htr _ ls _ σ H locs la hH hS hl hk)
  · exact hk.elim
theorem s_imul (hd : decode M.2.1 pc = .ok (.imul, 1)) : zSnd Z M pc (o_ibin (fun x y => x * y) (pc + 1)) := by
  intro G p l e s m args below meth c F Q QX tr htr ls st σ H locs la hH hS hl hk
  unfold o_ibin at hk
  split at hk
  · exact lv_imul F.1 F.2.1 hd (htr _ ls _ σ H locs la hH hS hl hk)
  · exact hk.elim
theorem s_iand (hd : decode M.2.1 pc = .ok (.iand, 1)) : zSnd Z M pc (o_ibin (fun x y => x &&& y) (pc + 1)) := by
  intro G p l e s m args below meth c F Q QX tr htr ls st σ H locs la hH hS hl hk
  unfold o_ibin at hk
  split at hk
  · exact lv_iand F.1 F.2.1 hd (htr _ ls _ σ H locs la hH hS hl hk)
  · exact hk.elim
theorem s_ior (hd : decode M.2.1 pc = .ok (.ior, 1)) : zSnd Z M pc (o_ibin (fun x y => x ||| y) (pc + 1)) := by
  intro G p l e s m args below meth c F Q QX tr htr ls st σ H locs la hH hS hl hk
  unfold o_ibin at hk
  split at hk
  · exact lv_ior F.1 F.2.1 hd (htr _ ls _ σ H locs la hH hS hl hk)
  · exact hk.elim
theorem s_ixor (hd : decode M.2.1 pc = .ok (.ixor, 1)) : zSnd Z M pc (o_ibin (fun x y => x ^^^ y) (pc + 1)) := by
  intro G p l e s m args below meth c F Q QX tr htr ls st σ H locs la hH hS hl hk
  unfold o_ibin at hk
  split at hk
  · exact lv_ixor F.1 F.2.1 hd (htr _ ls _ σ H locs la hH hS hl hk)
  · exact hk.elim
theorem s_ishl (hd : decode M.2.1 pc = .ok (.ishl, 1)) : zSnd Z M pc (o_ibin (fun x y => x <<< (y &&& 31)) (pc + 1)) := by
  intro G p l e s m args below meth c F Q QX tr htr ls st σ H locs la hH hS hl hk
  unfold o_ibin at hk
  split at hk
  · exact lv_ishl F.1 F.2.1 hd (htr _ ls _ σ H locs la hH hS hl hk)
  · exact hk.elim
theorem s_ishr (hd : decode M.2.1 pc = .ok (.ishr, 1)) : zSnd Z M pc (o_ibin (fun x y => x >>> (y &&& 31)) (pc + 1)) := by
  intro G p l e s m args below meth c F Q QX tr htr ls st σ H locs la hH hS hl hk
  unfold o_ibin at hk
  split at hk
  · exact lv_ishr F.1 F.2.1 hd (htr _ ls _ σ H locs la hH hS hl hk)
  · exact hk.elim
theorem s_iushr (hd : decode M.2.1 pc = .ok (.iushr, 1)) : zSnd Z M pc (o_ibin (fun x y => (x.toUInt32 >>> (y.toUInt32 &&& Int32.toUInt32 31)).toInt32) (pc + 1)) := by
  intro G p l e s m args below meth c F Q QX tr htr ls st σ H locs la hH hS hl hk
  unfold o_ibin at hk
  split at hk
  · exact lv_iushr F.1 F.2.1 hd rfl (htr _ ls _ σ H locs la hH hS hl hk)
  · exact hk.elim
theorem s_ladd (hd : decode M.2.1 pc = .ok (.ladd, 1)) : zSnd Z M pc (o_lbin (fun x y => x + y) (pc + 1)) := by
  intro G p l e s m args below meth c F Q QX tr htr ls st σ H locs la hH hS hl hk
  unfold o_lbin at hk
  split at hk
  · exact lv_ladd F.1 F.2.1 hd (htr _ ls _ σ H locs la hH hS hl hk)
  · exact hk.elim
theorem s_lsub (hd : decode M.2.1 pc = .ok (.lsub, 1)) : zSnd Z M pc (o_lbin (fun x y => x - y) (pc + 1)) := by
  intro G p l e s m args below meth c F Q QX tr htr ls st σ H locs la hH hS hl hk
  unfold o_lbin at hk
  split at hk
  · exact lv_lsub F.1 F.2.1 hd (htr _ ls _ σ H locs la hH hS hl hk)
  · exact hk.elim
theorem s_lor (hd : decode M.2.1 pc = .ok (.lor, 1)) : zSnd Z M pc (o_lbin (fun x y => x ||| y) (pc + 1)) := by
  intro G p l e s m args below meth c F Q QX tr htr ls st σ H locs la hH hS hl hk
  unfold o_lbin at hk
  split at hk
  · exact lv_lor F.1 F.2.1 hd (htr _ ls _ σ H locs la hH hS hl hk)
  · exact hk.elim
theorem s_land (hd : decode M.2.1 pc = .ok (.land, 1)) : zSnd Z M pc (o_lbin (fun x y => x &&& y) (pc + 1)) := by
  intro G p l e s m args below meth c F Q QX tr htr ls st σ H locs la hH hS hl hk
  unfold o_lbin at hk
  split at hk
  · exact lv_land F.1 F.2.1 hd (htr _ ls _ σ H locs la hH hS hl hk)
  · exact hk.elim
theorem s_lshl (hd : decode M.2.1 pc = .ok (.lshl, 1)) : zSnd Z M pc (o_lsh (fun x y => x <<< (y.toInt64 &&& 63)) (pc + 1)) := by
  intro G p l e s m args below meth c F Q QX tr htr ls st σ H locs la hH hS hl hk
  unfold o_lsh at hk
  split at hk
  · exact lv_lshl F.1 F.2.1 hd rfl (htr _ ls _ σ H locs la hH hS hl hk)
  · exact hk.elim
theorem s_i2b (hd : decode M.2.1 pc = .ok (.i2b, 1)) : zSnd Z M pc (o_iun (fun x => x.toInt8.toInt32) (pc + 1)) := by
  intro G p l e s m args below meth c F Q QX tr htr ls st σ H locs la hH hS hl hk
  unfold o_iun at hk
  split at hk
  · exact lv_i2b F.1 F.2.1 hd rfl (htr _ ls _ σ H locs la hH hS hl hk)
  · exact hk.elim
theorem s_i2s (hd : decode M.2.1 pc = .ok (.i2s, 1)) : zSnd Z M pc (o_iun (fun x => x.toInt16.toInt32) (pc + 1)) := by
  intro G p l e s m args below meth c F Q QX tr htr ls st σ H locs la hH hS hl hk
  unfold o_iun at hk
  split at hk
  · exact lv_i2s F.1 F.2.1 hd rfl (htr _ ls _ σ H locs la hH hS hl hk)
  · exact hk.elim
theorem s_i2c (hd : decode M.2.1 pc = .ok (.i2c, 1)) : zSnd Z M pc (o_iun (fun x => (x.toUInt32 % 65536).toInt32) (pc + 1)) := by
  intro G p l e s m args below meth c F Q QX tr htr ls st σ H locs la hH hS hl hk
  unfold o_iun at hk
  split at hk
  · exact lv_i2c F.1 F.2.1 hd rfl (htr _ ls _ σ H locs la hH hS hl hk)
  · exact hk.elim
theorem s_i2l (hd : decode M.2.1 pc = .ok (.i2l, 1)) : zSnd Z M pc (o_i2l (pc + 1)) := by
  intro G p l e s m args below meth c F Q QX tr htr ls st σ H locs la hH hS hl hk
  unfold o_i2l at hk
  split at hk
  · exact lv_i2l F.1 F.2.1 hd rfl (htr _ ls _ σ H locs la hH hS hl hk)
  · exact hk.elim
theorem s_l2i (hd : decode M.2.1 pc = .ok (.l2i, 1)) : zSnd Z M pc (o_l2i (pc + 1)) := by
  intro G p l e s m args below meth c F Q QX tr htr ls st σ H locs la hH hS hl hk
  unfold o_l2i at hk
  split at hk
  · exact lv_l2i F.1 F.2.1 hd rfl (htr _ ls _ σ H locs la hH hS hl hk)
  · exact hk.elim
def o_dup (n : Nat) : zOp := fun Q QX tr ls st σ => match st with
  | v :: r => bif zwide v then False else tr n ls (v :: v :: r) σ
  | _ => False
def o_pop (n : Nat) : zOp := fun Q QX tr ls st σ => match st with
  | v :: r => bif zwide v then False else tr n ls r σ
  | _ => False
def o_pop2 (n : Nat) : zOp := fun Q QX tr ls st σ => match st with
  | v :: r => bif zwide v then tr n ls r σ else False
  | _ => False
def o_dup2 (n : Nat) : zOp := fun Q QX tr ls st σ => match st with
  | v :: u :: r => bif zwide v then False else bif zwide u then False else tr n ls (v :: u :: v :: u :: r) σ
  | _ => False
theorem zcat1 {v : Value} {ad : Nat → Nat} (h : zwide v = false) : (zv ad v).category = 1 := by cases v <;> first | rfl | cases h
theorem zcat2 {v : Value} {ad : Nat → Nat} (h : zwide v = true) : (zv ad v).category = 2 := by cases v <;> first | rfl | cases h
theorem s_dup (hd : decode M.2.1 pc = .ok (.dup, 1)) : zSnd Z M pc (o_dup (pc + 1)) := by
  intro G p l e s m args below meth c F Q QX tr htr ls st σ H locs la hH hS hl hk
  unfold o_dup at hk
  split at hk
  · rename_i v r
    cases hv : zwide v with
    | true => rw [hv] at hk; exact hk.elim
    | false =>
      rw [hv] at hk
      exact lv_dup F.1 F.2.1 hd (zcat1 hv) (htr _ ls _ σ H locs la hH hS hl hk)
  · exact hk.elim
theorem s_pop (hd : decode M.2.1 pc = .ok (.pop, 1)) : zSnd Z M pc (o_pop (pc + 1)) := by
  intro G p l e s m args below meth c F Q QX tr htr ls st σ H locs la hH hS hl hk
  unfold o_pop at hk
  split at hk
  · rename_i v r
    cases hv : zwide v with
    | true => rw [hv] at hk; exact hk.elim
    | false =>
      rw [hv] at hk
      exact lv_pop F.1 F.2.1 hd (zcat1 hv) (htr _ ls _ σ H locs la hH hS hl hk)
  · exact hk.elim
theorem s_pop2 (hd : decode M.2.1 pc = .ok (.pop2, 1)) : zSnd Z M pc (o_pop2 (pc + 1)) := by
  intro G p l e s m args below meth c F Q QX tr htr ls st σ H locs la hH hS hl hk
  unfold o_pop2 at hk
  split at hk
  · rename_i v r
    cases hv : zwide v with
    | false => rw [hv] at hk; exact hk.elim
    | true =>
      rw [hv] at hk
      exact lv_pop2_2 F.1 F.2.1 hd (zcat2 hv) (htr _ ls _ σ H locs la hH hS hl hk)
  · exact hk.elim
theorem s_dup2 (hd : decode M.2.1 pc = .ok (.dup2, 1)) : zSnd Z M pc (o_dup2 (pc + 1)) := by
  intro G p l e s m args below meth c F Q QX tr htr ls st σ H locs la hH hS hl hk
  unfold o_dup2 at hk
  split at hk
  · rename_i v u r
    cases hv : zwide v with
    | true => rw [hv] at hk; exact hk.elim
    | false =>
      rw [hv] at hk
      cases hu : zwide u with
      | true => rw [hu] at hk; exact hk.elim
      | false =>
        rw [hu] at hk
        exact lv_dup2_11 F.1 F.2.1 hd (zcat1 hv) (zcat1 hu) (htr _ ls _ σ H locs la hH hS hl hk)
  · exact hk.elim
def o_icmp (P : Int32 → Int32 → Prop) (t n : Nat) : zOp := fun Q QX tr ls st σ => match st with
  | .int y :: .int x :: r => (P x y → tr t ls r σ) ∧ (¬ P x y → tr n ls r σ)
  | _ => False
def o_if0 (P : Int32 → Prop) (t n : Nat) : zOp := fun Q QX tr ls st σ => match st with
  | .int x :: r => (P x → tr t ls r σ) ∧ (¬ P x → tr n ls r σ)
  | _ => False
def o_lif (P : Int64 → Int64 → Prop) (t n : Nat) : zOp := fun Q QX tr ls st σ => match st with
  | .long y :: .long x :: r => (P x y → tr t ls r σ) ∧ (¬ P x y → tr n ls r σ)
  | _ => False
def o_goto (t : Nat) : zOp := fun Q QX tr ls st σ => tr t ls st σ
theorem s_icmp_eq {off : Int} {t : Nat} (hd : decode M.2.1 pc = .ok (.if_icmp .eq off, 3)) (ht : (pc : Int) + off = (t : Int)) : zSnd Z M pc (o_icmp (fun x y => x = y) t (pc + 3)) := by
  intro G p l e s m args below meth c F Q QX tr htr ls st σ H locs la hH hS hl hk
  unfold o_icmp at hk
  split at hk
  · exact lv_icmp_eq F.1 F.2.1 hd ht (fun h => htr _ ls _ σ H locs la hH hS hl (hk.1 h)) (fun h => htr _ ls _ σ H locs la hH hS hl (hk.2 h))
  · exact hk.elim
theorem s_if_eq {off : Int} {t : Nat} (hd : decode M.2.1 pc = .ok (.ifCond .eq off, 3)) (ht : (pc : Int) + off = (t : Int)) : zSnd Z M pc (o_if0 (fun x => x = 0) t (pc + 3)) := by
  intro G p l e s m args below meth c F Q QX tr htr ls st σ H locs la hH hS hl hk
  unfold o_if0 at hk
  split at hk
  · exact lv_if_eq F.1 F.2.1 hd ht (fun h => htr _ ls _ σ H locs la hH hS hl (hk.1 h)) (fun h => htr _ ls _ σ H locs la hH hS hl (hk.2 h))
  · exact hk.elim
theorem s_icmp_ne {off : Int} {t : Nat} (hd : decode M.2.1 pc = .ok (.if_icmp .ne off, 3)) (ht : (pc : Int) + off = (t : Int)) : zSnd Z M pc (o_icmp (fun x y => x = y) (pc + 3) t) := by
  intro G p l e s m args below meth c F Q QX tr htr ls st σ H locs la hH hS hl hk
  unfold o_icmp at hk
  split at hk
  · exact lv_icmp_ne F.1 F.2.1 hd ht (fun h => htr _ ls _ σ H locs la hH hS hl (hk.2 h)) (fun h => htr _ ls _ σ H locs la hH hS hl (hk.1 (by simpa using h)))
  · exact hk.elim
theorem s_if_ne {off : Int} {t : Nat} (hd : decode M.2.1 pc = .ok (.ifCond .ne off, 3)) (ht : (pc : Int) + off = (t : Int)) : zSnd Z M pc (o_if0 (fun x => x = 0) (pc + 3) t) := by
  intro G p l e s m args below meth c F Q QX tr htr ls st σ H locs la hH hS hl hk
  unfold o_if0 at hk
  split at hk
  · exact lv_if_ne F.1 F.2.1 hd ht (fun h => htr _ ls _ σ H locs la hH hS hl (hk.2 h)) (fun h => htr _ ls _ σ H locs la hH hS hl (hk.1 (by simpa using h)))
  · exact hk.elim
theorem s_icmp_lt {off : Int} {t : Nat} (hd : decode M.2.1 pc = .ok (.if_icmp .lt off, 3)) (ht : (pc : Int) + off = (t : Int)) : zSnd Z M pc (o_icmp (fun x y => x < y) t (pc + 3)) := by
  intro G p l e s m args below meth c F Q QX tr htr ls st σ H locs la hH hS hl hk
  unfold o_icmp at hk
  split at hk
  · exact lv_icmp_lt F.1 F.2.1 hd ht (fun h => htr _ ls _ σ H locs la hH hS hl (hk.1 h)) (fun h => htr _ ls _ σ H locs la hH hS hl (hk.2 h))
  · exact hk.elim
theorem s_if_lt {off : Int} {t : Nat} (hd : decode M.2.1 pc = .ok (.ifCond .lt off, 3)) (ht : (pc : Int) + off = (t : Int)) : zSnd Z M pc (o_if0 (fun x => x < 0) t (pc + 3)) := by
  intro G p l e s m args below meth c F Q QX tr htr ls st σ H locs la hH hS hl hk
  unfold o_if0 at hk
  split at hk
  · exact lv_if_lt F.1 F.2.1 hd ht (fun h => htr _ ls _ σ H locs la hH hS hl (hk.1 h)) (fun h => htr _ ls _ σ H locs la hH hS hl (hk.2 h))
  · exact hk.elim
theorem s_icmp_ge {off : Int} {t : Nat} (hd : decode M.2.1 pc = .ok (.if_icmp .ge off, 3)) (ht : (pc : Int) + off = (t : Int)) : zSnd Z M pc (o_icmp (fun x y => y ≤ x) t (pc + 3)) := by
  intro G p l e s m args below meth c F Q QX tr htr ls st σ H locs la hH hS hl hk
  unfold o_icmp at hk
  split at hk
  · exact lv_icmp_ge F.1 F.2.1 hd ht (fun h => htr _ ls _ σ H locs la hH hS hl (hk.1 h)) (fun h => htr _ ls _ σ H locs la hH hS hl (hk.2 h))
  · exact hk.elim
theorem s_if_ge {off : Int} {t : Nat} (hd : decode M.2.1 pc = .ok (.ifCond .ge off, 3)) (ht : (pc : Int) + off = (t : Int)) : zSnd Z M pc (o_if0 (fun x => 0 ≤ x) t (pc + 3)) := by
  intro G p l e s m args below meth c F Q QX tr htr ls st σ H locs la hH hS hl hk
  unfold o_if0 at hk
  split at hk
  · exact lv_if_ge F.1 F.2.1 hd ht (fun h => htr _ ls _ σ H locs la hH hS hl (hk.1 h)) (fun h => htr _ ls _ σ H locs la hH hS hl (hk.2 h))
  · exact hk.elim
theorem s_icmp_gt {off : Int} {t : Nat} (hd : decode M.2.1 pc = .ok (.if_icmp .gt off, 3)) (ht : (pc : Int) + off = (t : Int)) : zSnd Z M pc (o_icmp (fun x y => y < x) t (pc + 3)) := by
  intro G p l e s m args below meth c F Q QX tr htr ls st σ H locs la hH hS hl hk
  unfold o_icmp at hk
  split at hk
  · exact lv_icmp_gt F.1 F.2.1 hd ht (fun h => htr _ ls _ σ H locs la hH hS hl (hk.1 h)) (fun h => htr _ ls _ σ H locs la hH hS hl (hk.2 h))
  · exact hk.elim
theorem s_if_gt {off : Int} {t : Nat} (hd : decode M.2.1 pc = .ok (.ifCond .gt off, 3)) (ht : (pc : Int) + off = (t : Int)) : zSnd Z M pc (o_if0 (fun x => 0 < x) t (pc + 3)) := by
  intro G p l e s m args below meth c F Q QX tr htr ls st σ H locs la hH hS hl hk
  unfold o_if0 at hk
  split at hk
  · exact lv_if_gt F.1 F.2.1 hd ht (fun h => htr _ ls _ σ H locs la hH hS hl (hk.1 h)) (fun h => htr _ ls _ σ H locs la hH hS hl (hk.2 h))
  · exact hk.elim
theorem s_icmp_le {off : Int} {t : Nat} (hd : decode M.2.1 pc = .ok (.if_icmp .le off, 3)) (ht : (pc : Int) + off = (t : Int)) : zSnd Z M pc (o_icmp (fun x y => x ≤ y) t (pc + 3)) := by
  intro G p l e s m args below meth c F Q QX tr htr ls st σ H locs la hH hS hl hk
  unfold o_icmp at hk
  split at hk
  · exact lv_icmp_le F.1 F.2.1 hd ht (fun h => htr _ ls _ σ H locs la hH hS hl (hk.1 h)) (fun h => htr _ ls _ σ H locs la hH hS hl (hk.2 h))
  · exact hk.elim
theorem s_if_le {off : Int} {t : Nat} (hd : decode M.2.1 pc = .ok (.ifCond .le off, 3)) (ht : (pc : Int) + off = (t : Int)) : zSnd Z M pc (o_if0 (fun x => x ≤ 0) t (pc + 3)) := by
  intro G p l e s m args below meth c F Q QX tr htr ls st σ H locs la hH hS hl hk
  unfold o_if0 at hk
  split at hk
  · exact lv_if_le F.1 F.2.1 hd ht (fun h => htr _ ls _ σ H locs la hH hS hl (hk.1 h)) (fun h => htr _ ls _ σ H locs la hH hS hl (hk.2 h))
  · exact hk.elim
theorem s_goto {off : Int} {t : Nat} (hd : decode M.2.1 pc = .ok (.goto off, 3)) (ht : (pc : Int) + off = (t : Int)) : zSnd Z M pc (o_goto t) := by
  intro G p l e s m args below meth c F Q QX tr htr ls st σ H locs la hH hS hl hk
  exact lv_goto F.1 F.2.1 hd ht (htr _ ls _ σ H locs la hH hS hl hk)
theorem zlc_eq (x y : Int64) : (fun x : Int32 => x = 0) (lg_cmp x y) ↔ x = y := by
  unfold lg_cmp
  simp only [gt_iff_lt, Int64.lt_iff_toInt_lt, Int64.le_iff_toInt_le, ← Int64.toInt_inj]
  repeat' split
  all_goals (constructor <;> intro hh <;> first | omega | decide | exact absurd hh (by decide))
theorem s_leq {off : Int} {t : Nat} (hd : decode M.2.1 pc = .ok (.lcmp, 1)) (hd2 : decode M.2.1 (pc + 1) = .ok (.ifCond .eq off, 3)) (ht : ((pc + 1 : Nat) : Int) + off = (t : Int)) : zSnd Z M pc (o_lif (fun x y => x = y) t (pc + 4)) := by
  intro G p l e s m args below meth c F Q QX tr htr ls st σ H locs la hH hS hl hk
  unfold o_lif at hk
  split at hk
  · exact W.lcmp F.1 F.2.1 hd (lv_if_eq F.1 F.2.1 hd2 ht (fun h => htr _ ls _ σ H locs la hH hS hl (hk.1 ((zlc_eq _ _).mp h))) (fun h => htr _ ls _ σ H locs la hH hS hl (hk.2 (fun q => h ((zlc_eq _ _).mpr q)))))
  · exact hk.elim
theorem zlc_ne (x y : Int64) : (fun x : Int32 => x = 0) (lg_cmp x y) ↔ x = y := by
  unfold lg_cmp
  simp only [gt_iff_lt, Int64.lt_iff_toInt_lt, Int64.le_iff_toInt_le, ← Int64.toInt_inj]
  repeat' split
  all_goals (constructor <;> intro hh <;> first | omega | decide | exact absurd hh (by decide))
theorem s_lne {off : Int} {t : Nat} (hd : decode M.2.1 pc = .ok (.lcmp, 1)) (hd2 : decode M.2.1 (pc + 1) = .ok (.ifCond .ne off, 3)) (ht : ((pc + 1 : Nat) : Int) + off = (t : Int)) : zSnd Z M pc (o_lif (fun x y => x = y) (pc + 4) t) := by
  intro G p l e s m args below meth c F Q QX tr htr ls st σ H locs la hH hS hl hk
  unfold o_lif at hk
  split at hk
  · exact W.lcmp F.1 F.2.1 hd (lv_if_ne F.1 F.2.1 hd2 ht (fun h => htr _ ls _ σ H locs la hH hS hl (hk.2 (fun q => h ((zlc_ne _ _).mpr q)))) (fun h => htr _ ls _ σ H locs la hH hS hl (hk.1 ((zlc_ne _ _).mp (by simpa using h)))))
  · exact hk.elim
theorem zlc_lt (x y : Int64) : (fun x : Int32 => x < 0) (lg_cmp x y) ↔ x < y := by
  unfold lg_cmp
  simp only [gt_iff_lt, Int64.lt_iff_toInt_lt, Int64.le_iff_toInt_le, ← Int64.toInt_inj]
  repeat' split
  all_goals (constructor <;> intro hh <;> first | omega | decide | exact absurd hh (by decide))
theorem s_llt {off : Int} {t : Nat} (hd : decode M.2.1 pc = .ok (.lcmp, 1)) (hd2 : decode M.2.1 (pc + 1) = .ok (.ifCond .lt off, 3)) (ht : ((pc + 1 : Nat) : Int) + off = (t : Int)) : zSnd Z M pc (o_lif (fun x y => x < y) t (pc + 4)) := by
  intro G p l e s m args below meth c F Q QX tr htr ls st σ H locs la hH hS hl hk
  unfold o_lif at hk
  split at hk
  · exact W.lcmp F.1 F.2.1 hd (lv_if_lt F.1 F.2.1 hd2 ht (fun h => htr _ ls _ σ H locs la hH hS hl (hk.1 ((zlc_lt _ _).mp h))) (fun h => htr _ ls _ σ H locs la hH hS hl (hk.2 (fun q => h ((zlc_lt _ _).mpr q)))))
  · exact hk.elim
theorem zlc_ge (x y : Int64) : (fun x : Int32 => 0 ≤ x) (lg_cmp x y) ↔ y ≤ x := by
  unfold lg_cmp
  simp only [gt_iff_lt, Int64.lt_iff_toInt_lt, Int64.le_iff_toInt_le, ← Int64.toInt_inj]
  repeat' split
  all_goals (constructor <;> intro hh <;> first | omega | decide | exact absurd hh (by decide))
theorem s_lge {off : Int} {t : Nat} (hd : decode M.2.1 pc = .ok (.lcmp, 1)) (hd2 : decode M.2.1 (pc + 1) = .ok (.ifCond .ge off, 3)) (ht : ((pc + 1 : Nat) : Int) + off = (t : Int)) : zSnd Z M pc (o_lif (fun x y => y ≤ x) t (pc + 4)) := by
  intro G p l e s m args below meth c F Q QX tr htr ls st σ H locs la hH hS hl hk
  unfold o_lif at hk
  split at hk
  · exact W.lcmp F.1 F.2.1 hd (lv_if_ge F.1 F.2.1 hd2 ht (fun h => htr _ ls _ σ H locs la hH hS hl (hk.1 ((zlc_ge _ _).mp h))) (fun h => htr _ ls _ σ H locs la hH hS hl (hk.2 (fun q => h ((zlc_ge _ _).mpr q)))))
  · exact hk.elim
theorem zlc_gt (x y : Int64) : (fun x : Int32 => 0 < x) (lg_cmp x y) ↔ y < x := by
  unfold lg_cmp
  simp only [gt_iff_lt, Int64.lt_iff_toInt_lt, Int64.le_iff_toInt_le, ← Int64.toInt_inj]
  repeat' split
  all_goals (constructor <;> intro hh <;> first | omega | decide | exact absurd hh (by decide))
theorem s_lgt {off : Int} {t : Nat} (hd : decode M.2.1 pc = .ok (.lcmp, 1)) (hd2 : decode M.2.1 (pc + 1) = .ok (.ifCond .gt off, 3)) (ht : ((pc + 1 : Nat) : Int) + off = (t : Int)) : zSnd Z M pc (o_lif (fun x y => y < x) t (pc + 4)) := by
  intro G p l e s m args below meth c F Q QX tr htr ls st σ H locs la hH hS hl hk
  unfold o_lif at hk
  split at hk
  · exact W.lcmp F.1 F.2.1 hd (lv_if_gt F.1 F.2.1 hd2 ht (fun h => htr _ ls _ σ H locs la hH hS hl (hk.1 ((zlc_gt _ _).mp h))) (fun h => htr _ ls _ σ H locs la hH hS hl (hk.2 (fun q => h ((zlc_gt _ _).mpr q)))))
  · exact hk.elim
theorem zlc_le (x y : Int64) : (fun x : Int32 => x ≤ 0) (lg_cmp x y) ↔ x ≤ y := by
  unfold lg_cmp
  simp only [gt_iff_lt, Int64.lt_iff_toInt_lt, Int64.le_iff_toInt_le, ← Int64.toInt_inj]
  repeat' split
  all_goals (constructor <;> intro hh <;> first | omega | decide | exact absurd hh (by decide))
theorem s_lle {off : Int} {t : Nat} (hd : decode M.2.1 pc = .ok (.lcmp, 1)) (hd2 : decode M.2.1 (pc + 1) = .ok (.ifCond .le off, 3)) (ht : ((pc + 1 : Nat) : Int) + off = (t : Int)) : zSnd Z M pc (o_lif (fun x y => x ≤ y) t (pc + 4)) := by
  intro G p l e s m args below meth c F Q QX tr htr ls st σ H locs la hH hS hl hk
  unfold o_lif at hk
  split at hk
  · exact W.lcmp F.1 F.2.1 hd (lv_if_le F.1 F.2.1 hd2 ht (fun h => htr _ ls _ σ H locs la hH hS hl (hk.1 ((zlc_le _ _).mp h))) (fun h => htr _ ls _ σ H locs la hH hS hl (hk.2 (fun q => h ((zlc_le _ _).mpr q)))))
  · exact hk.elim
def o_ret : zOp := fun Q QX tr ls st σ => match st with
  | [v] => Q (some v) σ
  | _ => False
def o_zret : zOp := fun Q QX tr ls st σ => match st with
  | [.int x] => (x = 0 ∨ x = 1) ∧ Q (some (.int x)) σ
  | _ => False
def o_iret : zOp := fun Q QX tr ls st σ => match st with
  | [.int x] => Q (some (.int x)) σ
  | _ => False
def o_lret : zOp := fun Q QX tr ls st σ => match st with
  | [.long x] => Q (some (.long x)) σ
  | _ => False
def o_aret : zOp := fun Q QX tr ls st σ => match st with
  | [.ref x] => Q (some (.ref x)) σ
  | _ => False
def o_vret : zOp := fun Q QX tr ls st σ => match st with
  | [] => Q none σ
  | _ => False
theorem s_iret (hr : M.2.2.2.1 = some .int) (hd : decode M.2.1 pc = .ok (.ireturn, 1)) : zSnd Z M pc o_iret := by
  intro G p l e s m args below meth c F Q QX tr htr ls st σ H locs la hH hS hl hk
  unfold o_iret at hk
  split at hk
  · exact vx_ret (W.iret F.1 F.2.1 (F.2.2.1.trans hr) (fun t ht hW => ⟨⟨some (.int _), σ, rfl, hk, by rw [ht]; exact hH⟩, hS.F ht⟩) hS.2.2 hd F.2.2.2.2.2.2.2.1)
  · exact hk.elim
theorem s_lret (hr : M.2.2.2.1 = some .long) (hd : decode M.2.1 pc = .ok (.lreturn, 1)) : zSnd Z M pc o_lret := by
  intro G p l e s m args below meth c F Q QX tr htr ls st σ H locs la hH hS hl hk
  unfold o_lret at hk
  split at hk
  · exact vx_ret (W.lret F.1 F.2.1 (F.2.2.1.trans hr) (fun t ht hW => ⟨⟨some (.long _), σ, rfl, hk, by rw [ht]; exact hH⟩, hS.F ht⟩) hS.2.2 hd F.2.2.2.2.2.2.2.1)
  · exact hk.elim
theorem s_vret (hr : M.2.2.2.1 = none) (hd : decode M.2.1 pc = .ok (.return_, 1)) : zSnd Z M pc o_vret := by
  intro G p l e s m args below meth c F Q QX tr htr ls st σ H locs la hH hS hl hk
  unfold o_vret at hk
  split at hk
  · exact vx_ret (W.vret F.1 F.2.1 (F.2.2.1.trans hr) (fun t ht hW => ⟨⟨none, σ, rfl, hk, by rw [ht]; exact hH⟩, hS.F ht⟩) hS.2.2 hd F.2.2.2.2.2.2.2.1)
  · exact hk.elim
theorem s_zret (hr : M.2.2.2.1 = some .boolean) (hd : decode M.2.1 pc = .ok (.ireturn, 1)) : zSnd Z M pc o_zret := by
  intro G p l e s m args below meth c F Q QX tr htr ls st σ H locs la hH hS hl hk
  unfold o_zret at hk
  split at hk
  · exact vx_ret (W.zret F.1 F.2.1 (F.2.2.1.trans hr) (by rcases hk.1 with q | q <;> rw [q] <;> rfl) (fun t ht hW => ⟨⟨some (.int _), σ, rfl, hk.2, by rw [ht]; exact hH⟩, hS.F ht⟩) hS.2.2 hd F.2.2.2.2.2.2.2.1)
  · exact hk.elim
theorem s_aret {cn : String} (hr : M.2.2.2.1 = some (.object cn)) (hd : decode M.2.1 pc = .ok (.areturn, 1)) : zSnd Z M pc o_aret := by
  intro G p l e s m args below meth c F Q QX tr htr ls st σ H locs la hH hS hl hk
  unfold o_aret at hk
  split at hk
  · exact vx_ret (W.aret F.1 F.2.1 (F.2.2.1.trans hr) (Or.inl ⟨_, rfl⟩) (Or.inr ⟨_, rfl⟩) (fun t ht hW => ⟨⟨some (.ref _), σ, rfl, hk, by rw [ht]; exact hH⟩, hS.F ht⟩) hS.2.2 hd F.2.2.2.2.2.2.2.1)
  · exact hk.elim
end ZOPS
end
section
def zCls (Z : zZ) (ci : Nat) (C : String) (T : u_T) (N : Nat) (ty : Nat → FieldType) : Prop :=
  Z.1[ci]? = some (C, T, N) ∧ (∀ w ∈ u_ws C T N, w ∈ zWS) ∧ (∀ k, k < N → parseFieldDescriptor (T k).2.2.1 = some (ty k)) ∧ (∀ a, a < N → ∀ b, b < N → a ≠ b → (T a).2.1 ≠ (T b).2.1)
abbrev zFld (own : String) (idx : Nat) (T : u_T) (j : Nat) : Prop := Cond.fieldLink own idx (T j).1 (T j).2.1 (T j).2.2.1 ∈ zWS ∨ ∃ host : String, Cond.fieldLinkNest own idx (T j).1 (T j).2.1 (T j).2.2.1 host ∈ zNW
def zty : FieldType → FieldType → Bool
  | .int, .int => true
  | .long, .long => true
  | .byte, .byte => true
  | .short, .short => true
  | .boolean, .boolean => true
  | _, _ => false
theorem zty_eq {a b : FieldType} (h : zty a b = true) : a = b := by
  unfold zty at h
  split at h <;> first | rfl | cases h
def o_getf (Y : List zC) (ci j n : Nat) : zOp := fun _ _ tr ls st σ => match st with
  | .ref k :: r => match zat Y k with
    | some (.inl o) => bif Nat.beq o.1 ci then (match zat o.2 j with
      | some κ => tr n ls (zsl σ k j κ :: r) σ
      | none => False) else False
    | _ => False
  | _ => False
def o_putI (Y : List zC) (ci j n : Nat) : zOp := fun _ _ tr ls st σ => match st with
  | .int x :: .ref k :: r => match zat Y k with
    | some (.inl o) => bif Nat.beq o.1 ci then (match zat o.2 j with
      | some κ => bif Nat.beq κ.1 0 then tr n ls r (zsI σ k j x) else False
      | none => False) else False
    | _ => False
  | _ => False
def o_putZ (Y : List zC) (ci j n : Nat) : zOp := fun _ _ tr ls st σ => match st with
  | .int x :: .ref k :: r => match zat Y k with
    | some (.inl o) => bif Nat.beq o.1 ci then (match zat o.2 j with
      | some κ => bif Nat.beq κ.1 0 then (x = 0 ∨ x = 1) ∧ tr n ls r (zsI σ k j x) else False
      | none => False) else False
    | _ => False
  | _ => False
def o_putL (Y : List zC) (ci j n : Nat) : zOp := fun _ _ tr ls st σ => match st with
  | .long x :: .ref k :: r => match zat Y k with
    | some (.inl o) => bif Nat.beq o.1 ci then (match zat o.2 j with
      | some κ => bif Nat.beq κ.1 1 then tr n ls r (zsL σ k j x) else False
      | none => False) else False
    | _ => False
  | _ => False
def o_ald (Y : List zC) (ty : FieldType) (n : Nat) : zOp := fun _ _ tr ls st σ => match st with
  | .int i :: .ref k :: r => match zat Y k with
    | some (.inr a) => bif zty a.1 ty then vp_in i a.2 ∧ tr n ls (.int (σ.1 k i.toNatClampNeg) :: r) σ else False
    | _ => False
  | _ => False
def o_lald (Y : List zC) (n : Nat) : zOp := fun _ _ tr ls st σ => match st with
  | .int i :: .ref k :: r => match zat Y k with
    | some (.inr a) => bif zty a.1 .long then vp_in i a.2 ∧ tr n ls (.long (σ.2 k i.toNatClampNeg) :: r) σ else False
    | _ => False
  | _ => False
def o_ast (Y : List zC) (ty : FieldType) (f : Int32 → Int32) (n : Nat) : zOp := fun _ _ tr ls st σ => match st with
  | .int x :: .int i :: .ref k :: r => match zat Y k with
    | some (.inr a) => bif zty a.1 ty then vp_in i a.2 ∧ tr n ls r (zsI σ k i.toNatClampNeg (f x)) else False
    | _ => False
  | _ => False
def o_last (Y : List zC) (n : Nat) : zOp := fun _ _ tr ls st σ => match st with
  | .long x :: .int i :: .ref k :: r => match zat Y k with
    | some (.inr a) => bif zty a.1 .long then vp_in i a.2 ∧ tr n ls r (zsL σ k i.toNatClampNeg x) else False
    | _ => False
  | _ => False
def o_alen (Y : List zC) (n : Nat) : zOp := fun _ _ tr ls st σ => match st with
  | .ref k :: r => match zat Y k with
    | some (.inr a) => tr n ls (.int (nI a.2) :: r) σ
    | _ => False
  | _ => False
def o_gets (k n : Nat) : zOp := fun _ _ tr ls st σ => tr n ls (.ref k :: st) σ
def o_tald (f : Nat → Int32) (N k n : Nat) : zOp := fun _ _ tr ls st σ => match st with
  | .int i :: .ref q :: r => bif Nat.beq q k then vp_in i N ∧ tr n ls (.int (f i.toNatClampNeg) :: r) σ else False
  | _ => False
def o_tlen (N k n : Nat) : zOp := fun _ _ tr ls st σ => match st with
  | .ref q :: r => bif Nat.beq q k then tr n ls (.int (nI N) :: r) σ else False
  | _ => False
def zpop : Nat → List Value → List Value → Option (List Value × List Value)
  | 0, acc, st => some (acc, st)
  | _ + 1, _, [] => none
  | n + 1, acc, v :: st => zpop n (v :: acc) st
theorem zpop_spec {n : Nat} {acc st as r : List Value} (h : zpop n acc st = some (as, r)) : ∃ q : List Value, q.length = n ∧ st = q ++ r ∧ as = q.reverse ++ acc := by
  induction n generalizing acc st with
  | zero => cases h; exact ⟨[], rfl, rfl, rfl⟩
  | succ n ih => cases st with
    | nil => cases h
    | cons v st =>
      obtain ⟨q, h1, h2, h3⟩ := ih h
      exact ⟨v :: q, by simp [h1], by simp [h2], by simp [h3]⟩
def zpush : Option Value → List Value → List Value
  | some v, r => v :: r
  | none, r => r
def zcs : List Value → Nat
  | [] => 0
  | v :: r => (bif zwide v then 2 else 1) + zcs r
theorem zcs_eq (ad : Nat → Nat) (r : List Value) : ((r.map (zv ad)).map fun v => v.category).sum = zcs r := by
  induction r with
  | nil => rfl
  | cons v r ih =>
    have e : (zv ad v).category = (bif zwide v then 2 else 1) := by cases v <;> rfl
    simp only [List.map_cons, List.sum_cons, ih, zcs, e]
def o_callV (Z : zZ) (ci : Nat) (M' : zM) (na n : Nat) : zOp := fun _ QX tr ls st σ => match zpop na [] st with
  | some (as, .ref k :: r) => match zat Z.2.1 k with
    | some (.inl o) => bif Nat.beq o.1 ci then (bif Nat.ble (zcs r) 8 then zCT Z M' (.ref k :: as) σ (fun v σ' => tr n ls (zpush v r) σ') QX else False) else False
    | _ => False
  | _ => False
def o_callS (Z : zZ) (M' : zM) (na n : Nat) : zOp := fun _ QX tr ls st σ => match zpop na [] st with
  | some (as, r) => bif Nat.ble (zcs r) 8 then zCT Z M' as σ (fun v σ' => tr n ls (zpush v r) σ') QX else False
  | _ => False
def o_athrow (Y : List zC) (ci : Nat) : zOp := fun _ QX _ _ st σ => match st with
  | .ref k :: _ => match zat Y k with
    | some (.inl o) => bif Nat.beq o.1 ci then QX σ else False
    | _ => False
  | _ => False
section ZHEAP
variable {Z : zZ} {M : zM} {pc : Nat}
theorem s_getf {ci j idx N : Nat} {C : String} {T : u_T} {ty : Nat → FieldType} (hC : zCls Z ci C T N ty) (hF : zFld M.1.cls idx T j) (hj : j < N) (hd : decode M.2.1 pc = .ok (.getfield idx, 3)) : zSnd Z M pc (o_getf Z.2.1 ci j (pc + 3)) := by
  intro G p l e s m args below meth c F Q QX tr htr ls st σ H locs la hH hS hl hk
  unfold o_getf at hk
  split at hk
  rotate_left
  · exact hk.elim
  rename_i k r
  split at hk
  rotate_left
  · exact hk.elim
  · rename_i o hz
    have hx : Z.2.1[k]? = some (.inl o) := by rw [← zat_eq]; assumption
    cases hb : Nat.beq o.1 ci with
    | false => rw [hb] at hk; exact hk.elim
    | true =>
      rw [hb] at hk
      have ho : o.1 = ci := Nat.eq_of_beq_eq_true hb
      have he : (zW Z G σ)[k]? = some (G.2.2 k, .inr (ci, o.2.mapIdx fun j k' => zv G.2.2 (zsl σ k j k'))) := by
        have q := zW_get (G := G) (σ := σ) hx
        rw [← ho]; exact q
      split at hk
      · rename_i κ hκ
        rw [zat_eq] at hκ
        have hv : (o.2.mapIdx fun j k' => zv G.2.2 (zsl σ k j k'))[j]? = some (zv G.2.2 (zsl σ k j κ)) := by simp [List.getElem?_mapIdx, hκ]
        rcases hF with hF | ⟨host, hF⟩
        · exact va_get F.1 F.2.1 F.2.2.2.2.2.1 (fun w hw => List.mem_cons_of_mem _ (hC.2.1 w hw)) F.2.2.2.2.1 F.2.2.2.2.2.2.1.1 hH k he hC.1 j hj (F.2.2.2.2.2.1 _ (List.mem_cons_of_mem _ hF)) (fun _ h => h) hv hd (htr _ ls _ σ H locs la hH hS hl hk)
        · exact va_getN F.1 F.2.1 F.2.2.2.2.2.1 (fun w hw => List.mem_cons_of_mem _ (hC.2.1 w hw)) F.2.2.2.2.1 F.2.2.2.2.2.2.1.1 hH k he hC.1 j hj (va_Nw.use rfl (F.2.2.2.2.2.2.1.2.2.1 _ hF)) (fun _ h => h) hv hd (htr _ ls _ σ H locs la hH hS hl hk)
      · exact hk.elim
theorem s_putI {ci j idx N : Nat} {C : String} {T : u_T} {ty : Nat → FieldType} (hC : zCls Z ci C T N ty) (hF : zFld M.1.cls idx T j) (hj : j < N) (hty : ty j = .int) (hfin : (T j).2.2.2 = false) (hd : decode M.2.1 pc = .ok (.putfield idx, 3)) : zSnd Z M pc (o_putI Z.2.1 ci j (pc + 3)) := by
  intro G p l e s m args below meth c F Q QX tr htr ls st σ H locs la hH hS hl hk
  unfold o_putI at hk
  split at hk
  rotate_left
  · exact hk.elim
  rename_i x k r
  split at hk
  rotate_left
  · exact hk.elim
  · rename_i o hz
    have hx : Z.2.1[k]? = some (.inl o) := by rw [← zat_eq]; assumption
    cases hb : Nat.beq o.1 ci with
    | false => rw [hb] at hk; exact hk.elim
    | true =>
      rw [hb] at hk
      have ho : o.1 = ci := Nat.eq_of_beq_eq_true hb
      have he : (zW Z G σ)[k]? = some (G.2.2 k, .inr (ci, o.2.mapIdx fun j k' => zv G.2.2 (zsl σ k j k'))) := by
        have q := zW_get (G := G) (σ := σ) hx
        rw [← ho]; exact q
      split at hk
      · rename_i κ hκ
        rw [zat_eq] at hκ
        cases hb2 : Nat.beq κ.1 0 with
        | false => rw [hb2] at hk; exact hk.elim
        | true =>
          rw [hb2] at hk
          have hκ0 : κ.1 = 0 := Nat.eq_of_beq_eq_true hb2
          have hpf : parseFieldDescriptor (T j).2.2.1 = some .int := by rw [← hty]; exact hC.2.2.1 j hj
          have hlen : j < (o.2.mapIdx fun j k' => zv G.2.2 (zsl σ k j k')).length := by
            have := (List.getElem?_eq_some_iff.mp hκ).1
            simpa using this
          have hset : (zW Z G σ).set k (G.2.2 k, .inr (ci, (o.2.mapIdx fun j k' => zv G.2.2 (zsl σ k j k')).set j (.int x))) = zW Z G (zsI σ k j x) := by
            refine zW_set hx ?_ zsI_ne
            simp only [zcell, ho]
            rw [zfs_set (σ := σ) (τ := zsI σ k j x) hκ (v := .int x) (by simp [zsl, hκ0, zsI, zv]) (fun i hi => by simp [zsI, hi])]
          have hnn : narrow .int (.int x) = .int x := rfl
          have hff : fits .int (.int x) = true := rfl
          rcases hF with hF | ⟨host, hF⟩
          · exact va_put F.1 F.2.1 F.2.2.2.2.2.1 (fun w hw => List.mem_cons_of_mem _ (hC.2.1 w hw)) ty hC.2.2.1 hC.2.2.2 F.2.2.2.2.1 F.2.2.2.2.2.2.1.1 hH (zW_D F.2.2.2.2.2.2.1.2.1) hS k he hC.1 j hj (F.2.2.2.2.2.1 _ (List.mem_cons_of_mem _ hF)) (fun _ h => h) hfin hpf hnn hff hlen hd
              (fun H1 locs1 hP1 _ hS1 => htr _ ls _ _ H1 locs1 la (by show va_P G.1 Z.1 (zW Z G (zsI σ k j x)) H1; rw [← hset]; exact hP1) hS1 hl hk)
          · exact va_putN F.1 F.2.1 F.2.2.2.2.2.1 (fun w hw => List.mem_cons_of_mem _ (hC.2.1 w hw)) ty hC.2.2.1 hC.2.2.2 F.2.2.2.2.1 F.2.2.2.2.2.2.1.1 hH (zW_D F.2.2.2.2.2.2.1.2.1) hS k he hC.1 j hj (va_Nw.use rfl (F.2.2.2.2.2.2.1.2.2.1 _ hF)) (fun _ h => h) hfin hpf hnn hff hlen hd
              (fun H1 locs1 hP1 _ hS1 => htr _ ls _ _ H1 locs1 la (by show va_P G.1 Z.1 (zW Z G (zsI σ k j x)) H1; rw [← hset]; exact hP1) hS1 hl hk)
      · exact hk.elim
theorem s_putZ {ci j idx N : Nat} {C : String} {T : u_T} {ty : Nat → FieldType} (hC : zCls Z ci C T N ty) (hF : zFld M.1.cls idx T j) (hj : j < N) (hty : ty j = .boolean) (hfin : (T j).2.2.2 = false) (hd : decode M.2.1 pc = .ok (.putfield idx, 3)) : zSnd Z M pc (o_putZ Z.2.1 ci j (pc + 3)) := by
  intro G p l e s m args below meth c F Q QX tr htr ls st σ H locs la hH hS hl hk
  unfold o_putZ at hk
  split at hk
  rotate_left
  · exact hk.elim
  rename_i x k r
  split at hk
  rotate_left
  · exact hk.elim
  · rename_i o hz
    have hx : Z.2.1[k]? = some (.inl o) := by rw [← zat_eq]; assumption
    cases hb : Nat.beq o.1 ci with
    | false => rw [hb] at hk; exact hk.elim
    | true =>
      rw [hb] at hk
      have ho : o.1 = ci := Nat.eq_of_beq_eq_true hb
      have he : (zW Z G σ)[k]? = some (G.2.2 k, .inr (ci, o.2.mapIdx fun j k' => zv G.2.2 (zsl σ k j k'))) := by
        have q := zW_get (G := G) (σ := σ) hx
        rw [← ho]; exact q
      split at hk
      · rename_i κ hκ
        rw [zat_eq] at hκ
        cases hb2 : Nat.beq κ.1 0 with
        | false => rw [hb2] at hk; exact hk.elim
        | true =>
          rw [hb2] at hk
          have hκ0 : κ.1 = 0 := Nat.eq_of_beq_eq_true hb2
          have hpf : parseFieldDescriptor (T j).2.2.1 = some .boolean := by rw [← hty]; exact hC.2.2.1 j hj
          have hlen : j < (o.2.mapIdx fun j k' => zv G.2.2 (zsl σ k j k')).length := by
            have := (List.getElem?_eq_some_iff.mp hκ).1
            simpa using this
          have hset : (zW Z G σ).set k (G.2.2 k, .inr (ci, (o.2.mapIdx fun j k' => zv G.2.2 (zsl σ k j k')).set j (.int x))) = zW Z G (zsI σ k j x) := by
            refine zW_set hx ?_ zsI_ne
            simp only [zcell, ho]
            rw [zfs_set (σ := σ) (τ := zsI σ k j x) hκ (v := .int x) (by simp [zsl, hκ0, zsI, zv]) (fun i hi => by simp [zsI, hi])]
          have hnn : narrow .boolean (.int x) = .int x := by rcases hk.1 with q | q <;> rw [q] <;> rfl
          have hff : fits .boolean (.int x) = true := by rcases hk.1 with q | q <;> rw [q] <;> rfl
          rcases hF with hF | ⟨host, hF⟩
          · exact va_put F.1 F.2.1 F.2.2.2.2.2.1 (fun w hw => List.mem_cons_of_mem _ (hC.2.1 w hw)) ty hC.2.2.1 hC.2.2.2 F.2.2.2.2.1 F.2.2.2.2.2.2.1.1 hH (zW_D F.2.2.2.2.2.2.1.2.1) hS k he hC.1 j hj (F.2.2.2.2.2.1 _ (List.mem_cons_of_mem _ hF)) (fun _ h => h) hfin hpf hnn hff hlen hd
              (fun H1 locs1 hP1 _ hS1 => htr _ ls _ _ H1 locs1 la (by show va_P G.1 Z.1 (zW Z G (zsI σ k j x)) H1; rw [← hset]; exact hP1) hS1 hl hk.2)
          · exact va_putN F.1 F.2.1 F.2.2.2.2.2.1 (fun w hw => List.mem_cons_of_mem _ (hC.2.1 w hw)) ty hC.2.2.1 hC.2.2.2 F.2.2.2.2.1 F.2.2.2.2.2.2.1.1 hH (zW_D F.2.2.2.2.2.2.1.2.1) hS k he hC.1 j hj (va_Nw.use rfl (F.2.2.2.2.2.2.1.2.2.1 _ hF)) (fun _ h => h) hfin hpf hnn hff hlen hd
              (fun H1 locs1 hP1 _ hS1 => htr _ ls _ _ H1 locs1 la (by show va_P G.1 Z.1 (zW Z G (zsI σ k j x)) H1; rw [← hset]; exact hP1) hS1 hl hk.2)
      · exact hk.elim
theorem s_putL {ci j idx N : Nat} {C : String} {T : u_T} {ty : Nat → FieldType} (hC : zCls Z ci C T N ty) (hF : zFld M.1.cls idx T j) (hj : j < N) (hty : ty j = .long) (hfin : (T j).2.2.2 = false) (hd : decode M.2.1 pc = .ok (.putfield idx, 3)) : zSnd Z M pc (o_putL Z.2.1 ci j (pc + 3)) := by
  intro G p l e s m args below meth c F Q QX tr htr ls st σ H locs la hH hS hl hk
  unfold o_putL at hk
  split at hk
  rotate_left
  · exact hk.elim
  rename_i x k r
  split at hk
  rotate_left
  · exact hk.elim
  · rename_i o hz
    have hx : Z.2.1[k]? = some (.inl o) := by rw [← zat_eq]; assumption
    cases hb : Nat.beq o.1 ci with
    | false => rw [hb] at hk; exact hk.elim
    | true =>
      rw [hb] at hk
      have ho : o.1 = ci := Nat.eq_of_beq_eq_true hb
      have he : (zW Z G σ)[k]? = some (G.2.2 k, .inr (ci, o.2.mapIdx fun j k' => zv G.2.2 (zsl σ k j k'))) := by
        have q := zW_get (G := G) (σ := σ) hx
        rw [← ho]; exact q
      split at hk
      · rename_i κ hκ
        rw [zat_eq] at hκ
        cases hb2 : Nat.beq κ.1 1 with
        | false => rw [hb2] at hk; exact hk.elim
        | true =>
          rw [hb2] at hk
          have hκ0 : κ.1 = 1 := Nat.eq_of_beq_eq_true hb2
          have hpf : parseFieldDescriptor (T j).2.2.1 = some .long := by rw [← hty]; exact hC.2.2.1 j hj
          have hlen : j < (o.2.mapIdx fun j k' => zv G.2.2 (zsl σ k j k')).length := by
            have := (List.getElem?_eq_some_iff.mp hκ).1
            simpa using this
          have hset : (zW Z G σ).set k (G.2.2 k, .inr (ci, (o.2.mapIdx fun j k' => zv G.2.2 (zsl σ k j k')).set j (.long x))) = zW Z G (zsL σ k j x) := by
            refine zW_set hx ?_ zsL_ne
            simp only [zcell, ho]
            rw [zfs_set (σ := σ) (τ := zsL σ k j x) hκ (v := .long x) (by simp [zsl, hκ0, zsL, zv]) (fun i hi => by simp [zsL, hi])]
          have hnn : narrow .long (.long x) = .long x := rfl
          have hff : fits .long (.long x) = true := rfl
          rcases hF with hF | ⟨host, hF⟩
          · exact va_put F.1 F.2.1 F.2.2.2.2.2.1 (fun w hw => List.mem_cons_of_mem _ (hC.2.1 w hw)) ty hC.2.2.1 hC.2.2.2 F.2.2.2.2.1 F.2.2.2.2.2.2.1.1 hH (zW_D F.2.2.2.2.2.2.1.2.1) hS k he hC.1 j hj (F.2.2.2.2.2.1 _ (List.mem_cons_of_mem _ hF)) (fun _ h => h) hfin hpf hnn hff hlen hd
              (fun H1 locs1 hP1 _ hS1 => htr _ ls _ _ H1 locs1 la (by show va_P G.1 Z.1 (zW Z G (zsL σ k j x)) H1; rw [← hset]; exact hP1) hS1 hl hk)
          · exact va_putN F.1 F.2.1 F.2.2.2.2.2.1 (fun w hw => List.mem_cons_of_mem _ (hC.2.1 w hw)) ty hC.2.2.1 hC.2.2.2 F.2.2.2.2.1 F.2.2.2.2.2.2.1.1 hH (zW_D F.2.2.2.2.2.2.1.2.1) hS k he hC.1 j hj (va_Nw.use rfl (F.2.2.2.2.2.2.1.2.2.1 _ hF)) (fun _ h => h) hfin hpf hnn hff hlen hd
              (fun H1 locs1 hP1 _ hS1 => htr _ ls _ _ H1 locs1 la (by show va_P G.1 Z.1 (zW Z G (zsL σ k j x)) H1; rw [← hset]; exact hP1) hS1 hl hk)
      · exact hk.elim
theorem s_iald (hd : decode M.2.1 pc = .ok (.iaload, 1)) : zSnd Z M pc (o_ald Z.2.1 .int (pc + 1)) := by
  intro G p l e s m args below meth c F Q QX tr htr ls st σ H locs la hH hS hl hk
  unfold o_ald at hk
  split at hk
  rotate_left
  · exact hk.elim
  rename_i i k r
  split at hk
  rotate_left
  · exact hk.elim
  · rename_i a hz
    have hx : Z.2.1[k]? = some (.inr a) := by rw [← zat_eq]; assumption
    obtain ⟨aty, an⟩ := a
    cases hb : zty aty .int with
    | false => simp only [hb] at hk; exact hk.elim
    | true =>
      simp only [hb] at hk
      have hat : aty = .int := zty_eq hb
      subst hat
      have he := zW_get (G := G) (σ := σ) hx
      exact va_iald F.1 F.2.1 F.2.2.2.2.2.2.1.1 hH k 0 he rfl hk.1 hd (htr _ ls _ σ H locs la hH hS hl hk.2)
theorem s_bald (hd : decode M.2.1 pc = .ok (.baload, 1)) : zSnd Z M pc (o_ald Z.2.1 .byte (pc + 1)) := by
  intro G p l e s m args below meth c F Q QX tr htr ls st σ H locs la hH hS hl hk
  unfold o_ald at hk
  split at hk
  rotate_left
  · exact hk.elim
  rename_i i k r
  split at hk
  rotate_left
  · exact hk.elim
  · rename_i a hz
    have hx : Z.2.1[k]? = some (.inr a) := by rw [← zat_eq]; assumption
    obtain ⟨aty, an⟩ := a
    cases hb : zty aty .byte with
    | false => simp only [hb] at hk; exact hk.elim
    | true =>
      simp only [hb] at hk
      have hat : aty = .byte := zty_eq hb
      subst hat
      have he := zW_get (G := G) (σ := σ) hx
      exact va_bald F.1 F.2.1 F.2.2.2.2.2.2.1.1 hH k 2 he rfl hk.1 hd (htr _ ls _ σ H locs la hH hS hl hk.2)
theorem s_sald (hd : decode M.2.1 pc = .ok (.saload, 1)) : zSnd Z M pc (o_ald Z.2.1 .short (pc + 1)) := by
  intro G p l e s m args below meth c F Q QX tr htr ls st σ H locs la hH hS hl hk
  unfold o_ald at hk
  split at hk
  rotate_left
  · exact hk.elim
  rename_i i k r
  split at hk
  rotate_left
  · exact hk.elim
  · rename_i a hz
    have hx : Z.2.1[k]? = some (.inr a) := by rw [← zat_eq]; assumption
    obtain ⟨aty, an⟩ := a
    cases hb : zty aty .short with
    | false => simp only [hb] at hk; exact hk.elim
    | true =>
      simp only [hb] at hk
      have hat : aty = .short := zty_eq hb
      subst hat
      have he := zW_get (G := G) (σ := σ) hx
      exact va_sald F.1 F.2.1 F.2.2.2.2.2.2.1.1 hH k 3 he rfl hk.1 hd (htr _ ls _ σ H locs la hH hS hl hk.2)
theorem s_zald (hd : decode M.2.1 pc = .ok (.baload, 1)) : zSnd Z M pc (o_ald Z.2.1 .boolean (pc + 1)) := by
  intro G p l e s m args below meth c F Q QX tr htr ls st σ H locs la hH hS hl hk
  unfold o_ald at hk
  split at hk
  rotate_left
  · exact hk.elim
  rename_i i k r
  split at hk
  rotate_left
  · exact hk.elim
  · rename_i a hz
    have hx : Z.2.1[k]? = some (.inr a) := by rw [← zat_eq]; assumption
    obtain ⟨aty, an⟩ := a
    cases hb : zty aty .boolean with
    | false => simp only [hb] at hk; exact hk.elim
    | true =>
      simp only [hb] at hk
      have hat : aty = .boolean := zty_eq hb
      subst hat
      have he := zW_get (G := G) (σ := σ) hx
      exact va_zald F.1 F.2.1 F.2.2.2.2.2.2.1.1 hH k 4 he rfl hk.1 hd (htr _ ls _ σ H locs la hH hS hl hk.2)
theorem s_lald (hd : decode M.2.1 pc = .ok (.laload, 1)) : zSnd Z M pc (o_lald Z.2.1 (pc + 1)) := by
  intro G p l e s m args below meth c F Q QX tr htr ls st σ H locs la hH hS hl hk
  unfold o_lald at hk
  split at hk
  rotate_left
  · exact hk.elim
  rename_i i k r
  split at hk
  rotate_left
  · exact hk.elim
  · rename_i a hz
    have hx : Z.2.1[k]? = some (.inr a) := by rw [← zat_eq]; assumption
    obtain ⟨aty, an⟩ := a
    cases hb : zty aty .long with
    | false => simp only [hb] at hk; exact hk.elim
    | true =>
      simp only [hb] at hk
      have hat : aty = .long := zty_eq hb
      subst hat
      have he := zW_get (G := G) (σ := σ) hx
      exact va_lald F.1 F.2.1 F.2.2.2.2.2.2.1.1 hH k 1 he rfl hk.1 hd (htr _ ls _ σ H locs la hH hS hl hk.2)
theorem s_iast (hd : decode M.2.1 pc = .ok (.iastore, 1)) : zSnd Z M pc (o_ast Z.2.1 .int (fun x => x) (pc + 1)) := by
  intro G p l e s m args below meth c F Q QX tr htr ls st σ H locs la hH hS hl hk
  unfold o_ast at hk
  split at hk
  rotate_left
  · exact hk.elim
  rename_i x i k r
  split at hk
  rotate_left
  · exact hk.elim
  · rename_i a hz
    have hx : Z.2.1[k]? = some (.inr a) := by rw [← zat_eq]; assumption
    obtain ⟨aty, an⟩ := a
    cases hb : zty aty .int with
    | false => simp only [hb] at hk; exact hk.elim
    | true =>
      simp only [hb] at hk
      have hat : aty = .int := zty_eq hb
      subst hat
      have he := zW_get (G := G) (σ := σ) hx
      refine va_iast F.1 F.2.1 F.2.2.2.2.2.2.1.1 hH (zW_D F.2.2.2.2.2.2.1.2.1) hS k 0 he rfl hk.1 hd (fun H1 locs1 hP1 _ hS1 => htr _ ls _ _ H1 locs1 la ?_ hS1 hl hk.2)
      have hset := zW_set (G := G) (σ := σ) (τ := zsI σ k i.toNatClampNeg (x)) (e := .inl (G.2.1 .int, an, .inl (upd (σ.1 k) i.toNatClampNeg (x)))) hx (by
        have q : (zsI σ k i.toNatClampNeg (x)).1 k = upd (σ.1 k) i.toNatClampNeg (x) := by funext b; simp [zsI, upd]
        simp only [zcell, q]) zsI_ne
      rw [hset] at hP1
      exact hP1
theorem s_bast (hd : decode M.2.1 pc = .ok (.bastore, 1)) : zSnd Z M pc (o_ast Z.2.1 .byte (fun x => vp_nar .byte x) (pc + 1)) := by
  intro G p l e s m args below meth c F Q QX tr htr ls st σ H locs la hH hS hl hk
  unfold o_ast at hk
  split at hk
  rotate_left
  · exact hk.elim
  rename_i x i k r
  split at hk
  rotate_left
  · exact hk.elim
  · rename_i a hz
    have hx : Z.2.1[k]? = some (.inr a) := by rw [← zat_eq]; assumption
    obtain ⟨aty, an⟩ := a
    cases hb : zty aty .byte with
    | false => simp only [hb] at hk; exact hk.elim
    | true =>
      simp only [hb] at hk
      have hat : aty = .byte := zty_eq hb
      subst hat
      have he := zW_get (G := G) (σ := σ) hx
      refine va_bast F.1 F.2.1 F.2.2.2.2.2.2.1.1 hH (zW_D F.2.2.2.2.2.2.1.2.1) hS k 2 he rfl hk.1 hd (fun H1 locs1 hP1 _ hS1 => htr _ ls _ _ H1 locs1 la ?_ hS1 hl hk.2)
      have hset := zW_set (G := G) (σ := σ) (τ := zsI σ k i.toNatClampNeg (vp_nar .byte x)) (e := .inl (G.2.1 .byte, an, .inl (upd (σ.1 k) i.toNatClampNeg (vp_nar .byte x)))) hx (by
        have q : (zsI σ k i.toNatClampNeg (vp_nar .byte x)).1 k = upd (σ.1 k) i.toNatClampNeg (vp_nar .byte x) := by funext b; simp [zsI, upd]
        simp only [zcell, q]) zsI_ne
      rw [hset] at hP1
      exact hP1
theorem s_sast (hd : decode M.2.1 pc = .ok (.sastore, 1)) : zSnd Z M pc (o_ast Z.2.1 .short (fun x => vp_nar .short x) (pc + 1)) := by
  intro G p l e s m args below meth c F Q QX tr htr ls st σ H locs la hH hS hl hk
  unfold o_ast at hk
  split at hk
  rotate_left
  · exact hk.elim
  rename_i x i k r
  split at hk
  rotate_left
  · exact hk.elim
  · rename_i a hz
    have hx : Z.2.1[k]? = some (.inr a) := by rw [← zat_eq]; assumption
    obtain ⟨aty, an⟩ := a
    cases hb : zty aty .short with
    | false => simp only [hb] at hk; exact hk.elim
    | true =>
      simp only [hb] at hk
      have hat : aty = .short := zty_eq hb
      subst hat
      have he := zW_get (G := G) (σ := σ) hx
      refine va_sast F.1 F.2.1 F.2.2.2.2.2.2.1.1 hH (zW_D F.2.2.2.2.2.2.1.2.1) hS k 3 he rfl hk.1 hd (fun H1 locs1 hP1 _ hS1 => htr _ ls _ _ H1 locs1 la ?_ hS1 hl hk.2)
      have hset := zW_set (G := G) (σ := σ) (τ := zsI σ k i.toNatClampNeg (vp_nar .short x)) (e := .inl (G.2.1 .short, an, .inl (upd (σ.1 k) i.toNatClampNeg (vp_nar .short x)))) hx (by
        have q : (zsI σ k i.toNatClampNeg (vp_nar .short x)).1 k = upd (σ.1 k) i.toNatClampNeg (vp_nar .short x) := by funext b; simp [zsI, upd]
        simp only [zcell, q]) zsI_ne
      rw [hset] at hP1
      exact hP1
theorem s_zast (hd : decode M.2.1 pc = .ok (.bastore, 1)) : zSnd Z M pc (o_ast Z.2.1 .boolean (fun x => vp_nar .boolean x) (pc + 1)) := by
  intro G p l e s m args below meth c F Q QX tr htr ls st σ H locs la hH hS hl hk
  unfold o_ast at hk
  split at hk
  rotate_left
  · exact hk.elim
  rename_i x i k r
  split at hk
  rotate_left
  · exact hk.elim
  · rename_i a hz
    have hx : Z.2.1[k]? = some (.inr a) := by rw [← zat_eq]; assumption
    obtain ⟨aty, an⟩ := a
    cases hb : zty aty .boolean with
    | false => simp only [hb] at hk; exact hk.elim
    | true =>
      simp only [hb] at hk
      have hat : aty = .boolean := zty_eq hb
      subst hat
      have he := zW_get (G := G) (σ := σ) hx
      refine va_zast F.1 F.2.1 F.2.2.2.2.2.2.1.1 hH (zW_D F.2.2.2.2.2.2.1.2.1) hS k 4 he rfl hk.1 hd (fun H1 locs1 hP1 _ hS1 => htr _ ls _ _ H1 locs1 la ?_ hS1 hl hk.2)
      have hset := zW_set (G := G) (σ := σ) (τ := zsI σ k i.toNatClampNeg (vp_nar .boolean x)) (e := .inl (G.2.1 .boolean, an, .inl (upd (σ.1 k) i.toNatClampNeg (vp_nar .boolean x)))) hx (by
        have q : (zsI σ k i.toNatClampNeg (vp_nar .boolean x)).1 k = upd (σ.1 k) i.toNatClampNeg (vp_nar .boolean x) := by funext b; simp [zsI, upd]
        simp only [zcell, q]) zsI_ne
      rw [hset] at hP1
      exact hP1
theorem s_last (hd : decode M.2.1 pc = .ok (.lastore, 1)) : zSnd Z M pc (o_last Z.2.1 (pc + 1)) := by
  intro G p l e s m args below meth c F Q QX tr htr ls st σ H locs la hH hS hl hk
  unfold o_last at hk
  split at hk
  rotate_left
  · exact hk.elim
  rename_i x i k r
  split at hk
  rotate_left
  · exact hk.elim
  · rename_i a hz
    have hx : Z.2.1[k]? = some (.inr a) := by rw [← zat_eq]; assumption
    obtain ⟨aty, an⟩ := a
    cases hb : zty aty .long with
    | false => simp only [hb] at hk; exact hk.elim
    | true =>
      simp only [hb] at hk
      have hat : aty = .long := zty_eq hb
      subst hat
      have he := zW_get (G := G) (σ := σ) hx
      refine va_last F.1 F.2.1 F.2.2.2.2.2.2.1.1 hH (zW_D F.2.2.2.2.2.2.1.2.1) hS k 1 he rfl hk.1 hd (fun H1 locs1 hP1 _ hS1 => htr _ ls _ _ H1 locs1 la ?_ hS1 hl hk.2)
      have hset := zW_set (G := G) (σ := σ) (τ := zsL σ k i.toNatClampNeg x) (e := .inl (G.2.1 .long, an, .inr (.inl (vp_updL (σ.2 k) i.toNatClampNeg x)))) hx (by
        have q : (zsL σ k i.toNatClampNeg x).2 k = vp_updL (σ.2 k) i.toNatClampNeg x := by funext b; simp [zsL, vp_updL]
        simp only [zcell, q]) zsL_ne
      rw [hset] at hP1
      exact hP1
theorem s_alen (hA : ∀ (k : Nat) (a : FieldType × Nat), Z.2.1[k]? = some (Sum.inr a : zC) → a.1 = .int ∨ a.1 = .long ∨ a.1 = .byte ∨ a.1 = .short ∨ a.1 = .boolean) (hd : decode M.2.1 pc = .ok (.arraylength, 1)) : zSnd Z M pc (o_alen Z.2.1 (pc + 1)) := by
  intro G p l e s m args below meth c F Q QX tr htr ls st σ H locs la hH hS hl hk
  unfold o_alen at hk
  split at hk
  rotate_left
  · exact hk.elim
  rename_i k r
  split at hk
  rotate_left
  · exact hk.elim
  · rename_i a hz
    have hx : Z.2.1[k]? = some (.inr a) := by rw [← zat_eq]; assumption
    have he := zW_get (G := G) (σ := σ) hx
    obtain ⟨aty, an⟩ := a
    rcases hA k _ hx with q | q | q | q | q <;> (simp only at q; subst q)
    · exact va_alen F.1 F.2.1 F.2.2.2.2.2.2.1.1 hH k 0 he rfl rfl hd (htr _ ls _ σ H locs la hH hS hl hk)
    · exact va_alen F.1 F.2.1 F.2.2.2.2.2.2.1.1 hH k 1 he rfl rfl hd (htr _ ls _ σ H locs la hH hS hl hk)
    · exact va_alen F.1 F.2.1 F.2.2.2.2.2.2.1.1 hH k 2 he rfl rfl hd (htr _ ls _ σ H locs la hH hS hl hk)
    · exact va_alen F.1 F.2.1 F.2.2.2.2.2.2.1.1 hH k 3 he rfl rfl hd (htr _ ls _ σ H locs la hH hS hl hk)
    · exact va_alen F.1 F.2.1 F.2.2.2.2.2.2.1.1 hH k 4 he rfl rfl hd (htr _ ls _ σ H locs la hH hS hl hk)
theorem s_gets {C nm d : String} {k idx : Nat} (hz : ∀ (G : zG) (s : State), Z.2.2 G (zA Z G) s → va_Z C nm d (.ref (G.2.2 k)) (zA Z G) s s.heap) (hw : Cond.fieldLink M.1.cls idx C nm d ∈ zWS) (hd : decode M.2.1 pc = .ok (.getstatic idx, 3)) : zSnd Z M pc (o_gets k (pc + 3)) := by
  intro G p l e s m args below meth c F Q QX tr htr ls st σ H locs la hH hS hl hk
  exact va_gets F.1 F.2.1 (hz G s F.2.2.2.2.2.2.1.2.2.2) hS F.2.2.2.2.1 (F.2.2.2.2.2.1 _ (List.mem_cons_of_mem _ hw)) (fun _ h => h) hd (htr _ ls _ σ H locs la hH hS hl hk)
theorem s_tald {f : Nat → Int32} {k N : Nat} (hz : ∀ (G : zG) (s : State), Z.2.2 G (zA Z G) s → va_T .int (G.2.2 k) N (fun i => .int (f i)) (zA Z G) s s.heap) (hd : decode M.2.1 pc = .ok (.iaload, 1)) : zSnd Z M pc (o_tald f N k (pc + 1)) := by
  intro G p l e s m args below meth c F Q QX tr htr ls st σ H locs la hH hS hl hk
  unfold o_tald at hk
  split at hk
  rotate_left
  · exact hk.elim
  rename_i i q r
  cases hb : Nat.beq q k with
  | false => rw [hb] at hk; exact hk.elim
  | true =>
    rw [hb] at hk
    have e := Nat.eq_of_beq_eq_true hb
    subst e
    exact va_ti F.1 F.2.1 (hz G s F.2.2.2.2.2.2.1.2.2.2) hS hk.1 rfl hd (htr _ ls _ σ H locs la hH hS hl hk.2)
theorem s_tlen {f : Nat → Int32} {k N : Nat} (hz : ∀ (G : zG) (s : State), Z.2.2 G (zA Z G) s → va_T .int (G.2.2 k) N (fun i => .int (f i)) (zA Z G) s s.heap) (hd : decode M.2.1 pc = .ok (.arraylength, 1)) : zSnd Z M pc (o_tlen N k (pc + 1)) := by
  intro G p l e s m args below meth c F Q QX tr htr ls st σ H locs la hH hS hl hk
  unfold o_tlen at hk
  split at hk
  rotate_left
  · exact hk.elim
  rename_i q r
  cases hb : Nat.beq q k with
  | false => rw [hb] at hk; exact hk.elim
  | true =>
    rw [hb] at hk
    have e := Nat.eq_of_beq_eq_true hb
    subst e
    exact va_tlen F.1 F.2.1 (hz G s F.2.2.2.2.2.2.1.2.2.2) hS rfl hd (htr _ ls _ σ H locs la hH hS hl hk)
theorem z_callk {G : zG} {p : Program} {l : Launch} {e : Env} {s : State} {m : MethodId} {args : Array Value} {below : List Frame} {meth : Method} {c : Code} (F : zF Z M G p l e s m args below meth c) {Q Q' : Option Value → zS → Prop} {QX : zS → Prop} {la : Array Slot} {st0 rest : List Value} {a : Array Value} {H : Heap} {locs : List Loc}
    (hr : vx_Run p l e (zR M.2.2.2.2) s m args below meth c H locs 0 0 0 0 (F0 m pc la st0) rest (zQc Z G Q' a) (zXC Z G QX) (zA Z G)) (hS : va_S (zA Z G) s.heap H locs)
    (kk : ∀ (v : Option Value) (σ' : zS) (H1 : Heap) (locs1 : List Loc), Q' v σ' → zHd Z G σ' H1 → va_S (zA Z G) s.heap H1 locs1 → W p l e (zR M.2.2.2.2) s m args below meth c H1 locs1 0 0 (vx_MQ below (zQc Z G Q) (zXC Z G QX) args s 0 0 (zA Z G)) (F0 m (pc + 3) la ((v.map (zv G.2.2)).toList ++ rest))) :
    W p l e (zR M.2.2.2.2) s m args below meth c H locs 0 0 (vx_MQ below (zQc Z G Q) (zXC Z G QX) args s 0 0 (zA Z G)) (F0 m pc la st0) := by
  intro T hT X
  rcases hr T hT X with ⟨v, st₀, t, T', L, h0, X', hL, e1, e2, ⟨⟨v', σ', hv, hq, hH'⟩, hF⟩, st⟩ | ⟨q, st₀, t, T', L, E, ce, h0, X', hL, e1, e2, ⟨hE, ⟨σ', hq, hH'⟩, hF⟩, hce, hcv, hcl, st⟩
  · cases hv
    obtain ⟨k1, k2, k3⟩ := vx_keep h0 e1 hS (fun q _ h => h) (fun q h => h) hL hF
    obtain ⟨t2, a1, b1⟩ := kk v' σ' T'.heap (locs ++ L) hq (by rw [e1]; exact hH') k3 T' rfl X'
    exact ⟨t2, st t2 a1, b1⟩
  · subst hE
    obtain ⟨k1, k2, k3⟩ := vx_keep h0 e1 hS (fun q _ h => h) (fun q h => h) hL hF
    obtain ⟨t2, a1, b1⟩ := (vx_out (pc := pc) (rest := rest) (ls := la) (Qc := zQc Z G Q) (XC := zXC Z G QX) (mc := 0) (ms := 0) (free := zA Z G) (fun x hx => (F.2.2.2.2.2.2.2.2.1 x hx).elim) F.2.2.2.2.2.2.2.1 (by rw [e1]; exact hce) hcv hcl (fun t' ht' _ => ⟨rfl, ⟨σ', hq, by rw [ht', e1]; exact hH'⟩, k3.F ht'⟩) k3.2.2 (Nat.le_refl _) (Nat.le_refl _)) T' rfl X'
    exact ⟨t2, st.trans a1, b1⟩
abbrev zCal (M' : zM) : Prop := Cond.code M'.1 M'.2.1 M'.2.2.1 M'.2.2.2.1 ∈ zWS ∧ Cond.initialized M'.1.cls ∈ zWS ∧ (M'.1.cls ≠ "java/lang/invoke/MethodHandle" ∧ M'.1.cls ≠ "java/lang/invoke/VarHandle")
abbrev zRm (M M' : zM) : Prop := M'.2.2.2.2 + 1 ≤ M.2.2.2.2 ∧ 8 + (M'.2.2.1 + 11) + 40 * M'.2.2.2.2 ≤ 40 * M.2.2.2.2
theorem zGood {w0 w1 : Cond} (h : w1 ∈ zWS) : GoodIn (w0 :: zWS) (w1 :: zWS) := by
  intro w hw
  have hw' : w ∈ zWS := by
    rcases List.mem_cons.mp hw with q | q
    · rw [q]; exact h
    · exact q
  exact ⟨List.mem_cons_of_mem _ hw', good_of_word (List.mem_filter.mp hw').2⟩
theorem zCallB {G : zG} {p : Program} {l : Launch} {e : Env} {s : State} {m : MethodId} {args : Array Value} {below : List Frame} {meth : Method} {c : Code} (F : zF Z M G p l e s m args below meth c) {M' : zM} {na idx : Nat} (hM : zCal M') (hp : (parseMethodDescriptor M'.1.desc).map (fun d => d.parameters.length) = some na) (hR : zRm M M') (hl : Cond.methodLink M.1.cls idx M'.1 ∈ zWS) :
    CallB (zR M.2.2.2.2) s args M.1.cls idx M'.1 M'.2.1 M'.2.2.1 M'.2.2.2.1 (Cond.code M'.1 M'.2.1 M'.2.2.1 M'.2.2.2.1 :: zWS) (zR M'.2.2.2.2) 0 0 na := by
  refine ⟨rfl, rfl, hR.1, hR.2, pay_in F.2.2.2.2.2.1 (zGood hM.1), List.mem_cons_self, F.2.2.2.2.2.1 _ (List.mem_cons_of_mem _ hM.1), F.2.2.2.2.2.1 _ (List.mem_cons_of_mem _ hM.2.1), hM.2.2, fun sig h => ?_, F.2.2.2.2.2.1 _ (List.mem_cons_of_mem _ hl)⟩
  rw [h] at hp
  exact (Option.some.inj hp).symm
theorem zCallN {G : zG} {p : Program} {l : Launch} {e : Env} {s : State} {m : MethodId} {args : Array Value} {below : List Frame} {meth : Method} {c : Code} (F : zF Z M G p l e s m args below meth c) {M' : zM} {na idx : Nat} {host : String} (hM : zCal M') (hp : (parseMethodDescriptor M'.1.desc).map (fun d => d.parameters.length) = some na) (hR : zRm M M') (hl : Cond.methodLinkNest M.1.cls idx M'.1 host ∈ zNW) :
    va_CN (zR M.2.2.2.2) s args M.1.cls idx M'.1 host M'.2.1 M'.2.2.1 M'.2.2.2.1 (Cond.code M'.1 M'.2.1 M'.2.2.1 M'.2.2.2.1 :: zWS) (zR M'.2.2.2.2) 0 0 na := by
  refine ⟨⟨rfl, rfl, hR.1, hR.2, pay_in F.2.2.2.2.2.1 (zGood hM.1), List.mem_cons_self⟩, F.2.2.2.2.2.1 _ (List.mem_cons_of_mem _ hM.1), F.2.2.2.2.2.1 _ (List.mem_cons_of_mem _ hM.2.1), hM.2.2, fun sig h => ?_, va_Nw.use rfl (F.2.2.2.2.2.2.1.2.2.1 _ hl)⟩
  rw [h] at hp
  exact (Option.some.inj hp).symm
theorem zpush_map (ad : Nat → Nat) (v : Option Value) (r : List Value) : (v.map (zv ad)).toList ++ r.map (zv ad) = (zpush v r).map (zv ad) := by cases v <;> rfl
theorem s_callV {ci na idx N : Nat} {M' : zM} {T : u_T} {ty : Nat → FieldType} (hC : zCls Z ci M'.1.cls T N ty) (hM : zCal M') (hv : Cond.instanceMethod M'.1 ∈ zWS ∧ Cond.selects M'.1.cls M'.1 M'.1 ∈ zWS) (hp : (parseMethodDescriptor M'.1.desc).map (fun d => d.parameters.length) = some na) (hR : zRm M M') (hw : Cond.methodLink M.1.cls idx M'.1 ∈ zWS) (hd : decode M.2.1 pc = .ok (.invokevirtual idx, 3)) : zSnd Z M pc (o_callV Z ci M' na (pc + 3)) := by
  intro G p l e s m args below meth c F Q QX tr htr ls st σ H locs la hH hS hl hk
  unfold o_callV at hk
  split at hk
  rotate_left
  · exact hk.elim
  rename_i as k r hpop
  obtain ⟨q, hq1, hq2, hq3⟩ := zpop_spec hpop
  split at hk
  rotate_left
  · exact hk.elim
  · rename_i o hz
    have hx : Z.2.1[k]? = some (.inl o) := by rw [← zat_eq]; assumption
    cases hb : Nat.beq o.1 ci with
    | false => rw [hb] at hk; exact hk.elim
    | true =>
      rw [hb] at hk
      have ho : o.1 = ci := Nat.eq_of_beq_eq_true hb
      have he : (zW Z G σ)[k]? = some (G.2.2 k, .inr (ci, o.2.mapIdx fun j k' => zv G.2.2 (zsl σ k j k'))) := by
        have q := zW_get (G := G) (σ := σ) hx
        rw [← ho]; exact q
      cases hb2 : Nat.ble (zcs r) 8 with
      | false => rw [hb2] at hk; exact hk.elim
      | true =>
        rw [hb2] at hk
        have hcs := Nat.le_of_ble_eq_true hb2
        have has : as = q.reverse := by rw [hq3, List.append_nil]
        refine z_callk F (vx_runV (As := as.map (zv G.2.2)) (rest := r.map (zv G.2.2)) ⟨F.1, F.2.1, F.2.2.2.1, F.2.2.2.2.1, F.2.2.2.2.2.1⟩ (hk l G) ⟨zCallB F hM hp hR hw, F.2.2.2.2.2.1 _ (List.mem_cons_of_mem _ hv.1), F.2.2.2.2.2.1 _ (List.mem_cons_of_mem _ hv.2)⟩ ⟨zPc_blind F.2.2.2.2.2.2.2.2.2, va_recv F.2.2.2.2.2.2.1.1 hH hC.1 he, fun U hU hW => ⟨rfl, by rw [hU]; exact hH, zEnv_warm F.2.2.2.2.2.2.2.2.2 F.2.2.2.2.2.2.1 hU hW hS⟩⟩ rfl (by rw [has]; simp [hq1]) hl.1 (by rw [hq2, has]; simp [zv]) (lv_room (by rw [zcs_eq]; exact hcs)) hd ⟨Nat.le_refl _, Nat.le_refl _⟩) hS (fun v σ' H1 locs1 hQ' hH1 hS1 => ?_)
        rw [zpush_map]
        exact htr _ ls _ σ' H1 locs1 la hH1 hS1 hl hQ'
theorem s_callVN {ci na idx N : Nat} {M' : zM} {T : u_T} {ty : Nat → FieldType} {host : String} (hC : zCls Z ci M'.1.cls T N ty) (hM : zCal M') (hv : Cond.instanceMethod M'.1 ∈ zWS ∧ Cond.selects M'.1.cls M'.1 M'.1 ∈ zWS) (hp : (parseMethodDescriptor M'.1.desc).map (fun d => d.parameters.length) = some na) (hR : zRm M M') (hw : Cond.methodLinkNest M.1.cls idx M'.1 host ∈ zNW) (hd : decode M.2.1 pc = .ok (.invokevirtual idx, 3)) : zSnd Z M pc (o_callV Z ci M' na (pc + 3)) := by
  intro G p l e s m args below meth c F Q QX tr htr ls st σ H locs la hH hS hl hk
  unfold o_callV at hk
  split at hk
  rotate_left
  · exact hk.elim
  rename_i as k r hpop
  obtain ⟨q, hq1, hq2, hq3⟩ := zpop_spec hpop
  split at hk
  rotate_left
  · exact hk.elim
  · rename_i o hz
    have hx : Z.2.1[k]? = some (.inl o) := by rw [← zat_eq]; assumption
    cases hb : Nat.beq o.1 ci with
    | false => rw [hb] at hk; exact hk.elim
    | true =>
      rw [hb] at hk
      have ho : o.1 = ci := Nat.eq_of_beq_eq_true hb
      have he : (zW Z G σ)[k]? = some (G.2.2 k, .inr (ci, o.2.mapIdx fun j k' => zv G.2.2 (zsl σ k j k'))) := by
        have q := zW_get (G := G) (σ := σ) hx
        rw [← ho]; exact q
      cases hb2 : Nat.ble (zcs r) 8 with
      | false => rw [hb2] at hk; exact hk.elim
      | true =>
        rw [hb2] at hk
        have hcs := Nat.le_of_ble_eq_true hb2
        have has : as = q.reverse := by rw [hq3, List.append_nil]
        refine z_callk F (vx_runVN (As := as.map (zv G.2.2)) (rest := r.map (zv G.2.2)) ⟨F.1, F.2.1, F.2.2.2.1, F.2.2.2.2.1, F.2.2.2.2.2.1⟩ (hk l G) ⟨zCallN F hM hp hR hw, F.2.2.2.2.2.1 _ (List.mem_cons_of_mem _ hv.1), F.2.2.2.2.2.1 _ (List.mem_cons_of_mem _ hv.2)⟩ ⟨zPc_blind F.2.2.2.2.2.2.2.2.2, va_recv F.2.2.2.2.2.2.1.1 hH hC.1 he, fun U hU hW => ⟨rfl, by rw [hU]; exact hH, zEnv_warm F.2.2.2.2.2.2.2.2.2 F.2.2.2.2.2.2.1 hU hW hS⟩⟩ rfl (by rw [has]; simp [hq1]) hl.1 (by rw [hq2, has]; simp [zv]) (lv_room (by rw [zcs_eq]; exact hcs)) hd ⟨Nat.le_refl _, Nat.le_refl _⟩) hS (fun v σ' H1 locs1 hQ' hH1 hS1 => ?_)
        rw [zpush_map]
        exact htr _ ls _ σ' H1 locs1 la hH1 hS1 hl hQ'
theorem s_callS {na idx : Nat} {M' : zM} (hM : zCal M') (hv : Cond.static M'.1 ∈ zWS) (hp : (parseMethodDescriptor M'.1.desc).map (fun d => d.parameters.length) = some na) (hR : zRm M M') (hw : Cond.methodLink M.1.cls idx M'.1 ∈ zWS) (hd : decode M.2.1 pc = .ok (.invokestatic idx, 3)) : zSnd Z M pc (o_callS Z M' na (pc + 3)) := by
  intro G p l e s m args below meth c F Q QX tr htr ls st σ H locs la hH hS hl hk
  unfold o_callS at hk
  split at hk
  rotate_left
  · exact hk.elim
  rename_i as r hpop
  obtain ⟨q, hq1, hq2, hq3⟩ := zpop_spec hpop
  cases hb2 : Nat.ble (zcs r) 8 with
  | false => rw [hb2] at hk; exact hk.elim
  | true =>
    rw [hb2] at hk
    have hcs := Nat.le_of_ble_eq_true hb2
    have has : as = q.reverse := by rw [hq3, List.append_nil]
    refine z_callk F (vx_runS (As := as.map (zv G.2.2)) (rest := r.map (zv G.2.2)) ⟨F.1, F.2.1, F.2.2.2.1, F.2.2.2.2.1, F.2.2.2.2.2.1⟩ (hk l G) ⟨zCallB F hM hp hR hw, F.2.2.2.2.2.1 _ (List.mem_cons_of_mem _ hv)⟩ ⟨zPc_blind F.2.2.2.2.2.2.2.2.2, fun U hU hW => ⟨rfl, by rw [hU]; exact hH, zEnv_warm F.2.2.2.2.2.2.2.2.2 F.2.2.2.2.2.2.1 hU hW hS⟩⟩ rfl (by rw [has]; simp [hq1]) hl.1 (by rw [hq2, has]; simp) (lv_room (by rw [zcs_eq]; exact hcs)) hd ⟨Nat.le_refl _, Nat.le_refl _⟩) hS (fun v σ' H1 locs1 hQ' hH1 hS1 => ?_)
    rw [zpush_map]
    exact htr _ ls _ σ' H1 locs1 la hH1 hS1 hl hQ'
theorem s_callSN {na idx : Nat} {M' : zM} {host : String} (hM : zCal M') (hv : Cond.static M'.1 ∈ zWS) (hp : (parseMethodDescriptor M'.1.desc).map (fun d => d.parameters.length) = some na) (hR : zRm M M') (hw : Cond.methodLinkNest M.1.cls idx M'.1 host ∈ zNW) (hd : decode M.2.1 pc = .ok (.invokestatic idx, 3)) : zSnd Z M pc (o_callS Z M' na (pc + 3)) := by
  intro G p l e s m args below meth c F Q QX tr htr ls st σ H locs la hH hS hl hk
  unfold o_callS at hk
  split at hk
  rotate_left
  · exact hk.elim
  rename_i as r hpop
  obtain ⟨q, hq1, hq2, hq3⟩ := zpop_spec hpop
  cases hb2 : Nat.ble (zcs r) 8 with
  | false => rw [hb2] at hk; exact hk.elim
  | true =>
    rw [hb2] at hk
    have hcs := Nat.le_of_ble_eq_true hb2
    have has : as = q.reverse := by rw [hq3, List.append_nil]
    refine z_callk F (vx_runSN (As := as.map (zv G.2.2)) (rest := r.map (zv G.2.2)) ⟨F.1, F.2.1, F.2.2.2.1, F.2.2.2.2.1, F.2.2.2.2.2.1⟩ (hk l G) ⟨zCallN F hM hp hR hw, F.2.2.2.2.2.1 _ (List.mem_cons_of_mem _ hv), trivial⟩ ⟨zPc_blind F.2.2.2.2.2.2.2.2.2, fun U hU hW => ⟨rfl, by rw [hU]; exact hH, zEnv_warm F.2.2.2.2.2.2.2.2.2 F.2.2.2.2.2.2.1 hU hW hS⟩⟩ rfl (by rw [has]; simp [hq1]) hl.1 (by rw [hq2, has]; simp) (lv_room (by rw [zcs_eq]; exact hcs)) hd ⟨Nat.le_refl _, Nat.le_refl _⟩) hS (fun v σ' H1 locs1 hQ' hH1 hS1 => ?_)
    rw [zpush_map]
    exact htr _ ls _ σ' H1 locs1 la hH1 hS1 hl hQ'
theorem s_athrow {ci N : Nat} {T : u_T} (hC : Z.1[ci]? = some ("java/lang/IllegalStateException", T, N)) (hd : decode M.2.1 pc = .ok (.athrow, 1)) : zSnd Z M pc (o_athrow Z.2.1 ci) := by
  intro G p l e s m args below meth c F Q QX tr htr ls st σ H locs la hH hS hl hk
  unfold o_athrow at hk
  split at hk
  rotate_left
  · exact hk.elim
  rename_i k r
  split at hk
  rotate_left
  · exact hk.elim
  · rename_i o hz
    have hx : Z.2.1[k]? = some (.inl o) := by rw [← zat_eq]; assumption
    cases hb : Nat.beq o.1 ci with
    | false => rw [hb] at hk; exact hk.elim
    | true =>
      rw [hb] at hk
      have ho : o.1 = ci := Nat.eq_of_beq_eq_true hb
      have he : (zW Z G σ)[k]? = some (G.2.2 k, .inr (ci, o.2.mapIdx fun j k' => zv G.2.2 (zsl σ k j k'))) := by
        have q := zW_get (G := G) (σ := σ) hx
        rw [← ho]; exact q
      obtain ⟨r0, h1, cell, q1, q2, q3, -⟩ := hH k _ he
      exact vx_athrow F.1 F.2.1 hd (vx_out (fun x hx => (F.2.2.2.2.2.2.2.2.1 x hx).elim) F.2.2.2.2.2.2.2.1 q1 q3 (by rw [q2]; exact (F.2.2.2.2.2.2.1.1.1 ci _ hC).2.1) (fun t' ht' _ => ⟨rfl, ⟨σ, hk, by rw [ht']; exact hH⟩, hS.F ht'⟩) hS.2.2 (Nat.le_refl _) (Nat.le_refl _))
end ZHEAP
end
section
/-! switches as operations: keys by groups, each group with its place -/
def zin (x : Int32) : List Int32 → Prop
  | [] => False
  | [a] => x = a
  | a :: r => x = a ∨ zin x r
theorem zin_iff (x : Int32) (l : List Int32) : zin x l ↔ ∃ a, a ∈ l ∧ x = a := by
  induction l with
  | nil => exact ⟨fun h => h.elim, fun ⟨a, h, _⟩ => by cases h⟩
  | cons a r ih =>
    cases r with
    | nil => exact ⟨fun h => ⟨a, List.mem_cons_self, h⟩, fun ⟨b, h, e⟩ => by
        rcases List.mem_cons.mp h with q | q
        · rw [e, q]; exact rfl
        · cases q⟩
    | cons b r =>
      show (x = a ∨ zin x (b :: r)) ↔ _
      rw [ih]
      constructor
      · rintro (h | ⟨c, h, e⟩)
        · exact ⟨a, List.mem_cons_self, h⟩
        · exact ⟨c, List.mem_cons_of_mem _ h, e⟩
      · rintro ⟨c, h, e⟩
        rcases List.mem_cons.mp h with q | q
        · exact Or.inl (by rw [e, q])
        · exact Or.inr ⟨c, q, e⟩
def zsw : List (List Int32 × Nat) → Nat → Int32 → (Nat → Prop) → Prop
  | [], d, _, k => k d
  | c :: cs, d, x, k => (zin x c.1 → k c.2) ∧ (¬ zin x c.1 → zsw cs d x k)
theorem zsw_elim {cs : List (List Int32 × Nat)} {d : Nat} {x : Int32} {k : Nat → Prop} (h : zsw cs d x k) : (∃ c, c ∈ cs ∧ ∃ a, a ∈ c.1 ∧ x = a ∧ k c.2) ∨ ((∀ c, c ∈ cs → ∀ a, a ∈ c.1 → ¬ x = a) ∧ k d) := by
  induction cs with
  | nil => exact Or.inr ⟨fun c hc => by (cases hc), h⟩
  | cons c cs ih =>
    by_cases hz : zin x c.1
    · obtain ⟨a, ha, e⟩ := (zin_iff x c.1).mp hz
      exact Or.inl ⟨c, List.mem_cons_self, a, ha, e, h.1 hz⟩
    · rcases ih (h.2 hz) with ⟨c', hc, r⟩ | ⟨h1, h2⟩
      · exact Or.inl ⟨c', List.mem_cons_of_mem _ hc, r⟩
      · refine Or.inr ⟨fun c' hc a ha e => ?_, h2⟩
        rcases List.mem_cons.mp hc with q | q
        · subst q
          exact hz ((zin_iff x _).mpr ⟨a, ha, e⟩)
        · exact h1 c' q a ha e
def o_sw (cs : List (List Int32 × Nat)) (d : Nat) : zOp := fun _ _ tr ls st σ => match st with
  | .int x :: r => zsw cs d x (fun t => tr t ls r σ)
  | _ => False
section ZSWS
variable {Z : zZ} {M : zM} {pc : Nat}
theorem s_tsw {dflt lo hi : Int} {offs : Array Int} {len d : Nat} {cs : List (List Int32 × Nat)} (hd : decode M.2.1 pc = .ok (.tableswitch dflt lo hi offs, len))
    (hdf : (pc : Int) + dflt = (d : Int))
    (h1 : ∀ c ∈ cs, ∀ a ∈ c.1, ¬ a.toInt < lo ∧ ¬ hi < a.toInt ∧ (offs[(a.toInt - lo).toNat]?).map (fun o => (pc : Int) + o) = some (c.2 : Int))
    (h2 : ∀ k, k < (hi - lo + 1).toNat → (∃ c ∈ cs, ∃ a ∈ c.1, a.toInt = lo + (k : Int)) ∨ (offs[k]?).map (fun o => (pc : Int) + o) = some (d : Int)) : zSnd Z M pc (o_sw cs d) := by
  intro G p l e s m args below meth c F Q QX tr htr ls st σ H locs la hH hS hl hk
  unfold o_sw at hk
  split at hk
  rotate_left
  · exact hk.elim
  rename_i x r
  rcases zsw_elim hk with ⟨c', hc, a, ha, e, hk'⟩ | ⟨hn, hk'⟩
  · subst e
    obtain ⟨g1, g2, g3⟩ := h1 c' hc x ha
    cases ho : offs[(x.toInt - lo).toNat]? with
    | none => rw [ho] at g3; cases g3
    | some off =>
      rw [ho] at g3
      exact lv_tableIn F.1 F.2.1 hd g1 g2 ho (Option.some.inj g3) (htr _ ls _ σ H locs la hH hS hl hk')
  · by_cases hr : x.toInt < lo ∨ hi < x.toInt
    · exact lv_tableOut F.1 F.2.1 hd hr hdf (htr _ ls _ σ H locs la hH hS hl hk')
    · have g1 : ¬ x.toInt < lo := fun q => hr (Or.inl q)
      have g2 : ¬ hi < x.toInt := fun q => hr (Or.inr q)
      rcases h2 (x.toInt - lo).toNat (by omega) with ⟨c', hc, a, ha, e⟩ | g3
      · exact absurd (Int32.toInt_inj.mp (by rw [e]; omega)) (hn c' hc a ha)
      · cases ho : offs[(x.toInt - lo).toNat]? with
        | none => rw [ho] at g3; cases g3
        | some off =>
          rw [ho] at g3
          exact lv_tableIn F.1 F.2.1 hd g1 g2 ho (Option.some.inj g3) (htr _ ls _ σ H locs la hH hS hl hk')
theorem zoff_dflt {l : List (Int × Int)} {dflt v : Int} (h : ∀ q ∈ l, ¬ q.1 = v) : Op.lookupswitch.offset l dflt v = dflt := by
  apply Op.lookupswitch.offset_none
  rw [List.find?_eq_none]
  intro q hq
  simp [h q hq]
theorem s_lsw {dflt : Int} {ps : Array (Int × Int)} {len d : Nat} {cs : List (List Int32 × Nat)} (hd : decode M.2.1 pc = .ok (.lookupswitch dflt ps, len))
    (hdf : (pc : Int) + dflt = (d : Int)) (hp : (ps.toList.zip (ps.toList.drop 1)).all (fun (a, next) => a.1 < next.1) = true)
    (h1 : ∀ c ∈ cs, ∀ a ∈ c.1, (pc : Int) + Op.lookupswitch.offset ps.toList dflt a.toInt = (c.2 : Int))
    (h2 : ∀ q ∈ ps.toList, ∃ c ∈ cs, ∃ a ∈ c.1, a.toInt = q.1) : zSnd Z M pc (o_sw cs d) := by
  intro G p l e s m args below meth c F Q QX tr htr ls st σ H locs la hH hS hl hk
  unfold o_sw at hk
  split at hk
  rotate_left
  · exact hk.elim
  rename_i x r
  rcases zsw_elim hk with ⟨c', hc, a, ha, e, hk'⟩ | ⟨hn, hk'⟩
  · subst e
    exact lv_lookup F.1 F.2.1 hd hp rfl (h1 c' hc x ha) (htr _ ls _ σ H locs la hH hS hl hk')
  · have ho : Op.lookupswitch.offset ps.toList dflt x.toInt = dflt := zoff_dflt (fun q hq e => by
      obtain ⟨c', hc, a, ha, e2⟩ := h2 q hq
      exact hn c' hc a ha (Int32.toInt_inj.mp (by rw [e2, e])))
    exact lv_lookup F.1 F.2.1 hd hp ho hdf (htr _ ls _ σ H locs la hH hS hl hk')
end ZSWS
theorem zcn {P : Nat × zOp → Prop} : ∀ q ∈ ([] : List (Nat × zOp)), P q := fun _ h => by cases h
theorem zcc {P : Nat × zOp → Prop} {a : Nat × zOp} {l : List (Nat × zOp)} (h1 : P a) (h2 : ∀ q ∈ l, P q) : ∀ q ∈ a :: l, P q := fun q h => by
  rcases List.mem_cons.mp h with e | e
  · rw [e]; exact h1
  · exact h2 q e
theorem zca {P : Nat × zOp → Prop} {k l : List (Nat × zOp)} (h1 : ∀ q ∈ k, P q) (h2 : ∀ q ∈ l, P q) : ∀ q ∈ k ++ l, P q := fun q h => by
  rcases List.mem_append.mp h with e | e
  · exact h1 q e
  · exact h2 q e
theorem zcls_of {C : String} {T : u_T} {N : Nat} {l : List Cond} (h : u_ws C T N = l) (hl : ∀ w ∈ l, w ∈ zWS) : ∀ w ∈ u_ws C T N, w ∈ zWS := by rw [h]; exact hl
theorem zwn : ∀ w ∈ ([] : List Cond), w ∈ zWS := fun _ h => by cases h
theorem zwc {a : Cond} {l : List Cond} (h1 : a ∈ zWS) (h2 : ∀ w ∈ l, w ∈ zWS) : ∀ w ∈ a :: l, w ∈ zWS := fun w h => by
  rcases List.mem_cons.mp h with e | e
  · rw [e]; exact h1
  · exact h2 w e
end
section
/-! the world of side M: its classes, its cells -/
def TIse : u_T := fun _ => ("", "", "", false)
def zclM : List vw_C := [(RX10, TX10, 32), (RX9, TX9, 57), ("java/lang/IllegalStateException", TIse, 0)]
def zYM : List zC := [.inl (0, [(2, 2), (2, 1), (0, 0), (2, 4), (2, 5), (0, 0), (0, 0), (0, 0), (0, 0), (2, 3), (0, 0), (0, 0), (0, 0), (0, 0), (0, 0), (0, 0), (1, 0), (1, 0), (0, 0), (1, 0), (2, 6), (2, 7), (0, 0), (2, 8), (2, 9), (2, 10), (2, 11), (2, 12), (0, 0), (2, 13), (0, 0), (0, 0)]),
  .inl (1, [(0, 0), (0, 0), (0, 0), (0, 0), (0, 0), (0, 0), (0, 0), (0, 0), (0, 0), (0, 0), (0, 0), (0, 0), (0, 0), (0, 0), (2, 14), (2, 15), (2, 16), (2, 17), (2, 18), (2, 19), (2, 20), (2, 21), (2, 22), (2, 23), (2, 24), (2, 25), (2, 26), (2, 27), (2, 28), (2, 29), (2, 30), (2, 31), (2, 32), (2, 33), (2, 34), (2, 35), (2, 36), (2, 37), (2, 38), (2, 39), (2, 40), (2, 41), (2, 42), (2, 43), (2, 44), (2, 45), (2, 46), (2, 47), (2, 48), (2, 49), (2, 50), (2, 51), (2, 52), (2, 53), (2, 54), (2, 55), (2, 56)]),
  .inl (1, [(0, 0), (0, 0), (0, 0), (0, 0), (0, 0), (0, 0), (0, 0), (0, 0), (0, 0), (0, 0), (0, 0), (0, 0), (0, 0), (0, 0), (2, 57), (2, 58), (2, 59), (2, 60), (2, 61), (2, 62), (2, 63), (2, 64), (2, 65), (2, 66), (2, 67), (2, 68), (2, 69), (2, 70), (2, 71), (2, 72), (2, 73), (2, 74), (2, 75), (2, 76), (2, 77), (2, 78), (2, 79), (2, 80), (2, 81), (2, 82), (2, 83), (2, 84), (2, 85), (2, 86), (2, 87), (2, 88), (2, 89), (2, 90), (2, 91), (2, 92), (2, 93), (2, 94), (2, 95), (2, 96), (2, 97), (2, 98), (2, 99)]),
  .inl (2, []),
  .inr (.byte, 32000),
  .inr (.byte, 16000),
  .inr (.int, 61),
  .inr (.byte, 32000),
  .inr (.int, 61),
  .inr (.int, 61),
  .inr (.int, 61),
  .inr (.int, 61),
  .inr (.boolean, 61),
  .inr (.int, 80),
  .inr (.long, 2),
  .inr (.long, 2),
  .inr (.int, 2),
  .inr (.int, 2),
  .inr (.int, 2),
  .inr (.int, 64),
  .inr (.int, 32),
  .inr (.int, 32),
  .inr (.int, 32),
  .inr (.int, 32),
  .inr (.int, 32),
  .inr (.long, 32),
  .inr (.int, 32),
  .inr (.int, 32),
  .inr (.boolean, 32),
  .inr (.long, 32),
  .inr (.long, 32),
  .inr (.long, 64),
  .inr (.int, 64),
  .inr (.int, 32),
  .inr (.boolean, 32),
  .inr (.int, 32),
  .inr (.int, 64),
  .inr (.int, 64),
  .inr (.int, 64),
  .inr (.int, 64),
  .inr (.long, 64),
  .inr (.int, 64),
  .inr (.int, 32),
  .inr (.int, 32),
  .inr (.int, 32),
  .inr (.int, 32),
  .inr (.int, 32),
  .inr (.int, 32),
  .inr (.int, 32),
  .inr (.int, 32),
  .inr (.int, 32),
  .inr (.int, 32),
  .inr (.int, 64),
  .inr (.int, 64),
  .inr (.int, 64),
  .inr (.int, 4),
  .inr (.int, 128),
  .inr (.long, 2),
  .inr (.long, 2),
  .inr (.int, 2),
  .inr (.int, 2),
  .inr (.int, 2),
  .inr (.int, 64),
  .inr (.int, 32),
  .inr (.int, 32),
  .inr (.int, 32),
  .inr (.int, 32),
  .inr (.int, 32),
  .inr (.long, 32),
  .inr (.int, 32),
  .inr (.int, 32),
  .inr (.boolean, 32),
  .inr (.long, 32),
  .inr (.long, 32),
  .inr (.long, 64),
  .inr (.int, 64),
  .inr (.int, 32),
  .inr (.boolean, 32),
  .inr (.int, 32),
  .inr (.int, 64),
  .inr (.int, 64),
  .inr (.int, 64),
  .inr (.int, 64),
  .inr (.long, 64),
  .inr (.int, 64),
  .inr (.int, 32),
  .inr (.int, 32),
  .inr (.int, 32),
  .inr (.int, 32),
  .inr (.int, 32),
  .inr (.int, 32),
  .inr (.int, 32),
  .inr (.int, 32),
  .inr (.int, 32),
  .inr (.int, 32),
  .inr (.int, 64),
  .inr (.int, 64),
  .inr (.int, 64),
  .inr (.int, 4),
  .inr (.int, 128)]
-- cell 0: this of ModuleCheckModel
-- cell 1: next of ModuleCheckModel$Module
-- cell 2: right of ModuleCheckModel$Module
-- cell 3: stop of java/lang/IllegalStateException
-- cell 4: this.store byte[32000]
-- cell 5: this.tray byte[16000]
-- cell 6: this.openWith int[61]
-- cell 7: this.types byte[32000]
-- cell 8: this.frameLabel int[61]
-- cell 9: this.frameResult int[61]
-- cell 10: this.frameBase int[61]
-- cell 11: this.frameWith int[61]
-- cell 12: this.frameOpen boolean[61]
-- cell 13: this.localType int[80]
-- cell 14: next.least long[2]
-- cell 15: next.most long[2]
-- cell 16: next.limitsAt int[2]
-- cell 17: next.secondAt int[2]
-- cell 18: next.firstAt int[2]
-- cell 19: next.sig int[64]
-- cell 20: next.importModule int[32]
-- cell 21: next.importModuleLength int[32]
-- cell 22: next.importName int[32]
-- cell 23: next.importNameLength int[32]
-- cell 24: next.importKind int[32]
-- cell 25: next.importWhat long[32]
-- cell 26: next.importAt int[32]
-- cell 27: next.importBegin int[32]
-- cell 28: next.importChanges boolean[32]
-- cell 29: next.importLeast long[32]
-- cell 30: next.importMost long[32]
-- cell 31: next.functionSig long[64]
-- cell 32: next.functionAt int[64]
-- cell 33: next.globalType int[32]
-- cell 34: next.globalChanges boolean[32]
-- cell 35: next.globalConstant int[32]
-- cell 36: next.exportName int[64]
-- cell 37: next.exportNameLength int[64]
-- cell 38: next.exportNameAt int[64]
-- cell 39: next.exportKind int[64]
-- cell 40: next.exportWhat long[64]
-- cell 41: next.exportAt int[64]
-- cell 42: next.elementMode int[32]
-- cell 43: next.elementAt int[32]
-- cell 44: next.elementConstant int[32]
-- cell 45: next.elementRow int[32]
-- cell 46: next.elementCount int[32]
-- cell 47: next.dataMode int[32]
-- cell 48: next.dataAt int[32]
-- cell 49: next.dataConstant int[32]
-- cell 50: next.dataRow int[32]
-- cell 51: next.dataBytes int[32]
-- cell 52: next.groupsAt int[64]
-- cell 53: next.codeAt int[64]
-- cell 54: next.bodyEnd int[64]
-- cell 55: next.imported int[4]
-- cell 56: next.importedAs int[128]
-- cell 57: right.least long[2]
-- cell 58: right.most long[2]
-- cell 59: right.limitsAt int[2]
-- cell 60: right.secondAt int[2]
-- cell 61: right.firstAt int[2]
-- cell 62: right.sig int[64]
-- cell 63: right.importModule int[32]
-- cell 64: right.importModuleLength int[32]
-- cell 65: right.importName int[32]
-- cell 66: right.importNameLength int[32]
-- cell 67: right.importKind int[32]
-- cell 68: right.importWhat long[32]
-- cell 69: right.importAt int[32]
-- cell 70: right.importBegin int[32]
-- cell 71: right.importChanges boolean[32]
-- cell 72: right.importLeast long[32]
-- cell 73: right.importMost long[32]
-- cell 74: right.functionSig long[64]
-- cell 75: right.functionAt int[64]
-- cell 76: right.globalType int[32]
-- cell 77: right.globalChanges boolean[32]
-- cell 78: right.globalConstant int[32]
-- cell 79: right.exportName int[64]
-- cell 80: right.exportNameLength int[64]
-- cell 81: right.exportNameAt int[64]
-- cell 82: right.exportKind int[64]
-- cell 83: right.exportWhat long[64]
-- cell 84: right.exportAt int[64]
-- cell 85: right.elementMode int[32]
-- cell 86: right.elementAt int[32]
-- cell 87: right.elementConstant int[32]
-- cell 88: right.elementRow int[32]
-- cell 89: right.elementCount int[32]
-- cell 90: right.dataMode int[32]
-- cell 91: right.dataAt int[32]
-- cell 92: right.dataConstant int[32]
-- cell 93: right.dataRow int[32]
-- cell 94: right.dataBytes int[32]
-- cell 95: right.groupsAt int[64]
-- cell 96: right.codeAt int[64]
-- cell 97: right.bodyEnd int[64]
-- cell 98: right.imported int[4]
-- cell 99: right.importedAs int[128]
def zexM : zG → (Nat → Prop) → State → Prop := fun _ _ _ => True
def zZM : zZ := (zclM, zYM, zexM)
theorem zZM_ok : zEok zZM := ⟨fun _ _ _ _ _ _ h => h, fun _ _ _ _ h _ _ _ => h⟩
theorem zYM_arr : ∀ (k : Nat) (a : FieldType × Nat), zZM.2.1[k]? = some (Sum.inr a : zC) → a.1 = .int ∨ a.1 = .long ∨ a.1 = .byte ∨ a.1 = .short ∨ a.1 = .boolean := by
  have h : ∀ x ∈ zYM, ∀ a : FieldType × Nat, x = Sum.inr a → a.1 = .int ∨ a.1 = .long ∨ a.1 = .byte ∨ a.1 = .short ∨ a.1 = .boolean := by
    intro x hx a e
    simp only [zYM, List.mem_cons, List.not_mem_nil, or_false] at hx
    subst e
    simp only [Sum.inr.injEq, reduceCtorEq, false_or, or_false] at hx
    rcases hx with hx | hx | hx | hx | hx | hx | hx | hx | hx | hx | hx | hx | hx | hx | hx | hx | hx | hx | hx | hx | hx | hx | hx | hx | hx | hx | hx | hx | hx | hx | hx | hx | hx | hx | hx | hx | hx | hx | hx | hx | hx | hx | hx | hx | hx | hx | hx | hx | hx | hx | hx | hx | hx | hx | hx | hx | hx | hx | hx | hx | hx | hx | hx | hx | hx | hx | hx | hx | hx | hx | hx | hx | hx | hx | hx | hx | hx | hx | hx | hx | hx | hx | hx | hx | hx | hx | hx | hx | hx | hx | hx | hx | hx | hx | hx | hx <;> subst hx <;> simp
  exact fun k a hk => h _ (List.mem_of_getElem? hk) a rfl
set_option maxRecDepth 20000 in
theorem zwX10 : ∀ w ∈ u_ws RX10 TX10 32, w ∈ zWS := zcls_of (l := [.lays RX10 "ModuleCheckModel" "right" "LModuleCheckModel$Module;", .lays RX10 "ModuleCheckModel" "next" "LModuleCheckModel$Module;", .lays RX10 "ModuleCheckModel" "isThere" "Z", .laysFinal RX10 "ModuleCheckModel" "store" "[B", .laysFinal RX10 "ModuleCheckModel" "tray" "[B", .lays RX10 "ModuleCheckModel" "trayed" "I", .lays RX10 "ModuleCheckModel" "allFed" "I", .lays RX10 "ModuleCheckModel" "place" "I", .lays RX10 "ModuleCheckModel" "walkedOver" "I", .laysFinal RX10 "ModuleCheckModel" "stop" "Ljava/lang/IllegalStateException;", .lays RX10 "ModuleCheckModel" "fault" "I", .lays RX10 "ModuleCheckModel" "faultAt" "I", .lays RX10 "ModuleCheckModel" "at" "I", .lays RX10 "ModuleCheckModel" "end" "I", .lays RX10 "ModuleCheckModel" "nameAt" "I", .lays RX10 "ModuleCheckModel" "nameLength" "I", .lays RX10 "ModuleCheckModel" "least" "J", .lays RX10 "ModuleCheckModel" "most" "J", .lays RX10 "ModuleCheckModel" "hasCount" "Z", .lays RX10 "ModuleCheckModel" "toldCount" "J", .laysFinal RX10 "ModuleCheckModel" "openWith" "[I", .laysFinal RX10 "ModuleCheckModel" "types" "[B", .lays RX10 "ModuleCheckModel" "top" "I", .laysFinal RX10 "ModuleCheckModel" "frameLabel" "[I", .laysFinal RX10 "ModuleCheckModel" "frameResult" "[I", .laysFinal RX10 "ModuleCheckModel" "frameBase" "[I", .laysFinal RX10 "ModuleCheckModel" "frameWith" "[I", .laysFinal RX10 "ModuleCheckModel" "frameOpen" "[Z", .lays RX10 "ModuleCheckModel" "frames" "I", .laysFinal RX10 "ModuleCheckModel" "localType" "[I", .lays RX10 "ModuleCheckModel" "locals" "I", .lays RX10 "ModuleCheckModel" "good" "Z"]) rfl (zwc (zWS5 192 rfl rfl) (zwc (zWS5 194 rfl rfl) (zwc (zWS5 196 rfl rfl) (zwc (zWS5 198 rfl rfl) (zwc (zWS5 200 rfl rfl) (zwc (zWS5 202 rfl rfl) (zwc (zWS5 204 rfl rfl) (zwc (zWS5 206 rfl rfl) (zwc (zWS5 208 rfl rfl) (zwc (zWS5 210 rfl rfl) (zwc (zWS5 212 rfl rfl) (zwc (zWS5 214 rfl rfl) (zwc (zWS5 216 rfl rfl) (zwc (zWS5 218 rfl rfl) (zwc (zWS5 220 rfl rfl) (zwc (zWS5 222 rfl rfl) (zwc (zWS5 224 rfl rfl) (zwc (zWS5 226 rfl rfl) (zwc (zWS5 228 rfl rfl) (zwc (zWS5 230 rfl rfl) (zwc (zWS5 232 rfl rfl) (zwc (zWS5 234 rfl rfl) (zwc (zWS5 236 rfl rfl) (zwc (zWS5 238 rfl rfl) (zwc (zWS6 0 rfl rfl) (zwc (zWS6 2 rfl rfl) (zwc (zWS6 4 rfl rfl) (zwc (zWS6 6 rfl rfl) (zwc (zWS6 8 rfl rfl) (zwc (zWS6 10 rfl rfl) (zwc (zWS6 12 rfl rfl) (zwc (zWS6 14 rfl rfl) zwn))))))))))))))))))))))))))))))))
theorem zcX10 : zCls zZM 0 RX10 TX10 32 tyX10 := ⟨rfl, zwX10, tyX10_ok, nmX10⟩
set_option maxRecDepth 20000 in
theorem iniX10 : Cond.initialized RX10 ∈ zWS := (zWS1 10 rfl rfl)
theorem nmhX10 : RX10 ≠ "java/lang/invoke/MethodHandle" ∧ RX10 ≠ "java/lang/invoke/VarHandle" := by decide +kernel
set_option maxRecDepth 20000 in
theorem zwX9 : ∀ w ∈ u_ws RX9 TX9 57, w ∈ zWS := zcls_of (l := [.lays RX9 "ModuleCheckModel$Module" "from" "I", .lays RX9 "ModuleCheckModel$Module" "end" "I", .lays RX9 "ModuleCheckModel$Module" "sigs" "I", .lays RX9 "ModuleCheckModel$Module" "imports" "I", .lays RX9 "ModuleCheckModel$Module" "functions" "I", .lays RX9 "ModuleCheckModel$Module" "globals" "I", .lays RX9 "ModuleCheckModel$Module" "exports" "I", .lays RX9 "ModuleCheckModel$Module" "elements" "I", .lays RX9 "ModuleCheckModel$Module" "dataCount" "I", .lays RX9 "ModuleCheckModel$Module" "bodies" "I", .lays RX9 "ModuleCheckModel$Module" "start" "I", .lays RX9 "ModuleCheckModel$Module" "startAt" "I", .lays RX9 "ModuleCheckModel$Module" "tables" "I", .lays RX9 "ModuleCheckModel$Module" "memories" "I", .laysFinal RX9 "ModuleCheckModel$Module" "least" "[J", .laysFinal RX9 "ModuleCheckModel$Module" "most" "[J", .laysFinal RX9 "ModuleCheckModel$Module" "limitsAt" "[I", .laysFinal RX9 "ModuleCheckModel$Module" "secondAt" "[I", .laysFinal RX9 "ModuleCheckModel$Module" "firstAt" "[I", .laysFinal RX9 "ModuleCheckModel$Module" "sig" "[I", .laysFinal RX9 "ModuleCheckModel$Module" "importModule" "[I", .laysFinal RX9 "ModuleCheckModel$Module" "importModuleLength" "[I", .laysFinal RX9 "ModuleCheckModel$Module" "importName" "[I", .laysFinal RX9 "ModuleCheckModel$Module" "importNameLength" "[I", .laysFinal RX9 "ModuleCheckModel$Module" "importKind" "[I", .laysFinal RX9 "ModuleCheckModel$Module" "importWhat" "[J", .laysFinal RX9 "ModuleCheckModel$Module" "importAt" "[I", .laysFinal RX9 "ModuleCheckModel$Module" "importBegin" "[I", .laysFinal RX9 "ModuleCheckModel$Module" "importChanges" "[Z", .laysFinal RX9 "ModuleCheckModel$Module" "importLeast" "[J", .laysFinal RX9 "ModuleCheckModel$Module" "importMost" "[J", .laysFinal RX9 "ModuleCheckModel$Module" "functionSig" "[J", .laysFinal RX9 "ModuleCheckModel$Module" "functionAt" "[I", .laysFinal RX9 "ModuleCheckModel$Module" "globalType" "[I", .laysFinal RX9 "ModuleCheckModel$Module" "globalChanges" "[Z", .laysFinal RX9 "ModuleCheckModel$Module" "globalConstant" "[I", .laysFinal RX9 "ModuleCheckModel$Module" "exportName" "[I", .laysFinal RX9 "ModuleCheckModel$Module" "exportNameLength" "[I", .laysFinal RX9 "ModuleCheckModel$Module" "exportNameAt" "[I", .laysFinal RX9 "ModuleCheckModel$Module" "exportKind" "[I", .laysFinal RX9 "ModuleCheckModel$Module" "exportWhat" "[J", .laysFinal RX9 "ModuleCheckModel$Module" "exportAt" "[I", .laysFinal RX9 "ModuleCheckModel$Module" "elementMode" "[I", .laysFinal RX9 "ModuleCheckModel$Module" "elementAt" "[I", .laysFinal RX9 "ModuleCheckModel$Module" "elementConstant" "[I", .laysFinal RX9 "ModuleCheckModel$Module" "elementRow" "[I", .laysFinal RX9 "ModuleCheckModel$Module" "elementCount" "[I", .laysFinal RX9 "ModuleCheckModel$Module" "dataMode" "[I", .laysFinal RX9 "ModuleCheckModel$Module" "dataAt" "[I", .laysFinal RX9 "ModuleCheckModel$Module" "dataConstant" "[I", .laysFinal RX9 "ModuleCheckModel$Module" "dataRow" "[I", .laysFinal RX9 "ModuleCheckModel$Module" "dataBytes" "[I", .laysFinal RX9 "ModuleCheckModel$Module" "groupsAt" "[I", .laysFinal RX9 "ModuleCheckModel$Module" "codeAt" "[I", .laysFinal RX9 "ModuleCheckModel$Module" "bodyEnd" "[I", .laysFinal RX9 "ModuleCheckModel$Module" "imported" "[I", .laysFinal RX9 "ModuleCheckModel$Module" "importedAs" "[I"]) rfl (zwc (zWS4 224 rfl rfl) (zwc (zWS4 226 rfl rfl) (zwc (zWS4 228 rfl rfl) (zwc (zWS4 230 rfl rfl) (zwc (zWS4 232 rfl rfl) (zwc (zWS4 234 rfl rfl) (zwc (zWS4 236 rfl rfl) (zwc (zWS4 238 rfl rfl) (zwc (zWS5 0 rfl rfl) (zwc (zWS5 2 rfl rfl) (zwc (zWS5 4 rfl rfl) (zwc (zWS5 6 rfl rfl) (zwc (zWS5 8 rfl rfl) (zwc (zWS5 10 rfl rfl) (zwc (zWS5 12 rfl rfl) (zwc (zWS5 14 rfl rfl) (zwc (zWS5 16 rfl rfl) (zwc (zWS5 18 rfl rfl) (zwc (zWS5 20 rfl rfl) (zwc (zWS5 22 rfl rfl) (zwc (zWS5 24 rfl rfl) (zwc (zWS5 26 rfl rfl) (zwc (zWS5 28 rfl rfl) (zwc (zWS5 30 rfl rfl) (zwc (zWS5 32 rfl rfl) (zwc (zWS5 34 rfl rfl) (zwc (zWS5 36 rfl rfl) (zwc (zWS5 38 rfl rfl) (zwc (zWS5 40 rfl rfl) (zwc (zWS5 42 rfl rfl) (zwc (zWS5 44 rfl rfl) (zwc (zWS5 46 rfl rfl) (zwc (zWS5 48 rfl rfl) (zwc (zWS5 50 rfl rfl) (zwc (zWS5 52 rfl rfl) (zwc (zWS5 54 rfl rfl) (zwc (zWS5 56 rfl rfl) (zwc (zWS5 58 rfl rfl) (zwc (zWS5 60 rfl rfl) (zwc (zWS5 62 rfl rfl) (zwc (zWS5 64 rfl rfl) (zwc (zWS5 66 rfl rfl) (zwc (zWS5 68 rfl rfl) (zwc (zWS5 70 rfl rfl) (zwc (zWS5 72 rfl rfl) (zwc (zWS5 74 rfl rfl) (zwc (zWS5 76 rfl rfl) (zwc (zWS5 78 rfl rfl) (zwc (zWS5 80 rfl rfl) (zwc (zWS5 82 rfl rfl) (zwc (zWS5 84 rfl rfl) (zwc (zWS5 86 rfl rfl) (zwc (zWS5 88 rfl rfl) (zwc (zWS5 90 rfl rfl) (zwc (zWS5 92 rfl rfl) (zwc (zWS5 94 rfl rfl) (zwc (zWS5 96 rfl rfl) zwn)))))))))))))))))))))))))))))))))))))))))))))))))))))))))
theorem zcX9 : zCls zZM 1 RX9 TX9 57 tyX9 := ⟨rfl, zwX9, tyX9_ok, nmX9⟩
set_option maxRecDepth 20000 in
theorem iniX9 : Cond.initialized RX9 ∈ zWS := (zWS1 11 rfl rfl)
theorem nmhX9 : RX9 ≠ "java/lang/invoke/MethodHandle" ∧ RX9 ≠ "java/lang/invoke/VarHandle" := by decide +kernel
def zmX10_areRight : zM := (yX10_areRight, cX10_areRight, 5, (Option.some Jvm.ClassFile.FieldType.boolean), 1)
def zmX10_count : zM := (yX10_count, cX10_count, 2, (Option.some Jvm.ClassFile.FieldType.int), 1)
def zmX10_end : zM := (yX10_end, cX10_end, 2, (Option.some Jvm.ClassFile.FieldType.boolean), 1)
def zmX10_functionsOf : zM := (yX10_functionsOf, cX10_functionsOf, 1, (Option.some Jvm.ClassFile.FieldType.int), 1)
def zmX10_gives : zM := (yX10_gives, cX10_gives, 2, (Option.none : Option Jvm.ClassFile.FieldType), 1)
def zmX10_globalsOf : zM := (yX10_globalsOf, cX10_globalsOf, 1, (Option.some Jvm.ClassFile.FieldType.int), 1)
def zmX10_headerAt : zM := (yX10_headerAt, cX10_headerAt, 1, (Option.some Jvm.ClassFile.FieldType.int), 1)
def zmX10_importOf : zM := (yX10_importOf, cX10_importOf, 3, (Option.some Jvm.ClassFile.FieldType.int), 1)
def zmX10_isLoad : zM := (yX10_isLoad, cX10_isLoad, 1, (Option.some Jvm.ClassFile.FieldType.boolean), 1)
def zmX10_isOwn : zM := (yX10_isOwn, cX10_isOwn, 2, (Option.some Jvm.ClassFile.FieldType.boolean), 1)
def zmX10_isSame : zM := (yX10_isSame, cX10_isSame, 6, (Option.some Jvm.ClassFile.FieldType.boolean), 1)
def zmX10_isStore : zM := (yX10_isStore, cX10_isStore, 1, (Option.some Jvm.ClassFile.FieldType.boolean), 1)
def zmX10_need : zM := (yX10_need, cX10_need, 2, (Option.none : Option Jvm.ClassFile.FieldType), 1)
def zmX10_openFrame : zM := (yX10_openFrame, cX10_openFrame, 4, (Option.none : Option Jvm.ClassFile.FieldType), 1)
def zmX10_parameter : zM := (yX10_parameter, cX10_parameter, 2, (Option.some Jvm.ClassFile.FieldType.int), 1)
def zmX10_parameters : zM := (yX10_parameters, cX10_parameters, 1, (Option.some Jvm.ClassFile.FieldType.int), 1)
def zmX10_place : zM := (yX10_place, cX10_place, 1, (Option.some Jvm.ClassFile.FieldType.int), 1)
def zmX10_rest : zM := (yX10_rest, cX10_rest, 1, (Option.none : Option Jvm.ClassFile.FieldType), 1)
def zmX10_resultOf : zM := (yX10_resultOf, cX10_resultOf, 1, (Option.some Jvm.ClassFile.FieldType.int), 1)
def zmX10_takes : zM := (yX10_takes, cX10_takes, 3, (Option.some Jvm.ClassFile.FieldType.int), 1)
def zmX10_valueType : zM := (yX10_valueType, cX10_valueType, 1, (Option.some Jvm.ClassFile.FieldType.int), 1)
def zmX10_width : zM := (yX10_width, cX10_width, 1, (Option.some Jvm.ClassFile.FieldType.int), 1)
def zmX10_word : zM := (yX10_word, cX10_word, 3, (Option.none : Option Jvm.ClassFile.FieldType), 1)
def zmX10_wrong : zM := (yX10_wrong, cX10_wrong, 3, (Option.some (Jvm.ClassFile.FieldType.object "java/lang/IllegalStateException")), 1)
def zmX9_has : zM := (yX9_has, cX9_has, 2, (Option.some Jvm.ClassFile.FieldType.boolean), 1)
def zmX10_calls : zM := (yX10_calls, cX10_calls, 4, (Option.none : Option Jvm.ClassFile.FieldType), 2)
def zmX10_closes : zM := (yX10_closes, cX10_closes, 2, (Option.none : Option Jvm.ClassFile.FieldType), 2)
def zmX10_feed : zM := (yX10_feed, cX10_feed, 6, (Option.some Jvm.ClassFile.FieldType.int), 2)
def zmX10_follows : zM := (yX10_follows, cX10_follows, 1, (Option.some Jvm.ClassFile.FieldType.int), 2)
def zmX10_isChanged : zM := (yX10_isChanged, cX10_isChanged, 3, (Option.some Jvm.ClassFile.FieldType.boolean), 2)
def zmX10_label : zM := (yX10_label, cX10_label, 3, (Option.some Jvm.ClassFile.FieldType.int), 2)
def zmX10_must : zM := (yX10_must, cX10_must, 3, (Option.none : Option Jvm.ClassFile.FieldType), 2)
def zmX10_octet : zM := (yX10_octet, cX10_octet, 1, (Option.some Jvm.ClassFile.FieldType.int), 2)
def zmX10_sigOf : zM := (yX10_sigOf, cX10_sigOf, 3, (Option.some Jvm.ClassFile.FieldType.int), 2)
def zmX10_turns : zM := (yX10_turns, cX10_turns, 6, (Option.none : Option Jvm.ClassFile.FieldType), 2)
def zmX10_typeOf : zM := (yX10_typeOf, cX10_typeOf, 3, (Option.some Jvm.ClassFile.FieldType.int), 2)
def zmX10_blockType : zM := (yX10_blockType, cX10_blockType, 3, (Option.some Jvm.ClassFile.FieldType.int), 3)
def zmX10_exported : zM := (yX10_exported, cX10_exported, 6, (Option.none : Option Jvm.ClassFile.FieldType), 3)
def zmX10_flag : zM := (yX10_flag, cX10_flag, 3, (Option.some Jvm.ClassFile.FieldType.boolean), 3)
def zmX10_needOctet : zM := (yX10_needOctet, cX10_needOctet, 3, (Option.none : Option Jvm.ClassFile.FieldType), 3)
def zmX10_numbers : zM := (yX10_numbers, cX10_numbers, 2, (Option.none : Option Jvm.ClassFile.FieldType), 3)
def zmX10_one : zM := (yX10_one, cX10_one, 5, (Option.none : Option Jvm.ClassFile.FieldType), 3)
def zmX10_signed : zM := (yX10_signed, cX10_signed, 9, (Option.some Jvm.ClassFile.FieldType.long), 3)
def zmX10_type : zM := (yX10_type, cX10_type, 3, (Option.some Jvm.ClassFile.FieldType.int), 3)
def zmX10_u : zM := (yX10_u, cX10_u, 6, (Option.some Jvm.ClassFile.FieldType.long), 3)
def zmX10_access : zM := (yX10_access, cX10_access, 8, (Option.none : Option Jvm.ClassFile.FieldType), 4)
def zmX10_checkMany : zM := (yX10_checkMany, cX10_checkMany, 6, (Option.none : Option Jvm.ClassFile.FieldType), 4)
def zmX10_isConstant : zM := (yX10_isConstant, cX10_isConstant, 7, (Option.some Jvm.ClassFile.FieldType.boolean), 4)
def zmX10_l : zM := (yX10_l, cX10_l, 1, (Option.some Jvm.ClassFile.FieldType.long), 4)
def zmX10_labelRow : zM := (yX10_labelRow, cX10_labelRow, 7, (Option.none : Option Jvm.ClassFile.FieldType), 4)
def zmX10_limits : zM := (yX10_limits, cX10_limits, 3, (Option.none : Option Jvm.ClassFile.FieldType), 4)
def zmX10_many : zM := (yX10_many, cX10_many, 7, (Option.none : Option Jvm.ClassFile.FieldType), 4)
def zmX10_nameItem : zM := (yX10_nameItem, cX10_nameItem, 6, (Option.none : Option Jvm.ClassFile.FieldType), 4)
def zmX10_readLocals : zM := (yX10_readLocals, cX10_readLocals, 12, (Option.none : Option Jvm.ClassFile.FieldType), 4)
def zmX10_s : zM := (yX10_s, cX10_s, 1, (Option.some Jvm.ClassFile.FieldType.int), 4)
def zmX10_signature : zM := (yX10_signature, cX10_signature, 10, (Option.none : Option Jvm.ClassFile.FieldType), 4)
def zmX10_checkOne : zM := (yX10_checkOne, cX10_checkOne, 12, (Option.none : Option Jvm.ClassFile.FieldType), 5)
def zmX10_constant : zM := (yX10_constant, cX10_constant, 5, (Option.some Jvm.ClassFile.FieldType.int), 5)
def zmX10_exportLine : zM := (yX10_exportLine, cX10_exportLine, 4, (Option.none : Option Jvm.ClassFile.FieldType), 5)
def zmX10_importLine : zM := (yX10_importLine, cX10_importLine, 5, (Option.none : Option Jvm.ClassFile.FieldType), 5)
def zmX10_locals : zM := (yX10_locals, cX10_locals, 2, (Option.some Jvm.ClassFile.FieldType.int), 5)
def zmX10_operands : zM := (yX10_operands, cX10_operands, 9, (Option.none : Option Jvm.ClassFile.FieldType), 5)
def zmX10_ownLimits : zM := (yX10_ownLimits, cX10_ownLimits, 7, (Option.none : Option Jvm.ClassFile.FieldType), 5)
def zmX10_checkBody : zM := (yX10_checkBody, cX10_checkBody, 6, (Option.none : Option Jvm.ClassFile.FieldType), 6)
def zmX10_dataLine : zM := (yX10_dataLine, cX10_dataLine, 7, (Option.none : Option Jvm.ClassFile.FieldType), 6)
def zmX10_elementLine : zM := (yX10_elementLine, cX10_elementLine, 10, (Option.none : Option Jvm.ClassFile.FieldType), 6)
def zmX10_globalLine : zM := (yX10_globalLine, cX10_globalLine, 2, (Option.none : Option Jvm.ClassFile.FieldType), 6)
def zmX10_readCode : zM := (yX10_readCode, cX10_readCode, 4, (Option.none : Option Jvm.ClassFile.FieldType), 6)
def zmX10_walked : zM := (yX10_walked, cX10_walked, 6, (Option.some Jvm.ClassFile.FieldType.int), 6)
def zmX10_body : zM := (yX10_body, cX10_body, 15, (Option.none : Option Jvm.ClassFile.FieldType), 7)
def zmX10_code : zM := (yX10_code, cX10_code, 3, (Option.some Jvm.ClassFile.FieldType.int), 7)
def zmX10_instructions : zM := (yX10_instructions, cX10_instructions, 3, (Option.some Jvm.ClassFile.FieldType.int), 7)
def zmX10_means : zM := (yX10_means, cX10_means, 5, (Option.none : Option Jvm.ClassFile.FieldType), 7)
def zmX10_orderOf : zM := (yX10_orderOf, cX10_orderOf, 2, (Option.some Jvm.ClassFile.FieldType.int), 7)
def zmX10_section : zM := (yX10_section, cX10_section, 7, (Option.none : Option Jvm.ClassFile.FieldType), 8)
def zmX10_read : zM := (yX10_read, cX10_read, 10, (Option.none : Option Jvm.ClassFile.FieldType), 9)
set_option maxRecDepth 20000 in
theorem calX10_areRight : zCal zmX10_areRight := ⟨(zWS6 227 rfl rfl), iniX10, nmhX10⟩
theorem dscX10_areRight : (parseMethodDescriptor zmX10_areRight.1.desc).map (fun d => d.parameters.length) = some 3 := by decide +kernel
set_option maxRecDepth 20000 in
theorem virX10_areRight : Cond.static yX10_areRight ∈ zWS := (zWS6 226 rfl rfl)
set_option maxRecDepth 20000 in
theorem calX10_count : zCal zmX10_count := ⟨(zWS7 113 rfl rfl), iniX10, nmhX10⟩
theorem dscX10_count : (parseMethodDescriptor zmX10_count.1.desc).map (fun d => d.parameters.length) = some 1 := by decide +kernel
set_option maxRecDepth 20000 in
theorem virX10_count : Cond.instanceMethod zmX10_count.1 ∈ zWS ∧ Cond.selects zmX10_count.1.cls zmX10_count.1 zmX10_count.1 ∈ zWS := ⟨(zWS7 111 rfl rfl), (zWS7 112 rfl rfl)⟩
set_option maxRecDepth 20000 in
theorem calX10_end : zCal zmX10_end := ⟨(zWS6 29 rfl rfl), iniX10, nmhX10⟩
theorem dscX10_end : (parseMethodDescriptor zmX10_end.1.desc).map (fun d => d.parameters.length) = some 1 := by decide +kernel
set_option maxRecDepth 20000 in
theorem virX10_end : Cond.instanceMethod zmX10_end.1 ∈ zWS ∧ Cond.selects zmX10_end.1.cls zmX10_end.1 zmX10_end.1 ∈ zWS := ⟨(zWS6 27 rfl rfl), (zWS6 28 rfl rfl)⟩
set_option maxRecDepth 20000 in
theorem calX10_functionsOf : zCal zmX10_functionsOf := ⟨(zWS7 12 rfl rfl), iniX10, nmhX10⟩
theorem dscX10_functionsOf : (parseMethodDescriptor zmX10_functionsOf.1.desc).map (fun d => d.parameters.length) = some 1 := by decide +kernel
set_option maxRecDepth 20000 in
theorem virX10_functionsOf : Cond.static yX10_functionsOf ∈ zWS := (zWS7 11 rfl rfl)
set_option maxRecDepth 20000 in
theorem calX10_gives : zCal zmX10_gives := ⟨(zWS7 67 rfl rfl), iniX10, nmhX10⟩
theorem dscX10_gives : (parseMethodDescriptor zmX10_gives.1.desc).map (fun d => d.parameters.length) = some 1 := by decide +kernel
set_option maxRecDepth 20000 in
theorem virX10_gives : Cond.instanceMethod zmX10_gives.1 ∈ zWS ∧ Cond.selects zmX10_gives.1.cls zmX10_gives.1 zmX10_gives.1 ∈ zWS := ⟨(zWS7 66 rfl rfl), (zSL9 11 32 rfl)⟩
set_option maxRecDepth 20000 in
theorem calX10_globalsOf : zCal zmX10_globalsOf := ⟨(zWS7 15 rfl rfl), iniX10, nmhX10⟩
theorem dscX10_globalsOf : (parseMethodDescriptor zmX10_globalsOf.1.desc).map (fun d => d.parameters.length) = some 1 := by decide +kernel
set_option maxRecDepth 20000 in
theorem virX10_globalsOf : Cond.static yX10_globalsOf ∈ zWS := (zWS7 14 rfl rfl)
set_option maxRecDepth 20000 in
theorem calX10_headerAt : zCal zmX10_headerAt := ⟨(zWS6 40 rfl rfl), iniX10, nmhX10⟩
theorem dscX10_headerAt : (parseMethodDescriptor zmX10_headerAt.1.desc).map (fun d => d.parameters.length) = some 1 := by decide +kernel
set_option maxRecDepth 20000 in
theorem virX10_headerAt : Cond.static yX10_headerAt ∈ zWS := (zWS6 39 rfl rfl)
set_option maxRecDepth 20000 in
theorem calX10_importOf : zCal zmX10_importOf := ⟨(zWS6 235 rfl rfl), iniX10, nmhX10⟩
theorem dscX10_importOf : (parseMethodDescriptor zmX10_importOf.1.desc).map (fun d => d.parameters.length) = some 3 := by decide +kernel
set_option maxRecDepth 20000 in
theorem virX10_importOf : Cond.static yX10_importOf ∈ zWS := (zWS6 234 rfl rfl)
set_option maxRecDepth 20000 in
theorem calX10_isLoad : zCal zmX10_isLoad := ⟨(zWS6 194 rfl rfl), iniX10, nmhX10⟩
theorem dscX10_isLoad : (parseMethodDescriptor zmX10_isLoad.1.desc).map (fun d => d.parameters.length) = some 1 := by decide +kernel
set_option maxRecDepth 20000 in
theorem virX10_isLoad : Cond.static yX10_isLoad ∈ zWS := (zWS6 193 rfl rfl)
set_option maxRecDepth 20000 in
theorem calX10_isOwn : zCal zmX10_isOwn := ⟨(zWS7 121 rfl rfl), iniX10, nmhX10⟩
theorem dscX10_isOwn : (parseMethodDescriptor zmX10_isOwn.1.desc).map (fun d => d.parameters.length) = some 1 := by decide +kernel
set_option maxRecDepth 20000 in
theorem virX10_isOwn : Cond.instanceMethod zmX10_isOwn.1 ∈ zWS ∧ Cond.selects zmX10_isOwn.1.cls zmX10_isOwn.1 zmX10_isOwn.1 ∈ zWS := ⟨(zWS7 120 rfl rfl), (zSL10 4 32 rfl)⟩
set_option maxRecDepth 20000 in
theorem calX10_isSame : zCal zmX10_isSame := ⟨(zWS7 23 rfl rfl), iniX10, nmhX10⟩
theorem dscX10_isSame : (parseMethodDescriptor zmX10_isSame.1.desc).map (fun d => d.parameters.length) = some 4 := by decide +kernel
set_option maxRecDepth 20000 in
theorem virX10_isSame : Cond.instanceMethod zmX10_isSame.1 ∈ zWS ∧ Cond.selects zmX10_isSame.1.cls zmX10_isSame.1 zmX10_isSame.1 ∈ zWS := ⟨(zWS7 22 rfl rfl), (zSL9 3 32 rfl)⟩
set_option maxRecDepth 20000 in
theorem calX10_isStore : zCal zmX10_isStore := ⟨(zWS6 197 rfl rfl), iniX10, nmhX10⟩
theorem dscX10_isStore : (parseMethodDescriptor zmX10_isStore.1.desc).map (fun d => d.parameters.length) = some 1 := by decide +kernel
set_option maxRecDepth 20000 in
theorem virX10_isStore : Cond.static yX10_isStore ∈ zWS := (zWS6 196 rfl rfl)
set_option maxRecDepth 20000 in
theorem calX10_need : zCal zmX10_need := ⟨(zWS7 55 rfl rfl), iniX10, nmhX10⟩
theorem dscX10_need : (parseMethodDescriptor zmX10_need.1.desc).map (fun d => d.parameters.length) = some 1 := by decide +kernel
set_option maxRecDepth 20000 in
theorem virX10_need : Cond.instanceMethod zmX10_need.1 ∈ zWS ∧ Cond.selects zmX10_need.1.cls zmX10_need.1 zmX10_need.1 ∈ zWS := ⟨(zWS7 54 rfl rfl), (zSL9 8 32 rfl)⟩
set_option maxRecDepth 20000 in
theorem calX10_openFrame : zCal zmX10_openFrame := ⟨(zWS7 47 rfl rfl), iniX10, nmhX10⟩
theorem dscX10_openFrame : (parseMethodDescriptor zmX10_openFrame.1.desc).map (fun d => d.parameters.length) = some 3 := by decide +kernel
set_option maxRecDepth 20000 in
theorem virX10_openFrame : Cond.instanceMethod zmX10_openFrame.1 ∈ zWS ∧ Cond.selects zmX10_openFrame.1.cls zmX10_openFrame.1 zmX10_openFrame.1 ∈ zWS := ⟨(zWS7 46 rfl rfl), (zSL9 6 32 rfl)⟩
set_option maxRecDepth 20000 in
theorem calX10_parameter : zCal zmX10_parameter := ⟨(zWS7 43 rfl rfl), iniX10, nmhX10⟩
theorem dscX10_parameter : (parseMethodDescriptor zmX10_parameter.1.desc).map (fun d => d.parameters.length) = some 2 := by decide +kernel
set_option maxRecDepth 20000 in
theorem virX10_parameter : Cond.static yX10_parameter ∈ zWS := (zWS7 42 rfl rfl)
set_option maxRecDepth 20000 in
theorem calX10_parameters : zCal zmX10_parameters := ⟨(zWS7 29 rfl rfl), iniX10, nmhX10⟩
theorem dscX10_parameters : (parseMethodDescriptor zmX10_parameters.1.desc).map (fun d => d.parameters.length) = some 1 := by decide +kernel
set_option maxRecDepth 20000 in
theorem virX10_parameters : Cond.static yX10_parameters ∈ zWS := (zWS7 28 rfl rfl)
set_option maxRecDepth 20000 in
theorem calX10_place : zCal zmX10_place := ⟨(zWS7 109 rfl rfl), iniX10, nmhX10⟩
theorem dscX10_place : (parseMethodDescriptor zmX10_place.1.desc).map (fun d => d.parameters.length) = some 0 := by decide +kernel
set_option maxRecDepth 20000 in
theorem virX10_place : Cond.instanceMethod zmX10_place.1 ∈ zWS ∧ Cond.selects zmX10_place.1.cls zmX10_place.1 zmX10_place.1 ∈ zWS := ⟨(zWS7 107 rfl rfl), (zWS7 108 rfl rfl)⟩
set_option maxRecDepth 20000 in
theorem calX10_rest : zCal zmX10_rest := ⟨(zWS7 75 rfl rfl), iniX10, nmhX10⟩
theorem dscX10_rest : (parseMethodDescriptor zmX10_rest.1.desc).map (fun d => d.parameters.length) = some 0 := by decide +kernel
set_option maxRecDepth 20000 in
theorem virX10_rest : Cond.instanceMethod zmX10_rest.1 ∈ zWS ∧ Cond.selects zmX10_rest.1.cls zmX10_rest.1 zmX10_rest.1 ∈ zWS := ⟨(zWS7 74 rfl rfl), (zSL9 13 32 rfl)⟩
set_option maxRecDepth 20000 in
theorem calX10_resultOf : zCal zmX10_resultOf := ⟨(zWS7 32 rfl rfl), iniX10, nmhX10⟩
theorem dscX10_resultOf : (parseMethodDescriptor zmX10_resultOf.1.desc).map (fun d => d.parameters.length) = some 1 := by decide +kernel
set_option maxRecDepth 20000 in
theorem virX10_resultOf : Cond.static yX10_resultOf ∈ zWS := (zWS7 31 rfl rfl)
set_option maxRecDepth 20000 in
theorem calX10_takes : zCal zmX10_takes := ⟨(zWS7 63 rfl rfl), iniX10, nmhX10⟩
theorem dscX10_takes : (parseMethodDescriptor zmX10_takes.1.desc).map (fun d => d.parameters.length) = some 1 := by decide +kernel
set_option maxRecDepth 20000 in
theorem virX10_takes : Cond.instanceMethod zmX10_takes.1 ∈ zWS ∧ Cond.selects zmX10_takes.1.cls zmX10_takes.1 zmX10_takes.1 ∈ zWS := ⟨(zWS7 62 rfl rfl), (zSL9 10 32 rfl)⟩
set_option maxRecDepth 20000 in
theorem calX10_valueType : zCal zmX10_valueType := ⟨(zWS7 101 rfl rfl), iniX10, nmhX10⟩
theorem dscX10_valueType : (parseMethodDescriptor zmX10_valueType.1.desc).map (fun d => d.parameters.length) = some 1 := by decide +kernel
set_option maxRecDepth 20000 in
theorem virX10_valueType : Cond.static yX10_valueType ∈ zWS := (zWS7 100 rfl rfl)
set_option maxRecDepth 20000 in
theorem calX10_width : zCal zmX10_width := ⟨(zWS7 98 rfl rfl), iniX10, nmhX10⟩
theorem dscX10_width : (parseMethodDescriptor zmX10_width.1.desc).map (fun d => d.parameters.length) = some 1 := by decide +kernel
set_option maxRecDepth 20000 in
theorem virX10_width : Cond.static yX10_width ∈ zWS := (zWS7 97 rfl rfl)
set_option maxRecDepth 20000 in
theorem calX10_word : zCal zmX10_word := ⟨(zWS6 25 rfl rfl), iniX10, nmhX10⟩
theorem dscX10_word : (parseMethodDescriptor zmX10_word.1.desc).map (fun d => d.parameters.length) = some 1 := by decide +kernel
set_option maxRecDepth 20000 in
theorem virX10_word : Cond.instanceMethod zmX10_word.1 ∈ zWS ∧ Cond.selects zmX10_word.1.cls zmX10_word.1 zmX10_word.1 ∈ zWS := ⟨(zWS6 24 rfl rfl), (zSL7 3 32 rfl)⟩
set_option maxRecDepth 20000 in
theorem calX10_wrong : zCal zmX10_wrong := ⟨(zWS6 52 rfl rfl), iniX10, nmhX10⟩
theorem dscX10_wrong : (parseMethodDescriptor zmX10_wrong.1.desc).map (fun d => d.parameters.length) = some 2 := by decide +kernel
set_option maxRecDepth 20000 in
theorem virX10_wrong : Cond.instanceMethod zmX10_wrong.1 ∈ zWS ∧ Cond.selects zmX10_wrong.1.cls zmX10_wrong.1 zmX10_wrong.1 ∈ zWS := ⟨(zWS6 51 rfl rfl), (zSL7 7 32 rfl)⟩
set_option maxRecDepth 20000 in
theorem calX9_has : zCal zmX9_has := ⟨(zWS7 19 rfl rfl), iniX9, nmhX9⟩
theorem dscX9_has : (parseMethodDescriptor zmX9_has.1.desc).map (fun d => d.parameters.length) = some 1 := by decide +kernel
set_option maxRecDepth 20000 in
theorem virX9_has : Cond.instanceMethod zmX9_has.1 ∈ zWS ∧ Cond.selects zmX9_has.1.cls zmX9_has.1 zmX9_has.1 ∈ zWS := ⟨(zWS7 17 rfl rfl), (zWS7 18 rfl rfl)⟩
set_option maxRecDepth 20000 in
theorem calX10_calls : zCal zmX10_calls := ⟨(zWS7 91 rfl rfl), iniX10, nmhX10⟩
theorem dscX10_calls : (parseMethodDescriptor zmX10_calls.1.desc).map (fun d => d.parameters.length) = some 1 := by decide +kernel
set_option maxRecDepth 20000 in
theorem virX10_calls : Cond.instanceMethod zmX10_calls.1 ∈ zWS ∧ Cond.selects zmX10_calls.1.cls zmX10_calls.1 zmX10_calls.1 ∈ zWS := ⟨(zWS7 90 rfl rfl), (zSL10 1 32 rfl)⟩
set_option maxRecDepth 20000 in
theorem calX10_closes : zCal zmX10_closes := ⟨(zWS7 79 rfl rfl), iniX10, nmhX10⟩
theorem dscX10_closes : (parseMethodDescriptor zmX10_closes.1.desc).map (fun d => d.parameters.length) = some 0 := by decide +kernel
set_option maxRecDepth 20000 in
theorem virX10_closes : Cond.instanceMethod zmX10_closes.1 ∈ zWS ∧ Cond.selects zmX10_closes.1.cls zmX10_closes.1 zmX10_closes.1 ∈ zWS := ⟨(zWS7 78 rfl rfl), (zSL9 14 32 rfl)⟩
set_option maxRecDepth 20000 in
theorem calX10_feed : zCal zmX10_feed := ⟨(zWS6 20 rfl rfl), iniX10, nmhX10⟩
theorem dscX10_feed : (parseMethodDescriptor zmX10_feed.1.desc).map (fun d => d.parameters.length) = some 5 := by decide +kernel
set_option maxRecDepth 20000 in
theorem virX10_feed : Cond.instanceMethod zmX10_feed.1 ∈ zWS ∧ Cond.selects zmX10_feed.1.cls zmX10_feed.1 zmX10_feed.1 ∈ zWS := ⟨(zWS6 18 rfl rfl), (zWS6 19 rfl rfl)⟩
set_option maxRecDepth 20000 in
theorem calX10_follows : zCal zmX10_follows := ⟨(zWS6 191 rfl rfl), iniX10, nmhX10⟩
theorem dscX10_follows : (parseMethodDescriptor zmX10_follows.1.desc).map (fun d => d.parameters.length) = some 1 := by decide +kernel
set_option maxRecDepth 20000 in
theorem virX10_follows : Cond.static yX10_follows ∈ zWS := (zWS6 190 rfl rfl)
set_option maxRecDepth 20000 in
theorem calX10_isChanged : zCal zmX10_isChanged := ⟨(zWS7 2 rfl rfl), iniX10, nmhX10⟩
theorem dscX10_isChanged : (parseMethodDescriptor zmX10_isChanged.1.desc).map (fun d => d.parameters.length) = some 2 := by decide +kernel
set_option maxRecDepth 20000 in
theorem virX10_isChanged : Cond.static yX10_isChanged ∈ zWS := (zWS7 1 rfl rfl)
set_option maxRecDepth 20000 in
theorem calX10_label : zCal zmX10_label := ⟨(zWS7 83 rfl rfl), iniX10, nmhX10⟩
theorem dscX10_label : (parseMethodDescriptor zmX10_label.1.desc).map (fun d => d.parameters.length) = some 1 := by decide +kernel
set_option maxRecDepth 20000 in
theorem virX10_label : Cond.instanceMethod zmX10_label.1 ∈ zWS ∧ Cond.selects zmX10_label.1.cls zmX10_label.1 zmX10_label.1 ∈ zWS := ⟨(zWS7 82 rfl rfl), (zSL9 15 32 rfl)⟩
set_option maxRecDepth 20000 in
theorem calX10_must : zCal zmX10_must := ⟨(zWS6 224 rfl rfl), iniX10, nmhX10⟩
theorem dscX10_must : (parseMethodDescriptor zmX10_must.1.desc).map (fun d => d.parameters.length) = some 2 := by decide +kernel
set_option maxRecDepth 20000 in
theorem virX10_must : Cond.instanceMethod zmX10_must.1 ∈ zWS ∧ Cond.selects zmX10_must.1.cls zmX10_must.1 zmX10_must.1 ∈ zWS := ⟨(zWS6 223 rfl rfl), (zSL8 15 32 rfl)⟩
set_option maxRecDepth 20000 in
theorem calX10_octet : zCal zmX10_octet := ⟨(zWS6 48 rfl rfl), iniX10, nmhX10⟩
theorem dscX10_octet : (parseMethodDescriptor zmX10_octet.1.desc).map (fun d => d.parameters.length) = some 0 := by decide +kernel
set_option maxRecDepth 20000 in
theorem virX10_octet : Cond.instanceMethod zmX10_octet.1 ∈ zWS ∧ Cond.selects zmX10_octet.1.cls zmX10_octet.1 zmX10_octet.1 ∈ zWS := ⟨(zWS6 47 rfl rfl), (zSL7 6 32 rfl)⟩
set_option maxRecDepth 20000 in
theorem calX10_sigOf : zCal zmX10_sigOf := ⟨(zWS7 26 rfl rfl), iniX10, nmhX10⟩
theorem dscX10_sigOf : (parseMethodDescriptor zmX10_sigOf.1.desc).map (fun d => d.parameters.length) = some 2 := by decide +kernel
set_option maxRecDepth 20000 in
theorem virX10_sigOf : Cond.static yX10_sigOf ∈ zWS := (zWS7 25 rfl rfl)
set_option maxRecDepth 20000 in
theorem calX10_turns : zCal zmX10_turns := ⟨(zWS7 59 rfl rfl), iniX10, nmhX10⟩
theorem dscX10_turns : (parseMethodDescriptor zmX10_turns.1.desc).map (fun d => d.parameters.length) = some 3 := by decide +kernel
set_option maxRecDepth 20000 in
theorem virX10_turns : Cond.instanceMethod zmX10_turns.1 ∈ zWS ∧ Cond.selects zmX10_turns.1.cls zmX10_turns.1 zmX10_turns.1 ∈ zWS := ⟨(zWS7 58 rfl rfl), (zSL9 9 32 rfl)⟩
set_option maxRecDepth 20000 in
theorem calX10_typeOf : zCal zmX10_typeOf := ⟨(zWS7 5 rfl rfl), iniX10, nmhX10⟩
theorem dscX10_typeOf : (parseMethodDescriptor zmX10_typeOf.1.desc).map (fun d => d.parameters.length) = some 2 := by decide +kernel
set_option maxRecDepth 20000 in
theorem virX10_typeOf : Cond.static yX10_typeOf ∈ zWS := (zWS7 4 rfl rfl)
set_option maxRecDepth 20000 in
theorem calX10_blockType : zCal zmX10_blockType := ⟨(zWS6 201 rfl rfl), iniX10, nmhX10⟩
theorem dscX10_blockType : (parseMethodDescriptor zmX10_blockType.1.desc).map (fun d => d.parameters.length) = some 0 := by decide +kernel
set_option maxRecDepth 20000 in
theorem virX10_blockType : Cond.instanceMethod zmX10_blockType.1 ∈ zWS ∧ Cond.selects zmX10_blockType.1.cls zmX10_blockType.1 zmX10_blockType.1 ∈ zWS := ⟨(zWS6 200 rfl rfl), (zSL8 11 32 rfl)⟩
set_option maxRecDepth 20000 in
theorem calX10_exported : zCal zmX10_exported := ⟨(zWS7 9 rfl rfl), iniX10, nmhX10⟩
theorem dscX10_exported : (parseMethodDescriptor zmX10_exported.1.desc).map (fun d => d.parameters.length) = some 2 := by decide +kernel
set_option maxRecDepth 20000 in
theorem virX10_exported : Cond.instanceMethod zmX10_exported.1 ∈ zWS ∧ Cond.selects zmX10_exported.1.cls zmX10_exported.1 zmX10_exported.1 ∈ zWS := ⟨(zWS7 8 rfl rfl), (zSL9 2 32 rfl)⟩
set_option maxRecDepth 20000 in
theorem calX10_flag : zCal zmX10_flag := ⟨(zWS6 137 rfl rfl), iniX10, nmhX10⟩
theorem dscX10_flag : (parseMethodDescriptor zmX10_flag.1.desc).map (fun d => d.parameters.length) = some 0 := by decide +kernel
set_option maxRecDepth 20000 in
theorem virX10_flag : Cond.instanceMethod zmX10_flag.1 ∈ zWS ∧ Cond.selects zmX10_flag.1.cls zmX10_flag.1 zmX10_flag.1 ∈ zWS := ⟨(zWS6 136 rfl rfl), (zSL7 14 32 rfl)⟩
set_option maxRecDepth 20000 in
theorem calX10_needOctet : zCal zmX10_needOctet := ⟨(zWS6 44 rfl rfl), iniX10, nmhX10⟩
theorem dscX10_needOctet : (parseMethodDescriptor zmX10_needOctet.1.desc).map (fun d => d.parameters.length) = some 1 := by decide +kernel
set_option maxRecDepth 20000 in
theorem virX10_needOctet : Cond.instanceMethod zmX10_needOctet.1 ∈ zWS ∧ Cond.selects zmX10_needOctet.1.cls zmX10_needOctet.1 zmX10_needOctet.1 ∈ zWS := ⟨(zWS6 43 rfl rfl), (zSL7 5 32 rfl)⟩
set_option maxRecDepth 20000 in
theorem calX10_numbers : zCal zmX10_numbers := ⟨(zWS7 105 rfl rfl), iniX10, nmhX10⟩
theorem dscX10_numbers : (parseMethodDescriptor zmX10_numbers.1.desc).map (fun d => d.parameters.length) = some 1 := by decide +kernel
set_option maxRecDepth 20000 in
theorem virX10_numbers : Cond.instanceMethod zmX10_numbers.1 ∈ zWS ∧ Cond.selects zmX10_numbers.1.cls zmX10_numbers.1 zmX10_numbers.1 ∈ zWS := ⟨(zWS7 104 rfl rfl), (zSL10 3 32 rfl)⟩
set_option maxRecDepth 20000 in
theorem calX10_one : zCal zmX10_one := ⟨(zWS6 232 rfl rfl), iniX10, nmhX10⟩
theorem dscX10_one : (parseMethodDescriptor zmX10_one.1.desc).map (fun d => d.parameters.length) = some 3 := by decide +kernel
set_option maxRecDepth 20000 in
theorem virX10_one : Cond.instanceMethod zmX10_one.1 ∈ zWS ∧ Cond.selects zmX10_one.1.cls zmX10_one.1 zmX10_one.1 ∈ zWS := ⟨(zWS6 231 rfl rfl), (zSL9 0 32 rfl)⟩
set_option maxRecDepth 20000 in
theorem calX10_signed : zCal zmX10_signed := ⟨(zWS6 162 rfl rfl), iniX10, nmhX10⟩
theorem dscX10_signed : (parseMethodDescriptor zmX10_signed.1.desc).map (fun d => d.parameters.length) = some 3 := by decide +kernel
set_option maxRecDepth 20000 in
theorem virX10_signed : Cond.instanceMethod zmX10_signed.1 ∈ zWS ∧ Cond.selects zmX10_signed.1.cls zmX10_signed.1 zmX10_signed.1 ∈ zWS := ⟨(zWS6 161 rfl rfl), (zSL8 4 32 rfl)⟩
set_option maxRecDepth 20000 in
theorem calX10_type : zCal zmX10_type := ⟨(zWS6 129 rfl rfl), iniX10, nmhX10⟩
theorem dscX10_type : (parseMethodDescriptor zmX10_type.1.desc).map (fun d => d.parameters.length) = some 0 := by decide +kernel
set_option maxRecDepth 20000 in
theorem virX10_type : Cond.instanceMethod zmX10_type.1 ∈ zWS ∧ Cond.selects zmX10_type.1.cls zmX10_type.1 zmX10_type.1 ∈ zWS := ⟨(zWS6 128 rfl rfl), (zSL7 12 32 rfl)⟩
set_option maxRecDepth 20000 in
theorem calX10_u : zCal zmX10_u := ⟨(zWS6 108 rfl rfl), iniX10, nmhX10⟩
theorem dscX10_u : (parseMethodDescriptor zmX10_u.1.desc).map (fun d => d.parameters.length) = some 0 := by decide +kernel
set_option maxRecDepth 20000 in
theorem virX10_u : Cond.instanceMethod zmX10_u.1 ∈ zWS ∧ Cond.selects zmX10_u.1.cls zmX10_u.1 zmX10_u.1 ∈ zWS := ⟨(zWS6 107 rfl rfl), (zSL7 8 32 rfl)⟩
set_option maxRecDepth 20000 in
theorem calX10_access : zCal zmX10_access := ⟨(zWS7 95 rfl rfl), iniX10, nmhX10⟩
theorem dscX10_access : (parseMethodDescriptor zmX10_access.1.desc).map (fun d => d.parameters.length) = some 2 := by decide +kernel
set_option maxRecDepth 20000 in
theorem virX10_access : Cond.instanceMethod zmX10_access.1 ∈ zWS ∧ Cond.selects zmX10_access.1.cls zmX10_access.1 zmX10_access.1 ∈ zWS := ⟨(zWS7 94 rfl rfl), (zSL10 2 32 rfl)⟩
set_option maxRecDepth 20000 in
theorem calX10_checkMany : zCal zmX10_checkMany := ⟨(zWS7 51 rfl rfl), iniX10, nmhX10⟩
theorem dscX10_checkMany : (parseMethodDescriptor zmX10_checkMany.1.desc).map (fun d => d.parameters.length) = some 1 := by decide +kernel
set_option maxRecDepth 20000 in
theorem virX10_checkMany : Cond.instanceMethod zmX10_checkMany.1 ∈ zWS ∧ Cond.selects zmX10_checkMany.1.cls zmX10_checkMany.1 zmX10_checkMany.1 ∈ zWS := ⟨(zWS7 50 rfl rfl), (zSL9 7 32 rfl)⟩
set_option maxRecDepth 20000 in
theorem calX10_isConstant : zCal zmX10_isConstant := ⟨(zWS6 239 rfl rfl), iniX10, nmhX10⟩
theorem dscX10_isConstant : (parseMethodDescriptor zmX10_isConstant.1.desc).map (fun d => d.parameters.length) = some 3 := by decide +kernel
set_option maxRecDepth 20000 in
theorem virX10_isConstant : Cond.instanceMethod zmX10_isConstant.1 ∈ zWS ∧ Cond.selects zmX10_isConstant.1.cls zmX10_isConstant.1 zmX10_isConstant.1 ∈ zWS := ⟨(zWS6 238 rfl rfl), (zSL9 1 32 rfl)⟩
set_option maxRecDepth 20000 in
theorem calX10_l : zCal zmX10_l := ⟨(zWS6 166 rfl rfl), iniX10, nmhX10⟩
theorem dscX10_l : (parseMethodDescriptor zmX10_l.1.desc).map (fun d => d.parameters.length) = some 0 := by decide +kernel
set_option maxRecDepth 20000 in
theorem virX10_l : Cond.instanceMethod zmX10_l.1 ∈ zWS ∧ Cond.selects zmX10_l.1.cls zmX10_l.1 zmX10_l.1 ∈ zWS := ⟨(zWS6 165 rfl rfl), (zSL8 5 32 rfl)⟩
set_option maxRecDepth 20000 in
theorem calX10_labelRow : zCal zmX10_labelRow := ⟨(zWS7 87 rfl rfl), iniX10, nmhX10⟩
theorem dscX10_labelRow : (parseMethodDescriptor zmX10_labelRow.1.desc).map (fun d => d.parameters.length) = some 0 := by decide +kernel
set_option maxRecDepth 20000 in
theorem virX10_labelRow : Cond.instanceMethod zmX10_labelRow.1 ∈ zWS ∧ Cond.selects zmX10_labelRow.1.cls zmX10_labelRow.1 zmX10_labelRow.1 ∈ zWS := ⟨(zWS7 86 rfl rfl), (zSL10 0 32 rfl)⟩
set_option maxRecDepth 20000 in
theorem calX10_limits : zCal zmX10_limits := ⟨(zWS6 141 rfl rfl), iniX10, nmhX10⟩
theorem dscX10_limits : (parseMethodDescriptor zmX10_limits.1.desc).map (fun d => d.parameters.length) = some 0 := by decide +kernel
set_option maxRecDepth 20000 in
theorem virX10_limits : Cond.instanceMethod zmX10_limits.1 ∈ zWS ∧ Cond.selects zmX10_limits.1.cls zmX10_limits.1 zmX10_limits.1 ∈ zWS := ⟨(zWS6 140 rfl rfl), (zSL7 15 32 rfl)⟩
set_option maxRecDepth 20000 in
theorem calX10_many : zCal zmX10_many := ⟨(zWS6 205 rfl rfl), iniX10, nmhX10⟩
theorem dscX10_many : (parseMethodDescriptor zmX10_many.1.desc).map (fun d => d.parameters.length) = some 1 := by decide +kernel
set_option maxRecDepth 20000 in
theorem virX10_many : Cond.instanceMethod zmX10_many.1 ∈ zWS ∧ Cond.selects zmX10_many.1.cls zmX10_many.1 zmX10_many.1 ∈ zWS := ⟨(zWS6 204 rfl rfl), (zSL8 12 32 rfl)⟩
set_option maxRecDepth 20000 in
theorem calX10_nameItem : zCal zmX10_nameItem := ⟨(zWS6 112 rfl rfl), iniX10, nmhX10⟩
theorem dscX10_nameItem : (parseMethodDescriptor zmX10_nameItem.1.desc).map (fun d => d.parameters.length) = some 1 := by decide +kernel
set_option maxRecDepth 20000 in
theorem virX10_nameItem : Cond.instanceMethod zmX10_nameItem.1 ∈ zWS ∧ Cond.selects zmX10_nameItem.1.cls zmX10_nameItem.1 zmX10_nameItem.1 ∈ zWS := ⟨(zWS6 111 rfl rfl), (zSL7 9 32 rfl)⟩
set_option maxRecDepth 20000 in
theorem calX10_readLocals : zCal zmX10_readLocals := ⟨(zWS7 40 rfl rfl), iniX10, nmhX10⟩
theorem dscX10_readLocals : (parseMethodDescriptor zmX10_readLocals.1.desc).map (fun d => d.parameters.length) = some 2 := by decide +kernel
set_option maxRecDepth 20000 in
theorem virX10_readLocals : Cond.instanceMethod zmX10_readLocals.1 ∈ zWS ∧ Cond.selects zmX10_readLocals.1.cls zmX10_readLocals.1 zmX10_readLocals.1 ∈ zWS := ⟨(zWS7 39 rfl rfl), (zSL9 5 32 rfl)⟩
set_option maxRecDepth 20000 in
theorem calX10_s : zCal zmX10_s := ⟨(zWS6 158 rfl rfl), iniX10, nmhX10⟩
theorem dscX10_s : (parseMethodDescriptor zmX10_s.1.desc).map (fun d => d.parameters.length) = some 0 := by decide +kernel
set_option maxRecDepth 20000 in
theorem virX10_s : Cond.instanceMethod zmX10_s.1 ∈ zWS ∧ Cond.selects zmX10_s.1.cls zmX10_s.1 zmX10_s.1 ∈ zWS := ⟨(zWS6 157 rfl rfl), (zSL8 3 32 rfl)⟩
set_option maxRecDepth 20000 in
theorem calX10_signature : zCal zmX10_signature := ⟨(zWS6 124 rfl rfl), iniX10, nmhX10⟩
theorem dscX10_signature : (parseMethodDescriptor zmX10_signature.1.desc).map (fun d => d.parameters.length) = some 1 := by decide +kernel
set_option maxRecDepth 20000 in
theorem virX10_signature : Cond.instanceMethod zmX10_signature.1 ∈ zWS ∧ Cond.selects zmX10_signature.1.cls zmX10_signature.1 zmX10_signature.1 ∈ zWS := ⟨(zWS6 123 rfl rfl), (zSL7 11 32 rfl)⟩
set_option maxRecDepth 20000 in
theorem calX10_checkOne : zCal zmX10_checkOne := ⟨(zWS7 71 rfl rfl), iniX10, nmhX10⟩
theorem dscX10_checkOne : (parseMethodDescriptor zmX10_checkOne.1.desc).map (fun d => d.parameters.length) = some 3 := by decide +kernel
set_option maxRecDepth 20000 in
theorem virX10_checkOne : Cond.instanceMethod zmX10_checkOne.1 ∈ zWS ∧ Cond.selects zmX10_checkOne.1.cls zmX10_checkOne.1 zmX10_checkOne.1 ∈ zWS := ⟨(zWS7 70 rfl rfl), (zSL9 12 32 rfl)⟩
set_option maxRecDepth 20000 in
theorem calX10_constant : zCal zmX10_constant := ⟨(zWS6 154 rfl rfl), iniX10, nmhX10⟩
theorem dscX10_constant : (parseMethodDescriptor zmX10_constant.1.desc).map (fun d => d.parameters.length) = some 0 := by decide +kernel
set_option maxRecDepth 20000 in
theorem virX10_constant : Cond.instanceMethod zmX10_constant.1 ∈ zWS ∧ Cond.selects zmX10_constant.1.cls zmX10_constant.1 zmX10_constant.1 ∈ zWS := ⟨(zWS6 153 rfl rfl), (zSL8 2 32 rfl)⟩
set_option maxRecDepth 20000 in
theorem calX10_exportLine : zCal zmX10_exportLine := ⟨(zWS6 170 rfl rfl), iniX10, nmhX10⟩
theorem dscX10_exportLine : (parseMethodDescriptor zmX10_exportLine.1.desc).map (fun d => d.parameters.length) = some 1 := by decide +kernel
set_option maxRecDepth 20000 in
theorem virX10_exportLine : Cond.instanceMethod zmX10_exportLine.1 ∈ zWS ∧ Cond.selects zmX10_exportLine.1.cls zmX10_exportLine.1 zmX10_exportLine.1 ∈ zWS := ⟨(zWS6 169 rfl rfl), (zSL8 6 32 rfl)⟩
set_option maxRecDepth 20000 in
theorem calX10_importLine : zCal zmX10_importLine := ⟨(zWS6 133 rfl rfl), iniX10, nmhX10⟩
theorem dscX10_importLine : (parseMethodDescriptor zmX10_importLine.1.desc).map (fun d => d.parameters.length) = some 1 := by decide +kernel
set_option maxRecDepth 20000 in
theorem virX10_importLine : Cond.instanceMethod zmX10_importLine.1 ∈ zWS ∧ Cond.selects zmX10_importLine.1.cls zmX10_importLine.1 zmX10_importLine.1 ∈ zWS := ⟨(zWS6 132 rfl rfl), (zSL7 13 32 rfl)⟩
set_option maxRecDepth 20000 in
theorem calX10_locals : zCal zmX10_locals := ⟨(zWS7 133 rfl rfl), iniX10, nmhX10⟩
theorem dscX10_locals : (parseMethodDescriptor zmX10_locals.1.desc).map (fun d => d.parameters.length) = some 1 := by decide +kernel
set_option maxRecDepth 20000 in
theorem virX10_locals : Cond.instanceMethod zmX10_locals.1 ∈ zWS ∧ Cond.selects zmX10_locals.1.cls zmX10_locals.1 zmX10_locals.1 ∈ zWS := ⟨(zWS7 131 rfl rfl), (zWS7 132 rfl rfl)⟩
set_option maxRecDepth 20000 in
theorem calX10_operands : zCal zmX10_operands := ⟨(zWS6 188 rfl rfl), iniX10, nmhX10⟩
theorem dscX10_operands : (parseMethodDescriptor zmX10_operands.1.desc).map (fun d => d.parameters.length) = some 2 := by decide +kernel
set_option maxRecDepth 20000 in
theorem virX10_operands : Cond.instanceMethod zmX10_operands.1 ∈ zWS ∧ Cond.selects zmX10_operands.1.cls zmX10_operands.1 zmX10_operands.1 ∈ zWS := ⟨(zWS6 187 rfl rfl), (zSL8 10 32 rfl)⟩
set_option maxRecDepth 20000 in
theorem calX10_ownLimits : zCal zmX10_ownLimits := ⟨(zWS6 146 rfl rfl), iniX10, nmhX10⟩
theorem dscX10_ownLimits : (parseMethodDescriptor zmX10_ownLimits.1.desc).map (fun d => d.parameters.length) = some 2 := by decide +kernel
set_option maxRecDepth 20000 in
theorem virX10_ownLimits : Cond.instanceMethod zmX10_ownLimits.1 ∈ zWS ∧ Cond.selects zmX10_ownLimits.1.cls zmX10_ownLimits.1 zmX10_ownLimits.1 ∈ zWS := ⟨(zWS6 145 rfl rfl), (zSL8 0 32 rfl)⟩
set_option maxRecDepth 20000 in
theorem calX10_checkBody : zCal zmX10_checkBody := ⟨(zWS7 36 rfl rfl), iniX10, nmhX10⟩
theorem dscX10_checkBody : (parseMethodDescriptor zmX10_checkBody.1.desc).map (fun d => d.parameters.length) = some 2 := by decide +kernel
set_option maxRecDepth 20000 in
theorem virX10_checkBody : Cond.instanceMethod zmX10_checkBody.1 ∈ zWS ∧ Cond.selects zmX10_checkBody.1.cls zmX10_checkBody.1 zmX10_checkBody.1 ∈ zWS := ⟨(zWS7 35 rfl rfl), (zSL9 4 32 rfl)⟩
set_option maxRecDepth 20000 in
theorem calX10_dataLine : zCal zmX10_dataLine := ⟨(zWS6 216 rfl rfl), iniX10, nmhX10⟩
theorem dscX10_dataLine : (parseMethodDescriptor zmX10_dataLine.1.desc).map (fun d => d.parameters.length) = some 1 := by decide +kernel
set_option maxRecDepth 20000 in
theorem virX10_dataLine : Cond.instanceMethod zmX10_dataLine.1 ∈ zWS ∧ Cond.selects zmX10_dataLine.1.cls zmX10_dataLine.1 zmX10_dataLine.1 ∈ zWS := ⟨(zWS6 215 rfl rfl), (zSL8 13 32 rfl)⟩
set_option maxRecDepth 20000 in
theorem calX10_elementLine : zCal zmX10_elementLine := ⟨(zWS6 174 rfl rfl), iniX10, nmhX10⟩
theorem dscX10_elementLine : (parseMethodDescriptor zmX10_elementLine.1.desc).map (fun d => d.parameters.length) = some 1 := by decide +kernel
set_option maxRecDepth 20000 in
theorem virX10_elementLine : Cond.instanceMethod zmX10_elementLine.1 ∈ zWS ∧ Cond.selects zmX10_elementLine.1.cls zmX10_elementLine.1 zmX10_elementLine.1 ∈ zWS := ⟨(zWS6 173 rfl rfl), (zSL8 7 32 rfl)⟩
set_option maxRecDepth 20000 in
theorem calX10_globalLine : zCal zmX10_globalLine := ⟨(zWS6 150 rfl rfl), iniX10, nmhX10⟩
theorem dscX10_globalLine : (parseMethodDescriptor zmX10_globalLine.1.desc).map (fun d => d.parameters.length) = some 1 := by decide +kernel
set_option maxRecDepth 20000 in
theorem virX10_globalLine : Cond.instanceMethod zmX10_globalLine.1 ∈ zWS ∧ Cond.selects zmX10_globalLine.1.cls zmX10_globalLine.1 zmX10_globalLine.1 ∈ zWS := ⟨(zWS6 149 rfl rfl), (zSL8 1 32 rfl)⟩
set_option maxRecDepth 20000 in
theorem calX10_readCode : zCal zmX10_readCode := ⟨(zWS6 184 rfl rfl), iniX10, nmhX10⟩
theorem dscX10_readCode : (parseMethodDescriptor zmX10_readCode.1.desc).map (fun d => d.parameters.length) = some 0 := by decide +kernel
set_option maxRecDepth 20000 in
theorem virX10_readCode : Cond.instanceMethod zmX10_readCode.1 ∈ zWS ∧ Cond.selects zmX10_readCode.1.cls zmX10_readCode.1 zmX10_readCode.1 ∈ zWS := ⟨(zWS6 183 rfl rfl), (zSL8 9 32 rfl)⟩
set_option maxRecDepth 20000 in
theorem calX10_walked : zCal zmX10_walked := ⟨(zWS7 125 rfl rfl), iniX10, nmhX10⟩
theorem dscX10_walked : (parseMethodDescriptor zmX10_walked.1.desc).map (fun d => d.parameters.length) = some 2 := by decide +kernel
set_option maxRecDepth 20000 in
theorem virX10_walked : Cond.instanceMethod zmX10_walked.1 ∈ zWS ∧ Cond.selects zmX10_walked.1.cls zmX10_walked.1 zmX10_walked.1 ∈ zWS := ⟨(zWS7 124 rfl rfl), (zSL10 5 32 rfl)⟩
set_option maxRecDepth 20000 in
theorem calX10_body : zCal zmX10_body := ⟨(zWS6 179 rfl rfl), iniX10, nmhX10⟩
theorem dscX10_body : (parseMethodDescriptor zmX10_body.1.desc).map (fun d => d.parameters.length) = some 1 := by decide +kernel
set_option maxRecDepth 20000 in
theorem virX10_body : Cond.instanceMethod zmX10_body.1 ∈ zWS ∧ Cond.selects zmX10_body.1.cls zmX10_body.1 zmX10_body.1 ∈ zWS := ⟨(zWS6 178 rfl rfl), (zSL8 8 32 rfl)⟩
set_option maxRecDepth 20000 in
theorem calX10_code : zCal zmX10_code := ⟨(zWS7 129 rfl rfl), iniX10, nmhX10⟩
theorem dscX10_code : (parseMethodDescriptor zmX10_code.1.desc).map (fun d => d.parameters.length) = some 2 := by decide +kernel
set_option maxRecDepth 20000 in
theorem virX10_code : Cond.instanceMethod zmX10_code.1 ∈ zWS ∧ Cond.selects zmX10_code.1.cls zmX10_code.1 zmX10_code.1 ∈ zWS := ⟨(zWS7 127 rfl rfl), (zWS7 128 rfl rfl)⟩
set_option maxRecDepth 20000 in
theorem calX10_instructions : zCal zmX10_instructions := ⟨(zWS7 117 rfl rfl), iniX10, nmhX10⟩
theorem dscX10_instructions : (parseMethodDescriptor zmX10_instructions.1.desc).map (fun d => d.parameters.length) = some 1 := by decide +kernel
set_option maxRecDepth 20000 in
theorem virX10_instructions : Cond.instanceMethod zmX10_instructions.1 ∈ zWS ∧ Cond.selects zmX10_instructions.1.cls zmX10_instructions.1 zmX10_instructions.1 ∈ zWS := ⟨(zWS7 115 rfl rfl), (zWS7 116 rfl rfl)⟩
set_option maxRecDepth 20000 in
theorem calX10_means : zCal zmX10_means := ⟨(zWS6 220 rfl rfl), iniX10, nmhX10⟩
theorem dscX10_means : (parseMethodDescriptor zmX10_means.1.desc).map (fun d => d.parameters.length) = some 1 := by decide +kernel
set_option maxRecDepth 20000 in
theorem virX10_means : Cond.instanceMethod zmX10_means.1 ∈ zWS ∧ Cond.selects zmX10_means.1.cls zmX10_means.1 zmX10_means.1 ∈ zWS := ⟨(zWS6 219 rfl rfl), (zSL8 14 32 rfl)⟩
set_option maxRecDepth 20000 in
theorem calX10_orderOf : zCal zmX10_orderOf := ⟨(zWS6 55 rfl rfl), iniX10, nmhX10⟩
theorem dscX10_orderOf : (parseMethodDescriptor zmX10_orderOf.1.desc).map (fun d => d.parameters.length) = some 1 := by decide +kernel
set_option maxRecDepth 20000 in
theorem virX10_orderOf : Cond.static yX10_orderOf ∈ zWS := (zWS6 54 rfl rfl)
set_option maxRecDepth 20000 in
theorem calX10_section : zCal zmX10_section := ⟨(zWS6 118 rfl rfl), iniX10, nmhX10⟩
theorem dscX10_section : (parseMethodDescriptor zmX10_section.1.desc).map (fun d => d.parameters.length) = some 2 := by decide +kernel
set_option maxRecDepth 20000 in
theorem virX10_section : Cond.instanceMethod zmX10_section.1 ∈ zWS ∧ Cond.selects zmX10_section.1.cls zmX10_section.1 zmX10_section.1 ∈ zWS := ⟨(zWS6 117 rfl rfl), (zSL7 10 32 rfl)⟩
set_option maxRecDepth 20000 in
theorem calX10_read : zCal zmX10_read := ⟨(zWS6 37 rfl rfl), iniX10, nmhX10⟩
theorem dscX10_read : (parseMethodDescriptor zmX10_read.1.desc).map (fun d => d.parameters.length) = some 1 := by decide +kernel
set_option maxRecDepth 20000 in
theorem virX10_read : Cond.instanceMethod zmX10_read.1 ∈ zWS ∧ Cond.selects zmX10_read.1.cls zmX10_read.1 zmX10_read.1 ∈ zWS := ⟨(zWS6 36 rfl rfl), (zSL7 4 32 rfl)⟩
set_option maxRecDepth 20000 in
theorem fX10_10 : zFld RX10 10 TX10 0 := Or.inl (zWS5 160 rfl rfl)
set_option maxRecDepth 20000 in
theorem fX10_16 : zFld RX10 16 TX10 1 := Or.inl (zWS5 161 rfl rfl)
set_option maxRecDepth 20000 in
theorem fX10_19 : zFld RX10 19 TX10 3 := Or.inl (zWS5 163 rfl rfl)
set_option maxRecDepth 20000 in
theorem fX10_23 : zFld RX10 23 TX10 4 := Or.inl (zWS5 164 rfl rfl)
set_option maxRecDepth 20000 in
theorem fX10_26 : zFld RX10 26 TX10 7 := Or.inl (zWS5 167 rfl rfl)
set_option maxRecDepth 20000 in
theorem fX10_33 : zFld RX10 33 TX10 9 := Or.inl (zWS5 169 rfl rfl)
set_option maxRecDepth 20000 in
theorem fX10_37 : zFld RX10 37 TX10 20 := Or.inl (zWS5 180 rfl rfl)
set_option maxRecDepth 20000 in
theorem fX10_41 : zFld RX10 41 TX10 21 := Or.inl (zWS5 181 rfl rfl)
set_option maxRecDepth 20000 in
theorem fX10_44 : zFld RX10 44 TX10 23 := Or.inl (zWS5 183 rfl rfl)
set_option maxRecDepth 20000 in
theorem fX10_47 : zFld RX10 47 TX10 24 := Or.inl (zWS5 184 rfl rfl)
set_option maxRecDepth 20000 in
theorem fX10_50 : zFld RX10 50 TX10 25 := Or.inl (zWS5 185 rfl rfl)
set_option maxRecDepth 20000 in
theorem fX10_53 : zFld RX10 53 TX10 26 := Or.inl (zWS5 186 rfl rfl)
set_option maxRecDepth 20000 in
theorem fX10_56 : zFld RX10 56 TX10 27 := Or.inl (zWS5 187 rfl rfl)
set_option maxRecDepth 20000 in
theorem fX10_60 : zFld RX10 60 TX10 29 := Or.inl (zWS5 189 rfl rfl)
set_option maxRecDepth 20000 in
theorem fX10_63 : zFld RX10 63 TX9 0 := Or.inl (zWS4 122 rfl rfl)
set_option maxRecDepth 20000 in
theorem fX10_66 : zFld RX10 66 TX10 5 := Or.inl (zWS5 165 rfl rfl)
set_option maxRecDepth 20000 in
theorem fX10_69 : zFld RX10 69 TX10 6 := Or.inl (zWS5 166 rfl rfl)
set_option maxRecDepth 20000 in
theorem fX10_77 : zFld RX10 77 TX9 1 := Or.inl (zWS4 123 rfl rfl)
set_option maxRecDepth 20000 in
theorem fX10_87 : zFld RX10 87 TX10 11 := Or.inl (zWS5 171 rfl rfl)
set_option maxRecDepth 20000 in
theorem fX10_90 : zFld RX10 90 TX10 10 := Or.inl (zWS5 170 rfl rfl)
set_option maxRecDepth 20000 in
theorem fX10_93 : zFld RX10 93 TX10 2 := Or.inl (zWS5 162 rfl rfl)
set_option maxRecDepth 20000 in
theorem fX10_97 : zFld RX10 97 TX9 2 := Or.inl (zWS4 124 rfl rfl)
set_option maxRecDepth 20000 in
theorem fX10_100 : zFld RX10 100 TX9 3 := Or.inl (zWS4 125 rfl rfl)
set_option maxRecDepth 20000 in
theorem fX10_103 : zFld RX10 103 TX9 4 := Or.inl (zWS4 126 rfl rfl)
set_option maxRecDepth 20000 in
theorem fX10_106 : zFld RX10 106 TX9 12 := Or.inl (zWS4 135 rfl rfl)
set_option maxRecDepth 20000 in
theorem fX10_109 : zFld RX10 109 TX9 13 := Or.inl (zWS4 137 rfl rfl)
set_option maxRecDepth 20000 in
theorem fX10_112 : zFld RX10 112 TX9 5 := Or.inl (zWS4 127 rfl rfl)
set_option maxRecDepth 20000 in
theorem fX10_115 : zFld RX10 115 TX9 6 := Or.inl (zWS4 128 rfl rfl)
set_option maxRecDepth 20000 in
theorem fX10_118 : zFld RX10 118 TX9 7 := Or.inl (zWS4 129 rfl rfl)
set_option maxRecDepth 20000 in
theorem fX10_121 : zFld RX10 121 TX9 8 := Or.inl (zWS4 130 rfl rfl)
set_option maxRecDepth 20000 in
theorem fX10_124 : zFld RX10 124 TX9 53 := Or.inl (zWS4 217 rfl rfl)
set_option maxRecDepth 20000 in
theorem fX10_127 : zFld RX10 127 TX10 12 := Or.inl (zWS5 172 rfl rfl)
set_option maxRecDepth 20000 in
theorem fX10_130 : zFld RX10 130 TX9 54 := Or.inl (zWS4 219 rfl rfl)
set_option maxRecDepth 20000 in
theorem fX10_133 : zFld RX10 133 TX10 13 := Or.inl (zWS5 173 rfl rfl)
set_option maxRecDepth 20000 in
theorem fX10_134 : zFld RX10 134 TX10 18 := Or.inl (zWS5 178 rfl rfl)
set_option maxRecDepth 20000 in
theorem fX10_137 : zFld RX10 137 TX10 8 := Or.inl (zWS5 168 rfl rfl)
set_option maxRecDepth 20000 in
theorem fX10_160 : zFld RX10 160 TX9 19 := Or.inl (zWS4 149 rfl rfl)
set_option maxRecDepth 20000 in
theorem fX10_163 : zFld RX10 163 TX9 31 := Or.inl (zWS4 173 rfl rfl)
set_option maxRecDepth 20000 in
theorem fX10_167 : zFld RX10 167 TX9 52 := Or.inl (zWS4 215 rfl rfl)
set_option maxRecDepth 20000 in
theorem fX10_173 : zFld RX10 173 TX10 30 := Or.inl (zWS5 190 rfl rfl)
set_option maxRecDepth 20000 in
theorem fX10_188 : zFld RX10 188 TX10 14 := Or.inl (zWS5 174 rfl rfl)
set_option maxRecDepth 20000 in
theorem fX10_191 : zFld RX10 191 TX10 15 := Or.inl (zWS5 175 rfl rfl)
set_option maxRecDepth 20000 in
theorem fX10_196 : zFld RX10 196 TX10 16 := Or.inl (zWS5 176 rfl rfl)
set_option maxRecDepth 20000 in
theorem fX10_200 : zFld RX10 200 TX10 17 := Or.inl (zWS5 177 rfl rfl)
set_option maxRecDepth 20000 in
theorem fX10_212 : zFld RX10 212 TX9 9 := Or.inl (zWS4 131 rfl rfl)
set_option maxRecDepth 20000 in
theorem fX10_215 : zFld RX10 215 TX9 10 := Or.inl (zWS4 132 rfl rfl)
set_option maxRecDepth 20000 in
theorem fX10_218 : zFld RX10 218 TX9 55 := Or.inl (zWS4 221 rfl rfl)
set_option maxRecDepth 20000 in
theorem fX10_221 : zFld RX10 221 TX10 19 := Or.inl (zWS5 179 rfl rfl)
set_option maxRecDepth 20000 in
theorem fX10_250 : zFld RX10 250 TX9 11 := Or.inl (zWS4 133 rfl rfl)
set_option maxRecDepth 20000 in
theorem fX10_267 : zFld RX10 267 TX9 32 := Or.inl (zWS4 175 rfl rfl)
set_option maxRecDepth 20000 in
theorem fX10_293 : zFld RX10 293 TX9 27 := Or.inl (zWS4 165 rfl rfl)
set_option maxRecDepth 20000 in
theorem fX10_296 : zFld RX10 296 TX9 20 := Or.inl (zWS4 151 rfl rfl)
set_option maxRecDepth 20000 in
theorem fX10_299 : zFld RX10 299 TX9 21 := Or.inl (zWS4 153 rfl rfl)
set_option maxRecDepth 20000 in
theorem fX10_302 : zFld RX10 302 TX9 22 := Or.inl (zWS4 155 rfl rfl)
set_option maxRecDepth 20000 in
theorem fX10_305 : zFld RX10 305 TX9 23 := Or.inl (zWS4 157 rfl rfl)
set_option maxRecDepth 20000 in
theorem fX10_308 : zFld RX10 308 TX9 24 := Or.inl (zWS4 159 rfl rfl)
set_option maxRecDepth 20000 in
theorem fX10_311 : zFld RX10 311 TX9 26 := Or.inl (zWS4 163 rfl rfl)
set_option maxRecDepth 20000 in
theorem fX10_314 : zFld RX10 314 TX9 25 := Or.inl (zWS4 161 rfl rfl)
set_option maxRecDepth 20000 in
theorem fX10_317 : zFld RX10 317 TX9 28 := Or.inl (zWS4 167 rfl rfl)
set_option maxRecDepth 20000 in
theorem fX10_327 : zFld RX10 327 TX9 29 := Or.inl (zWS4 169 rfl rfl)
set_option maxRecDepth 20000 in
theorem fX10_330 : zFld RX10 330 TX9 30 := Or.inl (zWS4 171 rfl rfl)
set_option maxRecDepth 20000 in
theorem fX10_333 : zFld RX10 333 TX9 56 := Or.inl (zWS4 223 rfl rfl)
set_option maxRecDepth 20000 in
theorem fX10_336 : zFld RX10 336 TX9 14 := Or.inl (zWS4 139 rfl rfl)
set_option maxRecDepth 20000 in
theorem fX10_338 : zFld RX10 338 TX9 15 := Or.inl (zWS4 141 rfl rfl)
set_option maxRecDepth 20000 in
theorem fX10_340 : zFld RX10 340 TX9 16 := Or.inl (zWS4 143 rfl rfl)
set_option maxRecDepth 20000 in
theorem fX10_343 : zFld RX10 343 TX9 18 := Or.inl (zWS4 147 rfl rfl)
set_option maxRecDepth 20000 in
theorem fX10_346 : zFld RX10 346 TX9 17 := Or.inl (zWS4 145 rfl rfl)
set_option maxRecDepth 20000 in
theorem fX10_349 : zFld RX10 349 TX9 33 := Or.inl (zWS4 177 rfl rfl)
set_option maxRecDepth 20000 in
theorem fX10_352 : zFld RX10 352 TX9 34 := Or.inl (zWS4 179 rfl rfl)
set_option maxRecDepth 20000 in
theorem fX10_355 : zFld RX10 355 TX9 35 := Or.inl (zWS4 181 rfl rfl)
set_option maxRecDepth 20000 in
theorem fX10_361 : zFld RX10 361 TX9 38 := Or.inl (zWS4 187 rfl rfl)
set_option maxRecDepth 20000 in
theorem fX10_364 : zFld RX10 364 TX9 36 := Or.inl (zWS4 183 rfl rfl)
set_option maxRecDepth 20000 in
theorem fX10_367 : zFld RX10 367 TX9 37 := Or.inl (zWS4 185 rfl rfl)
set_option maxRecDepth 20000 in
theorem fX10_370 : zFld RX10 370 TX9 39 := Or.inl (zWS4 189 rfl rfl)
set_option maxRecDepth 20000 in
theorem fX10_373 : zFld RX10 373 TX9 41 := Or.inl (zWS4 193 rfl rfl)
set_option maxRecDepth 20000 in
theorem fX10_376 : zFld RX10 376 TX9 40 := Or.inl (zWS4 191 rfl rfl)
set_option maxRecDepth 20000 in
theorem fX10_379 : zFld RX10 379 TX9 43 := Or.inl (zWS4 197 rfl rfl)
set_option maxRecDepth 20000 in
theorem fX10_382 : zFld RX10 382 TX9 42 := Or.inl (zWS4 195 rfl rfl)
set_option maxRecDepth 20000 in
theorem fX10_385 : zFld RX10 385 TX9 44 := Or.inl (zWS4 199 rfl rfl)
set_option maxRecDepth 20000 in
theorem fX10_390 : zFld RX10 390 TX9 45 := Or.inl (zWS4 201 rfl rfl)
set_option maxRecDepth 20000 in
theorem fX10_393 : zFld RX10 393 TX9 46 := Or.inl (zWS4 203 rfl rfl)
set_option maxRecDepth 20000 in
theorem fX10_396 : zFld RX10 396 TX9 48 := Or.inl (zWS4 207 rfl rfl)
set_option maxRecDepth 20000 in
theorem fX10_399 : zFld RX10 399 TX9 47 := Or.inl (zWS4 205 rfl rfl)
set_option maxRecDepth 20000 in
theorem fX10_402 : zFld RX10 402 TX9 49 := Or.inl (zWS4 209 rfl rfl)
set_option maxRecDepth 20000 in
theorem fX10_405 : zFld RX10 405 TX9 50 := Or.inl (zWS4 211 rfl rfl)
set_option maxRecDepth 20000 in
theorem fX10_408 : zFld RX10 408 TX9 51 := Or.inl (zWS4 213 rfl rfl)
set_option maxRecDepth 20000 in
theorem fX10_504 : zFld RX10 504 TX10 28 := Or.inl (zWS5 188 rfl rfl)
set_option maxRecDepth 20000 in
theorem fX10_507 : zFld RX10 507 TX10 22 := Or.inl (zWS5 182 rfl rfl)
set_option maxRecDepth 20000 in
theorem fX10_510 : zFld RX10 510 TX10 31 := Or.inl (zWS5 191 rfl rfl)
set_option maxRecDepth 20000 in
theorem fX9_137 : zFld RX9 137 TX9 55 := Or.inl (zWS4 220 rfl rfl)
set_option maxRecDepth 20000 in
theorem fX9_143 : zFld RX9 143 TX9 12 := Or.inl (zWS4 134 rfl rfl)
set_option maxRecDepth 20000 in
theorem fX9_147 : zFld RX9 147 TX9 13 := Or.inl (zWS4 136 rfl rfl)
end
section
theorem zz_last : True := trivial
end
