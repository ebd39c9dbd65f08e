/-! A uniform world: every cell of a system by a number; the pure state is what its ints and longs are. -/
abbrev zK : Type := Nat × Nat
abbrev zC : Type := (Nat × List zK) ⊕ (FieldType × Nat)
abbrev zS : Type := (Nat → Nat → Int32) × (Nat → Nat → Int64)
abbrev zG : Type := va_G × (FieldType → ClassId) × (Nat → Nat)
abbrev zZ : Type := List vw_C × List zC × (zG → (Nat → Prop) → State → Prop)
abbrev zM : Type := MethodName × ByteArray × Nat × Option FieldType × Nat
abbrev zLo : Type := List (Nat × Value)
abbrev zKK : Type := zLo → List Value → zS → Prop
abbrev zOp : Type := (Option Value → zS → Prop) → (zS → Prop) → (Nat → zKK) → zKK
def zv (ad : Nat → Nat) : Value → Value
  | .ref k => .ref (ad k)
  | v => v
theorem zv_cat (ad : Nat → Nat) (v : Value) : (zv ad v).category = v.category := by cases v <;> rfl
/-- what a field of kind k holds -/
def zsl (σ : zS) (c j : Nat) (k : zK) : Value := match k.1 with
  | 0 => .int (σ.1 c j)
  | 1 => .long (σ.2 c j)
  | 2 => .ref k.2
  | _ => .null
def zcell (G : zG) (σ : zS) (c : Nat) (x : zC) : va_E := match x with
  | .inl o => .inr (o.1, o.2.mapIdx fun j k => zv G.2.2 (zsl σ c j k))
  | .inr a => .inl (G.2.1 a.1, a.2, match a.1 with
    | .long => .inr (.inl (σ.2 c))
    | _ => .inl (σ.1 c))
def zW (Z : zZ) (G : zG) (σ : zS) : va_W := Z.2.1.mapIdx fun c x => (G.2.2 c, zcell G σ c x)
def zHd (Z : zZ) (G : zG) (σ : zS) (H : Heap) : Prop := va_P G.1 Z.1 (zW Z G σ) H
def zA (Z : zZ) (G : zG) : Nat → Prop := fun q => ∃ c, c < Z.2.1.length ∧ q = G.2.2 c
def zT (dA : FieldType → ClassId) : List (ClassId × FieldType) := [(dA .int, .int), (dA .long, .long), (dA .byte, .byte), (dA .short, .short), (dA .boolean, .boolean)]
theorem zNest_tab {w : Cond} (h : zNest w = true) : w.onTables = true := by cases w <;> first | rfl | (simp [zNest] at h)
theorem zNest_warm {w : Cond} {s U : State} (h : zNest w = true) (hW : s.WarmedH U.vm) (hz : va_Nw w s) : va_Nw w U := by
  cases w <;> first | exact va_Nw.warmF hW hz | exact va_Nw.warmM hW hz | (simp [zNest] at h)
/-- what stays the same while a method runs, seen from its start -/
def zEnv (Z : zZ) (G : zG) (s : State) : Prop := va_K G.1 Z.1 (zT G.2.1) s ∧ (∀ i j : Nat, i < Z.2.1.length → j < Z.2.1.length → G.2.2 i = G.2.2 j → i = j) ∧ (∀ w ∈ zNW, va_Nw w s) ∧ Z.2.2 G (zA Z G) s
def zEok (Z : zZ) : Prop := (∀ (G : zG) (A : Nat → Prop) (U : State) (g : JFrame) (mk : MethodId) (a : Array Value), Z.2.2 G A U → Z.2.2 G A (U.calling g mk a)) ∧
  ∀ (G : zG) (A : Nat → Prop) (s U : State), Z.2.2 G A s → s.WarmedH U.vm → s.heap.size ≤ U.heap.size → (∀ q : Nat, q < s.heap.size → ¬ A q → U.heap[q]? = s.heap[q]?) → Z.2.2 G A U
theorem zEnv_call {Z : zZ} {G : zG} {U : State} (hZ : zEok Z) (g : JFrame) (mk : MethodId) (a : Array Value) (h : zEnv Z G U) : zEnv Z G (U.calling g mk a) :=
  ⟨va_K.moved (u := U) (U := U.calling g mk a) (Vm.Alike.refl U.vm) h.1, h.2.1, fun w hw => va_Nw.same (zNest_tab (List.mem_filter.mp hw).2) (show U.vm = (U.calling g mk a).vm from rfl) (h.2.2.1 w hw), hZ.1 G _ U g mk a h.2.2.2⟩
theorem zEnv_warm {Z : zZ} {G : zG} {s U : State} {H : Heap} {locs : List Loc} (hZ : zEok Z) (h : zEnv Z G s) (hU : U.heap = H) (hW : s.WarmedH U.vm) (hS : va_S (zA Z G) s.heap H locs) : zEnv Z G U :=
  ⟨va_K.moved hW.alike h.1, h.2.1, fun w hw => zNest_warm (List.mem_filter.mp hw).2 hW (h.2.2.1 w hw), hZ.2 G _ s U h.2.2.2 hW (by rw [hU]; exact hS.1) (fun q h1 h2 => by rw [hU]; exact hS.2.1 q h1 h2)⟩
theorem zW_get {Z : zZ} {G : zG} {σ : zS} {c : Nat} {x : zC} (h : Z.2.1[c]? = some x) : (zW Z G σ)[c]? = some (G.2.2 c, zcell G σ c x) := by
  simp [zW, List.getElem?_mapIdx, h]
theorem zW_at {Z : zZ} {G : zG} {σ : zS} {k : Nat} {q : Nat × va_E} (h : (zW Z G σ)[k]? = some q) : k < Z.2.1.length ∧ q.1 = G.2.2 k := by
  have hl := (List.getElem?_eq_some_iff.mp h).1
  have hl2 : k < Z.2.1.length := by simpa [zW] using hl
  refine ⟨hl2, ?_⟩
  rw [zW_get (List.getElem?_eq_getElem hl2)] at h
  cases h
  rfl
theorem zW_D {Z : zZ} {G : zG} {σ : zS} (hi : ∀ i j : Nat, i < Z.2.1.length → j < Z.2.1.length → G.2.2 i = G.2.2 j → i = j) : va_D (zA Z G) (zW Z G σ) := by
  refine ⟨fun i j p q h1 h2 e => ?_, fun k q h => ?_⟩
  · obtain ⟨a1, a2⟩ := zW_at h1
    obtain ⟨b1, b2⟩ := zW_at h2
    exact hi i j a1 b1 (by rw [← a2, ← b2, e])
  · obtain ⟨a1, a2⟩ := zW_at h
    exact ⟨k, a1, a2⟩
def zsI (σ : zS) (c j : Nat) (x : Int32) : zS := (fun a b => if a = c ∧ b = j then x else σ.1 a b, σ.2)
def zsL (σ : zS) (c j : Nat) (x : Int64) : zS := (σ.1, fun a b => if a = c ∧ b = j then x else σ.2 a b)
theorem zsl_eq {σ τ : zS} {c j : Nat} {k : zK} (h1 : σ.1 c j = τ.1 c j) (h2 : σ.2 c j = τ.2 c j) : zsl σ c j k = zsl τ c j k := by
  unfold zsl
  split <;> simp_all
theorem zcell_eq {G : zG} {σ τ : zS} {c : Nat} {x : zC} (h1 : σ.1 c = τ.1 c) (h2 : σ.2 c = τ.2 c) : zcell G σ c x = zcell G τ c x := by
  cases x with
  | inl o =>
    have e : (fun (j : Nat) (k : zK) => zv G.2.2 (zsl σ c j k)) = (fun (j : Nat) (k : zK) => zv G.2.2 (zsl τ c j k)) := by
      funext j k
      exact congrArg (zv G.2.2) (zsl_eq (by rw [h1]) (by rw [h2]))
    simp only [zcell, e]
  | inr a => simp only [zcell, h1, h2]
theorem zW_set {Z : zZ} {G : zG} {σ τ : zS} {c : Nat} {x : zC} {e : va_E} (hx : Z.2.1[c]? = some x) (he : zcell G τ c x = e) (ho : ∀ a, a ≠ c → τ.1 a = σ.1 a ∧ τ.2 a = σ.2 a) : (zW Z G σ).set c (G.2.2 c, e) = zW Z G τ := by
  apply List.ext_getElem?
  intro i
  by_cases hi : i = c
  · subst hi
    have hl : i < (zW Z G σ).length := by
      have := (List.getElem?_eq_some_iff.mp hx).1
      simpa [zW] using this
    rw [List.getElem?_set_self hl, zW_get hx, he]
  · rw [List.getElem?_set_ne (fun h => hi h.symm)]
    cases hy : Z.2.1[i]? with
    | none => simp [zW, List.getElem?_mapIdx, hy]
    | some y => rw [zW_get hy, zW_get hy, zcell_eq (ho i hi).1 (ho i hi).2]
theorem zsI_ne {σ : zS} {c j : Nat} {x : Int32} : ∀ a, a ≠ c → (zsI σ c j x).1 a = σ.1 a ∧ (zsI σ c j x).2 a = σ.2 a := fun a h => ⟨by funext b; simp [zsI, h], rfl⟩
theorem zsL_ne {σ : zS} {c j : Nat} {x : Int64} : ∀ a, a ≠ c → (zsL σ c j x).1 a = σ.1 a ∧ (zsL σ c j x).2 a = σ.2 a := fun a h => ⟨rfl, by funext b; simp [zsL, h]⟩
theorem zfs_set {G : zG} {σ τ : zS} {c j : Nat} {ks : List zK} {κ : zK} {v : Value} (hk : ks[j]? = some κ) (hv : zv G.2.2 (zsl τ c j κ) = v) (ho : ∀ i, i ≠ j → τ.1 c i = σ.1 c i ∧ τ.2 c i = σ.2 c i) :
    (ks.mapIdx fun i k => zv G.2.2 (zsl τ c i k)) = (ks.mapIdx fun i k => zv G.2.2 (zsl σ c i k)).set j v := by
  apply List.ext_getElem?
  intro i
  have hl : j < ks.length := (List.getElem?_eq_some_iff.mp hk).1
  by_cases hi : i = j
  · subst hi
    rw [List.getElem?_set_self (by simpa using hl)]
    simp [List.getElem?_mapIdx, hk, hv]
  · rw [List.getElem?_set_ne (fun h => hi h.symm)]
    cases hy : ks[i]? with
    | none => simp [List.getElem?_mapIdx, hy]
    | some y =>
      simp only [List.getElem?_mapIdx, hy, Option.map_some]
      rw [zsl_eq (ho i hi).1 (ho i hi).2]
def zR (d : Nat) : Room := { frames := d, cells := 0, slots := 0, locals := 40 * d }
def zPc (Z : zZ) (G : zG) (As : List Value) (σ : zS) : Array Value → State → Prop := va_Pc (As.map (zv G.2.2)) (fun U => zHd Z G σ U.heap ∧ zEnv Z G U)
def zQc (Z : zZ) (G : zG) (Q : Option Value → zS → Prop) : Array Value → State → Outcome → State → Prop := fun _ st o t => (∃ (v : Option Value) (σ' : zS), o = .returned (v.map (zv G.2.2)) ∧ Q v σ' ∧ zHd Z G σ' t.heap) ∧ va_F (zA Z G) st t
def zXC (Z : zZ) (G : zG) (QX : zS → Prop) : String → State → State → Prop := fun E st t => E = "java/lang/IllegalStateException" ∧ (∃ σ' : zS, QX σ' ∧ zHd Z G σ' t.heap) ∧ va_F (zA Z G) st t
/-- a method's contract: from σ it comes to its end with Q, or throws with QX -/
def zCT (Z : zZ) (M : zM) (As : List Value) (σ : zS) (Q : Option Value → zS → Prop) (QX : zS → Prop) : Prop :=
  ∀ (l : Launch) (G : zG), vx_Met l M.1 (Cond.code M.1 M.2.1 M.2.2.1 M.2.2.2.1 :: zWS) (zR M.2.2.2.2) (zPc Z G As σ) (zQc Z G Q) (zXC Z G QX) 0 0 (zA Z G)
theorem zPc_blind {Z : zZ} {G : zG} {As : List Value} {σ : zS} (hZ : zEok Z) : FrameBlind (zPc Z G As σ) := fun a U g mk h => ⟨h.1, h.2.1, zEnv_call hZ g mk a h.2.2⟩
/-- the facts of a running method -/
def zF (Z : zZ) (M : zM) (G : zG) (p : Program) (l : Launch) (e : Env) (s : State) (m : MethodId) (args : Array Value) (below : List Frame) (meth : Method) (c : Code) : Prop :=
  p.tables.exec = Jvm.exec ∧ c.code = M.2.1 ∧ meth.sig.returnType = M.2.2.2.1 ∧ c.maxLocals = M.2.2.1 ∧ s.vm.findClass M.1.cls = some m.cls ∧ (∀ w ∈ Cond.code M.1 M.2.1 M.2.2.1 M.2.2.2.1 :: zWS, w.before args s = true) ∧ zEnv Z G s ∧ meth.locks = false ∧ (∀ x ∈ c.exceptionTable.toList, False) ∧ zEok Z
def zJ (Z : zZ) (M : zM) (G : zG) (p : Program) (l : Launch) (e : Env) (s : State) (m : MethodId) (args : Array Value) (below : List Frame) (meth : Method) (c : Code) (Q : Option Value → zS → Prop) (QX : zS → Prop) (pc : Nat) (k : zKK) : Prop :=
  ∀ (ls : zLo) (st : List Value) (σ : zS) (H : Heap) (locs : List Loc) (la : Array Slot), zHd Z G σ H → va_S (zA Z G) s.heap H locs → lv_has la M.2.2.1 (ls.map fun q => (q.1, zv G.2.2 q.2)) → k ls st σ →
    W p l e (zR M.2.2.2.2) s m args below meth c H locs 0 0 (vx_MQ below (zQc Z G Q) (zXC Z G QX) args s 0 0 (zA Z G)) (F0 m pc la (st.map (zv G.2.2)))
def zSnd (Z : zZ) (M : zM) (pc : Nat) (op : zOp) : Prop :=
  ∀ (G : zG) (p : Program) (l : Launch) (e : Env) (s : State) (m : MethodId) (args : Array Value) (below : List Frame) (meth : Method) (c : Code), zF Z M G p l e s m args below meth c →
    ∀ (Q : Option Value → zS → Prop) (QX : zS → Prop) (tr : Nat → zKK), (∀ t, zJ Z M G p l e s m args below meth c Q QX t (tr t)) → zJ Z M G p l e s m args below meth c Q QX pc (op Q QX tr)
/-- a code's walk from the place go: J tells where it stops, B what is asked there -/
def zwp (J : Nat → Bool) (B : Nat → zKK) (Q : Option Value → zS → Prop) (QX : zS → Prop) : List (Nat × zOp) → Nat → zKK
  | [], _ => fun _ _ _ => False
  | q :: r, go => bif Nat.blt q.1 go then zwp J B Q QX r go else bif Nat.beq q.1 go then q.2 Q QX (fun t => bif J t then B t else zwp J B Q QX r t) else fun _ _ _ => False
theorem zwp_ok {Z : zZ} {M : zM} {G : zG} {p : Program} {l : Launch} {e : Env} {s : State} {m : MethodId} {args : Array Value} {below : List Frame} {meth : Method} {c : Code} (F : zF Z M G p l e s m args below meth c) {Q : Option Value → zS → Prop} {QX : zS → Prop} {J : Nat → Bool} {B : Nat → zKK}
    (hB : ∀ t, J t = true → zJ Z M G p l e s m args below meth c Q QX t (B t)) : ∀ (code : List (Nat × zOp)), (∀ q ∈ code, zSnd Z M q.1 q.2) → ∀ go, zJ Z M G p l e s m args below meth c Q QX go (zwp J B Q QX code go) := by
  intro code
  induction code with
  | nil => intro _ go ls st σ H locs la _ _ _ hk; exact hk.elim
  | cons q r ih =>
    intro hc go
    have ihr := ih (fun x hx => hc x (List.mem_cons_of_mem _ hx))
    unfold zwp
    cases h1 : Nat.blt q.1 go with
    | true => exact ihr go
    | false =>
      cases h2 : Nat.beq q.1 go with
      | false => intro ls st σ H locs la _ _ _ hk; exact hk.elim
      | true =>
        have e2 : q.1 = go := Nat.eq_of_beq_eq_true h2
        subst e2
        refine hc q List.mem_cons_self G p l e s m args below meth c F Q QX _ (fun t => ?_)
        cases h3 : J t with
        | true => exact hB t h3
        | false => exact ihr t
/-- a method out of its code: Inv t n is what holds at the stop t with measure n -/
theorem zCT_of {Z : zZ} {M : zM} {As : List Value} {σ : zS} {Q : Option Value → zS → Prop} {QX : zS → Prop} (hZ : zEok Z) (hpn : plainName M.1.cls = true) (hn : (lg_sl As).length ≤ M.2.2.1) (code : List (Nat × zOp)) (hc : ∀ q ∈ code, zSnd Z M q.1 q.2) (J : Nat → Bool) (Inv : Nat → Nat → zKK)
    (hs : ∀ n t ls st σ', J t = true → Inv t n ls st σ' → zwp J (fun t' ls' st' σ'' => ∃ n', n' < n ∧ Inv t' n' ls' st' σ'') Q QX code t ls st σ')
    (h0 : zwp J (fun t' ls' st' σ'' => ∃ n', Inv t' n' ls' st' σ'') Q QX code 0 (lv_args 0 As) [] σ) : zCT Z M As σ Q QX := by
  intro l G
  refine vx_ofW (cc := M.2.1) (maxL := M.2.2.1) (ret := M.2.2.2.1) hpn rfl ?_
  intro p e s m args below meth c s₁ B hml hxt hv
  obtain ⟨rfl, hH, hE⟩ := hv
  have hts := atoms_spec (ws := Cond.code M.1 M.2.1 M.2.2.1 M.2.2.2.1 :: zWS) B.pre
  have F : zF Z M G p l e s m (As.map (zv G.2.2)).toArray below meth c := ⟨B.exec, B.bytes, B.returns, hml, findClass_of_methodNamed B.named, hts, hE, B.notSynchronized, hxt, hZ⟩
  have key : ∀ n t, J t = true → zJ Z M G p l e s m (As.map (zv G.2.2)).toArray below meth c Q QX t (Inv t n) := by
    intro n
    induction n using Nat.strongRecOn with
    | ind n ih =>
      intro t ht ls st σ' H locs la a1 a2 a3 a4
      refine zwp_ok F (B := fun t' ls' st' σ'' => ∃ n', n' < n ∧ Inv t' n' ls' st' σ'') (fun t' ht' ls' st' σ'' H' locs' la' b1 b2 b3 b4 => ?_) code hc t ls st σ' H locs la a1 a2 a3 (hs n t ls st σ' ht a4)
      obtain ⟨n', hn', hI⟩ := b4
      exact ih n' hn' t' ht' ls' st' σ'' H' locs' la' b1 b2 b3 hI
  have hlen : (lg_sl (As.map (zv G.2.2))).length = (lg_sl As).length := by
    clear hs h0 hc key F hts hE hH B hn
    induction As with
    | nil => rfl
    | cons v r ih => cases v <;> simp_all [lg_sl, zv, Value.category]
  have hargs : ∀ (i : Nat) (vs : List Value), lv_args i (vs.map (zv G.2.2)) = (lv_args i vs).map fun q => (q.1, zv G.2.2 q.2) := by
    intro i vs
    induction vs generalizing i with
    | nil => rfl
    | cons v r ih => simp only [List.map_cons, lv_args, zv_cat, ih]
  have hl := lv_entry (As.map (zv G.2.2)) (n := M.2.2.1) (by rw [hlen]; exact hn)
  rw [lg_entry_eq]
  refine zwp_ok F (B := fun t' ls' st' σ'' => ∃ n', Inv t' n' ls' st' σ'') (fun t' ht' ls' st' σ'' H' locs' la' b1 b2 b3 b4 => ?_) code hc 0 (lv_args 0 As) [] σ s.heap [] _ hH va_S.rf (by rw [← hargs]; exact hl) h0
  obtain ⟨n', hI⟩ := b4
  exact key n' t' ht' ls' st' σ'' H' locs' la' b1 b2 b3 hI
