/-! A uniform world: every cell of a system by a number; the pure state is what its ints and longs are. -/
abbrev zK : Type := Nat × Nat
abbrev zC : Type := (Nat × List zK) ⊕ (FieldType × Nat)
abbrev zS : Type := (Nat → Nat → Int32) × (Nat → Nat → Int64)
abbrev zG : Type := va_G × (FieldType → ClassId) × (Nat → Nat)
abbrev zZ : Type := List vw_C × List zC × (zG → (Nat → Prop) → State → Prop)
abbrev zM : Type := MethodName × ByteArray × Nat × Option FieldType × Nat
abbrev zLo : Type := List (Nat × Value)
abbrev zKK : Type := zLo → List Value → zS → Prop
abbrev zOp : Type := (Option Value → zS → Prop) → (zS → Prop) → (Nat → zKK) → zKK
def zv (ad : Nat → Nat) : Value → Value
  | .ref k => .ref (ad k)
  | v => v
theorem zv_cat (ad : Nat → Nat) (v : Value) : (zv ad v).category = v.category := by cases v <;> rfl
/-- what a field of kind k holds -/
def zsl (σ : zS) (c j : Nat) (k : zK) : Value := match k.1 with
  | 0 => .int (σ.1 c j)
  | 1 => .long (σ.2 c j)
  | 2 => .ref k.2
  | _ => .null
def zcell (G : zG) (σ : zS) (c : Nat) (x : zC) : va_E := match x with
  | .inl o => .inr (o.1, o.2.mapIdx fun j k => zv G.2.2 (zsl σ c j k))
  | .inr a => .inl (G.2.1 a.1, a.2, match a.1 with
    | .long => .inr (.inl (σ.2 c))
    | _ => .inl (σ.1 c))
def zW (Z : zZ) (G : zG) (σ : zS) : va_W := Z.2.1.mapIdx fun c x => (G.2.2 c, zcell G σ c x)
def zHd (Z : zZ) (G : zG) (σ : zS) (H : Heap) : Prop := va_P G.1 Z.1 (zW Z G σ) H
def zA (Z : zZ) (G : zG) : Nat → Prop := fun q => ∃ c, c < Z.2.1.length ∧ q = G.2.2 c
def zT (dA : FieldType → ClassId) : List (ClassId × FieldType) := [(dA .int, .int), (dA .long, .long), (dA .byte, .byte), (dA .short, .short), (dA .boolean, .boolean)]
theorem zNest_tab {w : Cond} (h : zNest w = true) : w.onTables = true := by cases w <;> first | rfl | (simp [zNest] at h)
theorem zNest_warm {w : Cond} {s U : State} (h : zNest w = true) (hW : s.WarmedH U.vm) (hz : va_Nw w s) : va_Nw w U := by
  cases w <;> first | exact va_Nw.warmF hW hz | exact va_Nw.warmM hW hz | (simp [zNest] at h)
/-- what stays the same while a method runs, seen from its start -/
def zEnv (Z : zZ) (G : zG) (s : State) : Prop := va_K G.1 Z.1 (zT G.2.1) s ∧ (∀ i j : Nat, i < Z.2.1.length → j < Z.2.1.length → G.2.2 i = G.2.2 j → i = j) ∧ (∀ w ∈ zNW, va_Nw w s) ∧ Z.2.2 G (zA Z G) s
def zEok (Z : zZ) : Prop := (∀ (G : zG) (A : Nat → Prop) (U : State) (g : JFrame) (mk : MethodId) (a : Array Value), Z.2.2 G A U → Z.2.2 G A (U.calling g mk a)) ∧
  ∀ (G : zG) (A : Nat → Prop) (s U : State), Z.2.2 G A s → s.WarmedH U.vm → s.heap.size ≤ U.heap.size → (∀ q : Nat, q < s.heap.size → ¬ A q → U.heap[q]? = s.heap[q]?) → Z.2.2 G A U
theorem zEnv_call {Z : zZ} {G : zG} {U : State} (hZ : zEok Z) (g : JFrame) (mk : MethodId) (a : Array Value) (h : zEnv Z G U) : zEnv Z G (U.calling g mk a) :=
  ⟨va_K.moved (u := U) (U := U.calling g mk a) (Vm.Alike.refl U.vm) h.1, h.2.1, fun w hw => va_Nw.same (zNest_tab (List.mem_filter.mp hw).2) (show U.vm = (U.calling g mk a).vm from rfl) (h.2.2.1 w hw), hZ.1 G _ U g mk a h.2.2.2⟩
theorem zEnv_warm {Z : zZ} {G : zG} {s U : State} {H : Heap} {locs : List Loc} (hZ : zEok Z) (h : zEnv Z G s) (hU : U.heap = H) (hW : s.WarmedH U.vm) (hS : va_S (zA Z G) s.heap H locs) : zEnv Z G U :=
  ⟨va_K.moved hW.alike h.1, h.2.1, fun w hw => zNest_warm (List.mem_filter.mp hw).2 hW (h.2.2.1 w hw), hZ.2 G _ s U h.2.2.2 hW (by rw [hU]; exact hS.1) (fun q h1 h2 => by rw [hU]; exact hS.2.1 q h1 h2)⟩
theorem zW_get {Z : zZ} {G : zG} {σ : zS} {c : Nat} {x : zC} (h : Z.2.1[c]? = some x) : (zW Z G σ)[c]? = some (G.2.2 c, zcell G σ c x) := by
  simp [zW, List.getElem?_mapIdx, h]
theorem zW_at {Z : zZ} {G : zG} {σ : zS} {k : Nat} {q : Nat × va_E} (h : (zW Z G σ)[k]? = some q) : k < Z.2.1.length ∧ q.1 = G.2.2 k := by
  have hl := (List.getElem?_eq_some_iff.mp h).1
  have hl2 : k < Z.2.1.length := by simpa [zW] using hl
  refine ⟨hl2, ?_⟩
  rw [zW_get (List.getElem?_eq_getElem hl2)] at h
  cases h
  rfl
theorem zW_D {Z : zZ} {G : zG} {σ : zS} (hi : ∀ i j : Nat, i < Z.2.1.length → j < Z.2.1.length → G.2.2 i = G.2.2 j → i = j) : va_D (zA Z G) (zW Z G σ) := by
  refine ⟨fun i j p q h1 h2 e => ?_, fun k q h => ?_⟩
  · obtain ⟨a1, a2⟩ := zW_at h1
    obtain ⟨b1, b2⟩ := zW_at h2
    exact hi i j a1 b1 (by rw [← a2, ← b2, e])
  · obtain ⟨a1, a2⟩ := zW_at h
    exact ⟨k, a1, a2⟩
def zsI (σ : zS) (c j : Nat) (x : Int32) : zS := (fun a b => if a = c ∧ b = j then x else σ.1 a b, σ.2)
def zsL (σ : zS) (c j : Nat) (x : Int64) : zS := (σ.1, fun a b => if a = c ∧ b = j then x else σ.2 a b)
theorem zsl_eq {σ τ : zS} {c j : Nat} {k : zK} (h1 : σ.1 c j = τ.1 c j) (h2 : σ.2 c j = τ.2 c j) : zsl σ c j k = zsl τ c j k := by
  unfold zsl
  split <;> simp_all
theorem zcell_eq {G : zG} {σ τ : zS} {c : Nat} {x : zC} (h1 : σ.1 c = τ.1 c) (h2 : σ.2 c = τ.2 c) : zcell G σ c x = zcell G τ c x := by
  cases x with
  | inl o =>
    have e : (fun (j : Nat) (k : zK) => zv G.2.2 (zsl σ c j k)) = (fun (j : Nat) (k : zK) => zv G.2.2 (zsl τ c j k)) := by
      funext j k
      exact congrArg (zv G.2.2) (zsl_eq (by rw [h1]) (by rw [h2]))
    simp only [zcell, e]
  | inr a => simp only [zcell, h1, h2]
theorem zW_set {Z : zZ} {G : zG} {σ τ : zS} {c : Nat} {x : zC} {e : va_E} (hx : Z.2.1[c]? = some x) (he : zcell G τ c x = e) (ho : ∀ a, a ≠ c → τ.1 a = σ.1 a ∧ τ.2 a = σ.2 a) : (zW Z G σ).set c (G.2.2 c, e) = zW Z G τ := by
  apply List.ext_getElem?
  intro i
  by_cases hi : i = c
  · subst hi
    have hl : i < (zW Z G σ).length := by
      have := (List.getElem?_eq_some_iff.mp hx).1
      simpa [zW] using this
    rw [List.getElem?_set_self hl, zW_get hx, he]
  · rw [List.getElem?_set_ne (fun h => hi h.symm)]
    cases hy : Z.2.1[i]? with
    | none => simp [zW, List.getElem?_mapIdx, hy]
    | some y => rw [zW_get hy, zW_get hy, zcell_eq (ho i hi).1 (ho i hi).2]
theorem zsI_ne {σ : zS} {c j : Nat} {x : Int32} : ∀ a, a ≠ c → (zsI σ c j x).1 a = σ.1 a ∧ (zsI σ c j x).2 a = σ.2 a := fun a h => ⟨by funext b; simp [zsI, h], rfl⟩
theorem zsL_ne {σ : zS} {c j : Nat} {x : Int64} : ∀ a, a ≠ c → (zsL σ c j x).1 a = σ.1 a ∧ (zsL σ c j x).2 a = σ.2 a := fun a h => ⟨rfl, by funext b; simp [zsL, h]⟩
theorem zfs_set {G : zG} {σ τ : zS} {c j : Nat} {ks : List zK} {κ : zK} {v : Value} (hk : ks[j]? = some κ) (hv : zv G.2.2 (zsl τ c j κ) = v) (ho : ∀ i, i ≠ j → τ.1 c i = σ.1 c i ∧ τ.2 c i = σ.2 c i) :
    (ks.mapIdx fun i k => zv G.2.2 (zsl τ c i k)) = (ks.mapIdx fun i k => zv G.2.2 (zsl σ c i k)).set j v := by
  apply List.ext_getElem?
  intro i
  have hl : j < ks.length := (List.getElem?_eq_some_iff.mp hk).1
  by_cases hi : i = j
  · subst hi
    rw [List.getElem?_set_self (by simpa using hl)]
    simp [List.getElem?_mapIdx, hk, hv]
  · rw [List.getElem?_set_ne (fun h => hi h.symm)]
    cases hy : ks[i]? with
    | none => simp [List.getElem?_mapIdx, hy]
    | some y =>
      simp only [List.getElem?_mapIdx, hy, Option.map_some]
      rw [zsl_eq (ho i hi).1 (ho i hi).2]
def zR (d : Nat) : Room := { frames := d, cells := 0, slots := 0, locals := 40 * d }
def zPc (Z : zZ) (G : zG) (As : List Value) (σ : zS) : Array Value → State → Prop := va_Pc (As.map (zv G.2.2)) (fun U => zHd Z G σ U.heap ∧ zEnv Z G U)
def zQc (Z : zZ) (G : zG) (Q : Option Value → zS → Prop) : Array Value → State → Outcome → State → Prop := fun _ st o t => (∃ (v : Option Value) (σ' : zS), o = .returned (v.map (zv G.2.2)) ∧ Q v σ' ∧ zHd Z G σ' t.heap) ∧ va_F (zA Z G) st t
def zXC (Z : zZ) (G : zG) (QX : zS → Prop) : String → State → State → Prop := fun E st t => E = "java/lang/IllegalStateException" ∧ (∃ σ' : zS, QX σ' ∧ zHd Z G σ' t.heap) ∧ va_F (zA Z G) st t
/-- a method's contract: from σ it comes to its end with Q, or throws with QX -/
def zCT (Z : zZ) (M : zM) (As : List Value) (σ : zS) (Q : Option Value → zS → Prop) (QX : zS → Prop) : Prop :=
  ∀ (l : Launch) (G : zG), vx_Met l M.1 (Cond.code M.1 M.2.1 M.2.2.1 M.2.2.2.1 :: zWS) (zR M.2.2.2.2) (zPc Z G As σ) (zQc Z G Q) (zXC Z G QX) 0 0 (zA Z G)
theorem zPc_blind {Z : zZ} {G : zG} {As : List Value} {σ : zS} (hZ : zEok Z) : FrameBlind (zPc Z G As σ) := fun a U g mk h => ⟨h.1, h.2.1, zEnv_call hZ g mk a h.2.2⟩
/-- the facts of a running method -/
def zF (Z : zZ) (M : zM) (G : zG) (p : Program) (l : Launch) (e : Env) (s : State) (m : MethodId) (args : Array Value) (below : List Frame) (meth : Method) (c : Code) : Prop :=
  p.tables.exec = Jvm.exec ∧ c.code = M.2.1 ∧ meth.sig.returnType = M.2.2.2.1 ∧ c.maxLocals = M.2.2.1 ∧ s.vm.findClass M.1.cls = some m.cls ∧ (∀ w ∈ Cond.code M.1 M.2.1 M.2.2.1 M.2.2.2.1 :: zWS, w.before args s = true) ∧ zEnv Z G s ∧ meth.locks = false ∧ (∀ x ∈ c.exceptionTable.toList, False) ∧ zEok Z
def zJ (Z : zZ) (M : zM) (G : zG) (p : Program) (l : Launch) (e : Env) (s : State) (m : MethodId) (args : Array Value) (below : List Frame) (meth : Method) (c : Code) (Q : Option Value → zS → Prop) (QX : zS → Prop) (pc : Nat) (k : zKK) : Prop :=
  ∀ (ls : zLo) (st : List Value) (σ : zS) (H : Heap) (locs : List Loc) (la : Array Slot), zHd Z G σ H → va_S (zA Z G) s.heap H locs → lv_has la M.2.2.1 (ls.map fun q => (q.1, zv G.2.2 q.2)) → k ls st σ →
    W p l e (zR M.2.2.2.2) s m args below meth c H locs 0 0 (vx_MQ below (zQc Z G Q) (zXC Z G QX) args s 0 0 (zA Z G)) (F0 m pc la (st.map (zv G.2.2)))
def zSnd (Z : zZ) (M : zM) (pc : Nat) (op : zOp) : Prop :=
  ∀ (G : zG) (p : Program) (l : Launch) (e : Env) (s : State) (m : MethodId) (args : Array Value) (below : List Frame) (meth : Method) (c : Code), zF Z M G p l e s m args below meth c →
    ∀ (Q : Option Value → zS → Prop) (QX : zS → Prop) (tr : Nat → zKK), (∀ t, zJ Z M G p l e s m args below meth c Q QX t (tr t)) → zJ Z M G p l e s m args below meth c Q QX pc (op Q QX tr)
/-- a code's walk from the place go: J tells where it stops, B what is asked there -/
def zwp (J : Nat → Bool) (B : Nat → zKK) (Q : Option Value → zS → Prop) (QX : zS → Prop) : List (Nat × zOp) → Nat → zKK
  | [], _ => fun _ _ _ => False
  | q :: r, go => bif Nat.blt q.1 go then zwp J B Q QX r go else bif Nat.beq q.1 go then q.2 Q QX (fun t => bif J t then B t else zwp J B Q QX r t) else fun _ _ _ => False
theorem zwp_ok {Z : zZ} {M : zM} {G : zG} {p : Program} {l : Launch} {e : Env} {s : State} {m : MethodId} {args : Array Value} {below : List Frame} {meth : Method} {c : Code} (F : zF Z M G p l e s m args below meth c) {Q : Option Value → zS → Prop} {QX : zS → Prop} {J : Nat → Bool} {B : Nat → zKK}
    (hB : ∀ t, J t = true → zJ Z M G p l e s m args below meth c Q QX t (B t)) : ∀ (code : List (Nat × zOp)), (∀ q ∈ code, zSnd Z M q.1 q.2) → ∀ go, zJ Z M G p l e s m args below meth c Q QX go (zwp J B Q QX code go) := by
  intro code
  induction code with
  | nil => intro _ go ls st σ H locs la _ _ _ hk; exact hk.elim
  | cons q r ih =>
    intro hc go
    have ihr := ih (fun x hx => hc x (List.mem_cons_of_mem _ hx))
    unfold zwp
    cases h1 : Nat.blt q.1 go with
    | true => exact ihr go
    | false =>
      cases h2 : Nat.beq q.1 go with
      | false => intro ls st σ H locs la _ _ _ hk; exact hk.elim
      | true =>
        have e2 : q.1 = go := Nat.eq_of_beq_eq_true h2
        subst e2
        refine hc q List.mem_cons_self G p l e s m args below meth c F Q QX _ (fun t => ?_)
        cases h3 : J t with
        | true => exact hB t h3
        | false => exact ihr t
def zget : zLo → Nat → Option Value
  | [], _ => none
  | q :: r, i => bif Nat.beq q.1 i then some q.2 else zget r i
theorem zget_mem {ls : zLo} {i : Nat} {v : Value} (h : zget ls i = some v) : (i, v) ∈ ls := by
  induction ls with
  | nil => cases h
  | cons q r ih =>
    unfold zget at h
    cases hb : Nat.beq q.1 i with
    | true =>
      rw [hb] at h
      have e := Nat.eq_of_beq_eq_true hb
      cases h
      subst e
      exact List.mem_cons_self
    | false =>
      rw [hb] at h
      exact List.mem_cons_of_mem _ (ih h)
/-- the locals of these numbers, in this order -/
def zpick : List Nat → zLo → Option zLo
  | [], _ => some []
  | i :: r, ls => match zget ls i with
    | some v => match zpick r ls with
      | some l => some ((i, v) :: l)
      | none => none
    | none => none
theorem zpick_mem {is : List Nat} {ls ln : zLo} (h : zpick is ls = some ln) : ∀ q ∈ ln, q ∈ ls := by
  induction is generalizing ln with
  | nil => cases h; intro q hq; cases hq
  | cons i r ih =>
    unfold zpick at h
    split at h
    · rename_i v hv
      split at h
      · rename_i l hl
        cases h
        intro q hq
        rcases List.mem_cons.mp hq with e | e
        · rw [e]; exact zget_mem hv
        · exact ih hl q e
      · cases h
    · cases h
def zB (sh : Nat → List Nat) (K : Nat → zLo → zS → Prop) : Nat → zKK := fun t ls st σ => match st with
  | [] => match zpick (sh t) ls with
    | some ln => K t ln σ
    | none => False
  | _ => False
def zlt (n' : Nat) : Option Nat → Prop
  | none => True
  | some m => n' < m
/-- what is asked at a stop t' by a walk that began at t with measure n: a join further on keeps the measure, a loop's head has a smaller one -/
def zKt (jn : Nat → Bool) (JI : Nat → Option Nat → zLo → zS → Prop) (LI : Nat → Nat → zLo → zS → Prop) (n : Option Nat) (t : Nat) : Nat → zLo → zS → Prop := fun t' l τ =>
  bif jn t' then (bif Nat.blt t t' then JI t' n l τ else False) else ∃ n', zlt n' n ∧ LI t' n' l τ
/-- a method out of its code -/
theorem zCT_of {Z : zZ} {M : zM} {As : List Value} {σ : zS} {Q : Option Value → zS → Prop} {QX : zS → Prop} (hZ : zEok Z) (hpn : plainName M.1.cls = true) (hn : (lg_sl As).length ≤ M.2.2.1) (code : List (Nat × zOp)) (hc : ∀ q ∈ code, zSnd Z M q.1 q.2) (J : Nat → Bool) (N : Nat) (hN : ∀ t, J t = true → t < N) (sh : Nat → List Nat) (jn : Nat → Bool) (JI : Nat → Option Nat → zLo → zS → Prop) (LI : Nat → Nat → zLo → zS → Prop)
    (hj : ∀ n t ln σ', J t = true → jn t = true → JI t n ln σ' → zwp J (zB sh (zKt jn JI LI n t)) Q QX code t ln [] σ')
    (hs : ∀ m t ln σ', J t = true → jn t = false → LI t m ln σ' → zwp J (zB sh (zKt jn JI LI (some m) t)) Q QX code t ln [] σ')
    (h0 : zwp J (zB sh (zKt jn JI LI none 0)) Q QX code 0 (lv_args 0 As) [] σ) : zCT Z M As σ Q QX := by
  intro l G
  refine vx_ofW (cc := M.2.1) (maxL := M.2.2.1) (ret := M.2.2.2.1) hpn rfl ?_
  intro p e s m args below meth c s₁ B hml hxt hv
  obtain ⟨rfl, hH, hE⟩ := hv
  have hts := atoms_spec (ws := Cond.code M.1 M.2.1 M.2.2.1 M.2.2.2.1 :: zWS) B.pre
  have F : zF Z M G p l e s m (As.map (zv G.2.2)).toArray below meth c := ⟨B.exec, B.bytes, B.returns, hml, findClass_of_methodNamed B.named, hts, hE, B.notSynchronized, hxt, hZ⟩
  have hsub : ∀ {la : Array Slot} {ls ln : zLo}, (∀ q ∈ ln, q ∈ ls) → lv_has la M.2.2.1 (ls.map fun q => (q.1, zv G.2.2 q.2)) → lv_has la M.2.2.1 (ln.map fun q => (q.1, zv G.2.2 q.2)) := by
    intro la ls ln h1 h2
    refine ⟨h2.1, h2.2.1, fun q hq => ?_⟩
    obtain ⟨x, hx, rfl⟩ := List.mem_map.mp hq
    exact h2.2.2 _ (List.mem_map.mpr ⟨x, h1 x hx, rfl⟩)
  -- joins, by how far they are from the end; loops' heads below n known
  have joins : ∀ n : Option Nat, (∀ n' t, zlt n' n → J t = true → jn t = false → ∀ ln : zLo, zJ Z M G p l e s m (As.map (zv G.2.2)).toArray below meth c Q QX t (fun ls st τ => st = [] ∧ (∀ q ∈ ln, q ∈ ls) ∧ LI t n' ln τ)) →
      ∀ k t, N - t ≤ k → J t = true → jn t = true → ∀ ln : zLo, zJ Z M G p l e s m (As.map (zv G.2.2)).toArray below meth c Q QX t (fun ls st τ => st = [] ∧ (∀ q ∈ ln, q ∈ ls) ∧ JI t n ln τ) := by
    intro n hl k
    induction k with
    | zero => intro t hk ht; exact absurd (hN t ht) (by omega)
    | succ k ih =>
      intro t hk ht hjt ln ls st σ' H locs la a1 a2 a3 a4
      obtain ⟨rfl, a5, a6⟩ := a4
      refine zwp_ok F (B := zB sh (zKt jn JI LI n t)) (fun t' ht' ls' st' σ'' H' locs' la' b1 b2 b3 b4 => ?_) code hc t ln [] σ' H locs la a1 a2 (hsub a5 a3) (hj n t ln σ' ht hjt a6)
      unfold zB at b4
      split at b4
      · split at b4
        · rename_i ln' hp
          unfold zKt at b4
          cases h1 : jn t' with
          | true =>
            rw [h1] at b4
            cases h2 : Nat.blt t t' with
            | true =>
              rw [h2] at b4
              have h3 : t < t' := Nat.le_of_ble_eq_true h2
              have h4 := hN t ht
              exact ih t' (by omega) ht' h1 ln' ls' [] σ'' H' locs' la' b1 b2 b3 ⟨rfl, zpick_mem hp, b4⟩
            | false => rw [h2] at b4; exact b4.elim
          | false =>
            rw [h1] at b4
            obtain ⟨n', hn', hI⟩ := b4
            exact hl n' t' hn' ht' h1 ln' ls' [] σ'' H' locs' la' b1 b2 b3 ⟨rfl, zpick_mem hp, hI⟩
        · exact b4.elim
      · exact b4.elim
  have key : ∀ n t, J t = true → jn t = false → ∀ ln : zLo, zJ Z M G p l e s m (As.map (zv G.2.2)).toArray below meth c Q QX t (fun ls st τ => st = [] ∧ (∀ q ∈ ln, q ∈ ls) ∧ LI t n ln τ) := by
    intro n
    induction n using Nat.strongRecOn with
    | ind n ih =>
      have hjn := joins (some n) (fun n' t hn' => ih n' hn' t)
      intro t ht hjt ln ls st σ' H locs la a1 a2 a3 a4
      obtain ⟨rfl, a5, a6⟩ := a4
      refine zwp_ok F (B := zB sh (zKt jn JI LI (some n) t)) (fun t' ht' ls' st' σ'' H' locs' la' b1 b2 b3 b4 => ?_) code hc t ln [] σ' H locs la a1 a2 (hsub a5 a3) (hs n t ln σ' ht hjt a6)
      unfold zB at b4
      split at b4
      · split at b4
        · rename_i ln' hp
          unfold zKt at b4
          cases h1 : jn t' with
          | true =>
            rw [h1] at b4
            cases h2 : Nat.blt t t' with
            | true =>
              rw [h2] at b4
              exact hjn N t' (by omega) ht' h1 ln' ls' [] σ'' H' locs' la' b1 b2 b3 ⟨rfl, zpick_mem hp, b4⟩
            | false => rw [h2] at b4; exact b4.elim
          | false =>
            rw [h1] at b4
            obtain ⟨n', hn', hI⟩ := b4
            exact ih n' hn' t' ht' h1 ln' ls' [] σ'' H' locs' la' b1 b2 b3 ⟨rfl, zpick_mem hp, hI⟩
        · exact b4.elim
      · exact b4.elim
  have hjn := joins none (fun n' t _ => key n' t)
  have hlen : (lg_sl (As.map (zv G.2.2))).length = (lg_sl As).length := by
    clear hs h0 hj hc key joins hjn F hts hE hH B hn
    induction As with
    | nil => rfl
    | cons v r ih => cases v <;> simp_all [lg_sl, zv, Value.category]
  have hargs : ∀ (i : Nat) (vs : List Value), lv_args i (vs.map (zv G.2.2)) = (lv_args i vs).map fun q => (q.1, zv G.2.2 q.2) := by
    intro i vs
    induction vs generalizing i with
    | nil => rfl
    | cons v r ih => simp only [List.map_cons, lv_args, zv_cat, ih]
  have hl := lv_entry (As.map (zv G.2.2)) (n := M.2.2.1) (by rw [hlen]; exact hn)
  rw [lg_entry_eq]
  refine zwp_ok F (B := zB sh (zKt jn JI LI none 0)) (fun t' ht' ls' st' σ'' H' locs' la' b1 b2 b3 b4 => ?_) code hc 0 (lv_args 0 As) [] σ s.heap [] _ hH va_S.rf (by rw [← hargs]; exact hl) h0
  unfold zB at b4
  split at b4
  · split at b4
    · rename_i ln' hp
      unfold zKt at b4
      cases h1 : jn t' with
      | true =>
        rw [h1] at b4
        cases h2 : Nat.blt 0 t' with
        | true =>
          rw [h2] at b4
          exact hjn N t' (by omega) ht' h1 ln' ls' [] σ'' H' locs' la' b1 b2 b3 ⟨rfl, zpick_mem hp, b4⟩
        | false => rw [h2] at b4; exact b4.elim
      | false =>
        rw [h1] at b4
        obtain ⟨n', hn', hI⟩ := b4
        exact key n' t' ht' h1 ln' ls' [] σ'' H' locs' la' b1 b2 b3 ⟨rfl, zpick_mem hp, hI⟩
    · exact b4.elim
  · exact b4.elim
theorem zor {a b : Bool} {P : Prop} (h : (a || b) = true) (h1 : a = true → P) (h2 : b = true → P) : P := by
  rcases (Bool.or_eq_true _ _).mp h with h | h
  · exact h1 h
  · exact h2 h
/-! the locals at a stop: kinds by place -/
def zdI (i : Nat) (k : Int32 → zLo → Prop) : zLo → Prop := fun l => match l with
  | (j, .int x) :: r => bif Nat.beq j i then k x r else False
  | _ => False
def zdL (i : Nat) (k : Int64 → zLo → Prop) : zLo → Prop := fun l => match l with
  | (j, .long x) :: r => bif Nat.beq j i then k x r else False
  | _ => False
def zdR (i q : Nat) (k : zLo → Prop) : zLo → Prop := fun l => match l with
  | (j, .ref x) :: r => bif Nat.beq j i then (bif Nat.beq x q then k r else False) else False
  | _ => False
def zdN (P : Prop) : zLo → Prop := fun l => match l with
  | [] => P
  | _ => False
theorem zdI_e {i : Nat} {k : Int32 → zLo → Prop} {l : zLo} (h : zdI i k l) : ∃ x r, l = (i, .int x) :: r ∧ k x r := by
  unfold zdI at h
  split at h
  · rename_i j x r
    cases hb : Nat.beq j i with
    | false => rw [hb] at h; exact h.elim
    | true => rw [hb] at h; exact ⟨x, r, by rw [Nat.eq_of_beq_eq_true hb], h⟩
  · exact h.elim
theorem zdL_e {i : Nat} {k : Int64 → zLo → Prop} {l : zLo} (h : zdL i k l) : ∃ x r, l = (i, .long x) :: r ∧ k x r := by
  unfold zdL at h
  split at h
  · rename_i j x r
    cases hb : Nat.beq j i with
    | false => rw [hb] at h; exact h.elim
    | true => rw [hb] at h; exact ⟨x, r, by rw [Nat.eq_of_beq_eq_true hb], h⟩
  · exact h.elim
theorem zdR_e {i q : Nat} {k : zLo → Prop} {l : zLo} (h : zdR i q k l) : ∃ r, l = (i, .ref q) :: r ∧ k r := by
  unfold zdR at h
  split at h
  · rename_i j x r
    cases hb : Nat.beq j i with
    | false => rw [hb] at h; exact h.elim
    | true =>
      rw [hb] at h
      cases hc : Nat.beq x q with
      | false => rw [hc] at h; exact h.elim
      | true => rw [hc] at h; exact ⟨r, by rw [Nat.eq_of_beq_eq_true hb, Nat.eq_of_beq_eq_true hc], h⟩
  · exact h.elim
theorem zdN_e {P : Prop} {l : zLo} (h : zdN P l) : l = [] ∧ P := by
  unfold zdN at h
  split at h
  · exact ⟨rfl, h⟩
  · exact h.elim
