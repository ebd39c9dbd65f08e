theorem vx_ofWH {l : Launch} {y : MethodName} {ws ws' : List Cond} {rm : Room} {Pc : Array Value → State → Prop} {Qc : Array Value → State → Outcome → State → Prop} {XC : String → State → State → Prop} {mc ms : Nat} {free : Addr → Prop} {cc : ByteArray} {maxL : Nat} {ret : Option FieldType} {hh : List (Nat × Nat × Nat × Nat)}
    (hy : plainName y.cls = true) (hw : ws = Cond.codeWith y cc maxL ret hh :: ws')
    (body : ∀ p e s m args below meth c s₁, BodyLoose p l y (headSpec ws rm) cc maxL ret e s m args below meth c s₁ → c.maxLocals = maxL → Pc args s →
      W p l e (headSpec ws rm).room s m args below meth c s.heap [] 0 0 (vx_MQ below Qc XC args s mc ms free) (entryFrame m args maxL)) : vx_Met l y ws rm Pc Qc XC mc ms free := by
  refine MetFree.of_bodyS (code := cc) (maxLocals := maxL) (ret := ret) hy ?_ ?_
  · intro args s m h hn
    obtain ⟨m9, meth, c, hn9, h1, h2, h3, h4, -, h5, h6, -⟩ := Cond.codeWith_spec (atoms_spec (ws := ws) h _ (by rw [hw]; exact List.mem_cons_self))
    cases hn.symm.trans hn9
    exact ⟨meth, c, h1, h2, h3, h4, h5, h6⟩
  · intro p e s m args below meth c s₁ B hml hP _
    have hh0 : s₁.heap = s.heap := by rw [B.state]; rfl
    obtain ⟨t, a1, o, b1, b2, b3⟩ := body p e s m args below meth c s₁ B hml hP s₁ hh0 (Stand.of_body B)
    exact ⟨t, o, a1, b1, b2, b3⟩
/-! methods with an exception table: check() of the reference. Two ends: as it was called, or with the two modules' parts changed over -/
def zHH : List (Nat × Nat × Nat × Nat) := [(61, 71, 74, 30)]
def zrl (c : Nat) : Nat := if c = 1 then 2 else if c = 2 then 1 else if 14 ≤ c ∧ c ≤ 56 then c + 43 else if 57 ≤ c ∧ c ≤ 99 then c - 43 else c
def zGsw (G : zG) : zG := (G.1, G.2.1, fun c => G.2.2 (zrl c))
def zSsw (σ : zS) : zS := (fun c j => σ.1 (zrl c) j, fun c j => σ.2 (zrl c) j)
def zQcH (Z : zZ) (G : zG) (Q QS : Option Value → zS → Prop) : Array Value → State → Outcome → State → Prop := fun _ st o t => (∃ (v : Option Value) (σ' : zS), o = .returned (v.map (zv G.2.2)) ∧ ((Q v σ' ∧ zHd Z G σ' t.heap) ∨ (QS v σ' ∧ zHd Z (zGsw G) σ' t.heap))) ∧ va_F (zA Z G) st t
def zCTH (Z : zZ) (M : zM) (As : List Value) (σ : zS) (Q QS : Option Value → zS → Prop) (QX : zS → Prop) : Prop :=
  ∀ (l : Launch) (G : zG), vx_Met l M.1 (Cond.codeWith M.1 M.2.1 M.2.2.1 M.2.2.2.1 zHH :: zWS) (zR M.2.2.2.2) (zPc Z G As σ) (zQcH Z G Q QS) (zXC Z G QX) 0 0 (zA Z G)
def zFH (Z : zZ) (M : zM) (G : zG) (p : Program) (l : Launch) (e : Env) (s : State) (m : MethodId) (args : Array Value) (below : List Frame) (meth : Method) (c : Code) : Prop :=
  p.tables.exec = Jvm.exec ∧ c.code = M.2.1 ∧ meth.sig.returnType = M.2.2.2.1 ∧ c.maxLocals = M.2.2.1 ∧ s.vm.findClass M.1.cls = some m.cls ∧ (∀ w ∈ Cond.codeWith M.1 M.2.1 M.2.2.1 M.2.2.2.1 zHH :: zWS, w.before args s = true) ∧ zEnv Z G s ∧ meth.locks = false ∧ c.exceptionTable.toList = tableOf zHH ∧ zEok Z
def zJH (Z : zZ) (M : zM) (QS : Option Value → zS → Prop) (G : zG) (p : Program) (l : Launch) (e : Env) (s : State) (m : MethodId) (args : Array Value) (below : List Frame) (meth : Method) (c : Code) (Q : Option Value → zS → Prop) (QX : zS → Prop) (pc : Nat) (k : zKK) : Prop :=
  ∀ (ls : zLo) (st : List Value) (σ : zS) (H : Heap) (locs : List Loc) (la : Array Slot), zHd Z G σ H → va_S (zA Z G) s.heap H locs → lv_has la M.2.2.1 (ls.map fun q => (q.1, zv G.2.2 q.2)) → k ls st σ →
    W p l e (zR M.2.2.2.2) s m args below meth c H locs 0 0 (vx_MQ below (zQcH Z G Q QS) (zXC Z G QX) args s 0 0 (zA Z G)) (F0 m pc la (st.map (zv G.2.2)))
def zSndH (Z : zZ) (M : zM) (QS : Option Value → zS → Prop) (pc : Nat) (op : zOp) : Prop :=
  ∀ (G : zG) (p : Program) (l : Launch) (e : Env) (s : State) (m : MethodId) (args : Array Value) (below : List Frame) (meth : Method) (c : Code), zFH Z M G p l e s m args below meth c →
    ∀ (Q : Option Value → zS → Prop) (QX : zS → Prop) (tr : Nat → zKK), (∀ t, zJH Z M QS G p l e s m args below meth c Q QX t (tr t)) → zJH Z M QS G p l e s m args below meth c Q QX pc (op Q QX tr)
theorem zwp_okH {Z : zZ} {M : zM} {G : zG} {p : Program} {l : Launch} {e : Env} {s : State} {m : MethodId} {args : Array Value} {below : List Frame} {meth : Method} {c : Code} (F : zFH Z M G p l e s m args below meth c) {Q QS : Option Value → zS → Prop} {QX : zS → Prop} {J : Nat → Bool} {B : Nat → zKK}
    (hB : ∀ t, J t = true → zJH Z M QS G p l e s m args below meth c Q QX t (B t)) : ∀ (code : List (Nat × zOp)), (∀ q ∈ code, zSndH Z M QS q.1 q.2) → ∀ go, zJH Z M QS G p l e s m args below meth c Q QX go (zwp J B Q QX code go) := by
  intro code
  induction code with
  | nil => intro _ go ls st σ H locs la _ _ _ hk; exact hk.elim
  | cons q r ih =>
    intro hc go
    have ihr := ih (fun x hx => hc x (List.mem_cons_of_mem _ hx))
    unfold zwp
    cases h1 : Nat.blt q.1 go with
    | true => exact ihr go
    | false =>
      cases h2 : Nat.beq q.1 go with
      | false => intro ls st σ H locs la _ _ _ hk; exact hk.elim
      | true =>
        have e2 : q.1 = go := Nat.eq_of_beq_eq_true h2
        subst e2
        refine hc q List.mem_cons_self G p l e s m args below meth c F Q QX _ (fun t => ?_)
        cases h3 : J t with
        | true => exact hB t h3
        | false => exact ihr t
theorem zCT_ofH {Z : zZ} {M : zM} {As : List Value} {σ : zS} {Q QS : Option Value → zS → Prop} {QX : zS → Prop} (hZ : zEok Z) (hpn : plainName M.1.cls = true) (hn : (lg_sl As).length ≤ M.2.2.1) (code : List (Nat × zOp)) (hc : ∀ q ∈ code, zSndH Z M QS q.1 q.2) (J : Nat → Bool) (N : Nat) (hN : ∀ t, J t = true → t < N) (sh : Nat → List Nat) (jn : Nat → Bool) (JI : Nat → Option Nat → zLo → zS → Prop) (LI : Nat → Nat → zLo → zS → Prop)
    (hj : ∀ n t ln σ', J t = true → jn t = true → JI t n ln σ' → zwp J (zB sh (zKt jn JI LI n t)) Q QX code t ln [] σ')
    (hs : ∀ m t ln σ', J t = true → jn t = false → LI t m ln σ' → zwp J (zB sh (zKt jn JI LI (some m) t)) Q QX code t ln [] σ')
    (h0 : zwp J (zB sh (zKt jn JI LI none 0)) Q QX code 0 (lv_args 0 As) [] σ) : zCTH Z M As σ Q QS QX := by
  intro l G
  refine vx_ofWH (cc := M.2.1) (maxL := M.2.2.1) (ret := M.2.2.2.1) (hh := zHH) hpn rfl ?_
  intro p e s m args below meth c s₁ B hml hv
  obtain ⟨rfl, hH, hE⟩ := hv
  have hts := atoms_spec (ws := Cond.codeWith M.1 M.2.1 M.2.2.1 M.2.2.2.1 zHH :: zWS) B.pre
  have F : zFH Z M G p l e s m (As.map (zv G.2.2)).toArray below meth c := ⟨B.exec, B.bytes, B.returns, hml, findClass_of_methodNamed B.named, hts, hE, B.notSynchronized, vx_table (x := M.1) B (hts _ List.mem_cons_self), hZ⟩
  have hsub : ∀ {la : Array Slot} {ls ln : zLo}, (∀ q ∈ ln, q ∈ ls) → lv_has la M.2.2.1 (ls.map fun q => (q.1, zv G.2.2 q.2)) → lv_has la M.2.2.1 (ln.map fun q => (q.1, zv G.2.2 q.2)) := by
    intro la ls ln h1 h2
    refine ⟨h2.1, h2.2.1, fun q hq => ?_⟩
    obtain ⟨x, hx, rfl⟩ := List.mem_map.mp hq
    exact h2.2.2 _ (List.mem_map.mpr ⟨x, h1 x hx, rfl⟩)
  -- joins, by how far they are from the end; loops' heads below n known
  have joins : ∀ n : Option Nat, (∀ n' t, zlt n' n → J t = true → jn t = false → ∀ ln : zLo, zJH Z M QS G p l e s m (As.map (zv G.2.2)).toArray below meth c Q QX t (fun ls st τ => st = [] ∧ (∀ q ∈ ln, q ∈ ls) ∧ LI t n' ln τ)) →
      ∀ k t, N - t ≤ k → J t = true → jn t = true → ∀ ln : zLo, zJH Z M QS G p l e s m (As.map (zv G.2.2)).toArray below meth c Q QX t (fun ls st τ => st = [] ∧ (∀ q ∈ ln, q ∈ ls) ∧ JI t n ln τ) := by
    intro n hl k
    induction k with
    | zero => intro t hk ht; exact absurd (hN t ht) (by omega)
    | succ k ih =>
      intro t hk ht hjt ln ls st σ' H locs la a1 a2 a3 a4
      obtain ⟨rfl, a5, a6⟩ := a4
      refine zwp_okH F (B := zB sh (zKt jn JI LI n t)) (fun t' ht' ls' st' σ'' H' locs' la' b1 b2 b3 b4 => ?_) code hc t ln [] σ' H locs la a1 a2 (hsub a5 a3) (hj n t ln σ' ht hjt a6)
      unfold zB at b4
      split at b4
      · split at b4
        · rename_i ln' hp
          unfold zKt at b4
          cases h1 : jn t' with
          | true =>
            rw [h1] at b4
            cases h2 : Nat.blt t t' with
            | true =>
              rw [h2] at b4
              have h3 : t < t' := Nat.le_of_ble_eq_true h2
              have h4 := hN t ht
              exact ih t' (by omega) ht' h1 ln' ls' [] σ'' H' locs' la' b1 b2 b3 ⟨rfl, zpick_mem hp, b4⟩
            | false => rw [h2] at b4; exact b4.elim
          | false =>
            rw [h1] at b4
            obtain ⟨n', hn', hI⟩ := b4
            exact hl n' t' hn' ht' h1 ln' ls' [] σ'' H' locs' la' b1 b2 b3 ⟨rfl, zpick_mem hp, hI⟩
        · exact b4.elim
      · exact b4.elim
  have key : ∀ n t, J t = true → jn t = false → ∀ ln : zLo, zJH Z M QS G p l e s m (As.map (zv G.2.2)).toArray below meth c Q QX t (fun ls st τ => st = [] ∧ (∀ q ∈ ln, q ∈ ls) ∧ LI t n ln τ) := by
    intro n
    induction n using Nat.strongRecOn with
    | ind n ih =>
      have hjn := joins (some n) (fun n' t hn' => ih n' hn' t)
      intro t ht hjt ln ls st σ' H locs la a1 a2 a3 a4
      obtain ⟨rfl, a5, a6⟩ := a4
      refine zwp_okH F (B := zB sh (zKt jn JI LI (some n) t)) (fun t' ht' ls' st' σ'' H' locs' la' b1 b2 b3 b4 => ?_) code hc t ln [] σ' H locs la a1 a2 (hsub a5 a3) (hs n t ln σ' ht hjt a6)
      unfold zB at b4
      split at b4
      · split at b4
        · rename_i ln' hp
          unfold zKt at b4
          cases h1 : jn t' with
          | true =>
            rw [h1] at b4
            cases h2 : Nat.blt t t' with
            | true =>
              rw [h2] at b4
              exact hjn N t' (by omega) ht' h1 ln' ls' [] σ'' H' locs' la' b1 b2 b3 ⟨rfl, zpick_mem hp, b4⟩
            | false => rw [h2] at b4; exact b4.elim
          | false =>
            rw [h1] at b4
            obtain ⟨n', hn', hI⟩ := b4
            exact ih n' hn' t' ht' h1 ln' ls' [] σ'' H' locs' la' b1 b2 b3 ⟨rfl, zpick_mem hp, hI⟩
        · exact b4.elim
      · exact b4.elim
  have hjn := joins none (fun n' t _ => key n' t)
  have hlen : (lg_sl (As.map (zv G.2.2))).length = (lg_sl As).length := by
    clear hs h0 hj hc key joins hjn F hts hE hH B hn
    induction As with
    | nil => rfl
    | cons v r ih => cases v <;> simp_all [lg_sl, zv, Value.category]
  have hargs : ∀ (i : Nat) (vs : List Value), lv_args i (vs.map (zv G.2.2)) = (lv_args i vs).map fun q => (q.1, zv G.2.2 q.2) := by
    intro i vs
    induction vs generalizing i with
    | nil => rfl
    | cons v r ih => simp only [List.map_cons, lv_args, zv_cat, ih]
  have hl := lv_entry (As.map (zv G.2.2)) (n := M.2.2.1) (by rw [hlen]; exact hn)
  rw [lg_entry_eq]
  refine zwp_okH F (B := zB sh (zKt jn JI LI none 0)) (fun t' ht' ls' st' σ'' H' locs' la' b1 b2 b3 b4 => ?_) code hc 0 (lv_args 0 As) [] σ s.heap [] _ hH va_S.rf (by rw [← hargs]; exact hl) h0
  unfold zB at b4
  split at b4
  · split at b4
    · rename_i ln' hp
      unfold zKt at b4
      cases h1 : jn t' with
      | true =>
        rw [h1] at b4
        cases h2 : Nat.blt 0 t' with
        | true =>
          rw [h2] at b4
          exact hjn N t' (by omega) ht' h1 ln' ls' [] σ'' H' locs' la' b1 b2 b3 ⟨rfl, zpick_mem hp, b4⟩
        | false => rw [h2] at b4; exact b4.elim
      | false =>
        rw [h1] at b4
        obtain ⟨n', hn', hI⟩ := b4
        exact key n' t' ht' h1 ln' ls' [] σ'' H' locs' la' b1 b2 b3 ⟨rfl, zpick_mem hp, hI⟩
    · exact b4.elim
  · exact b4.elim
section ZOPSH
variable {Z : zZ} {M : zM} {QS : Option Value → zS → Prop} {pc : Nat}
theorem sH_iconst {i : Int} {x : Int32} (hd : decode M.2.1 pc = .ok (.iconst i, 1)) (hv : Int32.ofInt i = x) : zSndH Z M QS pc (o_ic x (pc + 1)) := by
  intro G p l e s m args below meth c F Q QX tr htr ls st σ H locs la hH hS hl hk
  exact lv_iconst F.1 F.2.1 hd hv (htr _ ls _ σ H locs la hH hS hl hk)
theorem sH_iload_n {k : Fin 4} {i : Nat} (hd : decode M.2.1 pc = .ok (.iload_n k, 1)) (hi : (k : Nat) = i) : zSndH Z M QS pc (o_iload i (pc + 1)) := by
  intro G p l e s m args below meth c F Q QX tr htr ls st σ H locs la hH hS hl hk
  unfold o_iload at hk
  split at hk
  · rename_i x hx
    exact lv_iload_n F.1 F.2.1 hd hi (zget_at hx hl) (htr _ ls _ σ H locs la hH hS hl hk)
  · exact hk.elim
theorem sH_aload_n {k : Fin 4} {i : Nat} (hd : decode M.2.1 pc = .ok (.aload_n k, 1)) (hi : (k : Nat) = i) : zSndH Z M QS pc (o_aload i (pc + 1)) := by
  intro G p l e s m args below meth c F Q QX tr htr ls st σ H locs la hH hS hl hk
  unfold o_aload at hk
  split at hk
  · rename_i x hx
    exact lv_aload_n F.1 F.2.1 hd hi (zget_at hx hl) (htr _ ls _ σ H locs la hH hS hl hk)
  · exact hk.elim
theorem sH_istore_n {k : Fin 4} {i : Nat} (hd : decode M.2.1 pc = .ok (.istore_n k, 1)) (hi : (k : Nat) = i) (hb : i < M.2.2.1) : zSndH Z M QS pc (o_istore i (pc + 1)) := by
  intro G p l e s m args below meth c F Q QX tr htr ls st σ H locs la hH hS hl hk
  unfold o_istore at hk
  split at hk
  · exact lv_istore_n F.1 F.2.1 hd hi hl hb rfl (fun la' h' => htr _ _ _ σ H locs la' hH hS (zhas_sub h' zst1_sub) hk)
  · exact hk.elim
theorem sH_astore_n {k : Fin 4} {i : Nat} (hd : decode M.2.1 pc = .ok (.astore_n k, 1)) (hi : (k : Nat) = i) (hb : i < M.2.2.1) : zSndH Z M QS pc (o_astore i (pc + 1)) := by
  intro G p l e s m args below meth c F Q QX tr htr ls st σ H locs la hH hS hl hk
  unfold o_astore at hk
  split at hk
  · exact lv_astore_n F.1 F.2.1 hd hi hl hb rfl (fun la' h' => htr _ _ _ σ H locs la' hH hS (zhas_sub h' zst1_sub) hk)
  · exact hk.elim
theorem sH_iinc {i : Nat} {a : Int} {d : Int32} (hd : decode M.2.1 pc = .ok (.iinc i a, 3)) (hv : Int32.ofInt a = d) (hb : i < M.2.2.1) : zSndH Z M QS pc (o_iinc i d (pc + 3)) := by
  intro G p l e s m args below meth c F Q QX tr htr ls st σ H locs la hH hS hl hk
  unfold o_iinc at hk
  split at hk
  · rename_i x hx
    have hm : (i, Value.int x) ∈ (ls.map fun q => (q.1, zv G.2.2 q.2)) := List.mem_map.mpr ⟨(i, .int x), zget_mem hx, rfl⟩
    obtain ⟨j, hj⟩ := List.getElem?_of_mem hm
    exact lv_iinc F.1 F.2.1 hd hl hj (by rw [hv]) hb rfl (fun la' h' => htr _ _ _ σ H locs la' hH hS (zhas_sub h' zst1_sub) hk)
  · exact hk.elim
theorem sH_iadd (hd : decode M.2.1 pc = .ok (.iadd, 1)) : zSndH Z M QS pc (o_ibin (fun x y => x + y) (pc + 1)) := by
  intro G p l e s m args below meth c F Q QX tr htr ls st σ H locs la hH hS hl hk
  unfold o_ibin at hk
  split at hk
  · exact lv_iadd F.1 F.2.1 hd (htr _ ls _ σ H locs la hH hS hl hk)
  · exact hk.elim
theorem sH_isub (hd : decode M.2.1 pc = .ok (.isub, 1)) : zSndH Z M QS pc (o_ibin (fun x y => x - y) (pc + 1)) := by
  intro G p l e s m args below meth c F Q QX tr htr ls st σ H locs la hH hS hl hk
  unfold o_ibin at hk
  split at hk
  · exact lv_isub F.1 F.2.1 hd (htr _ ls _ σ H locs la hH hS hl hk)
  · exact hk.elim
theorem sH_icmp_ge {off : Int} {t : Nat} (hd : decode M.2.1 pc = .ok (.if_icmp .ge off, 3)) (ht : (pc : Int) + off = (t : Int)) : zSndH Z M QS pc (o_icmp (fun x y => y ≤ x) t (pc + 3)) := by
  intro G p l e s m args below meth c F Q QX tr htr ls st σ H locs la hH hS hl hk
  unfold o_icmp at hk
  split at hk
  · exact lv_icmp_ge F.1 F.2.1 hd ht (fun h => htr _ ls _ σ H locs la hH hS hl (hk.1 h)) (fun h => htr _ ls _ σ H locs la hH hS hl (hk.2 h))
  · exact hk.elim
theorem sH_goto {off : Int} {t : Nat} (hd : decode M.2.1 pc = .ok (.goto off, 3)) (ht : (pc : Int) + off = (t : Int)) : zSndH Z M QS pc (o_goto t) := by
  intro G p l e s m args below meth c F Q QX tr htr ls st σ H locs la hH hS hl hk
  exact lv_goto F.1 F.2.1 hd ht (htr _ ls _ σ H locs la hH hS hl hk)
theorem sH_getf {ci j idx N : Nat} {C : String} {T : u_T} {ty : Nat → FieldType} (hC : zCls Z ci C T N ty) (hF : zFld M.1.cls idx T j) (hj : j < N) (hd : decode M.2.1 pc = .ok (.getfield idx, 3)) : zSndH Z M QS pc (o_getf Z.2.1 ci j (pc + 3)) := by
  intro G p l e s m args below meth c F Q QX tr htr ls st σ H locs la hH hS hl hk
  unfold o_getf at hk
  split at hk
  rotate_left
  · exact hk.elim
  rename_i k r
  split at hk
  rotate_left
  · exact hk.elim
  · rename_i o hz
    have hx : Z.2.1[k]? = some (.inl o) := by rw [← zat_eq]; assumption
    cases hb : Nat.beq o.1 ci with
    | false => rw [hb] at hk; exact hk.elim
    | true =>
      rw [hb] at hk
      have ho : o.1 = ci := Nat.eq_of_beq_eq_true hb
      have he : (zW Z G σ)[k]? = some (G.2.2 k, .inr (ci, o.2.mapIdx fun j k' => zv G.2.2 (zsl σ k j k'))) := by
        have q := zW_get (G := G) (σ := σ) hx
        rw [← ho]; exact q
      split at hk
      · rename_i κ hκ
        rw [zat_eq] at hκ
        have hv : (o.2.mapIdx fun j k' => zv G.2.2 (zsl σ k j k'))[j]? = some (zv G.2.2 (zsl σ k j κ)) := by simp [List.getElem?_mapIdx, hκ]
        rcases hF with hF | ⟨host, hF⟩
        · exact va_get F.1 F.2.1 F.2.2.2.2.2.1 (fun w hw => List.mem_cons_of_mem _ (hC.2.1 w hw)) F.2.2.2.2.1 F.2.2.2.2.2.2.1.1 hH k he hC.1 j hj (F.2.2.2.2.2.1 _ (List.mem_cons_of_mem _ hF)) (fun _ h => h) hv hd (htr _ ls _ σ H locs la hH hS hl hk)
        · exact va_getN F.1 F.2.1 F.2.2.2.2.2.1 (fun w hw => List.mem_cons_of_mem _ (hC.2.1 w hw)) F.2.2.2.2.1 F.2.2.2.2.2.2.1.1 hH k he hC.1 j hj (va_Nw.use rfl (F.2.2.2.2.2.2.1.2.2.1 _ hF)) (fun _ h => h) hv hd (htr _ ls _ σ H locs la hH hS hl hk)
      · exact hk.elim
theorem sH_putI {ci j idx N : Nat} {C : String} {T : u_T} {ty : Nat → FieldType} (hC : zCls Z ci C T N ty) (hF : zFld M.1.cls idx T j) (hj : j < N) (hty : ty j = .int) (hfin : (T j).2.2.2 = false) (hd : decode M.2.1 pc = .ok (.putfield idx, 3)) : zSndH Z M QS pc (o_putI Z.2.1 ci j (pc + 3)) := by
  intro G p l e s m args below meth c F Q QX tr htr ls st σ H locs la hH hS hl hk
  unfold o_putI at hk
  split at hk
  rotate_left
  · exact hk.elim
  rename_i x k r
  split at hk
  rotate_left
  · exact hk.elim
  · rename_i o hz
    have hx : Z.2.1[k]? = some (.inl o) := by rw [← zat_eq]; assumption
    cases hb : Nat.beq o.1 ci with
    | false => rw [hb] at hk; exact hk.elim
    | true =>
      rw [hb] at hk
      have ho : o.1 = ci := Nat.eq_of_beq_eq_true hb
      have he : (zW Z G σ)[k]? = some (G.2.2 k, .inr (ci, o.2.mapIdx fun j k' => zv G.2.2 (zsl σ k j k'))) := by
        have q := zW_get (G := G) (σ := σ) hx
        rw [← ho]; exact q
      split at hk
      · rename_i κ hκ
        rw [zat_eq] at hκ
        cases hb2 : Nat.beq κ.1 0 with
        | false => rw [hb2] at hk; exact hk.elim
        | true =>
          rw [hb2] at hk
          have hκ0 : κ.1 = 0 := Nat.eq_of_beq_eq_true hb2
          have hpf : parseFieldDescriptor (T j).2.2.1 = some .int := by rw [← hty]; exact hC.2.2.1 j hj
          have hlen : j < (o.2.mapIdx fun j k' => zv G.2.2 (zsl σ k j k')).length := by
            have := (List.getElem?_eq_some_iff.mp hκ).1
            simpa using this
          have hset : (zW Z G σ).set k (G.2.2 k, .inr (ci, (o.2.mapIdx fun j k' => zv G.2.2 (zsl σ k j k')).set j (.int x))) = zW Z G (zsI σ k j x) := by
            refine zW_set hx ?_ zsI_ne
            simp only [zcell, ho]
            rw [zfs_set (σ := σ) (τ := zsI σ k j x) hκ (v := .int x) (by simp [zsl, hκ0, zsI, zv]) (fun i hi => by simp [zsI, hi])]
          have hnn : narrow .int (.int x) = .int x := rfl
          have hff : fits .int (.int x) = true := rfl
          rcases hF with hF | ⟨host, hF⟩
          · exact va_put F.1 F.2.1 F.2.2.2.2.2.1 (fun w hw => List.mem_cons_of_mem _ (hC.2.1 w hw)) ty hC.2.2.1 hC.2.2.2 F.2.2.2.2.1 F.2.2.2.2.2.2.1.1 hH (zW_D F.2.2.2.2.2.2.1.2.1) hS k he hC.1 j hj (F.2.2.2.2.2.1 _ (List.mem_cons_of_mem _ hF)) (fun _ h => h) hfin hpf hnn hff hlen hd
              (fun H1 locs1 hP1 _ hS1 => htr _ ls _ _ H1 locs1 la (by show va_P G.1 Z.1 (zW Z G (zsI σ k j x)) H1; rw [← hset]; exact hP1) hS1 hl (hk _ rfl))
          · exact va_putN F.1 F.2.1 F.2.2.2.2.2.1 (fun w hw => List.mem_cons_of_mem _ (hC.2.1 w hw)) ty hC.2.2.1 hC.2.2.2 F.2.2.2.2.1 F.2.2.2.2.2.2.1.1 hH (zW_D F.2.2.2.2.2.2.1.2.1) hS k he hC.1 j hj (va_Nw.use rfl (F.2.2.2.2.2.2.1.2.2.1 _ hF)) (fun _ h => h) hfin hpf hnn hff hlen hd
              (fun H1 locs1 hP1 _ hS1 => htr _ ls _ _ H1 locs1 la (by show va_P G.1 Z.1 (zW Z G (zsI σ k j x)) H1; rw [← hset]; exact hP1) hS1 hl (hk _ rfl))
      · exact hk.elim
theorem sH_bald (hd : decode M.2.1 pc = .ok (.baload, 1)) : zSndH Z M QS pc (o_ald Z.2.1 .byte (pc + 1)) := by
  intro G p l e s m args below meth c F Q QX tr htr ls st σ H locs la hH hS hl hk
  unfold o_ald at hk
  split at hk
  rotate_left
  · exact hk.elim
  rename_i i k r
  split at hk
  rotate_left
  · exact hk.elim
  · rename_i a hz
    have hx : Z.2.1[k]? = some (.inr a) := by rw [← zat_eq]; assumption
    obtain ⟨aty, an⟩ := a
    cases hb : zty aty .byte with
    | false => simp only [hb] at hk; exact hk.elim
    | true =>
      simp only [hb] at hk
      have hat : aty = .byte := zty_eq hb
      subst hat
      have he := zW_get (G := G) (σ := σ) hx
      exact va_bald F.1 F.2.1 F.2.2.2.2.2.2.1.1 hH k 2 he rfl hk.1 hd (htr _ ls _ σ H locs la hH hS hl hk.2)
theorem sH_bast (hd : decode M.2.1 pc = .ok (.bastore, 1)) : zSndH Z M QS pc (o_ast Z.2.1 .byte (fun x => vp_nar .byte x) (pc + 1)) := by
  intro G p l e s m args below meth c F Q QX tr htr ls st σ H locs la hH hS hl hk
  unfold o_ast at hk
  split at hk
  rotate_left
  · exact hk.elim
  rename_i x i k r
  split at hk
  rotate_left
  · exact hk.elim
  · rename_i a hz
    have hx : Z.2.1[k]? = some (.inr a) := by rw [← zat_eq]; assumption
    obtain ⟨aty, an⟩ := a
    cases hb : zty aty .byte with
    | false => simp only [hb] at hk; exact hk.elim
    | true =>
      simp only [hb] at hk
      have hat : aty = .byte := zty_eq hb
      subst hat
      have he := zW_get (G := G) (σ := σ) hx
      refine va_bast F.1 F.2.1 F.2.2.2.2.2.2.1.1 hH (zW_D F.2.2.2.2.2.2.1.2.1) hS k 2 he rfl hk.1 hd (fun H1 locs1 hP1 _ hS1 => htr _ ls _ _ H1 locs1 la ?_ hS1 hl (hk.2 _ rfl))
      have hset := zW_set (G := G) (σ := σ) (τ := zsI σ k i.toNatClampNeg (vp_nar .byte x)) (e := .inl (G.2.1 .byte, an, .inl (upd (σ.1 k) i.toNatClampNeg (vp_nar .byte x)))) hx (by
        have q : (zsI σ k i.toNatClampNeg (vp_nar .byte x)).1 k = upd (σ.1 k) i.toNatClampNeg (vp_nar .byte x) := by funext b; simp [zsI, upd]
        simp only [zcell, q]) zsI_ne
      rw [hset] at hP1
      exact hP1
theorem sH_iret (hr : M.2.2.2.1 = some .int) (hd : decode M.2.1 pc = .ok (.ireturn, 1)) : zSndH Z M QS pc o_iret := by
  intro G p l e s m args below meth c F Q QX tr htr ls st σ H locs la hH hS hl hk
  unfold o_iret at hk
  split at hk
  · exact vx_ret (W.iret F.1 F.2.1 (F.2.2.1.trans hr) (fun t ht hW => ⟨⟨some (.int _), σ, rfl, Or.inl ⟨hk, by rw [ht]; exact hH⟩⟩, hS.F ht⟩) hS.2.2 hd F.2.2.2.2.2.2.2.1)
  · exact hk.elim
end ZOPSH
