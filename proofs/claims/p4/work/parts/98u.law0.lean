/-! the law: its calls -/
def lwA (s : State) : Nat → Prop := fun q => s.heap.size ≤ q
/-- the two worlds, apart, behind the law's start -/
def lwEnv (s : State) (GC GM : zG) : Prop := zEnv zZC GC s ∧ zEnv zZM GM s ∧ (∀ i, i < 38 → s.heap.size ≤ GC.2.2 i) ∧ (∀ j, j < 100 → s.heap.size ≤ GM.2.2 j) ∧ ∀ i j : Nat, i < 38 → j < 100 → GC.2.2 i ≠ GM.2.2 j
theorem lw_rl {k : Nat} (h : k < 100) : zrl k < 100 := by
  unfold zrl
  by_cases h1 : k = 1
  · rw [if_pos h1]; decide
  · rw [if_neg h1]
    by_cases h2 : k = 2
    · rw [if_pos h2]; decide
    · rw [if_neg h2]
      by_cases h3 : 14 ≤ k ∧ k ≤ 56
      · rw [if_pos h3]; omega
      · rw [if_neg h3]
        by_cases h4 : 57 ≤ k ∧ k ≤ 99
        · rw [if_pos h4]; omega
        · rw [if_neg h4]; exact h
theorem zGsw_env {s : State} {GM : zG} (h : zEnv zZM GM s) : zEnv zZM (zGsw GM) s := by
  obtain ⟨h1, h2, h3, h4⟩ := h
  refine ⟨h1, fun i j hi hj e => ?_, h3, ?_⟩
  · have e2 := h2 (zrl i) (zrl j) (lw_rl hi) (lw_rl hj) e
    rw [← zrl_zrl (k := i), e2, zrl_zrl]
  · refine zexM_narrow (A := zA zZM GM) (fun q hq => ?_) (show zexM (zGsw GM) (zA zZM GM) s from h4)
    obtain ⟨c, hc, rfl⟩ := hq
    exact ⟨zrl c, lw_rl hc, rfl⟩
theorem lwEnv_sw {s : State} {GC GM : zG} (h : lwEnv s GC GM) : lwEnv s GC (zGsw GM) :=
  ⟨h.1, zGsw_env h.2.1, h.2.2.1, fun j hj => h.2.2.2.1 _ (lw_rl hj), fun i j hi hj => h.2.2.2.2 i _ hi (lw_rl hj)⟩
theorem lw_env {Z : zZ} {G : zG} {s U : State} {H : Heap} {locs : List Loc} (hZ : zEok Z) (h : zEnv Z G s) (hU : U.heap = H) (hW : s.WarmedH U.vm) (hS : va_S (lwA s) s.heap H locs) : zEnv Z G U :=
  ⟨va_K.moved hW.alike h.1, h.2.1, fun w hw => zNest_warm (List.mem_filter.mp hw).2 hW (h.2.2.1 w hw), hZ.2 G _ s U h.2.2.2 hW (by rw [hU]; exact hS.1) (fun q h1 _ => by rw [hU]; exact hS.2.1 q h1 (Nat.not_le.mpr h1))⟩
theorem lw_good {w1 : Cond} (h : w1 ∈ zWS) : GoodIn lw_tbl (w1 :: zWS) := by
  intro w hw
  have hw' : w ∈ zWS := by
    rcases List.mem_cons.mp hw with q | q
    · rw [q]; exact h
    · exact q
  exact ⟨lwIn hw', good_of_word (List.mem_filter.mp hw').2⟩
/-- the other side's world stays -/
theorem lw_keep {Z Z' : zZ} {G G' : zG} {σ : zS} {H H1 : Heap} (hH : zHd Z G σ H) (hk : ∀ q : Nat, q < H.size → ¬ zA Z' G' q → H1[q]? = H[q]?) (hd : ∀ i, i < Z.2.1.length → ¬ zA Z' G' (G.2.2 i)) : zHd Z G σ H1 := by
  refine va_P.kept hH (fun k q h => ?_)
  obtain ⟨hl, e⟩ := zW_at h
  exact hk q.1 ((hH k q h).lt) (by rw [e]; exact hd k hl)
section LW
variable {p : Program} {l : Launch} {e : Env} {R : Room} {s : State} {m : MethodId} {args : Array Value} {below : List Frame} {meth : Method} {c : Code} {H : Heap} {locs : List Loc} {cells slots : Nat} {Q : State → Prop} {cc : ByteArray} {ls : Array Slot} {pc nL : Nat}
theorem lw_call (hx : p.tables.exec = Jvm.exec) (hb : c.code = cc) (hml : c.maxLocals = nL) {own : String} (hown : s.vm.findClass own = some m.cls) (hts : ∀ w ∈ lw_tbl, w.before args s = true) {Z : zZ} (hZ : zEok Z) {G : zG} {σ : zS} (hE : zEnv Z G s) (hge : ∀ i, i < Z.2.1.length → s.heap.size ≤ G.2.2 i) (hH : zHd Z G σ H) (hS : va_S (lwA s) s.heap H locs)
    {M : zM} {As : List Value} {K : Int32 → zS → Prop} (hM : zCT Z M (.ref 0 :: As) σ (zQi K) (fun _ => False)) {ci N : Nat} {T : u_T} {ty : Nat → FieldType} (hC : zCls Z ci M.1.cls T N ty) {ks : List zK} (h0 : Z.2.1[0]? = some (.inl (ci, ks))) (hcal : zCal M) (hv : Cond.instanceMethod M.1 ∈ zWS ∧ Cond.selects M.1.cls M.1 M.1 ∈ zWS) {na : Nat} (hp : (parseMethodDescriptor M.1.desc).map (fun d => d.parameters.length) = some na) (hn : As.length = na)
    (hR : M.2.2.2.2 + 1 ≤ R.frames ∧ 8 + (M.2.2.1 + 11) + 40 * M.2.2.2.2 ≤ R.locals) (hf : cells ≤ R.cells ∧ slots ≤ R.slots) {idx : Nat} (hl : Cond.methodLink own idx M.1 ∈ zWS) (hsize : ls.size = nL) {rest st : List Value} (hW : (rest.map fun v => v.category).sum ≤ 8) (hst : st = (As.map (zv G.2.2)).reverse ++ .ref (G.2.2 0) :: rest) (hdg : decode cc pc = .ok (.invokevirtual idx, 3))
    (kk : ∀ (r : Int32) (σ' : zS) (H1 : Heap) (locs1 : List Loc), K r σ' → zHd Z G σ' H1 → (∀ q : Nat, q < H.size → ¬ zA Z G q → H1[q]? = H[q]?) → va_S (lwA s) s.heap H1 locs1 → W p l e R s m args below meth c H1 locs1 cells slots Q (F0 m (pc + 3) ls (.int r :: rest))) :
    W p l e R s m args below meth c H locs cells slots Q (F0 m pc ls st) := by
  subst hst
  have he : (zW Z G σ)[0]? = some (G.2.2 0, .inr (ci, ks.mapIdx fun j k' => zv G.2.2 (zsl σ 0 j k'))) := zW_get (G := G) (σ := σ) h0
  have hr : vx_Run p l e R s m args below meth c H locs cells slots 0 0 (F0 m pc ls ((As.map (zv G.2.2)).reverse ++ .ref (G.2.2 0) :: rest)) rest (zQc Z G (zQi K) (Value.ref (G.2.2 0) :: As.map (zv G.2.2)).toArray) (zXC Z G (fun _ => False)) (zA Z G) :=
    vx_runV (As := As.map (zv G.2.2)) (rest := rest) ⟨hx, hb, hml, hown, hts⟩ (hM l G) ⟨callB_of na hts (lw_good hcal.1) rfl rfl rfl (hts _ (lwIn hcal.2.1)) (hts _ (lwIn hl)) ⟨hcal.2.2.1, hcal.2.2.2, hp⟩ hR, hts _ (lwIn hv.1), hts _ (lwIn hv.2)⟩ ⟨zPc_blind hZ, va_recv hE.1 hH hC.1 he, fun U hU hW => ⟨rfl, by rw [hU]; exact hH, lw_env hZ hE hU hW hS⟩⟩ rfl (by rw [List.length_map]; exact hn) hsize rfl (lv_room hW) hdg ⟨hf.1, hf.2⟩
  have hA : ∀ q, zA Z G q → lwA s q := fun q hq => by
    obtain ⟨i, hi, rfl⟩ := hq
    exact hge i hi
  intro T hT X
  rcases hr T hT X with ⟨v, st₀, t, T', L, h0, X', hL, e1, e2, ⟨⟨v', σ', hv, hq, hH'⟩, hF⟩, st⟩ | ⟨q, st₀, t, T', L, E, ce, h0, X', hL, e1, e2, ⟨hE, ⟨σ', hq, hH'⟩, hF⟩, hce, hcv, hcl, st⟩
  · cases v' with
    | none => exact hq.elim
    | some x =>
      cases x with
      | int x =>
        cases hv
        obtain ⟨k1, k2, k3⟩ := vx_keep h0 e1 hS (fun q _ h => hA q h) hA hL hF
        obtain ⟨t2, a1, b1⟩ := kk x σ' T'.heap (locs ++ L) hq (by rw [e1]; exact hH') k2 k3 T' rfl X'
        exact ⟨t2, st t2 a1, b1⟩
      | _ => exact hq.elim
  · exact hq.elim
/-- a call of the reference's check: the modules' parts may have been changed over -/
theorem lw_callH (hx : p.tables.exec = Jvm.exec) (hb : c.code = cc) (hml : c.maxLocals = nL) {own : String} (hown : s.vm.findClass own = some m.cls) (hts : ∀ w ∈ lw_tbl, w.before args s = true) {Z : zZ} (hZ : zEok Z) {G : zG} {σ : zS} (hE : zEnv Z G s) (hge : ∀ i, i < Z.2.1.length → s.heap.size ≤ G.2.2 i) (hH : zHd Z G σ H) (hS : va_S (lwA s) s.heap H locs)
    {M : zM} {As : List Value} {K : Int32 → zS → Prop} (hM : zCTH Z M (.ref 0 :: As) σ (zQi K) (zQi K) (fun _ => False)) {ci N : Nat} {T : u_T} {ty : Nat → FieldType} (hC : zCls Z ci M.1.cls T N ty) {ks : List zK} (h0 : Z.2.1[0]? = some (.inl (ci, ks))) (hcode : Cond.codeWith M.1 M.2.1 M.2.2.1 M.2.2.2.1 zHH ∈ zWS) (hini : Cond.initialized M.1.cls ∈ zWS) (hne : M.1.cls ≠ "java/lang/invoke/MethodHandle" ∧ M.1.cls ≠ "java/lang/invoke/VarHandle") (hv : Cond.instanceMethod M.1 ∈ zWS ∧ Cond.selects M.1.cls M.1 M.1 ∈ zWS) {na : Nat} (hp : (parseMethodDescriptor M.1.desc).map (fun d => d.parameters.length) = some na) (hn : As.length = na)
    (hR : M.2.2.2.2 + 1 ≤ R.frames ∧ 8 + (M.2.2.1 + 11) + 40 * M.2.2.2.2 ≤ R.locals) (hf : cells ≤ R.cells ∧ slots ≤ R.slots) {idx : Nat} (hl : Cond.methodLink own idx M.1 ∈ zWS) (hsize : ls.size = nL) {rest st : List Value} (hW : (rest.map fun v => v.category).sum ≤ 8) (hst : st = (As.map (zv G.2.2)).reverse ++ .ref (G.2.2 0) :: rest) (hdg : decode cc pc = .ok (.invokevirtual idx, 3))
    (kk : ∀ (r : Int32) (σ' : zS) (H1 : Heap) (locs1 : List Loc) (G' : zG), (G' = G ∨ G' = zGsw G) → K r σ' → zHd Z G' σ' H1 → (∀ q : Nat, q < H.size → ¬ zA Z G q → H1[q]? = H[q]?) → va_S (lwA s) s.heap H1 locs1 → W p l e R s m args below meth c H1 locs1 cells slots Q (F0 m (pc + 3) ls (.int r :: rest))) :
    W p l e R s m args below meth c H locs cells slots Q (F0 m pc ls st) := by
  subst hst
  have he : (zW Z G σ)[0]? = some (G.2.2 0, .inr (ci, ks.mapIdx fun j k' => zv G.2.2 (zsl σ 0 j k'))) := zW_get (G := G) (σ := σ) h0
  have hr : vx_Run p l e R s m args below meth c H locs cells slots 0 0 (F0 m pc ls ((As.map (zv G.2.2)).reverse ++ .ref (G.2.2 0) :: rest)) rest (zQcH Z G (zQi K) (zQi K) (Value.ref (G.2.2 0) :: As.map (zv G.2.2)).toArray) (zXC Z G (fun _ => False)) (zA Z G) :=
    vx_runVX (hh := zHH) (As := As.map (zv G.2.2)) (rest := rest) ⟨hx, hb, hml, hown, hts⟩ (hM l G) ⟨⟨rfl, rfl, hR.1, hR.2, pay_in hts (lw_good hcode), List.mem_cons_self⟩, hts _ (lwIn hcode), hts _ (lwIn hini), hne, fun sig h => by rw [h] at hp; exact (Option.some.inj hp).symm, hts _ (lwIn hl), hts _ (lwIn hv.1), hts _ (lwIn hv.2)⟩ ⟨zPc_blind hZ, va_recv hE.1 hH hC.1 he, fun U hU hW => ⟨rfl, by rw [hU]; exact hH, lw_env hZ hE hU hW hS⟩⟩ rfl (by rw [List.length_map]; exact hn) hsize rfl (lv_room hW) hdg ⟨hf.1, hf.2⟩
  have hA : ∀ q, zA Z G q → lwA s q := fun q hq => by
    obtain ⟨i, hi, rfl⟩ := hq
    exact hge i hi
  intro T hT X
  rcases hr T hT X with ⟨v, st₀, t, T', L, h0, X', hL, e1, e2, ⟨⟨v', σ', hv, hq⟩, hF⟩, st⟩ | ⟨q, st₀, t, T', L, E, ce, h0, X', hL, e1, e2, ⟨hE, ⟨σ', hq, hH'⟩, hF⟩, hce, hcv, hcl, st⟩
  · obtain ⟨k1, k2, k3⟩ := vx_keep h0 e1 hS (fun q _ h => hA q h) hA hL hF
    cases v' with
    | none => rcases hq with ⟨hq, -⟩ | ⟨hq, -⟩ <;> exact hq.elim
    | some x =>
      cases x with
      | int x =>
        cases hv
        rcases hq with ⟨hq, hH'⟩ | ⟨hq, hH'⟩
        · obtain ⟨t2, a1, b1⟩ := kk x σ' T'.heap (locs ++ L) G (Or.inl rfl) hq (by rw [e1]; exact hH') k2 k3 T' rfl X'
          exact ⟨t2, st t2 a1, b1⟩
        · obtain ⟨t2, a1, b1⟩ := kk x σ' T'.heap (locs ++ L) (zGsw G) (Or.inr rfl) hq (by rw [e1]; exact hH') k2 k3 T' rfl X'
          exact ⟨t2, st t2 a1, b1⟩
      | _ => rcases hq with ⟨hq, -⟩ | ⟨hq, -⟩ <;> exact hq.elim
  · exact hq.elim
end LW
