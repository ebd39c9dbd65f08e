/-! constructors: the arrays that are made, one behind another: the field, its address, the type, the size -/
def modFsL : List (Nat × Nat × FieldType × Nat) → List Value → List Value
  | [], fs => fs
  | x :: r, fs => modFsL r (fs.set x.1 (.ref x.2.1))
def modLL (dA : FieldType → ClassId) : List (Nat × Nat × FieldType × Nat) → va_W → va_W
  | [], L => L
  | x :: r, L => modLL dA r (L ++ [(x.2.1, .inl (dA x.2.2.1, kc_a0 x.2.2.1 x.2.2.2))])
/-- an object and its arrays -/
def kc_arrs (dA : FieldType → ClassId) (ci : Nat) (fz : List Value) (TN : List (Nat × FieldType × Nat)) (h0 : Nat) (w : va_W) : Prop :=
  ∃ u : List (Nat × Nat × FieldType × Nat), u.map (fun x => (x.1, x.2.2)) = TN ∧ w = (h0, .inr (ci, modFsL u fz)) :: modLL dA u []
/-! constructors: one object alone at the start, behind it a world that a predicate tells of -/
def kc_W (l : Launch) (D : va_G) (cl : List vw_C) (dA : FieldType → ClassId) (y : MethodName) (cc : ByteArray) (maxL d mc ms ci : Nat) (fz As : List Value) (post : Nat → va_W → Prop) (h0 sz : Nat) : Prop :=
  Met l y (Cond.code y cc maxL none :: zWS) { frames := d, cells := mc, slots := ms, locals := 40 * d } (va_Pc (.ref h0 :: As) (fun U => U.heap.size = sz ∧ va_P D cl [(h0, .inr (ci, fz))] U.heap ∧ va_K D cl (zT dA) U ∧ va_D (fun _ => True) [(h0, .inr (ci, fz))] ∧ ∀ w ∈ zNW, va_Nw w U)) (va_Qv (post h0) (fun u t => va_P D cl u t.heap ∧ va_D (va_A [(h0, .inr (ci, fz))] sz) u) (va_A [(h0, .inr (ci, fz))] sz)) mc ms (va_A [(h0, .inr (ci, fz))] sz)
theorem kc_blind {D : va_G} {cl : List vw_C} {dA : FieldType → ClassId} {ci h0 sz : Nat} {fz As : List Value} : FrameBlind (va_Pc (.ref h0 :: As) (fun U => U.heap.size = sz ∧ va_P D cl [(h0, .inr (ci, fz))] U.heap ∧ va_K D cl (zT dA) U ∧ va_D (fun _ => True) [(h0, .inr (ci, fz))] ∧ ∀ w ∈ zNW, va_Nw w U)) :=
  fun a U g mk q => ⟨q.1, q.2.1, q.2.2.1, va_K.moved (u := U) (U := U.calling g mk a) (Vm.Alike.refl U.vm) q.2.2.2.1, q.2.2.2.2.1, fun w hw => va_Nw.same (zNest_tab (List.mem_filter.mp hw).2) (show U.vm = (U.calling g mk a).vm from rfl) (q.2.2.2.2.2 w hw)⟩
theorem kc_last {ws0 : va_W} {x : Nat × va_E} : (ws0 ++ [x])[ws0.length]? = some x := by
  rw [List.getElem?_append_right (Nat.le_refl _), Nat.sub_self]; rfl
theorem kc_one {x y : Nat × va_E} {k : Nat} (h : [x][k]? = some y) : k = 0 ∧ y = x := by
  have hk : k < 1 := (List.getElem?_eq_some_iff.mp h).1
  have hk0 : k = 0 := by omega
  subst hk0
  cases h
  exact ⟨rfl, rfl⟩
theorem kc_join {A : Nat → Prop} {D : va_G} {cl : List vw_C} {ws0 u : va_W} {q : Nat} {e : va_E} {H H1 : Heap} (hP : va_P D cl (ws0 ++ [(q, e)]) H) (hD : va_D A (ws0 ++ [(q, e)])) (hk : ∀ x : Nat, x < H.size → ¬ va_A [(q, e)] H.size x → H1[x]? = H[x]?) (hF : ∀ x, va_A [(q, e)] H.size x → A x) (hP1 : va_P D cl u H1) (hD1 : va_D (va_A [(q, e)] H.size) u) :
    va_P D cl (ws0 ++ u) H1 ∧ va_D A (ws0 ++ u) := by
  have up : ∀ {k : Nat} {x : Nat × va_E}, ws0[k]? = some x → (ws0 ++ [(q, e)])[k]? = some x := fun {k x} h => by rw [List.getElem?_append_left (List.getElem?_eq_some_iff.mp h).1]; exact h
  have apart : ∀ (k : Nat) (x : Nat × va_E), ws0[k]? = some x → x.1 < H.size ∧ ¬ va_A [(q, e)] H.size x.1 := by
    intro k x h
    have hl := (hP k x (up h)).lt
    refine ⟨hl, fun z => ?_⟩
    rcases z with ⟨k2, e2, h2⟩ | h2
    · obtain ⟨-, h3⟩ := kc_one h2
      have h4 := hD.1 k ws0.length x (q, e) (up h) kc_last (Prod.mk.inj h3).1
      have h5 := (List.getElem?_eq_some_iff.mp h).1
      omega
    · omega
  have hD0 : va_D A ws0 := ⟨fun i j x y h1 h2 h3 => hD.1 i j x y (up h1) (up h2) h3, fun k x h => hD.2 k x (up h)⟩
  refine ⟨va_P.app (fun k x h => (hP k x (up h)).kept (hk x.1 (apart k x h).1 (apart k x h).2)) hP1, va_D.app hD0 (hD1.weaken (fun k x _ h => hF x.1 h)) (fun i j x y hx hy hxy => (apart i x hx).2 (by rw [hxy]; exact hD1.2 j y hy))⟩
section KC2
variable {p : Program} {l : Launch} {e : Env} {R : Room} {s : State} {m : MethodId} {args : Array Value} {below : List Frame} {meth : Method} {c : Code} {Q : State → Prop} {cc : ByteArray} {D : va_G} {cl : List vw_C} {A : Nat → Prop} {H0 H : Heap} {locs : List Loc} {cells slots : Nat} {ls : Array Slot} {dA : FieldType → ClassId}
theorem kc_call (hx : p.tables.exec = Jvm.exec) (hb : c.code = cc) {own : String} {nL : Nat} (hml : c.maxLocals = nL) {w0 : Cond} (hts : ∀ w ∈ w0 :: zWS, w.before args s = true) (hown : s.vm.findClass own = some m.cls) (hNW : ∀ w ∈ zNW, va_Nw w s) (hK : va_K D cl (zT dA) s) (hA : ∀ q, H0.size ≤ q → A q)
    {ws0 : va_W} {q ci : Nat} {fz : List Value} (hP : va_P D cl (ws0 ++ [(q, .inr (ci, fz))]) H) (hD : va_D A (ws0 ++ [(q, .inr (ci, fz))])) (hS : va_S A H0 H locs) {y : MethodName} {yc : ByteArray} {yL d mc ms n idx : Nat} {host : String} {As rest : List Value} {post : Nat → va_W → Prop}
    (hM : kc_W l D cl dA y yc yL d mc ms ci fz As post q H.size) (hin : Cond.code y yc yL none ∈ zWS) (hlink : Cond.methodLinkNest own idx y host ∈ zNW) (hini : Cond.initialized y.cls ∈ zWS) (hinst : Cond.instanceMethod y ∈ zWS) (hy1 : y.name = "<init>")
    (hd : y.cls ≠ "java/lang/invoke/MethodHandle" ∧ y.cls ≠ "java/lang/invoke/VarHandle" ∧ (parseMethodDescriptor y.desc).map (fun d => d.parameters.length) = some n) (hn : As.length = n) (hR : d + 1 ≤ R.frames ∧ 8 + (yL + 11) + 40 * d ≤ R.locals) (hsize : ls.size = nL) (hW : (rest.map fun v => v.category).sum ≤ 8) {pc : Nat} (hdg : decode cc pc = .ok (.invokespecial idx, 3)) (hf : cells + mc ≤ R.cells ∧ slots + ms ≤ R.slots) {st : List Value} (hst : st = As.reverse ++ .ref q :: rest)
    (kk : ∀ (u : va_W) (H1 : Heap) (locs1 : List Loc), post q u → va_P D cl (ws0 ++ u) H1 → va_D A (ws0 ++ u) → va_S A H0 H1 locs1 → W p l e R s m args below meth c H1 locs1 (cells + mc) (slots + ms) Q (F0 m (pc + 3) ls rest)) :
    W p l e R s m args below meth c H locs cells slots Q (F0 m pc ls st) := by
  subst hst
  have hPc : va_P D cl [(q, .inr (ci, fz))] H := fun k x h => by obtain ⟨-, rfl⟩ := kc_one h; exact hP _ _ kc_last
  have hDc : va_D (fun _ => True) [((q, .inr (ci, fz)) : Nat × va_E)] := ⟨fun i j x y h1 h2 _ => by rw [(kc_one h1).1, (kc_one h2).1], fun _ _ _ => trivial⟩
  have hFc : ∀ x, va_A [(q, .inr (ci, fz))] H.size x → A x := by
    rintro x (⟨k, e2, h⟩ | h)
    · have h4 : x = q := (Prod.mk.inj (kc_one h).2).1
      rw [h4]; exact hD.2 _ _ kc_last
    · exact hA x (Nat.le_trans hS.1 h)
  refine va_callv (va_runIN (As := As) (rest := rest) ⟨hx, hb, hml, hown, hts⟩ hM ⟨va_cnB n hts (zGood hin) rfl rfl rfl (hNW _ hlink) (hts _ (List.mem_cons_of_mem _ hini)) hd hR, hy1, hts _ (List.mem_cons_of_mem _ hinst)⟩ ⟨kc_blind, fun U hU hW => ⟨rfl, by rw [hU], by rw [hU]; exact hPc, va_K.moved hW.alike hK, hDc, fun w hw => zNest_warm (List.mem_filter.mp hw).2 hW (hNW w hw)⟩⟩ rfl hn hsize rfl (lv_room hW) hdg hf) hS (fun x _ h => hFc x h) hFc (fun u t H1 locs1 ht hvm hw hB hz1 hk1 hS1 => ?_)
  obtain ⟨hP1, hD1⟩ := hB
  rw [ht] at hP1
  obtain ⟨h1, h2⟩ := kc_join hP hD hk1 hFc hP1 hD1
  exact kk u H1 locs1 hw h1 h2 hS1
/-- new C(..) with its arguments, put into a field of the new object -/
theorem kc_obj (hx : p.tables.exec = Jvm.exec) (hb : c.code = cc) {own : String} {nL : Nat} (hml : c.maxLocals = nL) {w0 : Cond} (hts : ∀ w ∈ w0 :: zWS, w.before args s = true) (hown : s.vm.findClass own = some m.cls) (hini0 : meth.name = "<init>") (hNW : ∀ w ∈ zNW, va_Nw w s) (hK : va_K D cl (zT dA) s) (hA : ∀ q, H0.size ≤ q → A q)
    {T : u_T} {Nf ci0 : Nat} (hin0 : ∀ w ∈ u_ws own T Nf, w ∈ w0 :: zWS) (ty0 : Nat → FieldType) (hty0 : ∀ k, k < Nf → parseFieldDescriptor (T k).2.2.1 = some (ty0 k)) (hnm : ∀ a, a < Nf → ∀ b, b < Nf → a ≠ b → (T a).2.1 ≠ (T b).2.1) (hc0 : cl[ci0]? = some (own, T, Nf))
    {h0 : Nat} {fs : List Value} {L : va_W} (hP : va_P D cl ((h0, .inr (ci0, fs)) :: L) H) (hD : va_D A ((h0, .inr (ci0, fs)) :: L)) (hS : va_S A H0 H locs) (hl0 : ls[0]? = some (.val (.ref h0))) (hlen : fs.length = Nf)
    {y : MethodName} {yc : ByteArray} {yL d mc ms n idx : Nat} {host : String} {As rest : List Value} {post : Nat → va_W → Prop} {ci : Nat} {fz : List Value} {TC : u_T} {NC : Nat} (tyC : Nat → FieldType) (hinC : ∀ w ∈ u_ws y.cls TC NC, w ∈ zWS) (htyC : ∀ k, k < NC → parseFieldDescriptor (TC k).2.2.1 = some (tyC k)) (hcC : cl[ci]? = some (y.cls, TC, NC)) (hfz : ∀ j, j < NC → defaultValue (tyC j) = vp_V fz j)
    (hM : ∀ q sz, kc_W l D cl dA y yc yL d mc ms ci fz As post q sz) (hin : Cond.code y yc yL none ∈ zWS) (hlink : Cond.methodLinkNest own idx y host ∈ zNW) (hini : Cond.initialized y.cls ∈ zWS) (hinst : Cond.instanceMethod y ∈ zWS) (hy1 : y.name = "<init>") {ix : Nat} (hcl : Cond.classLink own ix y.cls ∈ zWS) (hmk : Cond.instantiable y.cls NC ∈ zWS)
    (hd : y.cls ≠ "java/lang/invoke/MethodHandle" ∧ y.cls ≠ "java/lang/invoke/VarHandle" ∧ (parseMethodDescriptor y.desc).map (fun d => d.parameters.length) = some n) (hn : As.length = n) (hR : d + 1 ≤ R.frames ∧ 8 + (yL + 11) + 40 * d ≤ R.locals) (hsize : ls.size = nL) (hW : (rest.map fun v => v.category).sum ≤ 6)
    {pc pi k fi : Nat} (d0 : decode cc pc = .ok (.aload_n 0, 1)) (d1 : decode cc (pc + 1) = .ok (.new ix, 3)) (d4 : decode cc (pc + 4) = .ok (.dup, 1)) (di : decode cc pi = .ok (.invokespecial idx, 3)) (dp : decode cc (pi + 3) = .ok (.putfield fi, 3))
    (push : ∀ (q : Nat) (H1 : Heap), va_P D cl ((h0, .inr (ci0, fs)) :: (L ++ [(q, .inr (ci, fz))])) H1 → W p l e R s m args below meth c H1 locs (cells + 1) (slots + NC) Q (F0 m pi ls (As.reverse ++ .ref q :: .ref q :: .ref h0 :: rest)) → W p l e R s m args below meth c H1 locs (cells + 1) (slots + NC) Q (F0 m (pc + 5) ls (.ref q :: .ref q :: .ref h0 :: rest)))
    (hk : k < Nf) (hfl : Cond.fieldLink own fi own (T k).2.1 (T k).2.2.1 ∈ zWS) (hT : (T k).1 = own) (hfin : (T k).2.2.2 = true ∨ (T k).2.2.2 = false) {tk : FieldType} (hfd : parseFieldDescriptor (T k).2.2.1 = some tk) (hnv : ∀ q : Nat, narrow tk (.ref q) = .ref q) (hfv : ∀ q : Nat, fits tk (.ref q) = true)
    (hf : cells + 1 + mc ≤ R.cells ∧ slots + NC + ms ≤ R.slots)
    (kk : ∀ (q : Nat) (u : va_W) (H1 : Heap) (locs1 : List Loc), post q u → (fs.set k (.ref q)).length = Nf → va_P D cl ((h0, .inr (ci0, fs.set k (.ref q))) :: (L ++ u)) H1 → va_D A ((h0, .inr (ci0, fs.set k (.ref q))) :: (L ++ u)) → va_S A H0 H1 locs1 → W p l e R s m args below meth c H1 locs1 (cells + 1 + mc) (slots + NC + ms) Q (F0 m (pi + 6) ls rest)) :
    W p l e R s m args below meth c H locs cells slots Q (F0 m pc ls rest) := by
  have hT0 : ∀ {w : Cond}, w ∈ zWS → w.before args s = true := fun h => hts _ (List.mem_cons_of_mem _ h)
  refine lv_aload_n hx hb (k := 0) d0 rfl hl0 ?_
  refine va_new (ci := ci) (fs := fz) hx hb hts (fun w h => List.mem_cons_of_mem _ (hinC w h)) tyC htyC hown (hT0 hcl) (hT0 hmk) (hT0 hini) hK hP hD hS hA hcC hfz (by omega) (by omega) d1 (fun q H1 hP1 hD1 hS1 => ?_)
  refine lv_dup hx hb d4 rfl (push q H1 hP1 ?_)
  refine kc_call hx hb hml hts hown hNW hK hA hP1 hD1 hS1 (rest := .ref q :: .ref h0 :: rest) (hM q H1.size) hin hlink hini hinst hy1 hd hn hR hsize (by show 1 + (1 + (rest.map fun v => v.category).sum) ≤ 8; omega) di hf rfl (fun u H2 locs2 hw hP2 hD2 hS2 => ?_)
  rcases hfin with hfin | hfin
  · exact va_putF (v := .ref q) hx hb hts hin0 ty0 hty0 hnm hown hK hP2 hD2 hS2 0 (fs := fs) rfl hc0 k hk (hT0 hfl) (fun _ h => by rw [hT] at h; exact h) hfin hini0 hT hfd (hnv q) (hfv q) (by rw [hlen]; exact hk) dp (fun H3 locs3 hP3 hD3 hS3 => kk q u H3 locs3 hw (by rw [List.length_set]; exact hlen) hP3 hD3 hS3)
  · exact va_put (v := .ref q) hx hb hts hin0 ty0 hty0 hnm hown hK hP2 hD2 hS2 0 (fs := fs) rfl hc0 k hk (hT0 hfl) (fun _ h => by rw [hT] at h; exact h) hfin hfd (hnv q) (hfv q) (by rw [hlen]; exact hk) dp (fun H3 locs3 hP3 hD3 hS3 => kk q u H3 locs3 hw (by rw [List.length_set]; exact hlen) hP3 hD3 hS3)
/-- a value put into a field of the new object -/
theorem kc_val (hx : p.tables.exec = Jvm.exec) (hb : c.code = cc) {own : String} {T : u_T} {Nf ci idx : Nat} {Ts : List Cond} (hts : ∀ w ∈ Ts, w.before args s = true) (hin : ∀ w ∈ u_ws own T Nf, w ∈ Ts) (ty0 : Nat → FieldType) (hty0 : ∀ k, k < Nf → parseFieldDescriptor (T k).2.2.1 = some (ty0 k)) (hnm : ∀ a, a < Nf → ∀ b, b < Nf → a ≠ b → (T a).2.1 ≠ (T b).2.1) (hown : s.vm.findClass own = some m.cls) (hini : meth.name = "<init>")
    (hc : cl[ci]? = some (own, T, Nf)) (hK : va_K D cl (zT dA) s) {h0 : Nat} {fs : List Value} {L : va_W} (hP : va_P D cl ((h0, .inr (ci, fs)) :: L) H) (hD : va_D A ((h0, .inr (ci, fs)) :: L)) (hS : va_S A H0 H locs)
    (hl0 : ls[0]? = some (.val (.ref h0))) {pc pn k : Nat} (hk : k < Nf) {v : Value} {rest : List Value}
    (d1 : decode cc pc = .ok (.aload_n 0, 1)) (push : W p l e R s m args below meth c H locs cells slots Q (F0 m pn ls (v :: .ref h0 :: rest)) → W p l e R s m args below meth c H locs cells slots Q (F0 m (pc + 1) ls (.ref h0 :: rest)))
    (d3 : decode cc pn = .ok (.putfield idx, 3)) (hlink : (Cond.fieldLink own idx own (T k).2.1 (T k).2.2.1).before args s = true) (hT : (T k).1 = own) (hfin : (T k).2.2.2 = true ∨ (T k).2.2.2 = false) {tk : FieldType} (hfd : parseFieldDescriptor (T k).2.2.1 = some tk) (hnv : narrow tk v = v) (hfv : fits tk v = true) (hlen : fs.length = Nf)
    (kk : ∀ (H1 : Heap) (locs1 : List Loc), (fs.set k v).length = Nf → va_P D cl ((h0, .inr (ci, fs.set k v)) :: L) H1 → va_D A ((h0, .inr (ci, fs.set k v)) :: L) → va_S A H0 H1 locs1 → W p l e R s m args below meth c H1 locs1 cells slots Q (F0 m (pn + 3) ls rest)) :
    W p l e R s m args below meth c H locs cells slots Q (F0 m pc ls rest) := by
  refine lv_aload_n hx hb (k := 0) d1 rfl hl0 (push ?_)
  rcases hfin with hfin | hfin
  · exact va_putF (v := v) hx hb hts hin ty0 hty0 hnm hown hK hP hD hS 0 (fs := fs) rfl hc k hk hlink (fun _ h => by rw [hT] at h; exact h) hfin hini hT hfd hnv hfv (by rw [hlen]; exact hk) d3 (fun H2 locs2 hP2 hD2 hS2 => kk H2 locs2 (by rw [List.length_set]; exact hlen) hP2 hD2 hS2)
  · exact va_put (v := v) hx hb hts hin ty0 hty0 hnm hown hK hP hD hS 0 (fs := fs) rfl hc k hk hlink (fun _ h => by rw [hT] at h; exact h) hfin hfd hnv hfv (by rw [hlen]; exact hk) d3 (fun H2 locs2 hP2 hD2 hS2 => kk H2 locs2 (by rw [List.length_set]; exact hlen) hP2 hD2 hS2)
end KC2
