/-! constructors: an array made and put into a final field of the new object -/
theorem kc_ra {U : State} {cA cB : ClassId} {ty : FieldType} (ht : ty = .int ∨ ty = .long ∨ ty = .byte ∨ ty = .short ∨ ty = .boolean) (h1 : va_RA U cA ty) (h2 : va_RA U cB ty) : cA = cB := by
  rcases ht with rfl | rfl | rfl | rfl | rfl
  all_goals exact Option.some.inj (h1.symm.trans h2)
theorem kc_zT {dA : FieldType → ClassId} {ty : FieldType} (ht : ty = .int ∨ ty = .long ∨ ty = .byte ∨ ty = .short ∨ ty = .boolean) : ∃ t : Nat, (zT dA)[t]? = some (dA ty, ty) := by
  rcases ht with rfl | rfl | rfl | rfl | rfl
  · exact ⟨0, rfl⟩
  · exact ⟨1, rfl⟩
  · exact ⟨2, rfl⟩
  · exact ⟨3, rfl⟩
  · exact ⟨4, rfl⟩
/-- an array as it is made -/
def kc_a0 (ty : FieldType) (N : Nat) : vp_A := match ty with
  | .long => (N, .inr (.inl (fun _ => 0)))
  | _ => (N, .inl (fun _ => 0))
theorem kc_cell {ty : FieldType} {N : Nat} (ht : ty = .int ∨ ty = .long ∨ ty = .byte ∨ ty = .short ∨ ty = .boolean) (cA : ClassId) : vp_cell cA (kc_a0 ty N) = arrV cA N (fun _ => defaultValue ty) := by
  rcases ht with rfl | rfl | rfl | rfl | rfl <;> rfl
section KC
variable {p : Program} {l : Launch} {e : Env} {R : Room} {s : State} {m : MethodId} {args : Array Value} {below : List Frame} {meth : Method} {c : Code} {Q : State → Prop} {cc : ByteArray} {D : va_G} {cl : List vw_C} {A : Nat → Prop} {H0 H : Heap} {locs : List Loc} {cells slots : Nat} {ls : Array Slot} {dA : FieldType → ClassId}
theorem kc_arr (hx : p.tables.exec = Jvm.exec) (hb : c.code = cc) {own C : String} {T : u_T} {Nf ci idx : Nat} {Ts : List Cond} (hts : ∀ w ∈ Ts, w.before args s = true) (hin : ∀ w ∈ u_ws C T Nf, w ∈ Ts) (ty0 : Nat → FieldType) (hty0 : ∀ k, k < Nf → parseFieldDescriptor (T k).2.2.1 = some (ty0 k)) (hnm : ∀ a, a < Nf → ∀ b, b < Nf → a ≠ b → (T a).2.1 ≠ (T b).2.1) (hown : s.vm.findClass own = some m.cls) (hini : meth.name = "<init>")
    (hc : cl[ci]? = some (C, T, Nf)) (hK : va_K D cl (zT dA) s) (hA : ∀ q, H0.size ≤ q → A q) {h0 : Nat} {fs : List Value} {L : va_W} (hP : va_P D cl ((h0, .inr (ci, fs)) :: L) H) (hD : va_D A ((h0, .inr (ci, fs)) :: L)) (hS : va_S A H0 H locs)
    (hl0 : ls[0]? = some (.val (.ref h0))) {pc pn k : Nat} (hk : k < Nf) {n : Int32} {N : Nat} {atype : ArrayType} {ty : FieldType} {rest : List Value} (ht : ty = .int ∨ ty = .long ∨ ty = .byte ∨ ty = .short ∨ ty = .boolean) (hat : newarray.typeOf atype = ty)
    (d1 : decode cc pc = .ok (.aload_n 0, 1)) (push : W p l e R s m args below meth c H locs cells slots Q (F0 m pn ls (.int n :: .ref h0 :: rest)) → W p l e R s m args below meth c H locs cells slots Q (F0 m (pc + 1) ls (.ref h0 :: rest)))
    (d2 : decode cc pn = .ok (.newarray atype, 2)) (d3 : decode cc (pn + 2) = .ok (.putfield idx, 3)) (harr : (Cond.arrayClass (newarray.typeOf atype)).before args s = true) (hn : ¬ n < 0) (hN : n.toNatClampNeg = N) (hbytes : N * componentBytes ty ≤ 536870912) (hcells : cells + 1 ≤ R.cells) (hslots : slots + N ≤ R.slots)
    (hlink : (Cond.fieldLink own idx own (T k).2.1 (T k).2.2.1).before args s = true) (hT : (T k).1 = own) (hfin : (T k).2.2.2 = true) (hfd : parseFieldDescriptor (T k).2.2.1 = some (.array ty)) (hlen : fs.length = Nf)
    (kk : ∀ (q : Nat) (H1 : Heap) (locs1 : List Loc), (fs.set k (.ref q)).length = Nf → va_P D cl ((h0, .inr (ci, fs.set k (.ref q))) :: (L ++ [(q, .inl (dA ty, kc_a0 ty N))])) H1 → va_D A ((h0, .inr (ci, fs.set k (.ref q))) :: (L ++ [(q, .inl (dA ty, kc_a0 ty N))])) → va_S A H0 H1 locs1 → W p l e R s m args below meth c H1 locs1 (cells + 1) (slots + N) Q (F0 m (pn + 5) ls rest)) :
    W p l e R s m args below meth c H locs cells slots Q (F0 m pc ls rest) := by
  refine lv_aload_n hx hb (k := 0) d1 rfl hl0 (push ?_)
  refine va_newa hx hb harr hat hK hP hD hS hA (a0 := kc_a0 ty N) (kc_cell ht) hn hN hbytes hcells hslots d2 (fun q cA H1 hK1 hP1 hD1 hS1 => ?_)
  have hcA : cA = dA ty := by
    obtain ⟨t, h1⟩ := kc_zT (dA := dA) ht
    have r1 := (hK.2 t _ h1).2
    have r2 := (hK1.2 (zT dA).length (cA, ty) (by rw [List.getElem?_append_right (Nat.le_refl _), Nat.sub_self]; rfl)).2
    exact kc_ra ht r2 r1
  subst hcA
  refine va_putF (v := .ref q) hx hb hts hin ty0 hty0 hnm hown hK hP1 hD1 hS1 0 (fs := fs) rfl hc k hk hlink (fun _ h => by rw [hT] at h; exact h) hfin hini hT hfd rfl rfl (by rw [hlen]; exact hk) d3 (fun H2 locs2 hP2 hD2 hS2 => ?_)
  exact kk q H2 locs2 (by rw [List.length_set]; exact hlen) hP2 hD2 hS2
end KC
