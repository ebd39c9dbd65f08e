/-! a String constant and its bytes, told of by Z.2.2 under numbers behind the cells -/
section ZSTR
variable {Z : zZ} {M : zM} {pc : Nat}
theorem s_ldS {tx : String} {k idx : Nat} (hz : ∀ (G : zG) (s : State), Z.2.2 G (zA Z G) s → vk_R M.1.cls idx tx (G.2.2 k) s) (hd : decode M.2.1 pc = .ok (.ldc idx, 2)) : zSnd Z M pc (o_gets k (pc + 2)) := by
  intro G p l e s m args below meth c F Q QX tr htr ls st σ H locs la hH hS hl hk
  exact va_ldcS F.1 F.2.1 F.2.2.2.2.1 (hz G s F.2.2.2.2.2.2.1.2.2.2) hd (htr _ ls _ σ H locs la hH hS hl hk)
theorem s_getsI {C nm d : String} {x : Int32} {idx : Nat} (hz : ∀ (G : zG) (s : State), Z.2.2 G (zA Z G) s → va_Z C nm d (.int x) (zA Z G) s s.heap) (hw : Cond.fieldLink M.1.cls idx C nm d ∈ zWS) (hd : decode M.2.1 pc = .ok (.getstatic idx, 3)) : zSnd Z M pc (o_ic x (pc + 3)) := by
  intro G p l e s m args below meth c F Q QX tr htr ls st σ H locs la hH hS hl hk
  exact va_gets F.1 F.2.1 (hz G s F.2.2.2.2.2.2.1.2.2.2) hS F.2.2.2.2.1 (F.2.2.2.2.2.1 _ (List.mem_cons_of_mem _ hw)) (fun _ h => h) hd (htr _ ls _ σ H locs la hH hS hl hk)
def o_getX (q : Nat) (v : Value) (n : Nat) : zOp := fun _ _ tr ls st σ => match st with
  | .ref a :: r => bif Nat.beq a q then tr n ls (v :: r) σ else False
  | _ => False
theorem s_getX {o nm d : String} {q : Nat} {v : Value} {idx : Nat} (hz : ∀ (G : zG) (s : State), Z.2.2 G (zA Z G) s → va_OF o nm d (zv G.2.2 v) (G.2.2 q) (zA Z G) s s.heap) (hw : Cond.fieldLink M.1.cls idx o nm d ∈ zWS) (hd : decode M.2.1 pc = .ok (.getfield idx, 3)) : zSnd Z M pc (o_getX q v (pc + 3)) := by
  intro G p l e s m args below meth c F Q QX tr htr ls st σ H locs la hH hS hl hk
  unfold o_getX at hk
  split at hk
  rotate_left
  · exact hk.elim
  rename_i a r
  cases hb : Nat.beq a q with
  | false => rw [hb] at hk; exact hk.elim
  | true =>
    rw [hb] at hk
    have e := Nat.eq_of_beq_eq_true hb
    subst e
    exact va_getX (N := 1) (i := 0) (v := fun _ => zv G.2.2 v) (ad := fun _ => G.2.2 a) F.1 F.2.1 (fun _ _ => hz G s F.2.2.2.2.2.2.1.2.2.2) (by decide) hS F.2.2.2.2.1 (F.2.2.2.2.2.1 _ (List.mem_cons_of_mem _ hw)) (fun _ h => h) hd (htr _ ls _ σ H locs la hH hS hl hk)
theorem s_tlenT {ty : FieldType} {f : Nat → Value} {k N : Nat} (hz : ∀ (G : zG) (s : State), Z.2.2 G (zA Z G) s → va_T ty (G.2.2 k) N f (zA Z G) s s.heap) (hd : decode M.2.1 pc = .ok (.arraylength, 1)) : zSnd Z M pc (o_tlen N k (pc + 1)) := by
  intro G p l e s m args below meth c F Q QX tr htr ls st σ H locs la hH hS hl hk
  unfold o_tlen at hk
  split at hk
  rotate_left
  · exact hk.elim
  rename_i q r
  cases hb : Nat.beq q k with
  | false => rw [hb] at hk; exact hk.elim
  | true =>
    rw [hb] at hk
    have e := Nat.eq_of_beq_eq_true hb
    subst e
    exact va_tlen F.1 F.2.1 (hz G s F.2.2.2.2.2.2.1.2.2.2) hS rfl hd (htr _ ls _ σ H locs la hH hS hl hk)
theorem s_taldB {f : Nat → Int32} {k N : Nat} (hz : ∀ (G : zG) (s : State), Z.2.2 G (zA Z G) s → va_T .byte (G.2.2 k) N (fun i => .int (f i)) (zA Z G) s s.heap) (hd : decode M.2.1 pc = .ok (.baload, 1)) : zSnd Z M pc (o_tald f N k (pc + 1)) := by
  intro G p l e s m args below meth c F Q QX tr htr ls st σ H locs la hH hS hl hk
  unfold o_tald at hk
  split at hk
  rotate_left
  · exact hk.elim
  rename_i i q r
  cases hb : Nat.beq q k with
  | false => rw [hb] at hk; exact hk.elim
  | true =>
    rw [hb] at hk
    have e := Nat.eq_of_beq_eq_true hb
    subst e
    exact va_tb F.1 F.2.1 (hz G s F.2.2.2.2.2.2.1.2.2.2) hS hk.1 rfl hd (htr _ ls _ σ H locs la hH hS hl hk.2)
def o_tret (ty : FieldType) : zOp := fun Q _ _ _ st σ => match st with
  | [.int x] => narrow ty (.int x) = .int x ∧ Q (some (.int x)) σ
  | _ => False
theorem s_tret {ty : FieldType} (hr : M.2.2.2.1 = some ty) (hd : decode M.2.1 pc = .ok (.ireturn, 1)) (ht : ty = .byte ∨ ty = .char) : zSnd Z M pc (o_tret ty) := by
  intro G p l e s m args below meth c F Q QX tr htr ls st σ H locs la hH hS hl hk
  unfold o_tret at hk
  split at hk
  · exact vx_ret (W.zret F.1 F.2.1 (F.2.2.1.trans hr) hk.1 (fun t ht hW => ⟨⟨some (.int _), σ, rfl, hk.2, by rw [ht]; exact hH⟩, hS.F ht⟩) hS.2.2 hd F.2.2.2.2.2.2.2.1)
  · exact hk.elim
def o_callX (Z : zZ) (q : Nat) (M' : zM) (na kd n : Nat) : zOp := fun _ QX tr ls st σ => match zpop na [] st with
  | some (as, .ref k :: r) => bif Nat.beq k q then (bif Nat.ble (zcs r) 8 then zCT Z M' (.ref k :: as) σ (zQk kd (fun v σ' => tr n ls (zpush v r) σ')) QX else False) else False
  | _ => False
theorem s_callX {q na kd idx : Nat} {M' : zM} (hz : ∀ (G : zG) (s : State), Z.2.2 G (zA Z G) s → va_O M'.1.cls (G.2.2 q) (zA Z G) s s.heap) (hM : zCal M') (hv : Cond.instanceMethod M'.1 ∈ zWS ∧ Cond.selects M'.1.cls M'.1 M'.1 ∈ zWS) (hp : (parseMethodDescriptor M'.1.desc).map (fun d => d.parameters.length) = some na) (hR : zRm M M') (hw : Cond.methodLink M.1.cls idx M'.1 ∈ zWS) (hd : decode M.2.1 pc = .ok (.invokevirtual idx, 3)) : zSnd Z M pc (o_callX Z q M' na kd (pc + 3)) := by
  intro G p l e s m args below meth c F Q QX tr htr ls st σ H locs la hH hS hl hk
  unfold o_callX at hk
  split at hk
  rotate_left
  · exact hk.elim
  rename_i as k r hpop
  obtain ⟨qq, hq1, hq2, hq3⟩ := zpop_spec hpop
  cases hb : Nat.beq k q with
  | false => rw [hb] at hk; exact hk.elim
  | true =>
    rw [hb] at hk
    have ho := Nat.eq_of_beq_eq_true hb
    subst ho
    cases hb2 : Nat.ble (zcs r) 8 with
    | false => rw [hb2] at hk; exact hk.elim
    | true =>
      rw [hb2] at hk
      have hcs := Nat.le_of_ble_eq_true hb2
      have has : as = qq.reverse := by rw [hq3, List.append_nil]
      have hcell : ∃ cell : Cell, H[G.2.2 k]? = some cell ∧ cell.vm.isStatics = false ∧ s.vm.findClass M'.1.cls = some cell.cls := by
        obtain ⟨cell, h1, h2, h3, -⟩ := (hz G s F.2.2.2.2.2.2.1.2.2.2).kept hS.2.1
        exact ⟨cell, h1, h2, h3⟩
      refine z_callk F (vx_runV (As := as.map (zv G.2.2)) (rest := r.map (zv G.2.2)) ⟨F.1, F.2.1, F.2.2.2.1, F.2.2.2.2.1, F.2.2.2.2.2.1⟩ (hk l G) ⟨zCallB F hM hp hR hw, F.2.2.2.2.2.1 _ (List.mem_cons_of_mem _ hv.1), F.2.2.2.2.2.1 _ (List.mem_cons_of_mem _ hv.2)⟩ ⟨zPc_blind F.2.2.2.2.2.2.2.2.2, hcell, fun U hU hW => ⟨rfl, by rw [hU]; exact hH, zEnv_warm F.2.2.2.2.2.2.2.2.2 F.2.2.2.2.2.2.1 hU hW hS⟩⟩ rfl (by rw [has]; simp [hq1]) hl.1 (by rw [hq2, has]; simp [zv]) (lv_room (by rw [zcs_eq]; exact hcs)) hd ⟨Nat.le_refl _, Nat.le_refl _⟩) hS (fun v σ' H1 locs1 hQ' hH1 hS1 => ?_)
      rw [zpush_map]
      exact htr _ ls _ σ' H1 locs1 la hH1 hS1 hl (zQk_elim hQ')
end ZSTR
