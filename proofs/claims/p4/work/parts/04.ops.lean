def zat {α : Type} : List α → Nat → Option α
  | [], _ => none
  | a :: _, 0 => some a
  | _ :: r, n + 1 => zat r n
theorem zat_eq {α : Type} (l : List α) (n : Nat) : zat l n = l[n]? := by
  induction l generalizing n with
  | nil => simp [zat]
  | cons a r ih => cases n with
    | zero => simp [zat]
    | succ n => simp [zat, ih]
theorem zget_at {ls : zLo} {i nL : Nat} {v : Value} {la : Array Slot} {ad : Nat → Nat} (h : zget ls i = some v) (hl : lv_has la nL (ls.map fun q => (q.1, zv ad q.2))) : la[i]? = some (.val (zv ad v)) :=
  hl.2.2 (i, zv ad v) (List.mem_map.mpr ⟨(i, v), zget_mem h, rfl⟩)
def zwide : Value → Bool
  | .long _ => true
  | .double _ => true
  | _ => false
theorem zwide_cat (v : Value) : zwide v = (v.category == 2) := by cases v <;> rfl
/-- the locals behind a store of one slot -/
def zdel1 (i : Nat) : zLo → zLo
  | [] => []
  | q :: r => bif Nat.beq q.1 i then zdel1 i r else bif Nat.beq (q.1 + 1) i && zwide q.2 then zdel1 i r else q :: zdel1 i r
def zdel2 (i : Nat) : zLo → zLo
  | [] => []
  | q :: r => bif Nat.beq q.1 i then zdel2 i r else bif Nat.beq q.1 (i + 1) then zdel2 i r else bif Nat.beq (q.1 + 1) i && zwide q.2 then zdel2 i r else q :: zdel2 i r
theorem zbeq_eq (a b : Nat) : Nat.beq a b = (a == b) := by
  cases h : Nat.beq a b with
  | true => have := Nat.eq_of_beq_eq_true h; subst this; simp
  | false => have := Nat.ne_of_beq_eq_false h; simp [this]
theorem zdel1_mem {i : Nat} {ls : zLo} {q : Nat × Value} (h : q ∈ zdel1 i ls) : q ∈ ls ∧ (!(q.1 == i) && !(q.1 + 1 == i && q.2.category == 2)) = true := by
  induction ls with
  | nil => cases h
  | cons x r ih =>
    unfold zdel1 at h
    cases h1 : Nat.beq x.1 i with
    | true =>
      rw [h1] at h
      exact ⟨List.mem_cons_of_mem _ (ih h).1, (ih h).2⟩
    | false =>
      rw [h1] at h
      cases h2 : (Nat.beq (x.1 + 1) i && zwide x.2) with
      | true =>
        rw [h2] at h
        exact ⟨List.mem_cons_of_mem _ (ih h).1, (ih h).2⟩
      | false =>
        rw [h2] at h
        rcases List.mem_cons.mp h with e | e
        · subst e
          refine ⟨List.mem_cons_self, ?_⟩
          rw [zbeq_eq] at h1
          rw [zbeq_eq, zwide_cat] at h2
          rw [h1, h2]; rfl
        · exact ⟨List.mem_cons_of_mem _ (ih e).1, (ih e).2⟩
theorem zdel2_mem {i : Nat} {ls : zLo} {q : Nat × Value} (h : q ∈ zdel2 i ls) : q ∈ ls ∧ (!(q.1 == i) && (!(q.1 == i + 1) && !(q.1 + 1 == i && q.2.category == 2))) = true := by
  induction ls with
  | nil => cases h
  | cons x r ih =>
    unfold zdel2 at h
    cases h1 : Nat.beq x.1 i with
    | true =>
      rw [h1] at h
      exact ⟨List.mem_cons_of_mem _ (ih h).1, (ih h).2⟩
    | false =>
      rw [h1] at h
      cases h3 : Nat.beq x.1 (i + 1) with
      | true =>
        rw [h3] at h
        exact ⟨List.mem_cons_of_mem _ (ih h).1, (ih h).2⟩
      | false =>
        rw [h3] at h
        cases h2 : (Nat.beq (x.1 + 1) i && zwide x.2) with
        | true =>
          rw [h2] at h
          exact ⟨List.mem_cons_of_mem _ (ih h).1, (ih h).2⟩
        | false =>
          rw [h2] at h
          rcases List.mem_cons.mp h with e | e
          · subst e
            refine ⟨List.mem_cons_self, ?_⟩
            rw [zbeq_eq] at h1
            rw [zbeq_eq] at h3
            rw [zbeq_eq, zwide_cat] at h2
            rw [h1, h2, h3]; rfl
          · exact ⟨List.mem_cons_of_mem _ (ih e).1, (ih e).2⟩
theorem zhas_sub {la : Array Slot} {nL : Nat} {l l' : List (Nat × Value)} (h : lv_has la nL l) (hs : ∀ q ∈ l', q ∈ l) : lv_has la nL l' := ⟨h.1, h.2.1, fun q hq => h.2.2 q (hs q hq)⟩
def zst1 (i : Nat) (v : Value) (ls : zLo) : zLo := (i, v) :: zdel1 i ls
def zst2 (i : Nat) (v : Value) (ls : zLo) : zLo := (i, v) :: zdel2 i ls
theorem zst1_sub {i : Nat} {v : Value} {ls : zLo} {ad : Nat → Nat} : ∀ q ∈ ((zst1 i v ls).map fun q => (q.1, zv ad q.2)), q ∈ (i, zv ad v) :: (ls.map fun q => (q.1, zv ad q.2)).filter (fun q => !(q.1 == i) && !(q.1 + 1 == i && q.2.category == 2)) := by
  intro q hq
  obtain ⟨x, hx, rfl⟩ := List.mem_map.mp hq
  rcases List.mem_cons.mp hx with e | e
  · subst e; exact List.mem_cons_self
  · obtain ⟨h1, h2⟩ := zdel1_mem e
    exact List.mem_cons_of_mem _ (List.mem_filter.mpr ⟨List.mem_map.mpr ⟨x, h1, rfl⟩, by simpa [zv_cat] using h2⟩)
theorem zst2_sub {i : Nat} {v : Value} {ls : zLo} {ad : Nat → Nat} : ∀ q ∈ ((zst2 i v ls).map fun q => (q.1, zv ad q.2)), q ∈ (i, zv ad v) :: (ls.map fun q => (q.1, zv ad q.2)).filter (fun q => !(q.1 == i) && (!(q.1 == i + 1) && !(q.1 + 1 == i && q.2.category == 2))) := by
  intro q hq
  obtain ⟨x, hx, rfl⟩ := List.mem_map.mp hq
  rcases List.mem_cons.mp hx with e | e
  · subst e; exact List.mem_cons_self
  · obtain ⟨h1, h2⟩ := zdel2_mem e
    exact List.mem_cons_of_mem _ (List.mem_filter.mpr ⟨List.mem_map.mpr ⟨x, h1, rfl⟩, by simpa [zv_cat] using h2⟩)
section ZOPS
variable {Z : zZ} {M : zM} {pc : Nat}
def o_ic (x : Int32) (n : Nat) : zOp := fun Q QX tr ls st σ => tr n ls (.int x :: st) σ
def o_lc (x : Int64) (n : Nat) : zOp := fun Q QX tr ls st σ => tr n ls (.long x :: st) σ
theorem s_iconst {i : Int} {x : Int32} (hd : decode M.2.1 pc = .ok (.iconst i, 1)) (hv : Int32.ofInt i = x) : zSnd Z M pc (o_ic x (pc + 1)) := by
  intro G p l e s m args below meth c F Q QX tr htr ls st σ H locs la hH hS hl hk
  exact lv_iconst F.1 F.2.1 hd hv (htr _ ls _ σ H locs la hH hS hl hk)
theorem s_bipush {i : Int} {x : Int32} (hd : decode M.2.1 pc = .ok (.bipush i, 2)) (hv : (Int8.ofInt i).toInt32 = x) : zSnd Z M pc (o_ic x (pc + 2)) := by
  intro G p l e s m args below meth c F Q QX tr htr ls st σ H locs la hH hS hl hk
  exact lv_bipush F.1 F.2.1 hd hv (htr _ ls _ σ H locs la hH hS hl hk)
theorem s_sipush {i : Int} {x : Int32} (hd : decode M.2.1 pc = .ok (.sipush i, 3)) (hv : (Int16.ofInt i).toInt32 = x) : zSnd Z M pc (o_ic x (pc + 3)) := by
  intro G p l e s m args below meth c F Q QX tr htr ls st σ H locs la hH hS hl hk
  exact lv_sipush F.1 F.2.1 hd hv (htr _ ls _ σ H locs la hH hS hl hk)
theorem s_lconst {i : Fin 2} {x : Int64} (hd : decode M.2.1 pc = .ok (.lconst i, 1)) (hv : Int64.ofNat (i : Nat) = x) : zSnd Z M pc (o_lc x (pc + 1)) := by
  intro G p l e s m args below meth c F Q QX tr htr ls st σ H locs la hH hS hl hk
  exact lv_lconst F.1 F.2.1 hd hv (htr _ ls _ σ H locs la hH hS hl hk)
theorem s_ldc {i : Nat} {x : Int32} (hd : decode M.2.1 pc = .ok (.ldc i, 2)) (hw : Cond.constant M.1.cls i x ∈ zWS) : zSnd Z M pc (o_ic x (pc + 2)) := by
  intro G p l e s m args below meth c F Q QX tr htr ls st σ H locs la hH hS hl hk
  exact lv_ldc F.1 F.2.1 F.2.2.2.2.1 (F.2.2.2.2.2.1 _ (List.mem_cons_of_mem _ hw)) hd (htr _ ls _ σ H locs la hH hS hl hk)
theorem s_ldc2 {i : Nat} {x : Int64} (hd : decode M.2.1 pc = .ok (.ldc2_w i, 3)) (hw : Cond.constantLong M.1.cls i x ∈ zWS) : zSnd Z M pc (o_lc x (pc + 3)) := by
  intro G p l e s m args below meth c F Q QX tr htr ls st σ H locs la hH hS hl hk
  exact lv_ldc2 F.1 F.2.1 F.2.2.2.2.1 (F.2.2.2.2.2.1 _ (List.mem_cons_of_mem _ hw)) hd (htr _ ls _ σ H locs la hH hS hl hk)
def o_iload (i n : Nat) : zOp := fun Q QX tr ls st σ => match zget ls i with
  | some (.int x) => tr n ls (.int x :: st) σ
  | _ => False
theorem s_iload_n {k : Fin 4} {i : Nat} (hd : decode M.2.1 pc = .ok (.iload_n k, 1)) (hi : (k : Nat) = i) : zSnd Z M pc (o_iload i (pc + 1)) := by
  intro G p l e s m args below meth c F Q QX tr htr ls st σ H locs la hH hS hl hk
  unfold o_iload at hk
  split at hk
  · rename_i x hx
    exact lv_iload_n F.1 F.2.1 hd hi (zget_at hx hl) (htr _ ls _ σ H locs la hH hS hl hk)
  · exact hk.elim
theorem s_iload {i : Nat} (hd : decode M.2.1 pc = .ok (.iload i, 2)) : zSnd Z M pc (o_iload i (pc + 2)) := by
  intro G p l e s m args below meth c F Q QX tr htr ls st σ H locs la hH hS hl hk
  unfold o_iload at hk
  split at hk
  · rename_i x hx
    exact lv_iload F.1 F.2.1 hd (zget_at hx hl) (htr _ ls _ σ H locs la hH hS hl hk)
  · exact hk.elim
def o_lload (i n : Nat) : zOp := fun Q QX tr ls st σ => match zget ls i with
  | some (.long x) => tr n ls (.long x :: st) σ
  | _ => False
theorem s_lload_n {k : Fin 4} {i : Nat} (hd : decode M.2.1 pc = .ok (.lload_n k, 1)) (hi : (k : Nat) = i) : zSnd Z M pc (o_lload i (pc + 1)) := by
  intro G p l e s m args below meth c F Q QX tr htr ls st σ H locs la hH hS hl hk
  unfold o_lload at hk
  split at hk
  · rename_i x hx
    exact lv_lload_n F.1 F.2.1 hd hi (zget_at hx hl) (htr _ ls _ σ H locs la hH hS hl hk)
  · exact hk.elim
theorem s_lload {i : Nat} (hd : decode M.2.1 pc = .ok (.lload i, 2)) : zSnd Z M pc (o_lload i (pc + 2)) := by
  intro G p l e s m args below meth c F Q QX tr htr ls st σ H locs la hH hS hl hk
  unfold o_lload at hk
  split at hk
  · rename_i x hx
    exact lv_lload F.1 F.2.1 hd (zget_at hx hl) (htr _ ls _ σ H locs la hH hS hl hk)
  · exact hk.elim
def o_aload (i n : Nat) : zOp := fun Q QX tr ls st σ => match zget ls i with
  | some (.ref x) => tr n ls (.ref x :: st) σ
  | _ => False
theorem s_aload_n {k : Fin 4} {i : Nat} (hd : decode M.2.1 pc = .ok (.aload_n k, 1)) (hi : (k : Nat) = i) : zSnd Z M pc (o_aload i (pc + 1)) := by
  intro G p l e s m args below meth c F Q QX tr htr ls st σ H locs la hH hS hl hk
  unfold o_aload at hk
  split at hk
  · rename_i x hx
    exact lv_aload_n F.1 F.2.1 hd hi (zget_at hx hl) (htr _ ls _ σ H locs la hH hS hl hk)
  · exact hk.elim
theorem s_aload {i : Nat} (hd : decode M.2.1 pc = .ok (.aload i, 2)) : zSnd Z M pc (o_aload i (pc + 2)) := by
  intro G p l e s m args below meth c F Q QX tr htr ls st σ H locs la hH hS hl hk
  unfold o_aload at hk
  split at hk
  · rename_i x hx
    exact lv_aload F.1 F.2.1 hd (zget_at hx hl) (htr _ ls _ σ H locs la hH hS hl hk)
  · exact hk.elim
def o_istore (i n : Nat) : zOp := fun Q QX tr ls st σ => match st with
  | .int x :: r => tr n (zst1 i (.int x) ls) r σ
  | _ => False
theorem s_istore_n {k : Fin 4} {i : Nat} (hd : decode M.2.1 pc = .ok (.istore_n k, 1)) (hi : (k : Nat) = i) (hb : i < M.2.2.1) : zSnd Z M pc (o_istore i (pc + 1)) := by
  intro G p l e s m args below meth c F Q QX tr htr ls st σ H locs la hH hS hl hk
  unfold o_istore at hk
  split at hk
  · exact lv_istore_n F.1 F.2.1 hd hi hl hb rfl (fun la' h' => htr _ _ _ σ H locs la' hH hS (zhas_sub h' zst1_sub) hk)
  · exact hk.elim
theorem s_istore {i : Nat} (hd : decode M.2.1 pc = .ok (.istore i, 2)) (hb : i < M.2.2.1) : zSnd Z M pc (o_istore i (pc + 2)) := by
  intro G p l e s m args below meth c F Q QX tr htr ls st σ H locs la hH hS hl hk
  unfold o_istore at hk
  split at hk
  · exact lv_istore F.1 F.2.1 hd hl hb rfl (fun la' h' => htr _ _ _ σ H locs la' hH hS (zhas_sub h' zst1_sub) hk)
  · exact hk.elim
def o_lstore (i n : Nat) : zOp := fun Q QX tr ls st σ => match st with
  | .long x :: r => tr n (zst2 i (.long x) ls) r σ
  | _ => False
theorem s_lstore_n {k : Fin 4} {i : Nat} (hd : decode M.2.1 pc = .ok (.lstore_n k, 1)) (hi : (k : Nat) = i) (hb : i + 1 < M.2.2.1) : zSnd Z M pc (o_lstore i (pc + 1)) := by
  intro G p l e s m args below meth c F Q QX tr htr ls st σ H locs la hH hS hl hk
  unfold o_lstore at hk
  split at hk
  · exact lv_lstore_n F.1 F.2.1 hd hi hl hb rfl (fun la' h' => htr _ _ _ σ H locs la' hH hS (zhas_sub h' zst2_sub) hk)
  · exact hk.elim
theorem s_lstore {i : Nat} (hd : decode M.2.1 pc = .ok (.lstore i, 2)) (hb : i + 1 < M.2.2.1) : zSnd Z M pc (o_lstore i (pc + 2)) := by
  intro G p l e s m args below meth c F Q QX tr htr ls st σ H locs la hH hS hl hk
  unfold o_lstore at hk
  split at hk
  · exact lv_lstore F.1 F.2.1 hd hl hb rfl (fun la' h' => htr _ _ _ σ H locs la' hH hS (zhas_sub h' zst2_sub) hk)
  · exact hk.elim
def o_astore (i n : Nat) : zOp := fun Q QX tr ls st σ => match st with
  | .ref x :: r => tr n (zst1 i (.ref x) ls) r σ
  | _ => False
theorem s_astore_n {k : Fin 4} {i : Nat} (hd : decode M.2.1 pc = .ok (.astore_n k, 1)) (hi : (k : Nat) = i) (hb : i < M.2.2.1) : zSnd Z M pc (o_astore i (pc + 1)) := by
  intro G p l e s m args below meth c F Q QX tr htr ls st σ H locs la hH hS hl hk
  unfold o_astore at hk
  split at hk
  · exact lv_astore_n F.1 F.2.1 hd hi hl hb rfl (fun la' h' => htr _ _ _ σ H locs la' hH hS (zhas_sub h' zst1_sub) hk)
  · exact hk.elim
theorem s_astore {i : Nat} (hd : decode M.2.1 pc = .ok (.astore i, 2)) (hb : i < M.2.2.1) : zSnd Z M pc (o_astore i (pc + 2)) := by
  intro G p l e s m args below meth c F Q QX tr htr ls st σ H locs la hH hS hl hk
  unfold o_astore at hk
  split at hk
  · exact lv_astore F.1 F.2.1 hd hl hb rfl (fun la' h' => htr _ _ _ σ H locs la' hH hS (zhas_sub h' zst1_sub) hk)
  · exact hk.elim
def o_iinc (i : Nat) (d : Int32) (n : Nat) : zOp := fun Q QX tr ls st σ => match zget ls i with
  | some (.int x) => tr n (zst1 i (.int (x + d)) ls) st σ
  | _ => False
theorem s_iinc {i : Nat} {a : Int} {d : Int32} (hd : decode M.2.1 pc = .ok (.iinc i a, 3)) (hv : Int32.ofInt a = d) (hb : i < M.2.2.1) : zSnd Z M pc (o_iinc i d (pc + 3)) := by
  intro G p l e s m args below meth c F Q QX tr htr ls st σ H locs la hH hS hl hk
  unfold o_iinc at hk
  split at hk
  · rename_i x hx
    have hm : (i, Value.int x) ∈ (ls.map fun q => (q.1, zv G.2.2 q.2)) := List.mem_map.mpr ⟨(i, .int x), zget_mem hx, rfl⟩
    obtain ⟨j, hj⟩ := List.getElem?_of_mem hm
    exact lv_iinc F.1 F.2.1 hd hl hj (by rw [hv]) hb rfl (fun la' h' => htr _ _ _ σ H locs la' hH hS (zhas_sub h' zst1_sub) hk)
  · exact hk.elim
def o_ibin (f : Int32 → Int32 → Int32) (n : Nat) : zOp := fun Q QX tr ls st σ => match st with
  | .int y :: .int x :: r => tr n ls (.int (f x y) :: r) σ
  | _ => False
def o_lbin (f : Int64 → Int64 → Int64) (n : Nat) : zOp := fun Q QX tr ls st σ => match st with
  | .long y :: .long x :: r => tr n ls (.long (f x y) :: r) σ
  | _ => False
def o_lsh (f : Int64 → Int32 → Int64) (n : Nat) : zOp := fun Q QX tr ls st σ => match st with
  | .int y :: .long x :: r => tr n ls (.long (f x y) :: r) σ
  | _ => False
def o_iun (f : Int32 → Int32) (n : Nat) : zOp := fun Q QX tr ls st σ => match st with
  | .int x :: r => tr n ls (.int (f x) :: r) σ
  | _ => False
def o_i2l (n : Nat) : zOp := fun Q QX tr ls st σ => match st with
  | .int x :: r => tr n ls (.long x.toInt64 :: r) σ
  | _ => False
def o_l2i (n : Nat) : zOp := fun Q QX tr ls st σ => match st with
  | .long x :: r => tr n ls (.int x.toInt32 :: r) σ
  | _ => False
theorem s_iadd (hd : decode M.2.1 pc = .ok (.iadd, 1)) : zSnd Z M pc (o_ibin (fun x y => x + y) (pc + 1)) := by
  intro G p l e s m args below meth c F Q QX tr htr ls st σ H locs la hH hS hl hk
  unfold o_ibin at hk
  split at hk
  · exact lv_iadd F.1 F.2.1 hd (htr _ ls _ σ H locs la hH hS hl hk)
  · exact hk.elim
theorem s_isub (hd : decode M.2.1 pc = .ok (.isub, 1)) : zSnd Z M pc (o_ibin (fun x y => x - y) (pc + 1)) := by
  intro G p l e s m args below meth c F Q QX tr htr ls st σ H locs la hH hS hl hk
  unfold o_ibin at hk
  split at hk
  · exact lv_isub F.1 F.2.1 hd (htr _ ls _ σ H locs la hH hS hl hk)
  · exact hk.elim
theorem s_imul (hd : decode M.2.1 pc = .ok (.imul, 1)) : zSnd Z M pc (o_ibin (fun x y => x * y) (pc + 1)) := by
  intro G p l e s m args below meth c F Q QX tr htr ls st σ H locs la hH hS hl hk
  unfold o_ibin at hk
  split at hk
  · exact lv_imul F.1 F.2.1 hd (htr _ ls _ σ H locs la hH hS hl hk)
  · exact hk.elim
theorem s_iand (hd : decode M.2.1 pc = .ok (.iand, 1)) : zSnd Z M pc (o_ibin (fun x y => x &&& y) (pc + 1)) := by
  intro G p l e s m args below meth c F Q QX tr htr ls st σ H locs la hH hS hl hk
  unfold o_ibin at hk
  split at hk
  · exact lv_iand F.1 F.2.1 hd (htr _ ls _ σ H locs la hH hS hl hk)
  · exact hk.elim
theorem s_ior (hd : decode M.2.1 pc = .ok (.ior, 1)) : zSnd Z M pc (o_ibin (fun x y => x ||| y) (pc + 1)) := by
  intro G p l e s m args below meth c F Q QX tr htr ls st σ H locs la hH hS hl hk
  unfold o_ibin at hk
  split at hk
  · exact lv_ior F.1 F.2.1 hd (htr _ ls _ σ H locs la hH hS hl hk)
  · exact hk.elim
theorem s_ixor (hd : decode M.2.1 pc = .ok (.ixor, 1)) : zSnd Z M pc (o_ibin (fun x y => x ^^^ y) (pc + 1)) := by
  intro G p l e s m args below meth c F Q QX tr htr ls st σ H locs la hH hS hl hk
  unfold o_ibin at hk
  split at hk
  · exact lv_ixor F.1 F.2.1 hd (htr _ ls _ σ H locs la hH hS hl hk)
  · exact hk.elim
theorem s_ishl (hd : decode M.2.1 pc = .ok (.ishl, 1)) : zSnd Z M pc (o_ibin (fun x y => x <<< (y &&& 31)) (pc + 1)) := by
  intro G p l e s m args below meth c F Q QX tr htr ls st σ H locs la hH hS hl hk
  unfold o_ibin at hk
  split at hk
  · exact lv_ishl F.1 F.2.1 hd (htr _ ls _ σ H locs la hH hS hl hk)
  · exact hk.elim
theorem s_ishr (hd : decode M.2.1 pc = .ok (.ishr, 1)) : zSnd Z M pc (o_ibin (fun x y => x >>> (y &&& 31)) (pc + 1)) := by
  intro G p l e s m args below meth c F Q QX tr htr ls st σ H locs la hH hS hl hk
  unfold o_ibin at hk
  split at hk
  · exact lv_ishr F.1 F.2.1 hd (htr _ ls _ σ H locs la hH hS hl hk)
  · exact hk.elim
theorem s_iushr (hd : decode M.2.1 pc = .ok (.iushr, 1)) : zSnd Z M pc (o_ibin (fun x y => (x.toUInt32 >>> (y.toUInt32 &&& Int32.toUInt32 31)).toInt32) (pc + 1)) := by
  intro G p l e s m args below meth c F Q QX tr htr ls st σ H locs la hH hS hl hk
  unfold o_ibin at hk
  split at hk
  · exact lv_iushr F.1 F.2.1 hd rfl (htr _ ls _ σ H locs la hH hS hl hk)
  · exact hk.elim
theorem s_ladd (hd : decode M.2.1 pc = .ok (.ladd, 1)) : zSnd Z M pc (o_lbin (fun x y => x + y) (pc + 1)) := by
  intro G p l e s m args below meth c F Q QX tr htr ls st σ H locs la hH hS hl hk
  unfold o_lbin at hk
  split at hk
  · exact lv_ladd F.1 F.2.1 hd (htr _ ls _ σ H locs la hH hS hl hk)
  · exact hk.elim
theorem s_lsub (hd : decode M.2.1 pc = .ok (.lsub, 1)) : zSnd Z M pc (o_lbin (fun x y => x - y) (pc + 1)) := by
  intro G p l e s m args below meth c F Q QX tr htr ls st σ H locs la hH hS hl hk
  unfold o_lbin at hk
  split at hk
  · exact lv_lsub F.1 F.2.1 hd (htr _ ls _ σ H locs la hH hS hl hk)
  · exact hk.elim
theorem s_lor (hd : decode M.2.1 pc = .ok (.lor, 1)) : zSnd Z M pc (o_lbin (fun x y => x ||| y) (pc + 1)) := by
  intro G p l e s m args below meth c F Q QX tr htr ls st σ H locs la hH hS hl hk
  unfold o_lbin at hk
  split at hk
  · exact lv_lor F.1 F.2.1 hd (htr _ ls _ σ H locs la hH hS hl hk)
  · exact hk.elim
theorem s_land (hd : decode M.2.1 pc = .ok (.land, 1)) : zSnd Z M pc (o_lbin (fun x y => x &&& y) (pc + 1)) := by
  intro G p l e s m args below meth c F Q QX tr htr ls st σ H locs la hH hS hl hk
  unfold o_lbin at hk
  split at hk
  · exact lv_land F.1 F.2.1 hd (htr _ ls _ σ H locs la hH hS hl hk)
  · exact hk.elim
theorem s_lshl (hd : decode M.2.1 pc = .ok (.lshl, 1)) : zSnd Z M pc (o_lsh (fun x y => x <<< (y.toInt64 &&& 63)) (pc + 1)) := by
  intro G p l e s m args below meth c F Q QX tr htr ls st σ H locs la hH hS hl hk
  unfold o_lsh at hk
  split at hk
  · exact lv_lshl F.1 F.2.1 hd rfl (htr _ ls _ σ H locs la hH hS hl hk)
  · exact hk.elim
theorem s_i2b (hd : decode M.2.1 pc = .ok (.i2b, 1)) : zSnd Z M pc (o_iun (fun x => x.toInt8.toInt32) (pc + 1)) := by
  intro G p l e s m args below meth c F Q QX tr htr ls st σ H locs la hH hS hl hk
  unfold o_iun at hk
  split at hk
  · exact lv_i2b F.1 F.2.1 hd rfl (htr _ ls _ σ H locs la hH hS hl hk)
  · exact hk.elim
theorem s_i2s (hd : decode M.2.1 pc = .ok (.i2s, 1)) : zSnd Z M pc (o_iun (fun x => x.toInt16.toInt32) (pc + 1)) := by
  intro G p l e s m args below meth c F Q QX tr htr ls st σ H locs la hH hS hl hk
  unfold o_iun at hk
  split at hk
  · exact lv_i2s F.1 F.2.1 hd rfl (htr _ ls _ σ H locs la hH hS hl hk)
  · exact hk.elim
theorem s_i2c (hd : decode M.2.1 pc = .ok (.i2c, 1)) : zSnd Z M pc (o_iun (fun x => (x.toUInt32 % 65536).toInt32) (pc + 1)) := by
  intro G p l e s m args below meth c F Q QX tr htr ls st σ H locs la hH hS hl hk
  unfold o_iun at hk
  split at hk
  · exact lv_i2c F.1 F.2.1 hd rfl (htr _ ls _ σ H locs la hH hS hl hk)
  · exact hk.elim
theorem s_i2l (hd : decode M.2.1 pc = .ok (.i2l, 1)) : zSnd Z M pc (o_i2l (pc + 1)) := by
  intro G p l e s m args below meth c F Q QX tr htr ls st σ H locs la hH hS hl hk
  unfold o_i2l at hk
  split at hk
  · exact lv_i2l F.1 F.2.1 hd rfl (htr _ ls _ σ H locs la hH hS hl hk)
  · exact hk.elim
theorem s_l2i (hd : decode M.2.1 pc = .ok (.l2i, 1)) : zSnd Z M pc (o_l2i (pc + 1)) := by
  intro G p l e s m args below meth c F Q QX tr htr ls st σ H locs la hH hS hl hk
  unfold o_l2i at hk
  split at hk
  · exact lv_l2i F.1 F.2.1 hd rfl (htr _ ls _ σ H locs la hH hS hl hk)
  · exact hk.elim
def o_dup (n : Nat) : zOp := fun Q QX tr ls st σ => match st with
  | v :: r => bif zwide v then False else tr n ls (v :: v :: r) σ
  | _ => False
def o_pop (n : Nat) : zOp := fun Q QX tr ls st σ => match st with
  | v :: r => bif zwide v then False else tr n ls r σ
  | _ => False
def o_pop2 (n : Nat) : zOp := fun Q QX tr ls st σ => match st with
  | v :: r => bif zwide v then tr n ls r σ else False
  | _ => False
def o_dup2 (n : Nat) : zOp := fun Q QX tr ls st σ => match st with
  | v :: u :: r => bif zwide v then False else bif zwide u then False else tr n ls (v :: u :: v :: u :: r) σ
  | _ => False
theorem zcat1 {v : Value} {ad : Nat → Nat} (h : zwide v = false) : (zv ad v).category = 1 := by cases v <;> first | rfl | cases h
theorem zcat2 {v : Value} {ad : Nat → Nat} (h : zwide v = true) : (zv ad v).category = 2 := by cases v <;> first | rfl | cases h
theorem s_dup (hd : decode M.2.1 pc = .ok (.dup, 1)) : zSnd Z M pc (o_dup (pc + 1)) := by
  intro G p l e s m args below meth c F Q QX tr htr ls st σ H locs la hH hS hl hk
  unfold o_dup at hk
  split at hk
  · rename_i v r
    cases hv : zwide v with
    | true => rw [hv] at hk; exact hk.elim
    | false =>
      rw [hv] at hk
      exact lv_dup F.1 F.2.1 hd (zcat1 hv) (htr _ ls _ σ H locs la hH hS hl hk)
  · exact hk.elim
theorem s_pop (hd : decode M.2.1 pc = .ok (.pop, 1)) : zSnd Z M pc (o_pop (pc + 1)) := by
  intro G p l e s m args below meth c F Q QX tr htr ls st σ H locs la hH hS hl hk
  unfold o_pop at hk
  split at hk
  · rename_i v r
    cases hv : zwide v with
    | true => rw [hv] at hk; exact hk.elim
    | false =>
      rw [hv] at hk
      exact lv_pop F.1 F.2.1 hd (zcat1 hv) (htr _ ls _ σ H locs la hH hS hl hk)
  · exact hk.elim
theorem s_pop2 (hd : decode M.2.1 pc = .ok (.pop2, 1)) : zSnd Z M pc (o_pop2 (pc + 1)) := by
  intro G p l e s m args below meth c F Q QX tr htr ls st σ H locs la hH hS hl hk
  unfold o_pop2 at hk
  split at hk
  · rename_i v r
    cases hv : zwide v with
    | false => rw [hv] at hk; exact hk.elim
    | true =>
      rw [hv] at hk
      exact lv_pop2_2 F.1 F.2.1 hd (zcat2 hv) (htr _ ls _ σ H locs la hH hS hl hk)
  · exact hk.elim
theorem s_dup2 (hd : decode M.2.1 pc = .ok (.dup2, 1)) : zSnd Z M pc (o_dup2 (pc + 1)) := by
  intro G p l e s m args below meth c F Q QX tr htr ls st σ H locs la hH hS hl hk
  unfold o_dup2 at hk
  split at hk
  · rename_i v u r
    cases hv : zwide v with
    | true => rw [hv] at hk; exact hk.elim
    | false =>
      rw [hv] at hk
      cases hu : zwide u with
      | true => rw [hu] at hk; exact hk.elim
      | false =>
        rw [hu] at hk
        exact lv_dup2_11 F.1 F.2.1 hd (zcat1 hv) (zcat1 hu) (htr _ ls _ σ H locs la hH hS hl hk)
  · exact hk.elim
def o_icmp (P : Int32 → Int32 → Prop) (t n : Nat) : zOp := fun Q QX tr ls st σ => match st with
  | .int y :: .int x :: r => (P x y → tr t ls r σ) ∧ (¬ P x y → tr n ls r σ)
  | _ => False
def o_if0 (P : Int32 → Prop) (t n : Nat) : zOp := fun Q QX tr ls st σ => match st with
  | .int x :: r => (P x → tr t ls r σ) ∧ (¬ P x → tr n ls r σ)
  | _ => False
def o_lif (P : Int64 → Int64 → Prop) (t n : Nat) : zOp := fun Q QX tr ls st σ => match st with
  | .long y :: .long x :: r => (P x y → tr t ls r σ) ∧ (¬ P x y → tr n ls r σ)
  | _ => False
def o_goto (t : Nat) : zOp := fun Q QX tr ls st σ => tr t ls st σ
theorem s_icmp_eq {off : Int} {t : Nat} (hd : decode M.2.1 pc = .ok (.if_icmp .eq off, 3)) (ht : (pc : Int) + off = (t : Int)) : zSnd Z M pc (o_icmp (fun x y => x = y) t (pc + 3)) := by
  intro G p l e s m args below meth c F Q QX tr htr ls st σ H locs la hH hS hl hk
  unfold o_icmp at hk
  split at hk
  · exact lv_icmp_eq F.1 F.2.1 hd ht (fun h => htr _ ls _ σ H locs la hH hS hl (hk.1 h)) (fun h => htr _ ls _ σ H locs la hH hS hl (hk.2 h))
  · exact hk.elim
theorem s_if_eq {off : Int} {t : Nat} (hd : decode M.2.1 pc = .ok (.ifCond .eq off, 3)) (ht : (pc : Int) + off = (t : Int)) : zSnd Z M pc (o_if0 (fun x => x = 0) t (pc + 3)) := by
  intro G p l e s m args below meth c F Q QX tr htr ls st σ H locs la hH hS hl hk
  unfold o_if0 at hk
  split at hk
  · exact lv_if_eq F.1 F.2.1 hd ht (fun h => htr _ ls _ σ H locs la hH hS hl (hk.1 h)) (fun h => htr _ ls _ σ H locs la hH hS hl (hk.2 h))
  · exact hk.elim
theorem s_icmp_ne {off : Int} {t : Nat} (hd : decode M.2.1 pc = .ok (.if_icmp .ne off, 3)) (ht : (pc : Int) + off = (t : Int)) : zSnd Z M pc (o_icmp (fun x y => x = y) (pc + 3) t) := by
  intro G p l e s m args below meth c F Q QX tr htr ls st σ H locs la hH hS hl hk
  unfold o_icmp at hk
  split at hk
  · exact lv_icmp_ne F.1 F.2.1 hd ht (fun h => htr _ ls _ σ H locs la hH hS hl (hk.2 h)) (fun h => htr _ ls _ σ H locs la hH hS hl (hk.1 (by simpa using h)))
  · exact hk.elim
theorem s_if_ne {off : Int} {t : Nat} (hd : decode M.2.1 pc = .ok (.ifCond .ne off, 3)) (ht : (pc : Int) + off = (t : Int)) : zSnd Z M pc (o_if0 (fun x => x = 0) (pc + 3) t) := by
  intro G p l e s m args below meth c F Q QX tr htr ls st σ H locs la hH hS hl hk
  unfold o_if0 at hk
  split at hk
  · exact lv_if_ne F.1 F.2.1 hd ht (fun h => htr _ ls _ σ H locs la hH hS hl (hk.2 h)) (fun h => htr _ ls _ σ H locs la hH hS hl (hk.1 (by simpa using h)))
  · exact hk.elim
theorem s_icmp_lt {off : Int} {t : Nat} (hd : decode M.2.1 pc = .ok (.if_icmp .lt off, 3)) (ht : (pc : Int) + off = (t : Int)) : zSnd Z M pc (o_icmp (fun x y => x < y) t (pc + 3)) := by
  intro G p l e s m args below meth c F Q QX tr htr ls st σ H locs la hH hS hl hk
  unfold o_icmp at hk
  split at hk
  · exact lv_icmp_lt F.1 F.2.1 hd ht (fun h => htr _ ls _ σ H locs la hH hS hl (hk.1 h)) (fun h => htr _ ls _ σ H locs la hH hS hl (hk.2 h))
  · exact hk.elim
theorem s_if_lt {off : Int} {t : Nat} (hd : decode M.2.1 pc = .ok (.ifCond .lt off, 3)) (ht : (pc : Int) + off = (t : Int)) : zSnd Z M pc (o_if0 (fun x => x < 0) t (pc + 3)) := by
  intro G p l e s m args below meth c F Q QX tr htr ls st σ H locs la hH hS hl hk
  unfold o_if0 at hk
  split at hk
  · exact lv_if_lt F.1 F.2.1 hd ht (fun h => htr _ ls _ σ H locs la hH hS hl (hk.1 h)) (fun h => htr _ ls _ σ H locs la hH hS hl (hk.2 h))
  · exact hk.elim
theorem s_icmp_ge {off : Int} {t : Nat} (hd : decode M.2.1 pc = .ok (.if_icmp .ge off, 3)) (ht : (pc : Int) + off = (t : Int)) : zSnd Z M pc (o_icmp (fun x y => y ≤ x) t (pc + 3)) := by
  intro G p l e s m args below meth c F Q QX tr htr ls st σ H locs la hH hS hl hk
  unfold o_icmp at hk
  split at hk
  · exact lv_icmp_ge F.1 F.2.1 hd ht (fun h => htr _ ls _ σ H locs la hH hS hl (hk.1 h)) (fun h => htr _ ls _ σ H locs la hH hS hl (hk.2 h))
  · exact hk.elim
theorem s_if_ge {off : Int} {t : Nat} (hd : decode M.2.1 pc = .ok (.ifCond .ge off, 3)) (ht : (pc : Int) + off = (t : Int)) : zSnd Z M pc (o_if0 (fun x => 0 ≤ x) t (pc + 3)) := by
  intro G p l e s m args below meth c F Q QX tr htr ls st σ H locs la hH hS hl hk
  unfold o_if0 at hk
  split at hk
  · exact lv_if_ge F.1 F.2.1 hd ht (fun h => htr _ ls _ σ H locs la hH hS hl (hk.1 h)) (fun h => htr _ ls _ σ H locs la hH hS hl (hk.2 h))
  · exact hk.elim
theorem s_icmp_gt {off : Int} {t : Nat} (hd : decode M.2.1 pc = .ok (.if_icmp .gt off, 3)) (ht : (pc : Int) + off = (t : Int)) : zSnd Z M pc (o_icmp (fun x y => y < x) t (pc + 3)) := by
  intro G p l e s m args below meth c F Q QX tr htr ls st σ H locs la hH hS hl hk
  unfold o_icmp at hk
  split at hk
  · exact lv_icmp_gt F.1 F.2.1 hd ht (fun h => htr _ ls _ σ H locs la hH hS hl (hk.1 h)) (fun h => htr _ ls _ σ H locs la hH hS hl (hk.2 h))
  · exact hk.elim
theorem s_if_gt {off : Int} {t : Nat} (hd : decode M.2.1 pc = .ok (.ifCond .gt off, 3)) (ht : (pc : Int) + off = (t : Int)) : zSnd Z M pc (o_if0 (fun x => 0 < x) t (pc + 3)) := by
  intro G p l e s m args below meth c F Q QX tr htr ls st σ H locs la hH hS hl hk
  unfold o_if0 at hk
  split at hk
  · exact lv_if_gt F.1 F.2.1 hd ht (fun h => htr _ ls _ σ H locs la hH hS hl (hk.1 h)) (fun h => htr _ ls _ σ H locs la hH hS hl (hk.2 h))
  · exact hk.elim
theorem s_icmp_le {off : Int} {t : Nat} (hd : decode M.2.1 pc = .ok (.if_icmp .le off, 3)) (ht : (pc : Int) + off = (t : Int)) : zSnd Z M pc (o_icmp (fun x y => x ≤ y) t (pc + 3)) := by
  intro G p l e s m args below meth c F Q QX tr htr ls st σ H locs la hH hS hl hk
  unfold o_icmp at hk
  split at hk
  · exact lv_icmp_le F.1 F.2.1 hd ht (fun h => htr _ ls _ σ H locs la hH hS hl (hk.1 h)) (fun h => htr _ ls _ σ H locs la hH hS hl (hk.2 h))
  · exact hk.elim
theorem s_if_le {off : Int} {t : Nat} (hd : decode M.2.1 pc = .ok (.ifCond .le off, 3)) (ht : (pc : Int) + off = (t : Int)) : zSnd Z M pc (o_if0 (fun x => x ≤ 0) t (pc + 3)) := by
  intro G p l e s m args below meth c F Q QX tr htr ls st σ H locs la hH hS hl hk
  unfold o_if0 at hk
  split at hk
  · exact lv_if_le F.1 F.2.1 hd ht (fun h => htr _ ls _ σ H locs la hH hS hl (hk.1 h)) (fun h => htr _ ls _ σ H locs la hH hS hl (hk.2 h))
  · exact hk.elim
theorem s_goto {off : Int} {t : Nat} (hd : decode M.2.1 pc = .ok (.goto off, 3)) (ht : (pc : Int) + off = (t : Int)) : zSnd Z M pc (o_goto t) := by
  intro G p l e s m args below meth c F Q QX tr htr ls st σ H locs la hH hS hl hk
  exact lv_goto F.1 F.2.1 hd ht (htr _ ls _ σ H locs la hH hS hl hk)
theorem zlc_eq (x y : Int64) : (fun x : Int32 => x = 0) (lg_cmp x y) ↔ x = y := by
  unfold lg_cmp
  simp only [gt_iff_lt, Int64.lt_iff_toInt_lt, Int64.le_iff_toInt_le, ← Int64.toInt_inj]
  repeat' split
  all_goals (constructor <;> intro hh <;> first | omega | decide | exact absurd hh (by decide))
theorem s_leq {off : Int} {t : Nat} (hd : decode M.2.1 pc = .ok (.lcmp, 1)) (hd2 : decode M.2.1 (pc + 1) = .ok (.ifCond .eq off, 3)) (ht : ((pc + 1 : Nat) : Int) + off = (t : Int)) : zSnd Z M pc (o_lif (fun x y => x = y) t (pc + 4)) := by
  intro G p l e s m args below meth c F Q QX tr htr ls st σ H locs la hH hS hl hk
  unfold o_lif at hk
  split at hk
  · exact W.lcmp F.1 F.2.1 hd (lv_if_eq F.1 F.2.1 hd2 ht (fun h => htr _ ls _ σ H locs la hH hS hl (hk.1 ((zlc_eq _ _).mp h))) (fun h => htr _ ls _ σ H locs la hH hS hl (hk.2 (fun q => h ((zlc_eq _ _).mpr q)))))
  · exact hk.elim
theorem zlc_ne (x y : Int64) : (fun x : Int32 => x = 0) (lg_cmp x y) ↔ x = y := by
  unfold lg_cmp
  simp only [gt_iff_lt, Int64.lt_iff_toInt_lt, Int64.le_iff_toInt_le, ← Int64.toInt_inj]
  repeat' split
  all_goals (constructor <;> intro hh <;> first | omega | decide | exact absurd hh (by decide))
theorem s_lne {off : Int} {t : Nat} (hd : decode M.2.1 pc = .ok (.lcmp, 1)) (hd2 : decode M.2.1 (pc + 1) = .ok (.ifCond .ne off, 3)) (ht : ((pc + 1 : Nat) : Int) + off = (t : Int)) : zSnd Z M pc (o_lif (fun x y => x = y) (pc + 4) t) := by
  intro G p l e s m args below meth c F Q QX tr htr ls st σ H locs la hH hS hl hk
  unfold o_lif at hk
  split at hk
  · exact W.lcmp F.1 F.2.1 hd (lv_if_ne F.1 F.2.1 hd2 ht (fun h => htr _ ls _ σ H locs la hH hS hl (hk.2 (fun q => h ((zlc_ne _ _).mpr q)))) (fun h => htr _ ls _ σ H locs la hH hS hl (hk.1 ((zlc_ne _ _).mp (by simpa using h)))))
  · exact hk.elim
theorem zlc_lt (x y : Int64) : (fun x : Int32 => x < 0) (lg_cmp x y) ↔ x < y := by
  unfold lg_cmp
  simp only [gt_iff_lt, Int64.lt_iff_toInt_lt, Int64.le_iff_toInt_le, ← Int64.toInt_inj]
  repeat' split
  all_goals (constructor <;> intro hh <;> first | omega | decide | exact absurd hh (by decide))
theorem s_llt {off : Int} {t : Nat} (hd : decode M.2.1 pc = .ok (.lcmp, 1)) (hd2 : decode M.2.1 (pc + 1) = .ok (.ifCond .lt off, 3)) (ht : ((pc + 1 : Nat) : Int) + off = (t : Int)) : zSnd Z M pc (o_lif (fun x y => x < y) t (pc + 4)) := by
  intro G p l e s m args below meth c F Q QX tr htr ls st σ H locs la hH hS hl hk
  unfold o_lif at hk
  split at hk
  · exact W.lcmp F.1 F.2.1 hd (lv_if_lt F.1 F.2.1 hd2 ht (fun h => htr _ ls _ σ H locs la hH hS hl (hk.1 ((zlc_lt _ _).mp h))) (fun h => htr _ ls _ σ H locs la hH hS hl (hk.2 (fun q => h ((zlc_lt _ _).mpr q)))))
  · exact hk.elim
theorem zlc_ge (x y : Int64) : (fun x : Int32 => 0 ≤ x) (lg_cmp x y) ↔ y ≤ x := by
  unfold lg_cmp
  simp only [gt_iff_lt, Int64.lt_iff_toInt_lt, Int64.le_iff_toInt_le, ← Int64.toInt_inj]
  repeat' split
  all_goals (constructor <;> intro hh <;> first | omega | decide | exact absurd hh (by decide))
theorem s_lge {off : Int} {t : Nat} (hd : decode M.2.1 pc = .ok (.lcmp, 1)) (hd2 : decode M.2.1 (pc + 1) = .ok (.ifCond .ge off, 3)) (ht : ((pc + 1 : Nat) : Int) + off = (t : Int)) : zSnd Z M pc (o_lif (fun x y => y ≤ x) t (pc + 4)) := by
  intro G p l e s m args below meth c F Q QX tr htr ls st σ H locs la hH hS hl hk
  unfold o_lif at hk
  split at hk
  · exact W.lcmp F.1 F.2.1 hd (lv_if_ge F.1 F.2.1 hd2 ht (fun h => htr _ ls _ σ H locs la hH hS hl (hk.1 ((zlc_ge _ _).mp h))) (fun h => htr _ ls _ σ H locs la hH hS hl (hk.2 (fun q => h ((zlc_ge _ _).mpr q)))))
  · exact hk.elim
theorem zlc_gt (x y : Int64) : (fun x : Int32 => 0 < x) (lg_cmp x y) ↔ y < x := by
  unfold lg_cmp
  simp only [gt_iff_lt, Int64.lt_iff_toInt_lt, Int64.le_iff_toInt_le, ← Int64.toInt_inj]
  repeat' split
  all_goals (constructor <;> intro hh <;> first | omega | decide | exact absurd hh (by decide))
theorem s_lgt {off : Int} {t : Nat} (hd : decode M.2.1 pc = .ok (.lcmp, 1)) (hd2 : decode M.2.1 (pc + 1) = .ok (.ifCond .gt off, 3)) (ht : ((pc + 1 : Nat) : Int) + off = (t : Int)) : zSnd Z M pc (o_lif (fun x y => y < x) t (pc + 4)) := by
  intro G p l e s m args below meth c F Q QX tr htr ls st σ H locs la hH hS hl hk
  unfold o_lif at hk
  split at hk
  · exact W.lcmp F.1 F.2.1 hd (lv_if_gt F.1 F.2.1 hd2 ht (fun h => htr _ ls _ σ H locs la hH hS hl (hk.1 ((zlc_gt _ _).mp h))) (fun h => htr _ ls _ σ H locs la hH hS hl (hk.2 (fun q => h ((zlc_gt _ _).mpr q)))))
  · exact hk.elim
theorem zlc_le (x y : Int64) : (fun x : Int32 => x ≤ 0) (lg_cmp x y) ↔ x ≤ y := by
  unfold lg_cmp
  simp only [gt_iff_lt, Int64.lt_iff_toInt_lt, Int64.le_iff_toInt_le, ← Int64.toInt_inj]
  repeat' split
  all_goals (constructor <;> intro hh <;> first | omega | decide | exact absurd hh (by decide))
theorem s_lle {off : Int} {t : Nat} (hd : decode M.2.1 pc = .ok (.lcmp, 1)) (hd2 : decode M.2.1 (pc + 1) = .ok (.ifCond .le off, 3)) (ht : ((pc + 1 : Nat) : Int) + off = (t : Int)) : zSnd Z M pc (o_lif (fun x y => x ≤ y) t (pc + 4)) := by
  intro G p l e s m args below meth c F Q QX tr htr ls st σ H locs la hH hS hl hk
  unfold o_lif at hk
  split at hk
  · exact W.lcmp F.1 F.2.1 hd (lv_if_le F.1 F.2.1 hd2 ht (fun h => htr _ ls _ σ H locs la hH hS hl (hk.1 ((zlc_le _ _).mp h))) (fun h => htr _ ls _ σ H locs la hH hS hl (hk.2 (fun q => h ((zlc_le _ _).mpr q)))))
  · exact hk.elim
def o_ret : zOp := fun Q QX tr ls st σ => match st with
  | [v] => Q (some v) σ
  | _ => False
def o_zret : zOp := fun Q QX tr ls st σ => match st with
  | [.int x] => (x = 0 ∨ x = 1) ∧ Q (some (.int x)) σ
  | _ => False
def o_iret : zOp := fun Q QX tr ls st σ => match st with
  | [.int x] => Q (some (.int x)) σ
  | _ => False
def o_lret : zOp := fun Q QX tr ls st σ => match st with
  | [.long x] => Q (some (.long x)) σ
  | _ => False
def o_aret : zOp := fun Q QX tr ls st σ => match st with
  | [.ref x] => Q (some (.ref x)) σ
  | _ => False
def o_vret : zOp := fun Q QX tr ls st σ => match st with
  | [] => Q none σ
  | _ => False
theorem s_iret (hr : M.2.2.2.1 = some .int) (hd : decode M.2.1 pc = .ok (.ireturn, 1)) : zSnd Z M pc o_iret := by
  intro G p l e s m args below meth c F Q QX tr htr ls st σ H locs la hH hS hl hk
  unfold o_iret at hk
  split at hk
  · exact vx_ret (W.iret F.1 F.2.1 (F.2.2.1.trans hr) (fun t ht hW => ⟨⟨some (.int _), σ, rfl, hk, by rw [ht]; exact hH⟩, hS.F ht⟩) hS.2.2 hd F.2.2.2.2.2.2.2.1)
  · exact hk.elim
theorem s_lret (hr : M.2.2.2.1 = some .long) (hd : decode M.2.1 pc = .ok (.lreturn, 1)) : zSnd Z M pc o_lret := by
  intro G p l e s m args below meth c F Q QX tr htr ls st σ H locs la hH hS hl hk
  unfold o_lret at hk
  split at hk
  · exact vx_ret (W.lret F.1 F.2.1 (F.2.2.1.trans hr) (fun t ht hW => ⟨⟨some (.long _), σ, rfl, hk, by rw [ht]; exact hH⟩, hS.F ht⟩) hS.2.2 hd F.2.2.2.2.2.2.2.1)
  · exact hk.elim
theorem s_vret (hr : M.2.2.2.1 = none) (hd : decode M.2.1 pc = .ok (.return_, 1)) : zSnd Z M pc o_vret := by
  intro G p l e s m args below meth c F Q QX tr htr ls st σ H locs la hH hS hl hk
  unfold o_vret at hk
  split at hk
  · exact vx_ret (W.vret F.1 F.2.1 (F.2.2.1.trans hr) (fun t ht hW => ⟨⟨none, σ, rfl, hk, by rw [ht]; exact hH⟩, hS.F ht⟩) hS.2.2 hd F.2.2.2.2.2.2.2.1)
  · exact hk.elim
theorem s_zret (hr : M.2.2.2.1 = some .boolean) (hd : decode M.2.1 pc = .ok (.ireturn, 1)) : zSnd Z M pc o_zret := by
  intro G p l e s m args below meth c F Q QX tr htr ls st σ H locs la hH hS hl hk
  unfold o_zret at hk
  split at hk
  · exact vx_ret (W.zret F.1 F.2.1 (F.2.2.1.trans hr) (by rcases hk.1 with q | q <;> rw [q] <;> rfl) (fun t ht hW => ⟨⟨some (.int _), σ, rfl, hk.2, by rw [ht]; exact hH⟩, hS.F ht⟩) hS.2.2 hd F.2.2.2.2.2.2.2.1)
  · exact hk.elim
theorem s_aret {cn : String} (hr : M.2.2.2.1 = some (.object cn)) (hd : decode M.2.1 pc = .ok (.areturn, 1)) : zSnd Z M pc o_aret := by
  intro G p l e s m args below meth c F Q QX tr htr ls st σ H locs la hH hS hl hk
  unfold o_aret at hk
  split at hk
  · exact vx_ret (W.aret F.1 F.2.1 (F.2.2.1.trans hr) (Or.inl ⟨_, rfl⟩) (Or.inr ⟨_, rfl⟩) (fun t ht hW => ⟨⟨some (.ref _), σ, rfl, hk, by rw [ht]; exact hH⟩, hS.F ht⟩) hS.2.2 hd F.2.2.2.2.2.2.2.1)
  · exact hk.elim
end ZOPS
