def zCls (Z : zZ) (ci : Nat) (C : String) (T : u_T) (N : Nat) (ty : Nat → FieldType) : Prop :=
  Z.1[ci]? = some (C, T, N) ∧ (∀ w ∈ u_ws C T N, w ∈ zWS) ∧ (∀ k, k < N → parseFieldDescriptor (T k).2.2.1 = some (ty k)) ∧ (∀ a, a < N → ∀ b, b < N → a ≠ b → (T a).2.1 ≠ (T b).2.1)
abbrev zFld (own : String) (idx : Nat) (T : u_T) (j : Nat) : Prop := Cond.fieldLink own idx (T j).1 (T j).2.1 (T j).2.2.1 ∈ zWS ∨ ∃ host : String, Cond.fieldLinkNest own idx (T j).1 (T j).2.1 (T j).2.2.1 host ∈ zNW
def zty : FieldType → FieldType → Bool
  | .int, .int => true
  | .long, .long => true
  | .byte, .byte => true
  | .short, .short => true
  | .boolean, .boolean => true
  | _, _ => false
theorem zty_eq {a b : FieldType} (h : zty a b = true) : a = b := by
  unfold zty at h
  split at h <;> first | rfl | cases h
def o_getf (Y : List zC) (ci j n : Nat) : zOp := fun _ _ tr ls st σ => match st with
  | .ref k :: r => match zat Y k with
    | some (.inl o) => bif Nat.beq o.1 ci then (match zat o.2 j with
      | some κ => tr n ls (zsl σ k j κ :: r) σ
      | none => False) else False
    | _ => False
  | _ => False
def o_putI (Y : List zC) (ci j n : Nat) : zOp := fun _ _ tr ls st σ => match st with
  | .int x :: .ref k :: r => match zat Y k with
    | some (.inl o) => bif Nat.beq o.1 ci then (match zat o.2 j with
      | some κ => bif Nat.beq κ.1 0 then (∀ τ : zS, τ = zsI σ k j x → tr n ls r τ) else False
      | none => False) else False
    | _ => False
  | _ => False
def o_putZ (Y : List zC) (ci j n : Nat) : zOp := fun _ _ tr ls st σ => match st with
  | .int x :: .ref k :: r => match zat Y k with
    | some (.inl o) => bif Nat.beq o.1 ci then (match zat o.2 j with
      | some κ => bif Nat.beq κ.1 0 then (x = 0 ∨ x = 1) ∧ (∀ τ : zS, τ = zsI σ k j x → tr n ls r τ) else False
      | none => False) else False
    | _ => False
  | _ => False
def o_putL (Y : List zC) (ci j n : Nat) : zOp := fun _ _ tr ls st σ => match st with
  | .long x :: .ref k :: r => match zat Y k with
    | some (.inl o) => bif Nat.beq o.1 ci then (match zat o.2 j with
      | some κ => bif Nat.beq κ.1 1 then (∀ τ : zS, τ = zsL σ k j x → tr n ls r τ) else False
      | none => False) else False
    | _ => False
  | _ => False
def o_ald (Y : List zC) (ty : FieldType) (n : Nat) : zOp := fun _ _ tr ls st σ => match st with
  | .int i :: .ref k :: r => match zat Y k with
    | some (.inr a) => bif zty a.1 ty then vp_in i a.2 ∧ tr n ls (.int (σ.1 k i.toNatClampNeg) :: r) σ else False
    | _ => False
  | _ => False
def o_lald (Y : List zC) (n : Nat) : zOp := fun _ _ tr ls st σ => match st with
  | .int i :: .ref k :: r => match zat Y k with
    | some (.inr a) => bif zty a.1 .long then vp_in i a.2 ∧ tr n ls (.long (σ.2 k i.toNatClampNeg) :: r) σ else False
    | _ => False
  | _ => False
def o_ast (Y : List zC) (ty : FieldType) (f : Int32 → Int32) (n : Nat) : zOp := fun _ _ tr ls st σ => match st with
  | .int x :: .int i :: .ref k :: r => match zat Y k with
    | some (.inr a) => bif zty a.1 ty then vp_in i a.2 ∧ (∀ τ : zS, τ = zsI σ k i.toNatClampNeg (f x) → tr n ls r τ) else False
    | _ => False
  | _ => False
def o_last (Y : List zC) (n : Nat) : zOp := fun _ _ tr ls st σ => match st with
  | .long x :: .int i :: .ref k :: r => match zat Y k with
    | some (.inr a) => bif zty a.1 .long then vp_in i a.2 ∧ (∀ τ : zS, τ = zsL σ k i.toNatClampNeg x → tr n ls r τ) else False
    | _ => False
  | _ => False
def o_alen (Y : List zC) (n : Nat) : zOp := fun _ _ tr ls st σ => match st with
  | .ref k :: r => match zat Y k with
    | some (.inr a) => tr n ls (.int (nI a.2) :: r) σ
    | _ => False
  | _ => False
def o_gets (k n : Nat) : zOp := fun _ _ tr ls st σ => tr n ls (.ref k :: st) σ
def o_tald (f : Nat → Int32) (N k n : Nat) : zOp := fun _ _ tr ls st σ => match st with
  | .int i :: .ref q :: r => bif Nat.beq q k then vp_in i N ∧ tr n ls (.int (f i.toNatClampNeg) :: r) σ else False
  | _ => False
def o_tlen (N k n : Nat) : zOp := fun _ _ tr ls st σ => match st with
  | .ref q :: r => bif Nat.beq q k then tr n ls (.int (nI N) :: r) σ else False
  | _ => False
def zpop : Nat → List Value → List Value → Option (List Value × List Value)
  | 0, acc, st => some (acc, st)
  | _ + 1, _, [] => none
  | n + 1, acc, v :: st => zpop n (v :: acc) st
theorem zpop_spec {n : Nat} {acc st as r : List Value} (h : zpop n acc st = some (as, r)) : ∃ q : List Value, q.length = n ∧ st = q ++ r ∧ as = q.reverse ++ acc := by
  induction n generalizing acc st with
  | zero => cases h; exact ⟨[], rfl, rfl, rfl⟩
  | succ n ih => cases st with
    | nil => cases h
    | cons v st =>
      obtain ⟨q, h1, h2, h3⟩ := ih h
      exact ⟨v :: q, by simp [h1], by simp [h2], by simp [h3]⟩
def zpush : Option Value → List Value → List Value
  | some v, r => v :: r
  | none, r => r
def zcs : List Value → Nat
  | [] => 0
  | v :: r => (bif zwide v then 2 else 1) + zcs r
theorem zcs_eq (ad : Nat → Nat) (r : List Value) : ((r.map (zv ad)).map fun v => v.category).sum = zcs r := by
  induction r with
  | nil => rfl
  | cons v r ih =>
    have e : (zv ad v).category = (bif zwide v then 2 else 1) := by cases v <;> rfl
    simp only [List.map_cons, List.sum_cons, ih, zcs, e]
def zQv (k : zS → Prop) : Option Value → zS → Prop := fun v σ => match v with
  | none => k σ
  | _ => False
def zQi (k : Int32 → zS → Prop) : Option Value → zS → Prop := fun v σ => match v with
  | some (.int x) => k x σ
  | _ => False
def zQl (k : Int64 → zS → Prop) : Option Value → zS → Prop := fun v σ => match v with
  | some (.long x) => k x σ
  | _ => False
def zQr (k : Nat → zS → Prop) : Option Value → zS → Prop := fun v σ => match v with
  | some (.ref x) => k x σ
  | _ => False
def zQk (kd : Nat) (k : Option Value → zS → Prop) : Option Value → zS → Prop := match kd with
  | 0 => zQv (fun σ => k none σ)
  | 1 => zQi (fun x σ => k (some (.int x)) σ)
  | 2 => zQl (fun x σ => k (some (.long x)) σ)
  | _ => zQr (fun x σ => k (some (.ref x)) σ)
theorem zQk_elim {kd : Nat} {k : Option Value → zS → Prop} {v : Option Value} {σ : zS} (h : zQk kd k v σ) : k v σ := by
  match kd, h with
  | 0, h => cases v with
    | none => exact h
    | some v => exact h.elim
  | 1, h => cases v with
    | none => exact h.elim
    | some v => cases v <;> first | exact h | exact h.elim
  | 2, h => cases v with
    | none => exact h.elim
    | some v => cases v <;> first | exact h | exact h.elim
  | _ + 3, h => cases v with
    | none => exact h.elim
    | some v => cases v <;> first | exact h | exact h.elim
def o_callV (Z : zZ) (ci : Nat) (M' : zM) (na kd n : Nat) : zOp := fun _ QX tr ls st σ => match zpop na [] st with
  | some (as, .ref k :: r) => match zat Z.2.1 k with
    | some (.inl o) => bif Nat.beq o.1 ci then (bif Nat.ble (zcs r) 8 then zCT Z M' (.ref k :: as) σ (zQk kd (fun v σ' => tr n ls (zpush v r) σ')) QX else False) else False
    | _ => False
  | _ => False
def o_callS (Z : zZ) (M' : zM) (na kd n : Nat) : zOp := fun _ QX tr ls st σ => match zpop na [] st with
  | some (as, r) => bif Nat.ble (zcs r) 8 then zCT Z M' as σ (zQk kd (fun v σ' => tr n ls (zpush v r) σ')) QX else False
  | _ => False
def o_athrow (Y : List zC) (ci : Nat) : zOp := fun _ QX _ _ st σ => match st with
  | .ref k :: _ => match zat Y k with
    | some (.inl o) => bif Nat.beq o.1 ci then QX σ else False
    | _ => False
  | _ => False
section ZHEAP
variable {Z : zZ} {M : zM} {pc : Nat}
theorem s_getf {ci j idx N : Nat} {C : String} {T : u_T} {ty : Nat → FieldType} (hC : zCls Z ci C T N ty) (hF : zFld M.1.cls idx T j) (hj : j < N) (hd : decode M.2.1 pc = .ok (.getfield idx, 3)) : zSnd Z M pc (o_getf Z.2.1 ci j (pc + 3)) := by
  intro G p l e s m args below meth c F Q QX tr htr ls st σ H locs la hH hS hl hk
  unfold o_getf at hk
  split at hk
  rotate_left
  · exact hk.elim
  rename_i k r
  split at hk
  rotate_left
  · exact hk.elim
  · rename_i o hz
    have hx : Z.2.1[k]? = some (.inl o) := by rw [← zat_eq]; assumption
    cases hb : Nat.beq o.1 ci with
    | false => rw [hb] at hk; exact hk.elim
    | true =>
      rw [hb] at hk
      have ho : o.1 = ci := Nat.eq_of_beq_eq_true hb
      have he : (zW Z G σ)[k]? = some (G.2.2 k, .inr (ci, o.2.mapIdx fun j k' => zv G.2.2 (zsl σ k j k'))) := by
        have q := zW_get (G := G) (σ := σ) hx
        rw [← ho]; exact q
      split at hk
      · rename_i κ hκ
        rw [zat_eq] at hκ
        have hv : (o.2.mapIdx fun j k' => zv G.2.2 (zsl σ k j k'))[j]? = some (zv G.2.2 (zsl σ k j κ)) := by simp [List.getElem?_mapIdx, hκ]
        rcases hF with hF | ⟨host, hF⟩
        · exact va_get F.1 F.2.1 F.2.2.2.2.2.1 (fun w hw => List.mem_cons_of_mem _ (hC.2.1 w hw)) F.2.2.2.2.1 F.2.2.2.2.2.2.1.1 hH k he hC.1 j hj (F.2.2.2.2.2.1 _ (List.mem_cons_of_mem _ hF)) (fun _ h => h) hv hd (htr _ ls _ σ H locs la hH hS hl hk)
        · exact va_getN F.1 F.2.1 F.2.2.2.2.2.1 (fun w hw => List.mem_cons_of_mem _ (hC.2.1 w hw)) F.2.2.2.2.1 F.2.2.2.2.2.2.1.1 hH k he hC.1 j hj (va_Nw.use rfl (F.2.2.2.2.2.2.1.2.2.1 _ hF)) (fun _ h => h) hv hd (htr _ ls _ σ H locs la hH hS hl hk)
      · exact hk.elim
theorem s_putI {ci j idx N : Nat} {C : String} {T : u_T} {ty : Nat → FieldType} (hC : zCls Z ci C T N ty) (hF : zFld M.1.cls idx T j) (hj : j < N) (hty : ty j = .int) (hfin : (T j).2.2.2 = false) (hd : decode M.2.1 pc = .ok (.putfield idx, 3)) : zSnd Z M pc (o_putI Z.2.1 ci j (pc + 3)) := by
  intro G p l e s m args below meth c F Q QX tr htr ls st σ H locs la hH hS hl hk
  unfold o_putI at hk
  split at hk
  rotate_left
  · exact hk.elim
  rename_i x k r
  split at hk
  rotate_left
  · exact hk.elim
  · rename_i o hz
    have hx : Z.2.1[k]? = some (.inl o) := by rw [← zat_eq]; assumption
    cases hb : Nat.beq o.1 ci with
    | false => rw [hb] at hk; exact hk.elim
    | true =>
      rw [hb] at hk
      have ho : o.1 = ci := Nat.eq_of_beq_eq_true hb
      have he : (zW Z G σ)[k]? = some (G.2.2 k, .inr (ci, o.2.mapIdx fun j k' => zv G.2.2 (zsl σ k j k'))) := by
        have q := zW_get (G := G) (σ := σ) hx
        rw [← ho]; exact q
      split at hk
      · rename_i κ hκ
        rw [zat_eq] at hκ
        cases hb2 : Nat.beq κ.1 0 with
        | false => rw [hb2] at hk; exact hk.elim
        | true =>
          rw [hb2] at hk
          have hκ0 : κ.1 = 0 := Nat.eq_of_beq_eq_true hb2
          have hpf : parseFieldDescriptor (T j).2.2.1 = some .int := by rw [← hty]; exact hC.2.2.1 j hj
          have hlen : j < (o.2.mapIdx fun j k' => zv G.2.2 (zsl σ k j k')).length := by
            have := (List.getElem?_eq_some_iff.mp hκ).1
            simpa using this
          have hset : (zW Z G σ).set k (G.2.2 k, .inr (ci, (o.2.mapIdx fun j k' => zv G.2.2 (zsl σ k j k')).set j (.int x))) = zW Z G (zsI σ k j x) := by
            refine zW_set hx ?_ zsI_ne
            simp only [zcell, ho]
            rw [zfs_set (σ := σ) (τ := zsI σ k j x) hκ (v := .int x) (by simp [zsl, hκ0, zsI, zv]) (fun i hi => by simp [zsI, hi])]
          have hnn : narrow .int (.int x) = .int x := rfl
          have hff : fits .int (.int x) = true := rfl
          rcases hF with hF | ⟨host, hF⟩
          · exact va_put F.1 F.2.1 F.2.2.2.2.2.1 (fun w hw => List.mem_cons_of_mem _ (hC.2.1 w hw)) ty hC.2.2.1 hC.2.2.2 F.2.2.2.2.1 F.2.2.2.2.2.2.1.1 hH (zW_D F.2.2.2.2.2.2.1.2.1) hS k he hC.1 j hj (F.2.2.2.2.2.1 _ (List.mem_cons_of_mem _ hF)) (fun _ h => h) hfin hpf hnn hff hlen hd
              (fun H1 locs1 hP1 _ hS1 => htr _ ls _ _ H1 locs1 la (by show va_P G.1 Z.1 (zW Z G (zsI σ k j x)) H1; rw [← hset]; exact hP1) hS1 hl (hk _ rfl))
          · exact va_putN F.1 F.2.1 F.2.2.2.2.2.1 (fun w hw => List.mem_cons_of_mem _ (hC.2.1 w hw)) ty hC.2.2.1 hC.2.2.2 F.2.2.2.2.1 F.2.2.2.2.2.2.1.1 hH (zW_D F.2.2.2.2.2.2.1.2.1) hS k he hC.1 j hj (va_Nw.use rfl (F.2.2.2.2.2.2.1.2.2.1 _ hF)) (fun _ h => h) hfin hpf hnn hff hlen hd
              (fun H1 locs1 hP1 _ hS1 => htr _ ls _ _ H1 locs1 la (by show va_P G.1 Z.1 (zW Z G (zsI σ k j x)) H1; rw [← hset]; exact hP1) hS1 hl (hk _ rfl))
      · exact hk.elim
theorem s_putZ {ci j idx N : Nat} {C : String} {T : u_T} {ty : Nat → FieldType} (hC : zCls Z ci C T N ty) (hF : zFld M.1.cls idx T j) (hj : j < N) (hty : ty j = .boolean) (hfin : (T j).2.2.2 = false) (hd : decode M.2.1 pc = .ok (.putfield idx, 3)) : zSnd Z M pc (o_putZ Z.2.1 ci j (pc + 3)) := by
  intro G p l e s m args below meth c F Q QX tr htr ls st σ H locs la hH hS hl hk
  unfold o_putZ at hk
  split at hk
  rotate_left
  · exact hk.elim
  rename_i x k r
  split at hk
  rotate_left
  · exact hk.elim
  · rename_i o hz
    have hx : Z.2.1[k]? = some (.inl o) := by rw [← zat_eq]; assumption
    cases hb : Nat.beq o.1 ci with
    | false => rw [hb] at hk; exact hk.elim
    | true =>
      rw [hb] at hk
      have ho : o.1 = ci := Nat.eq_of_beq_eq_true hb
      have he : (zW Z G σ)[k]? = some (G.2.2 k, .inr (ci, o.2.mapIdx fun j k' => zv G.2.2 (zsl σ k j k'))) := by
        have q := zW_get (G := G) (σ := σ) hx
        rw [← ho]; exact q
      split at hk
      · rename_i κ hκ
        rw [zat_eq] at hκ
        cases hb2 : Nat.beq κ.1 0 with
        | false => rw [hb2] at hk; exact hk.elim
        | true =>
          rw [hb2] at hk
          have hκ0 : κ.1 = 0 := Nat.eq_of_beq_eq_true hb2
          have hpf : parseFieldDescriptor (T j).2.2.1 = some .boolean := by rw [← hty]; exact hC.2.2.1 j hj
          have hlen : j < (o.2.mapIdx fun j k' => zv G.2.2 (zsl σ k j k')).length := by
            have := (List.getElem?_eq_some_iff.mp hκ).1
            simpa using this
          have hset : (zW Z G σ).set k (G.2.2 k, .inr (ci, (o.2.mapIdx fun j k' => zv G.2.2 (zsl σ k j k')).set j (.int x))) = zW Z G (zsI σ k j x) := by
            refine zW_set hx ?_ zsI_ne
            simp only [zcell, ho]
            rw [zfs_set (σ := σ) (τ := zsI σ k j x) hκ (v := .int x) (by simp [zsl, hκ0, zsI, zv]) (fun i hi => by simp [zsI, hi])]
          have hnn : narrow .boolean (.int x) = .int x := by rcases hk.1 with q | q <;> rw [q] <;> rfl
          have hff : fits .boolean (.int x) = true := by rcases hk.1 with q | q <;> rw [q] <;> rfl
          rcases hF with hF | ⟨host, hF⟩
          · exact va_put F.1 F.2.1 F.2.2.2.2.2.1 (fun w hw => List.mem_cons_of_mem _ (hC.2.1 w hw)) ty hC.2.2.1 hC.2.2.2 F.2.2.2.2.1 F.2.2.2.2.2.2.1.1 hH (zW_D F.2.2.2.2.2.2.1.2.1) hS k he hC.1 j hj (F.2.2.2.2.2.1 _ (List.mem_cons_of_mem _ hF)) (fun _ h => h) hfin hpf hnn hff hlen hd
              (fun H1 locs1 hP1 _ hS1 => htr _ ls _ _ H1 locs1 la (by show va_P G.1 Z.1 (zW Z G (zsI σ k j x)) H1; rw [← hset]; exact hP1) hS1 hl (hk.2 _ rfl))
          · exact va_putN F.1 F.2.1 F.2.2.2.2.2.1 (fun w hw => List.mem_cons_of_mem _ (hC.2.1 w hw)) ty hC.2.2.1 hC.2.2.2 F.2.2.2.2.1 F.2.2.2.2.2.2.1.1 hH (zW_D F.2.2.2.2.2.2.1.2.1) hS k he hC.1 j hj (va_Nw.use rfl (F.2.2.2.2.2.2.1.2.2.1 _ hF)) (fun _ h => h) hfin hpf hnn hff hlen hd
              (fun H1 locs1 hP1 _ hS1 => htr _ ls _ _ H1 locs1 la (by show va_P G.1 Z.1 (zW Z G (zsI σ k j x)) H1; rw [← hset]; exact hP1) hS1 hl (hk.2 _ rfl))
      · exact hk.elim
theorem s_putL {ci j idx N : Nat} {C : String} {T : u_T} {ty : Nat → FieldType} (hC : zCls Z ci C T N ty) (hF : zFld M.1.cls idx T j) (hj : j < N) (hty : ty j = .long) (hfin : (T j).2.2.2 = false) (hd : decode M.2.1 pc = .ok (.putfield idx, 3)) : zSnd Z M pc (o_putL Z.2.1 ci j (pc + 3)) := by
  intro G p l e s m args below meth c F Q QX tr htr ls st σ H locs la hH hS hl hk
  unfold o_putL at hk
  split at hk
  rotate_left
  · exact hk.elim
  rename_i x k r
  split at hk
  rotate_left
  · exact hk.elim
  · rename_i o hz
    have hx : Z.2.1[k]? = some (.inl o) := by rw [← zat_eq]; assumption
    cases hb : Nat.beq o.1 ci with
    | false => rw [hb] at hk; exact hk.elim
    | true =>
      rw [hb] at hk
      have ho : o.1 = ci := Nat.eq_of_beq_eq_true hb
      have he : (zW Z G σ)[k]? = some (G.2.2 k, .inr (ci, o.2.mapIdx fun j k' => zv G.2.2 (zsl σ k j k'))) := by
        have q := zW_get (G := G) (σ := σ) hx
        rw [← ho]; exact q
      split at hk
      · rename_i κ hκ
        rw [zat_eq] at hκ
        cases hb2 : Nat.beq κ.1 1 with
        | false => rw [hb2] at hk; exact hk.elim
        | true =>
          rw [hb2] at hk
          have hκ0 : κ.1 = 1 := Nat.eq_of_beq_eq_true hb2
          have hpf : parseFieldDescriptor (T j).2.2.1 = some .long := by rw [← hty]; exact hC.2.2.1 j hj
          have hlen : j < (o.2.mapIdx fun j k' => zv G.2.2 (zsl σ k j k')).length := by
            have := (List.getElem?_eq_some_iff.mp hκ).1
            simpa using this
          have hset : (zW Z G σ).set k (G.2.2 k, .inr (ci, (o.2.mapIdx fun j k' => zv G.2.2 (zsl σ k j k')).set j (.long x))) = zW Z G (zsL σ k j x) := by
            refine zW_set hx ?_ zsL_ne
            simp only [zcell, ho]
            rw [zfs_set (σ := σ) (τ := zsL σ k j x) hκ (v := .long x) (by simp [zsl, hκ0, zsL, zv]) (fun i hi => by simp [zsL, hi])]
          have hnn : narrow .long (.long x) = .long x := rfl
          have hff : fits .long (.long x) = true := rfl
          rcases hF with hF | ⟨host, hF⟩
          · exact va_put F.1 F.2.1 F.2.2.2.2.2.1 (fun w hw => List.mem_cons_of_mem _ (hC.2.1 w hw)) ty hC.2.2.1 hC.2.2.2 F.2.2.2.2.1 F.2.2.2.2.2.2.1.1 hH (zW_D F.2.2.2.2.2.2.1.2.1) hS k he hC.1 j hj (F.2.2.2.2.2.1 _ (List.mem_cons_of_mem _ hF)) (fun _ h => h) hfin hpf hnn hff hlen hd
              (fun H1 locs1 hP1 _ hS1 => htr _ ls _ _ H1 locs1 la (by show va_P G.1 Z.1 (zW Z G (zsL σ k j x)) H1; rw [← hset]; exact hP1) hS1 hl (hk _ rfl))
          · exact va_putN F.1 F.2.1 F.2.2.2.2.2.1 (fun w hw => List.mem_cons_of_mem _ (hC.2.1 w hw)) ty hC.2.2.1 hC.2.2.2 F.2.2.2.2.1 F.2.2.2.2.2.2.1.1 hH (zW_D F.2.2.2.2.2.2.1.2.1) hS k he hC.1 j hj (va_Nw.use rfl (F.2.2.2.2.2.2.1.2.2.1 _ hF)) (fun _ h => h) hfin hpf hnn hff hlen hd
              (fun H1 locs1 hP1 _ hS1 => htr _ ls _ _ H1 locs1 la (by show va_P G.1 Z.1 (zW Z G (zsL σ k j x)) H1; rw [← hset]; exact hP1) hS1 hl (hk _ rfl))
      · exact hk.elim
theorem s_iald (hd : decode M.2.1 pc = .ok (.iaload, 1)) : zSnd Z M pc (o_ald Z.2.1 .int (pc + 1)) := by
  intro G p l e s m args below meth c F Q QX tr htr ls st σ H locs la hH hS hl hk
  unfold o_ald at hk
  split at hk
  rotate_left
  · exact hk.elim
  rename_i i k r
  split at hk
  rotate_left
  · exact hk.elim
  · rename_i a hz
    have hx : Z.2.1[k]? = some (.inr a) := by rw [← zat_eq]; assumption
    obtain ⟨aty, an⟩ := a
    cases hb : zty aty .int with
    | false => simp only [hb] at hk; exact hk.elim
    | true =>
      simp only [hb] at hk
      have hat : aty = .int := zty_eq hb
      subst hat
      have he := zW_get (G := G) (σ := σ) hx
      exact va_iald F.1 F.2.1 F.2.2.2.2.2.2.1.1 hH k 0 he rfl hk.1 hd (htr _ ls _ σ H locs la hH hS hl hk.2)
theorem s_bald (hd : decode M.2.1 pc = .ok (.baload, 1)) : zSnd Z M pc (o_ald Z.2.1 .byte (pc + 1)) := by
  intro G p l e s m args below meth c F Q QX tr htr ls st σ H locs la hH hS hl hk
  unfold o_ald at hk
  split at hk
  rotate_left
  · exact hk.elim
  rename_i i k r
  split at hk
  rotate_left
  · exact hk.elim
  · rename_i a hz
    have hx : Z.2.1[k]? = some (.inr a) := by rw [← zat_eq]; assumption
    obtain ⟨aty, an⟩ := a
    cases hb : zty aty .byte with
    | false => simp only [hb] at hk; exact hk.elim
    | true =>
      simp only [hb] at hk
      have hat : aty = .byte := zty_eq hb
      subst hat
      have he := zW_get (G := G) (σ := σ) hx
      exact va_bald F.1 F.2.1 F.2.2.2.2.2.2.1.1 hH k 2 he rfl hk.1 hd (htr _ ls _ σ H locs la hH hS hl hk.2)
theorem s_sald (hd : decode M.2.1 pc = .ok (.saload, 1)) : zSnd Z M pc (o_ald Z.2.1 .short (pc + 1)) := by
  intro G p l e s m args below meth c F Q QX tr htr ls st σ H locs la hH hS hl hk
  unfold o_ald at hk
  split at hk
  rotate_left
  · exact hk.elim
  rename_i i k r
  split at hk
  rotate_left
  · exact hk.elim
  · rename_i a hz
    have hx : Z.2.1[k]? = some (.inr a) := by rw [← zat_eq]; assumption
    obtain ⟨aty, an⟩ := a
    cases hb : zty aty .short with
    | false => simp only [hb] at hk; exact hk.elim
    | true =>
      simp only [hb] at hk
      have hat : aty = .short := zty_eq hb
      subst hat
      have he := zW_get (G := G) (σ := σ) hx
      exact va_sald F.1 F.2.1 F.2.2.2.2.2.2.1.1 hH k 3 he rfl hk.1 hd (htr _ ls _ σ H locs la hH hS hl hk.2)
theorem s_zald (hd : decode M.2.1 pc = .ok (.baload, 1)) : zSnd Z M pc (o_ald Z.2.1 .boolean (pc + 1)) := by
  intro G p l e s m args below meth c F Q QX tr htr ls st σ H locs la hH hS hl hk
  unfold o_ald at hk
  split at hk
  rotate_left
  · exact hk.elim
  rename_i i k r
  split at hk
  rotate_left
  · exact hk.elim
  · rename_i a hz
    have hx : Z.2.1[k]? = some (.inr a) := by rw [← zat_eq]; assumption
    obtain ⟨aty, an⟩ := a
    cases hb : zty aty .boolean with
    | false => simp only [hb] at hk; exact hk.elim
    | true =>
      simp only [hb] at hk
      have hat : aty = .boolean := zty_eq hb
      subst hat
      have he := zW_get (G := G) (σ := σ) hx
      exact va_zald F.1 F.2.1 F.2.2.2.2.2.2.1.1 hH k 4 he rfl hk.1 hd (htr _ ls _ σ H locs la hH hS hl hk.2)
theorem s_lald (hd : decode M.2.1 pc = .ok (.laload, 1)) : zSnd Z M pc (o_lald Z.2.1 (pc + 1)) := by
  intro G p l e s m args below meth c F Q QX tr htr ls st σ H locs la hH hS hl hk
  unfold o_lald at hk
  split at hk
  rotate_left
  · exact hk.elim
  rename_i i k r
  split at hk
  rotate_left
  · exact hk.elim
  · rename_i a hz
    have hx : Z.2.1[k]? = some (.inr a) := by rw [← zat_eq]; assumption
    obtain ⟨aty, an⟩ := a
    cases hb : zty aty .long with
    | false => simp only [hb] at hk; exact hk.elim
    | true =>
      simp only [hb] at hk
      have hat : aty = .long := zty_eq hb
      subst hat
      have he := zW_get (G := G) (σ := σ) hx
      exact va_lald F.1 F.2.1 F.2.2.2.2.2.2.1.1 hH k 1 he rfl hk.1 hd (htr _ ls _ σ H locs la hH hS hl hk.2)
theorem s_iast (hd : decode M.2.1 pc = .ok (.iastore, 1)) : zSnd Z M pc (o_ast Z.2.1 .int (fun x => x) (pc + 1)) := by
  intro G p l e s m args below meth c F Q QX tr htr ls st σ H locs la hH hS hl hk
  unfold o_ast at hk
  split at hk
  rotate_left
  · exact hk.elim
  rename_i x i k r
  split at hk
  rotate_left
  · exact hk.elim
  · rename_i a hz
    have hx : Z.2.1[k]? = some (.inr a) := by rw [← zat_eq]; assumption
    obtain ⟨aty, an⟩ := a
    cases hb : zty aty .int with
    | false => simp only [hb] at hk; exact hk.elim
    | true =>
      simp only [hb] at hk
      have hat : aty = .int := zty_eq hb
      subst hat
      have he := zW_get (G := G) (σ := σ) hx
      refine va_iast F.1 F.2.1 F.2.2.2.2.2.2.1.1 hH (zW_D F.2.2.2.2.2.2.1.2.1) hS k 0 he rfl hk.1 hd (fun H1 locs1 hP1 _ hS1 => htr _ ls _ _ H1 locs1 la ?_ hS1 hl (hk.2 _ rfl))
      have hset := zW_set (G := G) (σ := σ) (τ := zsI σ k i.toNatClampNeg (x)) (e := .inl (G.2.1 .int, an, .inl (upd (σ.1 k) i.toNatClampNeg (x)))) hx (by
        have q : (zsI σ k i.toNatClampNeg (x)).1 k = upd (σ.1 k) i.toNatClampNeg (x) := by funext b; simp [zsI, upd]
        simp only [zcell, q]) zsI_ne
      rw [hset] at hP1
      exact hP1
theorem s_bast (hd : decode M.2.1 pc = .ok (.bastore, 1)) : zSnd Z M pc (o_ast Z.2.1 .byte (fun x => vp_nar .byte x) (pc + 1)) := by
  intro G p l e s m args below meth c F Q QX tr htr ls st σ H locs la hH hS hl hk
  unfold o_ast at hk
  split at hk
  rotate_left
  · exact hk.elim
  rename_i x i k r
  split at hk
  rotate_left
  · exact hk.elim
  · rename_i a hz
    have hx : Z.2.1[k]? = some (.inr a) := by rw [← zat_eq]; assumption
    obtain ⟨aty, an⟩ := a
    cases hb : zty aty .byte with
    | false => simp only [hb] at hk; exact hk.elim
    | true =>
      simp only [hb] at hk
      have hat : aty = .byte := zty_eq hb
      subst hat
      have he := zW_get (G := G) (σ := σ) hx
      refine va_bast F.1 F.2.1 F.2.2.2.2.2.2.1.1 hH (zW_D F.2.2.2.2.2.2.1.2.1) hS k 2 he rfl hk.1 hd (fun H1 locs1 hP1 _ hS1 => htr _ ls _ _ H1 locs1 la ?_ hS1 hl (hk.2 _ rfl))
      have hset := zW_set (G := G) (σ := σ) (τ := zsI σ k i.toNatClampNeg (vp_nar .byte x)) (e := .inl (G.2.1 .byte, an, .inl (upd (σ.1 k) i.toNatClampNeg (vp_nar .byte x)))) hx (by
        have q : (zsI σ k i.toNatClampNeg (vp_nar .byte x)).1 k = upd (σ.1 k) i.toNatClampNeg (vp_nar .byte x) := by funext b; simp [zsI, upd]
        simp only [zcell, q]) zsI_ne
      rw [hset] at hP1
      exact hP1
theorem s_sast (hd : decode M.2.1 pc = .ok (.sastore, 1)) : zSnd Z M pc (o_ast Z.2.1 .short (fun x => vp_nar .short x) (pc + 1)) := by
  intro G p l e s m args below meth c F Q QX tr htr ls st σ H locs la hH hS hl hk
  unfold o_ast at hk
  split at hk
  rotate_left
  · exact hk.elim
  rename_i x i k r
  split at hk
  rotate_left
  · exact hk.elim
  · rename_i a hz
    have hx : Z.2.1[k]? = some (.inr a) := by rw [← zat_eq]; assumption
    obtain ⟨aty, an⟩ := a
    cases hb : zty aty .short with
    | false => simp only [hb] at hk; exact hk.elim
    | true =>
      simp only [hb] at hk
      have hat : aty = .short := zty_eq hb
      subst hat
      have he := zW_get (G := G) (σ := σ) hx
      refine va_sast F.1 F.2.1 F.2.2.2.2.2.2.1.1 hH (zW_D F.2.2.2.2.2.2.1.2.1) hS k 3 he rfl hk.1 hd (fun H1 locs1 hP1 _ hS1 => htr _ ls _ _ H1 locs1 la ?_ hS1 hl (hk.2 _ rfl))
      have hset := zW_set (G := G) (σ := σ) (τ := zsI σ k i.toNatClampNeg (vp_nar .short x)) (e := .inl (G.2.1 .short, an, .inl (upd (σ.1 k) i.toNatClampNeg (vp_nar .short x)))) hx (by
        have q : (zsI σ k i.toNatClampNeg (vp_nar .short x)).1 k = upd (σ.1 k) i.toNatClampNeg (vp_nar .short x) := by funext b; simp [zsI, upd]
        simp only [zcell, q]) zsI_ne
      rw [hset] at hP1
      exact hP1
theorem s_zast (hd : decode M.2.1 pc = .ok (.bastore, 1)) : zSnd Z M pc (o_ast Z.2.1 .boolean (fun x => vp_nar .boolean x) (pc + 1)) := by
  intro G p l e s m args below meth c F Q QX tr htr ls st σ H locs la hH hS hl hk
  unfold o_ast at hk
  split at hk
  rotate_left
  · exact hk.elim
  rename_i x i k r
  split at hk
  rotate_left
  · exact hk.elim
  · rename_i a hz
    have hx : Z.2.1[k]? = some (.inr a) := by rw [← zat_eq]; assumption
    obtain ⟨aty, an⟩ := a
    cases hb : zty aty .boolean with
    | false => simp only [hb] at hk; exact hk.elim
    | true =>
      simp only [hb] at hk
      have hat : aty = .boolean := zty_eq hb
      subst hat
      have he := zW_get (G := G) (σ := σ) hx
      refine va_zast F.1 F.2.1 F.2.2.2.2.2.2.1.1 hH (zW_D F.2.2.2.2.2.2.1.2.1) hS k 4 he rfl hk.1 hd (fun H1 locs1 hP1 _ hS1 => htr _ ls _ _ H1 locs1 la ?_ hS1 hl (hk.2 _ rfl))
      have hset := zW_set (G := G) (σ := σ) (τ := zsI σ k i.toNatClampNeg (vp_nar .boolean x)) (e := .inl (G.2.1 .boolean, an, .inl (upd (σ.1 k) i.toNatClampNeg (vp_nar .boolean x)))) hx (by
        have q : (zsI σ k i.toNatClampNeg (vp_nar .boolean x)).1 k = upd (σ.1 k) i.toNatClampNeg (vp_nar .boolean x) := by funext b; simp [zsI, upd]
        simp only [zcell, q]) zsI_ne
      rw [hset] at hP1
      exact hP1
theorem s_last (hd : decode M.2.1 pc = .ok (.lastore, 1)) : zSnd Z M pc (o_last Z.2.1 (pc + 1)) := by
  intro G p l e s m args below meth c F Q QX tr htr ls st σ H locs la hH hS hl hk
  unfold o_last at hk
  split at hk
  rotate_left
  · exact hk.elim
  rename_i x i k r
  split at hk
  rotate_left
  · exact hk.elim
  · rename_i a hz
    have hx : Z.2.1[k]? = some (.inr a) := by rw [← zat_eq]; assumption
    obtain ⟨aty, an⟩ := a
    cases hb : zty aty .long with
    | false => simp only [hb] at hk; exact hk.elim
    | true =>
      simp only [hb] at hk
      have hat : aty = .long := zty_eq hb
      subst hat
      have he := zW_get (G := G) (σ := σ) hx
      refine va_last F.1 F.2.1 F.2.2.2.2.2.2.1.1 hH (zW_D F.2.2.2.2.2.2.1.2.1) hS k 1 he rfl hk.1 hd (fun H1 locs1 hP1 _ hS1 => htr _ ls _ _ H1 locs1 la ?_ hS1 hl (hk.2 _ rfl))
      have hset := zW_set (G := G) (σ := σ) (τ := zsL σ k i.toNatClampNeg x) (e := .inl (G.2.1 .long, an, .inr (.inl (vp_updL (σ.2 k) i.toNatClampNeg x)))) hx (by
        have q : (zsL σ k i.toNatClampNeg x).2 k = vp_updL (σ.2 k) i.toNatClampNeg x := by funext b; simp [zsL, vp_updL]
        simp only [zcell, q]) zsL_ne
      rw [hset] at hP1
      exact hP1
theorem s_alen (hA : ∀ (k : Nat) (a : FieldType × Nat), Z.2.1[k]? = some (Sum.inr a : zC) → a.1 = .int ∨ a.1 = .long ∨ a.1 = .byte ∨ a.1 = .short ∨ a.1 = .boolean) (hd : decode M.2.1 pc = .ok (.arraylength, 1)) : zSnd Z M pc (o_alen Z.2.1 (pc + 1)) := by
  intro G p l e s m args below meth c F Q QX tr htr ls st σ H locs la hH hS hl hk
  unfold o_alen at hk
  split at hk
  rotate_left
  · exact hk.elim
  rename_i k r
  split at hk
  rotate_left
  · exact hk.elim
  · rename_i a hz
    have hx : Z.2.1[k]? = some (.inr a) := by rw [← zat_eq]; assumption
    have he := zW_get (G := G) (σ := σ) hx
    obtain ⟨aty, an⟩ := a
    rcases hA k _ hx with q | q | q | q | q <;> (simp only at q; subst q)
    · exact va_alen F.1 F.2.1 F.2.2.2.2.2.2.1.1 hH k 0 he rfl rfl hd (htr _ ls _ σ H locs la hH hS hl hk)
    · exact va_alen F.1 F.2.1 F.2.2.2.2.2.2.1.1 hH k 1 he rfl rfl hd (htr _ ls _ σ H locs la hH hS hl hk)
    · exact va_alen F.1 F.2.1 F.2.2.2.2.2.2.1.1 hH k 2 he rfl rfl hd (htr _ ls _ σ H locs la hH hS hl hk)
    · exact va_alen F.1 F.2.1 F.2.2.2.2.2.2.1.1 hH k 3 he rfl rfl hd (htr _ ls _ σ H locs la hH hS hl hk)
    · exact va_alen F.1 F.2.1 F.2.2.2.2.2.2.1.1 hH k 4 he rfl rfl hd (htr _ ls _ σ H locs la hH hS hl hk)
theorem s_gets {C nm d : String} {k idx : Nat} (hz : ∀ (G : zG) (s : State), Z.2.2 G (zA Z G) s → va_Z C nm d (.ref (G.2.2 k)) (zA Z G) s s.heap) (hw : Cond.fieldLink M.1.cls idx C nm d ∈ zWS) (hd : decode M.2.1 pc = .ok (.getstatic idx, 3)) : zSnd Z M pc (o_gets k (pc + 3)) := by
  intro G p l e s m args below meth c F Q QX tr htr ls st σ H locs la hH hS hl hk
  exact va_gets F.1 F.2.1 (hz G s F.2.2.2.2.2.2.1.2.2.2) hS F.2.2.2.2.1 (F.2.2.2.2.2.1 _ (List.mem_cons_of_mem _ hw)) (fun _ h => h) hd (htr _ ls _ σ H locs la hH hS hl hk)
theorem s_tald {f : Nat → Int32} {k N : Nat} (hz : ∀ (G : zG) (s : State), Z.2.2 G (zA Z G) s → va_T .int (G.2.2 k) N (fun i => .int (f i)) (zA Z G) s s.heap) (hd : decode M.2.1 pc = .ok (.iaload, 1)) : zSnd Z M pc (o_tald f N k (pc + 1)) := by
  intro G p l e s m args below meth c F Q QX tr htr ls st σ H locs la hH hS hl hk
  unfold o_tald at hk
  split at hk
  rotate_left
  · exact hk.elim
  rename_i i q r
  cases hb : Nat.beq q k with
  | false => rw [hb] at hk; exact hk.elim
  | true =>
    rw [hb] at hk
    have e := Nat.eq_of_beq_eq_true hb
    subst e
    exact va_ti F.1 F.2.1 (hz G s F.2.2.2.2.2.2.1.2.2.2) hS hk.1 rfl hd (htr _ ls _ σ H locs la hH hS hl hk.2)
theorem s_tlen {f : Nat → Int32} {k N : Nat} (hz : ∀ (G : zG) (s : State), Z.2.2 G (zA Z G) s → va_T .int (G.2.2 k) N (fun i => .int (f i)) (zA Z G) s s.heap) (hd : decode M.2.1 pc = .ok (.arraylength, 1)) : zSnd Z M pc (o_tlen N k (pc + 1)) := by
  intro G p l e s m args below meth c F Q QX tr htr ls st σ H locs la hH hS hl hk
  unfold o_tlen at hk
  split at hk
  rotate_left
  · exact hk.elim
  rename_i q r
  cases hb : Nat.beq q k with
  | false => rw [hb] at hk; exact hk.elim
  | true =>
    rw [hb] at hk
    have e := Nat.eq_of_beq_eq_true hb
    subst e
    exact va_tlen F.1 F.2.1 (hz G s F.2.2.2.2.2.2.1.2.2.2) hS rfl hd (htr _ ls _ σ H locs la hH hS hl hk)
theorem z_callk {G : zG} {p : Program} {l : Launch} {e : Env} {s : State} {m : MethodId} {args : Array Value} {below : List Frame} {meth : Method} {c : Code} (F : zF Z M G p l e s m args below meth c) {Q Q' : Option Value → zS → Prop} {QX : zS → Prop} {la : Array Slot} {st0 rest : List Value} {a : Array Value} {H : Heap} {locs : List Loc}
    (hr : vx_Run p l e (zR M.2.2.2.2) s m args below meth c H locs 0 0 0 0 (F0 m pc la st0) rest (zQc Z G Q' a) (zXC Z G QX) (zA Z G)) (hS : va_S (zA Z G) s.heap H locs)
    (kk : ∀ (v : Option Value) (σ' : zS) (H1 : Heap) (locs1 : List Loc), Q' v σ' → zHd Z G σ' H1 → va_S (zA Z G) s.heap H1 locs1 → W p l e (zR M.2.2.2.2) s m args below meth c H1 locs1 0 0 (vx_MQ below (zQc Z G Q) (zXC Z G QX) args s 0 0 (zA Z G)) (F0 m (pc + 3) la ((v.map (zv G.2.2)).toList ++ rest))) :
    W p l e (zR M.2.2.2.2) s m args below meth c H locs 0 0 (vx_MQ below (zQc Z G Q) (zXC Z G QX) args s 0 0 (zA Z G)) (F0 m pc la st0) := by
  intro T hT X
  rcases hr T hT X with ⟨v, st₀, t, T', L, h0, X', hL, e1, e2, ⟨⟨v', σ', hv, hq, hH'⟩, hF⟩, st⟩ | ⟨q, st₀, t, T', L, E, ce, h0, X', hL, e1, e2, ⟨hE, ⟨σ', hq, hH'⟩, hF⟩, hce, hcv, hcl, st⟩
  · cases hv
    obtain ⟨k1, k2, k3⟩ := vx_keep h0 e1 hS (fun q _ h => h) (fun q h => h) hL hF
    obtain ⟨t2, a1, b1⟩ := kk v' σ' T'.heap (locs ++ L) hq (by rw [e1]; exact hH') k3 T' rfl X'
    exact ⟨t2, st t2 a1, b1⟩
  · subst hE
    obtain ⟨k1, k2, k3⟩ := vx_keep h0 e1 hS (fun q _ h => h) (fun q h => h) hL hF
    obtain ⟨t2, a1, b1⟩ := (vx_out (pc := pc) (rest := rest) (ls := la) (Qc := zQc Z G Q) (XC := zXC Z G QX) (mc := 0) (ms := 0) (free := zA Z G) (fun x hx => (F.2.2.2.2.2.2.2.2.1 x hx).elim) F.2.2.2.2.2.2.2.1 (by rw [e1]; exact hce) hcv hcl (fun t' ht' _ => ⟨rfl, ⟨σ', hq, by rw [ht', e1]; exact hH'⟩, k3.F ht'⟩) k3.2.2 (Nat.le_refl _) (Nat.le_refl _)) T' rfl X'
    exact ⟨t2, st.trans a1, b1⟩
abbrev zCal (M' : zM) : Prop := Cond.code M'.1 M'.2.1 M'.2.2.1 M'.2.2.2.1 ∈ zWS ∧ Cond.initialized M'.1.cls ∈ zWS ∧ (M'.1.cls ≠ "java/lang/invoke/MethodHandle" ∧ M'.1.cls ≠ "java/lang/invoke/VarHandle")
abbrev zRm (M M' : zM) : Prop := M'.2.2.2.2 + 1 ≤ M.2.2.2.2 ∧ 8 + (M'.2.2.1 + 11) + 40 * M'.2.2.2.2 ≤ 40 * M.2.2.2.2
theorem zGood {w0 w1 : Cond} (h : w1 ∈ zWS) : GoodIn (w0 :: zWS) (w1 :: zWS) := by
  intro w hw
  have hw' : w ∈ zWS := by
    rcases List.mem_cons.mp hw with q | q
    · rw [q]; exact h
    · exact q
  exact ⟨List.mem_cons_of_mem _ hw', good_of_word (List.mem_filter.mp hw').2⟩
theorem zCallB {G : zG} {p : Program} {l : Launch} {e : Env} {s : State} {m : MethodId} {args : Array Value} {below : List Frame} {meth : Method} {c : Code} (F : zF Z M G p l e s m args below meth c) {M' : zM} {na idx : Nat} (hM : zCal M') (hp : (parseMethodDescriptor M'.1.desc).map (fun d => d.parameters.length) = some na) (hR : zRm M M') (hl : Cond.methodLink M.1.cls idx M'.1 ∈ zWS) :
    CallB (zR M.2.2.2.2) s args M.1.cls idx M'.1 M'.2.1 M'.2.2.1 M'.2.2.2.1 (Cond.code M'.1 M'.2.1 M'.2.2.1 M'.2.2.2.1 :: zWS) (zR M'.2.2.2.2) 0 0 na := by
  refine ⟨rfl, rfl, hR.1, hR.2, pay_in F.2.2.2.2.2.1 (zGood hM.1), List.mem_cons_self, F.2.2.2.2.2.1 _ (List.mem_cons_of_mem _ hM.1), F.2.2.2.2.2.1 _ (List.mem_cons_of_mem _ hM.2.1), hM.2.2, fun sig h => ?_, F.2.2.2.2.2.1 _ (List.mem_cons_of_mem _ hl)⟩
  rw [h] at hp
  exact (Option.some.inj hp).symm
theorem zCallN {G : zG} {p : Program} {l : Launch} {e : Env} {s : State} {m : MethodId} {args : Array Value} {below : List Frame} {meth : Method} {c : Code} (F : zF Z M G p l e s m args below meth c) {M' : zM} {na idx : Nat} {host : String} (hM : zCal M') (hp : (parseMethodDescriptor M'.1.desc).map (fun d => d.parameters.length) = some na) (hR : zRm M M') (hl : Cond.methodLinkNest M.1.cls idx M'.1 host ∈ zNW) :
    va_CN (zR M.2.2.2.2) s args M.1.cls idx M'.1 host M'.2.1 M'.2.2.1 M'.2.2.2.1 (Cond.code M'.1 M'.2.1 M'.2.2.1 M'.2.2.2.1 :: zWS) (zR M'.2.2.2.2) 0 0 na := by
  refine ⟨⟨rfl, rfl, hR.1, hR.2, pay_in F.2.2.2.2.2.1 (zGood hM.1), List.mem_cons_self⟩, F.2.2.2.2.2.1 _ (List.mem_cons_of_mem _ hM.1), F.2.2.2.2.2.1 _ (List.mem_cons_of_mem _ hM.2.1), hM.2.2, fun sig h => ?_, va_Nw.use rfl (F.2.2.2.2.2.2.1.2.2.1 _ hl)⟩
  rw [h] at hp
  exact (Option.some.inj hp).symm
theorem zpush_map (ad : Nat → Nat) (v : Option Value) (r : List Value) : (v.map (zv ad)).toList ++ r.map (zv ad) = (zpush v r).map (zv ad) := by cases v <;> rfl
theorem s_callV {ci na kd idx N : Nat} {M' : zM} {T : u_T} {ty : Nat → FieldType} (hC : zCls Z ci M'.1.cls T N ty) (hM : zCal M') (hv : Cond.instanceMethod M'.1 ∈ zWS ∧ Cond.selects M'.1.cls M'.1 M'.1 ∈ zWS) (hp : (parseMethodDescriptor M'.1.desc).map (fun d => d.parameters.length) = some na) (hR : zRm M M') (hw : Cond.methodLink M.1.cls idx M'.1 ∈ zWS) (hd : decode M.2.1 pc = .ok (.invokevirtual idx, 3)) : zSnd Z M pc (o_callV Z ci M' na kd (pc + 3)) := by
  intro G p l e s m args below meth c F Q QX tr htr ls st σ H locs la hH hS hl hk
  unfold o_callV at hk
  split at hk
  rotate_left
  · exact hk.elim
  rename_i as k r hpop
  obtain ⟨q, hq1, hq2, hq3⟩ := zpop_spec hpop
  split at hk
  rotate_left
  · exact hk.elim
  · rename_i o hz
    have hx : Z.2.1[k]? = some (.inl o) := by rw [← zat_eq]; assumption
    cases hb : Nat.beq o.1 ci with
    | false => rw [hb] at hk; exact hk.elim
    | true =>
      rw [hb] at hk
      have ho : o.1 = ci := Nat.eq_of_beq_eq_true hb
      have he : (zW Z G σ)[k]? = some (G.2.2 k, .inr (ci, o.2.mapIdx fun j k' => zv G.2.2 (zsl σ k j k'))) := by
        have q := zW_get (G := G) (σ := σ) hx
        rw [← ho]; exact q
      cases hb2 : Nat.ble (zcs r) 8 with
      | false => rw [hb2] at hk; exact hk.elim
      | true =>
        rw [hb2] at hk
        have hcs := Nat.le_of_ble_eq_true hb2
        have has : as = q.reverse := by rw [hq3, List.append_nil]
        refine z_callk F (vx_runV (As := as.map (zv G.2.2)) (rest := r.map (zv G.2.2)) ⟨F.1, F.2.1, F.2.2.2.1, F.2.2.2.2.1, F.2.2.2.2.2.1⟩ (hk l G) ⟨zCallB F hM hp hR hw, F.2.2.2.2.2.1 _ (List.mem_cons_of_mem _ hv.1), F.2.2.2.2.2.1 _ (List.mem_cons_of_mem _ hv.2)⟩ ⟨zPc_blind F.2.2.2.2.2.2.2.2.2, va_recv F.2.2.2.2.2.2.1.1 hH hC.1 he, fun U hU hW => ⟨rfl, by rw [hU]; exact hH, zEnv_warm F.2.2.2.2.2.2.2.2.2 F.2.2.2.2.2.2.1 hU hW hS⟩⟩ rfl (by rw [has]; simp [hq1]) hl.1 (by rw [hq2, has]; simp [zv]) (lv_room (by rw [zcs_eq]; exact hcs)) hd ⟨Nat.le_refl _, Nat.le_refl _⟩) hS (fun v σ' H1 locs1 hQ' hH1 hS1 => ?_)
        rw [zpush_map]
        exact htr _ ls _ σ' H1 locs1 la hH1 hS1 hl (zQk_elim hQ')
theorem s_callVN {ci na kd idx N : Nat} {M' : zM} {T : u_T} {ty : Nat → FieldType} {host : String} (hC : zCls Z ci M'.1.cls T N ty) (hM : zCal M') (hv : Cond.instanceMethod M'.1 ∈ zWS ∧ Cond.selects M'.1.cls M'.1 M'.1 ∈ zWS) (hp : (parseMethodDescriptor M'.1.desc).map (fun d => d.parameters.length) = some na) (hR : zRm M M') (hw : Cond.methodLinkNest M.1.cls idx M'.1 host ∈ zNW) (hd : decode M.2.1 pc = .ok (.invokevirtual idx, 3)) : zSnd Z M pc (o_callV Z ci M' na kd (pc + 3)) := by
  intro G p l e s m args below meth c F Q QX tr htr ls st σ H locs la hH hS hl hk
  unfold o_callV at hk
  split at hk
  rotate_left
  · exact hk.elim
  rename_i as k r hpop
  obtain ⟨q, hq1, hq2, hq3⟩ := zpop_spec hpop
  split at hk
  rotate_left
  · exact hk.elim
  · rename_i o hz
    have hx : Z.2.1[k]? = some (.inl o) := by rw [← zat_eq]; assumption
    cases hb : Nat.beq o.1 ci with
    | false => rw [hb] at hk; exact hk.elim
    | true =>
      rw [hb] at hk
      have ho : o.1 = ci := Nat.eq_of_beq_eq_true hb
      have he : (zW Z G σ)[k]? = some (G.2.2 k, .inr (ci, o.2.mapIdx fun j k' => zv G.2.2 (zsl σ k j k'))) := by
        have q := zW_get (G := G) (σ := σ) hx
        rw [← ho]; exact q
      cases hb2 : Nat.ble (zcs r) 8 with
      | false => rw [hb2] at hk; exact hk.elim
      | true =>
        rw [hb2] at hk
        have hcs := Nat.le_of_ble_eq_true hb2
        have has : as = q.reverse := by rw [hq3, List.append_nil]
        refine z_callk F (vx_runVN (As := as.map (zv G.2.2)) (rest := r.map (zv G.2.2)) ⟨F.1, F.2.1, F.2.2.2.1, F.2.2.2.2.1, F.2.2.2.2.2.1⟩ (hk l G) ⟨zCallN F hM hp hR hw, F.2.2.2.2.2.1 _ (List.mem_cons_of_mem _ hv.1), F.2.2.2.2.2.1 _ (List.mem_cons_of_mem _ hv.2)⟩ ⟨zPc_blind F.2.2.2.2.2.2.2.2.2, va_recv F.2.2.2.2.2.2.1.1 hH hC.1 he, fun U hU hW => ⟨rfl, by rw [hU]; exact hH, zEnv_warm F.2.2.2.2.2.2.2.2.2 F.2.2.2.2.2.2.1 hU hW hS⟩⟩ rfl (by rw [has]; simp [hq1]) hl.1 (by rw [hq2, has]; simp [zv]) (lv_room (by rw [zcs_eq]; exact hcs)) hd ⟨Nat.le_refl _, Nat.le_refl _⟩) hS (fun v σ' H1 locs1 hQ' hH1 hS1 => ?_)
        rw [zpush_map]
        exact htr _ ls _ σ' H1 locs1 la hH1 hS1 hl (zQk_elim hQ')
theorem s_callS {na kd idx : Nat} {M' : zM} (hM : zCal M') (hv : Cond.static M'.1 ∈ zWS) (hp : (parseMethodDescriptor M'.1.desc).map (fun d => d.parameters.length) = some na) (hR : zRm M M') (hw : Cond.methodLink M.1.cls idx M'.1 ∈ zWS) (hd : decode M.2.1 pc = .ok (.invokestatic idx, 3)) : zSnd Z M pc (o_callS Z M' na kd (pc + 3)) := by
  intro G p l e s m args below meth c F Q QX tr htr ls st σ H locs la hH hS hl hk
  unfold o_callS at hk
  split at hk
  rotate_left
  · exact hk.elim
  rename_i as r hpop
  obtain ⟨q, hq1, hq2, hq3⟩ := zpop_spec hpop
  cases hb2 : Nat.ble (zcs r) 8 with
  | false => rw [hb2] at hk; exact hk.elim
  | true =>
    rw [hb2] at hk
    have hcs := Nat.le_of_ble_eq_true hb2
    have has : as = q.reverse := by rw [hq3, List.append_nil]
    refine z_callk F (vx_runS (As := as.map (zv G.2.2)) (rest := r.map (zv G.2.2)) ⟨F.1, F.2.1, F.2.2.2.1, F.2.2.2.2.1, F.2.2.2.2.2.1⟩ (hk l G) ⟨zCallB F hM hp hR hw, F.2.2.2.2.2.1 _ (List.mem_cons_of_mem _ hv)⟩ ⟨zPc_blind F.2.2.2.2.2.2.2.2.2, fun U hU hW => ⟨rfl, by rw [hU]; exact hH, zEnv_warm F.2.2.2.2.2.2.2.2.2 F.2.2.2.2.2.2.1 hU hW hS⟩⟩ rfl (by rw [has]; simp [hq1]) hl.1 (by rw [hq2, has]; simp) (lv_room (by rw [zcs_eq]; exact hcs)) hd ⟨Nat.le_refl _, Nat.le_refl _⟩) hS (fun v σ' H1 locs1 hQ' hH1 hS1 => ?_)
    rw [zpush_map]
    exact htr _ ls _ σ' H1 locs1 la hH1 hS1 hl (zQk_elim hQ')
theorem s_callSN {na kd idx : Nat} {M' : zM} {host : String} (hM : zCal M') (hv : Cond.static M'.1 ∈ zWS) (hp : (parseMethodDescriptor M'.1.desc).map (fun d => d.parameters.length) = some na) (hR : zRm M M') (hw : Cond.methodLinkNest M.1.cls idx M'.1 host ∈ zNW) (hd : decode M.2.1 pc = .ok (.invokestatic idx, 3)) : zSnd Z M pc (o_callS Z M' na kd (pc + 3)) := by
  intro G p l e s m args below meth c F Q QX tr htr ls st σ H locs la hH hS hl hk
  unfold o_callS at hk
  split at hk
  rotate_left
  · exact hk.elim
  rename_i as r hpop
  obtain ⟨q, hq1, hq2, hq3⟩ := zpop_spec hpop
  cases hb2 : Nat.ble (zcs r) 8 with
  | false => rw [hb2] at hk; exact hk.elim
  | true =>
    rw [hb2] at hk
    have hcs := Nat.le_of_ble_eq_true hb2
    have has : as = q.reverse := by rw [hq3, List.append_nil]
    refine z_callk F (vx_runSN (As := as.map (zv G.2.2)) (rest := r.map (zv G.2.2)) ⟨F.1, F.2.1, F.2.2.2.1, F.2.2.2.2.1, F.2.2.2.2.2.1⟩ (hk l G) ⟨zCallN F hM hp hR hw, F.2.2.2.2.2.1 _ (List.mem_cons_of_mem _ hv), trivial⟩ ⟨zPc_blind F.2.2.2.2.2.2.2.2.2, fun U hU hW => ⟨rfl, by rw [hU]; exact hH, zEnv_warm F.2.2.2.2.2.2.2.2.2 F.2.2.2.2.2.2.1 hU hW hS⟩⟩ rfl (by rw [has]; simp [hq1]) hl.1 (by rw [hq2, has]; simp) (lv_room (by rw [zcs_eq]; exact hcs)) hd ⟨Nat.le_refl _, Nat.le_refl _⟩) hS (fun v σ' H1 locs1 hQ' hH1 hS1 => ?_)
    rw [zpush_map]
    exact htr _ ls _ σ' H1 locs1 la hH1 hS1 hl (zQk_elim hQ')
theorem s_athrow {ci N : Nat} {T : u_T} (hC : Z.1[ci]? = some ("java/lang/IllegalStateException", T, N)) (hd : decode M.2.1 pc = .ok (.athrow, 1)) : zSnd Z M pc (o_athrow Z.2.1 ci) := by
  intro G p l e s m args below meth c F Q QX tr htr ls st σ H locs la hH hS hl hk
  unfold o_athrow at hk
  split at hk
  rotate_left
  · exact hk.elim
  rename_i k r
  split at hk
  rotate_left
  · exact hk.elim
  · rename_i o hz
    have hx : Z.2.1[k]? = some (.inl o) := by rw [← zat_eq]; assumption
    cases hb : Nat.beq o.1 ci with
    | false => rw [hb] at hk; exact hk.elim
    | true =>
      rw [hb] at hk
      have ho : o.1 = ci := Nat.eq_of_beq_eq_true hb
      have he : (zW Z G σ)[k]? = some (G.2.2 k, .inr (ci, o.2.mapIdx fun j k' => zv G.2.2 (zsl σ k j k'))) := by
        have q := zW_get (G := G) (σ := σ) hx
        rw [← ho]; exact q
      obtain ⟨r0, h1, cell, q1, q2, q3, -⟩ := hH k _ he
      exact vx_athrow F.1 F.2.1 hd (vx_out (fun x hx => (F.2.2.2.2.2.2.2.2.1 x hx).elim) F.2.2.2.2.2.2.2.1 q1 q3 (by rw [q2]; exact (F.2.2.2.2.2.2.1.1.1 ci _ hC).2.1) (fun t' ht' _ => ⟨rfl, ⟨σ, hk, by rw [ht']; exact hH⟩, hS.F ht'⟩) hS.2.2 (Nat.le_refl _) (Nat.le_refl _))
end ZHEAP
