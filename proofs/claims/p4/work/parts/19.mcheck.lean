/-! check() of the reference: its calls with the handler, its end with the modules changed over, its code -/
def zmX10_check : zM := (yX10_check, cX10_check, 3, some .int, 10)
def zx0 : ExceptionTableEntry := ⟨61, 71, 74, 30⟩
section
variable {Z : zZ} {M : zM} {QS : Option Value → zS → Prop} {pc : Nat}
theorem zCallBH {G : zG} {p : Program} {l : Launch} {e : Env} {s : State} {m : MethodId} {args : Array Value} {below : List Frame} {meth : Method} {c : Code} (F : zFH Z M G p l e s m args below meth c) {M' : zM} {na idx : Nat} (hM : zCal M') (hp : (parseMethodDescriptor M'.1.desc).map (fun d => d.parameters.length) = some na) (hR : zRm M M') (hl : Cond.methodLink M.1.cls idx M'.1 ∈ zWS) :
    CallB (zR M.2.2.2.2) s args M.1.cls idx M'.1 M'.2.1 M'.2.2.1 M'.2.2.2.1 (Cond.code M'.1 M'.2.1 M'.2.2.1 M'.2.2.2.1 :: zWS) (zR M'.2.2.2.2) 0 0 na := by
  refine ⟨rfl, rfl, hR.1, hR.2, pay_in F.2.2.2.2.2.1 (zGood hM.1), List.mem_cons_self, F.2.2.2.2.2.1 _ (List.mem_cons_of_mem _ hM.1), F.2.2.2.2.2.1 _ (List.mem_cons_of_mem _ hM.2.1), hM.2.2, fun sig h => ?_, F.2.2.2.2.2.1 _ (List.mem_cons_of_mem _ hl)⟩
  rw [h] at hp
  exact (Option.some.inj hp).symm
theorem z_callkH {G : zG} {p : Program} {l : Launch} {e : Env} {s : State} {m : MethodId} {args : Array Value} {below : List Frame} {meth : Method} {c : Code} (F : zFH Z M G p l e s m args below meth c) {Q Q' : Option Value → zS → Prop} {QX QX' : zS → Prop} {la : Array Slot} {st0 rest : List Value} {a : Array Value} {H : Heap} {locs : List Loc}
    (hr : vx_Run p l e (zR M.2.2.2.2) s m args below meth c H locs 0 0 0 0 (F0 m pc la st0) rest (zQc Z G Q' a) (zXC Z G QX') (zA Z G)) (hS : va_S (zA Z G) s.heap H locs)
    (kk : ∀ (v : Option Value) (σ' : zS) (H1 : Heap) (locs1 : List Loc), Q' v σ' → zHd Z G σ' H1 → va_S (zA Z G) s.heap H1 locs1 → W p l e (zR M.2.2.2.2) s m args below meth c H1 locs1 0 0 (vx_MQ below (zQcH Z G Q QS) (zXC Z G QX) args s 0 0 (zA Z G)) (F0 m (pc + 3) la ((v.map (zv G.2.2)).toList ++ rest)))
    (kx : ∀ (q : Addr) (ce : Cell) (σ' : zS) (H1 : Heap) (locs1 : List Loc), QX' σ' → zHd Z G σ' H1 → va_S (zA Z G) s.heap H1 locs1 → H1[q]? = some ce → ce.vm = .none → s.vm.findClass "java/lang/IllegalStateException" = some ce.cls → vx_W p l e (zR M.2.2.2.2) s m args below meth c H1 locs1 0 0 (vx_MQ below (zQcH Z G Q QS) (zXC Z G QX) args s 0 0 (zA Z G)) (F0 m pc la rest) q) :
    W p l e (zR M.2.2.2.2) s m args below meth c H locs 0 0 (vx_MQ below (zQcH Z G Q QS) (zXC Z G QX) args s 0 0 (zA Z G)) (F0 m pc la st0) := by
  intro T hT X
  rcases hr T hT X with ⟨v, st₀, t, T', L, h0, X', hL, e1, e2, ⟨⟨v', σ', hv, hq, hH'⟩, hF⟩, st⟩ | ⟨q, st₀, t, T', L, E, ce, h0, X', hL, e1, e2, ⟨hE, ⟨σ', hq, hH'⟩, hF⟩, hce, hcv, hcl, st⟩
  · cases hv
    obtain ⟨k1, k2, k3⟩ := vx_keep h0 e1 hS (fun q _ h => h) (fun q h => h) hL hF
    obtain ⟨t2, a1, b1⟩ := kk v' σ' T'.heap (locs ++ L) hq (by rw [e1]; exact hH') k3 T' rfl X'
    exact ⟨t2, st t2 a1, b1⟩
  · subst hE
    obtain ⟨k1, k2, k3⟩ := vx_keep h0 e1 hS (fun q _ h => h) (fun q h => h) hL hF
    obtain ⟨t2, a1, b1⟩ := (kx q ce σ' T'.heap (locs ++ L) hq (by rw [e1]; exact hH') k3 (by rw [e1]; exact hce) hcv hcl) T' rfl X'
    exact ⟨t2, st.trans a1, b1⟩
def o_callVH (Z : zZ) (ci : Nat) (M' : zM) (na n hn i : Nat) : zOp := fun _ _ tr ls st σ => match zpop na [] st with
  | some (as, .ref k :: r) => match zat Z.2.1 k with
    | some (.inl o) => bif Nat.beq o.1 ci then (bif Nat.ble (zcs r) 8 then zCT Z M' (.ref k :: as) σ (zQk 0 (fun v σ' => tr n ls (zpush v r) σ')) (fun σ' => tr hn (zdel1 i ls) [] σ') else False) else False
    | _ => False
  | _ => False
theorem z_asg (vm : Vm) (c : ClassId) : vm.assignable c c = true := by
  show vm.assignableAux _ c c = true
  unfold Vm.assignableAux
  simp
theorem z_cast {args : Array Value} {s : State} {c : ClassId} {E : String} (h : s.vm.findClass E = some c) : (Cond.castable E E).before args s = true := by
  simp [Cond.before, Cond.holds, Cond.value, h, z_asg]
theorem sH_callV {ci na idx N : Nat} {M' : zM} {T : u_T} {ty : Nat → FieldType} (hC : zCls Z ci M'.1.cls T N ty) (hM : zCal M') (hv : Cond.instanceMethod M'.1 ∈ zWS ∧ Cond.selects M'.1.cls M'.1 M'.1 ∈ zWS) (hp : (parseMethodDescriptor M'.1.desc).map (fun d => d.parameters.length) = some na) (hR : zRm M M') (hw : Cond.methodLink M.1.cls idx M'.1 ∈ zWS) (hd : decode M.2.1 pc = .ok (.invokevirtual idx, 3))
    (hcov : covers zx0 pc = true) (hlk : Cond.classLink M.1.cls 30 "java/lang/IllegalStateException" ∈ zWS) (hda : decode M.2.1 74 = .ok (.astore_n 2, 1)) (hb3 : 2 < M.2.2.1) : zSndH Z M QS pc (o_callVH Z ci M' na (pc + 3) 75 2) := by
  intro G p l e s m args below meth c F Q QX tr htr ls st σ H locs la hH hS hl hk
  unfold o_callVH at hk
  split at hk
  rotate_left
  · exact hk.elim
  rename_i as k r hpop
  obtain ⟨q, hq1, hq2, hq3⟩ := zpop_spec hpop
  split at hk
  rotate_left
  · exact hk.elim
  · rename_i o hz
    have hx : Z.2.1[k]? = some (.inl o) := by rw [← zat_eq]; assumption
    cases hb : Nat.beq o.1 ci with
    | false => rw [hb] at hk; exact hk.elim
    | true =>
      rw [hb] at hk
      have ho : o.1 = ci := Nat.eq_of_beq_eq_true hb
      have he : (zW Z G σ)[k]? = some (G.2.2 k, .inr (ci, o.2.mapIdx fun j k' => zv G.2.2 (zsl σ k j k'))) := by
        have q := zW_get (G := G) (σ := σ) hx
        rw [← ho]; exact q
      cases hb2 : Nat.ble (zcs r) 8 with
      | false => rw [hb2] at hk; exact hk.elim
      | true =>
        rw [hb2] at hk
        have hcs := Nat.le_of_ble_eq_true hb2
        have has : as = q.reverse := by rw [hq3, List.append_nil]
        refine z_callkH F (vx_runV (As := as.map (zv G.2.2)) (rest := r.map (zv G.2.2)) ⟨F.1, F.2.1, F.2.2.2.1, F.2.2.2.2.1, F.2.2.2.2.2.1⟩ (hk l G) ⟨zCallBH F hM hp hR hw, F.2.2.2.2.2.1 _ (List.mem_cons_of_mem _ hv.1), F.2.2.2.2.2.1 _ (List.mem_cons_of_mem _ hv.2)⟩ ⟨zPc_blind F.2.2.2.2.2.2.2.2.2, va_recv F.2.2.2.2.2.2.1.1 hH hC.1 he, fun U hU hW => ⟨rfl, by rw [hU]; exact hH, zEnv_warm F.2.2.2.2.2.2.2.2.2 F.2.2.2.2.2.2.1 hU hW hS⟩⟩ rfl (by rw [has]; simp [hq1]) hl.1 (by rw [hq2, has]; simp [zv]) (lv_room (by rw [zcs_eq]; exact hcs)) hd ⟨Nat.le_refl _, Nat.le_refl _⟩) hS (fun v σ' H1 locs1 hQ' hH1 hS1 => ?_) (fun q ce σ' H1 locs1 hQ' hH1 hS1 h1 h2 h3 => ?_)
        · rw [zpush_map]
          exact htr _ ls _ σ' H1 locs1 la hH1 hS1 hl (zQk_elim hQ')
        · refine vx_catch (own := M.1.cls) (name := "java/lang/IllegalStateException") F.2.2.2.2.1 [] zx0 [] (F.2.2.2.2.2.2.2.2.1.trans rfl) (fun z hz => absurd hz (List.not_mem_nil)) hcov (by decide) (F.2.2.2.2.2.1 _ (List.mem_cons_of_mem _ hlk)) (z_cast h3) h1 h2 h3 ?_
          exact lv_astore_n F.1 F.2.1 hda rfl hl hb3 rfl (fun la' h' => htr 75 _ [] σ' H1 locs1 la' hH1 hS1 (zhas_sub h' (fun x hx => by
            obtain ⟨y, hy, rfl⟩ := List.mem_map.mp hx
            have hy2 := zdel1_mem hy
            refine List.mem_cons_of_mem _ (List.mem_filter.mpr ⟨List.mem_map.mpr ⟨y, hy2.1, rfl⟩, ?_⟩)
            simpa [zv_cat] using hy2.2)) hQ')
end
/-! the modules changed over -/
def zswK (κ : zK) : zK := if κ.1 = 2 then (2, zrl κ.2) else κ
def zswC (x : zC) : zC := match x with
  | .inl o => .inl (o.1, o.2.map zswK)
  | .inr a => .inr a
theorem zrl_Y : ∀ k : Fin 100, (k : Nat) = 0 ∨ zYM[zrl k]? = (zYM[(k : Nat)]?).map zswC := by decide +kernel
theorem zYM_len : zYM.length = 100 := by decide +kernel
theorem zrl_lt {k : Nat} (h : k < 100) : zrl k < 100 := by unfold zrl; repeat' split
                                                           all_goals omega
theorem zrl_zrl {k : Nat} : zrl (zrl k) = k := by
  have h : ∀ k : Nat, zrl k = if k = 1 then 2 else if k = 2 then 1 else if 14 ≤ k ∧ k ≤ 56 then k + 43 else if 57 ≤ k ∧ k ≤ 99 then k - 43 else k := fun _ => rfl
  by_cases h1 : k = 1
  · subst h1; rfl
  by_cases h2 : k = 2
  · subst h2; rfl
  by_cases h3 : 14 ≤ k ∧ k ≤ 56
  · rw [h k, if_neg h1, if_neg h2, if_pos h3, h, if_neg (by omega), if_neg (by omega), if_neg (by omega), if_pos (by omega)]; omega
  by_cases h4 : 57 ≤ k ∧ k ≤ 99
  · rw [h k, if_neg h1, if_neg h2, if_neg h3, if_pos h4, h, if_neg (by omega), if_neg (by omega), if_pos (by omega)]; omega
  · rw [h k, if_neg h1, if_neg h2, if_neg h3, if_neg h4, h, if_neg h1, if_neg h2, if_neg h3, if_neg h4]
theorem zrl_0 {k : Nat} (h : ¬ k = 0) : ¬ zrl k = 0 := by
  intro q
  have := congrArg zrl q
  rw [zrl_zrl] at this
  exact h this
theorem zcell_sw (G : zG) (σ : zS) (k : Nat) (x : zC) : zcell (zGsw G) (zSsw σ) k x = zcell G σ (zrl k) (zswC x) := by
  cases x with
  | inr a => rfl
  | inl o =>
    have h : ∀ (κ : zK) (j : Nat), zv (zGsw G).2.2 (zsl (zSsw σ) k j κ) = zv G.2.2 (zsl σ (zrl k) j (zswK κ)) := by
      intro κ j
      obtain ⟨a, b⟩ := κ
      match a with
      | 0 => rfl
      | 1 => rfl
      | 2 => rfl
      | n + 3 => rfl
    show (Sum.inr (o.1, o.2.mapIdx fun j κ => zv (zGsw G).2.2 (zsl (zSsw σ) k j κ)) : va_E) = Sum.inr (o.1, (o.2.map zswK).mapIdx fun j κ => zv G.2.2 (zsl σ (zrl k) j κ))
    congr 2
    apply List.ext_getElem?
    intro i
    simp only [List.getElem?_mapIdx, List.getElem?_map, Option.map_map, Function.comp_def, h]
def zK0 : List zK := match (zYM[0]? : Option zC) with
  | some (Sum.inl o) => o.2
  | _ => []
theorem zY0 : zYM[0]? = some (Sum.inl (0, zK0)) := rfl
theorem zK0_len : zK0.length = 32 := rfl
theorem zK0_2 : zK0[2]? = some (0, 0) := rfl
theorem zK0_sw : zK0.map zswK = (zK0.set 1 (2, 2)).set 0 (2, 1) := by decide +kernel
def zfs0 (G : zG) (σ : zS) : List Value := zK0.mapIdx fun j κ => zv G.2.2 (zsl σ 0 j κ)
theorem zfs0_len (G : zG) (σ : zS) : (zfs0 G σ).length = 32 := by unfold zfs0; rw [List.length_mapIdx]; exact zK0_len
theorem zfs0_cell (G : zG) (σ : zS) : zcell G σ 0 (Sum.inl (0, zK0)) = Sum.inr (0, zfs0 G σ) := rfl
theorem zfs0_sw (G : zG) (σ : zS) : (Sum.inr (0, ((zfs0 G σ).set 1 (.ref (G.2.2 2))).set 0 (.ref (G.2.2 1))) : va_E) = zcell (zGsw G) (zSsw σ) 0 (Sum.inl (0, zK0)) := by
  rw [zcell_sw]
  show (Sum.inr (0, ((zfs0 G σ).set 1 (.ref (G.2.2 2))).set 0 (.ref (G.2.2 1))) : va_E) = Sum.inr (0, (zK0.map zswK).mapIdx fun j κ => zv G.2.2 (zsl σ 0 j κ))
  rw [zK0_sw]
  refine congrArg (fun z : List Value => (Sum.inr (0, z) : va_E)) ?_
  unfold zfs0
  generalize hk : zK0 = K0
  have hlen : K0.length = 32 := by rw [← hk]; exact zK0_len
  apply List.ext_getElem?
  intro j
  rw [List.getElem?_mapIdx, List.getElem?_set, List.getElem?_set, List.getElem?_set, List.getElem?_set, List.getElem?_mapIdx]
  simp only [List.length_set, List.length_mapIdx, hlen]
  by_cases h0 : 0 = j
  · subst h0; rfl
  · rw [if_neg h0, if_neg h0]
    by_cases h1 : 1 = j
    · subst h1; rfl
    · rw [if_neg h1, if_neg h1]
theorem z_swap_hd {G : zG} {σ : zS} {H : Heap} (hP : va_P G.1 zclM (((zW zZM G σ).set 0 (G.2.2 0, .inr (0, (zfs0 G σ).set 1 (.ref (G.2.2 2))))).set 0 (G.2.2 0, .inr (0, ((zfs0 G σ).set 1 (.ref (G.2.2 2))).set 0 (.ref (G.2.2 1))))) H) : zHd zZM (zGsw G) (zSsw σ) H := by
  intro k q hk
  have hl : (zW zZM G σ).length = 100 := by unfold zW; rw [List.length_mapIdx]; exact zYM_len
  have h1 := (zW_at hk).1
  have h1 : k < 100 := by rw [← zYM_len]; exact h1
  have hx : zYM[k]? = some (zYM[k]'(by rw [zYM_len]; exact h1)) := List.getElem?_eq_getElem _
  have hk2 := zW_get (Z := zZM) (G := zGsw G) (σ := zSsw σ) (c := k) hx
  cases hk.symm.trans hk2
  by_cases q0 : k = 0
  · subst q0
    refine hP 0 _ ?_
    rw [List.getElem?_set, if_pos rfl, if_pos (by rw [List.length_set, hl]; omega), zfs0_sw]
    have e0 : zYM[0]'(by rw [zYM_len]; exact h1) = Sum.inl (0, zK0) := Option.some.inj (hx.symm.trans zY0)
    rw [e0]
    rfl
  · refine hP (zrl k) _ ?_
    rw [List.getElem?_set, if_neg (fun z => zrl_0 q0 z.symm), List.getElem?_set, if_neg (fun z => zrl_0 q0 z.symm)]
    have hY := (zrl_Y ⟨k, h1⟩).resolve_left q0
    have hY : zYM[zrl k]? = (zYM[k]?).map zswC := hY
    rw [hx] at hY
    rw [zW_get (Z := zZM) (G := G) (σ := σ) (c := zrl k) hY, zcell_sw]
    rfl
def o_swap (QS : Option Value → zS → Prop) : zOp := fun _ _ _ ls st σ => match zget ls 0, zget ls 1, st with
  | some (.ref a), some (.ref b), [.ref c, .ref d] => bif Nat.beq a 0 && Nat.beq b 1 && Nat.beq c 2 && Nat.beq d 0 then QS (some (.int 0)) (zsI (zSsw σ) 0 2 1) else False
  | _, _, _ => False
theorem o_swap_of {QS Q : Option Value → zS → Prop} {QX : zS → Prop} {tr : Nat → zKK} {ls : zLo} {st : List Value} {σ : zS} (h : o_swap QS Q QX tr ls st σ) : zget ls 0 = some (.ref 0) ∧ zget ls 1 = some (.ref 1) ∧ st = [.ref 2, .ref 0] ∧ QS (some (.int 0)) (zsI (zSsw σ) 0 2 1) := by
  unfold o_swap at h
  split at h
  · rename_i a b c d h1 h2
    cases q1 : Nat.beq a 0 with
    | false => rw [q1] at h; exact h.elim
    | true =>
      cases q2 : Nat.beq b 1 with
      | false => rw [q1, q2] at h; exact h.elim
      | true =>
        cases q3 : Nat.beq c 2 with
        | false => rw [q1, q2, q3] at h; exact h.elim
        | true =>
          cases q4 : Nat.beq d 0 with
          | false => rw [q1, q2, q3, q4] at h; exact h.elim
          | true =>
            rw [q1, q2, q3, q4] at h
            cases Nat.eq_of_beq_eq_true q1
            cases Nat.eq_of_beq_eq_true q2
            cases Nat.eq_of_beq_eq_true q3
            cases Nat.eq_of_beq_eq_true q4
            exact ⟨h1, h2, rfl, h⟩
  · exact h.elim
set_option maxRecDepth 20000 in
theorem sH_swap {QS : Option Value → zS → Prop} : zSndH zZM zmX10_check QS 98 (o_swap QS) := by
  intro G p l e s m args below meth c F Q QX tr htr ls st σ H locs la hH hS hl hk
  obtain ⟨h0, h1, rfl, hq⟩ := o_swap_of hk
  have hC := zcX10
  have hinj := F.2.2.2.2.2.2.1.2.1
  have he : (zW zZM G σ)[0]? = some (G.2.2 0, .inr (0, zfs0 G σ)) := (zW_get (Z := zZM) (G := G) (σ := σ) zY0).trans (by rw [zfs0_cell])
  have hl0 : (zfs0 G σ).length = 32 := zfs0_len G σ
  have hlen : (zW zZM G σ).length = 100 := by unfold zW; rw [List.length_mapIdx]; exact zYM_len
  have la0 := zget_at h0 hl
  have la1 := zget_at h1 hl
  refine va_put F.1 F.2.1 F.2.2.2.2.2.1 (fun w hw => List.mem_cons_of_mem _ (hC.2.1 w hw)) tyX10 hC.2.2.1 hC.2.2.2 F.2.2.2.2.1 F.2.2.2.2.2.2.1.1 hH (zW_D hinj) hS 0 he hC.1 1 (by decide) (index := 16) (F.2.2.2.2.2.1 _ (List.mem_cons_of_mem _ (zWS5 161 rfl rfl))) (fun _ h => h) rfl (ty := .object "ModuleCheckModel$Module") (by decide +kernel) rfl rfl (by rw [hl0]; omega) (by decide +kernel) (fun H1 locs1 hP1 hD1 hS1 => ?_)
  refine lv_aload_n F.1 F.2.1 (k := 0) (by decide +kernel) rfl la0 ?_
  refine lv_aload_n F.1 F.2.1 (k := 1) (by decide +kernel) rfl la1 ?_
  have he1 : ((zW zZM G σ).set 0 (G.2.2 0, .inr (0, (zfs0 G σ).set 1 (.ref (G.2.2 2)))))[0]? = some (G.2.2 0, .inr (0, (zfs0 G σ).set 1 (.ref (G.2.2 2)))) := by
    rw [List.getElem?_set, if_pos rfl, if_pos (by rw [hlen]; omega)]
  refine va_put F.1 F.2.1 F.2.2.2.2.2.1 (fun w hw => List.mem_cons_of_mem _ (hC.2.1 w hw)) tyX10 hC.2.2.1 hC.2.2.2 F.2.2.2.2.1 F.2.2.2.2.2.2.1.1 hP1 hD1 hS1 0 he1 hC.1 0 (by decide) (index := 10) (F.2.2.2.2.2.1 _ (List.mem_cons_of_mem _ (zWS5 160 rfl rfl))) (fun _ h => h) rfl (ty := .object "ModuleCheckModel$Module") (by decide +kernel) rfl rfl (by rw [List.length_set, hl0]; omega) (by decide +kernel) (fun H2 locs2 hP2 hD2 hS2 => ?_)
  have hH2 := z_swap_hd hP2
  have hinj' : ∀ i j : Nat, i < zZM.2.1.length → j < zZM.2.1.length → (zGsw G).2.2 i = (zGsw G).2.2 j → i = j := by
    intro i j hi hj e
    have hi : i < 100 := by rw [← zYM_len]; exact hi
    have hj : j < 100 := by rw [← zYM_len]; exact hj
    have := hinj (zrl i) (zrl j) (by show _ < zYM.length; rw [zYM_len]; exact zrl_lt hi) (by show _ < zYM.length; rw [zYM_len]; exact zrl_lt hj) e
    have := congrArg zrl this
    rwa [zrl_zrl, zrl_zrl] at this
  have hAA : ∀ q, zA zZM (zGsw G) q → zA zZM G q := by
    rintro q ⟨c', hc', rfl⟩
    have hc' : c' < 100 := by rw [← zYM_len]; exact hc'
    exact ⟨zrl c', by show _ < zYM.length; rw [zYM_len]; exact zrl_lt hc', rfl⟩
  have hD3 : va_D (zA zZM G) (zW zZM (zGsw G) (zSsw σ)) := ⟨(zW_D hinj').1, fun k q h => hAA _ ((zW_D hinj').2 k q h)⟩
  have he3 : (zW zZM (zGsw G) (zSsw σ))[0]? = some (G.2.2 0, .inr (0, zfs0 (zGsw G) (zSsw σ))) := (zW_get (Z := zZM) (G := zGsw G) (σ := zSsw σ) zY0).trans (by rw [zfs0_cell]; rfl)
  refine lv_aload_n F.1 F.2.1 (k := 0) (by decide +kernel) rfl la0 ?_
  refine lv_iconst F.1 F.2.1 (n := 1) (v := 1) (by decide +kernel) (by decide +kernel) ?_
  refine va_put F.1 F.2.1 F.2.2.2.2.2.1 (fun w hw => List.mem_cons_of_mem _ (hC.2.1 w hw)) tyX10 hC.2.2.1 hC.2.2.2 F.2.2.2.2.1 F.2.2.2.2.2.2.1.1 hH2 hD3 hS2 0 he3 hC.1 2 (by decide) (index := 93) (F.2.2.2.2.2.1 _ (List.mem_cons_of_mem _ (zWS5 162 rfl rfl))) (fun _ h => h) rfl (ty := .boolean) (by decide +kernel) rfl rfl (by rw [zfs0_len]; omega) (by decide +kernel) (fun H3 locs3 hP3 hD4 hS3 => ?_)
  have hset : (zW zZM (zGsw G) (zSsw σ)).set 0 (G.2.2 0, .inr (0, (zfs0 (zGsw G) (zSsw σ)).set 2 (.int 1))) = zW zZM (zGsw G) (zsI (zSsw σ) 0 2 1) := by
    refine zW_set (Z := zZM) (G := zGsw G) (c := 0) zY0 ?_ zsI_ne
    rw [zfs0_cell]
    unfold zfs0
    rw [zfs_set (σ := zSsw σ) (τ := zsI (zSsw σ) 0 2 1) zK0_2 (v := .int 1) (by simp [zsl, zsI, zv]) (fun i hi => by simp [zsI, hi])]
  have hH3 : zHd zZM (zGsw G) (zsI (zSsw σ) 0 2 1) H3 := by show va_P G.1 zclM _ H3; rw [← hset]; exact hP3
  refine lv_iconst F.1 F.2.1 (n := 0) (v := 0) (by decide +kernel) (by decide +kernel) ?_
  exact vx_ret (W.iret F.1 F.2.1 (F.2.2.1.trans rfl) (fun t ht hW => ⟨⟨some (.int 0), _, rfl, Or.inr ⟨hq, by rw [ht]; exact hH3⟩⟩, hS3.F ht⟩) hS3.2.2 (by decide +kernel) F.2.2.2.2.2.2.2.1)
