/-! the constructor of ModuleCheck$Answers -/
def fz_Answers : List Value := [.null, .null, .null, .null, .null, .int 0, .int 0, .int 0]
set_option maxRecDepth 20000 in
theorem fz_Answers_ok : ∀ j, j < 8 → defaultValue (tyX0 j) = vp_V fz_Answers j := by decide +kernel
def tn_Answers : List (Nat × FieldType × Nat) := [(0, .int, 13), (1, .int, 64), (2, .int, 64), (3, .int, 64), (4, .short, 16000)]
set_option maxHeartbeats 4000000 in
set_option maxRecDepth 100000 in
theorem c_Answers (l : Launch) (D : va_G) (dA : FieldType → ClassId) (h0 sz : Nat) : kc_W l D zclC dA yX0_init cX0_init 1 1 5 16205 8 fz_Answers [] (kc_arrs dA 8 fz_Answers tn_Answers) h0 sz := by
  refine Met.ofW (cc := cX0_init) (maxL := 1) (ret := none) (by decide +kernel) rfl ?_
  intro p e s m args below meth c s₁ B hml hv
  obtain ⟨rfl, hsz, hP, hK, hD0, hNW⟩ := hv
  have hx := B.exec
  have hb := B.bytes
  have hr := B.returns
  have hts := atoms_spec (ws := Cond.code yX0_init cX0_init 1 none :: zWS) B.pre
  have hown : s.vm.findClass RX0 = some m.cls := findClass_of_methodNamed B.named
  have hlocks := B.notSynchronized
  have hin : meth.name = "<init>" := (name_of_methodNamed B.named B.method).1
  have hw : ∀ w ∈ u_ws RX0 TX0 8, w ∈ Cond.code yX0_init cX0_init 1 none :: zWS := fun w h => List.mem_cons_of_mem _ (zcX0.2.1 w h)
  subst hsz
  have hD := hD0.self (sz := s.heap.size)
  generalize hAe : va_A [(h0, .inr (8, fz_Answers))] s.heap.size = A at hD ⊢
  have hA : ∀ q : Nat, s.heap.size ≤ q → A q := fun q h => by rw [← hAe]; exact Or.inr h
  have hS : va_S A s.heap s.heap [] := va_S.rf
  have hl := lv_entry ([.ref h0]) (n := 1) (Nat.le_of_ble_eq_true rfl)
  rw [lg_entry_eq]
  generalize (lg_sl ([.ref h0]) ++ List.replicate (1 - (lg_sl ([.ref h0])).length) Slot.unset).toArray = ls at hl ⊢
  have hl : lv_has ls 1 [(0, .ref h0)] := hl
  have hl0 := lv_at hl 0 rfl
  have hN : fz_Answers.length = 8 := rfl
  have dc_1 : decode cX0_init 1 = .ok (.invokespecial 3, 3) := by decide +kernel
  refine lv_aload_n hx hb (k := 0) (by decide +kernel) rfl hl0 ?_
  refine W.objInit (idx := 3) hx hb hown (hts _ (List.mem_cons_of_mem _ (zWS1 142 rfl rfl))) (hts _ (List.mem_cons_of_mem _ (zWS1 28 rfl rfl))) (hts _ (List.mem_cons_of_mem _ (zWS1 29 rfl rfl))) rfl (by rw [hml]; exact hl.1) rfl dc_1 (Nat.le_of_ble_eq_true rfl) (Nat.le_of_ble_eq_true rfl) ?_
  refine W.eq (g2 := F0 m 4 ls []) rfl ?_
  refine kc_arr hx hb hts hw tyX0 zcX0.2.2.1 zcX0.2.2.2 hown hin (own := RX0) (ci := 8) rfl hK hA hP hD hS hl0 (pc := 4) (pn := 7) (k := 0) (idx := 9) (Nat.le_of_ble_eq_true rfl) (n := 13) (N := 13) (atype := .int) (ty := .int) (Or.inl rfl) rfl (by decide +kernel) (fun hh => lv_bipush hx hb (n := 13) (by decide +kernel) (by decide +kernel) hh) (by decide +kernel) (by decide +kernel) (hts _ (List.mem_cons_of_mem _ (zWS1 135 rfl rfl))) (by decide +kernel) (by decide +kernel) (Nat.le_of_ble_eq_true rfl) (Nat.le_of_ble_eq_true rfl) (Nat.le_of_ble_eq_true rfl) (hts _ (List.mem_cons_of_mem _ (zWS1 143 rfl rfl))) rfl rfl (by decide +kernel) hN (fun q0 H locs hN hP hD hS => ?_)
  refine kc_arr hx hb hts hw tyX0 zcX0.2.2.1 zcX0.2.2.2 hown hin (own := RX0) (ci := 8) rfl hK hA hP hD hS hl0 (pc := 12) (pn := 15) (k := 1) (idx := 15) (Nat.le_of_ble_eq_true rfl) (n := 64) (N := 64) (atype := .int) (ty := .int) (Or.inl rfl) rfl (by decide +kernel) (fun hh => lv_bipush hx hb (n := 64) (by decide +kernel) (by decide +kernel) hh) (by decide +kernel) (by decide +kernel) (hts _ (List.mem_cons_of_mem _ (zWS1 135 rfl rfl))) (by decide +kernel) (by decide +kernel) (Nat.le_of_ble_eq_true rfl) (Nat.le_of_ble_eq_true rfl) (Nat.le_of_ble_eq_true rfl) (hts _ (List.mem_cons_of_mem _ (zWS1 144 rfl rfl))) rfl rfl (by decide +kernel) hN (fun q1 H locs hN hP hD hS => ?_)
  refine kc_arr hx hb hts hw tyX0 zcX0.2.2.1 zcX0.2.2.2 hown hin (own := RX0) (ci := 8) rfl hK hA hP hD hS hl0 (pc := 20) (pn := 23) (k := 2) (idx := 18) (Nat.le_of_ble_eq_true rfl) (n := 64) (N := 64) (atype := .int) (ty := .int) (Or.inl rfl) rfl (by decide +kernel) (fun hh => lv_bipush hx hb (n := 64) (by decide +kernel) (by decide +kernel) hh) (by decide +kernel) (by decide +kernel) (hts _ (List.mem_cons_of_mem _ (zWS1 135 rfl rfl))) (by decide +kernel) (by decide +kernel) (Nat.le_of_ble_eq_true rfl) (Nat.le_of_ble_eq_true rfl) (Nat.le_of_ble_eq_true rfl) (hts _ (List.mem_cons_of_mem _ (zWS1 145 rfl rfl))) rfl rfl (by decide +kernel) hN (fun q2 H locs hN hP hD hS => ?_)
  refine kc_arr hx hb hts hw tyX0 zcX0.2.2.1 zcX0.2.2.2 hown hin (own := RX0) (ci := 8) rfl hK hA hP hD hS hl0 (pc := 28) (pn := 31) (k := 3) (idx := 21) (Nat.le_of_ble_eq_true rfl) (n := 64) (N := 64) (atype := .int) (ty := .int) (Or.inl rfl) rfl (by decide +kernel) (fun hh => lv_bipush hx hb (n := 64) (by decide +kernel) (by decide +kernel) hh) (by decide +kernel) (by decide +kernel) (hts _ (List.mem_cons_of_mem _ (zWS1 135 rfl rfl))) (by decide +kernel) (by decide +kernel) (Nat.le_of_ble_eq_true rfl) (Nat.le_of_ble_eq_true rfl) (Nat.le_of_ble_eq_true rfl) (hts _ (List.mem_cons_of_mem _ (zWS1 147 rfl rfl))) rfl rfl (by decide +kernel) hN (fun q3 H locs hN hP hD hS => ?_)
  refine kc_arr hx hb hts hw tyX0 zcX0.2.2.1 zcX0.2.2.2 hown hin (own := RX0) (ci := 8) rfl hK hA hP hD hS hl0 (pc := 36) (pn := 40) (k := 4) (idx := 24) (Nat.le_of_ble_eq_true rfl) (n := 16000) (N := 16000) (atype := .short) (ty := .short) (Or.inr (Or.inr (Or.inr (Or.inl rfl)))) rfl (by decide +kernel) (fun hh => lv_sipush hx hb (n := 16000) (by decide +kernel) (by decide +kernel) hh) (by decide +kernel) (by decide +kernel) (hts _ (List.mem_cons_of_mem _ (zWS1 171 rfl rfl))) (by decide +kernel) (by decide +kernel) (Nat.le_of_ble_eq_true rfl) (Nat.le_of_ble_eq_true rfl) (Nat.le_of_ble_eq_true rfl) (hts _ (List.mem_cons_of_mem _ (zWS1 149 rfl rfl))) rfl rfl (by decide +kernel) hN (fun q4 H locs hN hP hD hS => ?_)
  refine W.vret hx hb hr (fun t ht hW => ⟨⟨_, rfl, ⟨[(0, q0, .int, 13), (1, q1, .int, 64), (2, q2, .int, 64), (3, q3, .int, 64), (4, q4, .short, 16000)], rfl, rfl⟩, ?_, ?_⟩, hS.F ht⟩) hS.2.2 (by decide +kernel)
  · rw [ht]; simp only [modFsL, modLL]; exact hP
  · simp only [modFsL, modLL]; exact hD
/-! the constructor of ModuleCheck$Facts -/
def fz_Facts : List Value := [.null, .null, .null, .null, .null, .null, .null, .null, .int 0, .int 0, .int 0, .int 0, .int 0, .int 0, .long 0]
set_option maxRecDepth 20000 in
theorem fz_Facts_ok : ∀ j, j < 15 → defaultValue (tyX2 j) = vp_V fz_Facts j := by decide +kernel
def tn_Facts : List (Nat × FieldType × Nat) := [(0, .int, 64), (1, .int, 1024), (2, .int, 64), (3, .int, 96), (4, .int, 64), (5, .boolean, 64), (6, .int, 16), (7, .int, 13)]
set_option maxHeartbeats 4000000 in
set_option maxRecDepth 100000 in
theorem c_Facts (l : Launch) (D : va_G) (dA : FieldType → ClassId) (h0 sz : Nat) : kc_W l D zclC dA yX2_init cX2_init 1 1 8 1405 2 fz_Facts [] (kc_arrs dA 2 fz_Facts tn_Facts) h0 sz := by
  refine Met.ofW (cc := cX2_init) (maxL := 1) (ret := none) (by decide +kernel) rfl ?_
  intro p e s m args below meth c s₁ B hml hv
  obtain ⟨rfl, hsz, hP, hK, hD0, hNW⟩ := hv
  have hx := B.exec
  have hb := B.bytes
  have hr := B.returns
  have hts := atoms_spec (ws := Cond.code yX2_init cX2_init 1 none :: zWS) B.pre
  have hown : s.vm.findClass RX2 = some m.cls := findClass_of_methodNamed B.named
  have hlocks := B.notSynchronized
  have hin : meth.name = "<init>" := (name_of_methodNamed B.named B.method).1
  have hw : ∀ w ∈ u_ws RX2 TX2 15, w ∈ Cond.code yX2_init cX2_init 1 none :: zWS := fun w h => List.mem_cons_of_mem _ (zcX2.2.1 w h)
  subst hsz
  have hD := hD0.self (sz := s.heap.size)
  generalize hAe : va_A [(h0, .inr (2, fz_Facts))] s.heap.size = A at hD ⊢
  have hA : ∀ q : Nat, s.heap.size ≤ q → A q := fun q h => by rw [← hAe]; exact Or.inr h
  have hS : va_S A s.heap s.heap [] := va_S.rf
  have hl := lv_entry ([.ref h0]) (n := 1) (Nat.le_of_ble_eq_true rfl)
  rw [lg_entry_eq]
  generalize (lg_sl ([.ref h0]) ++ List.replicate (1 - (lg_sl ([.ref h0])).length) Slot.unset).toArray = ls at hl ⊢
  have hl : lv_has ls 1 [(0, .ref h0)] := hl
  have hl0 := lv_at hl 0 rfl
  have hN : fz_Facts.length = 15 := rfl
  have dc_1 : decode cX2_init 1 = .ok (.invokespecial 3, 3) := by decide +kernel
  refine lv_aload_n hx hb (k := 0) (by decide +kernel) rfl hl0 ?_
  refine W.objInit (idx := 3) hx hb hown (hts _ (List.mem_cons_of_mem _ (zWS1 71 rfl rfl))) (hts _ (List.mem_cons_of_mem _ (zWS1 28 rfl rfl))) (hts _ (List.mem_cons_of_mem _ (zWS1 29 rfl rfl))) rfl (by rw [hml]; exact hl.1) rfl dc_1 (Nat.le_of_ble_eq_true rfl) (Nat.le_of_ble_eq_true rfl) ?_
  refine W.eq (g2 := F0 m 4 ls []) rfl ?_
  refine kc_arr hx hb hts hw tyX2 zcX2.2.2.1 zcX2.2.2.2 hown hin (own := RX2) (ci := 2) rfl hK hA hP hD hS hl0 (pc := 4) (pn := 7) (k := 0) (idx := 9) (Nat.le_of_ble_eq_true rfl) (n := 64) (N := 64) (atype := .int) (ty := .int) (Or.inl rfl) rfl (by decide +kernel) (fun hh => lv_bipush hx hb (n := 64) (by decide +kernel) (by decide +kernel) hh) (by decide +kernel) (by decide +kernel) (hts _ (List.mem_cons_of_mem _ (zWS1 135 rfl rfl))) (by decide +kernel) (by decide +kernel) (Nat.le_of_ble_eq_true rfl) (Nat.le_of_ble_eq_true rfl) (Nat.le_of_ble_eq_true rfl) (hts _ (List.mem_cons_of_mem _ (zWS1 72 rfl rfl))) rfl rfl (by decide +kernel) hN (fun q0 H locs hN hP hD hS => ?_)
  refine kc_arr hx hb hts hw tyX2 zcX2.2.2.1 zcX2.2.2.2 hown hin (own := RX2) (ci := 2) rfl hK hA hP hD hS hl0 (pc := 12) (pn := 16) (k := 1) (idx := 15) (Nat.le_of_ble_eq_true rfl) (n := 1024) (N := 1024) (atype := .int) (ty := .int) (Or.inl rfl) rfl (by decide +kernel) (fun hh => lv_sipush hx hb (n := 1024) (by decide +kernel) (by decide +kernel) hh) (by decide +kernel) (by decide +kernel) (hts _ (List.mem_cons_of_mem _ (zWS1 135 rfl rfl))) (by decide +kernel) (by decide +kernel) (Nat.le_of_ble_eq_true rfl) (Nat.le_of_ble_eq_true rfl) (Nat.le_of_ble_eq_true rfl) (hts _ (List.mem_cons_of_mem _ (zWS1 74 rfl rfl))) rfl rfl (by decide +kernel) hN (fun q1 H locs hN hP hD hS => ?_)
  refine kc_arr hx hb hts hw tyX2 zcX2.2.2.1 zcX2.2.2.2 hown hin (own := RX2) (ci := 2) rfl hK hA hP hD hS hl0 (pc := 21) (pn := 24) (k := 2) (idx := 18) (Nat.le_of_ble_eq_true rfl) (n := 64) (N := 64) (atype := .int) (ty := .int) (Or.inl rfl) rfl (by decide +kernel) (fun hh => lv_bipush hx hb (n := 64) (by decide +kernel) (by decide +kernel) hh) (by decide +kernel) (by decide +kernel) (hts _ (List.mem_cons_of_mem _ (zWS1 135 rfl rfl))) (by decide +kernel) (by decide +kernel) (Nat.le_of_ble_eq_true rfl) (Nat.le_of_ble_eq_true rfl) (Nat.le_of_ble_eq_true rfl) (hts _ (List.mem_cons_of_mem _ (zWS1 75 rfl rfl))) rfl rfl (by decide +kernel) hN (fun q2 H locs hN hP hD hS => ?_)
  refine kc_arr hx hb hts hw tyX2 zcX2.2.2.1 zcX2.2.2.2 hown hin (own := RX2) (ci := 2) rfl hK hA hP hD hS hl0 (pc := 29) (pn := 32) (k := 3) (idx := 21) (Nat.le_of_ble_eq_true rfl) (n := 96) (N := 96) (atype := .int) (ty := .int) (Or.inl rfl) rfl (by decide +kernel) (fun hh => lv_bipush hx hb (n := 96) (by decide +kernel) (by decide +kernel) hh) (by decide +kernel) (by decide +kernel) (hts _ (List.mem_cons_of_mem _ (zWS1 135 rfl rfl))) (by decide +kernel) (by decide +kernel) (Nat.le_of_ble_eq_true rfl) (Nat.le_of_ble_eq_true rfl) (Nat.le_of_ble_eq_true rfl) (hts _ (List.mem_cons_of_mem _ (zWS1 77 rfl rfl))) rfl rfl (by decide +kernel) hN (fun q3 H locs hN hP hD hS => ?_)
  refine kc_arr hx hb hts hw tyX2 zcX2.2.2.1 zcX2.2.2.2 hown hin (own := RX2) (ci := 2) rfl hK hA hP hD hS hl0 (pc := 37) (pn := 40) (k := 4) (idx := 24) (Nat.le_of_ble_eq_true rfl) (n := 64) (N := 64) (atype := .int) (ty := .int) (Or.inl rfl) rfl (by decide +kernel) (fun hh => lv_bipush hx hb (n := 64) (by decide +kernel) (by decide +kernel) hh) (by decide +kernel) (by decide +kernel) (hts _ (List.mem_cons_of_mem _ (zWS1 135 rfl rfl))) (by decide +kernel) (by decide +kernel) (Nat.le_of_ble_eq_true rfl) (Nat.le_of_ble_eq_true rfl) (Nat.le_of_ble_eq_true rfl) (hts _ (List.mem_cons_of_mem _ (zWS1 78 rfl rfl))) rfl rfl (by decide +kernel) hN (fun q4 H locs hN hP hD hS => ?_)
  refine kc_arr hx hb hts hw tyX2 zcX2.2.2.1 zcX2.2.2.2 hown hin (own := RX2) (ci := 2) rfl hK hA hP hD hS hl0 (pc := 45) (pn := 48) (k := 5) (idx := 27) (Nat.le_of_ble_eq_true rfl) (n := 64) (N := 64) (atype := .boolean) (ty := .boolean) (Or.inr (Or.inr (Or.inr (Or.inr rfl)))) rfl (by decide +kernel) (fun hh => lv_bipush hx hb (n := 64) (by decide +kernel) (by decide +kernel) hh) (by decide +kernel) (by decide +kernel) (hts _ (List.mem_cons_of_mem _ (zWS1 136 rfl rfl))) (by decide +kernel) (by decide +kernel) (Nat.le_of_ble_eq_true rfl) (Nat.le_of_ble_eq_true rfl) (Nat.le_of_ble_eq_true rfl) (hts _ (List.mem_cons_of_mem _ (zWS1 79 rfl rfl))) rfl rfl (by decide +kernel) hN (fun q5 H locs hN hP hD hS => ?_)
  refine kc_arr hx hb hts hw tyX2 zcX2.2.2.1 zcX2.2.2.2 hown hin (own := RX2) (ci := 2) rfl hK hA hP hD hS hl0 (pc := 53) (pn := 56) (k := 6) (idx := 31) (Nat.le_of_ble_eq_true rfl) (n := 16) (N := 16) (atype := .int) (ty := .int) (Or.inl rfl) rfl (by decide +kernel) (fun hh => lv_bipush hx hb (n := 16) (by decide +kernel) (by decide +kernel) hh) (by decide +kernel) (by decide +kernel) (hts _ (List.mem_cons_of_mem _ (zWS1 135 rfl rfl))) (by decide +kernel) (by decide +kernel) (Nat.le_of_ble_eq_true rfl) (Nat.le_of_ble_eq_true rfl) (Nat.le_of_ble_eq_true rfl) (hts _ (List.mem_cons_of_mem _ (zWS1 80 rfl rfl))) rfl rfl (by decide +kernel) hN (fun q6 H locs hN hP hD hS => ?_)
  refine kc_arr hx hb hts hw tyX2 zcX2.2.2.1 zcX2.2.2.2 hown hin (own := RX2) (ci := 2) rfl hK hA hP hD hS hl0 (pc := 61) (pn := 64) (k := 7) (idx := 34) (Nat.le_of_ble_eq_true rfl) (n := 13) (N := 13) (atype := .int) (ty := .int) (Or.inl rfl) rfl (by decide +kernel) (fun hh => lv_bipush hx hb (n := 13) (by decide +kernel) (by decide +kernel) hh) (by decide +kernel) (by decide +kernel) (hts _ (List.mem_cons_of_mem _ (zWS1 135 rfl rfl))) (by decide +kernel) (by decide +kernel) (Nat.le_of_ble_eq_true rfl) (Nat.le_of_ble_eq_true rfl) (Nat.le_of_ble_eq_true rfl) (hts _ (List.mem_cons_of_mem _ (zWS1 81 rfl rfl))) rfl rfl (by decide +kernel) hN (fun q7 H locs hN hP hD hS => ?_)
  refine W.vret hx hb hr (fun t ht hW => ⟨⟨_, rfl, ⟨[(0, q0, .int, 64), (1, q1, .int, 1024), (2, q2, .int, 64), (3, q3, .int, 96), (4, q4, .int, 64), (5, q5, .boolean, 64), (6, q6, .int, 16), (7, q7, .int, 13)], rfl, rfl⟩, ?_, ?_⟩, hS.F ht⟩) hS.2.2 (by decide +kernel)
  · rw [ht]; simp only [modFsL, modLL]; exact hP
  · simp only [modFsL, modLL]; exact hD
/-! the constructor of ModuleCheck$Frames -/
def fz_Frames : List Value := [.null, .null, .null, .null, .null, .int 0, .int 0, .int 0]
set_option maxRecDepth 20000 in
theorem fz_Frames_ok : ∀ j, j < 8 → defaultValue (tyX3 j) = vp_V fz_Frames j := by decide +kernel
def tn_Frames : List (Nat × FieldType × Nat) := [(0, .int, 61), (1, .int, 61), (2, .int, 61), (3, .boolean, 61), (4, .byte, 16000)]
set_option maxHeartbeats 4000000 in
set_option maxRecDepth 100000 in
theorem c_Frames (l : Launch) (D : va_G) (dA : FieldType → ClassId) (h0 sz : Nat) : kc_W l D zclC dA yX3_init cX3_init 1 1 5 16244 5 fz_Frames [] (kc_arrs dA 5 fz_Frames tn_Frames) h0 sz := by
  refine Met.ofW (cc := cX3_init) (maxL := 1) (ret := none) (by decide +kernel) rfl ?_
  intro p e s m args below meth c s₁ B hml hv
  obtain ⟨rfl, hsz, hP, hK, hD0, hNW⟩ := hv
  have hx := B.exec
  have hb := B.bytes
  have hr := B.returns
  have hts := atoms_spec (ws := Cond.code yX3_init cX3_init 1 none :: zWS) B.pre
  have hown : s.vm.findClass RX3 = some m.cls := findClass_of_methodNamed B.named
  have hlocks := B.notSynchronized
  have hin : meth.name = "<init>" := (name_of_methodNamed B.named B.method).1
  have hw : ∀ w ∈ u_ws RX3 TX3 8, w ∈ Cond.code yX3_init cX3_init 1 none :: zWS := fun w h => List.mem_cons_of_mem _ (zcX3.2.1 w h)
  subst hsz
  have hD := hD0.self (sz := s.heap.size)
  generalize hAe : va_A [(h0, .inr (5, fz_Frames))] s.heap.size = A at hD ⊢
  have hA : ∀ q : Nat, s.heap.size ≤ q → A q := fun q h => by rw [← hAe]; exact Or.inr h
  have hS : va_S A s.heap s.heap [] := va_S.rf
  have hl := lv_entry ([.ref h0]) (n := 1) (Nat.le_of_ble_eq_true rfl)
  rw [lg_entry_eq]
  generalize (lg_sl ([.ref h0]) ++ List.replicate (1 - (lg_sl ([.ref h0])).length) Slot.unset).toArray = ls at hl ⊢
  have hl : lv_has ls 1 [(0, .ref h0)] := hl
  have hl0 := lv_at hl 0 rfl
  have hN : fz_Frames.length = 8 := rfl
  have dc_1 : decode cX3_init 1 = .ok (.invokespecial 3, 3) := by decide +kernel
  refine lv_aload_n hx hb (k := 0) (by decide +kernel) rfl hl0 ?_
  refine W.objInit (idx := 3) hx hb hown (hts _ (List.mem_cons_of_mem _ (zWS1 189 rfl rfl))) (hts _ (List.mem_cons_of_mem _ (zWS1 28 rfl rfl))) (hts _ (List.mem_cons_of_mem _ (zWS1 29 rfl rfl))) rfl (by rw [hml]; exact hl.1) rfl dc_1 (Nat.le_of_ble_eq_true rfl) (Nat.le_of_ble_eq_true rfl) ?_
  refine W.eq (g2 := F0 m 4 ls []) rfl ?_
  refine kc_arr hx hb hts hw tyX3 zcX3.2.2.1 zcX3.2.2.2 hown hin (own := RX3) (ci := 5) rfl hK hA hP hD hS hl0 (pc := 4) (pn := 7) (k := 0) (idx := 9) (Nat.le_of_ble_eq_true rfl) (n := 61) (N := 61) (atype := .int) (ty := .int) (Or.inl rfl) rfl (by decide +kernel) (fun hh => lv_bipush hx hb (n := 61) (by decide +kernel) (by decide +kernel) hh) (by decide +kernel) (by decide +kernel) (hts _ (List.mem_cons_of_mem _ (zWS1 135 rfl rfl))) (by decide +kernel) (by decide +kernel) (Nat.le_of_ble_eq_true rfl) (Nat.le_of_ble_eq_true rfl) (Nat.le_of_ble_eq_true rfl) (hts _ (List.mem_cons_of_mem _ (zWS1 190 rfl rfl))) rfl rfl (by decide +kernel) hN (fun q0 H locs hN hP hD hS => ?_)
  refine kc_arr hx hb hts hw tyX3 zcX3.2.2.1 zcX3.2.2.2 hown hin (own := RX3) (ci := 5) rfl hK hA hP hD hS hl0 (pc := 12) (pn := 15) (k := 1) (idx := 15) (Nat.le_of_ble_eq_true rfl) (n := 61) (N := 61) (atype := .int) (ty := .int) (Or.inl rfl) rfl (by decide +kernel) (fun hh => lv_bipush hx hb (n := 61) (by decide +kernel) (by decide +kernel) hh) (by decide +kernel) (by decide +kernel) (hts _ (List.mem_cons_of_mem _ (zWS1 135 rfl rfl))) (by decide +kernel) (by decide +kernel) (Nat.le_of_ble_eq_true rfl) (Nat.le_of_ble_eq_true rfl) (Nat.le_of_ble_eq_true rfl) (hts _ (List.mem_cons_of_mem _ (zWS1 191 rfl rfl))) rfl rfl (by decide +kernel) hN (fun q1 H locs hN hP hD hS => ?_)
  refine kc_arr hx hb hts hw tyX3 zcX3.2.2.1 zcX3.2.2.2 hown hin (own := RX3) (ci := 5) rfl hK hA hP hD hS hl0 (pc := 20) (pn := 23) (k := 2) (idx := 18) (Nat.le_of_ble_eq_true rfl) (n := 61) (N := 61) (atype := .int) (ty := .int) (Or.inl rfl) rfl (by decide +kernel) (fun hh => lv_bipush hx hb (n := 61) (by decide +kernel) (by decide +kernel) hh) (by decide +kernel) (by decide +kernel) (hts _ (List.mem_cons_of_mem _ (zWS1 135 rfl rfl))) (by decide +kernel) (by decide +kernel) (Nat.le_of_ble_eq_true rfl) (Nat.le_of_ble_eq_true rfl) (Nat.le_of_ble_eq_true rfl) (hts _ (List.mem_cons_of_mem _ (zWS1 192 rfl rfl))) rfl rfl (by decide +kernel) hN (fun q2 H locs hN hP hD hS => ?_)
  refine kc_arr hx hb hts hw tyX3 zcX3.2.2.1 zcX3.2.2.2 hown hin (own := RX3) (ci := 5) rfl hK hA hP hD hS hl0 (pc := 28) (pn := 31) (k := 3) (idx := 21) (Nat.le_of_ble_eq_true rfl) (n := 61) (N := 61) (atype := .boolean) (ty := .boolean) (Or.inr (Or.inr (Or.inr (Or.inr rfl)))) rfl (by decide +kernel) (fun hh => lv_bipush hx hb (n := 61) (by decide +kernel) (by decide +kernel) hh) (by decide +kernel) (by decide +kernel) (hts _ (List.mem_cons_of_mem _ (zWS1 136 rfl rfl))) (by decide +kernel) (by decide +kernel) (Nat.le_of_ble_eq_true rfl) (Nat.le_of_ble_eq_true rfl) (Nat.le_of_ble_eq_true rfl) (hts _ (List.mem_cons_of_mem _ (zWS1 193 rfl rfl))) rfl rfl (by decide +kernel) hN (fun q3 H locs hN hP hD hS => ?_)
  refine kc_arr hx hb hts hw tyX3 zcX3.2.2.1 zcX3.2.2.2 hown hin (own := RX3) (ci := 5) rfl hK hA hP hD hS hl0 (pc := 36) (pn := 40) (k := 4) (idx := 25) (Nat.le_of_ble_eq_true rfl) (n := 16000) (N := 16000) (atype := .byte) (ty := .byte) (Or.inr (Or.inr (Or.inl rfl))) rfl (by decide +kernel) (fun hh => lv_sipush hx hb (n := 16000) (by decide +kernel) (by decide +kernel) hh) (by decide +kernel) (by decide +kernel) (hts _ (List.mem_cons_of_mem _ (zWS1 65 rfl rfl))) (by decide +kernel) (by decide +kernel) (Nat.le_of_ble_eq_true rfl) (Nat.le_of_ble_eq_true rfl) (Nat.le_of_ble_eq_true rfl) (hts _ (List.mem_cons_of_mem _ (zWS1 194 rfl rfl))) rfl rfl (by decide +kernel) hN (fun q4 H locs hN hP hD hS => ?_)
  refine W.vret hx hb hr (fun t ht hW => ⟨⟨_, rfl, ⟨[(0, q0, .int, 61), (1, q1, .int, 61), (2, q2, .int, 61), (3, q3, .boolean, 61), (4, q4, .byte, 16000)], rfl, rfl⟩, ?_, ?_⟩, hS.F ht⟩) hS.2.2 (by decide +kernel)
  · rw [ht]; simp only [modFsL, modLL]; exact hP
  · simp only [modFsL, modLL]; exact hD
/-! the constructor of ModuleCheck$Input -/
def fz_Input : List Value := [.null, .int 0, .int 0, .int 0, .int 0, .int 0]
set_option maxRecDepth 20000 in
theorem fz_Input_ok : ∀ j, j < 6 → defaultValue (tyX4 j) = vp_V fz_Input j := by decide +kernel
def tn_Input : List (Nat × FieldType × Nat) := [(0, .byte, 16000)]
set_option maxHeartbeats 4000000 in
set_option maxRecDepth 100000 in
theorem c_Input (l : Launch) (D : va_G) (dA : FieldType → ClassId) (h0 sz : Nat) : kc_W l D zclC dA yX4_init cX4_init 1 1 1 16000 1 fz_Input [] (kc_arrs dA 1 fz_Input tn_Input) h0 sz := by
  refine Met.ofW (cc := cX4_init) (maxL := 1) (ret := none) (by decide +kernel) rfl ?_
  intro p e s m args below meth c s₁ B hml hv
  obtain ⟨rfl, hsz, hP, hK, hD0, hNW⟩ := hv
  have hx := B.exec
  have hb := B.bytes
  have hr := B.returns
  have hts := atoms_spec (ws := Cond.code yX4_init cX4_init 1 none :: zWS) B.pre
  have hown : s.vm.findClass RX4 = some m.cls := findClass_of_methodNamed B.named
  have hlocks := B.notSynchronized
  have hin : meth.name = "<init>" := (name_of_methodNamed B.named B.method).1
  have hw : ∀ w ∈ u_ws RX4 TX4 6, w ∈ Cond.code yX4_init cX4_init 1 none :: zWS := fun w h => List.mem_cons_of_mem _ (zcX4.2.1 w h)
  subst hsz
  have hD := hD0.self (sz := s.heap.size)
  generalize hAe : va_A [(h0, .inr (1, fz_Input))] s.heap.size = A at hD ⊢
  have hA : ∀ q : Nat, s.heap.size ≤ q → A q := fun q h => by rw [← hAe]; exact Or.inr h
  have hS : va_S A s.heap s.heap [] := va_S.rf
  have hl := lv_entry ([.ref h0]) (n := 1) (Nat.le_of_ble_eq_true rfl)
  rw [lg_entry_eq]
  generalize (lg_sl ([.ref h0]) ++ List.replicate (1 - (lg_sl ([.ref h0])).length) Slot.unset).toArray = ls at hl ⊢
  have hl : lv_has ls 1 [(0, .ref h0)] := hl
  have hl0 := lv_at hl 0 rfl
  have hN : fz_Input.length = 6 := rfl
  have dc_1 : decode cX4_init 1 = .ok (.invokespecial 3, 3) := by decide +kernel
  refine lv_aload_n hx hb (k := 0) (by decide +kernel) rfl hl0 ?_
  refine W.objInit (idx := 3) hx hb hown (hts _ (List.mem_cons_of_mem _ (zWS1 35 rfl rfl))) (hts _ (List.mem_cons_of_mem _ (zWS1 28 rfl rfl))) (hts _ (List.mem_cons_of_mem _ (zWS1 29 rfl rfl))) rfl (by rw [hml]; exact hl.1) rfl dc_1 (Nat.le_of_ble_eq_true rfl) (Nat.le_of_ble_eq_true rfl) ?_
  refine W.eq (g2 := F0 m 4 ls []) rfl ?_
  refine kc_arr hx hb hts hw tyX4 zcX4.2.2.1 zcX4.2.2.2 hown hin (own := RX4) (ci := 1) rfl hK hA hP hD hS hl0 (pc := 4) (pn := 8) (k := 0) (idx := 9) (Nat.le_of_ble_eq_true rfl) (n := 16000) (N := 16000) (atype := .byte) (ty := .byte) (Or.inr (Or.inr (Or.inl rfl))) rfl (by decide +kernel) (fun hh => lv_sipush hx hb (n := 16000) (by decide +kernel) (by decide +kernel) hh) (by decide +kernel) (by decide +kernel) (hts _ (List.mem_cons_of_mem _ (zWS1 65 rfl rfl))) (by decide +kernel) (by decide +kernel) (Nat.le_of_ble_eq_true rfl) (Nat.le_of_ble_eq_true rfl) (Nat.le_of_ble_eq_true rfl) (hts _ (List.mem_cons_of_mem _ (zWS1 36 rfl rfl))) rfl rfl (by decide +kernel) hN (fun q0 H locs hN hP hD hS => ?_)
  refine W.vret hx hb hr (fun t ht hW => ⟨⟨_, rfl, ⟨[(0, q0, .byte, 16000)], rfl, rfl⟩, ?_, ?_⟩, hS.F ht⟩) hS.2.2 (by decide +kernel)
  · rw [ht]; simp only [modFsL, modLL]; exact hP
  · simp only [modFsL, modLL]; exact hD
/-! the constructor of ModuleCheck$Instruction -/
def fz_Instruction : List Value := [.null, .int 0, .int 0, .int 0, .long 0]
set_option maxRecDepth 20000 in
theorem fz_Instruction_ok : ∀ j, j < 5 → defaultValue (tyX5 j) = vp_V fz_Instruction j := by decide +kernel
def tn_Instruction : List (Nat × FieldType × Nat) := [(0, .long, 257)]
set_option maxHeartbeats 4000000 in
set_option maxRecDepth 100000 in
theorem c_Instruction (l : Launch) (D : va_G) (dA : FieldType → ClassId) (h0 sz : Nat) : kc_W l D zclC dA yX5_init cX5_init 1 1 1 257 6 fz_Instruction [] (kc_arrs dA 6 fz_Instruction tn_Instruction) h0 sz := by
  refine Met.ofW (cc := cX5_init) (maxL := 1) (ret := none) (by decide +kernel) rfl ?_
  intro p e s m args below meth c s₁ B hml hv
  obtain ⟨rfl, hsz, hP, hK, hD0, hNW⟩ := hv
  have hx := B.exec
  have hb := B.bytes
  have hr := B.returns
  have hts := atoms_spec (ws := Cond.code yX5_init cX5_init 1 none :: zWS) B.pre
  have hown : s.vm.findClass RX5 = some m.cls := findClass_of_methodNamed B.named
  have hlocks := B.notSynchronized
  have hin : meth.name = "<init>" := (name_of_methodNamed B.named B.method).1
  have hw : ∀ w ∈ u_ws RX5 TX5 5, w ∈ Cond.code yX5_init cX5_init 1 none :: zWS := fun w h => List.mem_cons_of_mem _ (zcX5.2.1 w h)
  subst hsz
  have hD := hD0.self (sz := s.heap.size)
  generalize hAe : va_A [(h0, .inr (6, fz_Instruction))] s.heap.size = A at hD ⊢
  have hA : ∀ q : Nat, s.heap.size ≤ q → A q := fun q h => by rw [← hAe]; exact Or.inr h
  have hS : va_S A s.heap s.heap [] := va_S.rf
  have hl := lv_entry ([.ref h0]) (n := 1) (Nat.le_of_ble_eq_true rfl)
  rw [lg_entry_eq]
  generalize (lg_sl ([.ref h0]) ++ List.replicate (1 - (lg_sl ([.ref h0])).length) Slot.unset).toArray = ls at hl ⊢
  have hl : lv_has ls 1 [(0, .ref h0)] := hl
  have hl0 := lv_at hl 0 rfl
  have hN : fz_Instruction.length = 5 := rfl
  have dc_1 : decode cX5_init 1 = .ok (.invokespecial 3, 3) := by decide +kernel
  refine lv_aload_n hx hb (k := 0) (by decide +kernel) rfl hl0 ?_
  refine W.objInit (idx := 3) hx hb hown (hts _ (List.mem_cons_of_mem _ (zWS1 222 rfl rfl))) (hts _ (List.mem_cons_of_mem _ (zWS1 28 rfl rfl))) (hts _ (List.mem_cons_of_mem _ (zWS1 29 rfl rfl))) rfl (by rw [hml]; exact hl.1) rfl dc_1 (Nat.le_of_ble_eq_true rfl) (Nat.le_of_ble_eq_true rfl) ?_
  refine W.eq (g2 := F0 m 4 ls []) rfl ?_
  refine kc_arr hx hb hts hw tyX5 zcX5.2.2.1 zcX5.2.2.2 hown hin (own := RX5) (ci := 6) rfl hK hA hP hD hS hl0 (pc := 4) (pn := 8) (k := 0) (idx := 9) (Nat.le_of_ble_eq_true rfl) (n := 257) (N := 257) (atype := .long) (ty := .long) (Or.inr (Or.inl rfl)) rfl (by decide +kernel) (fun hh => lv_sipush hx hb (n := 257) (by decide +kernel) (by decide +kernel) hh) (by decide +kernel) (by decide +kernel) (hts _ (List.mem_cons_of_mem _ (zWS2 6 rfl rfl))) (by decide +kernel) (by decide +kernel) (Nat.le_of_ble_eq_true rfl) (Nat.le_of_ble_eq_true rfl) (Nat.le_of_ble_eq_true rfl) (hts _ (List.mem_cons_of_mem _ (zWS1 223 rfl rfl))) rfl rfl (by decide +kernel) hN (fun q0 H locs hN hP hD hS => ?_)
  refine W.vret hx hb hr (fun t ht hW => ⟨⟨_, rfl, ⟨[(0, q0, .long, 257)], rfl, rfl⟩, ?_, ?_⟩, hS.F ht⟩) hS.2.2 (by decide +kernel)
  · rw [ht]; simp only [modFsL, modLL]; exact hP
  · simp only [modFsL, modLL]; exact hD
/-! the constructor of ModuleCheck$Typing -/
def fz_Typing : List Value := [.null, .null, .null, .int 0]
set_option maxRecDepth 20000 in
theorem fz_Typing_ok : ∀ j, j < 4 → defaultValue (tyX7 j) = vp_V fz_Typing j := by decide +kernel
def pc_Typing (dA : FieldType → ClassId) (a1 a2 : Nat) (h0 : Nat) (w : va_W) : Prop := ∃ (q2 : Nat), w = (h0, .inr (7, [.ref a1, .ref a2, .ref q2, .int 0])) :: ([(q2, .inl (dA .int, kc_a0 .int 80))])
set_option maxHeartbeats 4000000 in
set_option maxRecDepth 100000 in
theorem c_Typing (l : Launch) (D : va_G) (dA : FieldType → ClassId) (a1 a2 : Nat) (h0 sz : Nat) : kc_W l D zclC dA yX7_init cX7_init 3 1 1 80 7 fz_Typing [.ref a1, .ref a2] (pc_Typing dA a1 a2) h0 sz := by
  refine Met.ofW (cc := cX7_init) (maxL := 3) (ret := none) (by decide +kernel) rfl ?_
  intro p e s m args below meth c s₁ B hml hv
  obtain ⟨rfl, hsz, hP, hK, hD0, hNW⟩ := hv
  have hx := B.exec
  have hb := B.bytes
  have hr := B.returns
  have hts := atoms_spec (ws := Cond.code yX7_init cX7_init 3 none :: zWS) B.pre
  have hown : s.vm.findClass RX7 = some m.cls := findClass_of_methodNamed B.named
  have hlocks := B.notSynchronized
  have hin : meth.name = "<init>" := (name_of_methodNamed B.named B.method).1
  have hw : ∀ w ∈ u_ws RX7 TX7 4, w ∈ Cond.code yX7_init cX7_init 3 none :: zWS := fun w h => List.mem_cons_of_mem _ (zcX7.2.1 w h)
  subst hsz
  have hD := hD0.self (sz := s.heap.size)
  generalize hAe : va_A [(h0, .inr (7, fz_Typing))] s.heap.size = A at hD ⊢
  have hA : ∀ q : Nat, s.heap.size ≤ q → A q := fun q h => by rw [← hAe]; exact Or.inr h
  have hS : va_S A s.heap s.heap [] := va_S.rf
  have hl := lv_entry ([.ref h0, .ref a1, .ref a2]) (n := 3) (Nat.le_of_ble_eq_true rfl)
  rw [lg_entry_eq]
  generalize (lg_sl ([.ref h0, .ref a1, .ref a2]) ++ List.replicate (3 - (lg_sl ([.ref h0, .ref a1, .ref a2])).length) Slot.unset).toArray = ls at hl ⊢
  have hl : lv_has ls 3 [(0, .ref h0), (1, .ref a1), (2, .ref a2)] := hl
  have hl0 := lv_at hl 0 rfl
  have hN : fz_Typing.length = 4 := rfl
  have dc_1 : decode cX7_init 1 = .ok (.invokespecial 3, 3) := by decide +kernel
  refine lv_aload_n hx hb (k := 0) (by decide +kernel) rfl hl0 ?_
  refine W.objInit (idx := 3) hx hb hown (hts _ (List.mem_cons_of_mem _ (zWS2 12 rfl rfl))) (hts _ (List.mem_cons_of_mem _ (zWS1 28 rfl rfl))) (hts _ (List.mem_cons_of_mem _ (zWS1 29 rfl rfl))) rfl (by rw [hml]; exact hl.1) rfl dc_1 (Nat.le_of_ble_eq_true rfl) (Nat.le_of_ble_eq_true rfl) ?_
  refine W.eq (g2 := F0 m 4 ls []) rfl ?_
  refine kc_arr hx hb hts hw tyX7 zcX7.2.2.1 zcX7.2.2.2 hown hin (own := RX7) (ci := 7) rfl hK hA hP hD hS hl0 (pc := 4) (pn := 7) (k := 2) (idx := 9) (Nat.le_of_ble_eq_true rfl) (n := 80) (N := 80) (atype := .int) (ty := .int) (Or.inl rfl) rfl (by decide +kernel) (fun hh => lv_bipush hx hb (n := 80) (by decide +kernel) (by decide +kernel) hh) (by decide +kernel) (by decide +kernel) (hts _ (List.mem_cons_of_mem _ (zWS1 135 rfl rfl))) (by decide +kernel) (by decide +kernel) (Nat.le_of_ble_eq_true rfl) (Nat.le_of_ble_eq_true rfl) (Nat.le_of_ble_eq_true rfl) (hts _ (List.mem_cons_of_mem _ (zWS2 15 rfl rfl))) rfl rfl (by decide +kernel) hN (fun q2 H locs hN hP hD hS => ?_)
  refine kc_val hx hb hts hw tyX7 zcX7.2.2.1 zcX7.2.2.2 hown hin (own := RX7) (ci := 7) rfl hK hP hD hS hl0 (pc := 12) (pn := 14) (k := 0) (idx := 15) (Nat.le_of_ble_eq_true rfl) (v := .ref a1) (by decide +kernel) (fun hh => lv_aload_n hx hb (k := 1) (by decide +kernel) rfl (lv_at hl 1 rfl) hh) (by decide +kernel) (hts _ (List.mem_cons_of_mem _ (zWS2 13 rfl rfl))) rfl (by first | exact Or.inl rfl | exact Or.inr rfl) (tk := (.object "ModuleCheck$Facts")) (by decide +kernel) rfl rfl hN (fun H locs hN hP hD hS => ?_)
  refine kc_val hx hb hts hw tyX7 zcX7.2.2.1 zcX7.2.2.2 hown hin (own := RX7) (ci := 7) rfl hK hP hD hS hl0 (pc := 17) (pn := 19) (k := 1) (idx := 19) (Nat.le_of_ble_eq_true rfl) (v := .ref a2) (by decide +kernel) (fun hh => lv_aload_n hx hb (k := 2) (by decide +kernel) rfl (lv_at hl 2 rfl) hh) (by decide +kernel) (hts _ (List.mem_cons_of_mem _ (zWS2 14 rfl rfl))) rfl (by first | exact Or.inl rfl | exact Or.inr rfl) (tk := (.object "ModuleCheck$Frames")) (by decide +kernel) rfl rfl hN (fun H locs hN hP hD hS => ?_)
  refine W.vret hx hb hr (fun t ht hW => ⟨⟨_, rfl, ⟨q2, rfl⟩, ?_, ?_⟩, hS.F ht⟩) hS.2.2 (by decide +kernel)
  · rw [ht]; exact hP
  · exact hD
/-! the constructor of ModuleCheck$Bodies -/
def fz_Bodies : List Value := [.null, .null, .null, .null, .null, .null, .int 0]
set_option maxRecDepth 20000 in
theorem fz_Bodies_ok : ∀ j, j < 7 → defaultValue (tyX1 j) = vp_V fz_Bodies j := by decide +kernel
def pc_Bodies (dA : FieldType → ClassId) (a1 a2 a3 : Nat) (h0 : Nat) (w : va_W) : Prop := ∃ (q2 : Nat) (u2 : va_W) (q3 : Nat) (u3 : va_W) (q4 : Nat) (u4 : va_W), kc_arrs dA 5 fz_Frames tn_Frames q2 u2 ∧ kc_arrs dA 6 fz_Instruction tn_Instruction q3 u3 ∧ pc_Typing dA a2 q2 q4 u4 ∧ w = (h0, .inr (4, [.ref a1, .ref a2, .ref q2, .ref q3, .ref q4, .ref a3, .int 0])) :: (u2 ++ u3 ++ u4)
set_option maxHeartbeats 4000000 in
set_option maxRecDepth 100000 in
theorem c_Bodies (l : Launch) (D : va_G) (dA : FieldType → ClassId) (a1 a2 a3 : Nat) (h0 sz : Nat) : kc_W l D zclC dA yX1_init cX1_init 4 2 10 16598 4 fz_Bodies [.ref a1, .ref a2, .ref a3] (pc_Bodies dA a1 a2 a3) h0 sz := by
  refine Met.ofW (cc := cX1_init) (maxL := 4) (ret := none) (by decide +kernel) rfl ?_
  intro p e s m args below meth c s₁ B hml hv
  obtain ⟨rfl, hsz, hP, hK, hD0, hNW⟩ := hv
  have hx := B.exec
  have hb := B.bytes
  have hr := B.returns
  have hts := atoms_spec (ws := Cond.code yX1_init cX1_init 4 none :: zWS) B.pre
  have hown : s.vm.findClass RX1 = some m.cls := findClass_of_methodNamed B.named
  have hlocks := B.notSynchronized
  have hin : meth.name = "<init>" := (name_of_methodNamed B.named B.method).1
  have hw : ∀ w ∈ u_ws RX1 TX1 7, w ∈ Cond.code yX1_init cX1_init 4 none :: zWS := fun w h => List.mem_cons_of_mem _ (zcX1.2.1 w h)
  subst hsz
  have hD := hD0.self (sz := s.heap.size)
  generalize hAe : va_A [(h0, .inr (4, fz_Bodies))] s.heap.size = A at hD ⊢
  have hA : ∀ q : Nat, s.heap.size ≤ q → A q := fun q h => by rw [← hAe]; exact Or.inr h
  have hS : va_S A s.heap s.heap [] := va_S.rf
  have hl := lv_entry ([.ref h0, .ref a1, .ref a2, .ref a3]) (n := 4) (Nat.le_of_ble_eq_true rfl)
  rw [lg_entry_eq]
  generalize (lg_sl ([.ref h0, .ref a1, .ref a2, .ref a3]) ++ List.replicate (4 - (lg_sl ([.ref h0, .ref a1, .ref a2, .ref a3])).length) Slot.unset).toArray = ls at hl ⊢
  have hl : lv_has ls 4 [(0, .ref h0), (1, .ref a1), (2, .ref a2), (3, .ref a3)] := hl
  have hl0 := lv_at hl 0 rfl
  have hN : fz_Bodies.length = 7 := rfl
  have dc_1 : decode cX1_init 1 = .ok (.invokespecial 3, 3) := by decide +kernel
  refine lv_aload_n hx hb (k := 0) (by decide +kernel) rfl hl0 ?_
  refine W.objInit (idx := 3) hx hb hown (hts _ (List.mem_cons_of_mem _ (zWS1 183 rfl rfl))) (hts _ (List.mem_cons_of_mem _ (zWS1 28 rfl rfl))) (hts _ (List.mem_cons_of_mem _ (zWS1 29 rfl rfl))) rfl (by rw [hml]; exact hl.1) rfl dc_1 (Nat.le_of_ble_eq_true rfl) (Nat.le_of_ble_eq_true rfl) ?_
  refine W.eq (g2 := F0 m 4 ls []) rfl ?_
  refine kc_obj hx hb hml hts hown hin hNW hK hA hw tyX1 zcX1.2.2.1 zcX1.2.2.2 (ci0 := 4) rfl hP hD hS hl0 hN (As := []) tyX3 zcX3.2.1 zcX3.2.2.1 (ci := 5) rfl fz_Frames_ok (fun q sz => c_Frames l D dA q sz) (zWS1 188 rfl rfl) (zNW1 186 rfl rfl) (zWS1 7 rfl rfl) (zWS1 187 rfl rfl) rfl (zWS1 184 rfl rfl) (zWS1 185 rfl rfl) (n := 0) (by decide +kernel) rfl ⟨(Nat.le_of_ble_eq_true rfl), (Nat.le_of_ble_eq_true rfl)⟩ hl.1 (Nat.le_of_ble_eq_true rfl) (pc := 4) (pi := 9) (k := 2) (fi := 12) (by decide +kernel) (by decide +kernel) (by decide +kernel) (by decide +kernel) (by decide +kernel) (fun q_ H_ hP_ hh => hh) (Nat.le_of_ble_eq_true rfl) (zWS2 29 rfl rfl) rfl (by first | exact Or.inl rfl | exact Or.inr rfl) (tk := (.object "ModuleCheck$Frames")) (by decide +kernel) (fun _ => rfl) (fun _ => rfl) ⟨(Nat.le_of_ble_eq_true rfl), (Nat.le_of_ble_eq_true rfl)⟩ (fun q2 u2 H locs hq2 hN hP hD hS => ?_)
  refine kc_obj hx hb hml hts hown hin hNW hK hA hw tyX1 zcX1.2.2.1 zcX1.2.2.2 (ci0 := 4) rfl hP hD hS hl0 hN (As := []) tyX5 zcX5.2.1 zcX5.2.2.1 (ci := 6) rfl fz_Instruction_ok (fun q sz => c_Instruction l D dA q sz) (zWS1 221 rfl rfl) (zNW1 219 rfl rfl) (zWS1 8 rfl rfl) (zWS1 220 rfl rfl) rfl (zWS1 217 rfl rfl) (zWS1 218 rfl rfl) (n := 0) (by decide +kernel) rfl ⟨(Nat.le_of_ble_eq_true rfl), (Nat.le_of_ble_eq_true rfl)⟩ hl.1 (Nat.le_of_ble_eq_true rfl) (pc := 15) (pi := 20) (k := 3) (fi := 21) (by decide +kernel) (by decide +kernel) (by decide +kernel) (by decide +kernel) (by decide +kernel) (fun q_ H_ hP_ hh => hh) (Nat.le_of_ble_eq_true rfl) (zWS2 30 rfl rfl) rfl (by first | exact Or.inl rfl | exact Or.inr rfl) (tk := (.object "ModuleCheck$Instruction")) (by decide +kernel) (fun _ => rfl) (fun _ => rfl) ⟨(Nat.le_of_ble_eq_true rfl), (Nat.le_of_ble_eq_true rfl)⟩ (fun q3 u3 H locs hq3 hN hP hD hS => ?_)
  refine kc_val hx hb hts hw tyX1 zcX1.2.2.1 zcX1.2.2.2 hown hin (own := RX1) (ci := 4) rfl hK hP hD hS hl0 (pc := 26) (pn := 28) (k := 0) (idx := 25) (Nat.le_of_ble_eq_true rfl) (v := .ref a1) (by decide +kernel) (fun hh => lv_aload_n hx hb (k := 1) (by decide +kernel) rfl (lv_at hl 1 rfl) hh) (by decide +kernel) (hts _ (List.mem_cons_of_mem _ (zWS2 27 rfl rfl))) rfl (by first | exact Or.inl rfl | exact Or.inr rfl) (tk := (.object "ModuleCheck$Input")) (by decide +kernel) rfl rfl hN (fun H locs hN hP hD hS => ?_)
  refine kc_val hx hb hts hw tyX1 zcX1.2.2.1 zcX1.2.2.2 hown hin (own := RX1) (ci := 4) rfl hK hP hD hS hl0 (pc := 31) (pn := 33) (k := 1) (idx := 29) (Nat.le_of_ble_eq_true rfl) (v := .ref a2) (by decide +kernel) (fun hh => lv_aload_n hx hb (k := 2) (by decide +kernel) rfl (lv_at hl 2 rfl) hh) (by decide +kernel) (hts _ (List.mem_cons_of_mem _ (zWS2 28 rfl rfl))) rfl (by first | exact Or.inl rfl | exact Or.inr rfl) (tk := (.object "ModuleCheck$Facts")) (by decide +kernel) rfl rfl hN (fun H locs hN hP hD hS => ?_)
  refine kc_val hx hb hts hw tyX1 zcX1.2.2.1 zcX1.2.2.2 hown hin (own := RX1) (ci := 4) rfl hK hP hD hS hl0 (pc := 36) (pn := 38) (k := 5) (idx := 33) (Nat.le_of_ble_eq_true rfl) (v := .ref a3) (by decide +kernel) (fun hh => lv_aload_n hx hb (k := 3) (by decide +kernel) rfl (lv_at hl 3 rfl) hh) (by decide +kernel) (hts _ (List.mem_cons_of_mem _ (zWS2 32 rfl rfl))) rfl (by first | exact Or.inl rfl | exact Or.inr rfl) (tk := (.object "ModuleCheck$Answers")) (by decide +kernel) rfl rfl hN (fun H locs hN hP hD hS => ?_)
  refine kc_obj hx hb hml hts hown hin hNW hK hA hw tyX1 zcX1.2.2.1 zcX1.2.2.2 (ci0 := 4) rfl hP hD hS hl0 hN (As := [.ref a2, .ref q2]) tyX7 zcX7.2.1 zcX7.2.2.1 (ci := 7) rfl fz_Typing_ok (fun q sz => c_Typing l D dA a2 q2 q sz) (zWS2 11 rfl rfl) (zNW2 9 rfl rfl) (zWS1 9 rfl rfl) (zWS2 10 rfl rfl) rfl (zWS2 7 rfl rfl) (zWS2 8 rfl rfl) (n := 2) (by decide +kernel) rfl ⟨(Nat.le_of_ble_eq_true rfl), (Nat.le_of_ble_eq_true rfl)⟩ hl.1 (Nat.le_of_ble_eq_true rfl) (pc := 41) (pi := 51) (k := 4) (fi := 42) (by decide +kernel) (by decide +kernel) (by decide +kernel) (by decide +kernel) (by decide +kernel) (fun q_ H_ hP_ hh => lv_aload_n hx hb (k := 2) (by decide +kernel) rfl (lv_at hl 2 rfl) (lv_aload_n hx hb (k := 0) (by decide +kernel) rfl hl0 (va_get (C := RX1) (T := TX1) (N := 7) hx hb hts hw hown hK hP_ 0 rfl (ci := 4) rfl 2 (Nat.le_of_ble_eq_true rfl) (hts _ (List.mem_cons_of_mem _ (zWS2 29 rfl rfl))) (fun _ h => h) (v := .ref q2) rfl (index := 12) (by decide +kernel) (hh)))) (Nat.le_of_ble_eq_true rfl) (zWS2 31 rfl rfl) rfl (by first | exact Or.inl rfl | exact Or.inr rfl) (tk := (.object "ModuleCheck$Typing")) (by decide +kernel) (fun _ => rfl) (fun _ => rfl) ⟨(Nat.le_of_ble_eq_true rfl), (Nat.le_of_ble_eq_true rfl)⟩ (fun q4 u4 H locs hq4 hN hP hD hS => ?_)
  refine W.vret hx hb hr (fun t ht hW => ⟨⟨_, rfl, ⟨q2, u2, q3, u3, q4, u4, hq2, hq3, hq4, rfl⟩, ?_, ?_⟩, hS.F ht⟩) hS.2.2 (by decide +kernel)
  · rw [ht]; exact hP
  · exact hD
/-! the constructor of ModuleCheck$Sections -/
def fz_Sections : List Value := [.null, .null, .null, .null, .null, .int 0]
set_option maxRecDepth 20000 in
theorem fz_Sections_ok : ∀ j, j < 6 → defaultValue (tyX6 j) = vp_V fz_Sections j := by decide +kernel
def pc_Sections (dA : FieldType → ClassId) (a1 a2 a3 : Nat) (h0 : Nat) (w : va_W) : Prop := ∃ (q3 : Nat) (q4 : Nat) (q2 : Nat) (u2 : va_W), pc_Bodies dA a1 a2 a3 q2 u2 ∧ w = (h0, .inr (3, [.ref a1, .ref a2, .ref q2, .ref q3, .ref q4, .int 0])) :: ([(q3, .inl (dA .int, kc_a0 .int 64))] ++ [(q4, .inl (dA .int, kc_a0 .int 64))] ++ u2)
set_option maxHeartbeats 4000000 in
set_option maxRecDepth 100000 in
theorem c_Sections (l : Launch) (D : va_G) (dA : FieldType → ClassId) (a1 a2 a3 : Nat) (h0 sz : Nat) : kc_W l D zclC dA yX6_init cX6_init 4 3 13 16733 3 fz_Sections [.ref a1, .ref a2, .ref a3] (pc_Sections dA a1 a2 a3) h0 sz := by
  refine Met.ofW (cc := cX6_init) (maxL := 4) (ret := none) (by decide +kernel) rfl ?_
  intro p e s m args below meth c s₁ B hml hv
  obtain ⟨rfl, hsz, hP, hK, hD0, hNW⟩ := hv
  have hx := B.exec
  have hb := B.bytes
  have hr := B.returns
  have hts := atoms_spec (ws := Cond.code yX6_init cX6_init 4 none :: zWS) B.pre
  have hown : s.vm.findClass RX6 = some m.cls := findClass_of_methodNamed B.named
  have hlocks := B.notSynchronized
  have hin : meth.name = "<init>" := (name_of_methodNamed B.named B.method).1
  have hw : ∀ w ∈ u_ws RX6 TX6 6, w ∈ Cond.code yX6_init cX6_init 4 none :: zWS := fun w h => List.mem_cons_of_mem _ (zcX6.2.1 w h)
  subst hsz
  have hD := hD0.self (sz := s.heap.size)
  generalize hAe : va_A [(h0, .inr (3, fz_Sections))] s.heap.size = A at hD ⊢
  have hA : ∀ q : Nat, s.heap.size ≤ q → A q := fun q h => by rw [← hAe]; exact Or.inr h
  have hS : va_S A s.heap s.heap [] := va_S.rf
  have hl := lv_entry ([.ref h0, .ref a1, .ref a2, .ref a3]) (n := 4) (Nat.le_of_ble_eq_true rfl)
  rw [lg_entry_eq]
  generalize (lg_sl ([.ref h0, .ref a1, .ref a2, .ref a3]) ++ List.replicate (4 - (lg_sl ([.ref h0, .ref a1, .ref a2, .ref a3])).length) Slot.unset).toArray = ls at hl ⊢
  have hl : lv_has ls 4 [(0, .ref h0), (1, .ref a1), (2, .ref a2), (3, .ref a3)] := hl
  have hl0 := lv_at hl 0 rfl
  have hN : fz_Sections.length = 6 := rfl
  have dc_1 : decode cX6_init 1 = .ok (.invokespecial 3, 3) := by decide +kernel
  refine lv_aload_n hx hb (k := 0) (by decide +kernel) rfl hl0 ?_
  refine W.objInit (idx := 3) hx hb hown (hts _ (List.mem_cons_of_mem _ (zWS1 177 rfl rfl))) (hts _ (List.mem_cons_of_mem _ (zWS1 28 rfl rfl))) (hts _ (List.mem_cons_of_mem _ (zWS1 29 rfl rfl))) rfl (by rw [hml]; exact hl.1) rfl dc_1 (Nat.le_of_ble_eq_true rfl) (Nat.le_of_ble_eq_true rfl) ?_
  refine W.eq (g2 := F0 m 4 ls []) rfl ?_
  refine kc_arr hx hb hts hw tyX6 zcX6.2.2.1 zcX6.2.2.2 hown hin (own := RX6) (ci := 3) rfl hK hA hP hD hS hl0 (pc := 4) (pn := 7) (k := 3) (idx := 9) (Nat.le_of_ble_eq_true rfl) (n := 64) (N := 64) (atype := .int) (ty := .int) (Or.inl rfl) rfl (by decide +kernel) (fun hh => lv_bipush hx hb (n := 64) (by decide +kernel) (by decide +kernel) hh) (by decide +kernel) (by decide +kernel) (hts _ (List.mem_cons_of_mem _ (zWS1 135 rfl rfl))) (by decide +kernel) (by decide +kernel) (Nat.le_of_ble_eq_true rfl) (Nat.le_of_ble_eq_true rfl) (Nat.le_of_ble_eq_true rfl) (hts _ (List.mem_cons_of_mem _ (zWS2 52 rfl rfl))) rfl rfl (by decide +kernel) hN (fun q3 H locs hN hP hD hS => ?_)
  refine kc_arr hx hb hts hw tyX6 zcX6.2.2.1 zcX6.2.2.2 hown hin (own := RX6) (ci := 3) rfl hK hA hP hD hS hl0 (pc := 12) (pn := 15) (k := 4) (idx := 15) (Nat.le_of_ble_eq_true rfl) (n := 64) (N := 64) (atype := .int) (ty := .int) (Or.inl rfl) rfl (by decide +kernel) (fun hh => lv_bipush hx hb (n := 64) (by decide +kernel) (by decide +kernel) hh) (by decide +kernel) (by decide +kernel) (hts _ (List.mem_cons_of_mem _ (zWS1 135 rfl rfl))) (by decide +kernel) (by decide +kernel) (Nat.le_of_ble_eq_true rfl) (Nat.le_of_ble_eq_true rfl) (Nat.le_of_ble_eq_true rfl) (hts _ (List.mem_cons_of_mem _ (zWS2 53 rfl rfl))) rfl rfl (by decide +kernel) hN (fun q4 H locs hN hP hD hS => ?_)
  refine kc_val hx hb hts hw tyX6 zcX6.2.2.1 zcX6.2.2.2 hown hin (own := RX6) (ci := 3) rfl hK hP hD hS hl0 (pc := 20) (pn := 22) (k := 0) (idx := 18) (Nat.le_of_ble_eq_true rfl) (v := .ref a1) (by decide +kernel) (fun hh => lv_aload_n hx hb (k := 1) (by decide +kernel) rfl (lv_at hl 1 rfl) hh) (by decide +kernel) (hts _ (List.mem_cons_of_mem _ (zWS2 49 rfl rfl))) rfl (by first | exact Or.inl rfl | exact Or.inr rfl) (tk := (.object "ModuleCheck$Input")) (by decide +kernel) rfl rfl hN (fun H locs hN hP hD hS => ?_)
  refine kc_val hx hb hts hw tyX6 zcX6.2.2.1 zcX6.2.2.2 hown hin (own := RX6) (ci := 3) rfl hK hP hD hS hl0 (pc := 25) (pn := 27) (k := 1) (idx := 22) (Nat.le_of_ble_eq_true rfl) (v := .ref a2) (by decide +kernel) (fun hh => lv_aload_n hx hb (k := 2) (by decide +kernel) rfl (lv_at hl 2 rfl) hh) (by decide +kernel) (hts _ (List.mem_cons_of_mem _ (zWS2 50 rfl rfl))) rfl (by first | exact Or.inl rfl | exact Or.inr rfl) (tk := (.object "ModuleCheck$Facts")) (by decide +kernel) rfl rfl hN (fun H locs hN hP hD hS => ?_)
  refine kc_obj hx hb hml hts hown hin hNW hK hA hw tyX6 zcX6.2.2.1 zcX6.2.2.2 (ci0 := 3) rfl hP hD hS hl0 hN (As := [.ref a1, .ref a2, .ref a3]) tyX1 zcX1.2.1 zcX1.2.2.1 (ci := 4) rfl fz_Bodies_ok (fun q sz => c_Bodies l D dA a1 a2 a3 q sz) (zWS1 182 rfl rfl) (zNW1 180 rfl rfl) (zWS1 6 rfl rfl) (zWS1 181 rfl rfl) rfl (zWS1 178 rfl rfl) (zWS1 179 rfl rfl) (n := 3) (by decide +kernel) rfl ⟨(Nat.le_of_ble_eq_true rfl), (Nat.le_of_ble_eq_true rfl)⟩ hl.1 (Nat.le_of_ble_eq_true rfl) (pc := 30) (pi := 38) (k := 2) (fi := 31) (by decide +kernel) (by decide +kernel) (by decide +kernel) (by decide +kernel) (by decide +kernel) (fun q_ H_ hP_ hh => lv_aload_n hx hb (k := 1) (by decide +kernel) rfl (lv_at hl 1 rfl) (lv_aload_n hx hb (k := 2) (by decide +kernel) rfl (lv_at hl 2 rfl) (lv_aload_n hx hb (k := 3) (by decide +kernel) rfl (lv_at hl 3 rfl) (hh)))) (Nat.le_of_ble_eq_true rfl) (zWS2 51 rfl rfl) rfl (by first | exact Or.inl rfl | exact Or.inr rfl) (tk := (.object "ModuleCheck$Bodies")) (by decide +kernel) (fun _ => rfl) (fun _ => rfl) ⟨(Nat.le_of_ble_eq_true rfl), (Nat.le_of_ble_eq_true rfl)⟩ (fun q2 u2 H locs hq2 hN hP hD hS => ?_)
  refine W.vret hx hb hr (fun t ht hW => ⟨⟨_, rfl, ⟨q3, q4, q2, u2, hq2, rfl⟩, ?_, ?_⟩, hS.F ht⟩) hS.2.2 (by decide +kernel)
  · rw [ht]; exact hP
  · exact hD
/-! the constructor of ModuleCheck -/
def fz_Check : List Value := [.null, .null, .null, .null, .null, .int 0, .int 0]
set_option maxRecDepth 20000 in
theorem fz_Check_ok : ∀ j, j < 7 → defaultValue (tyX8 j) = vp_V fz_Check j := by decide +kernel
def pc_Check (dA : FieldType → ClassId) (h0 : Nat) (w : va_W) : Prop := ∃ (q0 : Nat) (u0 : va_W) (q1 : Nat) (u1 : va_W) (q3 : Nat) (u3 : va_W) (q4 : Nat) (u4 : va_W) (q2 : Nat) (u2 : va_W), kc_arrs dA 1 fz_Input tn_Input q0 u0 ∧ kc_arrs dA 2 fz_Facts tn_Facts q1 u1 ∧ kc_arrs dA 8 fz_Answers tn_Answers q3 u3 ∧ kc_arrs dA 8 fz_Answers tn_Answers q4 u4 ∧ pc_Sections dA q0 q1 q3 q2 u2 ∧ w = (h0, .inr (0, [.ref q0, .ref q1, .ref q2, .ref q3, .ref q4, .int 0, .int (-1)])) :: (u0 ++ u1 ++ u3 ++ u4 ++ u2)
set_option maxHeartbeats 4000000 in
set_option maxRecDepth 100000 in
theorem c_Check (l : Launch) (D : va_G) (dA : FieldType → ClassId) (h0 sz : Nat) : kc_W l D zclC dA yX8_init cX8_init 1 4 37 66591 0 fz_Check [] (pc_Check dA) h0 sz := by
  refine Met.ofW (cc := cX8_init) (maxL := 1) (ret := none) (by decide +kernel) rfl ?_
  intro p e s m args below meth c s₁ B hml hv
  obtain ⟨rfl, hsz, hP, hK, hD0, hNW⟩ := hv
  have hx := B.exec
  have hb := B.bytes
  have hr := B.returns
  have hts := atoms_spec (ws := Cond.code yX8_init cX8_init 1 none :: zWS) B.pre
  have hown : s.vm.findClass RX8 = some m.cls := findClass_of_methodNamed B.named
  have hlocks := B.notSynchronized
  have hin : meth.name = "<init>" := (name_of_methodNamed B.named B.method).1
  have hw : ∀ w ∈ u_ws RX8 TX8 7, w ∈ Cond.code yX8_init cX8_init 1 none :: zWS := fun w h => List.mem_cons_of_mem _ (zcX8.2.1 w h)
  subst hsz
  have hD := hD0.self (sz := s.heap.size)
  generalize hAe : va_A [(h0, .inr (0, fz_Check))] s.heap.size = A at hD ⊢
  have hA : ∀ q : Nat, s.heap.size ≤ q → A q := fun q h => by rw [← hAe]; exact Or.inr h
  have hS : va_S A s.heap s.heap [] := va_S.rf
  have hl := lv_entry ([.ref h0]) (n := 1) (Nat.le_of_ble_eq_true rfl)
  rw [lg_entry_eq]
  generalize (lg_sl ([.ref h0]) ++ List.replicate (1 - (lg_sl ([.ref h0])).length) Slot.unset).toArray = ls at hl ⊢
  have hl : lv_has ls 1 [(0, .ref h0)] := hl
  have hl0 := lv_at hl 0 rfl
  have hN : fz_Check.length = 7 := rfl
  have dc_1 : decode cX8_init 1 = .ok (.invokespecial 3, 3) := by decide +kernel
  refine lv_aload_n hx hb (k := 0) (by decide +kernel) rfl hl0 ?_
  refine W.objInit (idx := 3) hx hb hown (hts _ (List.mem_cons_of_mem _ (zWS1 27 rfl rfl))) (hts _ (List.mem_cons_of_mem _ (zWS1 28 rfl rfl))) (hts _ (List.mem_cons_of_mem _ (zWS1 29 rfl rfl))) rfl (by rw [hml]; exact hl.1) rfl dc_1 (Nat.le_of_ble_eq_true rfl) (Nat.le_of_ble_eq_true rfl) ?_
  refine W.eq (g2 := F0 m 4 ls []) rfl ?_
  refine kc_obj hx hb hml hts hown hin hNW hK hA hw tyX8 zcX8.2.2.1 zcX8.2.2.2 (ci0 := 0) rfl hP hD hS hl0 hN (As := []) tyX4 zcX4.2.1 zcX4.2.2.1 (ci := 1) rfl fz_Input_ok (fun q sz => c_Input l D dA q sz) (zWS1 34 rfl rfl) (zNW1 32 rfl rfl) (zWS1 2 rfl rfl) (zWS1 33 rfl rfl) rfl (zWS1 30 rfl rfl) (zWS1 31 rfl rfl) (n := 0) (by decide +kernel) rfl ⟨(Nat.le_of_ble_eq_true rfl), (Nat.le_of_ble_eq_true rfl)⟩ hl.1 (Nat.le_of_ble_eq_true rfl) (pc := 4) (pi := 9) (k := 0) (fi := 12) (by decide +kernel) (by decide +kernel) (by decide +kernel) (by decide +kernel) (by decide +kernel) (fun q_ H_ hP_ hh => hh) (Nat.le_of_ble_eq_true rfl) (zWS2 68 rfl rfl) rfl (by first | exact Or.inl rfl | exact Or.inr rfl) (tk := (.object "ModuleCheck$Input")) (by decide +kernel) (fun _ => rfl) (fun _ => rfl) ⟨(Nat.le_of_ble_eq_true rfl), (Nat.le_of_ble_eq_true rfl)⟩ (fun q0 u0 H locs hq0 hN hP hD hS => ?_)
  refine kc_obj hx hb hml hts hown hin hNW hK hA hw tyX8 zcX8.2.2.1 zcX8.2.2.2 (ci0 := 0) rfl hP hD hS hl0 hN (As := []) tyX2 zcX2.2.1 zcX2.2.2.1 (ci := 2) rfl fz_Facts_ok (fun q sz => c_Facts l D dA q sz) (zWS1 70 rfl rfl) (zNW1 68 rfl rfl) (zWS1 3 rfl rfl) (zWS1 69 rfl rfl) rfl (zWS1 66 rfl rfl) (zWS1 67 rfl rfl) (n := 0) (by decide +kernel) rfl ⟨(Nat.le_of_ble_eq_true rfl), (Nat.le_of_ble_eq_true rfl)⟩ hl.1 (Nat.le_of_ble_eq_true rfl) (pc := 15) (pi := 20) (k := 1) (fi := 19) (by decide +kernel) (by decide +kernel) (by decide +kernel) (by decide +kernel) (by decide +kernel) (fun q_ H_ hP_ hh => hh) (Nat.le_of_ble_eq_true rfl) (zWS2 69 rfl rfl) rfl (by first | exact Or.inl rfl | exact Or.inr rfl) (tk := (.object "ModuleCheck$Facts")) (by decide +kernel) (fun _ => rfl) (fun _ => rfl) ⟨(Nat.le_of_ble_eq_true rfl), (Nat.le_of_ble_eq_true rfl)⟩ (fun q1 u1 H locs hq1 hN hP hD hS => ?_)
  refine kc_obj hx hb hml hts hown hin hNW hK hA hw tyX8 zcX8.2.2.1 zcX8.2.2.2 (ci0 := 0) rfl hP hD hS hl0 hN (As := []) tyX0 zcX0.2.1 zcX0.2.2.1 (ci := 8) rfl fz_Answers_ok (fun q sz => c_Answers l D dA q sz) (zWS1 141 rfl rfl) (zNW1 139 rfl rfl) (zWS1 4 rfl rfl) (zWS1 140 rfl rfl) rfl (zWS1 137 rfl rfl) (zWS1 138 rfl rfl) (n := 0) (by decide +kernel) rfl ⟨(Nat.le_of_ble_eq_true rfl), (Nat.le_of_ble_eq_true rfl)⟩ hl.1 (Nat.le_of_ble_eq_true rfl) (pc := 26) (pi := 31) (k := 3) (fi := 26) (by decide +kernel) (by decide +kernel) (by decide +kernel) (by decide +kernel) (by decide +kernel) (fun q_ H_ hP_ hh => hh) (Nat.le_of_ble_eq_true rfl) (zWS2 71 rfl rfl) rfl (by first | exact Or.inl rfl | exact Or.inr rfl) (tk := (.object "ModuleCheck$Answers")) (by decide +kernel) (fun _ => rfl) (fun _ => rfl) ⟨(Nat.le_of_ble_eq_true rfl), (Nat.le_of_ble_eq_true rfl)⟩ (fun q3 u3 H locs hq3 hN hP hD hS => ?_)
  refine kc_obj hx hb hml hts hown hin hNW hK hA hw tyX8 zcX8.2.2.1 zcX8.2.2.2 (ci0 := 0) rfl hP hD hS hl0 hN (As := []) tyX0 zcX0.2.1 zcX0.2.2.1 (ci := 8) rfl fz_Answers_ok (fun q sz => c_Answers l D dA q sz) (zWS1 141 rfl rfl) (zNW1 139 rfl rfl) (zWS1 4 rfl rfl) (zWS1 140 rfl rfl) rfl (zWS1 137 rfl rfl) (zWS1 138 rfl rfl) (n := 0) (by decide +kernel) rfl ⟨(Nat.le_of_ble_eq_true rfl), (Nat.le_of_ble_eq_true rfl)⟩ hl.1 (Nat.le_of_ble_eq_true rfl) (pc := 37) (pi := 42) (k := 4) (fi := 30) (by decide +kernel) (by decide +kernel) (by decide +kernel) (by decide +kernel) (by decide +kernel) (fun q_ H_ hP_ hh => hh) (Nat.le_of_ble_eq_true rfl) (zWS2 72 rfl rfl) rfl (by first | exact Or.inl rfl | exact Or.inr rfl) (tk := (.object "ModuleCheck$Answers")) (by decide +kernel) (fun _ => rfl) (fun _ => rfl) ⟨(Nat.le_of_ble_eq_true rfl), (Nat.le_of_ble_eq_true rfl)⟩ (fun q4 u4 H locs hq4 hN hP hD hS => ?_)
  refine kc_obj hx hb hml hts hown hin hNW hK hA hw tyX8 zcX8.2.2.1 zcX8.2.2.2 (ci0 := 0) rfl hP hD hS hl0 hN (As := [.ref q0, .ref q1, .ref q3]) tyX6 zcX6.2.1 zcX6.2.2.1 (ci := 3) rfl fz_Sections_ok (fun q sz => c_Sections l D dA q0 q1 q3 q sz) (zWS1 176 rfl rfl) (zNW1 174 rfl rfl) (zWS1 5 rfl rfl) (zWS1 175 rfl rfl) rfl (zWS1 172 rfl rfl) (zWS1 173 rfl rfl) (n := 3) (by decide +kernel) rfl ⟨(Nat.le_of_ble_eq_true rfl), (Nat.le_of_ble_eq_true rfl)⟩ hl.1 (Nat.le_of_ble_eq_true rfl) (pc := 48) (pi := 65) (k := 2) (fi := 38) (by decide +kernel) (by decide +kernel) (by decide +kernel) (by decide +kernel) (by decide +kernel) (fun q_ H_ hP_ hh => lv_aload_n hx hb (k := 0) (by decide +kernel) rfl hl0 (va_get (C := RX8) (T := TX8) (N := 7) hx hb hts hw hown hK hP_ 0 rfl (ci := 0) rfl 0 (Nat.le_of_ble_eq_true rfl) (hts _ (List.mem_cons_of_mem _ (zWS2 68 rfl rfl))) (fun _ h => h) (v := .ref q0) rfl (index := 12) (by decide +kernel) (lv_aload_n hx hb (k := 0) (by decide +kernel) rfl hl0 (va_get (C := RX8) (T := TX8) (N := 7) hx hb hts hw hown hK hP_ 0 rfl (ci := 0) rfl 1 (Nat.le_of_ble_eq_true rfl) (hts _ (List.mem_cons_of_mem _ (zWS2 69 rfl rfl))) (fun _ h => h) (v := .ref q1) rfl (index := 19) (by decide +kernel) (lv_aload_n hx hb (k := 0) (by decide +kernel) rfl hl0 (va_get (C := RX8) (T := TX8) (N := 7) hx hb hts hw hown hK hP_ 0 rfl (ci := 0) rfl 3 (Nat.le_of_ble_eq_true rfl) (hts _ (List.mem_cons_of_mem _ (zWS2 71 rfl rfl))) (fun _ h => h) (v := .ref q3) rfl (index := 26) (by decide +kernel) (hh))))))) (Nat.le_of_ble_eq_true rfl) (zWS2 70 rfl rfl) rfl (by first | exact Or.inl rfl | exact Or.inr rfl) (tk := (.object "ModuleCheck$Sections")) (by decide +kernel) (fun _ => rfl) (fun _ => rfl) ⟨(Nat.le_of_ble_eq_true rfl), (Nat.le_of_ble_eq_true rfl)⟩ (fun q2 u2 H locs hq2 hN hP hD hS => ?_)
  refine kc_val hx hb hts hw tyX8 zcX8.2.2.1 zcX8.2.2.2 hown hin (own := RX8) (ci := 0) rfl hK hP hD hS hl0 (pc := 71) (pn := 73) (k := 5) (idx := 42) (Nat.le_of_ble_eq_true rfl) (v := .int 0) (by decide +kernel) (fun hh => lv_iconst hx hb (n := 0) (v := 0) (by decide +kernel) (by decide +kernel) hh) (by decide +kernel) (hts _ (List.mem_cons_of_mem _ (zWS2 73 rfl rfl))) rfl (by first | exact Or.inl rfl | exact Or.inr rfl) (tk := .int) (by decide +kernel) rfl rfl hN (fun H locs hN hP hD hS => ?_)
  refine kc_val hx hb hts hw tyX8 zcX8.2.2.1 zcX8.2.2.2 hown hin (own := RX8) (ci := 0) rfl hK hP hD hS hl0 (pc := 76) (pn := 78) (k := 6) (idx := 46) (Nat.le_of_ble_eq_true rfl) (v := .int (-1)) (by decide +kernel) (fun hh => lv_iconst hx hb (n := (-1)) (v := (-1)) (by decide +kernel) (by decide +kernel) hh) (by decide +kernel) (hts _ (List.mem_cons_of_mem _ (zWS2 74 rfl rfl))) rfl (by first | exact Or.inl rfl | exact Or.inr rfl) (tk := .int) (by decide +kernel) rfl rfl hN (fun H locs hN hP hD hS => ?_)
  refine W.vret hx hb hr (fun t ht hW => ⟨⟨_, rfl, ⟨q0, u0, q1, u1, q3, u3, q4, u4, q2, u2, hq0, hq1, hq3, hq4, hq2, rfl⟩, ?_, ?_⟩, hS.F ht⟩) hS.2.2 (by decide +kernel)
  · rw [ht]; exact hP
  · exact hD
