/-! the law's start: what the Statement tells of it -/
theorem lwIn {w : Cond} (h : w ∈ zWS) : w ∈ lw_tbl := (List.mem_filter.mp h).1
theorem fl_at {args : Array Value} {s : State} (h : (Jvm.Cond.and given_1 narrow_1).before args s = true) (i : Nat) {w : Cond} (hi : (flatC (Jvm.Cond.and given_1 narrow_1))[i]? = some w) : w.before args s = true := flat_of_before _ h _ (List.mem_of_getElem? hi)
theorem va_T_eq {ty : FieldType} {t N : Nat} {f g : Nat → Value} {A : Nat → Prop} {U : State} {H : Heap} (h : va_T ty t N f A U H) (e : ∀ j, j < N → f j = g j) : va_T ty t N g A U H := by
  obtain ⟨cell, h1, h2, h3, h4, h5, h6, h7⟩ := h
  exact ⟨cell, h1, h2, h3, h4, h5, fun j hj => by rw [← e j hj]; exact h6 j hj, h7⟩
theorem le_D {s : State} (cl : List vw_C) (h : ∀ q ∈ cl, ∃ (cC : ClassId) (iS : Nat → Nat), u_Kn s q.1 q.2.1 q.2.2 cC iS) : ∃ D : va_G, ∀ (c : Nat) (q : vw_C), cl[c]? = some q → u_Kn s q.1 q.2.1 q.2.2 (D.1 c) (D.2 c) := by
  have h0 : ∀ c : Nat, ∃ x : ClassId × (Nat → Nat), ∀ q, cl[c]? = some q → u_Kn s q.1 q.2.1 q.2.2 x.1 x.2 := by
    intro c
    cases hc : cl[c]? with
    | none => exact ⟨⟨0, fun _ => 0⟩, fun q hq => by cases hq⟩
    | some q =>
      obtain ⟨cC, iS, hk⟩ := h q (List.mem_of_getElem? hc)
      exact ⟨⟨cC, iS⟩, fun q' hq => by cases hq; exact hk⟩
  obtain ⟨f, hf⟩ := Classical.axiomOfChoice h0
  exact ⟨⟨fun c => (f c).1, fun c => (f c).2⟩, fun c q hq => hf c q hq⟩
theorem le_arr {args : Array Value} {s : State} {ty : FieldType} (ht : ty = .int ∨ ty = .long ∨ ty = .byte ∨ ty = .short ∨ ty = .boolean) (h : (Cond.arrayClass ty).before args s = true) : ∃ cA : ClassId, ArrOfT s cA ty ∧ va_RA s cA ty := by
  obtain ⟨c, k, comp, h1, h2, h3⟩ := Cond.arrayClass_spec h
  exact ⟨c, fun n z => ⟨fun k h => (by cases h), k, h2, comp, h3⟩, by rcases ht with rfl | rfl | rfl | rfl | rfl <;> exact h1⟩
set_option maxRecDepth 20000 in
theorem le_dA {args : Array Value} {s : State} (hts : ∀ w ∈ lw_tbl, w.before args s = true) : ∃ dA : FieldType → ClassId, ∀ (k : Nat) (q : ClassId × FieldType), (zT dA)[k]? = some q → ArrOfT s q.1 q.2 ∧ va_RA s q.1 q.2 := by
  obtain ⟨c_int, h_int⟩ := le_arr (ty := .int) (Or.inl rfl) (hts _ (lwIn (zWS1 135 rfl rfl)))
  obtain ⟨c_long, h_long⟩ := le_arr (ty := .long) (Or.inr (Or.inl rfl)) (hts _ (lwIn (zWS2 6 rfl rfl)))
  obtain ⟨c_byte, h_byte⟩ := le_arr (ty := .byte) (Or.inr (Or.inr (Or.inl rfl))) (hts _ (lwIn (zWS1 65 rfl rfl)))
  obtain ⟨c_short, h_short⟩ := le_arr (ty := .short) (Or.inr (Or.inr (Or.inr (Or.inl rfl)))) (hts _ (lwIn (zWS1 171 rfl rfl)))
  obtain ⟨c_boolean, h_boolean⟩ := le_arr (ty := .boolean) (Or.inr (Or.inr (Or.inr (Or.inr rfl)))) (hts _ (lwIn (zWS1 136 rfl rfl)))
  refine ⟨fun ty => match ty with
    | .int => c_int
    | .long => c_long
    | .byte => c_byte
    | .short => c_short
    | _ => c_boolean, fun k q hk => ?_⟩
  have hl : k < 5 := (List.getElem?_eq_some_iff.mp hk).1
  match k, hl, hk with
  | 0, _, hk => cases hk; exact h_int
  | 1, _, hk => cases hk; exact h_long
  | 2, _, hk => cases hk; exact h_byte
  | 3, _, hk => cases hk; exact h_short
  | 4, _, hk => cases hk; exact h_boolean
set_option maxRecDepth 20000 in
theorem le_clC {args : Array Value} {s : State} (hts : ∀ w ∈ lw_tbl, w.before args s = true) : ∃ D : va_G, ∀ (c : Nat) (q : vw_C), zclC[c]? = some q → u_Kn s q.1 q.2.1 q.2.2 (D.1 c) (D.2 c) := by
  refine le_D zclC ?_
  exact List.forall_mem_cons.mpr ⟨u_known hts (fun w h => lwIn (zwX8 w h)) (hts _ (lwIn (zWS1 23 rfl rfl))), List.forall_mem_cons.mpr ⟨u_known hts (fun w h => lwIn (zwX4 w h)) (hts _ (lwIn (zWS1 31 rfl rfl))), List.forall_mem_cons.mpr ⟨u_known hts (fun w h => lwIn (zwX2 w h)) (hts _ (lwIn (zWS1 67 rfl rfl))), List.forall_mem_cons.mpr ⟨u_known hts (fun w h => lwIn (zwX6 w h)) (hts _ (lwIn (zWS1 173 rfl rfl))), List.forall_mem_cons.mpr ⟨u_known hts (fun w h => lwIn (zwX1 w h)) (hts _ (lwIn (zWS1 179 rfl rfl))), List.forall_mem_cons.mpr ⟨u_known hts (fun w h => lwIn (zwX3 w h)) (hts _ (lwIn (zWS1 185 rfl rfl))), List.forall_mem_cons.mpr ⟨u_known hts (fun w h => lwIn (zwX5 w h)) (hts _ (lwIn (zWS1 218 rfl rfl))), List.forall_mem_cons.mpr ⟨u_known hts (fun w h => lwIn (zwX7 w h)) (hts _ (lwIn (zWS2 8 rfl rfl))), List.forall_mem_cons.mpr ⟨u_known hts (fun w h => lwIn (zwX0 w h)) (hts _ (lwIn (zWS1 138 rfl rfl))), fun _ h => absurd h List.not_mem_nil⟩⟩⟩⟩⟩⟩⟩⟩⟩
set_option maxRecDepth 20000 in
theorem le_clM {args : Array Value} {s : State} (hts : ∀ w ∈ lw_tbl, w.before args s = true) : ∃ D : va_G, ∀ (c : Nat) (q : vw_C), zclM[c]? = some q → u_Kn s q.1 q.2.1 q.2.2 (D.1 c) (D.2 c) := by
  refine le_D zclM ?_
  exact List.forall_mem_cons.mpr ⟨u_known hts (fun w h => lwIn (zwX10 w h)) (hts _ (lwIn (zWS4 111 rfl rfl))), List.forall_mem_cons.mpr ⟨u_known hts (fun w h => lwIn (zwX9 w h)) (hts _ (lwIn (zWS4 117 rfl rfl))), List.forall_mem_cons.mpr ⟨u_known (T := TIse) (N := 0) hts (fun w h => absurd h List.not_mem_nil) (hts _ (lwIn (zWS5 100 rfl rfl))), fun _ h => absurd h List.not_mem_nil⟩⟩⟩
set_option maxRecDepth 20000 in
theorem fl_MOST_ITEMS : ∀ j, j < 13 → (flatC (Jvm.Cond.and given_1 narrow_1))[34 + j]? = some (Cond.eq (.elem (.static "ModuleCheck" "MOST_ITEMS" "[I") (.int (Int32.ofNat j))) (.int (zt_MOST_ITEMS_f j))) := by decide +kernel
set_option maxRecDepth 20000 in
theorem le_MOST_ITEMS {args : Array Value} {s : State} {A : Nat → Prop} (hts : ∀ w ∈ lw_tbl, w.before args s = true) (hgv : (Jvm.Cond.and given_1 narrow_1).before args s = true) (hA : ∀ a : Nat, a < s.heap.size → ¬ A a) : ∃ t : Nat, va_Z "ModuleCheck" "MOST_ITEMS" "[I" (.ref t) A s s.heap ∧ va_T .int t 13 (fun i => .int (zt_MOST_ITEMS_f i)) A s s.heap := by
  obtain ⟨t, h1, h2⟩ := va_Tof (tm := .static "ModuleCheck" "MOST_ITEMS" "[I") (ty := .int) (N := 13) (f := fun i => .int (zt_MOST_ITEMS_f i)) (by decide) (fl_at hgv 32 rfl) (va_eqt (fl_at hgv 33 rfl)) (fun j hj => va_eqt (fl_at hgv (34 + j) (fl_MOST_ITEMS j hj))) hA
  exact ⟨t, va_Zof (hts _ (zmT2 177 rfl)) (hts _ (lwIn (zWS1 1 rfl rfl))) h1 hA, h2⟩
set_option maxRecDepth 20000 in
theorem fl_HEADER : ∀ j, j < 8 → (flatC (Jvm.Cond.and given_1 narrow_1))[7 + j]? = some (Cond.eq (.elem (.static "ModuleCheck" "HEADER" "[I") (.int (Int32.ofNat j))) (.int (zt_HEADER_f j))) := by decide +kernel
set_option maxRecDepth 20000 in
theorem le_HEADER {args : Array Value} {s : State} {A : Nat → Prop} (hts : ∀ w ∈ lw_tbl, w.before args s = true) (hgv : (Jvm.Cond.and given_1 narrow_1).before args s = true) (hA : ∀ a : Nat, a < s.heap.size → ¬ A a) : ∃ t : Nat, va_Z "ModuleCheck" "HEADER" "[I" (.ref t) A s s.heap ∧ va_T .int t 8 (fun i => .int (zt_HEADER_f i)) A s s.heap := by
  obtain ⟨t, h1, h2⟩ := va_Tof (tm := .static "ModuleCheck" "HEADER" "[I") (ty := .int) (N := 8) (f := fun i => .int (zt_HEADER_f i)) (by decide) (fl_at hgv 5 rfl) (va_eqt (fl_at hgv 6 rfl)) (fun j hj => va_eqt (fl_at hgv (7 + j) (fl_HEADER j hj))) hA
  exact ⟨t, va_Zof (hts _ (zmT2 125 rfl)) (hts _ (lwIn (zWS1 1 rfl rfl))) h1 hA, h2⟩
set_option maxRecDepth 20000 in
theorem fl_SECTION_ORDER : ∀ j, j < 13 → (flatC (Jvm.Cond.and given_1 narrow_1))[18 + j]? = some (Cond.eq (.elem (.static "ModuleCheck" "SECTION_ORDER" "[I") (.int (Int32.ofNat j))) (.int (zt_SECTION_ORDER_f j))) := by decide +kernel
set_option maxRecDepth 20000 in
theorem le_SECTION_ORDER {args : Array Value} {s : State} {A : Nat → Prop} (hts : ∀ w ∈ lw_tbl, w.before args s = true) (hgv : (Jvm.Cond.and given_1 narrow_1).before args s = true) (hA : ∀ a : Nat, a < s.heap.size → ¬ A a) : ∃ t : Nat, va_Z "ModuleCheck" "SECTION_ORDER" "[I" (.ref t) A s s.heap ∧ va_T .int t 13 (fun i => .int (zt_SECTION_ORDER_f i)) A s s.heap := by
  obtain ⟨t, h1, h2⟩ := va_Tof (tm := .static "ModuleCheck" "SECTION_ORDER" "[I") (ty := .int) (N := 13) (f := fun i => .int (zt_SECTION_ORDER_f i)) (by decide) (fl_at hgv 16 rfl) (va_eqt (fl_at hgv 17 rfl)) (fun j hj => va_eqt (fl_at hgv (18 + j) (fl_SECTION_ORDER j hj))) hA
  exact ⟨t, va_Zof (hts _ (zmT2 151 rfl)) (hts _ (lwIn (zWS1 1 rfl rfl))) h1 hA, h2⟩
set_option maxRecDepth 20000 in
theorem fl_INSTRUCTION_RUNS : ∀ j, j < 24 → (flatC (Jvm.Cond.and given_1 narrow_1))[50 + j]? = some (Cond.eq (.elem (.static "ModuleCheck" "INSTRUCTION_RUNS" "[I") (.int (Int32.ofNat j))) (.int (zt_INSTRUCTION_RUNS_f j))) := by decide +kernel
set_option maxRecDepth 20000 in
theorem le_INSTRUCTION_RUNS {args : Array Value} {s : State} {A : Nat → Prop} (hts : ∀ w ∈ lw_tbl, w.before args s = true) (hgv : (Jvm.Cond.and given_1 narrow_1).before args s = true) (hA : ∀ a : Nat, a < s.heap.size → ¬ A a) : ∃ t : Nat, va_Z "ModuleCheck" "INSTRUCTION_RUNS" "[I" (.ref t) A s s.heap ∧ va_T .int t 24 (fun i => .int (zt_INSTRUCTION_RUNS_f i)) A s s.heap := by
  obtain ⟨t, h1, h2⟩ := va_Tof (tm := .static "ModuleCheck" "INSTRUCTION_RUNS" "[I") (ty := .int) (N := 24) (f := fun i => .int (zt_INSTRUCTION_RUNS_f i)) (by decide) (fl_at hgv 48 rfl) (va_eqt (fl_at hgv 49 rfl)) (fun j hj => va_eqt (fl_at hgv (50 + j) (fl_INSTRUCTION_RUNS j hj))) hA
  exact ⟨t, va_Zof (hts _ (zmT3 130 rfl)) (hts _ (lwIn (zWS1 1 rfl rfl))) h1 hA, h2⟩
set_option maxRecDepth 20000 in
theorem fl_ACCESS_WIDTHS : ∀ j, j < 23 → (flatC (Jvm.Cond.and given_1 narrow_1))[77 + j]? = some (Cond.eq (.elem (.static "ModuleCheck" "ACCESS_WIDTHS" "[I") (.int (Int32.ofNat j))) (.int (zt_ACCESS_WIDTHS_f j))) := by decide +kernel
set_option maxRecDepth 20000 in
theorem le_ACCESS_WIDTHS {args : Array Value} {s : State} {A : Nat → Prop} (hts : ∀ w ∈ lw_tbl, w.before args s = true) (hgv : (Jvm.Cond.and given_1 narrow_1).before args s = true) (hA : ∀ a : Nat, a < s.heap.size → ¬ A a) : ∃ t : Nat, va_Z "ModuleCheck" "ACCESS_WIDTHS" "[I" (.ref t) A s s.heap ∧ va_T .int t 23 (fun i => .int (zt_ACCESS_WIDTHS_f i)) A s s.heap := by
  obtain ⟨t, h1, h2⟩ := va_Tof (tm := .static "ModuleCheck" "ACCESS_WIDTHS" "[I") (ty := .int) (N := 23) (f := fun i => .int (zt_ACCESS_WIDTHS_f i)) (by decide) (fl_at hgv 75 rfl) (va_eqt (fl_at hgv 76 rfl)) (fun j hj => va_eqt (fl_at hgv (77 + j) (fl_ACCESS_WIDTHS j hj))) hA
  exact ⟨t, va_Zof (hts _ (zmT3 231 rfl)) (hts _ (lwIn (zWS1 1 rfl rfl))) h1 hA, h2⟩
def ordE : List (List Int32) := [[1, 2, 3, 4, 5, 6, 7, 8, 9, 12, 10, 11]]
set_option maxRecDepth 20000 in
theorem fl_ORD : ∀ j, j < 12 → (flatC (Jvm.Cond.and given_1 narrow_1))[122 + j]? = some (Cond.eq (.elem (.field (.string RX10 239) "java/lang/String" "value" "[B") (.int (Int32.ofNat j))) (.int ((ordE.getD 0 []).getD j 0))) := by decide +kernel
theorem ordE_B : ∀ j, j < 12 → ((ordE.getD 0 []).getD j 0 : Int32) = ordB j := by decide +kernel
set_option maxRecDepth 20000 in
theorem le_M {args : Array Value} {s : State} {A : Nat → Prop} (hts : ∀ w ∈ lw_tbl, w.before args s = true) (hgv : (Jvm.Cond.and given_1 narrow_1).before args s = true) (hA : ∀ a : Nat, a < s.heap.size → ¬ A a) : ∃ t0 t1 t2 : Nat, ∀ G : zG, G.2.2 100 = t0 → G.2.2 101 = t1 → G.2.2 102 = t2 → zexM G A s := by
  obtain ⟨adK, adV, hS, hK⟩ := vk_Sof (N := 1) (tm := fun _ => .string RX10 239) (len := [12]) (byt := ordE) (A := A) (fun i hi => by obtain rfl : i = 0 := (by omega); decide) (fun i _ => fl_at hgv 118 rfl) (fun i _ => fl_at hgv 119 rfl) (fun i _ => fl_at hgv 120 rfl) (fun i hi => by obtain rfl : i = 0 := (by omega); exact fl_at hgv 121 rfl) (fun i hi j hj => by obtain rfl : i = 0 := (by omega); exact fl_at hgv (122 + j) (fl_ORD j hj)) (fun i j hi hj h => absurd (by omega) h) hA
  obtain ⟨s1, s2, s3, s4⟩ := hS.1 0 (by omega)
  have hC : va_Z "java/lang/String" "COMPACT_STRINGS" "Z" (.int 1) A s s.heap := va_Zof (hts _ (zmT6 66 rfl)) (hts _ (lwIn (zWS1 18 rfl rfl))) (va_eqt (fl_at hgv 102 rfl)) hA
  have hF := (vx_Zqof (A := A) (hts _ (zmT6 82 rfl)) (hts _ (lwIn (zWS1 20 rfl rfl))) (fl_at hgv 103 rfl) hA).1
  have hR : vk_R RX10 239 ordT (adK 0) s := vk_R.of (hts _ (zmT6 56 rfl)) (hK 0 (by omega))
  have s4 : va_T .byte (adV 0) 12 (fun i => .int (ordB i)) A s s.heap := va_T_eq s4 (fun j hj => by rw [ordE_B j hj])
  rcases hF with hF | ⟨t, hF⟩
  · exact ⟨adK 0, adV 0, 0, fun G e0 e1 _ => by unfold zexM; rw [e0, e1]; exact ⟨hR, s1, s2, s3, s4, hC, Or.inl hF⟩⟩
  · exact ⟨adK 0, adV 0, t, fun G e0 e1 e2 => by unfold zexM; rw [e0, e1, e2]; exact ⟨hR, s1, s2, s3, s4, hC, Or.inr hF⟩⟩
theorem le_C {args : Array Value} {s : State} {A : Nat → Prop} (hts : ∀ w ∈ lw_tbl, w.before args s = true) (hgv : (Jvm.Cond.and given_1 narrow_1).before args s = true) (hA : ∀ a : Nat, a < s.heap.size → ¬ A a) : ∃ t0 t1 t2 t3 t4 : Nat, ∀ G : zG, G.2.2 200 = t0 → G.2.2 201 = t1 → G.2.2 202 = t2 → G.2.2 203 = t3 → G.2.2 204 = t4 → zexC G A s := by
  obtain ⟨t0, h0⟩ := le_MOST_ITEMS (A := A) hts hgv hA
  obtain ⟨t1, h1⟩ := le_HEADER (A := A) hts hgv hA
  obtain ⟨t2, h2⟩ := le_SECTION_ORDER (A := A) hts hgv hA
  obtain ⟨t3, h3⟩ := le_INSTRUCTION_RUNS (A := A) hts hgv hA
  obtain ⟨t4, h4⟩ := le_ACCESS_WIDTHS (A := A) hts hgv hA
  refine ⟨t0, t1, t2, t3, t4, fun G e0 e1 e2 e3 e4 => ?_⟩
  unfold zexC
  rw [show G.2.2 zt_MOST_ITEMS_k = t0 from e0, show G.2.2 zt_HEADER_k = t1 from e1, show G.2.2 zt_SECTION_ORDER_k = t2 from e2, show G.2.2 zt_INSTRUCTION_RUNS_k = t3 from e3, show G.2.2 zt_ACCESS_WIDTHS_k = t4 from e4]
  exact ⟨h0, h1, h2, h3, h4, trivial⟩
theorem va_OF_narrow {o n d : String} {v : Value} {t : Nat} {A B : Nat → Prop} {U : State} {H : Heap} (hAB : ∀ q, B q → A q) (h : va_OF o n d v t A U H) : va_OF o n d v t B U H := by
  obtain ⟨cf, k, i, f, cell, h1, h2, h3, h4, h5, h6⟩ := h
  exact ⟨cf, k, i, f, cell, h1, h2, h3, h4, h5, fun z => h6 (hAB t z)⟩
theorem zexC_narrow {G : zG} {A B : Nat → Prop} {s : State} (hAB : ∀ q, B q → A q) (h : zexC G A s) : zexC G B s := by
  obtain ⟨⟨h0a, h0b⟩, ⟨h1a, h1b⟩, ⟨h2a, h2b⟩, ⟨h3a, h3b⟩, ⟨h4a, h4b⟩, -⟩ := h
  exact ⟨⟨h0a.narrow hAB, h0b.narrow hAB⟩, ⟨h1a.narrow hAB, h1b.narrow hAB⟩, ⟨h2a.narrow hAB, h2b.narrow hAB⟩, ⟨h3a.narrow hAB, h3b.narrow hAB⟩, ⟨h4a.narrow hAB, h4b.narrow hAB⟩, trivial⟩
theorem zexM_narrow {G : zG} {A B : Nat → Prop} {s : State} (hAB : ∀ q, B q → A q) (h : zexM G A s) : zexM G B s := by
  obtain ⟨h1, h2, h3, h4, h5, h6, h7⟩ := h
  exact ⟨h1, h2.narrow hAB, va_OF_narrow hAB h3, va_OF_narrow hAB h4, h5.narrow hAB, h6.narrow hAB, h7.imp (fun h => h.narrow hAB) (fun h => h.narrow hAB)⟩
set_option maxRecDepth 20000 in
theorem le_X {args : Array Value} {s : State} {A : Nat → Prop} (hts : ∀ w ∈ lw_tbl, w.before args s = true) (hgv : (Jvm.Cond.and given_1 narrow_1).before args s = true) (hA : ∀ a : Nat, a < s.heap.size → ¬ A a) : vx_Zq Bundle.tN "UNASSIGNED_STACK" Bundle.steD A s s.heap ∧ vx_Zq Bundle.tN "SUPPRESSED_SENTINEL" Bundle.listD A s s.heap ∧ (∀ w ∈ iseB, va_Nw w s) ∧ ∀ w ∈ zNW, va_Nw w s := by
  refine ⟨vx_Zqof (hts _ (zmT5 126 rfl)) (hts _ (lwIn (zWS1 12 rfl rfl))) (fl_at hgv 100 rfl) hA, vx_Zqof (hts _ (zmT5 128 rfl)) (hts _ (lwIn (zWS1 12 rfl rfl))) (fl_at hgv 101 rfl) hA, ?_, fun w h => va_Nw.of (zNest_tab (List.mem_filter.mp h).2) (hts w (List.mem_filter.mp h).1)⟩
  exact List.forall_mem_cons.mpr ⟨va_Nw.of rfl (hts _ (zmT5 102 rfl)), List.forall_mem_cons.mpr ⟨va_Nw.of rfl (hts _ (zmT5 104 rfl)), List.forall_mem_cons.mpr ⟨va_Nw.of rfl (hts _ (zmT5 106 rfl)), List.forall_mem_cons.mpr ⟨va_Nw.of rfl (hts _ (zmT5 101 rfl)), fun _ h => absurd h List.not_mem_nil⟩⟩⟩⟩
