/-! the world of side C: its classes, its cells -/
def zclC : List vw_C := [(RX8, TX8, 7), (RX4, TX4, 6), (RX2, TX2, 15), (RX6, TX6, 6), (RX1, TX1, 7), (RX3, TX3, 8), (RX5, TX5, 5), (RX7, TX7, 4), (RX0, TX0, 8)]
def zYC : List zC := [.inl (0, [(2, 1), (2, 2), (2, 3), (2, 8), (2, 9), (0, 0), (0, 0)]),
  .inl (1, [(2, 10), (0, 0), (0, 0), (0, 0), (0, 0), (0, 0)]),
  .inl (2, [(2, 11), (2, 12), (2, 13), (2, 14), (2, 15), (2, 16), (2, 17), (2, 18), (0, 0), (0, 0), (0, 0), (0, 0), (0, 0), (0, 0), (1, 0)]),
  .inl (3, [(2, 1), (2, 2), (2, 4), (2, 19), (2, 20), (0, 0)]),
  .inl (4, [(2, 1), (2, 2), (2, 5), (2, 6), (2, 7), (2, 8), (0, 0)]),
  .inl (5, [(2, 21), (2, 22), (2, 23), (2, 24), (2, 25), (0, 0), (0, 0), (0, 0)]),
  .inl (6, [(2, 26), (0, 0), (0, 0), (0, 0), (1, 0)]),
  .inl (7, [(2, 2), (2, 5), (2, 27), (0, 0)]),
  .inl (8, [(2, 28), (2, 29), (2, 30), (2, 31), (2, 32), (0, 0), (0, 0), (0, 0)]),
  .inl (8, [(2, 33), (2, 34), (2, 35), (2, 36), (2, 37), (0, 0), (0, 0), (0, 0)]),
  .inr (.byte, 16000),
  .inr (.int, 64),
  .inr (.int, 1024),
  .inr (.int, 64),
  .inr (.int, 96),
  .inr (.int, 64),
  .inr (.boolean, 64),
  .inr (.int, 16),
  .inr (.int, 13),
  .inr (.int, 64),
  .inr (.int, 64),
  .inr (.int, 61),
  .inr (.int, 61),
  .inr (.int, 61),
  .inr (.boolean, 61),
  .inr (.byte, 16000),
  .inr (.long, 257),
  .inr (.int, 80),
  .inr (.int, 13),
  .inr (.int, 64),
  .inr (.int, 64),
  .inr (.int, 64),
  .inr (.short, 16000),
  .inr (.int, 13),
  .inr (.int, 64),
  .inr (.int, 64),
  .inr (.int, 64),
  .inr (.short, 16000)]
-- cell 0: this of ModuleCheck
-- cell 1: input of ModuleCheck$Input
-- cell 2: facts of ModuleCheck$Facts
-- cell 3: sections of ModuleCheck$Sections
-- cell 4: bodies of ModuleCheck$Bodies
-- cell 5: frames of ModuleCheck$Frames
-- cell 6: next of ModuleCheck$Instruction
-- cell 7: typing of ModuleCheck$Typing
-- cell 8: draft of ModuleCheck$Answers
-- cell 9: kept of ModuleCheck$Answers
-- cell 10: input.bytes byte[16000]
-- cell 11: facts.parameterCounts int[64]
-- cell 12: facts.parameters int[1024]
-- cell 13: facts.results int[64]
-- cell 14: facts.functionSignatures int[96]
-- cell 15: facts.globalTypes int[64]
-- cell 16: facts.globalChanges boolean[64]
-- cell 17: facts.wrongAt int[16]
-- cell 18: facts.items int[13]
-- cell 19: sections.nameStarts int[64]
-- cell 20: sections.nameLengths int[64]
-- cell 21: frames.openers int[61]
-- cell 22: frames.results int[61]
-- cell 23: frames.bases int[61]
-- cell 24: frames.unknown boolean[61]
-- cell 25: frames.types byte[16000]
-- cell 26: next.labels long[257]
-- cell 27: typing.localTypes int[80]
-- cell 28: draft.counts int[13]
-- cell 29: draft.firstCodes int[64]
-- cell 30: draft.codeCounts int[64]
-- cell 31: draft.localCounts int[64]
-- cell 32: draft.codes short[16000]
-- cell 33: kept.counts int[13]
-- cell 34: kept.firstCodes int[64]
-- cell 35: kept.codeCounts int[64]
-- cell 36: kept.localCounts int[64]
-- cell 37: kept.codes short[16000]
def zt_MOST_ITEMS_k : Nat := 200
def zt_MOST_ITEMS_n : Nat := 13
def zt_MOST_ITEMS_l : List Int := [1, 64, 32, 64, 16000, 16000, 32, 64, 1, 32, 16000, 32, 1]
def zt_MOST_ITEMS_f (i : Nat) : Int32 := Int32.ofInt (zt_MOST_ITEMS_l.getD i 0)
def zt_HEADER_k : Nat := 201
def zt_HEADER_n : Nat := 8
def zt_HEADER_l : List Int := [0, 97, 115, 109, 1, 0, 0, 0]
def zt_HEADER_f (i : Nat) : Int32 := Int32.ofInt (zt_HEADER_l.getD i 0)
def zt_SECTION_ORDER_k : Nat := 202
def zt_SECTION_ORDER_n : Nat := 13
def zt_SECTION_ORDER_l : List Int := [0, 1, 2, 3, 4, 5, 6, 7, 8, 9, 11, 12, 10]
def zt_SECTION_ORDER_f (i : Nat) : Int32 := Int32.ofInt (zt_SECTION_ORDER_l.getD i 0)
def zt_INSTRUCTION_RUNS_k : Nat := 203
def zt_INSTRUCTION_RUNS_n : Nat := 24
def zt_INSTRUCTION_RUNS_l : List Int := [0, 5, 11, 17, 26, 27, 32, 36, 40, 41, 44, 55, 58, 66, 69, 90, 103, 138, 167, 167, 172, 173, 192, 196]
def zt_INSTRUCTION_RUNS_f (i : Nat) : Int32 := Int32.ofInt (zt_INSTRUCTION_RUNS_l.getD i 0)
def zt_ACCESS_WIDTHS_k : Nat := 204
def zt_ACCESS_WIDTHS_n : Nat := 23
def zt_ACCESS_WIDTHS_l : List Int := [2, 3, -1, -1, 0, 0, 1, 1, 0, 0, 1, 1, 2, 2, 2, 3, -1, -1, 0, 1, 0, 1, 2]
def zt_ACCESS_WIDTHS_f (i : Nat) : Int32 := Int32.ofInt (zt_ACCESS_WIDTHS_l.getD i 0)
def zexC : zG → (Nat → Prop) → State → Prop := fun G A s => (va_Z "ModuleCheck" "MOST_ITEMS" "[I" (.ref (G.2.2 zt_MOST_ITEMS_k)) A s s.heap ∧ va_T .int (G.2.2 zt_MOST_ITEMS_k) zt_MOST_ITEMS_n (fun i => .int (zt_MOST_ITEMS_f i)) A s s.heap) ∧ (va_Z "ModuleCheck" "HEADER" "[I" (.ref (G.2.2 zt_HEADER_k)) A s s.heap ∧ va_T .int (G.2.2 zt_HEADER_k) zt_HEADER_n (fun i => .int (zt_HEADER_f i)) A s s.heap) ∧ (va_Z "ModuleCheck" "SECTION_ORDER" "[I" (.ref (G.2.2 zt_SECTION_ORDER_k)) A s s.heap ∧ va_T .int (G.2.2 zt_SECTION_ORDER_k) zt_SECTION_ORDER_n (fun i => .int (zt_SECTION_ORDER_f i)) A s s.heap) ∧ (va_Z "ModuleCheck" "INSTRUCTION_RUNS" "[I" (.ref (G.2.2 zt_INSTRUCTION_RUNS_k)) A s s.heap ∧ va_T .int (G.2.2 zt_INSTRUCTION_RUNS_k) zt_INSTRUCTION_RUNS_n (fun i => .int (zt_INSTRUCTION_RUNS_f i)) A s s.heap) ∧ (va_Z "ModuleCheck" "ACCESS_WIDTHS" "[I" (.ref (G.2.2 zt_ACCESS_WIDTHS_k)) A s s.heap ∧ va_T .int (G.2.2 zt_ACCESS_WIDTHS_k) zt_ACCESS_WIDTHS_n (fun i => .int (zt_ACCESS_WIDTHS_f i)) A s s.heap) ∧ True
def zZC : zZ := (zclC, zYC, zexC)
theorem zZC_ok : zEok zZC := by
  refine ⟨fun G A U g mk a h => ?_, fun G A s U h hW hs hq => ?_⟩
  · obtain ⟨⟨h0a, h0b⟩, ⟨h1a, h1b⟩, ⟨h2a, h2b⟩, ⟨h3a, h3b⟩, ⟨h4a, h4b⟩, -⟩ := h
    exact ⟨⟨va_Z.moved (u := U) (Vm.Alike.refl U.vm) h0a, va_T.moved (u := U) (Vm.Alike.refl U.vm) h0b⟩, ⟨va_Z.moved (u := U) (Vm.Alike.refl U.vm) h1a, va_T.moved (u := U) (Vm.Alike.refl U.vm) h1b⟩, ⟨va_Z.moved (u := U) (Vm.Alike.refl U.vm) h2a, va_T.moved (u := U) (Vm.Alike.refl U.vm) h2b⟩, ⟨va_Z.moved (u := U) (Vm.Alike.refl U.vm) h3a, va_T.moved (u := U) (Vm.Alike.refl U.vm) h3b⟩, ⟨va_Z.moved (u := U) (Vm.Alike.refl U.vm) h4a, va_T.moved (u := U) (Vm.Alike.refl U.vm) h4b⟩, trivial⟩
  · obtain ⟨⟨h0a, h0b⟩, ⟨h1a, h1b⟩, ⟨h2a, h2b⟩, ⟨h3a, h3b⟩, ⟨h4a, h4b⟩, -⟩ := h
    exact ⟨⟨(va_Z.moved hW.alike h0a).kept hq, (va_T.moved hW.alike h0b).kept hq⟩, ⟨(va_Z.moved hW.alike h1a).kept hq, (va_T.moved hW.alike h1b).kept hq⟩, ⟨(va_Z.moved hW.alike h2a).kept hq, (va_T.moved hW.alike h2b).kept hq⟩, ⟨(va_Z.moved hW.alike h3a).kept hq, (va_T.moved hW.alike h3b).kept hq⟩, ⟨(va_Z.moved hW.alike h4a).kept hq, (va_T.moved hW.alike h4b).kept hq⟩, trivial⟩
theorem zt_MOST_ITEMS_Z : ∀ (G : zG) (s : State), zZC.2.2 G (zA zZC G) s → va_Z "ModuleCheck" "MOST_ITEMS" "[I" (.ref (G.2.2 zt_MOST_ITEMS_k)) (zA zZC G) s s.heap := fun G s h => h.1.1
theorem zt_MOST_ITEMS_T : ∀ (G : zG) (s : State), zZC.2.2 G (zA zZC G) s → va_T .int (G.2.2 zt_MOST_ITEMS_k) zt_MOST_ITEMS_n (fun i => .int (zt_MOST_ITEMS_f i)) (zA zZC G) s s.heap := fun G s h => h.1.2
theorem zt_HEADER_Z : ∀ (G : zG) (s : State), zZC.2.2 G (zA zZC G) s → va_Z "ModuleCheck" "HEADER" "[I" (.ref (G.2.2 zt_HEADER_k)) (zA zZC G) s s.heap := fun G s h => h.2.1.1
theorem zt_HEADER_T : ∀ (G : zG) (s : State), zZC.2.2 G (zA zZC G) s → va_T .int (G.2.2 zt_HEADER_k) zt_HEADER_n (fun i => .int (zt_HEADER_f i)) (zA zZC G) s s.heap := fun G s h => h.2.1.2
theorem zt_SECTION_ORDER_Z : ∀ (G : zG) (s : State), zZC.2.2 G (zA zZC G) s → va_Z "ModuleCheck" "SECTION_ORDER" "[I" (.ref (G.2.2 zt_SECTION_ORDER_k)) (zA zZC G) s s.heap := fun G s h => h.2.2.1.1
theorem zt_SECTION_ORDER_T : ∀ (G : zG) (s : State), zZC.2.2 G (zA zZC G) s → va_T .int (G.2.2 zt_SECTION_ORDER_k) zt_SECTION_ORDER_n (fun i => .int (zt_SECTION_ORDER_f i)) (zA zZC G) s s.heap := fun G s h => h.2.2.1.2
theorem zt_INSTRUCTION_RUNS_Z : ∀ (G : zG) (s : State), zZC.2.2 G (zA zZC G) s → va_Z "ModuleCheck" "INSTRUCTION_RUNS" "[I" (.ref (G.2.2 zt_INSTRUCTION_RUNS_k)) (zA zZC G) s s.heap := fun G s h => h.2.2.2.1.1
theorem zt_INSTRUCTION_RUNS_T : ∀ (G : zG) (s : State), zZC.2.2 G (zA zZC G) s → va_T .int (G.2.2 zt_INSTRUCTION_RUNS_k) zt_INSTRUCTION_RUNS_n (fun i => .int (zt_INSTRUCTION_RUNS_f i)) (zA zZC G) s s.heap := fun G s h => h.2.2.2.1.2
theorem zt_ACCESS_WIDTHS_Z : ∀ (G : zG) (s : State), zZC.2.2 G (zA zZC G) s → va_Z "ModuleCheck" "ACCESS_WIDTHS" "[I" (.ref (G.2.2 zt_ACCESS_WIDTHS_k)) (zA zZC G) s s.heap := fun G s h => h.2.2.2.2.1.1
theorem zt_ACCESS_WIDTHS_T : ∀ (G : zG) (s : State), zZC.2.2 G (zA zZC G) s → va_T .int (G.2.2 zt_ACCESS_WIDTHS_k) zt_ACCESS_WIDTHS_n (fun i => .int (zt_ACCESS_WIDTHS_f i)) (zA zZC G) s s.heap := fun G s h => h.2.2.2.2.1.2
theorem zYC_arr : ∀ (k : Nat) (a : FieldType × Nat), zZC.2.1[k]? = some (Sum.inr a : zC) → a.1 = .int ∨ a.1 = .long ∨ a.1 = .byte ∨ a.1 = .short ∨ a.1 = .boolean := by
  have h : ∀ x ∈ zYC, ∀ a : FieldType × Nat, x = Sum.inr a → a.1 = .int ∨ a.1 = .long ∨ a.1 = .byte ∨ a.1 = .short ∨ a.1 = .boolean := by
    intro x hx a e
    simp only [zYC, List.mem_cons, List.not_mem_nil, or_false] at hx
    subst e
    simp only [Sum.inr.injEq, reduceCtorEq, false_or, or_false] at hx
    rcases hx with hx | hx | hx | hx | hx | hx | hx | hx | hx | hx | hx | hx | hx | hx | hx | hx | hx | hx | hx | hx | hx | hx | hx | hx | hx | hx | hx | hx <;> subst hx <;> simp
  exact fun k a hk => h _ (List.mem_of_getElem? hk) a rfl
set_option maxRecDepth 20000 in
theorem zwX8 : ∀ w ∈ u_ws RX8 TX8 7, w ∈ zWS := zcls_of (l := [.laysFinal RX8 "ModuleCheck" "input" "LModuleCheck$Input;", .laysFinal RX8 "ModuleCheck" "facts" "LModuleCheck$Facts;", .laysFinal RX8 "ModuleCheck" "sections" "LModuleCheck$Sections;", .laysFinal RX8 "ModuleCheck" "draft" "LModuleCheck$Answers;", .laysFinal RX8 "ModuleCheck" "kept" "LModuleCheck$Answers;", .lays RX8 "ModuleCheck" "fed" "I", .lays RX8 "ModuleCheck" "latestPlace" "I"]) rfl (zwc (zWS2 75 rfl rfl) (zwc (zWS2 77 rfl rfl) (zwc (zWS2 79 rfl rfl) (zwc (zWS2 81 rfl rfl) (zwc (zWS2 83 rfl rfl) (zwc (zWS2 85 rfl rfl) (zwc (zWS2 87 rfl rfl) zwn)))))))
theorem zcX8 : zCls zZC 0 RX8 TX8 7 tyX8 := ⟨rfl, zwX8, tyX8_ok, nmX8⟩
set_option maxRecDepth 20000 in
theorem iniX8 : Cond.initialized RX8 ∈ zWS := (zWS1 1 rfl rfl)
theorem nmhX8 : RX8 ≠ "java/lang/invoke/MethodHandle" ∧ RX8 ≠ "java/lang/invoke/VarHandle" := by decide +kernel
set_option maxRecDepth 20000 in
theorem zwX4 : ∀ w ∈ u_ws RX4 TX4 6, w ∈ zWS := zcls_of (l := [.laysFinal RX4 "ModuleCheck$Input" "bytes" "[B", .lays RX4 "ModuleCheck$Input" "size" "I", .lays RX4 "ModuleCheck$Input" "at" "I", .lays RX4 "ModuleCheck$Input" "end" "I", .lays RX4 "ModuleCheck$Input" "fault" "I", .lays RX4 "ModuleCheck$Input" "faultAt" "I"]) rfl (zwc (zWS1 52 rfl rfl) (zwc (zWS1 54 rfl rfl) (zwc (zWS1 56 rfl rfl) (zwc (zWS1 58 rfl rfl) (zwc (zWS1 60 rfl rfl) (zwc (zWS1 62 rfl rfl) zwn))))))
theorem zcX4 : zCls zZC 1 RX4 TX4 6 tyX4 := ⟨rfl, zwX4, tyX4_ok, nmX4⟩
set_option maxRecDepth 20000 in
theorem iniX4 : Cond.initialized RX4 ∈ zWS := (zWS1 2 rfl rfl)
theorem nmhX4 : RX4 ≠ "java/lang/invoke/MethodHandle" ∧ RX4 ≠ "java/lang/invoke/VarHandle" := by decide +kernel
set_option maxRecDepth 20000 in
theorem zwX2 : ∀ w ∈ u_ws RX2 TX2 15, w ∈ zWS := zcls_of (l := [.laysFinal RX2 "ModuleCheck$Facts" "parameterCounts" "[I", .laysFinal RX2 "ModuleCheck$Facts" "parameters" "[I", .laysFinal RX2 "ModuleCheck$Facts" "results" "[I", .laysFinal RX2 "ModuleCheck$Facts" "functionSignatures" "[I", .laysFinal RX2 "ModuleCheck$Facts" "globalTypes" "[I", .laysFinal RX2 "ModuleCheck$Facts" "globalChanges" "[Z", .laysFinal RX2 "ModuleCheck$Facts" "wrongAt" "[I", .laysFinal RX2 "ModuleCheck$Facts" "items" "[I", .lays RX2 "ModuleCheck$Facts" "functions" "I", .lays RX2 "ModuleCheck$Facts" "importedFunctions" "I", .lays RX2 "ModuleCheck$Facts" "tables" "I", .lays RX2 "ModuleCheck$Facts" "memories" "I", .lays RX2 "ModuleCheck$Facts" "globals" "I", .lays RX2 "ModuleCheck$Facts" "importedGlobals" "I", .lays RX2 "ModuleCheck$Facts" "toldData" "J"]) rfl (zwc (zWS1 104 rfl rfl) (zwc (zWS1 106 rfl rfl) (zwc (zWS1 108 rfl rfl) (zwc (zWS1 110 rfl rfl) (zwc (zWS1 112 rfl rfl) (zwc (zWS1 114 rfl rfl) (zwc (zWS1 116 rfl rfl) (zwc (zWS1 118 rfl rfl) (zwc (zWS1 120 rfl rfl) (zwc (zWS1 122 rfl rfl) (zwc (zWS1 124 rfl rfl) (zwc (zWS1 126 rfl rfl) (zwc (zWS1 128 rfl rfl) (zwc (zWS1 130 rfl rfl) (zwc (zWS1 132 rfl rfl) zwn)))))))))))))))
theorem zcX2 : zCls zZC 2 RX2 TX2 15 tyX2 := ⟨rfl, zwX2, tyX2_ok, nmX2⟩
set_option maxRecDepth 20000 in
theorem iniX2 : Cond.initialized RX2 ∈ zWS := (zWS1 3 rfl rfl)
theorem nmhX2 : RX2 ≠ "java/lang/invoke/MethodHandle" ∧ RX2 ≠ "java/lang/invoke/VarHandle" := by decide +kernel
set_option maxRecDepth 20000 in
theorem zwX6 : ∀ w ∈ u_ws RX6 TX6 6, w ∈ zWS := zcls_of (l := [.laysFinal RX6 "ModuleCheck$Sections" "in" "LModuleCheck$Input;", .laysFinal RX6 "ModuleCheck$Sections" "facts" "LModuleCheck$Facts;", .laysFinal RX6 "ModuleCheck$Sections" "bodies" "LModuleCheck$Bodies;", .laysFinal RX6 "ModuleCheck$Sections" "nameStarts" "[I", .laysFinal RX6 "ModuleCheck$Sections" "nameLengths" "[I", .lays RX6 "ModuleCheck$Sections" "lastInOrder" "I"]) rfl (zwc (zWS2 55 rfl rfl) (zwc (zWS2 57 rfl rfl) (zwc (zWS2 59 rfl rfl) (zwc (zWS2 61 rfl rfl) (zwc (zWS2 63 rfl rfl) (zwc (zWS2 65 rfl rfl) zwn))))))
theorem zcX6 : zCls zZC 3 RX6 TX6 6 tyX6 := ⟨rfl, zwX6, tyX6_ok, nmX6⟩
set_option maxRecDepth 20000 in
theorem iniX6 : Cond.initialized RX6 ∈ zWS := (zWS1 5 rfl rfl)
theorem nmhX6 : RX6 ≠ "java/lang/invoke/MethodHandle" ∧ RX6 ≠ "java/lang/invoke/VarHandle" := by decide +kernel
set_option maxRecDepth 20000 in
theorem zwX1 : ∀ w ∈ u_ws RX1 TX1 7, w ∈ zWS := zcls_of (l := [.laysFinal RX1 "ModuleCheck$Bodies" "in" "LModuleCheck$Input;", .laysFinal RX1 "ModuleCheck$Bodies" "facts" "LModuleCheck$Facts;", .laysFinal RX1 "ModuleCheck$Bodies" "frames" "LModuleCheck$Frames;", .laysFinal RX1 "ModuleCheck$Bodies" "next" "LModuleCheck$Instruction;", .laysFinal RX1 "ModuleCheck$Bodies" "typing" "LModuleCheck$Typing;", .laysFinal RX1 "ModuleCheck$Bodies" "answers" "LModuleCheck$Answers;", .lays RX1 "ModuleCheck$Bodies" "followed" "Z"]) rfl (zwc (zWS2 34 rfl rfl) (zwc (zWS2 36 rfl rfl) (zwc (zWS2 38 rfl rfl) (zwc (zWS2 40 rfl rfl) (zwc (zWS2 42 rfl rfl) (zwc (zWS2 44 rfl rfl) (zwc (zWS2 46 rfl rfl) zwn)))))))
theorem zcX1 : zCls zZC 4 RX1 TX1 7 tyX1 := ⟨rfl, zwX1, tyX1_ok, nmX1⟩
set_option maxRecDepth 20000 in
theorem iniX1 : Cond.initialized RX1 ∈ zWS := (zWS1 6 rfl rfl)
theorem nmhX1 : RX1 ≠ "java/lang/invoke/MethodHandle" ∧ RX1 ≠ "java/lang/invoke/VarHandle" := by decide +kernel
set_option maxRecDepth 20000 in
theorem zwX3 : ∀ w ∈ u_ws RX3 TX3 8, w ∈ zWS := zcls_of (l := [.laysFinal RX3 "ModuleCheck$Frames" "openers" "[I", .laysFinal RX3 "ModuleCheck$Frames" "results" "[I", .laysFinal RX3 "ModuleCheck$Frames" "bases" "[I", .laysFinal RX3 "ModuleCheck$Frames" "unknown" "[Z", .laysFinal RX3 "ModuleCheck$Frames" "types" "[B", .lays RX3 "ModuleCheck$Frames" "depth" "I", .lays RX3 "ModuleCheck$Frames" "height" "I", .lays RX3 "ModuleCheck$Frames" "right" "Z"]) rfl (zwc (zWS1 200 rfl rfl) (zwc (zWS1 202 rfl rfl) (zwc (zWS1 204 rfl rfl) (zwc (zWS1 206 rfl rfl) (zwc (zWS1 208 rfl rfl) (zwc (zWS1 210 rfl rfl) (zwc (zWS1 212 rfl rfl) (zwc (zWS1 214 rfl rfl) zwn))))))))
theorem zcX3 : zCls zZC 5 RX3 TX3 8 tyX3 := ⟨rfl, zwX3, tyX3_ok, nmX3⟩
set_option maxRecDepth 20000 in
theorem iniX3 : Cond.initialized RX3 ∈ zWS := (zWS1 7 rfl rfl)
theorem nmhX3 : RX3 ≠ "java/lang/invoke/MethodHandle" ∧ RX3 ≠ "java/lang/invoke/VarHandle" := by decide +kernel
set_option maxRecDepth 20000 in
theorem zwX5 : ∀ w ∈ u_ws RX5 TX5 5, w ∈ zWS := zcls_of (l := [.laysFinal RX5 "ModuleCheck$Instruction" "labels" "[J", .lays RX5 "ModuleCheck$Instruction" "labelCount" "I", .lays RX5 "ModuleCheck$Instruction" "where" "I", .lays RX5 "ModuleCheck$Instruction" "number" "I", .lays RX5 "ModuleCheck$Instruction" "argument" "J"]) rfl (zwc (zWS1 235 rfl rfl) (zwc (zWS1 237 rfl rfl) (zwc (zWS1 239 rfl rfl) (zwc (zWS2 1 rfl rfl) (zwc (zWS2 3 rfl rfl) zwn)))))
theorem zcX5 : zCls zZC 6 RX5 TX5 5 tyX5 := ⟨rfl, zwX5, tyX5_ok, nmX5⟩
set_option maxRecDepth 20000 in
theorem iniX5 : Cond.initialized RX5 ∈ zWS := (zWS1 8 rfl rfl)
theorem nmhX5 : RX5 ≠ "java/lang/invoke/MethodHandle" ∧ RX5 ≠ "java/lang/invoke/VarHandle" := by decide +kernel
set_option maxRecDepth 20000 in
theorem zwX7 : ∀ w ∈ u_ws RX7 TX7 4, w ∈ zWS := zcls_of (l := [.laysFinal RX7 "ModuleCheck$Typing" "facts" "LModuleCheck$Facts;", .laysFinal RX7 "ModuleCheck$Typing" "frames" "LModuleCheck$Frames;", .laysFinal RX7 "ModuleCheck$Typing" "localTypes" "[I", .lays RX7 "ModuleCheck$Typing" "localCount" "I"]) rfl (zwc (zWS2 18 rfl rfl) (zwc (zWS2 20 rfl rfl) (zwc (zWS2 22 rfl rfl) (zwc (zWS2 24 rfl rfl) zwn))))
theorem zcX7 : zCls zZC 7 RX7 TX7 4 tyX7 := ⟨rfl, zwX7, tyX7_ok, nmX7⟩
set_option maxRecDepth 20000 in
theorem iniX7 : Cond.initialized RX7 ∈ zWS := (zWS1 9 rfl rfl)
theorem nmhX7 : RX7 ≠ "java/lang/invoke/MethodHandle" ∧ RX7 ≠ "java/lang/invoke/VarHandle" := by decide +kernel
set_option maxRecDepth 20000 in
theorem zwX0 : ∀ w ∈ u_ws RX0 TX0 8, w ∈ zWS := zcls_of (l := [.laysFinal RX0 "ModuleCheck$Answers" "counts" "[I", .laysFinal RX0 "ModuleCheck$Answers" "firstCodes" "[I", .laysFinal RX0 "ModuleCheck$Answers" "codeCounts" "[I", .laysFinal RX0 "ModuleCheck$Answers" "localCounts" "[I", .laysFinal RX0 "ModuleCheck$Answers" "codes" "[S", .lays RX0 "ModuleCheck$Answers" "codesUsed" "I", .lays RX0 "ModuleCheck$Answers" "functions" "I", .lays RX0 "ModuleCheck$Answers" "isFilled" "Z"]) rfl (zwc (zWS1 154 rfl rfl) (zwc (zWS1 156 rfl rfl) (zwc (zWS1 158 rfl rfl) (zwc (zWS1 160 rfl rfl) (zwc (zWS1 162 rfl rfl) (zwc (zWS1 164 rfl rfl) (zwc (zWS1 166 rfl rfl) (zwc (zWS1 168 rfl rfl) zwn))))))))
theorem zcX0 : zCls zZC 8 RX0 TX0 8 tyX0 := ⟨rfl, zwX0, tyX0_ok, nmX0⟩
set_option maxRecDepth 20000 in
theorem iniX0 : Cond.initialized RX0 ∈ zWS := (zWS1 4 rfl rfl)
theorem nmhX0 : RX0 ≠ "java/lang/invoke/MethodHandle" ∧ RX0 ≠ "java/lang/invoke/VarHandle" := by decide +kernel
def zmX0_addCode : zM := (yX0_addCode, cX0_addCode, 2, (Option.none : Option Jvm.ClassFile.FieldType), 1)
def zmX0_beginBody : zM := (yX0_beginBody, cX0_beginBody, 3, (Option.none : Option Jvm.ClassFile.FieldType), 1)
def zmX0_copy : zM := (yX0_copy, cX0_copy, 2, (Option.none : Option Jvm.ClassFile.FieldType), 1)
def zmX0_countOf : zM := (yX0_countOf, cX0_countOf, 2, (Option.some Jvm.ClassFile.FieldType.int), 1)
def zmX0_endBody : zM := (yX0_endBody, cX0_endBody, 2, (Option.none : Option Jvm.ClassFile.FieldType), 1)
def zmX0_fillCounts : zM := (yX0_fillCounts, cX0_fillCounts, 4, (Option.none : Option Jvm.ClassFile.FieldType), 1)
def zmX0_has : zM := (yX0_has, cX0_has, 2, (Option.some Jvm.ClassFile.FieldType.boolean), 1)
def zmX1_begin : zM := (yX1_begin, cX1_begin, 1, (Option.none : Option Jvm.ClassFile.FieldType), 1)
def zmX2_addFunction : zM := (yX2_addFunction, cX2_addFunction, 3, (Option.none : Option Jvm.ClassFile.FieldType), 1)
def zmX2_addGlobal : zM := (yX2_addGlobal, cX2_addGlobal, 3, (Option.none : Option Jvm.ClassFile.FieldType), 1)
def zmX2_addParameter : zM := (yX2_addParameter, cX2_addParameter, 5, (Option.none : Option Jvm.ClassFile.FieldType), 1)
def zmX2_changesGlobal : zM := (yX2_changesGlobal, cX2_changesGlobal, 2, (Option.some Jvm.ClassFile.FieldType.boolean), 1)
def zmX2_clear : zM := (yX2_clear, cX2_clear, 2, (Option.none : Option Jvm.ClassFile.FieldType), 1)
def zmX2_countOfKind : zM := (yX2_countOfKind, cX2_countOfKind, 2, (Option.some Jvm.ClassFile.FieldType.int), 1)
def zmX2_firstWrong : zM := (yX2_firstWrong, cX2_firstWrong, 2, (Option.some Jvm.ClassFile.FieldType.int), 1)
def zmX2_noteWrong : zM := (yX2_noteWrong, cX2_noteWrong, 3, (Option.none : Option Jvm.ClassFile.FieldType), 1)
def zmX2_parameter : zM := (yX2_parameter, cX2_parameter, 4, (Option.some Jvm.ClassFile.FieldType.int), 1)
def zmX2_parameterCount : zM := (yX2_parameterCount, cX2_parameterCount, 2, (Option.some Jvm.ClassFile.FieldType.int), 1)
def zmX2_resultOf : zM := (yX2_resultOf, cX2_resultOf, 2, (Option.some Jvm.ClassFile.FieldType.int), 1)
def zmX2_signatureOf : zM := (yX2_signatureOf, cX2_signatureOf, 3, (Option.some Jvm.ClassFile.FieldType.int), 1)
def zmX2_typeOfGlobal : zM := (yX2_typeOfGlobal, cX2_typeOfGlobal, 2, (Option.some Jvm.ClassFile.FieldType.int), 1)
def zmX3_bodyResult : zM := (yX3_bodyResult, cX3_bodyResult, 1, (Option.some Jvm.ClassFile.FieldType.int), 1)
def zmX3_demand : zM := (yX3_demand, cX3_demand, 2, (Option.none : Option Jvm.ClassFile.FieldType), 1)
def zmX3_forget : zM := (yX3_forget, cX3_forget, 1, (Option.none : Option Jvm.ClassFile.FieldType), 1)
def zmX3_isEmpty : zM := (yX3_isEmpty, cX3_isEmpty, 1, (Option.some Jvm.ClassFile.FieldType.boolean), 1)
def zmX3_labelType : zM := (yX3_labelType, cX3_labelType, 4, (Option.some Jvm.ClassFile.FieldType.int), 1)
def zmX3_leave : zM := (yX3_leave, cX3_leave, 2, (Option.none : Option Jvm.ClassFile.FieldType), 1)
def zmX3_open : zM := (yX3_open, cX3_open, 3, (Option.none : Option Jvm.ClassFile.FieldType), 1)
def zmX3_openedBy : zM := (yX3_openedBy, cX3_openedBy, 1, (Option.some Jvm.ClassFile.FieldType.int), 1)
def zmX3_result : zM := (yX3_result, cX3_result, 1, (Option.some Jvm.ClassFile.FieldType.int), 1)
def zmX3_take : zM := (yX3_take, cX3_take, 3, (Option.some Jvm.ClassFile.FieldType.int), 1)
def zmX3_turnToElse : zM := (yX3_turnToElse, cX3_turnToElse, 1, (Option.none : Option Jvm.ClassFile.FieldType), 1)
def zmX4_add : zM := (yX4_add, cX4_add, 3, (Option.none : Option Jvm.ClassFile.FieldType), 1)
def zmX4_fail : zM := (yX4_fail, cX4_fail, 3, (Option.none : Option Jvm.ClassFile.FieldType), 1)
def zmX4_octet : zM := (yX4_octet, cX4_octet, 2, (Option.some Jvm.ClassFile.FieldType.int), 1)
def zmX4_restart : zM := (yX4_restart, cX4_restart, 1, (Option.none : Option Jvm.ClassFile.FieldType), 1)
def zmX4_sameBytes : zM := (yX4_sameBytes, cX4_sameBytes, 5, (Option.some Jvm.ClassFile.FieldType.boolean), 1)
def zmX4_skipRest : zM := (yX4_skipRest, cX4_skipRest, 1, (Option.none : Option Jvm.ClassFile.FieldType), 1)
def zmX5_isOfOneByte : zM := (yX5_isOfOneByte, cX5_isOfOneByte, 2, (Option.some Jvm.ClassFile.FieldType.boolean), 1)
def zmX6_areMore : zM := (yX6_areMore, cX6_areMore, 1, (Option.some Jvm.ClassFile.FieldType.boolean), 1)
def zmX6_isRow : zM := (yX6_isRow, cX6_isRow, 1, (Option.some Jvm.ClassFile.FieldType.boolean), 1)
def zmX7_addLocals : zM := (yX7_addLocals, cX7_addLocals, 4, (Option.none : Option Jvm.ClassFile.FieldType), 1)
def zmX7_leavesLong : zM := (yX7_leavesLong, cX7_leavesLong, 1, (Option.some Jvm.ClassFile.FieldType.boolean), 1)
def zmX7_takesLong : zM := (yX7_takesLong, cX7_takesLong, 1, (Option.some Jvm.ClassFile.FieldType.boolean), 1)
def zmX7_takesTwo : zM := (yX7_takesTwo, cX7_takesTwo, 1, (Option.some Jvm.ClassFile.FieldType.boolean), 1)
def zmX8_end : zM := (yX8_end, cX8_end, 2, (Option.some Jvm.ClassFile.FieldType.boolean), 1)
def zmX8_place : zM := (yX8_place, cX8_place, 1, (Option.some Jvm.ClassFile.FieldType.int), 1)
def zmX0_codeAt : zM := (yX0_codeAt, cX0_codeAt, 4, (Option.some Jvm.ClassFile.FieldType.int), 2)
def zmX1_lookWhereItStands : zM := (yX1_lookWhereItStands, cX1_lookWhereItStands, 1, (Option.none : Option Jvm.ClassFile.FieldType), 2)
def zmX2_isUnchangedImport : zM := (yX2_isUnchangedImport, cX2_isUnchangedImport, 3, (Option.some Jvm.ClassFile.FieldType.boolean), 2)
def zmX3_begin : zM := (yX3_begin, cX3_begin, 2, (Option.none : Option Jvm.ClassFile.FieldType), 2)
def zmX3_close : zM := (yX3_close, cX3_close, 1, (Option.none : Option Jvm.ClassFile.FieldType), 2)
def zmX4_blockType : zM := (yX4_blockType, cX4_blockType, 3, (Option.some Jvm.ClassFile.FieldType.int), 2)
def zmX4_leave : zM := (yX4_leave, cX4_leave, 2, (Option.none : Option Jvm.ClassFile.FieldType), 2)
def zmX4_number : zM := (yX4_number, cX4_number, 6, (Option.some Jvm.ClassFile.FieldType.long), 2)
def zmX4_octetWithin : zM := (yX4_octetWithin, cX4_octetWithin, 5, (Option.some Jvm.ClassFile.FieldType.int), 2)
def zmX4_skipSigned : zM := (yX4_skipSigned, cX4_skipSigned, 6, (Option.none : Option Jvm.ClassFile.FieldType), 2)
def zmX6_addMemory : zM := (yX6_addMemory, cX6_addMemory, 2, (Option.none : Option Jvm.ClassFile.FieldType), 2)
def zmX6_addTable : zM := (yX6_addTable, cX6_addTable, 2, (Option.none : Option Jvm.ClassFile.FieldType), 2)
def zmX6_fit : zM := (yX6_fit, cX6_fit, 2, (Option.none : Option Jvm.ClassFile.FieldType), 2)
def zmX6_isExported : zM := (yX6_isExported, cX6_isExported, 4, (Option.some Jvm.ClassFile.FieldType.boolean), 2)
def zmX6_refuseBeyond : zM := (yX6_refuseBeyond, cX6_refuseBeyond, 3, (Option.none : Option Jvm.ClassFile.FieldType), 2)
def zmX7_followAccess : zM := (yX7_followAccess, cX7_followAccess, 7, (Option.none : Option Jvm.ClassFile.FieldType), 2)
def zmX7_followCall : zM := (yX7_followCall, cX7_followCall, 6, (Option.none : Option Jvm.ClassFile.FieldType), 2)
def zmX7_followChoice : zM := (yX7_followChoice, cX7_followChoice, 4, (Option.none : Option Jvm.ClassFile.FieldType), 2)
def zmX7_followFrame : zM := (yX7_followFrame, cX7_followFrame, 3, (Option.none : Option Jvm.ClassFile.FieldType), 2)
def zmX7_followGlobal : zM := (yX7_followGlobal, cX7_followGlobal, 5, (Option.none : Option Jvm.ClassFile.FieldType), 2)
def zmX7_followLeap : zM := (yX7_followLeap, cX7_followLeap, 5, (Option.none : Option Jvm.ClassFile.FieldType), 2)
def zmX7_followLocal : zM := (yX7_followLocal, cX7_followLocal, 5, (Option.none : Option Jvm.ClassFile.FieldType), 2)
def zmX7_followLonger : zM := (yX7_followLonger, cX7_followLonger, 4, (Option.none : Option Jvm.ClassFile.FieldType), 2)
def zmX7_followPlain : zM := (yX7_followPlain, cX7_followPlain, 3, (Option.none : Option Jvm.ClassFile.FieldType), 2)
def zmX7_followSize : zM := (yX7_followSize, cX7_followSize, 2, (Option.none : Option Jvm.ClassFile.FieldType), 2)
def zmX7_followTable : zM := (yX7_followTable, cX7_followTable, 5, (Option.none : Option Jvm.ClassFile.FieldType), 2)
def zmX8_count : zM := (yX8_count, cX8_count, 2, (Option.some Jvm.ClassFile.FieldType.int), 2)
def zmX8_feed : zM := (yX8_feed, cX8_feed, 6, (Option.some Jvm.ClassFile.FieldType.int), 2)
def zmX8_instructions : zM := (yX8_instructions, cX8_instructions, 2, (Option.some Jvm.ClassFile.FieldType.int), 2)
def zmX8_locals : zM := (yX8_locals, cX8_locals, 2, (Option.some Jvm.ClassFile.FieldType.int), 2)
def zmX1_turnFrames : zM := (yX1_turnFrames, cX1_turnFrames, 1, (Option.none : Option Jvm.ClassFile.FieldType), 3)
def zmX4_length : zM := (yX4_length, cX4_length, 4, (Option.some Jvm.ClassFile.FieldType.int), 3)
def zmX4_name : zM := (yX4_name, cX4_name, 7, (Option.some Jvm.ClassFile.FieldType.int), 3)
def zmX4_rowLength : zM := (yX4_rowLength, cX4_rowLength, 1, (Option.some Jvm.ClassFile.FieldType.int), 3)
def zmX4_type : zM := (yX4_type, cX4_type, 1, (Option.some Jvm.ClassFile.FieldType.int), 3)
def zmX5_readArguments : zM := (yX5_readArguments, cX5_readArguments, 2, (Option.none : Option Jvm.ClassFile.FieldType), 3)
def zmX5_readNumber : zM := (yX5_readNumber, cX5_readNumber, 5, (Option.none : Option Jvm.ClassFile.FieldType), 3)
def zmX6_begin : zM := (yX6_begin, cX6_begin, 2, (Option.none : Option Jvm.ClassFile.FieldType), 3)
def zmX6_finish : zM := (yX6_finish, cX6_finish, 1, (Option.none : Option Jvm.ClassFile.FieldType), 3)
def zmX6_readConstant : zM := (yX6_readConstant, cX6_readConstant, 7, (Option.none : Option Jvm.ClassFile.FieldType), 3)
def zmX6_readLimits : zM := (yX6_readLimits, cX6_readLimits, 9, (Option.none : Option Jvm.ClassFile.FieldType), 3)
def zmX6_readSectionNumber : zM := (yX6_readSectionNumber, cX6_readSectionNumber, 3, (Option.some Jvm.ClassFile.FieldType.int), 3)
def zmX6_readSignatureOfFunction : zM := (yX6_readSignatureOfFunction, cX6_readSignatureOfFunction, 5, (Option.none : Option Jvm.ClassFile.FieldType), 3)
def zmX6_readStart : zM := (yX6_readStart, cX6_readStart, 3, (Option.none : Option Jvm.ClassFile.FieldType), 3)
def zmX7_begin : zM := (yX7_begin, cX7_begin, 3, (Option.none : Option Jvm.ClassFile.FieldType), 3)
def zmX7_isRight : zM := (yX7_isRight, cX7_isRight, 3, (Option.some Jvm.ClassFile.FieldType.boolean), 3)
def zmX8_code : zM := (yX8_code, cX8_code, 3, (Option.some Jvm.ClassFile.FieldType.int), 3)
def zmX1_readGroups : zM := (yX1_readGroups, cX1_readGroups, 9, (Option.none : Option Jvm.ClassFile.FieldType), 4)
def zmX4_enter : zM := (yX4_enter, cX4_enter, 3, (Option.some Jvm.ClassFile.FieldType.int), 4)
def zmX4_outerName : zM := (yX4_outerName, cX4_outerName, 3, (Option.some Jvm.ClassFile.FieldType.int), 4)
def zmX5_readLabels : zM := (yX5_readLabels, cX5_readLabels, 5, (Option.none : Option Jvm.ClassFile.FieldType), 4)
def zmX6_readData : zM := (yX6_readData, cX6_readData, 3, (Option.none : Option Jvm.ClassFile.FieldType), 4)
def zmX6_readGlobal : zM := (yX6_readGlobal, cX6_readGlobal, 3, (Option.none : Option Jvm.ClassFile.FieldType), 4)
def zmX6_readMemory : zM := (yX6_readMemory, cX6_readMemory, 1, (Option.none : Option Jvm.ClassFile.FieldType), 4)
def zmX6_readRowOfFunctions : zM := (yX6_readRowOfFunctions, cX6_readRowOfFunctions, 5, (Option.none : Option Jvm.ClassFile.FieldType), 4)
def zmX6_readSignature : zM := (yX6_readSignature, cX6_readSignature, 5, (Option.none : Option Jvm.ClassFile.FieldType), 4)
def zmX6_readTable : zM := (yX6_readTable, cX6_readTable, 1, (Option.none : Option Jvm.ClassFile.FieldType), 4)
def zmX1_readInstruction : zM := (yX1_readInstruction, cX1_readInstruction, 1, (Option.none : Option Jvm.ClassFile.FieldType), 5)
def zmX6_readElement : zM := (yX6_readElement, cX6_readElement, 2, (Option.none : Option Jvm.ClassFile.FieldType), 5)
def zmX6_readExport : zM := (yX6_readExport, cX6_readExport, 9, (Option.none : Option Jvm.ClassFile.FieldType), 5)
def zmX6_readImport : zM := (yX6_readImport, cX6_readImport, 3, (Option.none : Option Jvm.ClassFile.FieldType), 5)
def zmX1_readBody : zM := (yX1_readBody, cX1_readBody, 5, (Option.none : Option Jvm.ClassFile.FieldType), 6)
def zmX6_readSection : zM := (yX6_readSection, cX6_readSection, 5, (Option.none : Option Jvm.ClassFile.FieldType), 7)
def zmX8_check : zM := (yX8_check, cX8_check, 2, (Option.some Jvm.ClassFile.FieldType.int), 8)
set_option maxRecDepth 20000 in
theorem calX0_addCode : zCal zmX0_addCode := ⟨(zWS3 157 rfl rfl), iniX0, nmhX0⟩
theorem dscX0_addCode : (parseMethodDescriptor zmX0_addCode.1.desc).map (fun d => d.parameters.length) = some 1 := by decide +kernel
set_option maxRecDepth 20000 in
theorem virX0_addCode : Cond.instanceMethod zmX0_addCode.1 ∈ zWS ∧ Cond.selects zmX0_addCode.1.cls zmX0_addCode.1 zmX0_addCode.1 ∈ zWS := ⟨(zWS3 156 rfl rfl), (zSL4 14 8 rfl)⟩
set_option maxRecDepth 20000 in
theorem calX0_beginBody : zCal zmX0_beginBody := ⟨(zWS3 112 rfl rfl), iniX0, nmhX0⟩
theorem dscX0_beginBody : (parseMethodDescriptor zmX0_beginBody.1.desc).map (fun d => d.parameters.length) = some 2 := by decide +kernel
set_option maxRecDepth 20000 in
theorem virX0_beginBody : Cond.instanceMethod zmX0_beginBody.1 ∈ zWS ∧ Cond.selects zmX0_beginBody.1.cls zmX0_beginBody.1 zmX0_beginBody.1 ∈ zWS := ⟨(zWS3 111 rfl rfl), (zSL4 6 8 rfl)⟩
set_option maxRecDepth 20000 in
theorem calX0_copy : zCal zmX0_copy := ⟨(zWS4 69 rfl rfl), iniX0, nmhX0⟩
theorem dscX0_copy : (parseMethodDescriptor zmX0_copy.1.desc).map (fun d => d.parameters.length) = some 1 := by decide +kernel
set_option maxRecDepth 20000 in
theorem virX0_copy : Cond.instanceMethod zmX0_copy.1 ∈ zWS ∧ Cond.selects zmX0_copy.1.cls zmX0_copy.1 zmX0_copy.1 ∈ zWS := ⟨(zWS4 68 rfl rfl), (zSL6 14 8 rfl)⟩
set_option maxRecDepth 20000 in
theorem calX0_countOf : zCal zmX0_countOf := ⟨(zWS4 88 rfl rfl), iniX0, nmhX0⟩
theorem dscX0_countOf : (parseMethodDescriptor zmX0_countOf.1.desc).map (fun d => d.parameters.length) = some 1 := by decide +kernel
set_option maxRecDepth 20000 in
theorem virX0_countOf : Cond.instanceMethod zmX0_countOf.1 ∈ zWS ∧ Cond.selects zmX0_countOf.1.cls zmX0_countOf.1 zmX0_countOf.1 ∈ zWS := ⟨(zWS4 87 rfl rfl), (zSL6 15 8 rfl)⟩
set_option maxRecDepth 20000 in
theorem calX0_endBody : zCal zmX0_endBody := ⟨(zWS4 31 rfl rfl), iniX0, nmhX0⟩
theorem dscX0_endBody : (parseMethodDescriptor zmX0_endBody.1.desc).map (fun d => d.parameters.length) = some 1 := by decide +kernel
set_option maxRecDepth 20000 in
theorem virX0_endBody : Cond.instanceMethod zmX0_endBody.1 ∈ zWS ∧ Cond.selects zmX0_endBody.1.cls zmX0_endBody.1 zmX0_endBody.1 ∈ zWS := ⟨(zWS4 30 rfl rfl), (zSL6 6 8 rfl)⟩
set_option maxRecDepth 20000 in
theorem calX0_fillCounts : zCal zmX0_fillCounts := ⟨(zWS4 65 rfl rfl), iniX0, nmhX0⟩
theorem dscX0_fillCounts : (parseMethodDescriptor zmX0_fillCounts.1.desc).map (fun d => d.parameters.length) = some 1 := by decide +kernel
set_option maxRecDepth 20000 in
theorem virX0_fillCounts : Cond.instanceMethod zmX0_fillCounts.1 ∈ zWS ∧ Cond.selects zmX0_fillCounts.1.cls zmX0_fillCounts.1 zmX0_fillCounts.1 ∈ zWS := ⟨(zWS4 64 rfl rfl), (zSL6 13 8 rfl)⟩
set_option maxRecDepth 20000 in
theorem calX0_has : zCal zmX0_has := ⟨(zWS4 96 rfl rfl), iniX0, nmhX0⟩
theorem dscX0_has : (parseMethodDescriptor zmX0_has.1.desc).map (fun d => d.parameters.length) = some 1 := by decide +kernel
set_option maxRecDepth 20000 in
theorem virX0_has : Cond.instanceMethod zmX0_has.1 ∈ zWS ∧ Cond.selects zmX0_has.1.cls zmX0_has.1 zmX0_has.1 ∈ zWS := ⟨(zWS4 95 rfl rfl), (zSL7 0 8 rfl)⟩
set_option maxRecDepth 20000 in
theorem calX1_begin : zCal zmX1_begin := ⟨(zWS2 123 rfl rfl), iniX1, nmhX1⟩
theorem dscX1_begin : (parseMethodDescriptor zmX1_begin.1.desc).map (fun d => d.parameters.length) = some 0 := by decide +kernel
set_option maxRecDepth 20000 in
theorem virX1_begin : Cond.instanceMethod zmX1_begin.1 ∈ zWS ∧ Cond.selects zmX1_begin.1.cls zmX1_begin.1 zmX1_begin.1 ∈ zWS := ⟨(zWS2 122 rfl rfl), (zSL1 4 7 rfl)⟩
set_option maxRecDepth 20000 in
theorem calX2_addFunction : zCal zmX2_addFunction := ⟨(zWS2 220 rfl rfl), iniX2, nmhX2⟩
theorem dscX2_addFunction : (parseMethodDescriptor zmX2_addFunction.1.desc).map (fun d => d.parameters.length) = some 1 := by decide +kernel
set_option maxRecDepth 20000 in
theorem virX2_addFunction : Cond.instanceMethod zmX2_addFunction.1 ∈ zWS ∧ Cond.selects zmX2_addFunction.1.cls zmX2_addFunction.1 zmX2_addFunction.1 ∈ zWS := ⟨(zWS2 219 rfl rfl), (zSL2 8 15 rfl)⟩
set_option maxRecDepth 20000 in
theorem calX2_addGlobal : zCal zmX2_addGlobal := ⟨(zWS2 237 rfl rfl), iniX2, nmhX2⟩
theorem dscX2_addGlobal : (parseMethodDescriptor zmX2_addGlobal.1.desc).map (fun d => d.parameters.length) = some 2 := by decide +kernel
set_option maxRecDepth 20000 in
theorem virX2_addGlobal : Cond.instanceMethod zmX2_addGlobal.1 ∈ zWS ∧ Cond.selects zmX2_addGlobal.1.cls zmX2_addGlobal.1 zmX2_addGlobal.1 ∈ zWS := ⟨(zWS2 236 rfl rfl), (zSL2 12 15 rfl)⟩
set_option maxRecDepth 20000 in
theorem calX2_addParameter : zCal zmX2_addParameter := ⟨(zWS2 194 rfl rfl), iniX2, nmhX2⟩
theorem dscX2_addParameter : (parseMethodDescriptor zmX2_addParameter.1.desc).map (fun d => d.parameters.length) = some 2 := by decide +kernel
set_option maxRecDepth 20000 in
theorem virX2_addParameter : Cond.instanceMethod zmX2_addParameter.1 ∈ zWS ∧ Cond.selects zmX2_addParameter.1.cls zmX2_addParameter.1 zmX2_addParameter.1 ∈ zWS := ⟨(zWS2 193 rfl rfl), (zSL2 2 15 rfl)⟩
set_option maxRecDepth 20000 in
theorem calX2_changesGlobal : zCal zmX2_changesGlobal := ⟨(zWS3 26 rfl rfl), iniX2, nmhX2⟩
theorem dscX2_changesGlobal : (parseMethodDescriptor zmX2_changesGlobal.1.desc).map (fun d => d.parameters.length) = some 1 := by decide +kernel
set_option maxRecDepth 20000 in
theorem virX2_changesGlobal : Cond.instanceMethod zmX2_changesGlobal.1 ∈ zWS ∧ Cond.selects zmX2_changesGlobal.1.cls zmX2_changesGlobal.1 zmX2_changesGlobal.1 ∈ zWS := ⟨(zWS3 25 rfl rfl), (zSL3 3 15 rfl)⟩
set_option maxRecDepth 20000 in
theorem calX2_clear : zCal zmX2_clear := ⟨(zWS2 118 rfl rfl), iniX2, nmhX2⟩
theorem dscX2_clear : (parseMethodDescriptor zmX2_clear.1.desc).map (fun d => d.parameters.length) = some 0 := by decide +kernel
set_option maxRecDepth 20000 in
theorem virX2_clear : Cond.instanceMethod zmX2_clear.1 ∈ zWS ∧ Cond.selects zmX2_clear.1.cls zmX2_clear.1 zmX2_clear.1 ∈ zWS := ⟨(zWS2 117 rfl rfl), (zSL1 3 15 rfl)⟩
set_option maxRecDepth 20000 in
theorem calX2_countOfKind : zCal zmX2_countOfKind := ⟨(zWS3 38 rfl rfl), iniX2, nmhX2⟩
theorem dscX2_countOfKind : (parseMethodDescriptor zmX2_countOfKind.1.desc).map (fun d => d.parameters.length) = some 1 := by decide +kernel
set_option maxRecDepth 20000 in
theorem virX2_countOfKind : Cond.instanceMethod zmX2_countOfKind.1 ∈ zWS ∧ Cond.selects zmX2_countOfKind.1.cls zmX2_countOfKind.1 zmX2_countOfKind.1 ∈ zWS := ⟨(zWS3 37 rfl rfl), (zSL3 6 15 rfl)⟩
set_option maxRecDepth 20000 in
theorem calX2_firstWrong : zCal zmX2_firstWrong := ⟨(zWS4 61 rfl rfl), iniX2, nmhX2⟩
theorem dscX2_firstWrong : (parseMethodDescriptor zmX2_firstWrong.1.desc).map (fun d => d.parameters.length) = some 0 := by decide +kernel
set_option maxRecDepth 20000 in
theorem virX2_firstWrong : Cond.instanceMethod zmX2_firstWrong.1 ∈ zWS ∧ Cond.selects zmX2_firstWrong.1.cls zmX2_firstWrong.1 zmX2_firstWrong.1 ∈ zWS := ⟨(zWS4 60 rfl rfl), (zSL6 12 15 rfl)⟩
set_option maxRecDepth 20000 in
theorem calX2_noteWrong : zCal zmX2_noteWrong := ⟨(zWS2 216 rfl rfl), iniX2, nmhX2⟩
theorem dscX2_noteWrong : (parseMethodDescriptor zmX2_noteWrong.1.desc).map (fun d => d.parameters.length) = some 2 := by decide +kernel
set_option maxRecDepth 20000 in
theorem virX2_noteWrong : Cond.instanceMethod zmX2_noteWrong.1 ∈ zWS ∧ Cond.selects zmX2_noteWrong.1.cls zmX2_noteWrong.1 zmX2_noteWrong.1 ∈ zWS := ⟨(zWS2 215 rfl rfl), (zSL2 7 15 rfl)⟩
set_option maxRecDepth 20000 in
theorem calX2_parameter : zCal zmX2_parameter := ⟨(zWS3 94 rfl rfl), iniX2, nmhX2⟩
theorem dscX2_parameter : (parseMethodDescriptor zmX2_parameter.1.desc).map (fun d => d.parameters.length) = some 2 := by decide +kernel
set_option maxRecDepth 20000 in
theorem virX2_parameter : Cond.instanceMethod zmX2_parameter.1 ∈ zWS ∧ Cond.selects zmX2_parameter.1.cls zmX2_parameter.1 zmX2_parameter.1 ∈ zWS := ⟨(zWS3 93 rfl rfl), (zSL4 3 15 rfl)⟩
set_option maxRecDepth 20000 in
theorem calX2_parameterCount : zCal zmX2_parameterCount := ⟨(zWS3 58 rfl rfl), iniX2, nmhX2⟩
theorem dscX2_parameterCount : (parseMethodDescriptor zmX2_parameterCount.1.desc).map (fun d => d.parameters.length) = some 1 := by decide +kernel
set_option maxRecDepth 20000 in
theorem virX2_parameterCount : Cond.instanceMethod zmX2_parameterCount.1 ∈ zWS ∧ Cond.selects zmX2_parameterCount.1.cls zmX2_parameterCount.1 zmX2_parameterCount.1 ∈ zWS := ⟨(zWS3 57 rfl rfl), (zSL3 11 15 rfl)⟩
set_option maxRecDepth 20000 in
theorem calX2_resultOf : zCal zmX2_resultOf := ⟨(zWS3 62 rfl rfl), iniX2, nmhX2⟩
theorem dscX2_resultOf : (parseMethodDescriptor zmX2_resultOf.1.desc).map (fun d => d.parameters.length) = some 1 := by decide +kernel
set_option maxRecDepth 20000 in
theorem virX2_resultOf : Cond.instanceMethod zmX2_resultOf.1 ∈ zWS ∧ Cond.selects zmX2_resultOf.1.cls zmX2_resultOf.1 zmX2_resultOf.1 ∈ zWS := ⟨(zWS3 61 rfl rfl), (zSL3 12 15 rfl)⟩
set_option maxRecDepth 20000 in
theorem calX2_signatureOf : zCal zmX2_signatureOf := ⟨(zWS3 54 rfl rfl), iniX2, nmhX2⟩
theorem dscX2_signatureOf : (parseMethodDescriptor zmX2_signatureOf.1.desc).map (fun d => d.parameters.length) = some 1 := by decide +kernel
set_option maxRecDepth 20000 in
theorem virX2_signatureOf : Cond.instanceMethod zmX2_signatureOf.1 ∈ zWS ∧ Cond.selects zmX2_signatureOf.1.cls zmX2_signatureOf.1 zmX2_signatureOf.1 ∈ zWS := ⟨(zWS3 53 rfl rfl), (zSL3 10 15 rfl)⟩
set_option maxRecDepth 20000 in
theorem calX2_typeOfGlobal : zCal zmX2_typeOfGlobal := ⟨(zWS3 30 rfl rfl), iniX2, nmhX2⟩
theorem dscX2_typeOfGlobal : (parseMethodDescriptor zmX2_typeOfGlobal.1.desc).map (fun d => d.parameters.length) = some 1 := by decide +kernel
set_option maxRecDepth 20000 in
theorem virX2_typeOfGlobal : Cond.instanceMethod zmX2_typeOfGlobal.1 ∈ zWS ∧ Cond.selects zmX2_typeOfGlobal.1.cls zmX2_typeOfGlobal.1 zmX2_typeOfGlobal.1 ∈ zWS := ⟨(zWS3 29 rfl rfl), (zSL3 4 15 rfl)⟩
set_option maxRecDepth 20000 in
theorem calX3_bodyResult : zCal zmX3_bodyResult := ⟨(zWS3 202 rfl rfl), iniX3, nmhX3⟩
theorem dscX3_bodyResult : (parseMethodDescriptor zmX3_bodyResult.1.desc).map (fun d => d.parameters.length) = some 0 := by decide +kernel
set_option maxRecDepth 20000 in
theorem virX3_bodyResult : Cond.instanceMethod zmX3_bodyResult.1 ∈ zWS ∧ Cond.selects zmX3_bodyResult.1.cls zmX3_bodyResult.1 zmX3_bodyResult.1 ∈ zWS := ⟨(zWS3 201 rfl rfl), (zSL5 9 8 rfl)⟩
set_option maxRecDepth 20000 in
theorem calX3_demand : zCal zmX3_demand := ⟨(zWS3 182 rfl rfl), iniX3, nmhX3⟩
theorem dscX3_demand : (parseMethodDescriptor zmX3_demand.1.desc).map (fun d => d.parameters.length) = some 1 := by decide +kernel
set_option maxRecDepth 20000 in
theorem virX3_demand : Cond.instanceMethod zmX3_demand.1 ∈ zWS ∧ Cond.selects zmX3_demand.1.cls zmX3_demand.1 zmX3_demand.1 ∈ zWS := ⟨(zWS3 181 rfl rfl), (zSL5 4 8 rfl)⟩
set_option maxRecDepth 20000 in
theorem calX3_forget : zCal zmX3_forget := ⟨(zWS3 169 rfl rfl), iniX3, nmhX3⟩
theorem dscX3_forget : (parseMethodDescriptor zmX3_forget.1.desc).map (fun d => d.parameters.length) = some 0 := by decide +kernel
set_option maxRecDepth 20000 in
theorem virX3_forget : Cond.instanceMethod zmX3_forget.1 ∈ zWS ∧ Cond.selects zmX3_forget.1.cls zmX3_forget.1 zmX3_forget.1 ∈ zWS := ⟨(zWS3 168 rfl rfl), (zSL5 1 8 rfl)⟩
set_option maxRecDepth 20000 in
theorem calX3_isEmpty : zCal zmX3_isEmpty := ⟨(zWS3 186 rfl rfl), iniX3, nmhX3⟩
theorem dscX3_isEmpty : (parseMethodDescriptor zmX3_isEmpty.1.desc).map (fun d => d.parameters.length) = some 0 := by decide +kernel
set_option maxRecDepth 20000 in
theorem virX3_isEmpty : Cond.instanceMethod zmX3_isEmpty.1 ∈ zWS ∧ Cond.selects zmX3_isEmpty.1.cls zmX3_isEmpty.1 zmX3_isEmpty.1 ∈ zWS := ⟨(zWS3 185 rfl rfl), (zSL5 5 8 rfl)⟩
set_option maxRecDepth 20000 in
theorem calX3_labelType : zCal zmX3_labelType := ⟨(zWS3 194 rfl rfl), iniX3, nmhX3⟩
theorem dscX3_labelType : (parseMethodDescriptor zmX3_labelType.1.desc).map (fun d => d.parameters.length) = some 1 := by decide +kernel
set_option maxRecDepth 20000 in
theorem virX3_labelType : Cond.instanceMethod zmX3_labelType.1 ∈ zWS ∧ Cond.selects zmX3_labelType.1.cls zmX3_labelType.1 zmX3_labelType.1 ∈ zWS := ⟨(zWS3 193 rfl rfl), (zSL5 7 8 rfl)⟩
set_option maxRecDepth 20000 in
theorem calX3_leave : zCal zmX3_leave := ⟨(zWS3 206 rfl rfl), iniX3, nmhX3⟩
theorem dscX3_leave : (parseMethodDescriptor zmX3_leave.1.desc).map (fun d => d.parameters.length) = some 1 := by decide +kernel
set_option maxRecDepth 20000 in
theorem virX3_leave : Cond.instanceMethod zmX3_leave.1 ∈ zWS ∧ Cond.selects zmX3_leave.1.cls zmX3_leave.1 zmX3_leave.1 ∈ zWS := ⟨(zWS3 205 rfl rfl), (zSL5 10 8 rfl)⟩
set_option maxRecDepth 20000 in
theorem calX3_open : zCal zmX3_open := ⟨(zWS3 89 rfl rfl), iniX3, nmhX3⟩
theorem dscX3_open : (parseMethodDescriptor zmX3_open.1.desc).map (fun d => d.parameters.length) = some 2 := by decide +kernel
set_option maxRecDepth 20000 in
theorem virX3_open : Cond.instanceMethod zmX3_open.1 ∈ zWS ∧ Cond.selects zmX3_open.1.cls zmX3_open.1 zmX3_open.1 ∈ zWS := ⟨(zWS3 88 rfl rfl), (zSL4 2 8 rfl)⟩
set_option maxRecDepth 20000 in
theorem calX3_openedBy : zCal zmX3_openedBy := ⟨(zWS3 138 rfl rfl), iniX3, nmhX3⟩
theorem dscX3_openedBy : (parseMethodDescriptor zmX3_openedBy.1.desc).map (fun d => d.parameters.length) = some 0 := by decide +kernel
set_option maxRecDepth 20000 in
theorem virX3_openedBy : Cond.instanceMethod zmX3_openedBy.1 ∈ zWS ∧ Cond.selects zmX3_openedBy.1.cls zmX3_openedBy.1 zmX3_openedBy.1 ∈ zWS := ⟨(zWS3 137 rfl rfl), (zSL4 10 8 rfl)⟩
set_option maxRecDepth 20000 in
theorem calX3_result : zCal zmX3_result := ⟨(zWS3 178 rfl rfl), iniX3, nmhX3⟩
theorem dscX3_result : (parseMethodDescriptor zmX3_result.1.desc).map (fun d => d.parameters.length) = some 0 := by decide +kernel
set_option maxRecDepth 20000 in
theorem virX3_result : Cond.instanceMethod zmX3_result.1 ∈ zWS ∧ Cond.selects zmX3_result.1.cls zmX3_result.1 zmX3_result.1 ∈ zWS := ⟨(zWS3 177 rfl rfl), (zSL5 3 8 rfl)⟩
set_option maxRecDepth 20000 in
theorem calX3_take : zCal zmX3_take := ⟨(zWS3 173 rfl rfl), iniX3, nmhX3⟩
theorem dscX3_take : (parseMethodDescriptor zmX3_take.1.desc).map (fun d => d.parameters.length) = some 1 := by decide +kernel
set_option maxRecDepth 20000 in
theorem virX3_take : Cond.instanceMethod zmX3_take.1 ∈ zWS ∧ Cond.selects zmX3_take.1.cls zmX3_take.1 zmX3_take.1 ∈ zWS := ⟨(zWS3 172 rfl rfl), (zSL5 2 8 rfl)⟩
set_option maxRecDepth 20000 in
theorem calX3_turnToElse : zCal zmX3_turnToElse := ⟨(zWS4 22 rfl rfl), iniX3, nmhX3⟩
theorem dscX3_turnToElse : (parseMethodDescriptor zmX3_turnToElse.1.desc).map (fun d => d.parameters.length) = some 0 := by decide +kernel
set_option maxRecDepth 20000 in
theorem virX3_turnToElse : Cond.instanceMethod zmX3_turnToElse.1 ∈ zWS ∧ Cond.selects zmX3_turnToElse.1.cls zmX3_turnToElse.1 zmX3_turnToElse.1 ∈ zWS := ⟨(zWS4 21 rfl rfl), (zSL6 4 8 rfl)⟩
set_option maxRecDepth 20000 in
theorem calX4_add : zCal zmX4_add := ⟨(zWS2 98 rfl rfl), iniX4, nmhX4⟩
theorem dscX4_add : (parseMethodDescriptor zmX4_add.1.desc).map (fun d => d.parameters.length) = some 1 := by decide +kernel
set_option maxRecDepth 20000 in
theorem virX4_add : Cond.instanceMethod zmX4_add.1 ∈ zWS ∧ Cond.selects zmX4_add.1.cls zmX4_add.1 zmX4_add.1 ∈ zWS := ⟨(zWS2 97 rfl rfl), (zSL1 0 6 rfl)⟩
set_option maxRecDepth 20000 in
theorem calX4_fail : zCal zmX4_fail := ⟨(zWS2 137 rfl rfl), iniX4, nmhX4⟩
theorem dscX4_fail : (parseMethodDescriptor zmX4_fail.1.desc).map (fun d => d.parameters.length) = some 2 := by decide +kernel
set_option maxRecDepth 20000 in
theorem virX4_fail : Cond.instanceMethod zmX4_fail.1 ∈ zWS ∧ Cond.selects zmX4_fail.1.cls zmX4_fail.1 zmX4_fail.1 ∈ zWS := ⟨(zWS2 136 rfl rfl), (zSL1 7 6 rfl)⟩
set_option maxRecDepth 20000 in
theorem calX4_octet : zCal zmX4_octet := ⟨(zWS2 133 rfl rfl), iniX4, nmhX4⟩
theorem dscX4_octet : (parseMethodDescriptor zmX4_octet.1.desc).map (fun d => d.parameters.length) = some 0 := by decide +kernel
set_option maxRecDepth 20000 in
theorem virX4_octet : Cond.instanceMethod zmX4_octet.1 ∈ zWS ∧ Cond.selects zmX4_octet.1.cls zmX4_octet.1 zmX4_octet.1 ∈ zWS := ⟨(zWS2 132 rfl rfl), (zSL1 6 6 rfl)⟩
set_option maxRecDepth 20000 in
theorem calX4_restart : zCal zmX4_restart := ⟨(zWS2 114 rfl rfl), iniX4, nmhX4⟩
theorem dscX4_restart : (parseMethodDescriptor zmX4_restart.1.desc).map (fun d => d.parameters.length) = some 0 := by decide +kernel
set_option maxRecDepth 20000 in
theorem virX4_restart : Cond.instanceMethod zmX4_restart.1 ∈ zWS ∧ Cond.selects zmX4_restart.1.cls zmX4_restart.1 zmX4_restart.1 ∈ zWS := ⟨(zWS2 113 rfl rfl), (zSL1 2 6 rfl)⟩
set_option maxRecDepth 20000 in
theorem calX4_sameBytes : zCal zmX4_sameBytes := ⟨(zWS3 46 rfl rfl), iniX4, nmhX4⟩
theorem dscX4_sameBytes : (parseMethodDescriptor zmX4_sameBytes.1.desc).map (fun d => d.parameters.length) = some 3 := by decide +kernel
set_option maxRecDepth 20000 in
theorem virX4_sameBytes : Cond.instanceMethod zmX4_sameBytes.1 ∈ zWS ∧ Cond.selects zmX4_sameBytes.1.cls zmX4_sameBytes.1 zmX4_sameBytes.1 ∈ zWS := ⟨(zWS3 45 rfl rfl), (zSL3 8 6 rfl)⟩
set_option maxRecDepth 20000 in
theorem calX4_skipRest : zCal zmX4_skipRest := ⟨(zWS4 45 rfl rfl), iniX4, nmhX4⟩
theorem dscX4_skipRest : (parseMethodDescriptor zmX4_skipRest.1.desc).map (fun d => d.parameters.length) = some 0 := by decide +kernel
set_option maxRecDepth 20000 in
theorem virX4_skipRest : Cond.instanceMethod zmX4_skipRest.1 ∈ zWS ∧ Cond.selects zmX4_skipRest.1.cls zmX4_skipRest.1 zmX4_skipRest.1 ∈ zWS := ⟨(zWS4 44 rfl rfl), (zSL6 9 6 rfl)⟩
set_option maxRecDepth 20000 in
theorem calX5_isOfOneByte : zCal zmX5_isOfOneByte := ⟨(zWS3 128 rfl rfl), iniX5, nmhX5⟩
theorem dscX5_isOfOneByte : (parseMethodDescriptor zmX5_isOfOneByte.1.desc).map (fun d => d.parameters.length) = some 1 := by decide +kernel
set_option maxRecDepth 20000 in
theorem virX5_isOfOneByte : Cond.static yX5_isOfOneByte ∈ zWS := (zWS3 127 rfl rfl)
set_option maxRecDepth 20000 in
theorem calX6_areMore : zCal zmX6_areMore := ⟨(zWS2 141 rfl rfl), iniX6, nmhX6⟩
theorem dscX6_areMore : (parseMethodDescriptor zmX6_areMore.1.desc).map (fun d => d.parameters.length) = some 0 := by decide +kernel
set_option maxRecDepth 20000 in
theorem virX6_areMore : Cond.instanceMethod zmX6_areMore.1 ∈ zWS ∧ Cond.selects zmX6_areMore.1.cls zmX6_areMore.1 zmX6_areMore.1 ∈ zWS := ⟨(zWS2 140 rfl rfl), (zSL1 8 6 rfl)⟩
set_option maxRecDepth 20000 in
theorem calX6_isRow : zCal zmX6_isRow := ⟨(zWS2 167 rfl rfl), iniX6, nmhX6⟩
theorem dscX6_isRow : (parseMethodDescriptor zmX6_isRow.1.desc).map (fun d => d.parameters.length) = some 1 := by decide +kernel
set_option maxRecDepth 20000 in
theorem virX6_isRow : Cond.static yX6_isRow ∈ zWS := (zWS2 166 rfl rfl)
set_option maxRecDepth 20000 in
theorem calX7_addLocals : zCal zmX7_addLocals := ⟨(zWS3 98 rfl rfl), iniX7, nmhX7⟩
theorem dscX7_addLocals : (parseMethodDescriptor zmX7_addLocals.1.desc).map (fun d => d.parameters.length) = some 2 := by decide +kernel
set_option maxRecDepth 20000 in
theorem virX7_addLocals : Cond.instanceMethod zmX7_addLocals.1 ∈ zWS ∧ Cond.selects zmX7_addLocals.1.cls zmX7_addLocals.1 zmX7_addLocals.1 ∈ zWS := ⟨(zWS3 97 rfl rfl), (zSL4 4 4 rfl)⟩
set_option maxRecDepth 20000 in
theorem calX7_leavesLong : zCal zmX7_leavesLong := ⟨(zWS4 8 rfl rfl), iniX7, nmhX7⟩
theorem dscX7_leavesLong : (parseMethodDescriptor zmX7_leavesLong.1.desc).map (fun d => d.parameters.length) = some 1 := by decide +kernel
set_option maxRecDepth 20000 in
theorem virX7_leavesLong : Cond.static yX7_leavesLong ∈ zWS := (zWS4 7 rfl rfl)
set_option maxRecDepth 20000 in
theorem calX7_takesLong : zCal zmX7_takesLong := ⟨(zWS4 2 rfl rfl), iniX7, nmhX7⟩
theorem dscX7_takesLong : (parseMethodDescriptor zmX7_takesLong.1.desc).map (fun d => d.parameters.length) = some 1 := by decide +kernel
set_option maxRecDepth 20000 in
theorem virX7_takesLong : Cond.static yX7_takesLong ∈ zWS := (zWS4 1 rfl rfl)
set_option maxRecDepth 20000 in
theorem calX7_takesTwo : zCal zmX7_takesTwo := ⟨(zWS4 5 rfl rfl), iniX7, nmhX7⟩
theorem dscX7_takesTwo : (parseMethodDescriptor zmX7_takesTwo.1.desc).map (fun d => d.parameters.length) = some 1 := by decide +kernel
set_option maxRecDepth 20000 in
theorem virX7_takesTwo : Cond.static yX7_takesTwo ∈ zWS := (zWS4 4 rfl rfl)
set_option maxRecDepth 20000 in
theorem calX8_end : zCal zmX8_end := ⟨(zWS2 102 rfl rfl), iniX8, nmhX8⟩
theorem dscX8_end : (parseMethodDescriptor zmX8_end.1.desc).map (fun d => d.parameters.length) = some 1 := by decide +kernel
set_option maxRecDepth 20000 in
theorem virX8_end : Cond.instanceMethod zmX8_end.1 ∈ zWS ∧ Cond.selects zmX8_end.1.cls zmX8_end.1 zmX8_end.1 ∈ zWS := ⟨(zWS2 100 rfl rfl), (zWS2 101 rfl rfl)⟩
set_option maxRecDepth 20000 in
theorem calX8_place : zCal zmX8_place := ⟨(zWS4 80 rfl rfl), iniX8, nmhX8⟩
theorem dscX8_place : (parseMethodDescriptor zmX8_place.1.desc).map (fun d => d.parameters.length) = some 0 := by decide +kernel
set_option maxRecDepth 20000 in
theorem virX8_place : Cond.instanceMethod zmX8_place.1 ∈ zWS ∧ Cond.selects zmX8_place.1.cls zmX8_place.1 zmX8_place.1 ∈ zWS := ⟨(zWS4 78 rfl rfl), (zWS4 79 rfl rfl)⟩
set_option maxRecDepth 20000 in
theorem calX0_codeAt : zCal zmX0_codeAt := ⟨(zWS4 104 rfl rfl), iniX0, nmhX0⟩
theorem dscX0_codeAt : (parseMethodDescriptor zmX0_codeAt.1.desc).map (fun d => d.parameters.length) = some 2 := by decide +kernel
set_option maxRecDepth 20000 in
theorem virX0_codeAt : Cond.instanceMethod zmX0_codeAt.1 ∈ zWS ∧ Cond.selects zmX0_codeAt.1.cls zmX0_codeAt.1 zmX0_codeAt.1 ∈ zWS := ⟨(zWS4 103 rfl rfl), (zSL7 1 8 rfl)⟩
set_option maxRecDepth 20000 in
theorem calX1_lookWhereItStands : zCal zmX1_lookWhereItStands := ⟨(zWS3 134 rfl rfl), iniX1, nmhX1⟩
theorem dscX1_lookWhereItStands : (parseMethodDescriptor zmX1_lookWhereItStands.1.desc).map (fun d => d.parameters.length) = some 0 := by decide +kernel
set_option maxRecDepth 20000 in
theorem virX1_lookWhereItStands : Cond.instanceMethod zmX1_lookWhereItStands.1 ∈ zWS ∧ Cond.selects zmX1_lookWhereItStands.1.cls zmX1_lookWhereItStands.1 zmX1_lookWhereItStands.1 ∈ zWS := ⟨(zWS3 133 rfl rfl), (zSL4 9 7 rfl)⟩
set_option maxRecDepth 20000 in
theorem calX2_isUnchangedImport : zCal zmX2_isUnchangedImport := ⟨(zWS3 22 rfl rfl), iniX2, nmhX2⟩
theorem dscX2_isUnchangedImport : (parseMethodDescriptor zmX2_isUnchangedImport.1.desc).map (fun d => d.parameters.length) = some 1 := by decide +kernel
set_option maxRecDepth 20000 in
theorem virX2_isUnchangedImport : Cond.instanceMethod zmX2_isUnchangedImport.1 ∈ zWS ∧ Cond.selects zmX2_isUnchangedImport.1.cls zmX2_isUnchangedImport.1 zmX2_isUnchangedImport.1 ∈ zWS := ⟨(zWS3 21 rfl rfl), (zSL3 2 15 rfl)⟩
set_option maxRecDepth 20000 in
theorem calX3_begin : zCal zmX3_begin := ⟨(zWS3 85 rfl rfl), iniX3, nmhX3⟩
theorem dscX3_begin : (parseMethodDescriptor zmX3_begin.1.desc).map (fun d => d.parameters.length) = some 1 := by decide +kernel
set_option maxRecDepth 20000 in
theorem virX3_begin : Cond.instanceMethod zmX3_begin.1 ∈ zWS ∧ Cond.selects zmX3_begin.1.cls zmX3_begin.1 zmX3_begin.1 ∈ zWS := ⟨(zWS3 84 rfl rfl), (zSL4 1 8 rfl)⟩
set_option maxRecDepth 20000 in
theorem calX3_close : zCal zmX3_close := ⟨(zWS4 26 rfl rfl), iniX3, nmhX3⟩
theorem dscX3_close : (parseMethodDescriptor zmX3_close.1.desc).map (fun d => d.parameters.length) = some 0 := by decide +kernel
set_option maxRecDepth 20000 in
theorem virX3_close : Cond.instanceMethod zmX3_close.1 ∈ zWS ∧ Cond.selects zmX3_close.1.cls zmX3_close.1 zmX3_close.1 ∈ zWS := ⟨(zWS4 25 rfl rfl), (zSL6 5 8 rfl)⟩
set_option maxRecDepth 20000 in
theorem calX4_blockType : zCal zmX4_blockType := ⟨(zWS3 151 rfl rfl), iniX4, nmhX4⟩
theorem dscX4_blockType : (parseMethodDescriptor zmX4_blockType.1.desc).map (fun d => d.parameters.length) = some 0 := by decide +kernel
set_option maxRecDepth 20000 in
theorem virX4_blockType : Cond.instanceMethod zmX4_blockType.1 ∈ zWS ∧ Cond.selects zmX4_blockType.1.cls zmX4_blockType.1 zmX4_blockType.1 ∈ zWS := ⟨(zWS3 150 rfl rfl), (zSL4 13 6 rfl)⟩
set_option maxRecDepth 20000 in
theorem calX4_leave : zCal zmX4_leave := ⟨(zWS4 35 rfl rfl), iniX4, nmhX4⟩
theorem dscX4_leave : (parseMethodDescriptor zmX4_leave.1.desc).map (fun d => d.parameters.length) = some 1 := by decide +kernel
set_option maxRecDepth 20000 in
theorem virX4_leave : Cond.instanceMethod zmX4_leave.1 ∈ zWS ∧ Cond.selects zmX4_leave.1.cls zmX4_leave.1 zmX4_leave.1 ∈ zWS := ⟨(zWS4 34 rfl rfl), (zSL6 7 6 rfl)⟩
set_option maxRecDepth 20000 in
theorem calX4_number : zCal zmX4_number := ⟨(zWS2 164 rfl rfl), iniX4, nmhX4⟩
theorem dscX4_number : (parseMethodDescriptor zmX4_number.1.desc).map (fun d => d.parameters.length) = some 0 := by decide +kernel
set_option maxRecDepth 20000 in
theorem virX4_number : Cond.instanceMethod zmX4_number.1 ∈ zWS ∧ Cond.selects zmX4_number.1.cls zmX4_number.1 zmX4_number.1 ∈ zWS := ⟨(zWS2 163 rfl rfl), (zSL1 13 6 rfl)⟩
set_option maxRecDepth 20000 in
theorem calX4_octetWithin : zCal zmX4_octetWithin := ⟨(zWS2 129 rfl rfl), iniX4, nmhX4⟩
theorem dscX4_octetWithin : (parseMethodDescriptor zmX4_octetWithin.1.desc).map (fun d => d.parameters.length) = some 2 := by decide +kernel
set_option maxRecDepth 20000 in
theorem virX4_octetWithin : Cond.instanceMethod zmX4_octetWithin.1 ∈ zWS ∧ Cond.selects zmX4_octetWithin.1.cls zmX4_octetWithin.1 zmX4_octetWithin.1 ∈ zWS := ⟨(zWS2 128 rfl rfl), (zSL1 5 6 rfl)⟩
set_option maxRecDepth 20000 in
theorem calX4_skipSigned : zCal zmX4_skipSigned := ⟨(zWS3 18 rfl rfl), iniX4, nmhX4⟩
theorem dscX4_skipSigned : (parseMethodDescriptor zmX4_skipSigned.1.desc).map (fun d => d.parameters.length) = some 2 := by decide +kernel
set_option maxRecDepth 20000 in
theorem virX4_skipSigned : Cond.instanceMethod zmX4_skipSigned.1 ∈ zWS ∧ Cond.selects zmX4_skipSigned.1.cls zmX4_skipSigned.1 zmX4_skipSigned.1 ∈ zWS := ⟨(zWS3 17 rfl rfl), (zSL3 1 6 rfl)⟩
set_option maxRecDepth 20000 in
theorem calX6_addMemory : zCal zmX6_addMemory := ⟨(zWS2 233 rfl rfl), iniX6, nmhX6⟩
theorem dscX6_addMemory : (parseMethodDescriptor zmX6_addMemory.1.desc).map (fun d => d.parameters.length) = some 1 := by decide +kernel
set_option maxRecDepth 20000 in
theorem virX6_addMemory : Cond.instanceMethod zmX6_addMemory.1 ∈ zWS ∧ Cond.selects zmX6_addMemory.1.cls zmX6_addMemory.1 zmX6_addMemory.1 ∈ zWS := ⟨(zWS2 232 rfl rfl), (zSL2 11 6 rfl)⟩
set_option maxRecDepth 20000 in
theorem calX6_addTable : zCal zmX6_addTable := ⟨(zWS2 229 rfl rfl), iniX6, nmhX6⟩
theorem dscX6_addTable : (parseMethodDescriptor zmX6_addTable.1.desc).map (fun d => d.parameters.length) = some 1 := by decide +kernel
set_option maxRecDepth 20000 in
theorem virX6_addTable : Cond.instanceMethod zmX6_addTable.1 ∈ zWS ∧ Cond.selects zmX6_addTable.1.cls zmX6_addTable.1 zmX6_addTable.1 ∈ zWS := ⟨(zWS2 228 rfl rfl), (zSL2 10 6 rfl)⟩
set_option maxRecDepth 20000 in
theorem calX6_fit : zCal zmX6_fit := ⟨(zWS4 53 rfl rfl), iniX6, nmhX6⟩
theorem dscX6_fit : (parseMethodDescriptor zmX6_fit.1.desc).map (fun d => d.parameters.length) = some 1 := by decide +kernel
set_option maxRecDepth 20000 in
theorem virX6_fit : Cond.instanceMethod zmX6_fit.1 ∈ zWS ∧ Cond.selects zmX6_fit.1.cls zmX6_fit.1 zmX6_fit.1 ∈ zWS := ⟨(zWS4 52 rfl rfl), (zSL6 10 6 rfl)⟩
set_option maxRecDepth 20000 in
theorem calX6_isExported : zCal zmX6_isExported := ⟨(zWS3 42 rfl rfl), iniX6, nmhX6⟩
theorem dscX6_isExported : (parseMethodDescriptor zmX6_isExported.1.desc).map (fun d => d.parameters.length) = some 2 := by decide +kernel
set_option maxRecDepth 20000 in
theorem virX6_isExported : Cond.instanceMethod zmX6_isExported.1 ∈ zWS ∧ Cond.selects zmX6_isExported.1.cls zmX6_isExported.1 zmX6_isExported.1 ∈ zWS := ⟨(zWS3 41 rfl rfl), (zSL3 7 6 rfl)⟩
set_option maxRecDepth 20000 in
theorem calX6_refuseBeyond : zCal zmX6_refuseBeyond := ⟨(zWS2 181 rfl rfl), iniX6, nmhX6⟩
theorem dscX6_refuseBeyond : (parseMethodDescriptor zmX6_refuseBeyond.1.desc).map (fun d => d.parameters.length) = some 2 := by decide +kernel
set_option maxRecDepth 20000 in
theorem virX6_refuseBeyond : Cond.instanceMethod zmX6_refuseBeyond.1 ∈ zWS ∧ Cond.selects zmX6_refuseBeyond.1.cls zmX6_refuseBeyond.1 zmX6_refuseBeyond.1 ∈ zWS := ⟨(zWS2 180 rfl rfl), (zSL1 15 6 rfl)⟩
set_option maxRecDepth 20000 in
theorem calX7_followAccess : zCal zmX7_followAccess := ⟨(zWS3 229 rfl rfl), iniX7, nmhX7⟩
theorem dscX7_followAccess : (parseMethodDescriptor zmX7_followAccess.1.desc).map (fun d => d.parameters.length) = some 2 := by decide +kernel
set_option maxRecDepth 20000 in
theorem virX7_followAccess : Cond.instanceMethod zmX7_followAccess.1 ∈ zWS ∧ Cond.selects zmX7_followAccess.1.cls zmX7_followAccess.1 zmX7_followAccess.1 ∈ zWS := ⟨(zWS3 228 rfl rfl), (zSL5 15 4 rfl)⟩
set_option maxRecDepth 20000 in
theorem calX7_followCall : zCal zmX7_followCall := ⟨(zWS3 210 rfl rfl), iniX7, nmhX7⟩
theorem dscX7_followCall : (parseMethodDescriptor zmX7_followCall.1.desc).map (fun d => d.parameters.length) = some 2 := by decide +kernel
set_option maxRecDepth 20000 in
theorem virX7_followCall : Cond.instanceMethod zmX7_followCall.1 ∈ zWS ∧ Cond.selects zmX7_followCall.1.cls zmX7_followCall.1 zmX7_followCall.1 ∈ zWS := ⟨(zWS3 209 rfl rfl), (zSL5 11 4 rfl)⟩
set_option maxRecDepth 20000 in
theorem calX7_followChoice : zCal zmX7_followChoice := ⟨(zWS3 215 rfl rfl), iniX7, nmhX7⟩
theorem dscX7_followChoice : (parseMethodDescriptor zmX7_followChoice.1.desc).map (fun d => d.parameters.length) = some 1 := by decide +kernel
set_option maxRecDepth 20000 in
theorem virX7_followChoice : Cond.instanceMethod zmX7_followChoice.1 ∈ zWS ∧ Cond.selects zmX7_followChoice.1.cls zmX7_followChoice.1 zmX7_followChoice.1 ∈ zWS := ⟨(zWS3 214 rfl rfl), (zSL5 12 4 rfl)⟩
set_option maxRecDepth 20000 in
theorem calX7_followFrame : zCal zmX7_followFrame := ⟨(zWS3 165 rfl rfl), iniX7, nmhX7⟩
theorem dscX7_followFrame : (parseMethodDescriptor zmX7_followFrame.1.desc).map (fun d => d.parameters.length) = some 1 := by decide +kernel
set_option maxRecDepth 20000 in
theorem virX7_followFrame : Cond.instanceMethod zmX7_followFrame.1 ∈ zWS ∧ Cond.selects zmX7_followFrame.1.cls zmX7_followFrame.1 zmX7_followFrame.1 ∈ zWS := ⟨(zWS3 164 rfl rfl), (zSL5 0 4 rfl)⟩
set_option maxRecDepth 20000 in
theorem calX7_followGlobal : zCal zmX7_followGlobal := ⟨(zWS3 223 rfl rfl), iniX7, nmhX7⟩
theorem dscX7_followGlobal : (parseMethodDescriptor zmX7_followGlobal.1.desc).map (fun d => d.parameters.length) = some 2 := by decide +kernel
set_option maxRecDepth 20000 in
theorem virX7_followGlobal : Cond.instanceMethod zmX7_followGlobal.1 ∈ zWS ∧ Cond.selects zmX7_followGlobal.1.cls zmX7_followGlobal.1 zmX7_followGlobal.1 ∈ zWS := ⟨(zWS3 222 rfl rfl), (zSL5 14 4 rfl)⟩
set_option maxRecDepth 20000 in
theorem calX7_followLeap : zCal zmX7_followLeap := ⟨(zWS3 198 rfl rfl), iniX7, nmhX7⟩
theorem dscX7_followLeap : (parseMethodDescriptor zmX7_followLeap.1.desc).map (fun d => d.parameters.length) = some 2 := by decide +kernel
set_option maxRecDepth 20000 in
theorem virX7_followLeap : Cond.instanceMethod zmX7_followLeap.1 ∈ zWS ∧ Cond.selects zmX7_followLeap.1.cls zmX7_followLeap.1 zmX7_followLeap.1 ∈ zWS := ⟨(zWS3 197 rfl rfl), (zSL5 8 4 rfl)⟩
set_option maxRecDepth 20000 in
theorem calX7_followLocal : zCal zmX7_followLocal := ⟨(zWS3 219 rfl rfl), iniX7, nmhX7⟩
theorem dscX7_followLocal : (parseMethodDescriptor zmX7_followLocal.1.desc).map (fun d => d.parameters.length) = some 2 := by decide +kernel
set_option maxRecDepth 20000 in
theorem virX7_followLocal : Cond.instanceMethod zmX7_followLocal.1 ∈ zWS ∧ Cond.selects zmX7_followLocal.1.cls zmX7_followLocal.1 zmX7_followLocal.1 ∈ zWS := ⟨(zWS3 218 rfl rfl), (zSL5 13 4 rfl)⟩
set_option maxRecDepth 20000 in
theorem calX7_followLonger : zCal zmX7_followLonger := ⟨(zWS4 12 rfl rfl), iniX7, nmhX7⟩
theorem dscX7_followLonger : (parseMethodDescriptor zmX7_followLonger.1.desc).map (fun d => d.parameters.length) = some 2 := by decide +kernel
set_option maxRecDepth 20000 in
theorem virX7_followLonger : Cond.instanceMethod zmX7_followLonger.1 ∈ zWS ∧ Cond.selects zmX7_followLonger.1.cls zmX7_followLonger.1 zmX7_followLonger.1 ∈ zWS := ⟨(zWS4 11 rfl rfl), (zSL6 2 4 rfl)⟩
set_option maxRecDepth 20000 in
theorem calX7_followPlain : zCal zmX7_followPlain := ⟨(zWS3 239 rfl rfl), iniX7, nmhX7⟩
theorem dscX7_followPlain : (parseMethodDescriptor zmX7_followPlain.1.desc).map (fun d => d.parameters.length) = some 1 := by decide +kernel
set_option maxRecDepth 20000 in
theorem virX7_followPlain : Cond.instanceMethod zmX7_followPlain.1 ∈ zWS ∧ Cond.selects zmX7_followPlain.1.cls zmX7_followPlain.1 zmX7_followPlain.1 ∈ zWS := ⟨(zWS3 238 rfl rfl), (zSL6 1 4 rfl)⟩
set_option maxRecDepth 20000 in
theorem calX7_followSize : zCal zmX7_followSize := ⟨(zWS3 235 rfl rfl), iniX7, nmhX7⟩
theorem dscX7_followSize : (parseMethodDescriptor zmX7_followSize.1.desc).map (fun d => d.parameters.length) = some 1 := by decide +kernel
set_option maxRecDepth 20000 in
theorem virX7_followSize : Cond.instanceMethod zmX7_followSize.1 ∈ zWS ∧ Cond.selects zmX7_followSize.1.cls zmX7_followSize.1 zmX7_followSize.1 ∈ zWS := ⟨(zWS3 234 rfl rfl), (zSL6 0 4 rfl)⟩
set_option maxRecDepth 20000 in
theorem calX7_followTable : zCal zmX7_followTable := ⟨(zWS3 190 rfl rfl), iniX7, nmhX7⟩
theorem dscX7_followTable : (parseMethodDescriptor zmX7_followTable.1.desc).map (fun d => d.parameters.length) = some 1 := by decide +kernel
set_option maxRecDepth 20000 in
theorem virX7_followTable : Cond.instanceMethod zmX7_followTable.1 ∈ zWS ∧ Cond.selects zmX7_followTable.1.cls zmX7_followTable.1 zmX7_followTable.1 ∈ zWS := ⟨(zWS3 189 rfl rfl), (zSL5 6 4 rfl)⟩
set_option maxRecDepth 20000 in
theorem calX8_count : zCal zmX8_count := ⟨(zWS4 84 rfl rfl), iniX8, nmhX8⟩
theorem dscX8_count : (parseMethodDescriptor zmX8_count.1.desc).map (fun d => d.parameters.length) = some 1 := by decide +kernel
set_option maxRecDepth 20000 in
theorem virX8_count : Cond.instanceMethod zmX8_count.1 ∈ zWS ∧ Cond.selects zmX8_count.1.cls zmX8_count.1 zmX8_count.1 ∈ zWS := ⟨(zWS4 82 rfl rfl), (zWS4 83 rfl rfl)⟩
set_option maxRecDepth 20000 in
theorem calX8_feed : zCal zmX8_feed := ⟨(zWS2 93 rfl rfl), iniX8, nmhX8⟩
theorem dscX8_feed : (parseMethodDescriptor zmX8_feed.1.desc).map (fun d => d.parameters.length) = some 5 := by decide +kernel
set_option maxRecDepth 20000 in
theorem virX8_feed : Cond.instanceMethod zmX8_feed.1 ∈ zWS ∧ Cond.selects zmX8_feed.1.cls zmX8_feed.1 zmX8_feed.1 ∈ zWS := ⟨(zWS2 91 rfl rfl), (zWS2 92 rfl rfl)⟩
set_option maxRecDepth 20000 in
theorem calX8_instructions : zCal zmX8_instructions := ⟨(zWS4 92 rfl rfl), iniX8, nmhX8⟩
theorem dscX8_instructions : (parseMethodDescriptor zmX8_instructions.1.desc).map (fun d => d.parameters.length) = some 1 := by decide +kernel
set_option maxRecDepth 20000 in
theorem virX8_instructions : Cond.instanceMethod zmX8_instructions.1 ∈ zWS ∧ Cond.selects zmX8_instructions.1.cls zmX8_instructions.1 zmX8_instructions.1 ∈ zWS := ⟨(zWS4 90 rfl rfl), (zWS4 91 rfl rfl)⟩
set_option maxRecDepth 20000 in
theorem calX8_locals : zCal zmX8_locals := ⟨(zWS4 109 rfl rfl), iniX8, nmhX8⟩
theorem dscX8_locals : (parseMethodDescriptor zmX8_locals.1.desc).map (fun d => d.parameters.length) = some 1 := by decide +kernel
set_option maxRecDepth 20000 in
theorem virX8_locals : Cond.instanceMethod zmX8_locals.1 ∈ zWS ∧ Cond.selects zmX8_locals.1.cls zmX8_locals.1 zmX8_locals.1 ∈ zWS := ⟨(zWS4 107 rfl rfl), (zWS4 108 rfl rfl)⟩
set_option maxRecDepth 20000 in
theorem calX1_turnFrames : zCal zmX1_turnFrames := ⟨(zWS4 17 rfl rfl), iniX1, nmhX1⟩
theorem dscX1_turnFrames : (parseMethodDescriptor zmX1_turnFrames.1.desc).map (fun d => d.parameters.length) = some 0 := by decide +kernel
set_option maxRecDepth 20000 in
theorem virX1_turnFrames : Cond.instanceMethod zmX1_turnFrames.1 ∈ zWS ∧ Cond.selects zmX1_turnFrames.1.cls zmX1_turnFrames.1 zmX1_turnFrames.1 ∈ zWS := ⟨(zWS4 16 rfl rfl), (zSL6 3 7 rfl)⟩
set_option maxRecDepth 20000 in
theorem calX4_length : zCal zmX4_length := ⟨(zWS2 160 rfl rfl), iniX4, nmhX4⟩
theorem dscX4_length : (parseMethodDescriptor zmX4_length.1.desc).map (fun d => d.parameters.length) = some 0 := by decide +kernel
set_option maxRecDepth 20000 in
theorem virX4_length : Cond.instanceMethod zmX4_length.1 ∈ zWS ∧ Cond.selects zmX4_length.1.cls zmX4_length.1 zmX4_length.1 ∈ zWS := ⟨(zWS2 159 rfl rfl), (zSL1 12 6 rfl)⟩
set_option maxRecDepth 20000 in
theorem calX4_name : zCal zmX4_name := ⟨(zWS2 206 rfl rfl), iniX4, nmhX4⟩
theorem dscX4_name : (parseMethodDescriptor zmX4_name.1.desc).map (fun d => d.parameters.length) = some 0 := by decide +kernel
set_option maxRecDepth 20000 in
theorem virX4_name : Cond.instanceMethod zmX4_name.1 ∈ zWS ∧ Cond.selects zmX4_name.1.cls zmX4_name.1 zmX4_name.1 ∈ zWS := ⟨(zWS2 205 rfl rfl), (zSL2 5 6 rfl)⟩
set_option maxRecDepth 20000 in
theorem calX4_rowLength : zCal zmX4_rowLength := ⟨(zWS2 171 rfl rfl), iniX4, nmhX4⟩
theorem dscX4_rowLength : (parseMethodDescriptor zmX4_rowLength.1.desc).map (fun d => d.parameters.length) = some 0 := by decide +kernel
set_option maxRecDepth 20000 in
theorem virX4_rowLength : Cond.instanceMethod zmX4_rowLength.1 ∈ zWS ∧ Cond.selects zmX4_rowLength.1.cls zmX4_rowLength.1 zmX4_rowLength.1 ∈ zWS := ⟨(zWS2 170 rfl rfl), (zSL1 14 6 rfl)⟩
set_option maxRecDepth 20000 in
theorem calX4_type : zCal zmX4_type := ⟨(zWS2 189 rfl rfl), iniX4, nmhX4⟩
theorem dscX4_type : (parseMethodDescriptor zmX4_type.1.desc).map (fun d => d.parameters.length) = some 0 := by decide +kernel
set_option maxRecDepth 20000 in
theorem virX4_type : Cond.instanceMethod zmX4_type.1 ∈ zWS ∧ Cond.selects zmX4_type.1.cls zmX4_type.1 zmX4_type.1 ∈ zWS := ⟨(zWS2 188 rfl rfl), (zSL2 1 6 rfl)⟩
set_option maxRecDepth 20000 in
theorem calX5_readArguments : zCal zmX5_readArguments := ⟨(zWS3 147 rfl rfl), iniX5, nmhX5⟩
theorem dscX5_readArguments : (parseMethodDescriptor zmX5_readArguments.1.desc).map (fun d => d.parameters.length) = some 1 := by decide +kernel
set_option maxRecDepth 20000 in
theorem virX5_readArguments : Cond.instanceMethod zmX5_readArguments.1 ∈ zWS ∧ Cond.selects zmX5_readArguments.1.cls zmX5_readArguments.1 zmX5_readArguments.1 ∈ zWS := ⟨(zWS3 146 rfl rfl), (zSL4 12 5 rfl)⟩
set_option maxRecDepth 20000 in
theorem calX5_readNumber : zCal zmX5_readNumber := ⟨(zWS3 120 rfl rfl), iniX5, nmhX5⟩
theorem dscX5_readNumber : (parseMethodDescriptor zmX5_readNumber.1.desc).map (fun d => d.parameters.length) = some 1 := by decide +kernel
set_option maxRecDepth 20000 in
theorem virX5_readNumber : Cond.instanceMethod zmX5_readNumber.1 ∈ zWS ∧ Cond.selects zmX5_readNumber.1.cls zmX5_readNumber.1 zmX5_readNumber.1 ∈ zWS := ⟨(zWS3 119 rfl rfl), (zSL4 8 5 rfl)⟩
set_option maxRecDepth 20000 in
theorem calX6_begin : zCal zmX6_begin := ⟨(zWS2 110 rfl rfl), iniX6, nmhX6⟩
theorem dscX6_begin : (parseMethodDescriptor zmX6_begin.1.desc).map (fun d => d.parameters.length) = some 0 := by decide +kernel
set_option maxRecDepth 20000 in
theorem virX6_begin : Cond.instanceMethod zmX6_begin.1 ∈ zWS ∧ Cond.selects zmX6_begin.1.cls zmX6_begin.1 zmX6_begin.1 ∈ zWS := ⟨(zWS2 109 rfl rfl), (zSL1 1 6 rfl)⟩
set_option maxRecDepth 20000 in
theorem calX6_finish : zCal zmX6_finish := ⟨(zWS4 57 rfl rfl), iniX6, nmhX6⟩
theorem dscX6_finish : (parseMethodDescriptor zmX6_finish.1.desc).map (fun d => d.parameters.length) = some 0 := by decide +kernel
set_option maxRecDepth 20000 in
theorem virX6_finish : Cond.instanceMethod zmX6_finish.1 ∈ zWS ∧ Cond.selects zmX6_finish.1.cls zmX6_finish.1 zmX6_finish.1 ∈ zWS := ⟨(zWS4 56 rfl rfl), (zSL6 11 6 rfl)⟩
set_option maxRecDepth 20000 in
theorem calX6_readConstant : zCal zmX6_readConstant := ⟨(zWS3 13 rfl rfl), iniX6, nmhX6⟩
theorem dscX6_readConstant : (parseMethodDescriptor zmX6_readConstant.1.desc).map (fun d => d.parameters.length) = some 2 := by decide +kernel
set_option maxRecDepth 20000 in
theorem virX6_readConstant : Cond.instanceMethod zmX6_readConstant.1 ∈ zWS ∧ Cond.selects zmX6_readConstant.1.cls zmX6_readConstant.1 zmX6_readConstant.1 ∈ zWS := ⟨(zWS3 12 rfl rfl), (zSL3 0 6 rfl)⟩
set_option maxRecDepth 20000 in
theorem calX6_readLimits : zCal zmX6_readLimits := ⟨(zWS2 224 rfl rfl), iniX6, nmhX6⟩
theorem dscX6_readLimits : (parseMethodDescriptor zmX6_readLimits.1.desc).map (fun d => d.parameters.length) = some 2 := by decide +kernel
set_option maxRecDepth 20000 in
theorem virX6_readLimits : Cond.instanceMethod zmX6_readLimits.1 ∈ zWS ∧ Cond.selects zmX6_readLimits.1.cls zmX6_readLimits.1 zmX6_readLimits.1 ∈ zWS := ⟨(zWS2 223 rfl rfl), (zSL2 9 6 rfl)⟩
set_option maxRecDepth 20000 in
theorem calX6_readSectionNumber : zCal zmX6_readSectionNumber := ⟨(zWS2 149 rfl rfl), iniX6, nmhX6⟩
theorem dscX6_readSectionNumber : (parseMethodDescriptor zmX6_readSectionNumber.1.desc).map (fun d => d.parameters.length) = some 0 := by decide +kernel
set_option maxRecDepth 20000 in
theorem virX6_readSectionNumber : Cond.instanceMethod zmX6_readSectionNumber.1 ∈ zWS ∧ Cond.selects zmX6_readSectionNumber.1.cls zmX6_readSectionNumber.1 zmX6_readSectionNumber.1 ∈ zWS := ⟨(zWS2 148 rfl rfl), (zSL1 10 6 rfl)⟩
set_option maxRecDepth 20000 in
theorem calX6_readSignatureOfFunction : zCal zmX6_readSignatureOfFunction := ⟨(zWS2 211 rfl rfl), iniX6, nmhX6⟩
theorem dscX6_readSignatureOfFunction : (parseMethodDescriptor zmX6_readSignatureOfFunction.1.desc).map (fun d => d.parameters.length) = some 1 := by decide +kernel
set_option maxRecDepth 20000 in
theorem virX6_readSignatureOfFunction : Cond.instanceMethod zmX6_readSignatureOfFunction.1 ∈ zWS ∧ Cond.selects zmX6_readSignatureOfFunction.1.cls zmX6_readSignatureOfFunction.1 zmX6_readSignatureOfFunction.1 ∈ zWS := ⟨(zWS2 210 rfl rfl), (zSL2 6 6 rfl)⟩
set_option maxRecDepth 20000 in
theorem calX6_readStart : zCal zmX6_readStart := ⟨(zWS3 50 rfl rfl), iniX6, nmhX6⟩
theorem dscX6_readStart : (parseMethodDescriptor zmX6_readStart.1.desc).map (fun d => d.parameters.length) = some 0 := by decide +kernel
set_option maxRecDepth 20000 in
theorem virX6_readStart : Cond.instanceMethod zmX6_readStart.1 ∈ zWS ∧ Cond.selects zmX6_readStart.1.cls zmX6_readStart.1 zmX6_readStart.1 ∈ zWS := ⟨(zWS3 49 rfl rfl), (zSL3 9 6 rfl)⟩
set_option maxRecDepth 20000 in
theorem calX7_begin : zCal zmX7_begin := ⟨(zWS3 80 rfl rfl), iniX7, nmhX7⟩
theorem dscX7_begin : (parseMethodDescriptor zmX7_begin.1.desc).map (fun d => d.parameters.length) = some 1 := by decide +kernel
set_option maxRecDepth 20000 in
theorem virX7_begin : Cond.instanceMethod zmX7_begin.1 ∈ zWS ∧ Cond.selects zmX7_begin.1.cls zmX7_begin.1 zmX7_begin.1 ∈ zWS := ⟨(zWS3 79 rfl rfl), (zSL4 0 4 rfl)⟩
set_option maxRecDepth 20000 in
theorem calX7_isRight : zCal zmX7_isRight := ⟨(zWS3 161 rfl rfl), iniX7, nmhX7⟩
theorem dscX7_isRight : (parseMethodDescriptor zmX7_isRight.1.desc).map (fun d => d.parameters.length) = some 1 := by decide +kernel
set_option maxRecDepth 20000 in
theorem virX7_isRight : Cond.instanceMethod zmX7_isRight.1 ∈ zWS ∧ Cond.selects zmX7_isRight.1.cls zmX7_isRight.1 zmX7_isRight.1 ∈ zWS := ⟨(zWS3 160 rfl rfl), (zSL4 15 4 rfl)⟩
set_option maxRecDepth 20000 in
theorem calX8_code : zCal zmX8_code := ⟨(zWS4 100 rfl rfl), iniX8, nmhX8⟩
theorem dscX8_code : (parseMethodDescriptor zmX8_code.1.desc).map (fun d => d.parameters.length) = some 2 := by decide +kernel
set_option maxRecDepth 20000 in
theorem virX8_code : Cond.instanceMethod zmX8_code.1 ∈ zWS ∧ Cond.selects zmX8_code.1.cls zmX8_code.1 zmX8_code.1 ∈ zWS := ⟨(zWS4 98 rfl rfl), (zWS4 99 rfl rfl)⟩
set_option maxRecDepth 20000 in
theorem calX1_readGroups : zCal zmX1_readGroups := ⟨(zWS3 102 rfl rfl), iniX1, nmhX1⟩
theorem dscX1_readGroups : (parseMethodDescriptor zmX1_readGroups.1.desc).map (fun d => d.parameters.length) = some 0 := by decide +kernel
set_option maxRecDepth 20000 in
theorem virX1_readGroups : Cond.instanceMethod zmX1_readGroups.1 ∈ zWS ∧ Cond.selects zmX1_readGroups.1.cls zmX1_readGroups.1 zmX1_readGroups.1 ∈ zWS := ⟨(zWS3 101 rfl rfl), (zSL4 5 7 rfl)⟩
set_option maxRecDepth 20000 in
theorem calX4_enter : zCal zmX4_enter := ⟨(zWS2 156 rfl rfl), iniX4, nmhX4⟩
theorem dscX4_enter : (parseMethodDescriptor zmX4_enter.1.desc).map (fun d => d.parameters.length) = some 0 := by decide +kernel
set_option maxRecDepth 20000 in
theorem virX4_enter : Cond.instanceMethod zmX4_enter.1 ∈ zWS ∧ Cond.selects zmX4_enter.1.cls zmX4_enter.1 zmX4_enter.1 ∈ zWS := ⟨(zWS2 155 rfl rfl), (zSL1 11 6 rfl)⟩
set_option maxRecDepth 20000 in
theorem calX4_outerName : zCal zmX4_outerName := ⟨(zWS2 202 rfl rfl), iniX4, nmhX4⟩
theorem dscX4_outerName : (parseMethodDescriptor zmX4_outerName.1.desc).map (fun d => d.parameters.length) = some 0 := by decide +kernel
set_option maxRecDepth 20000 in
theorem virX4_outerName : Cond.instanceMethod zmX4_outerName.1 ∈ zWS ∧ Cond.selects zmX4_outerName.1.cls zmX4_outerName.1 zmX4_outerName.1 ∈ zWS := ⟨(zWS2 201 rfl rfl), (zSL2 4 6 rfl)⟩
set_option maxRecDepth 20000 in
theorem calX5_readLabels : zCal zmX5_readLabels := ⟨(zWS3 142 rfl rfl), iniX5, nmhX5⟩
theorem dscX5_readLabels : (parseMethodDescriptor zmX5_readLabels.1.desc).map (fun d => d.parameters.length) = some 1 := by decide +kernel
set_option maxRecDepth 20000 in
theorem virX5_readLabels : Cond.instanceMethod zmX5_readLabels.1 ∈ zWS ∧ Cond.selects zmX5_readLabels.1.cls zmX5_readLabels.1 zmX5_readLabels.1 ∈ zWS := ⟨(zWS3 141 rfl rfl), (zSL4 11 5 rfl)⟩
set_option maxRecDepth 20000 in
theorem calX6_readData : zCal zmX6_readData := ⟨(zWS4 39 rfl rfl), iniX6, nmhX6⟩
theorem dscX6_readData : (parseMethodDescriptor zmX6_readData.1.desc).map (fun d => d.parameters.length) = some 0 := by decide +kernel
set_option maxRecDepth 20000 in
theorem virX6_readData : Cond.instanceMethod zmX6_readData.1 ∈ zWS ∧ Cond.selects zmX6_readData.1.cls zmX6_readData.1 zmX6_readData.1 ∈ zWS := ⟨(zWS4 38 rfl rfl), (zSL6 8 6 rfl)⟩
set_option maxRecDepth 20000 in
theorem calX6_readGlobal : zCal zmX6_readGlobal := ⟨(zWS3 9 rfl rfl), iniX6, nmhX6⟩
theorem dscX6_readGlobal : (parseMethodDescriptor zmX6_readGlobal.1.desc).map (fun d => d.parameters.length) = some 0 := by decide +kernel
set_option maxRecDepth 20000 in
theorem virX6_readGlobal : Cond.instanceMethod zmX6_readGlobal.1 ∈ zWS ∧ Cond.selects zmX6_readGlobal.1.cls zmX6_readGlobal.1 zmX6_readGlobal.1 ∈ zWS := ⟨(zWS3 8 rfl rfl), (zSL2 15 6 rfl)⟩
set_option maxRecDepth 20000 in
theorem calX6_readMemory : zCal zmX6_readMemory := ⟨(zWS3 5 rfl rfl), iniX6, nmhX6⟩
theorem dscX6_readMemory : (parseMethodDescriptor zmX6_readMemory.1.desc).map (fun d => d.parameters.length) = some 0 := by decide +kernel
set_option maxRecDepth 20000 in
theorem virX6_readMemory : Cond.instanceMethod zmX6_readMemory.1 ∈ zWS ∧ Cond.selects zmX6_readMemory.1.cls zmX6_readMemory.1 zmX6_readMemory.1 ∈ zWS := ⟨(zWS3 4 rfl rfl), (zSL2 14 6 rfl)⟩
set_option maxRecDepth 20000 in
theorem calX6_readRowOfFunctions : zCal zmX6_readRowOfFunctions := ⟨(zWS3 70 rfl rfl), iniX6, nmhX6⟩
theorem dscX6_readRowOfFunctions : (parseMethodDescriptor zmX6_readRowOfFunctions.1.desc).map (fun d => d.parameters.length) = some 0 := by decide +kernel
set_option maxRecDepth 20000 in
theorem virX6_readRowOfFunctions : Cond.instanceMethod zmX6_readRowOfFunctions.1 ∈ zWS ∧ Cond.selects zmX6_readRowOfFunctions.1.cls zmX6_readRowOfFunctions.1 zmX6_readRowOfFunctions.1 ∈ zWS := ⟨(zWS3 69 rfl rfl), (zSL3 14 6 rfl)⟩
set_option maxRecDepth 20000 in
theorem calX6_readSignature : zCal zmX6_readSignature := ⟨(zWS2 185 rfl rfl), iniX6, nmhX6⟩
theorem dscX6_readSignature : (parseMethodDescriptor zmX6_readSignature.1.desc).map (fun d => d.parameters.length) = some 0 := by decide +kernel
set_option maxRecDepth 20000 in
theorem virX6_readSignature : Cond.instanceMethod zmX6_readSignature.1 ∈ zWS ∧ Cond.selects zmX6_readSignature.1.cls zmX6_readSignature.1 zmX6_readSignature.1 ∈ zWS := ⟨(zWS2 184 rfl rfl), (zSL2 0 6 rfl)⟩
set_option maxRecDepth 20000 in
theorem calX6_readTable : zCal zmX6_readTable := ⟨(zWS3 1 rfl rfl), iniX6, nmhX6⟩
theorem dscX6_readTable : (parseMethodDescriptor zmX6_readTable.1.desc).map (fun d => d.parameters.length) = some 0 := by decide +kernel
set_option maxRecDepth 20000 in
theorem virX6_readTable : Cond.instanceMethod zmX6_readTable.1 ∈ zWS ∧ Cond.selects zmX6_readTable.1.cls zmX6_readTable.1 zmX6_readTable.1 ∈ zWS := ⟨(zWS3 0 rfl rfl), (zSL2 13 6 rfl)⟩
set_option maxRecDepth 20000 in
theorem calX1_readInstruction : zCal zmX1_readInstruction := ⟨(zWS3 116 rfl rfl), iniX1, nmhX1⟩
theorem dscX1_readInstruction : (parseMethodDescriptor zmX1_readInstruction.1.desc).map (fun d => d.parameters.length) = some 0 := by decide +kernel
set_option maxRecDepth 20000 in
theorem virX1_readInstruction : Cond.instanceMethod zmX1_readInstruction.1 ∈ zWS ∧ Cond.selects zmX1_readInstruction.1.cls zmX1_readInstruction.1 zmX1_readInstruction.1 ∈ zWS := ⟨(zWS3 115 rfl rfl), (zSL4 7 7 rfl)⟩
set_option maxRecDepth 20000 in
theorem calX6_readElement : zCal zmX6_readElement := ⟨(zWS3 66 rfl rfl), iniX6, nmhX6⟩
theorem dscX6_readElement : (parseMethodDescriptor zmX6_readElement.1.desc).map (fun d => d.parameters.length) = some 0 := by decide +kernel
set_option maxRecDepth 20000 in
theorem virX6_readElement : Cond.instanceMethod zmX6_readElement.1 ∈ zWS ∧ Cond.selects zmX6_readElement.1.cls zmX6_readElement.1 zmX6_readElement.1 ∈ zWS := ⟨(zWS3 65 rfl rfl), (zSL3 13 6 rfl)⟩
set_option maxRecDepth 20000 in
theorem calX6_readExport : zCal zmX6_readExport := ⟨(zWS3 34 rfl rfl), iniX6, nmhX6⟩
theorem dscX6_readExport : (parseMethodDescriptor zmX6_readExport.1.desc).map (fun d => d.parameters.length) = some 0 := by decide +kernel
set_option maxRecDepth 20000 in
theorem virX6_readExport : Cond.instanceMethod zmX6_readExport.1 ∈ zWS ∧ Cond.selects zmX6_readExport.1.cls zmX6_readExport.1 zmX6_readExport.1 ∈ zWS := ⟨(zWS3 33 rfl rfl), (zSL3 5 6 rfl)⟩
set_option maxRecDepth 20000 in
theorem calX6_readImport : zCal zmX6_readImport := ⟨(zWS2 198 rfl rfl), iniX6, nmhX6⟩
theorem dscX6_readImport : (parseMethodDescriptor zmX6_readImport.1.desc).map (fun d => d.parameters.length) = some 0 := by decide +kernel
set_option maxRecDepth 20000 in
theorem virX6_readImport : Cond.instanceMethod zmX6_readImport.1 ∈ zWS ∧ Cond.selects zmX6_readImport.1.cls zmX6_readImport.1 zmX6_readImport.1 ∈ zWS := ⟨(zWS2 197 rfl rfl), (zSL2 3 6 rfl)⟩
set_option maxRecDepth 20000 in
theorem calX1_readBody : zCal zmX1_readBody := ⟨(zWS3 74 rfl rfl), iniX1, nmhX1⟩
theorem dscX1_readBody : (parseMethodDescriptor zmX1_readBody.1.desc).map (fun d => d.parameters.length) = some 1 := by decide +kernel
set_option maxRecDepth 20000 in
theorem virX1_readBody : Cond.instanceMethod zmX1_readBody.1 ∈ zWS ∧ Cond.selects zmX1_readBody.1.cls zmX1_readBody.1 zmX1_readBody.1 ∈ zWS := ⟨(zWS3 73 rfl rfl), (zSL3 15 7 rfl)⟩
set_option maxRecDepth 20000 in
theorem calX6_readSection : zCal zmX6_readSection := ⟨(zWS2 145 rfl rfl), iniX6, nmhX6⟩
theorem dscX6_readSection : (parseMethodDescriptor zmX6_readSection.1.desc).map (fun d => d.parameters.length) = some 0 := by decide +kernel
set_option maxRecDepth 20000 in
theorem virX6_readSection : Cond.instanceMethod zmX6_readSection.1 ∈ zWS ∧ Cond.selects zmX6_readSection.1.cls zmX6_readSection.1 zmX6_readSection.1 ∈ zWS := ⟨(zWS2 144 rfl rfl), (zSL1 9 6 rfl)⟩
set_option maxRecDepth 20000 in
theorem calX8_check : zCal zmX8_check := ⟨(zWS2 106 rfl rfl), iniX8, nmhX8⟩
theorem dscX8_check : (parseMethodDescriptor zmX8_check.1.desc).map (fun d => d.parameters.length) = some 0 := by decide +kernel
set_option maxRecDepth 20000 in
theorem virX8_check : Cond.instanceMethod zmX8_check.1 ∈ zWS ∧ Cond.selects zmX8_check.1.cls zmX8_check.1 zmX8_check.1 ∈ zWS := ⟨(zWS2 104 rfl rfl), (zWS2 105 rfl rfl)⟩
set_option maxRecDepth 20000 in
theorem fX8_12 : zFld RX8 12 TX8 0 := Or.inl (zWS2 68 rfl rfl)
set_option maxRecDepth 20000 in
theorem fX8_19 : zFld RX8 19 TX8 1 := Or.inl (zWS2 69 rfl rfl)
set_option maxRecDepth 20000 in
theorem fX8_26 : zFld RX8 26 TX8 3 := Or.inl (zWS2 71 rfl rfl)
set_option maxRecDepth 20000 in
theorem fX8_30 : zFld RX8 30 TX8 4 := Or.inl (zWS2 72 rfl rfl)
set_option maxRecDepth 20000 in
theorem fX8_38 : zFld RX8 38 TX8 2 := Or.inl (zWS2 70 rfl rfl)
set_option maxRecDepth 20000 in
theorem fX8_42 : zFld RX8 42 TX8 5 := Or.inl (zWS2 73 rfl rfl)
set_option maxRecDepth 20000 in
theorem fX8_46 : zFld RX8 46 TX8 6 := Or.inl (zWS2 74 rfl rfl)
set_option maxRecDepth 20000 in
theorem fX8_49 : zFld RX8 49 TX4 1 := Or.inr ⟨"ModuleCheck", (zNW1 37 rfl rfl)⟩
set_option maxRecDepth 20000 in
theorem fX8_70 : zFld RX8 70 TX4 4 := Or.inr ⟨"ModuleCheck", (zNW1 48 rfl rfl)⟩
set_option maxRecDepth 20000 in
theorem fX8_73 : zFld RX8 73 TX4 5 := Or.inr ⟨"ModuleCheck", (zNW1 51 rfl rfl)⟩
set_option maxRecDepth 20000 in
theorem fX8_96 : zFld RX8 96 TX0 2 := Or.inr ⟨"ModuleCheck", (zNW1 146 rfl rfl)⟩
set_option maxRecDepth 20000 in
theorem fX8_104 : zFld RX8 104 TX0 3 := Or.inr ⟨"ModuleCheck", (zNW1 148 rfl rfl)⟩
set_option maxRecDepth 20000 in
theorem fX0_9 : zFld RX0 9 TX0 0 := Or.inl (zWS1 143 rfl rfl)
set_option maxRecDepth 20000 in
theorem fX0_15 : zFld RX0 15 TX0 1 := Or.inl (zWS1 144 rfl rfl)
set_option maxRecDepth 20000 in
theorem fX0_18 : zFld RX0 18 TX0 2 := Or.inl (zWS1 145 rfl rfl)
set_option maxRecDepth 20000 in
theorem fX0_21 : zFld RX0 21 TX0 3 := Or.inl (zWS1 147 rfl rfl)
set_option maxRecDepth 20000 in
theorem fX0_24 : zFld RX0 24 TX0 4 := Or.inl (zWS1 149 rfl rfl)
set_option maxRecDepth 20000 in
theorem fX0_28 : zFld RX0 28 TX0 5 := Or.inl (zWS1 151 rfl rfl)
set_option maxRecDepth 20000 in
theorem fX0_32 : zFld RX0 32 TX2 7 := Or.inr ⟨"ModuleCheck", (zNW1 82 rfl rfl)⟩
set_option maxRecDepth 20000 in
theorem fX0_37 : zFld RX0 37 TX0 6 := Or.inl (zWS1 152 rfl rfl)
set_option maxRecDepth 20000 in
theorem fX0_55 : zFld RX0 55 TX0 7 := Or.inl (zWS1 153 rfl rfl)
set_option maxRecDepth 20000 in
theorem fX1_12 : zFld RX1 12 TX1 2 := Or.inl (zWS2 29 rfl rfl)
set_option maxRecDepth 20000 in
theorem fX1_21 : zFld RX1 21 TX1 3 := Or.inl (zWS2 30 rfl rfl)
set_option maxRecDepth 20000 in
theorem fX1_25 : zFld RX1 25 TX1 0 := Or.inl (zWS2 27 rfl rfl)
set_option maxRecDepth 20000 in
theorem fX1_29 : zFld RX1 29 TX1 1 := Or.inl (zWS2 28 rfl rfl)
set_option maxRecDepth 20000 in
theorem fX1_33 : zFld RX1 33 TX1 5 := Or.inl (zWS2 32 rfl rfl)
set_option maxRecDepth 20000 in
theorem fX1_42 : zFld RX1 42 TX1 4 := Or.inl (zWS2 31 rfl rfl)
set_option maxRecDepth 20000 in
theorem fX1_46 : zFld RX1 46 TX0 5 := Or.inr ⟨"ModuleCheck", (zNW1 150 rfl rfl)⟩
set_option maxRecDepth 20000 in
theorem fX1_52 : zFld RX1 52 TX1 6 := Or.inl (zWS2 33 rfl rfl)
set_option maxRecDepth 20000 in
theorem fX1_62 : zFld RX1 62 TX2 9 := Or.inr ⟨"ModuleCheck", (zNW1 88 rfl rfl)⟩
set_option maxRecDepth 20000 in
theorem fX1_78 : zFld RX1 78 TX7 3 := Or.inr ⟨"ModuleCheck", (zNW2 17 rfl rfl)⟩
set_option maxRecDepth 20000 in
theorem fX1_85 : zFld RX1 85 TX3 5 := Or.inr ⟨"ModuleCheck", (zNW1 196 rfl rfl)⟩
set_option maxRecDepth 20000 in
theorem fX1_88 : zFld RX1 88 TX4 4 := Or.inr ⟨"ModuleCheck", (zNW1 47 rfl rfl)⟩
set_option maxRecDepth 20000 in
theorem fX1_103 : zFld RX1 103 TX4 2 := Or.inr ⟨"ModuleCheck", (zNW1 42 rfl rfl)⟩
set_option maxRecDepth 20000 in
theorem fX1_128 : zFld RX1 128 TX5 3 := Or.inr ⟨"ModuleCheck", (zNW1 231 rfl rfl)⟩
set_option maxRecDepth 20000 in
theorem fX1_143 : zFld RX1 143 TX5 2 := Or.inr ⟨"ModuleCheck", (zNW1 228 rfl rfl)⟩
set_option maxRecDepth 20000 in
theorem fX1_155 : zFld RX1 155 TX2 14 := Or.inr ⟨"ModuleCheck", (zNW1 102 rfl rfl)⟩
set_option maxRecDepth 20000 in
theorem fX1_159 : zFld RX1 159 TX5 4 := Or.inr ⟨"ModuleCheck", (zNW1 234 rfl rfl)⟩
set_option maxRecDepth 20000 in
theorem fX2_9 : zFld RX2 9 TX2 0 := Or.inl (zWS1 72 rfl rfl)
set_option maxRecDepth 20000 in
theorem fX2_15 : zFld RX2 15 TX2 1 := Or.inl (zWS1 74 rfl rfl)
set_option maxRecDepth 20000 in
theorem fX2_18 : zFld RX2 18 TX2 2 := Or.inl (zWS1 75 rfl rfl)
set_option maxRecDepth 20000 in
theorem fX2_21 : zFld RX2 21 TX2 3 := Or.inl (zWS1 77 rfl rfl)
set_option maxRecDepth 20000 in
theorem fX2_24 : zFld RX2 24 TX2 4 := Or.inl (zWS1 78 rfl rfl)
set_option maxRecDepth 20000 in
theorem fX2_27 : zFld RX2 27 TX2 5 := Or.inl (zWS1 79 rfl rfl)
set_option maxRecDepth 20000 in
theorem fX2_31 : zFld RX2 31 TX2 6 := Or.inl (zWS1 80 rfl rfl)
set_option maxRecDepth 20000 in
theorem fX2_34 : zFld RX2 34 TX2 7 := Or.inl (zWS1 81 rfl rfl)
set_option maxRecDepth 20000 in
theorem fX2_37 : zFld RX2 37 TX2 8 := Or.inl (zWS1 85 rfl rfl)
set_option maxRecDepth 20000 in
theorem fX2_41 : zFld RX2 41 TX2 9 := Or.inl (zWS1 87 rfl rfl)
set_option maxRecDepth 20000 in
theorem fX2_44 : zFld RX2 44 TX2 10 := Or.inl (zWS1 90 rfl rfl)
set_option maxRecDepth 20000 in
theorem fX2_47 : zFld RX2 47 TX2 11 := Or.inl (zWS1 93 rfl rfl)
set_option maxRecDepth 20000 in
theorem fX2_50 : zFld RX2 50 TX2 12 := Or.inl (zWS1 96 rfl rfl)
set_option maxRecDepth 20000 in
theorem fX2_53 : zFld RX2 53 TX2 13 := Or.inl (zWS1 98 rfl rfl)
set_option maxRecDepth 20000 in
theorem fX2_58 : zFld RX2 58 TX2 14 := Or.inl (zWS1 100 rfl rfl)
set_option maxRecDepth 20000 in
theorem fX3_9 : zFld RX3 9 TX3 0 := Or.inl (zWS1 190 rfl rfl)
set_option maxRecDepth 20000 in
theorem fX3_15 : zFld RX3 15 TX3 1 := Or.inl (zWS1 191 rfl rfl)
set_option maxRecDepth 20000 in
theorem fX3_18 : zFld RX3 18 TX3 2 := Or.inl (zWS1 192 rfl rfl)
set_option maxRecDepth 20000 in
theorem fX3_21 : zFld RX3 21 TX3 3 := Or.inl (zWS1 193 rfl rfl)
set_option maxRecDepth 20000 in
theorem fX3_25 : zFld RX3 25 TX3 4 := Or.inl (zWS1 194 rfl rfl)
set_option maxRecDepth 20000 in
theorem fX3_29 : zFld RX3 29 TX3 5 := Or.inl (zWS1 195 rfl rfl)
set_option maxRecDepth 20000 in
theorem fX3_33 : zFld RX3 33 TX3 6 := Or.inl (zWS1 197 rfl rfl)
set_option maxRecDepth 20000 in
theorem fX3_44 : zFld RX3 44 TX3 7 := Or.inl (zWS1 199 rfl rfl)
set_option maxRecDepth 20000 in
theorem fX4_9 : zFld RX4 9 TX4 0 := Or.inl (zWS1 36 rfl rfl)
set_option maxRecDepth 20000 in
theorem fX4_15 : zFld RX4 15 TX4 1 := Or.inl (zWS1 38 rfl rfl)
set_option maxRecDepth 20000 in
theorem fX4_19 : zFld RX4 19 TX4 2 := Or.inl (zWS1 40 rfl rfl)
set_option maxRecDepth 20000 in
theorem fX4_22 : zFld RX4 22 TX4 3 := Or.inl (zWS1 43 rfl rfl)
set_option maxRecDepth 20000 in
theorem fX4_25 : zFld RX4 25 TX4 4 := Or.inl (zWS1 46 rfl rfl)
set_option maxRecDepth 20000 in
theorem fX4_28 : zFld RX4 28 TX4 5 := Or.inl (zWS1 50 rfl rfl)
set_option maxRecDepth 20000 in
theorem fX5_9 : zFld RX5 9 TX5 0 := Or.inl (zWS1 223 rfl rfl)
set_option maxRecDepth 20000 in
theorem fX5_15 : zFld RX5 15 TX4 2 := Or.inr ⟨"ModuleCheck", (zNW1 39 rfl rfl)⟩
set_option maxRecDepth 20000 in
theorem fX5_21 : zFld RX5 21 TX5 2 := Or.inl (zWS1 227 rfl rfl)
set_option maxRecDepth 20000 in
theorem fX5_28 : zFld RX5 28 TX5 3 := Or.inl (zWS1 229 rfl rfl)
set_option maxRecDepth 20000 in
theorem fX5_53 : zFld RX5 53 TX5 4 := Or.inl (zWS1 233 rfl rfl)
set_option maxRecDepth 20000 in
theorem fX5_67 : zFld RX5 67 TX5 1 := Or.inl (zWS1 225 rfl rfl)
set_option maxRecDepth 20000 in
theorem fX5_70 : zFld RX5 70 TX4 4 := Or.inr ⟨"ModuleCheck", (zNW1 49 rfl rfl)⟩
set_option maxRecDepth 20000 in
theorem fX6_9 : zFld RX6 9 TX6 3 := Or.inl (zWS2 52 rfl rfl)
set_option maxRecDepth 20000 in
theorem fX6_15 : zFld RX6 15 TX6 4 := Or.inl (zWS2 53 rfl rfl)
set_option maxRecDepth 20000 in
theorem fX6_18 : zFld RX6 18 TX6 0 := Or.inl (zWS2 49 rfl rfl)
set_option maxRecDepth 20000 in
theorem fX6_22 : zFld RX6 22 TX6 1 := Or.inl (zWS2 50 rfl rfl)
set_option maxRecDepth 20000 in
theorem fX6_31 : zFld RX6 31 TX6 2 := Or.inl (zWS2 51 rfl rfl)
set_option maxRecDepth 20000 in
theorem fX6_48 : zFld RX6 48 TX6 5 := Or.inl (zWS2 54 rfl rfl)
set_option maxRecDepth 20000 in
theorem fX6_59 : zFld RX6 59 TX4 4 := Or.inr ⟨"ModuleCheck", (zNW1 45 rfl rfl)⟩
set_option maxRecDepth 20000 in
theorem fX6_62 : zFld RX6 62 TX4 2 := Or.inr ⟨"ModuleCheck", (zNW1 41 rfl rfl)⟩
set_option maxRecDepth 20000 in
theorem fX6_65 : zFld RX6 65 TX4 3 := Or.inr ⟨"ModuleCheck", (zNW1 44 rfl rfl)⟩
set_option maxRecDepth 20000 in
theorem fX6_130 : zFld RX6 130 TX2 14 := Or.inr ⟨"ModuleCheck", (zNW1 101 rfl rfl)⟩
set_option maxRecDepth 20000 in
theorem fX6_140 : zFld RX6 140 TX2 7 := Or.inr ⟨"ModuleCheck", (zNW1 83 rfl rfl)⟩
set_option maxRecDepth 20000 in
theorem fX6_152 : zFld RX6 152 TX2 2 := Or.inr ⟨"ModuleCheck", (zNW1 76 rfl rfl)⟩
set_option maxRecDepth 20000 in
theorem fX6_155 : zFld RX6 155 TX2 0 := Or.inr ⟨"ModuleCheck", (zNW1 73 rfl rfl)⟩
set_option maxRecDepth 20000 in
theorem fX6_167 : zFld RX6 167 TX2 9 := Or.inr ⟨"ModuleCheck", (zNW1 89 rfl rfl)⟩
set_option maxRecDepth 20000 in
theorem fX6_183 : zFld RX6 183 TX2 13 := Or.inr ⟨"ModuleCheck", (zNW1 99 rfl rfl)⟩
set_option maxRecDepth 20000 in
theorem fX6_195 : zFld RX6 195 TX2 10 := Or.inr ⟨"ModuleCheck", (zNW1 92 rfl rfl)⟩
set_option maxRecDepth 20000 in
theorem fX6_198 : zFld RX6 198 TX2 11 := Or.inr ⟨"ModuleCheck", (zNW1 95 rfl rfl)⟩
set_option maxRecDepth 20000 in
theorem fX6_242 : zFld RX6 242 TX2 8 := Or.inr ⟨"ModuleCheck", (zNW1 86 rfl rfl)⟩
set_option maxRecDepth 20000 in
theorem fX7_9 : zFld RX7 9 TX7 2 := Or.inl (zWS2 15 rfl rfl)
set_option maxRecDepth 20000 in
theorem fX7_15 : zFld RX7 15 TX7 0 := Or.inl (zWS2 13 rfl rfl)
set_option maxRecDepth 20000 in
theorem fX7_19 : zFld RX7 19 TX7 1 := Or.inl (zWS2 14 rfl rfl)
set_option maxRecDepth 20000 in
theorem fX7_35 : zFld RX7 35 TX7 3 := Or.inl (zWS2 16 rfl rfl)
set_option maxRecDepth 20000 in
theorem fX7_50 : zFld RX7 50 TX5 3 := Or.inr ⟨"ModuleCheck", (zNW1 230 rfl rfl)⟩
set_option maxRecDepth 20000 in
theorem fX7_55 : zFld RX7 55 TX3 7 := Or.inr ⟨"ModuleCheck", (zNW1 198 rfl rfl)⟩
set_option maxRecDepth 20000 in
theorem fX7_66 : zFld RX7 66 TX5 4 := Or.inr ⟨"ModuleCheck", (zNW1 232 rfl rfl)⟩
set_option maxRecDepth 20000 in
theorem fX7_119 : zFld RX7 119 TX5 1 := Or.inr ⟨"ModuleCheck", (zNW1 226 rfl rfl)⟩
set_option maxRecDepth 20000 in
theorem fX7_122 : zFld RX7 122 TX5 0 := Or.inr ⟨"ModuleCheck", (zNW1 224 rfl rfl)⟩
set_option maxRecDepth 20000 in
theorem fX7_139 : zFld RX7 139 TX2 10 := Or.inr ⟨"ModuleCheck", (zNW1 91 rfl rfl)⟩
set_option maxRecDepth 20000 in
theorem fX7_142 : zFld RX7 142 TX2 7 := Or.inr ⟨"ModuleCheck", (zNW1 84 rfl rfl)⟩
set_option maxRecDepth 20000 in
theorem fX7_145 : zFld RX7 145 TX2 12 := Or.inr ⟨"ModuleCheck", (zNW1 97 rfl rfl)⟩
set_option maxRecDepth 20000 in
theorem fX7_155 : zFld RX7 155 TX2 11 := Or.inr ⟨"ModuleCheck", (zNW1 94 rfl rfl)⟩
set_option maxRecDepth 20000 in
theorem fX7_170 : zFld RX7 170 TX2 14 := Or.inr ⟨"ModuleCheck", (zNW1 103 rfl rfl)⟩
set_option maxRecDepth 20000 in
theorem lminwC_1 : Cond.static Lib.MathLoose.min_long.x ∈ zWS := (zWS2 174 rfl rfl)
set_option maxRecDepth 20000 in
theorem lminwC_2 : Cond.initialized "java/lang/Math" ∈ zWS := (zWS1 16 rfl rfl)
set_option maxRecDepth 20000 in
theorem lminwC_3 : Cond.code Lib.MathLoose.min_long.x Lib.MathLoose.min_long.code 4 (some .long) ∈ zWS := (zWS2 175 rfl rfl)
set_option maxRecDepth 20000 in
theorem iminwC_1 : Cond.static Lib.Math.min.name ∈ zWS := (zWS4 74 rfl rfl)
set_option maxRecDepth 20000 in
theorem iminwC_2 : Cond.initialized "java/lang/Math" ∈ zWS := (zWS1 16 rfl rfl)
set_option maxRecDepth 20000 in
theorem iminwC_3 : Cond.code Lib.Math.min.name Lib.Math.min.code 2 (some .int) ∈ zWS := (zWS4 75 rfl rfl)
set_option maxRecDepth 20000 in
theorem imaxwC_1 : Cond.static Lib.Math.max.name ∈ zWS := (zWS4 47 rfl rfl)
set_option maxRecDepth 20000 in
theorem imaxwC_2 : Cond.initialized "java/lang/Math" ∈ zWS := (zWS1 16 rfl rfl)
set_option maxRecDepth 20000 in
theorem imaxwC_3 : Cond.code Lib.Math.max.name Lib.Math.max.code 2 (some .int) ∈ zWS := (zWS4 48 rfl rfl)
