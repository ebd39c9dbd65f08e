/-! the world of side M: its classes, its cells -/
def TIse : u_T := fun _ => ("", "", "", false)
def zclM : List vw_C := [(RX10, TX10, 32), (RX9, TX9, 57), ("java/lang/IllegalStateException", TIse, 0)]
def zYM : List zC := [.inl (0, [(2, 2), (2, 1), (0, 0), (2, 4), (2, 5), (0, 0), (0, 0), (0, 0), (0, 0), (2, 3), (0, 0), (0, 0), (0, 0), (0, 0), (0, 0), (0, 0), (1, 0), (1, 0), (0, 0), (1, 0), (2, 6), (2, 7), (0, 0), (2, 8), (2, 9), (2, 10), (2, 11), (2, 12), (0, 0), (2, 13), (0, 0), (0, 0)]),
  .inl (1, [(0, 0), (0, 0), (0, 0), (0, 0), (0, 0), (0, 0), (0, 0), (0, 0), (0, 0), (0, 0), (0, 0), (0, 0), (0, 0), (0, 0), (2, 14), (2, 15), (2, 16), (2, 17), (2, 18), (2, 19), (2, 20), (2, 21), (2, 22), (2, 23), (2, 24), (2, 25), (2, 26), (2, 27), (2, 28), (2, 29), (2, 30), (2, 31), (2, 32), (2, 33), (2, 34), (2, 35), (2, 36), (2, 37), (2, 38), (2, 39), (2, 40), (2, 41), (2, 42), (2, 43), (2, 44), (2, 45), (2, 46), (2, 47), (2, 48), (2, 49), (2, 50), (2, 51), (2, 52), (2, 53), (2, 54), (2, 55), (2, 56)]),
  .inl (1, [(0, 0), (0, 0), (0, 0), (0, 0), (0, 0), (0, 0), (0, 0), (0, 0), (0, 0), (0, 0), (0, 0), (0, 0), (0, 0), (0, 0), (2, 57), (2, 58), (2, 59), (2, 60), (2, 61), (2, 62), (2, 63), (2, 64), (2, 65), (2, 66), (2, 67), (2, 68), (2, 69), (2, 70), (2, 71), (2, 72), (2, 73), (2, 74), (2, 75), (2, 76), (2, 77), (2, 78), (2, 79), (2, 80), (2, 81), (2, 82), (2, 83), (2, 84), (2, 85), (2, 86), (2, 87), (2, 88), (2, 89), (2, 90), (2, 91), (2, 92), (2, 93), (2, 94), (2, 95), (2, 96), (2, 97), (2, 98), (2, 99)]),
  .inl (2, []),
  .inr (.byte, 32000),
  .inr (.byte, 16000),
  .inr (.int, 61),
  .inr (.byte, 32000),
  .inr (.int, 61),
  .inr (.int, 61),
  .inr (.int, 61),
  .inr (.int, 61),
  .inr (.boolean, 61),
  .inr (.int, 80),
  .inr (.long, 2),
  .inr (.long, 2),
  .inr (.int, 2),
  .inr (.int, 2),
  .inr (.int, 2),
  .inr (.int, 64),
  .inr (.int, 32),
  .inr (.int, 32),
  .inr (.int, 32),
  .inr (.int, 32),
  .inr (.int, 32),
  .inr (.long, 32),
  .inr (.int, 32),
  .inr (.int, 32),
  .inr (.boolean, 32),
  .inr (.long, 32),
  .inr (.long, 32),
  .inr (.long, 64),
  .inr (.int, 64),
  .inr (.int, 32),
  .inr (.boolean, 32),
  .inr (.int, 32),
  .inr (.int, 64),
  .inr (.int, 64),
  .inr (.int, 64),
  .inr (.int, 64),
  .inr (.long, 64),
  .inr (.int, 64),
  .inr (.int, 32),
  .inr (.int, 32),
  .inr (.int, 32),
  .inr (.int, 32),
  .inr (.int, 32),
  .inr (.int, 32),
  .inr (.int, 32),
  .inr (.int, 32),
  .inr (.int, 32),
  .inr (.int, 32),
  .inr (.int, 64),
  .inr (.int, 64),
  .inr (.int, 64),
  .inr (.int, 4),
  .inr (.int, 128),
  .inr (.long, 2),
  .inr (.long, 2),
  .inr (.int, 2),
  .inr (.int, 2),
  .inr (.int, 2),
  .inr (.int, 64),
  .inr (.int, 32),
  .inr (.int, 32),
  .inr (.int, 32),
  .inr (.int, 32),
  .inr (.int, 32),
  .inr (.long, 32),
  .inr (.int, 32),
  .inr (.int, 32),
  .inr (.boolean, 32),
  .inr (.long, 32),
  .inr (.long, 32),
  .inr (.long, 64),
  .inr (.int, 64),
  .inr (.int, 32),
  .inr (.boolean, 32),
  .inr (.int, 32),
  .inr (.int, 64),
  .inr (.int, 64),
  .inr (.int, 64),
  .inr (.int, 64),
  .inr (.long, 64),
  .inr (.int, 64),
  .inr (.int, 32),
  .inr (.int, 32),
  .inr (.int, 32),
  .inr (.int, 32),
  .inr (.int, 32),
  .inr (.int, 32),
  .inr (.int, 32),
  .inr (.int, 32),
  .inr (.int, 32),
  .inr (.int, 32),
  .inr (.int, 64),
  .inr (.int, 64),
  .inr (.int, 64),
  .inr (.int, 4),
  .inr (.int, 128)]
-- cell 0: this of ModuleCheckModel
-- cell 1: next of ModuleCheckModel$Module
-- cell 2: right of ModuleCheckModel$Module
-- cell 3: stop of java/lang/IllegalStateException
-- cell 4: this.store byte[32000]
-- cell 5: this.tray byte[16000]
-- cell 6: this.openWith int[61]
-- cell 7: this.types byte[32000]
-- cell 8: this.frameLabel int[61]
-- cell 9: this.frameResult int[61]
-- cell 10: this.frameBase int[61]
-- cell 11: this.frameWith int[61]
-- cell 12: this.frameOpen boolean[61]
-- cell 13: this.localType int[80]
-- cell 14: next.least long[2]
-- cell 15: next.most long[2]
-- cell 16: next.limitsAt int[2]
-- cell 17: next.secondAt int[2]
-- cell 18: next.firstAt int[2]
-- cell 19: next.sig int[64]
-- cell 20: next.importModule int[32]
-- cell 21: next.importModuleLength int[32]
-- cell 22: next.importName int[32]
-- cell 23: next.importNameLength int[32]
-- cell 24: next.importKind int[32]
-- cell 25: next.importWhat long[32]
-- cell 26: next.importAt int[32]
-- cell 27: next.importBegin int[32]
-- cell 28: next.importChanges boolean[32]
-- cell 29: next.importLeast long[32]
-- cell 30: next.importMost long[32]
-- cell 31: next.functionSig long[64]
-- cell 32: next.functionAt int[64]
-- cell 33: next.globalType int[32]
-- cell 34: next.globalChanges boolean[32]
-- cell 35: next.globalConstant int[32]
-- cell 36: next.exportName int[64]
-- cell 37: next.exportNameLength int[64]
-- cell 38: next.exportNameAt int[64]
-- cell 39: next.exportKind int[64]
-- cell 40: next.exportWhat long[64]
-- cell 41: next.exportAt int[64]
-- cell 42: next.elementMode int[32]
-- cell 43: next.elementAt int[32]
-- cell 44: next.elementConstant int[32]
-- cell 45: next.elementRow int[32]
-- cell 46: next.elementCount int[32]
-- cell 47: next.dataMode int[32]
-- cell 48: next.dataAt int[32]
-- cell 49: next.dataConstant int[32]
-- cell 50: next.dataRow int[32]
-- cell 51: next.dataBytes int[32]
-- cell 52: next.groupsAt int[64]
-- cell 53: next.codeAt int[64]
-- cell 54: next.bodyEnd int[64]
-- cell 55: next.imported int[4]
-- cell 56: next.importedAs int[128]
-- cell 57: right.least long[2]
-- cell 58: right.most long[2]
-- cell 59: right.limitsAt int[2]
-- cell 60: right.secondAt int[2]
-- cell 61: right.firstAt int[2]
-- cell 62: right.sig int[64]
-- cell 63: right.importModule int[32]
-- cell 64: right.importModuleLength int[32]
-- cell 65: right.importName int[32]
-- cell 66: right.importNameLength int[32]
-- cell 67: right.importKind int[32]
-- cell 68: right.importWhat long[32]
-- cell 69: right.importAt int[32]
-- cell 70: right.importBegin int[32]
-- cell 71: right.importChanges boolean[32]
-- cell 72: right.importLeast long[32]
-- cell 73: right.importMost long[32]
-- cell 74: right.functionSig long[64]
-- cell 75: right.functionAt int[64]
-- cell 76: right.globalType int[32]
-- cell 77: right.globalChanges boolean[32]
-- cell 78: right.globalConstant int[32]
-- cell 79: right.exportName int[64]
-- cell 80: right.exportNameLength int[64]
-- cell 81: right.exportNameAt int[64]
-- cell 82: right.exportKind int[64]
-- cell 83: right.exportWhat long[64]
-- cell 84: right.exportAt int[64]
-- cell 85: right.elementMode int[32]
-- cell 86: right.elementAt int[32]
-- cell 87: right.elementConstant int[32]
-- cell 88: right.elementRow int[32]
-- cell 89: right.elementCount int[32]
-- cell 90: right.dataMode int[32]
-- cell 91: right.dataAt int[32]
-- cell 92: right.dataConstant int[32]
-- cell 93: right.dataRow int[32]
-- cell 94: right.dataBytes int[32]
-- cell 95: right.groupsAt int[64]
-- cell 96: right.codeAt int[64]
-- cell 97: right.bodyEnd int[64]
-- cell 98: right.imported int[4]
-- cell 99: right.importedAs int[128]
def ordL : List Nat := [1, 2, 3, 4, 5, 6, 7, 8, 9, 12, 10, 11]
def ordB (i : Nat) : Int32 := nI (ordL.getD i 0)
def ordT : String := "\x01\x02\x03\x04\x05\x06\x07\x08\x09\x0c\x0a\x0b"
def zexM : zG → (Nat → Prop) → State → Prop := fun G A s => vk_R RX10 239 ordT (G.2.2 100) s ∧ va_O "java/lang/String" (G.2.2 100) A s s.heap ∧ va_OF "java/lang/String" "coder" "B" (.int 0) (G.2.2 100) A s s.heap ∧ va_OF "java/lang/String" "value" "[B" (.ref (G.2.2 101)) (G.2.2 100) A s s.heap ∧ va_T .byte (G.2.2 101) 12 (fun i => .int (ordB i)) A s s.heap ∧ va_Z "java/lang/String" "COMPACT_STRINGS" "Z" (.int 1) A s s.heap ∧ (va_Z "jdk/internal/util/Preconditions" "SIOOBE_FORMATTER" "Ljava/util/function/BiFunction;" .null A s s.heap ∨ va_Z "jdk/internal/util/Preconditions" "SIOOBE_FORMATTER" "Ljava/util/function/BiFunction;" (.ref (G.2.2 102)) A s s.heap)
def zZM : zZ := (zclM, zYM, zexM)
theorem zZM_ok : zEok zZM := by
  refine ⟨fun G A U g mk a h => ?_, fun G A s U h hW hs hq => ?_⟩
  · obtain ⟨h1, h2, h3, h4, h5, h6, h7⟩ := h
    exact ⟨vk_R.same (u := U) rfl h1, va_O.moved (u := U) (Vm.Alike.refl U.vm) h2, va_OF.moved (u := U) (Vm.Alike.refl U.vm) h3, va_OF.moved (u := U) (Vm.Alike.refl U.vm) h4, va_T.moved (u := U) (Vm.Alike.refl U.vm) h5, va_Z.moved (u := U) (Vm.Alike.refl U.vm) h6, h7.imp (va_Z.moved (u := U) (Vm.Alike.refl U.vm)) (va_Z.moved (u := U) (Vm.Alike.refl U.vm))⟩
  · obtain ⟨h1, h2, h3, h4, h5, h6, h7⟩ := h
    exact ⟨vk_R.warm hW h1, (va_O.moved hW.alike h2).kept hq, (va_OF.moved hW.alike h3).kept hq, (va_OF.moved hW.alike h4).kept hq, (va_T.moved hW.alike h5).kept hq, (va_Z.moved hW.alike h6).kept hq, h7.imp (fun h => (va_Z.moved hW.alike h).kept hq) (fun h => (va_Z.moved hW.alike h).kept hq)⟩
theorem zYM_arr : ∀ (k : Nat) (a : FieldType × Nat), zZM.2.1[k]? = some (Sum.inr a : zC) → a.1 = .int ∨ a.1 = .long ∨ a.1 = .byte ∨ a.1 = .short ∨ a.1 = .boolean := by
  have h : ∀ x ∈ zYM, ∀ a : FieldType × Nat, x = Sum.inr a → a.1 = .int ∨ a.1 = .long ∨ a.1 = .byte ∨ a.1 = .short ∨ a.1 = .boolean := by
    intro x hx a e
    simp only [zYM, List.mem_cons, List.not_mem_nil, or_false] at hx
    subst e
    simp only [Sum.inr.injEq, reduceCtorEq, false_or, or_false] at hx
    rcases hx with hx | hx | hx | hx | hx | hx | hx | hx | hx | hx | hx | hx | hx | hx | hx | hx | hx | hx | hx | hx | hx | hx | hx | hx | hx | hx | hx | hx | hx | hx | hx | hx | hx | hx | hx | hx | hx | hx | hx | hx | hx | hx | hx | hx | hx | hx | hx | hx | hx | hx | hx | hx | hx | hx | hx | hx | hx | hx | hx | hx | hx | hx | hx | hx | hx | hx | hx | hx | hx | hx | hx | hx | hx | hx | hx | hx | hx | hx | hx | hx | hx | hx | hx | hx | hx | hx | hx | hx | hx | hx | hx | hx | hx | hx | hx | hx <;> subst hx <;> simp
  exact fun k a hk => h _ (List.mem_of_getElem? hk) a rfl
set_option maxRecDepth 20000 in
theorem zwX10 : ∀ w ∈ u_ws RX10 TX10 32, w ∈ zWS := zcls_of (l := [.lays RX10 "ModuleCheckModel" "right" "LModuleCheckModel$Module;", .lays RX10 "ModuleCheckModel" "next" "LModuleCheckModel$Module;", .lays RX10 "ModuleCheckModel" "isThere" "Z", .laysFinal RX10 "ModuleCheckModel" "store" "[B", .laysFinal RX10 "ModuleCheckModel" "tray" "[B", .lays RX10 "ModuleCheckModel" "trayed" "I", .lays RX10 "ModuleCheckModel" "allFed" "I", .lays RX10 "ModuleCheckModel" "place" "I", .lays RX10 "ModuleCheckModel" "walkedOver" "I", .laysFinal RX10 "ModuleCheckModel" "stop" "Ljava/lang/IllegalStateException;", .lays RX10 "ModuleCheckModel" "fault" "I", .lays RX10 "ModuleCheckModel" "faultAt" "I", .lays RX10 "ModuleCheckModel" "at" "I", .lays RX10 "ModuleCheckModel" "end" "I", .lays RX10 "ModuleCheckModel" "nameAt" "I", .lays RX10 "ModuleCheckModel" "nameLength" "I", .lays RX10 "ModuleCheckModel" "least" "J", .lays RX10 "ModuleCheckModel" "most" "J", .lays RX10 "ModuleCheckModel" "hasCount" "Z", .lays RX10 "ModuleCheckModel" "toldCount" "J", .laysFinal RX10 "ModuleCheckModel" "openWith" "[I", .laysFinal RX10 "ModuleCheckModel" "types" "[B", .lays RX10 "ModuleCheckModel" "top" "I", .laysFinal RX10 "ModuleCheckModel" "frameLabel" "[I", .laysFinal RX10 "ModuleCheckModel" "frameResult" "[I", .laysFinal RX10 "ModuleCheckModel" "frameBase" "[I", .laysFinal RX10 "ModuleCheckModel" "frameWith" "[I", .laysFinal RX10 "ModuleCheckModel" "frameOpen" "[Z", .lays RX10 "ModuleCheckModel" "frames" "I", .laysFinal RX10 "ModuleCheckModel" "localType" "[I", .lays RX10 "ModuleCheckModel" "locals" "I", .lays RX10 "ModuleCheckModel" "good" "Z"]) rfl (zwc (zWS5 192 rfl rfl) (zwc (zWS5 194 rfl rfl) (zwc (zWS5 196 rfl rfl) (zwc (zWS5 198 rfl rfl) (zwc (zWS5 200 rfl rfl) (zwc (zWS5 202 rfl rfl) (zwc (zWS5 204 rfl rfl) (zwc (zWS5 206 rfl rfl) (zwc (zWS5 208 rfl rfl) (zwc (zWS5 210 rfl rfl) (zwc (zWS5 212 rfl rfl) (zwc (zWS5 214 rfl rfl) (zwc (zWS5 216 rfl rfl) (zwc (zWS5 218 rfl rfl) (zwc (zWS5 220 rfl rfl) (zwc (zWS5 222 rfl rfl) (zwc (zWS5 224 rfl rfl) (zwc (zWS5 226 rfl rfl) (zwc (zWS5 228 rfl rfl) (zwc (zWS5 230 rfl rfl) (zwc (zWS5 232 rfl rfl) (zwc (zWS5 234 rfl rfl) (zwc (zWS5 236 rfl rfl) (zwc (zWS5 238 rfl rfl) (zwc (zWS6 0 rfl rfl) (zwc (zWS6 2 rfl rfl) (zwc (zWS6 4 rfl rfl) (zwc (zWS6 6 rfl rfl) (zwc (zWS6 8 rfl rfl) (zwc (zWS6 10 rfl rfl) (zwc (zWS6 12 rfl rfl) (zwc (zWS6 14 rfl rfl) zwn))))))))))))))))))))))))))))))))
theorem zcX10 : zCls zZM 0 RX10 TX10 32 tyX10 := ⟨rfl, zwX10, tyX10_ok, nmX10⟩
set_option maxRecDepth 20000 in
theorem iniX10 : Cond.initialized RX10 ∈ zWS := (zWS1 10 rfl rfl)
theorem nmhX10 : RX10 ≠ "java/lang/invoke/MethodHandle" ∧ RX10 ≠ "java/lang/invoke/VarHandle" := by decide +kernel
set_option maxRecDepth 20000 in
theorem zwX9 : ∀ w ∈ u_ws RX9 TX9 57, w ∈ zWS := zcls_of (l := [.lays RX9 "ModuleCheckModel$Module" "from" "I", .lays RX9 "ModuleCheckModel$Module" "end" "I", .lays RX9 "ModuleCheckModel$Module" "sigs" "I", .lays RX9 "ModuleCheckModel$Module" "imports" "I", .lays RX9 "ModuleCheckModel$Module" "functions" "I", .lays RX9 "ModuleCheckModel$Module" "globals" "I", .lays RX9 "ModuleCheckModel$Module" "exports" "I", .lays RX9 "ModuleCheckModel$Module" "elements" "I", .lays RX9 "ModuleCheckModel$Module" "dataCount" "I", .lays RX9 "ModuleCheckModel$Module" "bodies" "I", .lays RX9 "ModuleCheckModel$Module" "start" "I", .lays RX9 "ModuleCheckModel$Module" "startAt" "I", .lays RX9 "ModuleCheckModel$Module" "tables" "I", .lays RX9 "ModuleCheckModel$Module" "memories" "I", .laysFinal RX9 "ModuleCheckModel$Module" "least" "[J", .laysFinal RX9 "ModuleCheckModel$Module" "most" "[J", .laysFinal RX9 "ModuleCheckModel$Module" "limitsAt" "[I", .laysFinal RX9 "ModuleCheckModel$Module" "secondAt" "[I", .laysFinal RX9 "ModuleCheckModel$Module" "firstAt" "[I", .laysFinal RX9 "ModuleCheckModel$Module" "sig" "[I", .laysFinal RX9 "ModuleCheckModel$Module" "importModule" "[I", .laysFinal RX9 "ModuleCheckModel$Module" "importModuleLength" "[I", .laysFinal RX9 "ModuleCheckModel$Module" "importName" "[I", .laysFinal RX9 "ModuleCheckModel$Module" "importNameLength" "[I", .laysFinal RX9 "ModuleCheckModel$Module" "importKind" "[I", .laysFinal RX9 "ModuleCheckModel$Module" "importWhat" "[J", .laysFinal RX9 "ModuleCheckModel$Module" "importAt" "[I", .laysFinal RX9 "ModuleCheckModel$Module" "importBegin" "[I", .laysFinal RX9 "ModuleCheckModel$Module" "importChanges" "[Z", .laysFinal RX9 "ModuleCheckModel$Module" "importLeast" "[J", .laysFinal RX9 "ModuleCheckModel$Module" "importMost" "[J", .laysFinal RX9 "ModuleCheckModel$Module" "functionSig" "[J", .laysFinal RX9 "ModuleCheckModel$Module" "functionAt" "[I", .laysFinal RX9 "ModuleCheckModel$Module" "globalType" "[I", .laysFinal RX9 "ModuleCheckModel$Module" "globalChanges" "[Z", .laysFinal RX9 "ModuleCheckModel$Module" "globalConstant" "[I", .laysFinal RX9 "ModuleCheckModel$Module" "exportName" "[I", .laysFinal RX9 "ModuleCheckModel$Module" "exportNameLength" "[I", .laysFinal RX9 "ModuleCheckModel$Module" "exportNameAt" "[I", .laysFinal RX9 "ModuleCheckModel$Module" "exportKind" "[I", .laysFinal RX9 "ModuleCheckModel$Module" "exportWhat" "[J", .laysFinal RX9 "ModuleCheckModel$Module" "exportAt" "[I", .laysFinal RX9 "ModuleCheckModel$Module" "elementMode" "[I", .laysFinal RX9 "ModuleCheckModel$Module" "elementAt" "[I", .laysFinal RX9 "ModuleCheckModel$Module" "elementConstant" "[I", .laysFinal RX9 "ModuleCheckModel$Module" "elementRow" "[I", .laysFinal RX9 "ModuleCheckModel$Module" "elementCount" "[I", .laysFinal RX9 "ModuleCheckModel$Module" "dataMode" "[I", .laysFinal RX9 "ModuleCheckModel$Module" "dataAt" "[I", .laysFinal RX9 "ModuleCheckModel$Module" "dataConstant" "[I", .laysFinal RX9 "ModuleCheckModel$Module" "dataRow" "[I", .laysFinal RX9 "ModuleCheckModel$Module" "dataBytes" "[I", .laysFinal RX9 "ModuleCheckModel$Module" "groupsAt" "[I", .laysFinal RX9 "ModuleCheckModel$Module" "codeAt" "[I", .laysFinal RX9 "ModuleCheckModel$Module" "bodyEnd" "[I", .laysFinal RX9 "ModuleCheckModel$Module" "imported" "[I", .laysFinal RX9 "ModuleCheckModel$Module" "importedAs" "[I"]) rfl (zwc (zWS4 224 rfl rfl) (zwc (zWS4 226 rfl rfl) (zwc (zWS4 228 rfl rfl) (zwc (zWS4 230 rfl rfl) (zwc (zWS4 232 rfl rfl) (zwc (zWS4 234 rfl rfl) (zwc (zWS4 236 rfl rfl) (zwc (zWS4 238 rfl rfl) (zwc (zWS5 0 rfl rfl) (zwc (zWS5 2 rfl rfl) (zwc (zWS5 4 rfl rfl) (zwc (zWS5 6 rfl rfl) (zwc (zWS5 8 rfl rfl) (zwc (zWS5 10 rfl rfl) (zwc (zWS5 12 rfl rfl) (zwc (zWS5 14 rfl rfl) (zwc (zWS5 16 rfl rfl) (zwc (zWS5 18 rfl rfl) (zwc (zWS5 20 rfl rfl) (zwc (zWS5 22 rfl rfl) (zwc (zWS5 24 rfl rfl) (zwc (zWS5 26 rfl rfl) (zwc (zWS5 28 rfl rfl) (zwc (zWS5 30 rfl rfl) (zwc (zWS5 32 rfl rfl) (zwc (zWS5 34 rfl rfl) (zwc (zWS5 36 rfl rfl) (zwc (zWS5 38 rfl rfl) (zwc (zWS5 40 rfl rfl) (zwc (zWS5 42 rfl rfl) (zwc (zWS5 44 rfl rfl) (zwc (zWS5 46 rfl rfl) (zwc (zWS5 48 rfl rfl) (zwc (zWS5 50 rfl rfl) (zwc (zWS5 52 rfl rfl) (zwc (zWS5 54 rfl rfl) (zwc (zWS5 56 rfl rfl) (zwc (zWS5 58 rfl rfl) (zwc (zWS5 60 rfl rfl) (zwc (zWS5 62 rfl rfl) (zwc (zWS5 64 rfl rfl) (zwc (zWS5 66 rfl rfl) (zwc (zWS5 68 rfl rfl) (zwc (zWS5 70 rfl rfl) (zwc (zWS5 72 rfl rfl) (zwc (zWS5 74 rfl rfl) (zwc (zWS5 76 rfl rfl) (zwc (zWS5 78 rfl rfl) (zwc (zWS5 80 rfl rfl) (zwc (zWS5 82 rfl rfl) (zwc (zWS5 84 rfl rfl) (zwc (zWS5 86 rfl rfl) (zwc (zWS5 88 rfl rfl) (zwc (zWS5 90 rfl rfl) (zwc (zWS5 92 rfl rfl) (zwc (zWS5 94 rfl rfl) (zwc (zWS5 96 rfl rfl) zwn)))))))))))))))))))))))))))))))))))))))))))))))))))))))))
theorem zcX9 : zCls zZM 1 RX9 TX9 57 tyX9 := ⟨rfl, zwX9, tyX9_ok, nmX9⟩
set_option maxRecDepth 20000 in
theorem iniX9 : Cond.initialized RX9 ∈ zWS := (zWS1 11 rfl rfl)
theorem nmhX9 : RX9 ≠ "java/lang/invoke/MethodHandle" ∧ RX9 ≠ "java/lang/invoke/VarHandle" := by decide +kernel
def zmX10_areRight : zM := (yX10_areRight, cX10_areRight, 5, (Option.some Jvm.ClassFile.FieldType.boolean), 1)
def zmX10_count : zM := (yX10_count, cX10_count, 2, (Option.some Jvm.ClassFile.FieldType.int), 1)
def zmX10_end : zM := (yX10_end, cX10_end, 2, (Option.some Jvm.ClassFile.FieldType.boolean), 1)
def zmX10_functionsOf : zM := (yX10_functionsOf, cX10_functionsOf, 1, (Option.some Jvm.ClassFile.FieldType.int), 1)
def zmX10_gives : zM := (yX10_gives, cX10_gives, 2, (Option.none : Option Jvm.ClassFile.FieldType), 1)
def zmX10_globalsOf : zM := (yX10_globalsOf, cX10_globalsOf, 1, (Option.some Jvm.ClassFile.FieldType.int), 1)
def zmX10_headerAt : zM := (yX10_headerAt, cX10_headerAt, 1, (Option.some Jvm.ClassFile.FieldType.int), 1)
def zmX10_importOf : zM := (yX10_importOf, cX10_importOf, 3, (Option.some Jvm.ClassFile.FieldType.int), 1)
def zmX10_isLoad : zM := (yX10_isLoad, cX10_isLoad, 1, (Option.some Jvm.ClassFile.FieldType.boolean), 1)
def zmX10_isOwn : zM := (yX10_isOwn, cX10_isOwn, 2, (Option.some Jvm.ClassFile.FieldType.boolean), 1)
def zmX10_isSame : zM := (yX10_isSame, cX10_isSame, 6, (Option.some Jvm.ClassFile.FieldType.boolean), 1)
def zmX10_isStore : zM := (yX10_isStore, cX10_isStore, 1, (Option.some Jvm.ClassFile.FieldType.boolean), 1)
def zmX10_need : zM := (yX10_need, cX10_need, 2, (Option.none : Option Jvm.ClassFile.FieldType), 1)
def zmX10_openFrame : zM := (yX10_openFrame, cX10_openFrame, 4, (Option.none : Option Jvm.ClassFile.FieldType), 1)
def zmX10_parameter : zM := (yX10_parameter, cX10_parameter, 2, (Option.some Jvm.ClassFile.FieldType.int), 1)
def zmX10_parameters : zM := (yX10_parameters, cX10_parameters, 1, (Option.some Jvm.ClassFile.FieldType.int), 1)
def zmX10_place : zM := (yX10_place, cX10_place, 1, (Option.some Jvm.ClassFile.FieldType.int), 1)
def zmX10_rest : zM := (yX10_rest, cX10_rest, 1, (Option.none : Option Jvm.ClassFile.FieldType), 1)
def zmX10_resultOf : zM := (yX10_resultOf, cX10_resultOf, 1, (Option.some Jvm.ClassFile.FieldType.int), 1)
def zmX10_takes : zM := (yX10_takes, cX10_takes, 3, (Option.some Jvm.ClassFile.FieldType.int), 1)
def zmX10_valueType : zM := (yX10_valueType, cX10_valueType, 1, (Option.some Jvm.ClassFile.FieldType.int), 1)
def zmX10_width : zM := (yX10_width, cX10_width, 1, (Option.some Jvm.ClassFile.FieldType.int), 1)
def zmX10_word : zM := (yX10_word, cX10_word, 3, (Option.none : Option Jvm.ClassFile.FieldType), 1)
def zmX10_wrong : zM := (yX10_wrong, cX10_wrong, 3, (Option.some (Jvm.ClassFile.FieldType.object "java/lang/IllegalStateException")), 1)
def zmX9_has : zM := (yX9_has, cX9_has, 2, (Option.some Jvm.ClassFile.FieldType.boolean), 1)
def zmX10_calls : zM := (yX10_calls, cX10_calls, 4, (Option.none : Option Jvm.ClassFile.FieldType), 2)
def zmX10_closes : zM := (yX10_closes, cX10_closes, 2, (Option.none : Option Jvm.ClassFile.FieldType), 2)
def zmX10_feed : zM := (yX10_feed, cX10_feed, 6, (Option.some Jvm.ClassFile.FieldType.int), 2)
def zmX10_follows : zM := (yX10_follows, cX10_follows, 1, (Option.some Jvm.ClassFile.FieldType.int), 2)
def zmX10_isChanged : zM := (yX10_isChanged, cX10_isChanged, 3, (Option.some Jvm.ClassFile.FieldType.boolean), 2)
def zmX10_label : zM := (yX10_label, cX10_label, 3, (Option.some Jvm.ClassFile.FieldType.int), 2)
def zmX10_must : zM := (yX10_must, cX10_must, 3, (Option.none : Option Jvm.ClassFile.FieldType), 2)
def zmX10_octet : zM := (yX10_octet, cX10_octet, 1, (Option.some Jvm.ClassFile.FieldType.int), 2)
def zmX10_sigOf : zM := (yX10_sigOf, cX10_sigOf, 3, (Option.some Jvm.ClassFile.FieldType.int), 2)
def zmX10_turns : zM := (yX10_turns, cX10_turns, 6, (Option.none : Option Jvm.ClassFile.FieldType), 2)
def zmX10_typeOf : zM := (yX10_typeOf, cX10_typeOf, 3, (Option.some Jvm.ClassFile.FieldType.int), 2)
def zmX10_blockType : zM := (yX10_blockType, cX10_blockType, 3, (Option.some Jvm.ClassFile.FieldType.int), 3)
def zmX10_exported : zM := (yX10_exported, cX10_exported, 6, (Option.none : Option Jvm.ClassFile.FieldType), 3)
def zmX10_flag : zM := (yX10_flag, cX10_flag, 3, (Option.some Jvm.ClassFile.FieldType.boolean), 3)
def zmX10_needOctet : zM := (yX10_needOctet, cX10_needOctet, 3, (Option.none : Option Jvm.ClassFile.FieldType), 3)
def zmX10_numbers : zM := (yX10_numbers, cX10_numbers, 2, (Option.none : Option Jvm.ClassFile.FieldType), 3)
def zmX10_one : zM := (yX10_one, cX10_one, 5, (Option.none : Option Jvm.ClassFile.FieldType), 3)
def zmX10_signed : zM := (yX10_signed, cX10_signed, 9, (Option.some Jvm.ClassFile.FieldType.long), 3)
def zmX10_type : zM := (yX10_type, cX10_type, 3, (Option.some Jvm.ClassFile.FieldType.int), 3)
def zmX10_u : zM := (yX10_u, cX10_u, 6, (Option.some Jvm.ClassFile.FieldType.long), 3)
def zmX10_access : zM := (yX10_access, cX10_access, 8, (Option.none : Option Jvm.ClassFile.FieldType), 4)
def zmX10_checkMany : zM := (yX10_checkMany, cX10_checkMany, 6, (Option.none : Option Jvm.ClassFile.FieldType), 4)
def zmX10_isConstant : zM := (yX10_isConstant, cX10_isConstant, 7, (Option.some Jvm.ClassFile.FieldType.boolean), 4)
def zmX10_l : zM := (yX10_l, cX10_l, 1, (Option.some Jvm.ClassFile.FieldType.long), 4)
def zmX10_labelRow : zM := (yX10_labelRow, cX10_labelRow, 7, (Option.none : Option Jvm.ClassFile.FieldType), 4)
def zmX10_limits : zM := (yX10_limits, cX10_limits, 3, (Option.none : Option Jvm.ClassFile.FieldType), 4)
def zmX10_many : zM := (yX10_many, cX10_many, 7, (Option.none : Option Jvm.ClassFile.FieldType), 4)
def zmX10_nameItem : zM := (yX10_nameItem, cX10_nameItem, 6, (Option.none : Option Jvm.ClassFile.FieldType), 4)
def zmX10_readLocals : zM := (yX10_readLocals, cX10_readLocals, 12, (Option.none : Option Jvm.ClassFile.FieldType), 4)
def zmX10_s : zM := (yX10_s, cX10_s, 1, (Option.some Jvm.ClassFile.FieldType.int), 4)
def zmX10_signature : zM := (yX10_signature, cX10_signature, 10, (Option.none : Option Jvm.ClassFile.FieldType), 4)
def zmX10_checkOne : zM := (yX10_checkOne, cX10_checkOne, 12, (Option.none : Option Jvm.ClassFile.FieldType), 5)
def zmX10_constant : zM := (yX10_constant, cX10_constant, 5, (Option.some Jvm.ClassFile.FieldType.int), 5)
def zmX10_exportLine : zM := (yX10_exportLine, cX10_exportLine, 4, (Option.none : Option Jvm.ClassFile.FieldType), 5)
def zmX10_importLine : zM := (yX10_importLine, cX10_importLine, 5, (Option.none : Option Jvm.ClassFile.FieldType), 5)
def zmX10_locals : zM := (yX10_locals, cX10_locals, 2, (Option.some Jvm.ClassFile.FieldType.int), 5)
def zmX10_operands : zM := (yX10_operands, cX10_operands, 9, (Option.none : Option Jvm.ClassFile.FieldType), 5)
def zmX10_ownLimits : zM := (yX10_ownLimits, cX10_ownLimits, 7, (Option.none : Option Jvm.ClassFile.FieldType), 5)
def zmX10_checkBody : zM := (yX10_checkBody, cX10_checkBody, 6, (Option.none : Option Jvm.ClassFile.FieldType), 6)
def zmX10_dataLine : zM := (yX10_dataLine, cX10_dataLine, 7, (Option.none : Option Jvm.ClassFile.FieldType), 6)
def zmX10_elementLine : zM := (yX10_elementLine, cX10_elementLine, 10, (Option.none : Option Jvm.ClassFile.FieldType), 6)
def zmX10_globalLine : zM := (yX10_globalLine, cX10_globalLine, 2, (Option.none : Option Jvm.ClassFile.FieldType), 6)
def zmX10_readCode : zM := (yX10_readCode, cX10_readCode, 4, (Option.none : Option Jvm.ClassFile.FieldType), 6)
def zmX10_walked : zM := (yX10_walked, cX10_walked, 6, (Option.some Jvm.ClassFile.FieldType.int), 6)
def zmX10_body : zM := (yX10_body, cX10_body, 15, (Option.none : Option Jvm.ClassFile.FieldType), 7)
def zmX10_code : zM := (yX10_code, cX10_code, 3, (Option.some Jvm.ClassFile.FieldType.int), 7)
def zmX10_instructions : zM := (yX10_instructions, cX10_instructions, 3, (Option.some Jvm.ClassFile.FieldType.int), 7)
def zmX10_means : zM := (yX10_means, cX10_means, 5, (Option.none : Option Jvm.ClassFile.FieldType), 7)
def zmX10_orderOf : zM := (yX10_orderOf, cX10_orderOf, 2, (Option.some Jvm.ClassFile.FieldType.int), 7)
def zmX10_section : zM := (yX10_section, cX10_section, 7, (Option.none : Option Jvm.ClassFile.FieldType), 8)
def zmX10_read : zM := (yX10_read, cX10_read, 10, (Option.none : Option Jvm.ClassFile.FieldType), 9)
set_option maxRecDepth 20000 in
theorem calX10_areRight : zCal zmX10_areRight := ⟨(zWS6 227 rfl rfl), iniX10, nmhX10⟩
theorem dscX10_areRight : (parseMethodDescriptor zmX10_areRight.1.desc).map (fun d => d.parameters.length) = some 3 := by decide +kernel
set_option maxRecDepth 20000 in
theorem virX10_areRight : Cond.static yX10_areRight ∈ zWS := (zWS6 226 rfl rfl)
set_option maxRecDepth 20000 in
theorem calX10_count : zCal zmX10_count := ⟨(zWS7 113 rfl rfl), iniX10, nmhX10⟩
theorem dscX10_count : (parseMethodDescriptor zmX10_count.1.desc).map (fun d => d.parameters.length) = some 1 := by decide +kernel
set_option maxRecDepth 20000 in
theorem virX10_count : Cond.instanceMethod zmX10_count.1 ∈ zWS ∧ Cond.selects zmX10_count.1.cls zmX10_count.1 zmX10_count.1 ∈ zWS := ⟨(zWS7 111 rfl rfl), (zWS7 112 rfl rfl)⟩
set_option maxRecDepth 20000 in
theorem calX10_end : zCal zmX10_end := ⟨(zWS6 29 rfl rfl), iniX10, nmhX10⟩
theorem dscX10_end : (parseMethodDescriptor zmX10_end.1.desc).map (fun d => d.parameters.length) = some 1 := by decide +kernel
set_option maxRecDepth 20000 in
theorem virX10_end : Cond.instanceMethod zmX10_end.1 ∈ zWS ∧ Cond.selects zmX10_end.1.cls zmX10_end.1 zmX10_end.1 ∈ zWS := ⟨(zWS6 27 rfl rfl), (zWS6 28 rfl rfl)⟩
set_option maxRecDepth 20000 in
theorem calX10_functionsOf : zCal zmX10_functionsOf := ⟨(zWS7 12 rfl rfl), iniX10, nmhX10⟩
theorem dscX10_functionsOf : (parseMethodDescriptor zmX10_functionsOf.1.desc).map (fun d => d.parameters.length) = some 1 := by decide +kernel
set_option maxRecDepth 20000 in
theorem virX10_functionsOf : Cond.static yX10_functionsOf ∈ zWS := (zWS7 11 rfl rfl)
set_option maxRecDepth 20000 in
theorem calX10_gives : zCal zmX10_gives := ⟨(zWS7 67 rfl rfl), iniX10, nmhX10⟩
theorem dscX10_gives : (parseMethodDescriptor zmX10_gives.1.desc).map (fun d => d.parameters.length) = some 1 := by decide +kernel
set_option maxRecDepth 20000 in
theorem virX10_gives : Cond.instanceMethod zmX10_gives.1 ∈ zWS ∧ Cond.selects zmX10_gives.1.cls zmX10_gives.1 zmX10_gives.1 ∈ zWS := ⟨(zWS7 66 rfl rfl), (zSL9 11 32 rfl)⟩
set_option maxRecDepth 20000 in
theorem calX10_globalsOf : zCal zmX10_globalsOf := ⟨(zWS7 15 rfl rfl), iniX10, nmhX10⟩
theorem dscX10_globalsOf : (parseMethodDescriptor zmX10_globalsOf.1.desc).map (fun d => d.parameters.length) = some 1 := by decide +kernel
set_option maxRecDepth 20000 in
theorem virX10_globalsOf : Cond.static yX10_globalsOf ∈ zWS := (zWS7 14 rfl rfl)
set_option maxRecDepth 20000 in
theorem calX10_headerAt : zCal zmX10_headerAt := ⟨(zWS6 40 rfl rfl), iniX10, nmhX10⟩
theorem dscX10_headerAt : (parseMethodDescriptor zmX10_headerAt.1.desc).map (fun d => d.parameters.length) = some 1 := by decide +kernel
set_option maxRecDepth 20000 in
theorem virX10_headerAt : Cond.static yX10_headerAt ∈ zWS := (zWS6 39 rfl rfl)
set_option maxRecDepth 20000 in
theorem calX10_importOf : zCal zmX10_importOf := ⟨(zWS6 235 rfl rfl), iniX10, nmhX10⟩
theorem dscX10_importOf : (parseMethodDescriptor zmX10_importOf.1.desc).map (fun d => d.parameters.length) = some 3 := by decide +kernel
set_option maxRecDepth 20000 in
theorem virX10_importOf : Cond.static yX10_importOf ∈ zWS := (zWS6 234 rfl rfl)
set_option maxRecDepth 20000 in
theorem calX10_isLoad : zCal zmX10_isLoad := ⟨(zWS6 194 rfl rfl), iniX10, nmhX10⟩
theorem dscX10_isLoad : (parseMethodDescriptor zmX10_isLoad.1.desc).map (fun d => d.parameters.length) = some 1 := by decide +kernel
set_option maxRecDepth 20000 in
theorem virX10_isLoad : Cond.static yX10_isLoad ∈ zWS := (zWS6 193 rfl rfl)
set_option maxRecDepth 20000 in
theorem calX10_isOwn : zCal zmX10_isOwn := ⟨(zWS7 121 rfl rfl), iniX10, nmhX10⟩
theorem dscX10_isOwn : (parseMethodDescriptor zmX10_isOwn.1.desc).map (fun d => d.parameters.length) = some 1 := by decide +kernel
set_option maxRecDepth 20000 in
theorem virX10_isOwn : Cond.instanceMethod zmX10_isOwn.1 ∈ zWS ∧ Cond.selects zmX10_isOwn.1.cls zmX10_isOwn.1 zmX10_isOwn.1 ∈ zWS := ⟨(zWS7 120 rfl rfl), (zSL10 4 32 rfl)⟩
set_option maxRecDepth 20000 in
theorem calX10_isSame : zCal zmX10_isSame := ⟨(zWS7 23 rfl rfl), iniX10, nmhX10⟩
theorem dscX10_isSame : (parseMethodDescriptor zmX10_isSame.1.desc).map (fun d => d.parameters.length) = some 4 := by decide +kernel
set_option maxRecDepth 20000 in
theorem virX10_isSame : Cond.instanceMethod zmX10_isSame.1 ∈ zWS ∧ Cond.selects zmX10_isSame.1.cls zmX10_isSame.1 zmX10_isSame.1 ∈ zWS := ⟨(zWS7 22 rfl rfl), (zSL9 3 32 rfl)⟩
set_option maxRecDepth 20000 in
theorem calX10_isStore : zCal zmX10_isStore := ⟨(zWS6 197 rfl rfl), iniX10, nmhX10⟩
theorem dscX10_isStore : (parseMethodDescriptor zmX10_isStore.1.desc).map (fun d => d.parameters.length) = some 1 := by decide +kernel
set_option maxRecDepth 20000 in
theorem virX10_isStore : Cond.static yX10_isStore ∈ zWS := (zWS6 196 rfl rfl)
set_option maxRecDepth 20000 in
theorem calX10_need : zCal zmX10_need := ⟨(zWS7 55 rfl rfl), iniX10, nmhX10⟩
theorem dscX10_need : (parseMethodDescriptor zmX10_need.1.desc).map (fun d => d.parameters.length) = some 1 := by decide +kernel
set_option maxRecDepth 20000 in
theorem virX10_need : Cond.instanceMethod zmX10_need.1 ∈ zWS ∧ Cond.selects zmX10_need.1.cls zmX10_need.1 zmX10_need.1 ∈ zWS := ⟨(zWS7 54 rfl rfl), (zSL9 8 32 rfl)⟩
set_option maxRecDepth 20000 in
theorem calX10_openFrame : zCal zmX10_openFrame := ⟨(zWS7 47 rfl rfl), iniX10, nmhX10⟩
theorem dscX10_openFrame : (parseMethodDescriptor zmX10_openFrame.1.desc).map (fun d => d.parameters.length) = some 3 := by decide +kernel
set_option maxRecDepth 20000 in
theorem virX10_openFrame : Cond.instanceMethod zmX10_openFrame.1 ∈ zWS ∧ Cond.selects zmX10_openFrame.1.cls zmX10_openFrame.1 zmX10_openFrame.1 ∈ zWS := ⟨(zWS7 46 rfl rfl), (zSL9 6 32 rfl)⟩
set_option maxRecDepth 20000 in
theorem calX10_parameter : zCal zmX10_parameter := ⟨(zWS7 43 rfl rfl), iniX10, nmhX10⟩
theorem dscX10_parameter : (parseMethodDescriptor zmX10_parameter.1.desc).map (fun d => d.parameters.length) = some 2 := by decide +kernel
set_option maxRecDepth 20000 in
theorem virX10_parameter : Cond.static yX10_parameter ∈ zWS := (zWS7 42 rfl rfl)
set_option maxRecDepth 20000 in
theorem calX10_parameters : zCal zmX10_parameters := ⟨(zWS7 29 rfl rfl), iniX10, nmhX10⟩
theorem dscX10_parameters : (parseMethodDescriptor zmX10_parameters.1.desc).map (fun d => d.parameters.length) = some 1 := by decide +kernel
set_option maxRecDepth 20000 in
theorem virX10_parameters : Cond.static yX10_parameters ∈ zWS := (zWS7 28 rfl rfl)
set_option maxRecDepth 20000 in
theorem calX10_place : zCal zmX10_place := ⟨(zWS7 109 rfl rfl), iniX10, nmhX10⟩
theorem dscX10_place : (parseMethodDescriptor zmX10_place.1.desc).map (fun d => d.parameters.length) = some 0 := by decide +kernel
set_option maxRecDepth 20000 in
theorem virX10_place : Cond.instanceMethod zmX10_place.1 ∈ zWS ∧ Cond.selects zmX10_place.1.cls zmX10_place.1 zmX10_place.1 ∈ zWS := ⟨(zWS7 107 rfl rfl), (zWS7 108 rfl rfl)⟩
set_option maxRecDepth 20000 in
theorem calX10_rest : zCal zmX10_rest := ⟨(zWS7 75 rfl rfl), iniX10, nmhX10⟩
theorem dscX10_rest : (parseMethodDescriptor zmX10_rest.1.desc).map (fun d => d.parameters.length) = some 0 := by decide +kernel
set_option maxRecDepth 20000 in
theorem virX10_rest : Cond.instanceMethod zmX10_rest.1 ∈ zWS ∧ Cond.selects zmX10_rest.1.cls zmX10_rest.1 zmX10_rest.1 ∈ zWS := ⟨(zWS7 74 rfl rfl), (zSL9 13 32 rfl)⟩
set_option maxRecDepth 20000 in
theorem calX10_resultOf : zCal zmX10_resultOf := ⟨(zWS7 32 rfl rfl), iniX10, nmhX10⟩
theorem dscX10_resultOf : (parseMethodDescriptor zmX10_resultOf.1.desc).map (fun d => d.parameters.length) = some 1 := by decide +kernel
set_option maxRecDepth 20000 in
theorem virX10_resultOf : Cond.static yX10_resultOf ∈ zWS := (zWS7 31 rfl rfl)
set_option maxRecDepth 20000 in
theorem calX10_takes : zCal zmX10_takes := ⟨(zWS7 63 rfl rfl), iniX10, nmhX10⟩
theorem dscX10_takes : (parseMethodDescriptor zmX10_takes.1.desc).map (fun d => d.parameters.length) = some 1 := by decide +kernel
set_option maxRecDepth 20000 in
theorem virX10_takes : Cond.instanceMethod zmX10_takes.1 ∈ zWS ∧ Cond.selects zmX10_takes.1.cls zmX10_takes.1 zmX10_takes.1 ∈ zWS := ⟨(zWS7 62 rfl rfl), (zSL9 10 32 rfl)⟩
set_option maxRecDepth 20000 in
theorem calX10_valueType : zCal zmX10_valueType := ⟨(zWS7 101 rfl rfl), iniX10, nmhX10⟩
theorem dscX10_valueType : (parseMethodDescriptor zmX10_valueType.1.desc).map (fun d => d.parameters.length) = some 1 := by decide +kernel
set_option maxRecDepth 20000 in
theorem virX10_valueType : Cond.static yX10_valueType ∈ zWS := (zWS7 100 rfl rfl)
set_option maxRecDepth 20000 in
theorem calX10_width : zCal zmX10_width := ⟨(zWS7 98 rfl rfl), iniX10, nmhX10⟩
theorem dscX10_width : (parseMethodDescriptor zmX10_width.1.desc).map (fun d => d.parameters.length) = some 1 := by decide +kernel
set_option maxRecDepth 20000 in
theorem virX10_width : Cond.static yX10_width ∈ zWS := (zWS7 97 rfl rfl)
set_option maxRecDepth 20000 in
theorem calX10_word : zCal zmX10_word := ⟨(zWS6 25 rfl rfl), iniX10, nmhX10⟩
theorem dscX10_word : (parseMethodDescriptor zmX10_word.1.desc).map (fun d => d.parameters.length) = some 1 := by decide +kernel
set_option maxRecDepth 20000 in
theorem virX10_word : Cond.instanceMethod zmX10_word.1 ∈ zWS ∧ Cond.selects zmX10_word.1.cls zmX10_word.1 zmX10_word.1 ∈ zWS := ⟨(zWS6 24 rfl rfl), (zSL7 3 32 rfl)⟩
set_option maxRecDepth 20000 in
theorem calX10_wrong : zCal zmX10_wrong := ⟨(zWS6 52 rfl rfl), iniX10, nmhX10⟩
theorem dscX10_wrong : (parseMethodDescriptor zmX10_wrong.1.desc).map (fun d => d.parameters.length) = some 2 := by decide +kernel
set_option maxRecDepth 20000 in
theorem virX10_wrong : Cond.instanceMethod zmX10_wrong.1 ∈ zWS ∧ Cond.selects zmX10_wrong.1.cls zmX10_wrong.1 zmX10_wrong.1 ∈ zWS := ⟨(zWS6 51 rfl rfl), (zSL7 7 32 rfl)⟩
set_option maxRecDepth 20000 in
theorem calX9_has : zCal zmX9_has := ⟨(zWS7 19 rfl rfl), iniX9, nmhX9⟩
theorem dscX9_has : (parseMethodDescriptor zmX9_has.1.desc).map (fun d => d.parameters.length) = some 1 := by decide +kernel
set_option maxRecDepth 20000 in
theorem virX9_has : Cond.instanceMethod zmX9_has.1 ∈ zWS ∧ Cond.selects zmX9_has.1.cls zmX9_has.1 zmX9_has.1 ∈ zWS := ⟨(zWS7 17 rfl rfl), (zWS7 18 rfl rfl)⟩
set_option maxRecDepth 20000 in
theorem calX10_calls : zCal zmX10_calls := ⟨(zWS7 91 rfl rfl), iniX10, nmhX10⟩
theorem dscX10_calls : (parseMethodDescriptor zmX10_calls.1.desc).map (fun d => d.parameters.length) = some 1 := by decide +kernel
set_option maxRecDepth 20000 in
theorem virX10_calls : Cond.instanceMethod zmX10_calls.1 ∈ zWS ∧ Cond.selects zmX10_calls.1.cls zmX10_calls.1 zmX10_calls.1 ∈ zWS := ⟨(zWS7 90 rfl rfl), (zSL10 1 32 rfl)⟩
set_option maxRecDepth 20000 in
theorem calX10_closes : zCal zmX10_closes := ⟨(zWS7 79 rfl rfl), iniX10, nmhX10⟩
theorem dscX10_closes : (parseMethodDescriptor zmX10_closes.1.desc).map (fun d => d.parameters.length) = some 0 := by decide +kernel
set_option maxRecDepth 20000 in
theorem virX10_closes : Cond.instanceMethod zmX10_closes.1 ∈ zWS ∧ Cond.selects zmX10_closes.1.cls zmX10_closes.1 zmX10_closes.1 ∈ zWS := ⟨(zWS7 78 rfl rfl), (zSL9 14 32 rfl)⟩
set_option maxRecDepth 20000 in
theorem calX10_feed : zCal zmX10_feed := ⟨(zWS6 20 rfl rfl), iniX10, nmhX10⟩
theorem dscX10_feed : (parseMethodDescriptor zmX10_feed.1.desc).map (fun d => d.parameters.length) = some 5 := by decide +kernel
set_option maxRecDepth 20000 in
theorem virX10_feed : Cond.instanceMethod zmX10_feed.1 ∈ zWS ∧ Cond.selects zmX10_feed.1.cls zmX10_feed.1 zmX10_feed.1 ∈ zWS := ⟨(zWS6 18 rfl rfl), (zWS6 19 rfl rfl)⟩
set_option maxRecDepth 20000 in
theorem calX10_follows : zCal zmX10_follows := ⟨(zWS6 191 rfl rfl), iniX10, nmhX10⟩
theorem dscX10_follows : (parseMethodDescriptor zmX10_follows.1.desc).map (fun d => d.parameters.length) = some 1 := by decide +kernel
set_option maxRecDepth 20000 in
theorem virX10_follows : Cond.static yX10_follows ∈ zWS := (zWS6 190 rfl rfl)
set_option maxRecDepth 20000 in
theorem calX10_isChanged : zCal zmX10_isChanged := ⟨(zWS7 2 rfl rfl), iniX10, nmhX10⟩
theorem dscX10_isChanged : (parseMethodDescriptor zmX10_isChanged.1.desc).map (fun d => d.parameters.length) = some 2 := by decide +kernel
set_option maxRecDepth 20000 in
theorem virX10_isChanged : Cond.static yX10_isChanged ∈ zWS := (zWS7 1 rfl rfl)
set_option maxRecDepth 20000 in
theorem calX10_label : zCal zmX10_label := ⟨(zWS7 83 rfl rfl), iniX10, nmhX10⟩
theorem dscX10_label : (parseMethodDescriptor zmX10_label.1.desc).map (fun d => d.parameters.length) = some 1 := by decide +kernel
set_option maxRecDepth 20000 in
theorem virX10_label : Cond.instanceMethod zmX10_label.1 ∈ zWS ∧ Cond.selects zmX10_label.1.cls zmX10_label.1 zmX10_label.1 ∈ zWS := ⟨(zWS7 82 rfl rfl), (zSL9 15 32 rfl)⟩
set_option maxRecDepth 20000 in
theorem calX10_must : zCal zmX10_must := ⟨(zWS6 224 rfl rfl), iniX10, nmhX10⟩
theorem dscX10_must : (parseMethodDescriptor zmX10_must.1.desc).map (fun d => d.parameters.length) = some 2 := by decide +kernel
set_option maxRecDepth 20000 in
theorem virX10_must : Cond.instanceMethod zmX10_must.1 ∈ zWS ∧ Cond.selects zmX10_must.1.cls zmX10_must.1 zmX10_must.1 ∈ zWS := ⟨(zWS6 223 rfl rfl), (zSL8 15 32 rfl)⟩
set_option maxRecDepth 20000 in
theorem calX10_octet : zCal zmX10_octet := ⟨(zWS6 48 rfl rfl), iniX10, nmhX10⟩
theorem dscX10_octet : (parseMethodDescriptor zmX10_octet.1.desc).map (fun d => d.parameters.length) = some 0 := by decide +kernel
set_option maxRecDepth 20000 in
theorem virX10_octet : Cond.instanceMethod zmX10_octet.1 ∈ zWS ∧ Cond.selects zmX10_octet.1.cls zmX10_octet.1 zmX10_octet.1 ∈ zWS := ⟨(zWS6 47 rfl rfl), (zSL7 6 32 rfl)⟩
set_option maxRecDepth 20000 in
theorem calX10_sigOf : zCal zmX10_sigOf := ⟨(zWS7 26 rfl rfl), iniX10, nmhX10⟩
theorem dscX10_sigOf : (parseMethodDescriptor zmX10_sigOf.1.desc).map (fun d => d.parameters.length) = some 2 := by decide +kernel
set_option maxRecDepth 20000 in
theorem virX10_sigOf : Cond.static yX10_sigOf ∈ zWS := (zWS7 25 rfl rfl)
set_option maxRecDepth 20000 in
theorem calX10_turns : zCal zmX10_turns := ⟨(zWS7 59 rfl rfl), iniX10, nmhX10⟩
theorem dscX10_turns : (parseMethodDescriptor zmX10_turns.1.desc).map (fun d => d.parameters.length) = some 3 := by decide +kernel
set_option maxRecDepth 20000 in
theorem virX10_turns : Cond.instanceMethod zmX10_turns.1 ∈ zWS ∧ Cond.selects zmX10_turns.1.cls zmX10_turns.1 zmX10_turns.1 ∈ zWS := ⟨(zWS7 58 rfl rfl), (zSL9 9 32 rfl)⟩
set_option maxRecDepth 20000 in
theorem calX10_typeOf : zCal zmX10_typeOf := ⟨(zWS7 5 rfl rfl), iniX10, nmhX10⟩
theorem dscX10_typeOf : (parseMethodDescriptor zmX10_typeOf.1.desc).map (fun d => d.parameters.length) = some 2 := by decide +kernel
set_option maxRecDepth 20000 in
theorem virX10_typeOf : Cond.static yX10_typeOf ∈ zWS := (zWS7 4 rfl rfl)
set_option maxRecDepth 20000 in
theorem calX10_blockType : zCal zmX10_blockType := ⟨(zWS6 201 rfl rfl), iniX10, nmhX10⟩
theorem dscX10_blockType : (parseMethodDescriptor zmX10_blockType.1.desc).map (fun d => d.parameters.length) = some 0 := by decide +kernel
set_option maxRecDepth 20000 in
theorem virX10_blockType : Cond.instanceMethod zmX10_blockType.1 ∈ zWS ∧ Cond.selects zmX10_blockType.1.cls zmX10_blockType.1 zmX10_blockType.1 ∈ zWS := ⟨(zWS6 200 rfl rfl), (zSL8 11 32 rfl)⟩
set_option maxRecDepth 20000 in
theorem calX10_exported : zCal zmX10_exported := ⟨(zWS7 9 rfl rfl), iniX10, nmhX10⟩
theorem dscX10_exported : (parseMethodDescriptor zmX10_exported.1.desc).map (fun d => d.parameters.length) = some 2 := by decide +kernel
set_option maxRecDepth 20000 in
theorem virX10_exported : Cond.instanceMethod zmX10_exported.1 ∈ zWS ∧ Cond.selects zmX10_exported.1.cls zmX10_exported.1 zmX10_exported.1 ∈ zWS := ⟨(zWS7 8 rfl rfl), (zSL9 2 32 rfl)⟩
set_option maxRecDepth 20000 in
theorem calX10_flag : zCal zmX10_flag := ⟨(zWS6 137 rfl rfl), iniX10, nmhX10⟩
theorem dscX10_flag : (parseMethodDescriptor zmX10_flag.1.desc).map (fun d => d.parameters.length) = some 0 := by decide +kernel
set_option maxRecDepth 20000 in
theorem virX10_flag : Cond.instanceMethod zmX10_flag.1 ∈ zWS ∧ Cond.selects zmX10_flag.1.cls zmX10_flag.1 zmX10_flag.1 ∈ zWS := ⟨(zWS6 136 rfl rfl), (zSL7 14 32 rfl)⟩
set_option maxRecDepth 20000 in
theorem calX10_needOctet : zCal zmX10_needOctet := ⟨(zWS6 44 rfl rfl), iniX10, nmhX10⟩
theorem dscX10_needOctet : (parseMethodDescriptor zmX10_needOctet.1.desc).map (fun d => d.parameters.length) = some 1 := by decide +kernel
set_option maxRecDepth 20000 in
theorem virX10_needOctet : Cond.instanceMethod zmX10_needOctet.1 ∈ zWS ∧ Cond.selects zmX10_needOctet.1.cls zmX10_needOctet.1 zmX10_needOctet.1 ∈ zWS := ⟨(zWS6 43 rfl rfl), (zSL7 5 32 rfl)⟩
set_option maxRecDepth 20000 in
theorem calX10_numbers : zCal zmX10_numbers := ⟨(zWS7 105 rfl rfl), iniX10, nmhX10⟩
theorem dscX10_numbers : (parseMethodDescriptor zmX10_numbers.1.desc).map (fun d => d.parameters.length) = some 1 := by decide +kernel
set_option maxRecDepth 20000 in
theorem virX10_numbers : Cond.instanceMethod zmX10_numbers.1 ∈ zWS ∧ Cond.selects zmX10_numbers.1.cls zmX10_numbers.1 zmX10_numbers.1 ∈ zWS := ⟨(zWS7 104 rfl rfl), (zSL10 3 32 rfl)⟩
set_option maxRecDepth 20000 in
theorem calX10_one : zCal zmX10_one := ⟨(zWS6 232 rfl rfl), iniX10, nmhX10⟩
theorem dscX10_one : (parseMethodDescriptor zmX10_one.1.desc).map (fun d => d.parameters.length) = some 3 := by decide +kernel
set_option maxRecDepth 20000 in
theorem virX10_one : Cond.instanceMethod zmX10_one.1 ∈ zWS ∧ Cond.selects zmX10_one.1.cls zmX10_one.1 zmX10_one.1 ∈ zWS := ⟨(zWS6 231 rfl rfl), (zSL9 0 32 rfl)⟩
set_option maxRecDepth 20000 in
theorem calX10_signed : zCal zmX10_signed := ⟨(zWS6 162 rfl rfl), iniX10, nmhX10⟩
theorem dscX10_signed : (parseMethodDescriptor zmX10_signed.1.desc).map (fun d => d.parameters.length) = some 3 := by decide +kernel
set_option maxRecDepth 20000 in
theorem virX10_signed : Cond.instanceMethod zmX10_signed.1 ∈ zWS ∧ Cond.selects zmX10_signed.1.cls zmX10_signed.1 zmX10_signed.1 ∈ zWS := ⟨(zWS6 161 rfl rfl), (zSL8 4 32 rfl)⟩
set_option maxRecDepth 20000 in
theorem calX10_type : zCal zmX10_type := ⟨(zWS6 129 rfl rfl), iniX10, nmhX10⟩
theorem dscX10_type : (parseMethodDescriptor zmX10_type.1.desc).map (fun d => d.parameters.length) = some 0 := by decide +kernel
set_option maxRecDepth 20000 in
theorem virX10_type : Cond.instanceMethod zmX10_type.1 ∈ zWS ∧ Cond.selects zmX10_type.1.cls zmX10_type.1 zmX10_type.1 ∈ zWS := ⟨(zWS6 128 rfl rfl), (zSL7 12 32 rfl)⟩
set_option maxRecDepth 20000 in
theorem calX10_u : zCal zmX10_u := ⟨(zWS6 108 rfl rfl), iniX10, nmhX10⟩
theorem dscX10_u : (parseMethodDescriptor zmX10_u.1.desc).map (fun d => d.parameters.length) = some 0 := by decide +kernel
set_option maxRecDepth 20000 in
theorem virX10_u : Cond.instanceMethod zmX10_u.1 ∈ zWS ∧ Cond.selects zmX10_u.1.cls zmX10_u.1 zmX10_u.1 ∈ zWS := ⟨(zWS6 107 rfl rfl), (zSL7 8 32 rfl)⟩
set_option maxRecDepth 20000 in
theorem calX10_access : zCal zmX10_access := ⟨(zWS7 95 rfl rfl), iniX10, nmhX10⟩
theorem dscX10_access : (parseMethodDescriptor zmX10_access.1.desc).map (fun d => d.parameters.length) = some 2 := by decide +kernel
set_option maxRecDepth 20000 in
theorem virX10_access : Cond.instanceMethod zmX10_access.1 ∈ zWS ∧ Cond.selects zmX10_access.1.cls zmX10_access.1 zmX10_access.1 ∈ zWS := ⟨(zWS7 94 rfl rfl), (zSL10 2 32 rfl)⟩
set_option maxRecDepth 20000 in
theorem calX10_checkMany : zCal zmX10_checkMany := ⟨(zWS7 51 rfl rfl), iniX10, nmhX10⟩
theorem dscX10_checkMany : (parseMethodDescriptor zmX10_checkMany.1.desc).map (fun d => d.parameters.length) = some 1 := by decide +kernel
set_option maxRecDepth 20000 in
theorem virX10_checkMany : Cond.instanceMethod zmX10_checkMany.1 ∈ zWS ∧ Cond.selects zmX10_checkMany.1.cls zmX10_checkMany.1 zmX10_checkMany.1 ∈ zWS := ⟨(zWS7 50 rfl rfl), (zSL9 7 32 rfl)⟩
set_option maxRecDepth 20000 in
theorem calX10_isConstant : zCal zmX10_isConstant := ⟨(zWS6 239 rfl rfl), iniX10, nmhX10⟩
theorem dscX10_isConstant : (parseMethodDescriptor zmX10_isConstant.1.desc).map (fun d => d.parameters.length) = some 3 := by decide +kernel
set_option maxRecDepth 20000 in
theorem virX10_isConstant : Cond.instanceMethod zmX10_isConstant.1 ∈ zWS ∧ Cond.selects zmX10_isConstant.1.cls zmX10_isConstant.1 zmX10_isConstant.1 ∈ zWS := ⟨(zWS6 238 rfl rfl), (zSL9 1 32 rfl)⟩
set_option maxRecDepth 20000 in
theorem calX10_l : zCal zmX10_l := ⟨(zWS6 166 rfl rfl), iniX10, nmhX10⟩
theorem dscX10_l : (parseMethodDescriptor zmX10_l.1.desc).map (fun d => d.parameters.length) = some 0 := by decide +kernel
set_option maxRecDepth 20000 in
theorem virX10_l : Cond.instanceMethod zmX10_l.1 ∈ zWS ∧ Cond.selects zmX10_l.1.cls zmX10_l.1 zmX10_l.1 ∈ zWS := ⟨(zWS6 165 rfl rfl), (zSL8 5 32 rfl)⟩
set_option maxRecDepth 20000 in
theorem calX10_labelRow : zCal zmX10_labelRow := ⟨(zWS7 87 rfl rfl), iniX10, nmhX10⟩
theorem dscX10_labelRow : (parseMethodDescriptor zmX10_labelRow.1.desc).map (fun d => d.parameters.length) = some 0 := by decide +kernel
set_option maxRecDepth 20000 in
theorem virX10_labelRow : Cond.instanceMethod zmX10_labelRow.1 ∈ zWS ∧ Cond.selects zmX10_labelRow.1.cls zmX10_labelRow.1 zmX10_labelRow.1 ∈ zWS := ⟨(zWS7 86 rfl rfl), (zSL10 0 32 rfl)⟩
set_option maxRecDepth 20000 in
theorem calX10_limits : zCal zmX10_limits := ⟨(zWS6 141 rfl rfl), iniX10, nmhX10⟩
theorem dscX10_limits : (parseMethodDescriptor zmX10_limits.1.desc).map (fun d => d.parameters.length) = some 0 := by decide +kernel
set_option maxRecDepth 20000 in
theorem virX10_limits : Cond.instanceMethod zmX10_limits.1 ∈ zWS ∧ Cond.selects zmX10_limits.1.cls zmX10_limits.1 zmX10_limits.1 ∈ zWS := ⟨(zWS6 140 rfl rfl), (zSL7 15 32 rfl)⟩
set_option maxRecDepth 20000 in
theorem calX10_many : zCal zmX10_many := ⟨(zWS6 205 rfl rfl), iniX10, nmhX10⟩
theorem dscX10_many : (parseMethodDescriptor zmX10_many.1.desc).map (fun d => d.parameters.length) = some 1 := by decide +kernel
set_option maxRecDepth 20000 in
theorem virX10_many : Cond.instanceMethod zmX10_many.1 ∈ zWS ∧ Cond.selects zmX10_many.1.cls zmX10_many.1 zmX10_many.1 ∈ zWS := ⟨(zWS6 204 rfl rfl), (zSL8 12 32 rfl)⟩
set_option maxRecDepth 20000 in
theorem calX10_nameItem : zCal zmX10_nameItem := ⟨(zWS6 112 rfl rfl), iniX10, nmhX10⟩
theorem dscX10_nameItem : (parseMethodDescriptor zmX10_nameItem.1.desc).map (fun d => d.parameters.length) = some 1 := by decide +kernel
set_option maxRecDepth 20000 in
theorem virX10_nameItem : Cond.instanceMethod zmX10_nameItem.1 ∈ zWS ∧ Cond.selects zmX10_nameItem.1.cls zmX10_nameItem.1 zmX10_nameItem.1 ∈ zWS := ⟨(zWS6 111 rfl rfl), (zSL7 9 32 rfl)⟩
set_option maxRecDepth 20000 in
theorem calX10_readLocals : zCal zmX10_readLocals := ⟨(zWS7 40 rfl rfl), iniX10, nmhX10⟩
theorem dscX10_readLocals : (parseMethodDescriptor zmX10_readLocals.1.desc).map (fun d => d.parameters.length) = some 2 := by decide +kernel
set_option maxRecDepth 20000 in
theorem virX10_readLocals : Cond.instanceMethod zmX10_readLocals.1 ∈ zWS ∧ Cond.selects zmX10_readLocals.1.cls zmX10_readLocals.1 zmX10_readLocals.1 ∈ zWS := ⟨(zWS7 39 rfl rfl), (zSL9 5 32 rfl)⟩
set_option maxRecDepth 20000 in
theorem calX10_s : zCal zmX10_s := ⟨(zWS6 158 rfl rfl), iniX10, nmhX10⟩
theorem dscX10_s : (parseMethodDescriptor zmX10_s.1.desc).map (fun d => d.parameters.length) = some 0 := by decide +kernel
set_option maxRecDepth 20000 in
theorem virX10_s : Cond.instanceMethod zmX10_s.1 ∈ zWS ∧ Cond.selects zmX10_s.1.cls zmX10_s.1 zmX10_s.1 ∈ zWS := ⟨(zWS6 157 rfl rfl), (zSL8 3 32 rfl)⟩
set_option maxRecDepth 20000 in
theorem calX10_signature : zCal zmX10_signature := ⟨(zWS6 124 rfl rfl), iniX10, nmhX10⟩
theorem dscX10_signature : (parseMethodDescriptor zmX10_signature.1.desc).map (fun d => d.parameters.length) = some 1 := by decide +kernel
set_option maxRecDepth 20000 in
theorem virX10_signature : Cond.instanceMethod zmX10_signature.1 ∈ zWS ∧ Cond.selects zmX10_signature.1.cls zmX10_signature.1 zmX10_signature.1 ∈ zWS := ⟨(zWS6 123 rfl rfl), (zSL7 11 32 rfl)⟩
set_option maxRecDepth 20000 in
theorem calX10_checkOne : zCal zmX10_checkOne := ⟨(zWS7 71 rfl rfl), iniX10, nmhX10⟩
theorem dscX10_checkOne : (parseMethodDescriptor zmX10_checkOne.1.desc).map (fun d => d.parameters.length) = some 3 := by decide +kernel
set_option maxRecDepth 20000 in
theorem virX10_checkOne : Cond.instanceMethod zmX10_checkOne.1 ∈ zWS ∧ Cond.selects zmX10_checkOne.1.cls zmX10_checkOne.1 zmX10_checkOne.1 ∈ zWS := ⟨(zWS7 70 rfl rfl), (zSL9 12 32 rfl)⟩
set_option maxRecDepth 20000 in
theorem calX10_constant : zCal zmX10_constant := ⟨(zWS6 154 rfl rfl), iniX10, nmhX10⟩
theorem dscX10_constant : (parseMethodDescriptor zmX10_constant.1.desc).map (fun d => d.parameters.length) = some 0 := by decide +kernel
set_option maxRecDepth 20000 in
theorem virX10_constant : Cond.instanceMethod zmX10_constant.1 ∈ zWS ∧ Cond.selects zmX10_constant.1.cls zmX10_constant.1 zmX10_constant.1 ∈ zWS := ⟨(zWS6 153 rfl rfl), (zSL8 2 32 rfl)⟩
set_option maxRecDepth 20000 in
theorem calX10_exportLine : zCal zmX10_exportLine := ⟨(zWS6 170 rfl rfl), iniX10, nmhX10⟩
theorem dscX10_exportLine : (parseMethodDescriptor zmX10_exportLine.1.desc).map (fun d => d.parameters.length) = some 1 := by decide +kernel
set_option maxRecDepth 20000 in
theorem virX10_exportLine : Cond.instanceMethod zmX10_exportLine.1 ∈ zWS ∧ Cond.selects zmX10_exportLine.1.cls zmX10_exportLine.1 zmX10_exportLine.1 ∈ zWS := ⟨(zWS6 169 rfl rfl), (zSL8 6 32 rfl)⟩
set_option maxRecDepth 20000 in
theorem calX10_importLine : zCal zmX10_importLine := ⟨(zWS6 133 rfl rfl), iniX10, nmhX10⟩
theorem dscX10_importLine : (parseMethodDescriptor zmX10_importLine.1.desc).map (fun d => d.parameters.length) = some 1 := by decide +kernel
set_option maxRecDepth 20000 in
theorem virX10_importLine : Cond.instanceMethod zmX10_importLine.1 ∈ zWS ∧ Cond.selects zmX10_importLine.1.cls zmX10_importLine.1 zmX10_importLine.1 ∈ zWS := ⟨(zWS6 132 rfl rfl), (zSL7 13 32 rfl)⟩
set_option maxRecDepth 20000 in
theorem calX10_locals : zCal zmX10_locals := ⟨(zWS7 133 rfl rfl), iniX10, nmhX10⟩
theorem dscX10_locals : (parseMethodDescriptor zmX10_locals.1.desc).map (fun d => d.parameters.length) = some 1 := by decide +kernel
set_option maxRecDepth 20000 in
theorem virX10_locals : Cond.instanceMethod zmX10_locals.1 ∈ zWS ∧ Cond.selects zmX10_locals.1.cls zmX10_locals.1 zmX10_locals.1 ∈ zWS := ⟨(zWS7 131 rfl rfl), (zWS7 132 rfl rfl)⟩
set_option maxRecDepth 20000 in
theorem calX10_operands : zCal zmX10_operands := ⟨(zWS6 188 rfl rfl), iniX10, nmhX10⟩
theorem dscX10_operands : (parseMethodDescriptor zmX10_operands.1.desc).map (fun d => d.parameters.length) = some 2 := by decide +kernel
set_option maxRecDepth 20000 in
theorem virX10_operands : Cond.instanceMethod zmX10_operands.1 ∈ zWS ∧ Cond.selects zmX10_operands.1.cls zmX10_operands.1 zmX10_operands.1 ∈ zWS := ⟨(zWS6 187 rfl rfl), (zSL8 10 32 rfl)⟩
set_option maxRecDepth 20000 in
theorem calX10_ownLimits : zCal zmX10_ownLimits := ⟨(zWS6 146 rfl rfl), iniX10, nmhX10⟩
theorem dscX10_ownLimits : (parseMethodDescriptor zmX10_ownLimits.1.desc).map (fun d => d.parameters.length) = some 2 := by decide +kernel
set_option maxRecDepth 20000 in
theorem virX10_ownLimits : Cond.instanceMethod zmX10_ownLimits.1 ∈ zWS ∧ Cond.selects zmX10_ownLimits.1.cls zmX10_ownLimits.1 zmX10_ownLimits.1 ∈ zWS := ⟨(zWS6 145 rfl rfl), (zSL8 0 32 rfl)⟩
set_option maxRecDepth 20000 in
theorem calX10_checkBody : zCal zmX10_checkBody := ⟨(zWS7 36 rfl rfl), iniX10, nmhX10⟩
theorem dscX10_checkBody : (parseMethodDescriptor zmX10_checkBody.1.desc).map (fun d => d.parameters.length) = some 2 := by decide +kernel
set_option maxRecDepth 20000 in
theorem virX10_checkBody : Cond.instanceMethod zmX10_checkBody.1 ∈ zWS ∧ Cond.selects zmX10_checkBody.1.cls zmX10_checkBody.1 zmX10_checkBody.1 ∈ zWS := ⟨(zWS7 35 rfl rfl), (zSL9 4 32 rfl)⟩
set_option maxRecDepth 20000 in
theorem calX10_dataLine : zCal zmX10_dataLine := ⟨(zWS6 216 rfl rfl), iniX10, nmhX10⟩
theorem dscX10_dataLine : (parseMethodDescriptor zmX10_dataLine.1.desc).map (fun d => d.parameters.length) = some 1 := by decide +kernel
set_option maxRecDepth 20000 in
theorem virX10_dataLine : Cond.instanceMethod zmX10_dataLine.1 ∈ zWS ∧ Cond.selects zmX10_dataLine.1.cls zmX10_dataLine.1 zmX10_dataLine.1 ∈ zWS := ⟨(zWS6 215 rfl rfl), (zSL8 13 32 rfl)⟩
set_option maxRecDepth 20000 in
theorem calX10_elementLine : zCal zmX10_elementLine := ⟨(zWS6 174 rfl rfl), iniX10, nmhX10⟩
theorem dscX10_elementLine : (parseMethodDescriptor zmX10_elementLine.1.desc).map (fun d => d.parameters.length) = some 1 := by decide +kernel
set_option maxRecDepth 20000 in
theorem virX10_elementLine : Cond.instanceMethod zmX10_elementLine.1 ∈ zWS ∧ Cond.selects zmX10_elementLine.1.cls zmX10_elementLine.1 zmX10_elementLine.1 ∈ zWS := ⟨(zWS6 173 rfl rfl), (zSL8 7 32 rfl)⟩
set_option maxRecDepth 20000 in
theorem calX10_globalLine : zCal zmX10_globalLine := ⟨(zWS6 150 rfl rfl), iniX10, nmhX10⟩
theorem dscX10_globalLine : (parseMethodDescriptor zmX10_globalLine.1.desc).map (fun d => d.parameters.length) = some 1 := by decide +kernel
set_option maxRecDepth 20000 in
theorem virX10_globalLine : Cond.instanceMethod zmX10_globalLine.1 ∈ zWS ∧ Cond.selects zmX10_globalLine.1.cls zmX10_globalLine.1 zmX10_globalLine.1 ∈ zWS := ⟨(zWS6 149 rfl rfl), (zSL8 1 32 rfl)⟩
set_option maxRecDepth 20000 in
theorem calX10_readCode : zCal zmX10_readCode := ⟨(zWS6 184 rfl rfl), iniX10, nmhX10⟩
theorem dscX10_readCode : (parseMethodDescriptor zmX10_readCode.1.desc).map (fun d => d.parameters.length) = some 0 := by decide +kernel
set_option maxRecDepth 20000 in
theorem virX10_readCode : Cond.instanceMethod zmX10_readCode.1 ∈ zWS ∧ Cond.selects zmX10_readCode.1.cls zmX10_readCode.1 zmX10_readCode.1 ∈ zWS := ⟨(zWS6 183 rfl rfl), (zSL8 9 32 rfl)⟩
set_option maxRecDepth 20000 in
theorem calX10_walked : zCal zmX10_walked := ⟨(zWS7 125 rfl rfl), iniX10, nmhX10⟩
theorem dscX10_walked : (parseMethodDescriptor zmX10_walked.1.desc).map (fun d => d.parameters.length) = some 2 := by decide +kernel
set_option maxRecDepth 20000 in
theorem virX10_walked : Cond.instanceMethod zmX10_walked.1 ∈ zWS ∧ Cond.selects zmX10_walked.1.cls zmX10_walked.1 zmX10_walked.1 ∈ zWS := ⟨(zWS7 124 rfl rfl), (zSL10 5 32 rfl)⟩
set_option maxRecDepth 20000 in
theorem calX10_body : zCal zmX10_body := ⟨(zWS6 179 rfl rfl), iniX10, nmhX10⟩
theorem dscX10_body : (parseMethodDescriptor zmX10_body.1.desc).map (fun d => d.parameters.length) = some 1 := by decide +kernel
set_option maxRecDepth 20000 in
theorem virX10_body : Cond.instanceMethod zmX10_body.1 ∈ zWS ∧ Cond.selects zmX10_body.1.cls zmX10_body.1 zmX10_body.1 ∈ zWS := ⟨(zWS6 178 rfl rfl), (zSL8 8 32 rfl)⟩
set_option maxRecDepth 20000 in
theorem calX10_code : zCal zmX10_code := ⟨(zWS7 129 rfl rfl), iniX10, nmhX10⟩
theorem dscX10_code : (parseMethodDescriptor zmX10_code.1.desc).map (fun d => d.parameters.length) = some 2 := by decide +kernel
set_option maxRecDepth 20000 in
theorem virX10_code : Cond.instanceMethod zmX10_code.1 ∈ zWS ∧ Cond.selects zmX10_code.1.cls zmX10_code.1 zmX10_code.1 ∈ zWS := ⟨(zWS7 127 rfl rfl), (zWS7 128 rfl rfl)⟩
set_option maxRecDepth 20000 in
theorem calX10_instructions : zCal zmX10_instructions := ⟨(zWS7 117 rfl rfl), iniX10, nmhX10⟩
theorem dscX10_instructions : (parseMethodDescriptor zmX10_instructions.1.desc).map (fun d => d.parameters.length) = some 1 := by decide +kernel
set_option maxRecDepth 20000 in
theorem virX10_instructions : Cond.instanceMethod zmX10_instructions.1 ∈ zWS ∧ Cond.selects zmX10_instructions.1.cls zmX10_instructions.1 zmX10_instructions.1 ∈ zWS := ⟨(zWS7 115 rfl rfl), (zWS7 116 rfl rfl)⟩
set_option maxRecDepth 20000 in
theorem calX10_means : zCal zmX10_means := ⟨(zWS6 220 rfl rfl), iniX10, nmhX10⟩
theorem dscX10_means : (parseMethodDescriptor zmX10_means.1.desc).map (fun d => d.parameters.length) = some 1 := by decide +kernel
set_option maxRecDepth 20000 in
theorem virX10_means : Cond.instanceMethod zmX10_means.1 ∈ zWS ∧ Cond.selects zmX10_means.1.cls zmX10_means.1 zmX10_means.1 ∈ zWS := ⟨(zWS6 219 rfl rfl), (zSL8 14 32 rfl)⟩
set_option maxRecDepth 20000 in
theorem calX10_orderOf : zCal zmX10_orderOf := ⟨(zWS6 55 rfl rfl), iniX10, nmhX10⟩
theorem dscX10_orderOf : (parseMethodDescriptor zmX10_orderOf.1.desc).map (fun d => d.parameters.length) = some 1 := by decide +kernel
set_option maxRecDepth 20000 in
theorem virX10_orderOf : Cond.static yX10_orderOf ∈ zWS := (zWS6 54 rfl rfl)
set_option maxRecDepth 20000 in
theorem calX10_section : zCal zmX10_section := ⟨(zWS6 118 rfl rfl), iniX10, nmhX10⟩
theorem dscX10_section : (parseMethodDescriptor zmX10_section.1.desc).map (fun d => d.parameters.length) = some 2 := by decide +kernel
set_option maxRecDepth 20000 in
theorem virX10_section : Cond.instanceMethod zmX10_section.1 ∈ zWS ∧ Cond.selects zmX10_section.1.cls zmX10_section.1 zmX10_section.1 ∈ zWS := ⟨(zWS6 117 rfl rfl), (zSL7 10 32 rfl)⟩
set_option maxRecDepth 20000 in
theorem calX10_read : zCal zmX10_read := ⟨(zWS6 37 rfl rfl), iniX10, nmhX10⟩
theorem dscX10_read : (parseMethodDescriptor zmX10_read.1.desc).map (fun d => d.parameters.length) = some 1 := by decide +kernel
set_option maxRecDepth 20000 in
theorem virX10_read : Cond.instanceMethod zmX10_read.1 ∈ zWS ∧ Cond.selects zmX10_read.1.cls zmX10_read.1 zmX10_read.1 ∈ zWS := ⟨(zWS6 36 rfl rfl), (zSL7 4 32 rfl)⟩
set_option maxRecDepth 20000 in
theorem fX10_10 : zFld RX10 10 TX10 0 := Or.inl (zWS5 160 rfl rfl)
set_option maxRecDepth 20000 in
theorem fX10_16 : zFld RX10 16 TX10 1 := Or.inl (zWS5 161 rfl rfl)
set_option maxRecDepth 20000 in
theorem fX10_19 : zFld RX10 19 TX10 3 := Or.inl (zWS5 163 rfl rfl)
set_option maxRecDepth 20000 in
theorem fX10_23 : zFld RX10 23 TX10 4 := Or.inl (zWS5 164 rfl rfl)
set_option maxRecDepth 20000 in
theorem fX10_26 : zFld RX10 26 TX10 7 := Or.inl (zWS5 167 rfl rfl)
set_option maxRecDepth 20000 in
theorem fX10_33 : zFld RX10 33 TX10 9 := Or.inl (zWS5 169 rfl rfl)
set_option maxRecDepth 20000 in
theorem fX10_37 : zFld RX10 37 TX10 20 := Or.inl (zWS5 180 rfl rfl)
set_option maxRecDepth 20000 in
theorem fX10_41 : zFld RX10 41 TX10 21 := Or.inl (zWS5 181 rfl rfl)
set_option maxRecDepth 20000 in
theorem fX10_44 : zFld RX10 44 TX10 23 := Or.inl (zWS5 183 rfl rfl)
set_option maxRecDepth 20000 in
theorem fX10_47 : zFld RX10 47 TX10 24 := Or.inl (zWS5 184 rfl rfl)
set_option maxRecDepth 20000 in
theorem fX10_50 : zFld RX10 50 TX10 25 := Or.inl (zWS5 185 rfl rfl)
set_option maxRecDepth 20000 in
theorem fX10_53 : zFld RX10 53 TX10 26 := Or.inl (zWS5 186 rfl rfl)
set_option maxRecDepth 20000 in
theorem fX10_56 : zFld RX10 56 TX10 27 := Or.inl (zWS5 187 rfl rfl)
set_option maxRecDepth 20000 in
theorem fX10_60 : zFld RX10 60 TX10 29 := Or.inl (zWS5 189 rfl rfl)
set_option maxRecDepth 20000 in
theorem fX10_63 : zFld RX10 63 TX9 0 := Or.inl (zWS4 122 rfl rfl)
set_option maxRecDepth 20000 in
theorem fX10_66 : zFld RX10 66 TX10 5 := Or.inl (zWS5 165 rfl rfl)
set_option maxRecDepth 20000 in
theorem fX10_69 : zFld RX10 69 TX10 6 := Or.inl (zWS5 166 rfl rfl)
set_option maxRecDepth 20000 in
theorem fX10_77 : zFld RX10 77 TX9 1 := Or.inl (zWS4 123 rfl rfl)
set_option maxRecDepth 20000 in
theorem fX10_87 : zFld RX10 87 TX10 11 := Or.inl (zWS5 171 rfl rfl)
set_option maxRecDepth 20000 in
theorem fX10_90 : zFld RX10 90 TX10 10 := Or.inl (zWS5 170 rfl rfl)
set_option maxRecDepth 20000 in
theorem fX10_93 : zFld RX10 93 TX10 2 := Or.inl (zWS5 162 rfl rfl)
set_option maxRecDepth 20000 in
theorem fX10_97 : zFld RX10 97 TX9 2 := Or.inl (zWS4 124 rfl rfl)
set_option maxRecDepth 20000 in
theorem fX10_100 : zFld RX10 100 TX9 3 := Or.inl (zWS4 125 rfl rfl)
set_option maxRecDepth 20000 in
theorem fX10_103 : zFld RX10 103 TX9 4 := Or.inl (zWS4 126 rfl rfl)
set_option maxRecDepth 20000 in
theorem fX10_106 : zFld RX10 106 TX9 12 := Or.inl (zWS4 135 rfl rfl)
set_option maxRecDepth 20000 in
theorem fX10_109 : zFld RX10 109 TX9 13 := Or.inl (zWS4 137 rfl rfl)
set_option maxRecDepth 20000 in
theorem fX10_112 : zFld RX10 112 TX9 5 := Or.inl (zWS4 127 rfl rfl)
set_option maxRecDepth 20000 in
theorem fX10_115 : zFld RX10 115 TX9 6 := Or.inl (zWS4 128 rfl rfl)
set_option maxRecDepth 20000 in
theorem fX10_118 : zFld RX10 118 TX9 7 := Or.inl (zWS4 129 rfl rfl)
set_option maxRecDepth 20000 in
theorem fX10_121 : zFld RX10 121 TX9 8 := Or.inl (zWS4 130 rfl rfl)
set_option maxRecDepth 20000 in
theorem fX10_124 : zFld RX10 124 TX9 53 := Or.inl (zWS4 217 rfl rfl)
set_option maxRecDepth 20000 in
theorem fX10_127 : zFld RX10 127 TX10 12 := Or.inl (zWS5 172 rfl rfl)
set_option maxRecDepth 20000 in
theorem fX10_130 : zFld RX10 130 TX9 54 := Or.inl (zWS4 219 rfl rfl)
set_option maxRecDepth 20000 in
theorem fX10_133 : zFld RX10 133 TX10 13 := Or.inl (zWS5 173 rfl rfl)
set_option maxRecDepth 20000 in
theorem fX10_134 : zFld RX10 134 TX10 18 := Or.inl (zWS5 178 rfl rfl)
set_option maxRecDepth 20000 in
theorem fX10_137 : zFld RX10 137 TX10 8 := Or.inl (zWS5 168 rfl rfl)
set_option maxRecDepth 20000 in
theorem fX10_160 : zFld RX10 160 TX9 19 := Or.inl (zWS4 149 rfl rfl)
set_option maxRecDepth 20000 in
theorem fX10_163 : zFld RX10 163 TX9 31 := Or.inl (zWS4 173 rfl rfl)
set_option maxRecDepth 20000 in
theorem fX10_167 : zFld RX10 167 TX9 52 := Or.inl (zWS4 215 rfl rfl)
set_option maxRecDepth 20000 in
theorem fX10_173 : zFld RX10 173 TX10 30 := Or.inl (zWS5 190 rfl rfl)
set_option maxRecDepth 20000 in
theorem fX10_188 : zFld RX10 188 TX10 14 := Or.inl (zWS5 174 rfl rfl)
set_option maxRecDepth 20000 in
theorem fX10_191 : zFld RX10 191 TX10 15 := Or.inl (zWS5 175 rfl rfl)
set_option maxRecDepth 20000 in
theorem fX10_196 : zFld RX10 196 TX10 16 := Or.inl (zWS5 176 rfl rfl)
set_option maxRecDepth 20000 in
theorem fX10_200 : zFld RX10 200 TX10 17 := Or.inl (zWS5 177 rfl rfl)
set_option maxRecDepth 20000 in
theorem fX10_212 : zFld RX10 212 TX9 9 := Or.inl (zWS4 131 rfl rfl)
set_option maxRecDepth 20000 in
theorem fX10_215 : zFld RX10 215 TX9 10 := Or.inl (zWS4 132 rfl rfl)
set_option maxRecDepth 20000 in
theorem fX10_218 : zFld RX10 218 TX9 55 := Or.inl (zWS4 221 rfl rfl)
set_option maxRecDepth 20000 in
theorem fX10_221 : zFld RX10 221 TX10 19 := Or.inl (zWS5 179 rfl rfl)
set_option maxRecDepth 20000 in
theorem fX10_250 : zFld RX10 250 TX9 11 := Or.inl (zWS4 133 rfl rfl)
set_option maxRecDepth 20000 in
theorem fX10_267 : zFld RX10 267 TX9 32 := Or.inl (zWS4 175 rfl rfl)
set_option maxRecDepth 20000 in
theorem fX10_293 : zFld RX10 293 TX9 27 := Or.inl (zWS4 165 rfl rfl)
set_option maxRecDepth 20000 in
theorem fX10_296 : zFld RX10 296 TX9 20 := Or.inl (zWS4 151 rfl rfl)
set_option maxRecDepth 20000 in
theorem fX10_299 : zFld RX10 299 TX9 21 := Or.inl (zWS4 153 rfl rfl)
set_option maxRecDepth 20000 in
theorem fX10_302 : zFld RX10 302 TX9 22 := Or.inl (zWS4 155 rfl rfl)
set_option maxRecDepth 20000 in
theorem fX10_305 : zFld RX10 305 TX9 23 := Or.inl (zWS4 157 rfl rfl)
set_option maxRecDepth 20000 in
theorem fX10_308 : zFld RX10 308 TX9 24 := Or.inl (zWS4 159 rfl rfl)
set_option maxRecDepth 20000 in
theorem fX10_311 : zFld RX10 311 TX9 26 := Or.inl (zWS4 163 rfl rfl)
set_option maxRecDepth 20000 in
theorem fX10_314 : zFld RX10 314 TX9 25 := Or.inl (zWS4 161 rfl rfl)
set_option maxRecDepth 20000 in
theorem fX10_317 : zFld RX10 317 TX9 28 := Or.inl (zWS4 167 rfl rfl)
set_option maxRecDepth 20000 in
theorem fX10_327 : zFld RX10 327 TX9 29 := Or.inl (zWS4 169 rfl rfl)
set_option maxRecDepth 20000 in
theorem fX10_330 : zFld RX10 330 TX9 30 := Or.inl (zWS4 171 rfl rfl)
set_option maxRecDepth 20000 in
theorem fX10_333 : zFld RX10 333 TX9 56 := Or.inl (zWS4 223 rfl rfl)
set_option maxRecDepth 20000 in
theorem fX10_336 : zFld RX10 336 TX9 14 := Or.inl (zWS4 139 rfl rfl)
set_option maxRecDepth 20000 in
theorem fX10_338 : zFld RX10 338 TX9 15 := Or.inl (zWS4 141 rfl rfl)
set_option maxRecDepth 20000 in
theorem fX10_340 : zFld RX10 340 TX9 16 := Or.inl (zWS4 143 rfl rfl)
set_option maxRecDepth 20000 in
theorem fX10_343 : zFld RX10 343 TX9 18 := Or.inl (zWS4 147 rfl rfl)
set_option maxRecDepth 20000 in
theorem fX10_346 : zFld RX10 346 TX9 17 := Or.inl (zWS4 145 rfl rfl)
set_option maxRecDepth 20000 in
theorem fX10_349 : zFld RX10 349 TX9 33 := Or.inl (zWS4 177 rfl rfl)
set_option maxRecDepth 20000 in
theorem fX10_352 : zFld RX10 352 TX9 34 := Or.inl (zWS4 179 rfl rfl)
set_option maxRecDepth 20000 in
theorem fX10_355 : zFld RX10 355 TX9 35 := Or.inl (zWS4 181 rfl rfl)
set_option maxRecDepth 20000 in
theorem fX10_361 : zFld RX10 361 TX9 38 := Or.inl (zWS4 187 rfl rfl)
set_option maxRecDepth 20000 in
theorem fX10_364 : zFld RX10 364 TX9 36 := Or.inl (zWS4 183 rfl rfl)
set_option maxRecDepth 20000 in
theorem fX10_367 : zFld RX10 367 TX9 37 := Or.inl (zWS4 185 rfl rfl)
set_option maxRecDepth 20000 in
theorem fX10_370 : zFld RX10 370 TX9 39 := Or.inl (zWS4 189 rfl rfl)
set_option maxRecDepth 20000 in
theorem fX10_373 : zFld RX10 373 TX9 41 := Or.inl (zWS4 193 rfl rfl)
set_option maxRecDepth 20000 in
theorem fX10_376 : zFld RX10 376 TX9 40 := Or.inl (zWS4 191 rfl rfl)
set_option maxRecDepth 20000 in
theorem fX10_379 : zFld RX10 379 TX9 43 := Or.inl (zWS4 197 rfl rfl)
set_option maxRecDepth 20000 in
theorem fX10_382 : zFld RX10 382 TX9 42 := Or.inl (zWS4 195 rfl rfl)
set_option maxRecDepth 20000 in
theorem fX10_385 : zFld RX10 385 TX9 44 := Or.inl (zWS4 199 rfl rfl)
set_option maxRecDepth 20000 in
theorem fX10_390 : zFld RX10 390 TX9 45 := Or.inl (zWS4 201 rfl rfl)
set_option maxRecDepth 20000 in
theorem fX10_393 : zFld RX10 393 TX9 46 := Or.inl (zWS4 203 rfl rfl)
set_option maxRecDepth 20000 in
theorem fX10_396 : zFld RX10 396 TX9 48 := Or.inl (zWS4 207 rfl rfl)
set_option maxRecDepth 20000 in
theorem fX10_399 : zFld RX10 399 TX9 47 := Or.inl (zWS4 205 rfl rfl)
set_option maxRecDepth 20000 in
theorem fX10_402 : zFld RX10 402 TX9 49 := Or.inl (zWS4 209 rfl rfl)
set_option maxRecDepth 20000 in
theorem fX10_405 : zFld RX10 405 TX9 50 := Or.inl (zWS4 211 rfl rfl)
set_option maxRecDepth 20000 in
theorem fX10_408 : zFld RX10 408 TX9 51 := Or.inl (zWS4 213 rfl rfl)
set_option maxRecDepth 20000 in
theorem fX10_504 : zFld RX10 504 TX10 28 := Or.inl (zWS5 188 rfl rfl)
set_option maxRecDepth 20000 in
theorem fX10_507 : zFld RX10 507 TX10 22 := Or.inl (zWS5 182 rfl rfl)
set_option maxRecDepth 20000 in
theorem fX10_510 : zFld RX10 510 TX10 31 := Or.inl (zWS5 191 rfl rfl)
set_option maxRecDepth 20000 in
theorem fX9_137 : zFld RX9 137 TX9 55 := Or.inl (zWS4 220 rfl rfl)
set_option maxRecDepth 20000 in
theorem fX9_143 : zFld RX9 143 TX9 12 := Or.inl (zWS4 134 rfl rfl)
set_option maxRecDepth 20000 in
theorem fX9_147 : zFld RX9 147 TX9 13 := Or.inl (zWS4 136 rfl rfl)
set_option maxRecDepth 20000 in
theorem lminwM_1 : Cond.static Lib.MathLoose.min_long.x ∈ zWS := (zWS2 174 rfl rfl)
set_option maxRecDepth 20000 in
theorem lminwM_2 : Cond.initialized "java/lang/Math" ∈ zWS := (zWS1 16 rfl rfl)
set_option maxRecDepth 20000 in
theorem lminwM_3 : Cond.code Lib.MathLoose.min_long.x Lib.MathLoose.min_long.code 4 (some .long) ∈ zWS := (zWS2 175 rfl rfl)
set_option maxRecDepth 20000 in
theorem iminwM_1 : Cond.static Lib.Math.min.name ∈ zWS := (zWS4 74 rfl rfl)
set_option maxRecDepth 20000 in
theorem iminwM_2 : Cond.initialized "java/lang/Math" ∈ zWS := (zWS1 16 rfl rfl)
set_option maxRecDepth 20000 in
theorem iminwM_3 : Cond.code Lib.Math.min.name Lib.Math.min.code 2 (some .int) ∈ zWS := (zWS4 75 rfl rfl)
set_option maxRecDepth 20000 in
theorem imaxwM_1 : Cond.static Lib.Math.max.name ∈ zWS := (zWS4 47 rfl rfl)
set_option maxRecDepth 20000 in
theorem imaxwM_2 : Cond.initialized "java/lang/Math" ∈ zWS := (zWS1 16 rfl rfl)
set_option maxRecDepth 20000 in
theorem imaxwM_3 : Cond.code Lib.Math.max.name Lib.Math.max.code 2 (some .int) ∈ zWS := (zWS4 48 rfl rfl)
