/-! the JDK methods that orderOf reaches -/
/-- a static of which is only known that it is a reference or null -/
def o_getq (k n : Nat) : zOp := fun _ _ tr ls st σ => tr n ls (.ref k :: st) σ ∧ tr n ls (.null :: st) σ
theorem s_getq {Z : zZ} {M : zM} {pc : Nat} {C nm d : String} {k idx : Nat} (hz : ∀ (G : zG) (s : State), Z.2.2 G (zA Z G) s → va_Z C nm d .null (zA Z G) s s.heap ∨ va_Z C nm d (.ref (G.2.2 k)) (zA Z G) s s.heap) (hw : Cond.fieldLink M.1.cls idx C nm d ∈ zWS) (hd : decode M.2.1 pc = .ok (.getstatic idx, 3)) : zSnd Z M pc (o_getq k (pc + 3)) := by
  intro G p l e s m args below meth c F Q QX tr htr ls st σ H locs la hH hS hl hk
  rcases hz G s F.2.2.2.2.2.2.1.2.2.2 with h | h
  · exact va_gets F.1 F.2.1 h hS F.2.2.2.2.1 (F.2.2.2.2.2.1 _ (List.mem_cons_of_mem _ hw)) (fun _ h => h) hd (htr _ ls _ σ H locs la hH hS hl hk.2)
  · exact va_gets F.1 F.2.1 h hS F.2.2.2.2.1 (F.2.2.2.2.2.1 _ (List.mem_cons_of_mem _ hw)) (fun _ h => h) hd (htr _ ls _ σ H locs la hH hS hl hk.1)
def RJ0 : String := "java/lang/String"
def RJ1 : String := "java/lang/StringLatin1"
def RJ3 : String := "jdk/internal/util/Preconditions"
def yJ0_length_8abf5 : MethodName := ⟨RJ0, "length", "()I"⟩
def yJ0_coder_7d493 : MethodName := ⟨RJ0, "coder", "()B"⟩
def yJ0_isLatin1_aae02 : MethodName := ⟨RJ0, "isLatin1", "()Z"⟩
def yJ3_checkIndex_8e157 : MethodName := ⟨RJ3, "checkIndex", "(IILjava/util/function/BiFunction;)I"⟩
def yJ0_checkIndex_df160 : MethodName := ⟨RJ0, "checkIndex", "(II)V"⟩
def yJ1_charAt_3b067 : MethodName := ⟨RJ1, "charAt", "([BI)C"⟩
def yJ0_charAt_5068e : MethodName := ⟨RJ0, "charAt", "(I)C"⟩
abbrev cJ0_length_8abf5 : ByteArray := prog_17_method_54_code
abbrev cJ0_coder_7d493 : ByteArray := prog_17_method_152_code
abbrev cJ0_isLatin1_aae02 : ByteArray := prog_17_method_154_code
abbrev cJ3_checkIndex_8e157 : ByteArray := prog_22_method_11_code
abbrev cJ0_checkIndex_df160 : ByteArray := prog_17_method_155_code
abbrev cJ1_charAt_3b067 : ByteArray := prog_18_method_2_code
abbrev cJ0_charAt_5068e : ByteArray := prog_17_method_56_code
def zmJlen : zM := (yJ0_length_8abf5, cJ0_length_8abf5, 1, some .int, 2)
set_option maxRecDepth 20000 in
theorem calJlen : zCal zmJlen := ⟨(zWS6 60 rfl rfl), (zWS1 18 rfl rfl), by decide +kernel⟩
theorem dscJlen : (parseMethodDescriptor zmJlen.1.desc).map (fun d => d.parameters.length) = some 0 := by decide +kernel
set_option maxRecDepth 20000 in
theorem virJlen : Cond.instanceMethod zmJlen.1 ∈ zWS ∧ Cond.selects zmJlen.1.cls zmJlen.1 zmJlen.1 ∈ zWS := ⟨(zWS6 58 rfl rfl), (zWS6 59 rfl rfl)⟩
def zmJcoder : zM := (yJ0_coder_7d493, cJ0_coder_7d493, 1, some .byte, 1)
set_option maxRecDepth 20000 in
theorem calJcoder : zCal zmJcoder := ⟨(zWS6 64 rfl rfl), (zWS1 18 rfl rfl), by decide +kernel⟩
theorem dscJcoder : (parseMethodDescriptor zmJcoder.1.desc).map (fun d => d.parameters.length) = some 0 := by decide +kernel
set_option maxRecDepth 20000 in
theorem virJcoder : Cond.instanceMethod zmJcoder.1 ∈ zWS ∧ Cond.selects zmJcoder.1.cls zmJcoder.1 zmJcoder.1 ∈ zWS := ⟨(zWS6 62 rfl rfl), (zWS6 63 rfl rfl)⟩
def zmJlat : zM := (yJ0_isLatin1_aae02, cJ0_isLatin1_aae02, 1, some .boolean, 1)
set_option maxRecDepth 20000 in
theorem calJlat : zCal zmJlat := ⟨(zWS6 74 rfl rfl), (zWS1 18 rfl rfl), by decide +kernel⟩
theorem dscJlat : (parseMethodDescriptor zmJlat.1.desc).map (fun d => d.parameters.length) = some 0 := by decide +kernel
set_option maxRecDepth 20000 in
theorem virJlat : Cond.instanceMethod zmJlat.1 ∈ zWS ∧ Cond.selects zmJlat.1.cls zmJlat.1 zmJlat.1 ∈ zWS := ⟨(zWS6 72 rfl rfl), (zWS6 73 rfl rfl)⟩
def zmJpre : zM := (yJ3_checkIndex_8e157, cJ3_checkIndex_8e157, 3, some .int, 1)
set_option maxRecDepth 20000 in
theorem calJpre : zCal zmJpre := ⟨(zWS6 85 rfl rfl), (zWS1 20 rfl rfl), by decide +kernel⟩
theorem dscJpre : (parseMethodDescriptor zmJpre.1.desc).map (fun d => d.parameters.length) = some 3 := by decide +kernel
set_option maxRecDepth 20000 in
theorem virJpre : Cond.static zmJpre.1 ∈ zWS := (zWS6 84 rfl rfl)
def zmJci : zM := (yJ0_checkIndex_df160, cJ0_checkIndex_df160, 2, none, 2)
set_option maxRecDepth 20000 in
theorem calJci : zCal zmJci := ⟨(zWS6 80 rfl rfl), (zWS1 18 rfl rfl), by decide +kernel⟩
theorem dscJci : (parseMethodDescriptor zmJci.1.desc).map (fun d => d.parameters.length) = some 2 := by decide +kernel
set_option maxRecDepth 20000 in
theorem virJci : Cond.static zmJci.1 ∈ zWS := (zWS6 79 rfl rfl)
def zmJlc : zM := (yJ1_charAt_3b067, cJ1_charAt_3b067, 2, some .char, 3)
set_option maxRecDepth 20000 in
theorem calJlc : zCal zmJlc := ⟨(zWS6 77 rfl rfl), (zWS1 19 rfl rfl), by decide +kernel⟩
theorem dscJlc : (parseMethodDescriptor zmJlc.1.desc).map (fun d => d.parameters.length) = some 2 := by decide +kernel
set_option maxRecDepth 20000 in
theorem virJlc : Cond.static zmJlc.1 ∈ zWS := (zWS6 76 rfl rfl)
def zmJch : zM := (yJ0_charAt_5068e, cJ0_charAt_5068e, 2, some .char, 4)
set_option maxRecDepth 20000 in
theorem calJch : zCal zmJch := ⟨(zWS6 70 rfl rfl), (zWS1 18 rfl rfl), by decide +kernel⟩
theorem dscJch : (parseMethodDescriptor zmJch.1.desc).map (fun d => d.parameters.length) = some 1 := by decide +kernel
set_option maxRecDepth 20000 in
theorem virJch : Cond.instanceMethod zmJch.1 ∈ zWS ∧ Cond.selects zmJch.1.cls zmJch.1 zmJch.1 ∈ zWS := ⟨(zWS6 68 rfl rfl), (zWS6 69 rfl rfl)⟩
set_option maxRecDepth 20000 in
theorem iJcoder_0 : zSnd zZM zmJcoder 0 (o_ic 1 3) := s_getsI (fun G s h => h.2.2.2.2.2.1) (zWS6 65 rfl rfl) (by decide +kernel)
theorem iJcoder_3 : zSnd zZM zmJcoder 3 (o_if0 (fun x => x = 0) 13 6) := s_if_eq (off := 10) (by decide +kernel) (by decide +kernel)
theorem iJcoder_6 : zSnd zZM zmJcoder 6 (o_aload 0 7) := s_aload_n (k := 0) (by decide +kernel) rfl
set_option maxRecDepth 20000 in
theorem iJcoder_7 : zSnd zZM zmJcoder 7 (o_getX 100 (.int 0) 10) := s_getX (o := "java/lang/String") (nm := "coder") (d := "B") (v := .int 0) (fun G s h => h.2.2.1) (zWS7 136 rfl rfl) (by decide +kernel)
theorem iJcoder_10 : zSnd zZM zmJcoder 10 (o_goto 14) := s_goto (off := 4) (by decide +kernel) (by decide +kernel)
theorem iJcoder_14 : zSnd zZM zmJcoder 14 (o_tret .byte) := s_tret rfl (by decide +kernel) (Or.inl rfl)
def kJcoder : List (Nat × zOp) := [(0, o_ic 1 3),
  (3, o_if0 (fun x => x = 0) 13 6),
  (6, o_aload 0 7),
  (7, o_getX 100 (.int 0) 10),
  (10, o_goto 14),
  (14, o_tret .byte)]
set_option maxRecDepth 100000 in
theorem ksJcoder : ∀ q ∈ kJcoder, zSnd zZM zmJcoder q.1 q.2 := zcc iJcoder_0 (zcc iJcoder_3 (zcc iJcoder_6 (zcc iJcoder_7 (zcc iJcoder_10 (zcc iJcoder_14 zcn)))))
theorem iJlen_0 : zSnd zZM zmJlen 0 (o_aload 0 1) := s_aload_n (k := 0) (by decide +kernel) rfl
set_option maxRecDepth 20000 in
theorem iJlen_1 : zSnd zZM zmJlen 1 (o_getX 100 (.ref 101) 4) := s_getX (o := "java/lang/String") (nm := "value") (d := "[B") (v := .ref 101) (fun G s h => h.2.2.2.1) (zWS7 135 rfl rfl) (by decide +kernel)
theorem iJlen_4 : zSnd zZM zmJlen 4 (o_tlen 12 101 5) := s_tlenT (fun G s h => h.2.2.2.2.1) (by decide +kernel)
theorem iJlen_5 : zSnd zZM zmJlen 5 (o_aload 0 6) := s_aload_n (k := 0) (by decide +kernel) rfl
set_option maxRecDepth 20000 in
theorem iJlen_6 : zSnd zZM zmJlen 6 (o_callX zZM 100 zmJcoder 0 1 9) := s_callX (idx := 335) (fun G s h => h.2.1) calJcoder virJcoder dscJcoder (by decide +kernel) (zWS6 61 rfl rfl) (by decide +kernel)
theorem iJlen_9 : zSnd zZM zmJlen 9 (o_ibin (fun x y => x >>> (y &&& 31)) 10) := s_ishr (by decide +kernel)
theorem iJlen_10 : zSnd zZM zmJlen 10 (o_iret) := s_iret rfl (by decide +kernel)
def kJlen : List (Nat × zOp) := [(0, o_aload 0 1),
  (1, o_getX 100 (.ref 101) 4),
  (4, o_tlen 12 101 5),
  (5, o_aload 0 6),
  (6, o_callX zZM 100 zmJcoder 0 1 9),
  (9, o_ibin (fun x y => x >>> (y &&& 31)) 10),
  (10, o_iret)]
set_option maxRecDepth 100000 in
theorem ksJlen : ∀ q ∈ kJlen, zSnd zZM zmJlen q.1 q.2 := zcc iJlen_0 (zcc iJlen_1 (zcc iJlen_4 (zcc iJlen_5 (zcc iJlen_6 (zcc iJlen_9 (zcc iJlen_10 zcn))))))
set_option maxRecDepth 20000 in
theorem iJlat_0 : zSnd zZM zmJlat 0 (o_ic 1 3) := s_getsI (fun G s h => h.2.2.2.2.2.1) (zWS6 65 rfl rfl) (by decide +kernel)
theorem iJlat_3 : zSnd zZM zmJlat 3 (o_if0 (fun x => x = 0) 17 6) := s_if_eq (off := 14) (by decide +kernel) (by decide +kernel)
theorem iJlat_6 : zSnd zZM zmJlat 6 (o_aload 0 7) := s_aload_n (k := 0) (by decide +kernel) rfl
set_option maxRecDepth 20000 in
theorem iJlat_7 : zSnd zZM zmJlat 7 (o_getX 100 (.int 0) 10) := s_getX (o := "java/lang/String") (nm := "coder") (d := "B") (v := .int 0) (fun G s h => h.2.2.1) (zWS7 136 rfl rfl) (by decide +kernel)
theorem iJlat_10 : zSnd zZM zmJlat 10 (o_if0 (fun x => x = 0) 13 17) := s_if_ne (off := 7) (by decide +kernel) (by decide +kernel)
theorem iJlat_13 : zSnd zZM zmJlat 13 (o_ic 1 14) := s_iconst (i := 1) (by decide +kernel) (by decide +kernel)
theorem iJlat_14 : zSnd zZM zmJlat 14 (o_goto 18) := s_goto (off := 4) (by decide +kernel) (by decide +kernel)
theorem iJlat_18 : zSnd zZM zmJlat 18 (o_zret) := s_zret rfl (by decide +kernel)
def kJlat : List (Nat × zOp) := [(0, o_ic 1 3),
  (3, o_if0 (fun x => x = 0) 17 6),
  (6, o_aload 0 7),
  (7, o_getX 100 (.int 0) 10),
  (10, o_if0 (fun x => x = 0) 13 17),
  (13, o_ic 1 14),
  (14, o_goto 18),
  (18, o_zret)]
set_option maxRecDepth 100000 in
theorem ksJlat : ∀ q ∈ kJlat, zSnd zZM zmJlat q.1 q.2 := zcc iJlat_0 (zcc iJlat_3 (zcc iJlat_6 (zcc iJlat_7 (zcc iJlat_10 (zcc iJlat_13 (zcc iJlat_14 (zcc iJlat_18 zcn)))))))
theorem iJpre_0 : zSnd zZM zmJpre 0 (o_iload 0 1) := s_iload_n (k := 0) (by decide +kernel) rfl
theorem iJpre_1 : zSnd zZM zmJpre 1 (o_if0 (fun x => x < 0) 9 4) := s_if_lt (off := 8) (by decide +kernel) (by decide +kernel)
theorem iJpre_4 : zSnd zZM zmJpre 4 (o_iload 0 5) := s_iload_n (k := 0) (by decide +kernel) rfl
theorem iJpre_5 : zSnd zZM zmJpre 5 (o_iload 1 6) := s_iload_n (k := 1) (by decide +kernel) rfl
theorem iJpre_6 : zSnd zZM zmJpre 6 (o_icmp (fun x y => x < y) 16 9) := s_icmp_lt (off := 10) (by decide +kernel) (by decide +kernel)
theorem iJpre_16 : zSnd zZM zmJpre 16 (o_iload 0 17) := s_iload_n (k := 0) (by decide +kernel) rfl
theorem iJpre_17 : zSnd zZM zmJpre 17 (o_iret) := s_iret rfl (by decide +kernel)
def kJpre : List (Nat × zOp) := [(0, o_iload 0 1),
  (1, o_if0 (fun x => x < 0) 9 4),
  (4, o_iload 0 5),
  (5, o_iload 1 6),
  (6, o_icmp (fun x y => x < y) 16 9),
  (16, o_iload 0 17),
  (17, o_iret)]
set_option maxRecDepth 100000 in
theorem ksJpre : ∀ q ∈ kJpre, zSnd zZM zmJpre q.1 q.2 := zcc iJpre_0 (zcc iJpre_1 (zcc iJpre_4 (zcc iJpre_5 (zcc iJpre_6 (zcc iJpre_16 (zcc iJpre_17 zcn))))))
theorem iJci_0 : zSnd zZM zmJci 0 (o_iload 0 1) := s_iload_n (k := 0) (by decide +kernel) rfl
theorem iJci_1 : zSnd zZM zmJci 1 (o_iload 1 2) := s_iload_n (k := 1) (by decide +kernel) rfl
set_option maxRecDepth 20000 in
theorem iJci_2 : zSnd zZM zmJci 2 (o_getq 102 5) := s_getq (fun G s h => h.2.2.2.2.2.2) (zWS6 81 rfl rfl) (by decide +kernel)
set_option maxRecDepth 20000 in
theorem iJci_5 : zSnd zZM zmJci 5 (o_callS zZM zmJpre 3 1 8) := s_callS (idx := 1059) calJpre virJpre dscJpre (by decide +kernel) (zWS6 83 rfl rfl) (by decide +kernel)
theorem iJci_8 : zSnd zZM zmJci 8 (o_pop 9) := s_pop (by decide +kernel)
theorem iJci_9 : zSnd zZM zmJci 9 (o_vret) := s_vret rfl (by decide +kernel)
def kJci : List (Nat × zOp) := [(0, o_iload 0 1),
  (1, o_iload 1 2),
  (2, o_getq 102 5),
  (5, o_callS zZM zmJpre 3 1 8),
  (8, o_pop 9),
  (9, o_vret)]
set_option maxRecDepth 100000 in
theorem ksJci : ∀ q ∈ kJci, zSnd zZM zmJci q.1 q.2 := zcc iJci_0 (zcc iJci_1 (zcc iJci_2 (zcc iJci_5 (zcc iJci_8 (zcc iJci_9 zcn)))))
theorem iJlc_0 : zSnd zZM zmJlc 0 (o_iload 1 1) := s_iload_n (k := 1) (by decide +kernel) rfl
theorem iJlc_1 : zSnd zZM zmJlc 1 (o_aload 0 2) := s_aload_n (k := 0) (by decide +kernel) rfl
theorem iJlc_2 : zSnd zZM zmJlc 2 (o_tlen 12 101 3) := s_tlenT (fun G s h => h.2.2.2.2.1) (by decide +kernel)
set_option maxRecDepth 20000 in
theorem iJlc_3 : zSnd zZM zmJlc 3 (o_callS zZM zmJci 2 0 6) := s_callS (idx := 9) calJci virJci dscJci (by decide +kernel) (zWS6 78 rfl rfl) (by decide +kernel)
theorem iJlc_6 : zSnd zZM zmJlc 6 (o_aload 0 7) := s_aload_n (k := 0) (by decide +kernel) rfl
theorem iJlc_7 : zSnd zZM zmJlc 7 (o_iload 1 8) := s_iload_n (k := 1) (by decide +kernel) rfl
theorem iJlc_8 : zSnd zZM zmJlc 8 (o_tald ordB 12 101 9) := s_taldB (fun G s h => h.2.2.2.2.1) (by decide +kernel)
theorem iJlc_9 : zSnd zZM zmJlc 9 (o_ic 255 12) := s_sipush (i := 255) (by decide +kernel) (by decide +kernel)
theorem iJlc_12 : zSnd zZM zmJlc 12 (o_ibin (fun x y => x &&& y) 13) := s_iand (by decide +kernel)
theorem iJlc_13 : zSnd zZM zmJlc 13 (o_iun (fun x => (x.toUInt32 % 65536).toInt32) 14) := s_i2c (by decide +kernel)
theorem iJlc_14 : zSnd zZM zmJlc 14 (o_tret .char) := s_tret rfl (by decide +kernel) (Or.inr rfl)
def kJlc : List (Nat × zOp) := [(0, o_iload 1 1),
  (1, o_aload 0 2),
  (2, o_tlen 12 101 3),
  (3, o_callS zZM zmJci 2 0 6),
  (6, o_aload 0 7),
  (7, o_iload 1 8),
  (8, o_tald ordB 12 101 9),
  (9, o_ic 255 12),
  (12, o_ibin (fun x y => x &&& y) 13),
  (13, o_iun (fun x => (x.toUInt32 % 65536).toInt32) 14),
  (14, o_tret .char)]
set_option maxRecDepth 100000 in
theorem ksJlc : ∀ q ∈ kJlc, zSnd zZM zmJlc q.1 q.2 := zcc iJlc_0 (zcc iJlc_1 (zcc iJlc_2 (zcc iJlc_3 (zcc iJlc_6 (zcc iJlc_7 (zcc iJlc_8 (zcc iJlc_9 (zcc iJlc_12 (zcc iJlc_13 (zcc iJlc_14 zcn))))))))))
theorem iJch_0 : zSnd zZM zmJch 0 (o_aload 0 1) := s_aload_n (k := 0) (by decide +kernel) rfl
set_option maxRecDepth 20000 in
theorem iJch_1 : zSnd zZM zmJch 1 (o_callX zZM 100 zmJlat 0 1 4) := s_callX (idx := 492) (fun G s h => h.2.1) calJlat virJlat dscJlat (by decide +kernel) (zWS6 71 rfl rfl) (by decide +kernel)
theorem iJch_4 : zSnd zZM zmJch 4 (o_if0 (fun x => x = 0) 16 7) := s_if_eq (off := 12) (by decide +kernel) (by decide +kernel)
theorem iJch_7 : zSnd zZM zmJch 7 (o_aload 0 8) := s_aload_n (k := 0) (by decide +kernel) rfl
set_option maxRecDepth 20000 in
theorem iJch_8 : zSnd zZM zmJch 8 (o_getX 100 (.ref 101) 11) := s_getX (o := "java/lang/String") (nm := "value") (d := "[B") (v := .ref 101) (fun G s h => h.2.2.2.1) (zWS7 135 rfl rfl) (by decide +kernel)
theorem iJch_11 : zSnd zZM zmJch 11 (o_iload 1 12) := s_iload_n (k := 1) (by decide +kernel) rfl
set_option maxRecDepth 20000 in
theorem iJch_12 : zSnd zZM zmJch 12 (o_callS zZM zmJlc 2 1 15) := s_callS (idx := 495) calJlc virJlc dscJlc (by decide +kernel) (zWS6 75 rfl rfl) (by decide +kernel)
theorem iJch_15 : zSnd zZM zmJch 15 (o_tret .char) := s_tret rfl (by decide +kernel) (Or.inr rfl)
def kJch : List (Nat × zOp) := [(0, o_aload 0 1),
  (1, o_callX zZM 100 zmJlat 0 1 4),
  (4, o_if0 (fun x => x = 0) 16 7),
  (7, o_aload 0 8),
  (8, o_getX 100 (.ref 101) 11),
  (11, o_iload 1 12),
  (12, o_callS zZM zmJlc 2 1 15),
  (15, o_tret .char)]
set_option maxRecDepth 100000 in
theorem ksJch : ∀ q ∈ kJch, zSnd zZM zmJch q.1 q.2 := zcc iJch_0 (zcc iJch_1 (zcc iJch_4 (zcc iJch_7 (zcc iJch_8 (zcc iJch_11 (zcc iJch_12 (zcc iJch_15 zcn)))))))
theorem iX10_orderOf_0 : zSnd zZM zmX10_orderOf 0 (o_ic 0 1) := s_iconst (i := 0) (by decide +kernel) (by decide +kernel)
theorem iX10_orderOf_1 : zSnd zZM zmX10_orderOf 1 (o_istore 1 2) := s_istore_n (k := 1) (by decide +kernel) rfl (by decide +kernel)
theorem iX10_orderOf_2 : zSnd zZM zmX10_orderOf 2 (o_iload 1 3) := s_iload_n (k := 1) (by decide +kernel) rfl
theorem iX10_orderOf_3 : zSnd zZM zmX10_orderOf 3 (o_gets 100 5) := s_ldS (fun G s h => h.1) (by decide +kernel)
set_option maxRecDepth 20000 in
theorem iX10_orderOf_5 : zSnd zZM zmX10_orderOf 5 (o_callX zZM 100 zmJlen 0 1 8) := s_callX (idx := 241) (fun G s h => h.2.1) calJlen virJlen dscJlen (by decide +kernel) (zWS6 57 rfl rfl) (by decide +kernel)
theorem iX10_orderOf_8 : zSnd zZM zmX10_orderOf 8 (o_icmp (fun x y => y ≤ x) 29 11) := s_icmp_ge (off := 21) (by decide +kernel) (by decide +kernel)
theorem iX10_orderOf_11 : zSnd zZM zmX10_orderOf 11 (o_gets 100 13) := s_ldS (fun G s h => h.1) (by decide +kernel)
theorem iX10_orderOf_13 : zSnd zZM zmX10_orderOf 13 (o_iload 1 14) := s_iload_n (k := 1) (by decide +kernel) rfl
set_option maxRecDepth 20000 in
theorem iX10_orderOf_14 : zSnd zZM zmX10_orderOf 14 (o_callX zZM 100 zmJch 1 1 17) := s_callX (idx := 246) (fun G s h => h.2.1) calJch virJch dscJch (by decide +kernel) (zWS6 67 rfl rfl) (by decide +kernel)
theorem iX10_orderOf_17 : zSnd zZM zmX10_orderOf 17 (o_iload 0 18) := s_iload_n (k := 0) (by decide +kernel) rfl
theorem iX10_orderOf_18 : zSnd zZM zmX10_orderOf 18 (o_icmp (fun x y => x = y) 21 23) := s_icmp_ne (off := 5) (by decide +kernel) (by decide +kernel)
theorem iX10_orderOf_21 : zSnd zZM zmX10_orderOf 21 (o_iload 1 22) := s_iload_n (k := 1) (by decide +kernel) rfl
theorem iX10_orderOf_22 : zSnd zZM zmX10_orderOf 22 (o_iret) := s_iret rfl (by decide +kernel)
theorem iX10_orderOf_23 : zSnd zZM zmX10_orderOf 23 (o_iinc 1 1 26) := s_iinc (a := 1) (by decide +kernel) (by decide +kernel) (by decide +kernel)
theorem iX10_orderOf_26 : zSnd zZM zmX10_orderOf 26 (o_goto 2) := s_goto (off := (-24)) (by decide +kernel) (by decide +kernel)
theorem iX10_orderOf_29 : zSnd zZM zmX10_orderOf 29 (o_ic (-1) 30) := s_iconst (i := (-1)) (by decide +kernel) (by decide +kernel)
theorem iX10_orderOf_30 : zSnd zZM zmX10_orderOf 30 (o_iret) := s_iret rfl (by decide +kernel)
def kX10_orderOf : List (Nat × zOp) := [(0, o_ic 0 1),
  (1, o_istore 1 2),
  (2, o_iload 1 3),
  (3, o_gets 100 5),
  (5, o_callX zZM 100 zmJlen 0 1 8),
  (8, o_icmp (fun x y => y ≤ x) 29 11),
  (11, o_gets 100 13),
  (13, o_iload 1 14),
  (14, o_callX zZM 100 zmJch 1 1 17),
  (17, o_iload 0 18),
  (18, o_icmp (fun x y => x = y) 21 23),
  (21, o_iload 1 22),
  (22, o_iret),
  (23, o_iinc 1 1 26),
  (26, o_goto 2),
  (29, o_ic (-1) 30),
  (30, o_iret)]
set_option maxRecDepth 100000 in
theorem ksX10_orderOf : ∀ q ∈ kX10_orderOf, zSnd zZM zmX10_orderOf q.1 q.2 := zcc iX10_orderOf_0 (zcc iX10_orderOf_1 (zcc iX10_orderOf_2 (zcc iX10_orderOf_3 (zcc iX10_orderOf_5 (zcc iX10_orderOf_8 (zcc iX10_orderOf_11 (zcc iX10_orderOf_13 (zcc iX10_orderOf_14 (zcc iX10_orderOf_17 (zcc iX10_orderOf_18 (zcc iX10_orderOf_21 (zcc iX10_orderOf_22 (zcc iX10_orderOf_23 (zcc iX10_orderOf_26 (zcc iX10_orderOf_29 (zcc iX10_orderOf_30 zcn))))))))))))))))
theorem pnJS : plainName "java/lang/String" = true := by decide +kernel
theorem pnJL : plainName "java/lang/StringLatin1" = true := by decide +kernel
theorem pnJP : plainName "jdk/internal/util/Preconditions" = true := by decide +kernel
def J0f (_ : Nat) : Bool := false
def J0h (_ : Nat) : List Nat := []
/-- a method without loops and joins -/
theorem zCT_ln {M : zM} {As : List Value} {σ : zS} {Q : Option Value → zS → Prop} {QX : zS → Prop} (hpn : plainName M.1.cls = true) (hn : (lg_sl As).length ≤ M.2.2.1) (code : List (Nat × zOp)) (hc : ∀ q ∈ code, zSnd zZM M q.1 q.2) (h : zwp J0f (fun _ _ _ _ => False) Q QX code 0 (lv_args 0 As) [] σ) : zCT zZM M As σ Q QX := by
  refine zCT_of zZM_ok hpn hn code hc J0f 0 (fun t ht => by cases ht) J0h J0f (fun _ _ _ _ => False) (fun _ _ _ _ => False) (fun n t ln σ' ht => by cases ht) (fun m t ln σ' ht => by cases ht) ?_
  have hm : ∀ (B B' : Nat → zKK) (code : List (Nat × zOp)), zwp J0f B Q QX code = zwp J0f B' Q QX code := by
    intro B B' code
    induction code with
    | nil => rfl
    | cons q r ih =>
      funext go
      show (bif Nat.blt q.1 go then zwp J0f B Q QX r go else bif Nat.beq q.1 go then q.2 Q QX (fun t => zwp J0f B Q QX r t) else fun _ _ _ => False) = (bif Nat.blt q.1 go then zwp J0f B' Q QX r go else bif Nat.beq q.1 go then q.2 Q QX (fun t => zwp J0f B' Q QX r t) else fun _ _ _ => False)
      rw [ih]
  rw [hm _ (fun _ _ _ _ => False)]
  exact h
theorem sp_Jcoder {σ : zS} {K : Int32 → zS → Prop} {QX : zS → Prop} (h : K 0 σ) : zCT zZM zmJcoder [.ref 100] σ (zQi K) QX :=
  zCT_ln pnJS (by decide) kJcoder ksJcoder (show ((1 : Int32) = 0 → False) ∧ (¬ (1 : Int32) = 0 → narrow .byte (.int 0) = .int 0 ∧ K 0 σ) from ⟨fun q => absurd q (by decide), fun _ => ⟨rfl, h⟩⟩)
theorem sp_Jlen {σ : zS} {K : Int32 → zS → Prop} {QX : zS → Prop} (h : K 12 σ) : zCT zZM zmJlen [.ref 100] σ (zQi K) QX :=
  zCT_ln pnJS (by decide) kJlen ksJlen (show zCT zZM zmJcoder [.ref 100] σ (zQi (fun r s => K (nI 12 >>> (r &&& 31)) s)) QX from sp_Jcoder h)
theorem sp_Jlat {σ : zS} {K : Int32 → zS → Prop} {QX : zS → Prop} (h : K 1 σ) : zCT zZM zmJlat [.ref 100] σ (zQi K) QX :=
  zCT_ln pnJS (by decide) kJlat ksJlat (show ((1 : Int32) = 0 → False) ∧ (¬ (1 : Int32) = 0 → ((0 : Int32) = 0 → ((1 : Int32) = 0 ∨ (1 : Int32) = 1) ∧ K 1 σ) ∧ (¬ (0 : Int32) = 0 → False)) from ⟨fun q => absurd q (by decide), fun _ => ⟨fun _ => ⟨Or.inr rfl, h⟩, fun q => absurd rfl q⟩⟩)
theorem sp_Jpre {σ : zS} {i n : Int32} {a : Nat} {K : Int32 → zS → Prop} {QX : zS → Prop} (h0 : ¬ i < 0) (h1 : i < n) (h : K i σ) : zCT zZM zmJpre [.int i, .int n, .ref a] σ (zQi K) QX :=
  zCT_ln pnJP (Nat.le_of_ble_eq_true rfl) kJpre ksJpre (show (i < 0 → False) ∧ (¬ i < 0 → (i < n → K i σ) ∧ (¬ i < n → False)) from ⟨fun q => absurd q h0, fun _ => ⟨fun _ => h, fun q => absurd h1 q⟩⟩)
theorem sp_JpreN {σ : zS} {i n : Int32} {K : Int32 → zS → Prop} {QX : zS → Prop} (h0 : ¬ i < 0) (h1 : i < n) (h : K i σ) : zCT zZM zmJpre [.int i, .int n, .null] σ (zQi K) QX :=
  zCT_ln pnJP (Nat.le_of_ble_eq_true rfl) kJpre ksJpre (show (i < 0 → False) ∧ (¬ i < 0 → (i < n → K i σ) ∧ (¬ i < n → False)) from ⟨fun q => absurd q h0, fun _ => ⟨fun _ => h, fun q => absurd h1 q⟩⟩)
theorem sp_Jci {σ : zS} {i n : Int32} {K : zS → Prop} {QX : zS → Prop} (h0 : ¬ i < 0) (h1 : i < n) (h : K σ) : zCT zZM zmJci [.int i, .int n] σ (zQv K) QX :=
  zCT_ln pnJS (Nat.le_of_ble_eq_true rfl) kJci ksJci (show zCT zZM zmJpre [.int i, .int n, .ref 102] σ (zQi (fun _ s => K s)) QX ∧ zCT zZM zmJpre [.int i, .int n, .null] σ (zQi (fun _ s => K s)) QX from ⟨sp_Jpre h0 h1 h, sp_JpreN h0 h1 h⟩)
theorem sp_Jlc {σ : zS} {k : Nat} {K : Int32 → zS → Prop} {QX : zS → Prop} (hk : k < 12) (h : K (nI (ordL.getD k 0)) σ) : zCT zZM zmJlc [.ref 101, .int (nI k)] σ (zQi K) QX := by
  refine zCT_ln pnJL (Nat.le_of_ble_eq_true rfl) kJlc ksJlc (show zCT zZM zmJci [.int (nI k), .int (nI 12)] σ (zQv (fun s => vp_in (nI k) 12 ∧ narrow .char (.int (((ordB (nI k).toNatClampNeg) &&& 255).toUInt32 % 65536).toInt32) = .int (((ordB (nI k).toNatClampNeg) &&& 255).toUInt32 % 65536).toInt32 ∧ K (((ordB (nI k).toNatClampNeg) &&& 255).toUInt32 % 65536).toInt32 s)) QX from ?_)
  have e : ∀ k, k < 12 → ((((ordB k) &&& 255).toUInt32 % 65536).toInt32 = nI (ordL.getD k 0)) ∧ narrow .char (.int (nI (ordL.getD k 0))) = .int (nI (ordL.getD k 0)) ∧ ¬ nI k < 0 ∧ nI k < nI 12 := by decide +kernel
  obtain ⟨e1, e2, e3, e4⟩ := e k hk
  refine sp_Jci e3 e4 ⟨vp_in_nI hk (by decide), ?_⟩
  rw [nI_clamp (by omega), e1]
  exact ⟨e2, h⟩
theorem sp_Jch {σ : zS} {k : Nat} {K : Int32 → zS → Prop} {QX : zS → Prop} (hk : k < 12) (h : K (nI (ordL.getD k 0)) σ) : zCT zZM zmJch [.ref 100, .int (nI k)] σ (zQi K) QX := by
  refine zCT_ln pnJS (Nat.le_of_ble_eq_true rfl) kJch ksJch (show zCT zZM zmJlat [.ref 100] σ (zQi (fun r s => (r = 0 → False) ∧ (¬ r = 0 → zCT zZM zmJlc [.ref 101, .int (nI k)] s (zQi (fun v s2 => narrow .char (.int v) = .int v ∧ K v s2)) QX))) QX from ?_)
  have e : ∀ k, k < 12 → narrow .char (.int (nI (ordL.getD k 0))) = .int (nI (ordL.getD k 0)) := by decide +kernel
  exact sp_Jlat ⟨fun q => absurd q (by decide), fun _ => sp_Jlc hk ⟨e k hk, h⟩⟩
def JX10_orderOf (t : Nat) : Bool := Nat.beq t 2
def hX10_orderOf (_ : Nat) : List Nat := [0, 1]
def LIX10_orderOf (I2 : Nat → Int32 → Int32 → zS → Prop) : Nat → Nat → zLo → zS → Prop := fun t n l τ => bif Nat.beq t 2 then zdI 0 (fun x0 => zdI 1 (fun x1 => zdN (I2 n x0 x1 τ))) l else False
def PX10_orderOf_2 (K2 : Int32 → Int32 → zS → Prop) (Q : Option Value → zS → Prop) (QX : zS → Prop) (x0 x1 : Int32) (σ : zS) : Prop :=
  zCT zZM zmJlen [.ref 100] σ (zQi (fun r s =>
    ((r ≤ x1 →
      Q (some (.int (-1 : Int32))) s) ∧ (¬ r ≤ x1 →
      zCT zZM zmJch [.ref 100, .int x1] s (zQi (fun v s2 =>
        ((v = x0 →
          Q (some (.int x1)) s2) ∧ (¬ v = x0 →
          K2 x0 (x1 + 1) s2)))) QX)))) QX
def PX10_orderOf_0 (K2 : Int32 → Int32 → zS → Prop) (a0 : Int32) (σ : zS) : Prop := K2 a0 (0 : Int32) σ
set_option maxRecDepth 50000 in
theorem pX10_orderOf_0 (I2 : Nat → Int32 → Int32 → zS → Prop) (Q : Option Value → zS → Prop) (QX : zS → Prop) (a0 : Int32) (σ : zS) (h : PX10_orderOf_0 (fun y0 y1 τ => ∃ n', zlt n' none ∧ I2 n' y0 y1 τ) a0 σ) : zwp JX10_orderOf (zB hX10_orderOf (zKt J0f (fun _ _ _ _ => False) (LIX10_orderOf I2) none 0)) Q QX kX10_orderOf 0 (lv_args 0 [.int a0]) [] σ := h
set_option maxRecDepth 50000 in
theorem pX10_orderOf_2 (I2 : Nat → Int32 → Int32 → zS → Prop) (Q : Option Value → zS → Prop) (QX : zS → Prop) (m : Nat) (x0 x1 : Int32) (σ : zS) (h : PX10_orderOf_2 (fun y0 y1 τ => ∃ n', zlt n' (some m) ∧ I2 n' y0 y1 τ) Q QX x0 x1 σ) : zwp JX10_orderOf (zB hX10_orderOf (zKt J0f (fun _ _ _ _ => False) (LIX10_orderOf I2) (some m) 2)) Q QX kX10_orderOf 2 [(0, .int x0), (1, .int x1)] [] σ := h
theorem rX10_orderOf {Q : Option Value → zS → Prop} {QX : zS → Prop} {a0 : Int32} {σ : zS} (hpn : plainName zmX10_orderOf.1.cls = true) (I2 : Nat → Int32 → Int32 → zS → Prop) (hs2 : ∀ (m : Nat) (x0 x1 : Int32) (σ : zS), I2 m x0 x1 σ → PX10_orderOf_2 (fun y0 y1 τ => ∃ n', zlt n' (some m) ∧ I2 n' y0 y1 τ) Q QX x0 x1 σ) (h0 : PX10_orderOf_0 (fun y0 y1 τ => ∃ n', zlt n' none ∧ I2 n' y0 y1 τ) a0 σ) : zCT zZM zmX10_orderOf [.int a0] σ Q QX := by
  refine zCT_of zZM_ok hpn (Nat.le_of_ble_eq_true rfl) kX10_orderOf ksX10_orderOf JX10_orderOf 3 (fun t ht => ?_) hX10_orderOf J0f (fun _ _ _ _ => False) (LIX10_orderOf I2) (fun n t ln σ' ht hj => by cases hj) (fun m t ln σ' ht hj hI => ?_) (pX10_orderOf_0 I2 Q QX a0 σ h0)
  · have et := Nat.eq_of_beq_eq_true ht; subst et
    exact Nat.le_of_ble_eq_true rfl
  · have et := Nat.eq_of_beq_eq_true ht; subst et
    have hI : LIX10_orderOf I2 2 m ln σ' := hI
    obtain ⟨x0, l0, e0, hI⟩ := zdI_e (i := 0) hI; subst e0
    obtain ⟨x1, l1, e1, hI⟩ := zdI_e (i := 1) hI; subst e1
    obtain ⟨e, hI⟩ := zdN_e hI; subst e
    exact pX10_orderOf_2 I2 Q QX m x0 x1 σ' (hs2 m x0 x1 σ' hI)
