theorem iX10_constant_0 : zSnd zZM zmX10_constant 0 (o_aload 0 1) := s_aload_n (k := 0) (by decide +kernel) rfl
theorem iX10_constant_1 : zSnd zZM zmX10_constant 1 (o_getf zYM 0 12 4) := s_getf zcX10 fX10_127 (by decide +kernel) (by decide +kernel)
theorem iX10_constant_4 : zSnd zZM zmX10_constant 4 (o_istore 1 5) := s_istore_n (k := 1) (by decide +kernel) rfl (by decide +kernel)
theorem iX10_constant_5 : zSnd zZM zmX10_constant 5 (o_aload 0 6) := s_aload_n (k := 0) (by decide +kernel) rfl
set_option maxRecDepth 20000 in
theorem iX10_constant_6 : zSnd zZM zmX10_constant 6 (o_callV zZM 0 zmX10_octet 0 1 9) := s_callV (idx := 140) zcX10 calX10_octet virX10_octet dscX10_octet (by decide +kernel) (zWS6 45 rfl rfl) (by decide +kernel)
theorem iX10_constant_9 : zSnd zZM zmX10_constant 9 (o_istore 2 10) := s_istore_n (k := 2) (by decide +kernel) rfl (by decide +kernel)
theorem iX10_constant_10 : zSnd zZM zmX10_constant 10 (o_lc 0 11) := s_lconst (i := 0) (by decide +kernel) (by decide +kernel)
theorem iX10_constant_11 : zSnd zZM zmX10_constant 11 (o_lstore 3 12) := s_lstore_n (k := 3) (by decide +kernel) rfl (by decide +kernel)
theorem iX10_constant_12 : zSnd zZM zmX10_constant 12 (o_iload 2 13) := s_iload_n (k := 2) (by decide +kernel) rfl
theorem iX10_constant_13 : zSnd zZM zmX10_constant 13 (o_ic 65 15) := s_bipush (i := 65) (by decide +kernel) (by decide +kernel)
theorem iX10_constant_15 : zSnd zZM zmX10_constant 15 (o_icmp (fun x y => x = y) 18 27) := s_icmp_ne (off := 12) (by decide +kernel) (by decide +kernel)
theorem iX10_constant_18 : zSnd zZM zmX10_constant 18 (o_aload 0 19) := s_aload_n (k := 0) (by decide +kernel) rfl
set_option maxRecDepth 20000 in
theorem iX10_constant_19 : zSnd zZM zmX10_constant 19 (o_callV zZM 0 zmX10_s 0 1 22) := s_callV (idx := 203) zcX10 calX10_s virX10_s dscX10_s (by decide +kernel) (zWS6 155 rfl rfl) (by decide +kernel)
theorem iX10_constant_22 : zSnd zZM zmX10_constant 22 (o_i2l 23) := s_i2l (by decide +kernel)
theorem iX10_constant_23 : zSnd zZM zmX10_constant 23 (o_lstore 3 24) := s_lstore_n (k := 3) (by decide +kernel) rfl (by decide +kernel)
theorem iX10_constant_24 : zSnd zZM zmX10_constant 24 (o_goto 62) := s_goto (off := 38) (by decide +kernel) (by decide +kernel)
theorem iX10_constant_27 : zSnd zZM zmX10_constant 27 (o_iload 2 28) := s_iload_n (k := 2) (by decide +kernel) rfl
theorem iX10_constant_28 : zSnd zZM zmX10_constant 28 (o_ic 66 30) := s_bipush (i := 66) (by decide +kernel) (by decide +kernel)
theorem iX10_constant_30 : zSnd zZM zmX10_constant 30 (o_icmp (fun x y => x = y) 33 41) := s_icmp_ne (off := 11) (by decide +kernel) (by decide +kernel)
theorem iX10_constant_33 : zSnd zZM zmX10_constant 33 (o_aload 0 34) := s_aload_n (k := 0) (by decide +kernel) rfl
set_option maxRecDepth 20000 in
theorem iX10_constant_34 : zSnd zZM zmX10_constant 34 (o_callV zZM 0 zmX10_l 0 2 37) := s_callV (idx := 206) zcX10 calX10_l virX10_l dscX10_l (by decide +kernel) (zWS6 163 rfl rfl) (by decide +kernel)
theorem iX10_constant_37 : zSnd zZM zmX10_constant 37 (o_lstore 3 38) := s_lstore_n (k := 3) (by decide +kernel) rfl (by decide +kernel)
theorem iX10_constant_38 : zSnd zZM zmX10_constant 38 (o_goto 62) := s_goto (off := 24) (by decide +kernel) (by decide +kernel)
theorem iX10_constant_41 : zSnd zZM zmX10_constant 41 (o_iload 2 42) := s_iload_n (k := 2) (by decide +kernel) rfl
theorem iX10_constant_42 : zSnd zZM zmX10_constant 42 (o_ic 35 44) := s_bipush (i := 35) (by decide +kernel) (by decide +kernel)
theorem iX10_constant_44 : zSnd zZM zmX10_constant 44 (o_icmp (fun x y => x = y) 47 55) := s_icmp_ne (off := 11) (by decide +kernel) (by decide +kernel)
theorem iX10_constant_47 : zSnd zZM zmX10_constant 47 (o_aload 0 48) := s_aload_n (k := 0) (by decide +kernel) rfl
set_option maxRecDepth 20000 in
theorem iX10_constant_48 : zSnd zZM zmX10_constant 48 (o_callV zZM 0 zmX10_u 0 2 51) := s_callV (idx := 144) zcX10 calX10_u virX10_u dscX10_u (by decide +kernel) (zWS6 105 rfl rfl) (by decide +kernel)
theorem iX10_constant_51 : zSnd zZM zmX10_constant 51 (o_lstore 3 52) := s_lstore_n (k := 3) (by decide +kernel) rfl (by decide +kernel)
theorem iX10_constant_52 : zSnd zZM zmX10_constant 52 (o_goto 62) := s_goto (off := 10) (by decide +kernel) (by decide +kernel)
theorem iX10_constant_55 : zSnd zZM zmX10_constant 55 (o_aload 0 56) := s_aload_n (k := 0) (by decide +kernel) rfl
theorem iX10_constant_56 : zSnd zZM zmX10_constant 56 (o_ic 1 57) := s_iconst (i := 1) (by decide +kernel) (by decide +kernel)
theorem iX10_constant_57 : zSnd zZM zmX10_constant 57 (o_iload 1 58) := s_iload_n (k := 1) (by decide +kernel) rfl
set_option maxRecDepth 20000 in
theorem iX10_constant_58 : zSnd zZM zmX10_constant 58 (o_callV zZM 0 zmX10_wrong 2 3 61) := s_callV (idx := 176) zcX10 calX10_wrong virX10_wrong dscX10_wrong (by decide +kernel) (zWS6 49 rfl rfl) (by decide +kernel)
theorem iX10_constant_61 : zSnd zZM zmX10_constant 61 (o_athrow zYM 2) := s_athrow (T := TIse) (N := 0) rfl (by decide +kernel)
theorem iX10_constant_62 : zSnd zZM zmX10_constant 62 (o_aload 0 63) := s_aload_n (k := 0) (by decide +kernel) rfl
theorem iX10_constant_63 : zSnd zZM zmX10_constant 63 (o_ic 11 65) := s_bipush (i := 11) (by decide +kernel) (by decide +kernel)
set_option maxRecDepth 20000 in
theorem iX10_constant_65 : zSnd zZM zmX10_constant 65 (o_callV zZM 0 zmX10_needOctet 1 0 68) := s_callV (idx := 209) zcX10 calX10_needOctet virX10_needOctet dscX10_needOctet (by decide +kernel) (zWS6 41 rfl rfl) (by decide +kernel)
theorem iX10_constant_68 : zSnd zZM zmX10_constant 68 (o_iload 1 69) := s_iload_n (k := 1) (by decide +kernel) rfl
theorem iX10_constant_69 : zSnd zZM zmX10_constant 69 (o_iret) := s_iret rfl (by decide +kernel)
def kX10_constant : List (Nat × zOp) := [(0, o_aload 0 1),
  (1, o_getf zYM 0 12 4),
  (4, o_istore 1 5),
  (5, o_aload 0 6),
  (6, o_callV zZM 0 zmX10_octet 0 1 9),
  (9, o_istore 2 10),
  (10, o_lc 0 11),
  (11, o_lstore 3 12),
  (12, o_iload 2 13),
  (13, o_ic 65 15),
  (15, o_icmp (fun x y => x = y) 18 27),
  (18, o_aload 0 19),
  (19, o_callV zZM 0 zmX10_s 0 1 22),
  (22, o_i2l 23),
  (23, o_lstore 3 24),
  (24, o_goto 62),
  (27, o_iload 2 28),
  (28, o_ic 66 30),
  (30, o_icmp (fun x y => x = y) 33 41),
  (33, o_aload 0 34),
  (34, o_callV zZM 0 zmX10_l 0 2 37),
  (37, o_lstore 3 38),
  (38, o_goto 62),
  (41, o_iload 2 42),
  (42, o_ic 35 44),
  (44, o_icmp (fun x y => x = y) 47 55),
  (47, o_aload 0 48),
  (48, o_callV zZM 0 zmX10_u 0 2 51),
  (51, o_lstore 3 52),
  (52, o_goto 62),
  (55, o_aload 0 56),
  (56, o_ic 1 57),
  (57, o_iload 1 58),
  (58, o_callV zZM 0 zmX10_wrong 2 3 61),
  (61, o_athrow zYM 2),
  (62, o_aload 0 63),
  (63, o_ic 11 65),
  (65, o_callV zZM 0 zmX10_needOctet 1 0 68),
  (68, o_iload 1 69),
  (69, o_iret)]
set_option maxRecDepth 100000 in
theorem ksX10_constant : ∀ q ∈ kX10_constant, zSnd zZM zmX10_constant q.1 q.2 := zcc iX10_constant_0 (zcc iX10_constant_1 (zcc iX10_constant_4 (zcc iX10_constant_5 (zcc iX10_constant_6 (zcc iX10_constant_9 (zcc iX10_constant_10 (zcc iX10_constant_11 (zcc iX10_constant_12 (zcc iX10_constant_13 (zcc iX10_constant_15 (zcc iX10_constant_18 (zcc iX10_constant_19 (zcc iX10_constant_22 (zcc iX10_constant_23 (zcc iX10_constant_24 (zcc iX10_constant_27 (zcc iX10_constant_28 (zcc iX10_constant_30 (zcc iX10_constant_33 (zcc iX10_constant_34 (zcc iX10_constant_37 (zcc iX10_constant_38 (zcc iX10_constant_41 (zcc iX10_constant_42 (zcc iX10_constant_44 (zcc iX10_constant_47 (zcc iX10_constant_48 (zcc iX10_constant_51 (zcc iX10_constant_52 (zcc iX10_constant_55 (zcc iX10_constant_56 (zcc iX10_constant_57 (zcc iX10_constant_58 (zcc iX10_constant_61 (zcc iX10_constant_62 (zcc iX10_constant_63 (zcc iX10_constant_65 (zcc iX10_constant_68 (zcc iX10_constant_69 zcn)))))))))))))))))))))))))))))))))))))))
theorem iX10_exportLine_0 : zSnd zZM zmX10_exportLine 0 (o_aload 1 1) := s_aload_n (k := 1) (by decide +kernel) rfl
theorem iX10_exportLine_1 : zSnd zZM zmX10_exportLine 1 (o_getf zYM 1 6 4) := s_getf zcX9 fX10_115 (by decide +kernel) (by decide +kernel)
theorem iX10_exportLine_4 : zSnd zZM zmX10_exportLine 4 (o_istore 2 5) := s_istore_n (k := 2) (by decide +kernel) rfl (by decide +kernel)
theorem iX10_exportLine_5 : zSnd zZM zmX10_exportLine 5 (o_iload 2 6) := s_iload_n (k := 2) (by decide +kernel) rfl
theorem iX10_exportLine_6 : zSnd zZM zmX10_exportLine 6 (o_ic 64 8) := s_bipush (i := 64) (by decide +kernel) (by decide +kernel)
theorem iX10_exportLine_8 : zSnd zZM zmX10_exportLine 8 (o_icmp (fun x y => x = y) 11 21) := s_icmp_ne (off := 13) (by decide +kernel) (by decide +kernel)
theorem iX10_exportLine_11 : zSnd zZM zmX10_exportLine 11 (o_aload 0 12) := s_aload_n (k := 0) (by decide +kernel) rfl
theorem iX10_exportLine_12 : zSnd zZM zmX10_exportLine 12 (o_ic 4 13) := s_iconst (i := 4) (by decide +kernel) (by decide +kernel)
theorem iX10_exportLine_13 : zSnd zZM zmX10_exportLine 13 (o_aload 0 14) := s_aload_n (k := 0) (by decide +kernel) rfl
theorem iX10_exportLine_14 : zSnd zZM zmX10_exportLine 14 (o_getf zYM 0 12 17) := s_getf zcX10 fX10_127 (by decide +kernel) (by decide +kernel)
set_option maxRecDepth 20000 in
theorem iX10_exportLine_17 : zSnd zZM zmX10_exportLine 17 (o_callV zZM 0 zmX10_wrong 2 3 20) := s_callV (idx := 176) zcX10 calX10_wrong virX10_wrong dscX10_wrong (by decide +kernel) (zWS6 49 rfl rfl) (by decide +kernel)
theorem iX10_exportLine_20 : zSnd zZM zmX10_exportLine 20 (o_athrow zYM 2) := s_athrow (T := TIse) (N := 0) rfl (by decide +kernel)
theorem iX10_exportLine_21 : zSnd zZM zmX10_exportLine 21 (o_aload 1 22) := s_aload_n (k := 1) (by decide +kernel) rfl
theorem iX10_exportLine_22 : zSnd zZM zmX10_exportLine 22 (o_getf zYM 1 38 25) := s_getf zcX9 fX10_361 (by decide +kernel) (by decide +kernel)
theorem iX10_exportLine_25 : zSnd zZM zmX10_exportLine 25 (o_iload 2 26) := s_iload_n (k := 2) (by decide +kernel) rfl
theorem iX10_exportLine_26 : zSnd zZM zmX10_exportLine 26 (o_aload 0 27) := s_aload_n (k := 0) (by decide +kernel) rfl
theorem iX10_exportLine_27 : zSnd zZM zmX10_exportLine 27 (o_getf zYM 0 12 30) := s_getf zcX10 fX10_127 (by decide +kernel) (by decide +kernel)
theorem iX10_exportLine_30 : zSnd zZM zmX10_exportLine 30 (o_ast zYM .int (fun x => x) 31) := s_iast (by decide +kernel)
theorem iX10_exportLine_31 : zSnd zZM zmX10_exportLine 31 (o_aload 0 32) := s_aload_n (k := 0) (by decide +kernel) rfl
theorem iX10_exportLine_32 : zSnd zZM zmX10_exportLine 32 (o_ic 1 33) := s_iconst (i := 1) (by decide +kernel) (by decide +kernel)
set_option maxRecDepth 20000 in
theorem iX10_exportLine_33 : zSnd zZM zmX10_exportLine 33 (o_callV zZM 0 zmX10_nameItem 1 0 36) := s_callV (idx := 231) zcX10 calX10_nameItem virX10_nameItem dscX10_nameItem (by decide +kernel) (zWS6 109 rfl rfl) (by decide +kernel)
theorem iX10_exportLine_36 : zSnd zZM zmX10_exportLine 36 (o_aload 1 37) := s_aload_n (k := 1) (by decide +kernel) rfl
theorem iX10_exportLine_37 : zSnd zZM zmX10_exportLine 37 (o_getf zYM 1 36 40) := s_getf zcX9 fX10_364 (by decide +kernel) (by decide +kernel)
theorem iX10_exportLine_40 : zSnd zZM zmX10_exportLine 40 (o_iload 2 41) := s_iload_n (k := 2) (by decide +kernel) rfl
theorem iX10_exportLine_41 : zSnd zZM zmX10_exportLine 41 (o_aload 0 42) := s_aload_n (k := 0) (by decide +kernel) rfl
theorem iX10_exportLine_42 : zSnd zZM zmX10_exportLine 42 (o_getf zYM 0 14 45) := s_getf zcX10 fX10_188 (by decide +kernel) (by decide +kernel)
theorem iX10_exportLine_45 : zSnd zZM zmX10_exportLine 45 (o_ast zYM .int (fun x => x) 46) := s_iast (by decide +kernel)
theorem iX10_exportLine_46 : zSnd zZM zmX10_exportLine 46 (o_aload 1 47) := s_aload_n (k := 1) (by decide +kernel) rfl
theorem iX10_exportLine_47 : zSnd zZM zmX10_exportLine 47 (o_getf zYM 1 37 50) := s_getf zcX9 fX10_367 (by decide +kernel) (by decide +kernel)
theorem iX10_exportLine_50 : zSnd zZM zmX10_exportLine 50 (o_iload 2 51) := s_iload_n (k := 2) (by decide +kernel) rfl
theorem iX10_exportLine_51 : zSnd zZM zmX10_exportLine 51 (o_aload 0 52) := s_aload_n (k := 0) (by decide +kernel) rfl
theorem iX10_exportLine_52 : zSnd zZM zmX10_exportLine 52 (o_getf zYM 0 15 55) := s_getf zcX10 fX10_191 (by decide +kernel) (by decide +kernel)
theorem iX10_exportLine_55 : zSnd zZM zmX10_exportLine 55 (o_ast zYM .int (fun x => x) 56) := s_iast (by decide +kernel)
theorem iX10_exportLine_56 : zSnd zZM zmX10_exportLine 56 (o_aload 0 57) := s_aload_n (k := 0) (by decide +kernel) rfl
theorem iX10_exportLine_57 : zSnd zZM zmX10_exportLine 57 (o_getf zYM 0 12 60) := s_getf zcX10 fX10_127 (by decide +kernel) (by decide +kernel)
theorem iX10_exportLine_60 : zSnd zZM zmX10_exportLine 60 (o_istore 3 61) := s_istore_n (k := 3) (by decide +kernel) rfl (by decide +kernel)
theorem iX10_exportLine_61 : zSnd zZM zmX10_exportLine 61 (o_aload 1 62) := s_aload_n (k := 1) (by decide +kernel) rfl
theorem iX10_exportLine_62 : zSnd zZM zmX10_exportLine 62 (o_getf zYM 1 39 65) := s_getf zcX9 fX10_370 (by decide +kernel) (by decide +kernel)
theorem iX10_exportLine_65 : zSnd zZM zmX10_exportLine 65 (o_iload 2 66) := s_iload_n (k := 2) (by decide +kernel) rfl
theorem iX10_exportLine_66 : zSnd zZM zmX10_exportLine 66 (o_aload 0 67) := s_aload_n (k := 0) (by decide +kernel) rfl
set_option maxRecDepth 20000 in
theorem iX10_exportLine_67 : zSnd zZM zmX10_exportLine 67 (o_callV zZM 0 zmX10_octet 0 1 70) := s_callV (idx := 140) zcX10 calX10_octet virX10_octet dscX10_octet (by decide +kernel) (zWS6 45 rfl rfl) (by decide +kernel)
theorem iX10_exportLine_70 : zSnd zZM zmX10_exportLine 70 (o_ast zYM .int (fun x => x) 71) := s_iast (by decide +kernel)
theorem iX10_exportLine_71 : zSnd zZM zmX10_exportLine 71 (o_aload 1 72) := s_aload_n (k := 1) (by decide +kernel) rfl
theorem iX10_exportLine_72 : zSnd zZM zmX10_exportLine 72 (o_getf zYM 1 39 75) := s_getf zcX9 fX10_370 (by decide +kernel) (by decide +kernel)
theorem iX10_exportLine_75 : zSnd zZM zmX10_exportLine 75 (o_iload 2 76) := s_iload_n (k := 2) (by decide +kernel) rfl
theorem iX10_exportLine_76 : zSnd zZM zmX10_exportLine 76 (o_ald zYM .int 77) := s_iald (by decide +kernel)
theorem iX10_exportLine_77 : zSnd zZM zmX10_exportLine 77 (o_ic 3 78) := s_iconst (i := 3) (by decide +kernel) (by decide +kernel)
theorem iX10_exportLine_78 : zSnd zZM zmX10_exportLine 78 (o_icmp (fun x y => x ≤ y) 88 81) := s_icmp_le (off := 10) (by decide +kernel) (by decide +kernel)
theorem iX10_exportLine_81 : zSnd zZM zmX10_exportLine 81 (o_aload 0 82) := s_aload_n (k := 0) (by decide +kernel) rfl
theorem iX10_exportLine_82 : zSnd zZM zmX10_exportLine 82 (o_ic 1 83) := s_iconst (i := 1) (by decide +kernel) (by decide +kernel)
theorem iX10_exportLine_83 : zSnd zZM zmX10_exportLine 83 (o_iload 3 84) := s_iload_n (k := 3) (by decide +kernel) rfl
set_option maxRecDepth 20000 in
theorem iX10_exportLine_84 : zSnd zZM zmX10_exportLine 84 (o_callV zZM 0 zmX10_wrong 2 3 87) := s_callV (idx := 176) zcX10 calX10_wrong virX10_wrong dscX10_wrong (by decide +kernel) (zWS6 49 rfl rfl) (by decide +kernel)
theorem iX10_exportLine_87 : zSnd zZM zmX10_exportLine 87 (o_athrow zYM 2) := s_athrow (T := TIse) (N := 0) rfl (by decide +kernel)
theorem iX10_exportLine_88 : zSnd zZM zmX10_exportLine 88 (o_aload 1 89) := s_aload_n (k := 1) (by decide +kernel) rfl
theorem iX10_exportLine_89 : zSnd zZM zmX10_exportLine 89 (o_getf zYM 1 41 92) := s_getf zcX9 fX10_373 (by decide +kernel) (by decide +kernel)
theorem iX10_exportLine_92 : zSnd zZM zmX10_exportLine 92 (o_iload 2 93) := s_iload_n (k := 2) (by decide +kernel) rfl
theorem iX10_exportLine_93 : zSnd zZM zmX10_exportLine 93 (o_aload 0 94) := s_aload_n (k := 0) (by decide +kernel) rfl
theorem iX10_exportLine_94 : zSnd zZM zmX10_exportLine 94 (o_getf zYM 0 12 97) := s_getf zcX10 fX10_127 (by decide +kernel) (by decide +kernel)
theorem iX10_exportLine_97 : zSnd zZM zmX10_exportLine 97 (o_ast zYM .int (fun x => x) 98) := s_iast (by decide +kernel)
theorem iX10_exportLine_98 : zSnd zZM zmX10_exportLine 98 (o_aload 1 99) := s_aload_n (k := 1) (by decide +kernel) rfl
theorem iX10_exportLine_99 : zSnd zZM zmX10_exportLine 99 (o_getf zYM 1 40 102) := s_getf zcX9 fX10_376 (by decide +kernel) (by decide +kernel)
theorem iX10_exportLine_102 : zSnd zZM zmX10_exportLine 102 (o_iload 2 103) := s_iload_n (k := 2) (by decide +kernel) rfl
theorem iX10_exportLine_103 : zSnd zZM zmX10_exportLine 103 (o_aload 0 104) := s_aload_n (k := 0) (by decide +kernel) rfl
set_option maxRecDepth 20000 in
theorem iX10_exportLine_104 : zSnd zZM zmX10_exportLine 104 (o_callV zZM 0 zmX10_u 0 2 107) := s_callV (idx := 144) zcX10 calX10_u virX10_u dscX10_u (by decide +kernel) (zWS6 105 rfl rfl) (by decide +kernel)
theorem iX10_exportLine_107 : zSnd zZM zmX10_exportLine 107 (o_last zYM 108) := s_last (by decide +kernel)
theorem iX10_exportLine_108 : zSnd zZM zmX10_exportLine 108 (o_aload 1 109) := s_aload_n (k := 1) (by decide +kernel) rfl
theorem iX10_exportLine_109 : zSnd zZM zmX10_exportLine 109 (o_dup 110) := s_dup (by decide +kernel)
theorem iX10_exportLine_110 : zSnd zZM zmX10_exportLine 110 (o_getf zYM 1 6 113) := s_getf zcX9 fX10_115 (by decide +kernel) (by decide +kernel)
theorem iX10_exportLine_113 : zSnd zZM zmX10_exportLine 113 (o_ic 1 114) := s_iconst (i := 1) (by decide +kernel) (by decide +kernel)
theorem iX10_exportLine_114 : zSnd zZM zmX10_exportLine 114 (o_ibin (fun x y => x + y) 115) := s_iadd (by decide +kernel)
theorem iX10_exportLine_115 : zSnd zZM zmX10_exportLine 115 (o_putI zYM 1 6 118) := s_putI zcX9 fX10_115 (by decide +kernel) rfl rfl (by decide +kernel)
theorem iX10_exportLine_118 : zSnd zZM zmX10_exportLine 118 (o_vret) := s_vret rfl (by decide +kernel)
def kX10_exportLine : List (Nat × zOp) := [(0, o_aload 1 1),
  (1, o_getf zYM 1 6 4),
  (4, o_istore 2 5),
  (5, o_iload 2 6),
  (6, o_ic 64 8),
  (8, o_icmp (fun x y => x = y) 11 21),
  (11, o_aload 0 12),
  (12, o_ic 4 13),
  (13, o_aload 0 14),
  (14, o_getf zYM 0 12 17),
  (17, o_callV zZM 0 zmX10_wrong 2 3 20),
  (20, o_athrow zYM 2),
  (21, o_aload 1 22),
  (22, o_getf zYM 1 38 25),
  (25, o_iload 2 26),
  (26, o_aload 0 27),
  (27, o_getf zYM 0 12 30),
  (30, o_ast zYM .int (fun x => x) 31),
  (31, o_aload 0 32),
  (32, o_ic 1 33),
  (33, o_callV zZM 0 zmX10_nameItem 1 0 36),
  (36, o_aload 1 37),
  (37, o_getf zYM 1 36 40),
  (40, o_iload 2 41),
  (41, o_aload 0 42),
  (42, o_getf zYM 0 14 45),
  (45, o_ast zYM .int (fun x => x) 46),
  (46, o_aload 1 47),
  (47, o_getf zYM 1 37 50),
  (50, o_iload 2 51),
  (51, o_aload 0 52),
  (52, o_getf zYM 0 15 55),
  (55, o_ast zYM .int (fun x => x) 56),
  (56, o_aload 0 57),
  (57, o_getf zYM 0 12 60),
  (60, o_istore 3 61),
  (61, o_aload 1 62),
  (62, o_getf zYM 1 39 65),
  (65, o_iload 2 66),
  (66, o_aload 0 67),
  (67, o_callV zZM 0 zmX10_octet 0 1 70),
  (70, o_ast zYM .int (fun x => x) 71),
  (71, o_aload 1 72),
  (72, o_getf zYM 1 39 75),
  (75, o_iload 2 76),
  (76, o_ald zYM .int 77),
  (77, o_ic 3 78),
  (78, o_icmp (fun x y => x ≤ y) 88 81),
  (81, o_aload 0 82),
  (82, o_ic 1 83),
  (83, o_iload 3 84),
  (84, o_callV zZM 0 zmX10_wrong 2 3 87),
  (87, o_athrow zYM 2),
  (88, o_aload 1 89),
  (89, o_getf zYM 1 41 92),
  (92, o_iload 2 93),
  (93, o_aload 0 94),
  (94, o_getf zYM 0 12 97),
  (97, o_ast zYM .int (fun x => x) 98),
  (98, o_aload 1 99),
  (99, o_getf zYM 1 40 102),
  (102, o_iload 2 103),
  (103, o_aload 0 104),
  (104, o_callV zZM 0 zmX10_u 0 2 107),
  (107, o_last zYM 108),
  (108, o_aload 1 109),
  (109, o_dup 110),
  (110, o_getf zYM 1 6 113),
  (113, o_ic 1 114),
  (114, o_ibin (fun x y => x + y) 115),
  (115, o_putI zYM 1 6 118),
  (118, o_vret)]
set_option maxRecDepth 100000 in
theorem ksX10_exportLine : ∀ q ∈ kX10_exportLine, zSnd zZM zmX10_exportLine q.1 q.2 := zcc iX10_exportLine_0 (zcc iX10_exportLine_1 (zcc iX10_exportLine_4 (zcc iX10_exportLine_5 (zcc iX10_exportLine_6 (zcc iX10_exportLine_8 (zcc iX10_exportLine_11 (zcc iX10_exportLine_12 (zcc iX10_exportLine_13 (zcc iX10_exportLine_14 (zcc iX10_exportLine_17 (zcc iX10_exportLine_20 (zcc iX10_exportLine_21 (zcc iX10_exportLine_22 (zcc iX10_exportLine_25 (zcc iX10_exportLine_26 (zcc iX10_exportLine_27 (zcc iX10_exportLine_30 (zcc iX10_exportLine_31 (zcc iX10_exportLine_32 (zcc iX10_exportLine_33 (zcc iX10_exportLine_36 (zcc iX10_exportLine_37 (zcc iX10_exportLine_40 (zcc iX10_exportLine_41 (zcc iX10_exportLine_42 (zcc iX10_exportLine_45 (zcc iX10_exportLine_46 (zcc iX10_exportLine_47 (zcc iX10_exportLine_50 (zcc iX10_exportLine_51 (zcc iX10_exportLine_52 (zcc iX10_exportLine_55 (zcc iX10_exportLine_56 (zcc iX10_exportLine_57 (zcc iX10_exportLine_60 (zcc iX10_exportLine_61 (zcc iX10_exportLine_62 (zcc iX10_exportLine_65 (zcc iX10_exportLine_66 (zcc iX10_exportLine_67 (zcc iX10_exportLine_70 (zcc iX10_exportLine_71 (zcc iX10_exportLine_72 (zcc iX10_exportLine_75 (zcc iX10_exportLine_76 (zcc iX10_exportLine_77 (zcc iX10_exportLine_78 (zcc iX10_exportLine_81 (zcc iX10_exportLine_82 (zcc iX10_exportLine_83 (zcc iX10_exportLine_84 (zcc iX10_exportLine_87 (zcc iX10_exportLine_88 (zcc iX10_exportLine_89 (zcc iX10_exportLine_92 (zcc iX10_exportLine_93 (zcc iX10_exportLine_94 (zcc iX10_exportLine_97 (zcc iX10_exportLine_98 (zcc iX10_exportLine_99 (zcc iX10_exportLine_102 (zcc iX10_exportLine_103 (zcc iX10_exportLine_104 (zcc iX10_exportLine_107 (zcc iX10_exportLine_108 (zcc iX10_exportLine_109 (zcc iX10_exportLine_110 (zcc iX10_exportLine_113 (zcc iX10_exportLine_114 (zcc iX10_exportLine_115 (zcc iX10_exportLine_118 zcn)))))))))))))))))))))))))))))))))))))))))))))))))))))))))))))))))))))))
theorem iX10_importLine_0 : zSnd zZM zmX10_importLine 0 (o_aload 1 1) := s_aload_n (k := 1) (by decide +kernel) rfl
theorem iX10_importLine_1 : zSnd zZM zmX10_importLine 1 (o_getf zYM 1 3 4) := s_getf zcX9 fX10_100 (by decide +kernel) (by decide +kernel)
theorem iX10_importLine_4 : zSnd zZM zmX10_importLine 4 (o_istore 2 5) := s_istore_n (k := 2) (by decide +kernel) rfl (by decide +kernel)
theorem iX10_importLine_5 : zSnd zZM zmX10_importLine 5 (o_iload 2 6) := s_iload_n (k := 2) (by decide +kernel) rfl
theorem iX10_importLine_6 : zSnd zZM zmX10_importLine 6 (o_ic 32 8) := s_bipush (i := 32) (by decide +kernel) (by decide +kernel)
theorem iX10_importLine_8 : zSnd zZM zmX10_importLine 8 (o_icmp (fun x y => x = y) 11 21) := s_icmp_ne (off := 13) (by decide +kernel) (by decide +kernel)
theorem iX10_importLine_11 : zSnd zZM zmX10_importLine 11 (o_aload 0 12) := s_aload_n (k := 0) (by decide +kernel) rfl
theorem iX10_importLine_12 : zSnd zZM zmX10_importLine 12 (o_ic 4 13) := s_iconst (i := 4) (by decide +kernel) (by decide +kernel)
theorem iX10_importLine_13 : zSnd zZM zmX10_importLine 13 (o_aload 0 14) := s_aload_n (k := 0) (by decide +kernel) rfl
theorem iX10_importLine_14 : zSnd zZM zmX10_importLine 14 (o_getf zYM 0 12 17) := s_getf zcX10 fX10_127 (by decide +kernel) (by decide +kernel)
set_option maxRecDepth 20000 in
theorem iX10_importLine_17 : zSnd zZM zmX10_importLine 17 (o_callV zZM 0 zmX10_wrong 2 3 20) := s_callV (idx := 176) zcX10 calX10_wrong virX10_wrong dscX10_wrong (by decide +kernel) (zWS6 49 rfl rfl) (by decide +kernel)
theorem iX10_importLine_20 : zSnd zZM zmX10_importLine 20 (o_athrow zYM 2) := s_athrow (T := TIse) (N := 0) rfl (by decide +kernel)
theorem iX10_importLine_21 : zSnd zZM zmX10_importLine 21 (o_aload 1 22) := s_aload_n (k := 1) (by decide +kernel) rfl
theorem iX10_importLine_22 : zSnd zZM zmX10_importLine 22 (o_getf zYM 1 27 25) := s_getf zcX9 fX10_293 (by decide +kernel) (by decide +kernel)
theorem iX10_importLine_25 : zSnd zZM zmX10_importLine 25 (o_iload 2 26) := s_iload_n (k := 2) (by decide +kernel) rfl
theorem iX10_importLine_26 : zSnd zZM zmX10_importLine 26 (o_aload 0 27) := s_aload_n (k := 0) (by decide +kernel) rfl
theorem iX10_importLine_27 : zSnd zZM zmX10_importLine 27 (o_getf zYM 0 12 30) := s_getf zcX10 fX10_127 (by decide +kernel) (by decide +kernel)
theorem iX10_importLine_30 : zSnd zZM zmX10_importLine 30 (o_ast zYM .int (fun x => x) 31) := s_iast (by decide +kernel)
theorem iX10_importLine_31 : zSnd zZM zmX10_importLine 31 (o_aload 0 32) := s_aload_n (k := 0) (by decide +kernel) rfl
theorem iX10_importLine_32 : zSnd zZM zmX10_importLine 32 (o_ic 1 33) := s_iconst (i := 1) (by decide +kernel) (by decide +kernel)
set_option maxRecDepth 20000 in
theorem iX10_importLine_33 : zSnd zZM zmX10_importLine 33 (o_callV zZM 0 zmX10_nameItem 1 0 36) := s_callV (idx := 231) zcX10 calX10_nameItem virX10_nameItem dscX10_nameItem (by decide +kernel) (zWS6 109 rfl rfl) (by decide +kernel)
theorem iX10_importLine_36 : zSnd zZM zmX10_importLine 36 (o_aload 1 37) := s_aload_n (k := 1) (by decide +kernel) rfl
theorem iX10_importLine_37 : zSnd zZM zmX10_importLine 37 (o_getf zYM 1 20 40) := s_getf zcX9 fX10_296 (by decide +kernel) (by decide +kernel)
theorem iX10_importLine_40 : zSnd zZM zmX10_importLine 40 (o_iload 2 41) := s_iload_n (k := 2) (by decide +kernel) rfl
theorem iX10_importLine_41 : zSnd zZM zmX10_importLine 41 (o_aload 0 42) := s_aload_n (k := 0) (by decide +kernel) rfl
theorem iX10_importLine_42 : zSnd zZM zmX10_importLine 42 (o_getf zYM 0 14 45) := s_getf zcX10 fX10_188 (by decide +kernel) (by decide +kernel)
theorem iX10_importLine_45 : zSnd zZM zmX10_importLine 45 (o_ast zYM .int (fun x => x) 46) := s_iast (by decide +kernel)
theorem iX10_importLine_46 : zSnd zZM zmX10_importLine 46 (o_aload 1 47) := s_aload_n (k := 1) (by decide +kernel) rfl
theorem iX10_importLine_47 : zSnd zZM zmX10_importLine 47 (o_getf zYM 1 21 50) := s_getf zcX9 fX10_299 (by decide +kernel) (by decide +kernel)
theorem iX10_importLine_50 : zSnd zZM zmX10_importLine 50 (o_iload 2 51) := s_iload_n (k := 2) (by decide +kernel) rfl
theorem iX10_importLine_51 : zSnd zZM zmX10_importLine 51 (o_aload 0 52) := s_aload_n (k := 0) (by decide +kernel) rfl
theorem iX10_importLine_52 : zSnd zZM zmX10_importLine 52 (o_getf zYM 0 15 55) := s_getf zcX10 fX10_191 (by decide +kernel) (by decide +kernel)
theorem iX10_importLine_55 : zSnd zZM zmX10_importLine 55 (o_ast zYM .int (fun x => x) 56) := s_iast (by decide +kernel)
theorem iX10_importLine_56 : zSnd zZM zmX10_importLine 56 (o_aload 0 57) := s_aload_n (k := 0) (by decide +kernel) rfl
theorem iX10_importLine_57 : zSnd zZM zmX10_importLine 57 (o_ic 1 58) := s_iconst (i := 1) (by decide +kernel) (by decide +kernel)
set_option maxRecDepth 20000 in
theorem iX10_importLine_58 : zSnd zZM zmX10_importLine 58 (o_callV zZM 0 zmX10_nameItem 1 0 61) := s_callV (idx := 231) zcX10 calX10_nameItem virX10_nameItem dscX10_nameItem (by decide +kernel) (zWS6 109 rfl rfl) (by decide +kernel)
theorem iX10_importLine_61 : zSnd zZM zmX10_importLine 61 (o_aload 1 62) := s_aload_n (k := 1) (by decide +kernel) rfl
theorem iX10_importLine_62 : zSnd zZM zmX10_importLine 62 (o_getf zYM 1 22 65) := s_getf zcX9 fX10_302 (by decide +kernel) (by decide +kernel)
theorem iX10_importLine_65 : zSnd zZM zmX10_importLine 65 (o_iload 2 66) := s_iload_n (k := 2) (by decide +kernel) rfl
theorem iX10_importLine_66 : zSnd zZM zmX10_importLine 66 (o_aload 0 67) := s_aload_n (k := 0) (by decide +kernel) rfl
theorem iX10_importLine_67 : zSnd zZM zmX10_importLine 67 (o_getf zYM 0 14 70) := s_getf zcX10 fX10_188 (by decide +kernel) (by decide +kernel)
theorem iX10_importLine_70 : zSnd zZM zmX10_importLine 70 (o_ast zYM .int (fun x => x) 71) := s_iast (by decide +kernel)
theorem iX10_importLine_71 : zSnd zZM zmX10_importLine 71 (o_aload 1 72) := s_aload_n (k := 1) (by decide +kernel) rfl
theorem iX10_importLine_72 : zSnd zZM zmX10_importLine 72 (o_getf zYM 1 23 75) := s_getf zcX9 fX10_305 (by decide +kernel) (by decide +kernel)
theorem iX10_importLine_75 : zSnd zZM zmX10_importLine 75 (o_iload 2 76) := s_iload_n (k := 2) (by decide +kernel) rfl
theorem iX10_importLine_76 : zSnd zZM zmX10_importLine 76 (o_aload 0 77) := s_aload_n (k := 0) (by decide +kernel) rfl
theorem iX10_importLine_77 : zSnd zZM zmX10_importLine 77 (o_getf zYM 0 15 80) := s_getf zcX10 fX10_191 (by decide +kernel) (by decide +kernel)
theorem iX10_importLine_80 : zSnd zZM zmX10_importLine 80 (o_ast zYM .int (fun x => x) 81) := s_iast (by decide +kernel)
theorem iX10_importLine_81 : zSnd zZM zmX10_importLine 81 (o_aload 0 82) := s_aload_n (k := 0) (by decide +kernel) rfl
theorem iX10_importLine_82 : zSnd zZM zmX10_importLine 82 (o_getf zYM 0 12 85) := s_getf zcX10 fX10_127 (by decide +kernel) (by decide +kernel)
theorem iX10_importLine_85 : zSnd zZM zmX10_importLine 85 (o_istore 3 86) := s_istore_n (k := 3) (by decide +kernel) rfl (by decide +kernel)
theorem iX10_importLine_86 : zSnd zZM zmX10_importLine 86 (o_aload 0 87) := s_aload_n (k := 0) (by decide +kernel) rfl
set_option maxRecDepth 20000 in
theorem iX10_importLine_87 : zSnd zZM zmX10_importLine 87 (o_callV zZM 0 zmX10_octet 0 1 90) := s_callV (idx := 140) zcX10 calX10_octet virX10_octet dscX10_octet (by decide +kernel) (zWS6 45 rfl rfl) (by decide +kernel)
theorem iX10_importLine_90 : zSnd zZM zmX10_importLine 90 (o_istore 4 92) := s_istore (by decide +kernel) (by decide +kernel)
theorem iX10_importLine_92 : zSnd zZM zmX10_importLine 92 (o_iload 4 94) := s_iload (by decide +kernel)
theorem iX10_importLine_94 : zSnd zZM zmX10_importLine 94 (o_ic 3 95) := s_iconst (i := 3) (by decide +kernel) (by decide +kernel)
theorem iX10_importLine_95 : zSnd zZM zmX10_importLine 95 (o_icmp (fun x y => x ≤ y) 105 98) := s_icmp_le (off := 10) (by decide +kernel) (by decide +kernel)
theorem iX10_importLine_98 : zSnd zZM zmX10_importLine 98 (o_aload 0 99) := s_aload_n (k := 0) (by decide +kernel) rfl
theorem iX10_importLine_99 : zSnd zZM zmX10_importLine 99 (o_ic 1 100) := s_iconst (i := 1) (by decide +kernel) (by decide +kernel)
theorem iX10_importLine_100 : zSnd zZM zmX10_importLine 100 (o_iload 3 101) := s_iload_n (k := 3) (by decide +kernel) rfl
set_option maxRecDepth 20000 in
theorem iX10_importLine_101 : zSnd zZM zmX10_importLine 101 (o_callV zZM 0 zmX10_wrong 2 3 104) := s_callV (idx := 176) zcX10 calX10_wrong virX10_wrong dscX10_wrong (by decide +kernel) (zWS6 49 rfl rfl) (by decide +kernel)
theorem iX10_importLine_104 : zSnd zZM zmX10_importLine 104 (o_athrow zYM 2) := s_athrow (T := TIse) (N := 0) rfl (by decide +kernel)
theorem iX10_importLine_105 : zSnd zZM zmX10_importLine 105 (o_aload 1 106) := s_aload_n (k := 1) (by decide +kernel) rfl
theorem iX10_importLine_106 : zSnd zZM zmX10_importLine 106 (o_getf zYM 1 24 109) := s_getf zcX9 fX10_308 (by decide +kernel) (by decide +kernel)
theorem iX10_importLine_109 : zSnd zZM zmX10_importLine 109 (o_iload 2 110) := s_iload_n (k := 2) (by decide +kernel) rfl
theorem iX10_importLine_110 : zSnd zZM zmX10_importLine 110 (o_iload 4 112) := s_iload (by decide +kernel)
theorem iX10_importLine_112 : zSnd zZM zmX10_importLine 112 (o_ast zYM .int (fun x => x) 113) := s_iast (by decide +kernel)
theorem iX10_importLine_113 : zSnd zZM zmX10_importLine 113 (o_iload 4 115) := s_iload (by decide +kernel)
theorem iX10_importLine_115 : zSnd zZM zmX10_importLine 115 (o_ic 1 116) := s_iconst (i := 1) (by decide +kernel) (by decide +kernel)
theorem iX10_importLine_116 : zSnd zZM zmX10_importLine 116 (o_icmp (fun x y => x = y) 119 125) := s_icmp_ne (off := 9) (by decide +kernel) (by decide +kernel)
theorem iX10_importLine_119 : zSnd zZM zmX10_importLine 119 (o_aload 0 120) := s_aload_n (k := 0) (by decide +kernel) rfl
theorem iX10_importLine_120 : zSnd zZM zmX10_importLine 120 (o_ic 112 122) := s_bipush (i := 112) (by decide +kernel) (by decide +kernel)
set_option maxRecDepth 20000 in
theorem iX10_importLine_122 : zSnd zZM zmX10_importLine 122 (o_callV zZM 0 zmX10_needOctet 1 0 125) := s_callV (idx := 209) zcX10 calX10_needOctet virX10_needOctet dscX10_needOctet (by decide +kernel) (zWS6 41 rfl rfl) (by decide +kernel)
theorem iX10_importLine_125 : zSnd zZM zmX10_importLine 125 (o_aload 1 126) := s_aload_n (k := 1) (by decide +kernel) rfl
theorem iX10_importLine_126 : zSnd zZM zmX10_importLine 126 (o_getf zYM 1 26 129) := s_getf zcX9 fX10_311 (by decide +kernel) (by decide +kernel)
theorem iX10_importLine_129 : zSnd zZM zmX10_importLine 129 (o_iload 2 130) := s_iload_n (k := 2) (by decide +kernel) rfl
theorem iX10_importLine_130 : zSnd zZM zmX10_importLine 130 (o_aload 0 131) := s_aload_n (k := 0) (by decide +kernel) rfl
theorem iX10_importLine_131 : zSnd zZM zmX10_importLine 131 (o_getf zYM 0 12 134) := s_getf zcX10 fX10_127 (by decide +kernel) (by decide +kernel)
theorem iX10_importLine_134 : zSnd zZM zmX10_importLine 134 (o_ast zYM .int (fun x => x) 135) := s_iast (by decide +kernel)
theorem iX10_importLine_135 : zSnd zZM zmX10_importLine 135 (o_iload 4 137) := s_iload (by decide +kernel)
theorem iX10_importLine_137 : zSnd zZM zmX10_importLine 137 (o_if0 (fun x => x = 0) 140 153) := s_if_ne (off := 16) (by decide +kernel) (by decide +kernel)
theorem iX10_importLine_140 : zSnd zZM zmX10_importLine 140 (o_aload 1 141) := s_aload_n (k := 1) (by decide +kernel) rfl
theorem iX10_importLine_141 : zSnd zZM zmX10_importLine 141 (o_getf zYM 1 25 144) := s_getf zcX9 fX10_314 (by decide +kernel) (by decide +kernel)
theorem iX10_importLine_144 : zSnd zZM zmX10_importLine 144 (o_iload 2 145) := s_iload_n (k := 2) (by decide +kernel) rfl
theorem iX10_importLine_145 : zSnd zZM zmX10_importLine 145 (o_aload 0 146) := s_aload_n (k := 0) (by decide +kernel) rfl
set_option maxRecDepth 20000 in
theorem iX10_importLine_146 : zSnd zZM zmX10_importLine 146 (o_callV zZM 0 zmX10_u 0 2 149) := s_callV (idx := 144) zcX10 calX10_u virX10_u dscX10_u (by decide +kernel) (zWS6 105 rfl rfl) (by decide +kernel)
theorem iX10_importLine_149 : zSnd zZM zmX10_importLine 149 (o_last zYM 150) := s_last (by decide +kernel)
theorem iX10_importLine_150 : zSnd zZM zmX10_importLine 150 (o_goto 207) := s_goto (off := 57) (by decide +kernel) (by decide +kernel)
theorem iX10_importLine_153 : zSnd zZM zmX10_importLine 153 (o_iload 4 155) := s_iload (by decide +kernel)
theorem iX10_importLine_155 : zSnd zZM zmX10_importLine 155 (o_ic 3 156) := s_iconst (i := 3) (by decide +kernel) (by decide +kernel)
theorem iX10_importLine_156 : zSnd zZM zmX10_importLine 156 (o_icmp (fun x y => x = y) 159 183) := s_icmp_ne (off := 27) (by decide +kernel) (by decide +kernel)
theorem iX10_importLine_159 : zSnd zZM zmX10_importLine 159 (o_aload 1 160) := s_aload_n (k := 1) (by decide +kernel) rfl
theorem iX10_importLine_160 : zSnd zZM zmX10_importLine 160 (o_getf zYM 1 25 163) := s_getf zcX9 fX10_314 (by decide +kernel) (by decide +kernel)
theorem iX10_importLine_163 : zSnd zZM zmX10_importLine 163 (o_iload 2 164) := s_iload_n (k := 2) (by decide +kernel) rfl
theorem iX10_importLine_164 : zSnd zZM zmX10_importLine 164 (o_aload 0 165) := s_aload_n (k := 0) (by decide +kernel) rfl
set_option maxRecDepth 20000 in
theorem iX10_importLine_165 : zSnd zZM zmX10_importLine 165 (o_callV zZM 0 zmX10_type 0 1 168) := s_callV (idx := 290) zcX10 calX10_type virX10_type dscX10_type (by decide +kernel) (zWS6 126 rfl rfl) (by decide +kernel)
theorem iX10_importLine_168 : zSnd zZM zmX10_importLine 168 (o_i2l 169) := s_i2l (by decide +kernel)
theorem iX10_importLine_169 : zSnd zZM zmX10_importLine 169 (o_last zYM 170) := s_last (by decide +kernel)
theorem iX10_importLine_170 : zSnd zZM zmX10_importLine 170 (o_aload 1 171) := s_aload_n (k := 1) (by decide +kernel) rfl
theorem iX10_importLine_171 : zSnd zZM zmX10_importLine 171 (o_getf zYM 1 28 174) := s_getf zcX9 fX10_317 (by decide +kernel) (by decide +kernel)
theorem iX10_importLine_174 : zSnd zZM zmX10_importLine 174 (o_iload 2 175) := s_iload_n (k := 2) (by decide +kernel) rfl
theorem iX10_importLine_175 : zSnd zZM zmX10_importLine 175 (o_aload 0 176) := s_aload_n (k := 0) (by decide +kernel) rfl
set_option maxRecDepth 20000 in
theorem iX10_importLine_176 : zSnd zZM zmX10_importLine 176 (o_callV zZM 0 zmX10_flag 0 1 179) := s_callV (idx := 320) zcX10 calX10_flag virX10_flag dscX10_flag (by decide +kernel) (zWS6 134 rfl rfl) (by decide +kernel)
theorem iX10_importLine_179 : zSnd zZM zmX10_importLine 179 (o_ast zYM .boolean (fun x => vp_nar .boolean x) 180) := s_zast (by decide +kernel)
theorem iX10_importLine_180 : zSnd zZM zmX10_importLine 180 (o_goto 207) := s_goto (off := 27) (by decide +kernel) (by decide +kernel)
theorem iX10_importLine_183 : zSnd zZM zmX10_importLine 183 (o_aload 0 184) := s_aload_n (k := 0) (by decide +kernel) rfl
set_option maxRecDepth 20000 in
theorem iX10_importLine_184 : zSnd zZM zmX10_importLine 184 (o_callV zZM 0 zmX10_limits 0 0 187) := s_callV (idx := 324) zcX10 calX10_limits virX10_limits dscX10_limits (by decide +kernel) (zWS6 138 rfl rfl) (by decide +kernel)
theorem iX10_importLine_187 : zSnd zZM zmX10_importLine 187 (o_aload 1 188) := s_aload_n (k := 1) (by decide +kernel) rfl
theorem iX10_importLine_188 : zSnd zZM zmX10_importLine 188 (o_getf zYM 1 29 191) := s_getf zcX9 fX10_327 (by decide +kernel) (by decide +kernel)
theorem iX10_importLine_191 : zSnd zZM zmX10_importLine 191 (o_iload 2 192) := s_iload_n (k := 2) (by decide +kernel) rfl
theorem iX10_importLine_192 : zSnd zZM zmX10_importLine 192 (o_aload 0 193) := s_aload_n (k := 0) (by decide +kernel) rfl
theorem iX10_importLine_193 : zSnd zZM zmX10_importLine 193 (o_getf zYM 0 16 196) := s_getf zcX10 fX10_196 (by decide +kernel) (by decide +kernel)
theorem iX10_importLine_196 : zSnd zZM zmX10_importLine 196 (o_last zYM 197) := s_last (by decide +kernel)
theorem iX10_importLine_197 : zSnd zZM zmX10_importLine 197 (o_aload 1 198) := s_aload_n (k := 1) (by decide +kernel) rfl
theorem iX10_importLine_198 : zSnd zZM zmX10_importLine 198 (o_getf zYM 1 30 201) := s_getf zcX9 fX10_330 (by decide +kernel) (by decide +kernel)
theorem iX10_importLine_201 : zSnd zZM zmX10_importLine 201 (o_iload 2 202) := s_iload_n (k := 2) (by decide +kernel) rfl
theorem iX10_importLine_202 : zSnd zZM zmX10_importLine 202 (o_aload 0 203) := s_aload_n (k := 0) (by decide +kernel) rfl
theorem iX10_importLine_203 : zSnd zZM zmX10_importLine 203 (o_getf zYM 0 17 206) := s_getf zcX10 fX10_200 (by decide +kernel) (by decide +kernel)
theorem iX10_importLine_206 : zSnd zZM zmX10_importLine 206 (o_last zYM 207) := s_last (by decide +kernel)
theorem iX10_importLine_207 : zSnd zZM zmX10_importLine 207 (o_aload 1 208) := s_aload_n (k := 1) (by decide +kernel) rfl
theorem iX10_importLine_208 : zSnd zZM zmX10_importLine 208 (o_getf zYM 1 56 211) := s_getf zcX9 fX10_333 (by decide +kernel) (by decide +kernel)
theorem iX10_importLine_211 : zSnd zZM zmX10_importLine 211 (o_iload 4 213) := s_iload (by decide +kernel)
theorem iX10_importLine_213 : zSnd zZM zmX10_importLine 213 (o_ic 32 215) := s_bipush (i := 32) (by decide +kernel) (by decide +kernel)
theorem iX10_importLine_215 : zSnd zZM zmX10_importLine 215 (o_ibin (fun x y => x * y) 216) := s_imul (by decide +kernel)
theorem iX10_importLine_216 : zSnd zZM zmX10_importLine 216 (o_aload 1 217) := s_aload_n (k := 1) (by decide +kernel) rfl
theorem iX10_importLine_217 : zSnd zZM zmX10_importLine 217 (o_getf zYM 1 55 220) := s_getf zcX9 fX10_218 (by decide +kernel) (by decide +kernel)
theorem iX10_importLine_220 : zSnd zZM zmX10_importLine 220 (o_iload 4 222) := s_iload (by decide +kernel)
theorem iX10_importLine_222 : zSnd zZM zmX10_importLine 222 (o_ald zYM .int 223) := s_iald (by decide +kernel)
theorem iX10_importLine_223 : zSnd zZM zmX10_importLine 223 (o_ibin (fun x y => x + y) 224) := s_iadd (by decide +kernel)
theorem iX10_importLine_224 : zSnd zZM zmX10_importLine 224 (o_iload 2 225) := s_iload_n (k := 2) (by decide +kernel) rfl
theorem iX10_importLine_225 : zSnd zZM zmX10_importLine 225 (o_ast zYM .int (fun x => x) 226) := s_iast (by decide +kernel)
theorem iX10_importLine_226 : zSnd zZM zmX10_importLine 226 (o_aload 1 227) := s_aload_n (k := 1) (by decide +kernel) rfl
theorem iX10_importLine_227 : zSnd zZM zmX10_importLine 227 (o_getf zYM 1 55 230) := s_getf zcX9 fX10_218 (by decide +kernel) (by decide +kernel)
theorem iX10_importLine_230 : zSnd zZM zmX10_importLine 230 (o_iload 4 232) := s_iload (by decide +kernel)
theorem iX10_importLine_232 : zSnd zZM zmX10_importLine 232 (o_dup2 233) := s_dup2 (by decide +kernel)
theorem iX10_importLine_233 : zSnd zZM zmX10_importLine 233 (o_ald zYM .int 234) := s_iald (by decide +kernel)
theorem iX10_importLine_234 : zSnd zZM zmX10_importLine 234 (o_ic 1 235) := s_iconst (i := 1) (by decide +kernel) (by decide +kernel)
theorem iX10_importLine_235 : zSnd zZM zmX10_importLine 235 (o_ibin (fun x y => x + y) 236) := s_iadd (by decide +kernel)
theorem iX10_importLine_236 : zSnd zZM zmX10_importLine 236 (o_ast zYM .int (fun x => x) 237) := s_iast (by decide +kernel)
theorem iX10_importLine_237 : zSnd zZM zmX10_importLine 237 (o_aload 1 238) := s_aload_n (k := 1) (by decide +kernel) rfl
theorem iX10_importLine_238 : zSnd zZM zmX10_importLine 238 (o_dup 239) := s_dup (by decide +kernel)
theorem iX10_importLine_239 : zSnd zZM zmX10_importLine 239 (o_getf zYM 1 3 242) := s_getf zcX9 fX10_100 (by decide +kernel) (by decide +kernel)
theorem iX10_importLine_242 : zSnd zZM zmX10_importLine 242 (o_ic 1 243) := s_iconst (i := 1) (by decide +kernel) (by decide +kernel)
theorem iX10_importLine_243 : zSnd zZM zmX10_importLine 243 (o_ibin (fun x y => x + y) 244) := s_iadd (by decide +kernel)
theorem iX10_importLine_244 : zSnd zZM zmX10_importLine 244 (o_putI zYM 1 3 247) := s_putI zcX9 fX10_100 (by decide +kernel) rfl rfl (by decide +kernel)
theorem iX10_importLine_247 : zSnd zZM zmX10_importLine 247 (o_vret) := s_vret rfl (by decide +kernel)
def kX10_importLine : List (Nat × zOp) := [(0, o_aload 1 1),
  (1, o_getf zYM 1 3 4),
  (4, o_istore 2 5),
  (5, o_iload 2 6),
  (6, o_ic 32 8),
  (8, o_icmp (fun x y => x = y) 11 21),
  (11, o_aload 0 12),
  (12, o_ic 4 13),
  (13, o_aload 0 14),
  (14, o_getf zYM 0 12 17),
  (17, o_callV zZM 0 zmX10_wrong 2 3 20),
  (20, o_athrow zYM 2),
  (21, o_aload 1 22),
  (22, o_getf zYM 1 27 25),
  (25, o_iload 2 26),
  (26, o_aload 0 27),
  (27, o_getf zYM 0 12 30),
  (30, o_ast zYM .int (fun x => x) 31),
  (31, o_aload 0 32),
  (32, o_ic 1 33),
  (33, o_callV zZM 0 zmX10_nameItem 1 0 36),
  (36, o_aload 1 37),
  (37, o_getf zYM 1 20 40),
  (40, o_iload 2 41),
  (41, o_aload 0 42),
  (42, o_getf zYM 0 14 45),
  (45, o_ast zYM .int (fun x => x) 46),
  (46, o_aload 1 47),
  (47, o_getf zYM 1 21 50),
  (50, o_iload 2 51),
  (51, o_aload 0 52),
  (52, o_getf zYM 0 15 55),
  (55, o_ast zYM .int (fun x => x) 56),
  (56, o_aload 0 57),
  (57, o_ic 1 58),
  (58, o_callV zZM 0 zmX10_nameItem 1 0 61),
  (61, o_aload 1 62),
  (62, o_getf zYM 1 22 65),
  (65, o_iload 2 66),
  (66, o_aload 0 67),
  (67, o_getf zYM 0 14 70),
  (70, o_ast zYM .int (fun x => x) 71),
  (71, o_aload 1 72),
  (72, o_getf zYM 1 23 75),
  (75, o_iload 2 76),
  (76, o_aload 0 77),
  (77, o_getf zYM 0 15 80),
  (80, o_ast zYM .int (fun x => x) 81),
  (81, o_aload 0 82),
  (82, o_getf zYM 0 12 85),
  (85, o_istore 3 86),
  (86, o_aload 0 87),
  (87, o_callV zZM 0 zmX10_octet 0 1 90),
  (90, o_istore 4 92),
  (92, o_iload 4 94),
  (94, o_ic 3 95),
  (95, o_icmp (fun x y => x ≤ y) 105 98),
  (98, o_aload 0 99),
  (99, o_ic 1 100),
  (100, o_iload 3 101),
  (101, o_callV zZM 0 zmX10_wrong 2 3 104),
  (104, o_athrow zYM 2),
  (105, o_aload 1 106),
  (106, o_getf zYM 1 24 109),
  (109, o_iload 2 110),
  (110, o_iload 4 112),
  (112, o_ast zYM .int (fun x => x) 113),
  (113, o_iload 4 115),
  (115, o_ic 1 116),
  (116, o_icmp (fun x y => x = y) 119 125),
  (119, o_aload 0 120),
  (120, o_ic 112 122),
  (122, o_callV zZM 0 zmX10_needOctet 1 0 125),
  (125, o_aload 1 126),
  (126, o_getf zYM 1 26 129),
  (129, o_iload 2 130),
  (130, o_aload 0 131),
  (131, o_getf zYM 0 12 134),
  (134, o_ast zYM .int (fun x => x) 135),
  (135, o_iload 4 137),
  (137, o_if0 (fun x => x = 0) 140 153),
  (140, o_aload 1 141),
  (141, o_getf zYM 1 25 144),
  (144, o_iload 2 145),
  (145, o_aload 0 146),
  (146, o_callV zZM 0 zmX10_u 0 2 149),
  (149, o_last zYM 150),
  (150, o_goto 207),
  (153, o_iload 4 155),
  (155, o_ic 3 156),
  (156, o_icmp (fun x y => x = y) 159 183),
  (159, o_aload 1 160),
  (160, o_getf zYM 1 25 163),
  (163, o_iload 2 164),
  (164, o_aload 0 165),
  (165, o_callV zZM 0 zmX10_type 0 1 168),
  (168, o_i2l 169),
  (169, o_last zYM 170),
  (170, o_aload 1 171),
  (171, o_getf zYM 1 28 174),
  (174, o_iload 2 175),
  (175, o_aload 0 176),
  (176, o_callV zZM 0 zmX10_flag 0 1 179),
  (179, o_ast zYM .boolean (fun x => vp_nar .boolean x) 180),
  (180, o_goto 207),
  (183, o_aload 0 184),
  (184, o_callV zZM 0 zmX10_limits 0 0 187),
  (187, o_aload 1 188),
  (188, o_getf zYM 1 29 191),
  (191, o_iload 2 192),
  (192, o_aload 0 193),
  (193, o_getf zYM 0 16 196),
  (196, o_last zYM 197),
  (197, o_aload 1 198),
  (198, o_getf zYM 1 30 201),
  (201, o_iload 2 202),
  (202, o_aload 0 203),
  (203, o_getf zYM 0 17 206),
  (206, o_last zYM 207),
  (207, o_aload 1 208),
  (208, o_getf zYM 1 56 211),
  (211, o_iload 4 213),
  (213, o_ic 32 215),
  (215, o_ibin (fun x y => x * y) 216),
  (216, o_aload 1 217),
  (217, o_getf zYM 1 55 220),
  (220, o_iload 4 222),
  (222, o_ald zYM .int 223),
  (223, o_ibin (fun x y => x + y) 224),
  (224, o_iload 2 225),
  (225, o_ast zYM .int (fun x => x) 226),
  (226, o_aload 1 227),
  (227, o_getf zYM 1 55 230),
  (230, o_iload 4 232),
  (232, o_dup2 233),
  (233, o_ald zYM .int 234),
  (234, o_ic 1 235),
  (235, o_ibin (fun x y => x + y) 236),
  (236, o_ast zYM .int (fun x => x) 237),
  (237, o_aload 1 238),
  (238, o_dup 239),
  (239, o_getf zYM 1 3 242),
  (242, o_ic 1 243),
  (243, o_ibin (fun x y => x + y) 244),
  (244, o_putI zYM 1 3 247),
  (247, o_vret)]
set_option maxRecDepth 100000 in
theorem ksX10_importLine : ∀ q ∈ kX10_importLine, zSnd zZM zmX10_importLine q.1 q.2 := zcc iX10_importLine_0 (zcc iX10_importLine_1 (zcc iX10_importLine_4 (zcc iX10_importLine_5 (zcc iX10_importLine_6 (zcc iX10_importLine_8 (zcc iX10_importLine_11 (zcc iX10_importLine_12 (zcc iX10_importLine_13 (zcc iX10_importLine_14 (zcc iX10_importLine_17 (zcc iX10_importLine_20 (zcc iX10_importLine_21 (zcc iX10_importLine_22 (zcc iX10_importLine_25 (zcc iX10_importLine_26 (zcc iX10_importLine_27 (zcc iX10_importLine_30 (zcc iX10_importLine_31 (zcc iX10_importLine_32 (zcc iX10_importLine_33 (zcc iX10_importLine_36 (zcc iX10_importLine_37 (zcc iX10_importLine_40 (zcc iX10_importLine_41 (zcc iX10_importLine_42 (zcc iX10_importLine_45 (zcc iX10_importLine_46 (zcc iX10_importLine_47 (zcc iX10_importLine_50 (zcc iX10_importLine_51 (zcc iX10_importLine_52 (zcc iX10_importLine_55 (zcc iX10_importLine_56 (zcc iX10_importLine_57 (zcc iX10_importLine_58 (zcc iX10_importLine_61 (zcc iX10_importLine_62 (zcc iX10_importLine_65 (zcc iX10_importLine_66 (zcc iX10_importLine_67 (zcc iX10_importLine_70 (zcc iX10_importLine_71 (zcc iX10_importLine_72 (zcc iX10_importLine_75 (zcc iX10_importLine_76 (zcc iX10_importLine_77 (zcc iX10_importLine_80 (zcc iX10_importLine_81 (zcc iX10_importLine_82 (zcc iX10_importLine_85 (zcc iX10_importLine_86 (zcc iX10_importLine_87 (zcc iX10_importLine_90 (zcc iX10_importLine_92 (zcc iX10_importLine_94 (zcc iX10_importLine_95 (zcc iX10_importLine_98 (zcc iX10_importLine_99 (zcc iX10_importLine_100 (zcc iX10_importLine_101 (zcc iX10_importLine_104 (zcc iX10_importLine_105 (zcc iX10_importLine_106 (zcc iX10_importLine_109 (zcc iX10_importLine_110 (zcc iX10_importLine_112 (zcc iX10_importLine_113 (zcc iX10_importLine_115 (zcc iX10_importLine_116 (zcc iX10_importLine_119 (zcc iX10_importLine_120 (zcc iX10_importLine_122 (zcc iX10_importLine_125 (zcc iX10_importLine_126 (zcc iX10_importLine_129 (zcc iX10_importLine_130 (zcc iX10_importLine_131 (zcc iX10_importLine_134 (zcc iX10_importLine_135 (zcc iX10_importLine_137 (zcc iX10_importLine_140 (zcc iX10_importLine_141 (zcc iX10_importLine_144 (zcc iX10_importLine_145 (zcc iX10_importLine_146 (zcc iX10_importLine_149 (zcc iX10_importLine_150 (zcc iX10_importLine_153 (zcc iX10_importLine_155 (zcc iX10_importLine_156 (zcc iX10_importLine_159 (zcc iX10_importLine_160 (zcc iX10_importLine_163 (zcc iX10_importLine_164 (zcc iX10_importLine_165 (zcc iX10_importLine_168 (zcc iX10_importLine_169 (zcc iX10_importLine_170 (zcc iX10_importLine_171 (zcc iX10_importLine_174 (zcc iX10_importLine_175 (zcc iX10_importLine_176 (zcc iX10_importLine_179 (zcc iX10_importLine_180 (zcc iX10_importLine_183 (zcc iX10_importLine_184 (zcc iX10_importLine_187 (zcc iX10_importLine_188 (zcc iX10_importLine_191 (zcc iX10_importLine_192 (zcc iX10_importLine_193 (zcc iX10_importLine_196 (zcc iX10_importLine_197 (zcc iX10_importLine_198 (zcc iX10_importLine_201 (zcc iX10_importLine_202 (zcc iX10_importLine_203 (zcc iX10_importLine_206 (zcc iX10_importLine_207 (zcc iX10_importLine_208 (zcc iX10_importLine_211 (zcc iX10_importLine_213 (zcc iX10_importLine_215 (zcc iX10_importLine_216 (zcc iX10_importLine_217 (zcc iX10_importLine_220 (zcc iX10_importLine_222 (zcc iX10_importLine_223 (zcc iX10_importLine_224 (zcc iX10_importLine_225 (zcc iX10_importLine_226 (zcc iX10_importLine_227 (zcc iX10_importLine_230 (zcc iX10_importLine_232 (zcc iX10_importLine_233 (zcc iX10_importLine_234 (zcc iX10_importLine_235 (zcc iX10_importLine_236 (zcc iX10_importLine_237 (zcc iX10_importLine_238 (zcc iX10_importLine_239 (zcc iX10_importLine_242 (zcc iX10_importLine_243 (zcc iX10_importLine_244 (zcc iX10_importLine_247 zcn)))))))))))))))))))))))))))))))))))))))))))))))))))))))))))))))))))))))))))))))))))))))))))))))))))))))))))))))))))))))))))))))))))))))))))))))))
theorem iX10_locals_0 : zSnd zZM zmX10_locals 0 (o_aload 0 1) := s_aload_n (k := 0) (by decide +kernel) rfl
theorem iX10_locals_1 : zSnd zZM zmX10_locals 1 (o_iload 1 2) := s_iload_n (k := 1) (by decide +kernel) rfl
set_option maxRecDepth 20000 in
theorem iX10_locals_2 : zSnd zZM zmX10_locals 2 (o_callV zZM 0 zmX10_isOwn 1 1 5) := s_callV (idx := 152) zcX10 calX10_isOwn virX10_isOwn dscX10_isOwn (by decide +kernel) (zWS7 118 rfl rfl) (by decide +kernel)
theorem iX10_locals_5 : zSnd zZM zmX10_locals 5 (o_if0 (fun x => x = 0) 8 10) := s_if_ne (off := 5) (by decide +kernel) (by decide +kernel)
theorem iX10_locals_8 : zSnd zZM zmX10_locals 8 (o_ic (-1) 9) := s_iconst (i := (-1)) (by decide +kernel) (by decide +kernel)
theorem iX10_locals_9 : zSnd zZM zmX10_locals 9 (o_iret) := s_iret rfl (by decide +kernel)
theorem iX10_locals_10 : zSnd zZM zmX10_locals 10 (o_aload 0 11) := s_aload_n (k := 0) (by decide +kernel) rfl
theorem iX10_locals_11 : zSnd zZM zmX10_locals 11 (o_aload 0 12) := s_aload_n (k := 0) (by decide +kernel) rfl
theorem iX10_locals_12 : zSnd zZM zmX10_locals 12 (o_getf zYM 0 0 15) := s_getf zcX10 fX10_10 (by decide +kernel) (by decide +kernel)
theorem iX10_locals_15 : zSnd zZM zmX10_locals 15 (o_getf zYM 1 54 18) := s_getf zcX9 fX10_130 (by decide +kernel) (by decide +kernel)
theorem iX10_locals_18 : zSnd zZM zmX10_locals 18 (o_iload 1 19) := s_iload_n (k := 1) (by decide +kernel) rfl
theorem iX10_locals_19 : zSnd zZM zmX10_locals 19 (o_ald zYM .int 20) := s_iald (by decide +kernel)
theorem iX10_locals_20 : zSnd zZM zmX10_locals 20 (o_putI zYM 0 13 23) := s_putI zcX10 fX10_133 (by decide +kernel) rfl rfl (by decide +kernel)
theorem iX10_locals_23 : zSnd zZM zmX10_locals 23 (o_aload 0 24) := s_aload_n (k := 0) (by decide +kernel) rfl
theorem iX10_locals_24 : zSnd zZM zmX10_locals 24 (o_aload 0 25) := s_aload_n (k := 0) (by decide +kernel) rfl
theorem iX10_locals_25 : zSnd zZM zmX10_locals 25 (o_getf zYM 0 0 28) := s_getf zcX10 fX10_10 (by decide +kernel) (by decide +kernel)
theorem iX10_locals_28 : zSnd zZM zmX10_locals 28 (o_getf zYM 1 19 31) := s_getf zcX9 fX10_160 (by decide +kernel) (by decide +kernel)
theorem iX10_locals_31 : zSnd zZM zmX10_locals 31 (o_aload 0 32) := s_aload_n (k := 0) (by decide +kernel) rfl
theorem iX10_locals_32 : zSnd zZM zmX10_locals 32 (o_getf zYM 0 0 35) := s_getf zcX10 fX10_10 (by decide +kernel) (by decide +kernel)
theorem iX10_locals_35 : zSnd zZM zmX10_locals 35 (o_getf zYM 1 31 38) := s_getf zcX9 fX10_163 (by decide +kernel) (by decide +kernel)
theorem iX10_locals_38 : zSnd zZM zmX10_locals 38 (o_iload 1 39) := s_iload_n (k := 1) (by decide +kernel) rfl
theorem iX10_locals_39 : zSnd zZM zmX10_locals 39 (o_lald zYM 40) := s_lald (by decide +kernel)
theorem iX10_locals_40 : zSnd zZM zmX10_locals 40 (o_l2i 41) := s_l2i (by decide +kernel)
theorem iX10_locals_41 : zSnd zZM zmX10_locals 41 (o_ald zYM .int 42) := s_iald (by decide +kernel)
theorem iX10_locals_42 : zSnd zZM zmX10_locals 42 (o_aload 0 43) := s_aload_n (k := 0) (by decide +kernel) rfl
theorem iX10_locals_43 : zSnd zZM zmX10_locals 43 (o_getf zYM 0 0 46) := s_getf zcX10 fX10_10 (by decide +kernel) (by decide +kernel)
theorem iX10_locals_46 : zSnd zZM zmX10_locals 46 (o_getf zYM 1 52 49) := s_getf zcX9 fX10_167 (by decide +kernel) (by decide +kernel)
theorem iX10_locals_49 : zSnd zZM zmX10_locals 49 (o_iload 1 50) := s_iload_n (k := 1) (by decide +kernel) rfl
theorem iX10_locals_50 : zSnd zZM zmX10_locals 50 (o_ald zYM .int 51) := s_iald (by decide +kernel)
set_option maxRecDepth 20000 in
theorem iX10_locals_51 : zSnd zZM zmX10_locals 51 (o_callV zZM 0 zmX10_readLocals 2 0 54) := s_callV (idx := 170) zcX10 calX10_readLocals virX10_readLocals dscX10_readLocals (by decide +kernel) (zWS7 37 rfl rfl) (by decide +kernel)
theorem iX10_locals_54 : zSnd zZM zmX10_locals 54 (o_aload 0 55) := s_aload_n (k := 0) (by decide +kernel) rfl
theorem iX10_locals_55 : zSnd zZM zmX10_locals 55 (o_getf zYM 0 30 58) := s_getf zcX10 fX10_173 (by decide +kernel) (by decide +kernel)
theorem iX10_locals_58 : zSnd zZM zmX10_locals 58 (o_iret) := s_iret rfl (by decide +kernel)
def kX10_locals : List (Nat × zOp) := [(0, o_aload 0 1),
  (1, o_iload 1 2),
  (2, o_callV zZM 0 zmX10_isOwn 1 1 5),
  (5, o_if0 (fun x => x = 0) 8 10),
  (8, o_ic (-1) 9),
  (9, o_iret),
  (10, o_aload 0 11),
  (11, o_aload 0 12),
  (12, o_getf zYM 0 0 15),
  (15, o_getf zYM 1 54 18),
  (18, o_iload 1 19),
  (19, o_ald zYM .int 20),
  (20, o_putI zYM 0 13 23),
  (23, o_aload 0 24),
  (24, o_aload 0 25),
  (25, o_getf zYM 0 0 28),
  (28, o_getf zYM 1 19 31),
  (31, o_aload 0 32),
  (32, o_getf zYM 0 0 35),
  (35, o_getf zYM 1 31 38),
  (38, o_iload 1 39),
  (39, o_lald zYM 40),
  (40, o_l2i 41),
  (41, o_ald zYM .int 42),
  (42, o_aload 0 43),
  (43, o_getf zYM 0 0 46),
  (46, o_getf zYM 1 52 49),
  (49, o_iload 1 50),
  (50, o_ald zYM .int 51),
  (51, o_callV zZM 0 zmX10_readLocals 2 0 54),
  (54, o_aload 0 55),
  (55, o_getf zYM 0 30 58),
  (58, o_iret)]
set_option maxRecDepth 100000 in
theorem ksX10_locals : ∀ q ∈ kX10_locals, zSnd zZM zmX10_locals q.1 q.2 := zcc iX10_locals_0 (zcc iX10_locals_1 (zcc iX10_locals_2 (zcc iX10_locals_5 (zcc iX10_locals_8 (zcc iX10_locals_9 (zcc iX10_locals_10 (zcc iX10_locals_11 (zcc iX10_locals_12 (zcc iX10_locals_15 (zcc iX10_locals_18 (zcc iX10_locals_19 (zcc iX10_locals_20 (zcc iX10_locals_23 (zcc iX10_locals_24 (zcc iX10_locals_25 (zcc iX10_locals_28 (zcc iX10_locals_31 (zcc iX10_locals_32 (zcc iX10_locals_35 (zcc iX10_locals_38 (zcc iX10_locals_39 (zcc iX10_locals_40 (zcc iX10_locals_41 (zcc iX10_locals_42 (zcc iX10_locals_43 (zcc iX10_locals_46 (zcc iX10_locals_49 (zcc iX10_locals_50 (zcc iX10_locals_51 (zcc iX10_locals_54 (zcc iX10_locals_55 (zcc iX10_locals_58 zcn))))))))))))))))))))))))))))))))
theorem iX10_operands_0 : zSnd zZM zmX10_operands 0 (o_iload 1 1) := s_iload_n (k := 1) (by decide +kernel) rfl
set_option maxRecDepth 20000 in
theorem iX10_operands_1 : zSnd zZM zmX10_operands 1 (o_callS zZM zmX10_follows 1 1 4) := s_callS (idx := 422) calX10_follows virX10_follows dscX10_follows (by decide +kernel) (zWS6 189 rfl rfl) (by decide +kernel)
theorem iX10_operands_4 : zSnd zZM zmX10_operands 4 (o_sw [([0], 60), ([1], 61), ([2], 67), ([3], 73), ([4], 80), ([5], 86), ([6], 97), ([7], 108), ([8], 114), ([9], 167)] 173) := s_tsw (dflt := 169) (lo := 0) (hi := 9) (offs := #[56, 57, 63, 69, 76, 82, 93, 104, 110, 163]) (len := 56) (by decide +kernel) (by decide +kernel) (by decide +kernel) (by decide +kernel)
theorem iX10_operands_60 : zSnd zZM zmX10_operands 60 (o_vret) := s_vret rfl (by decide +kernel)
theorem iX10_operands_61 : zSnd zZM zmX10_operands 61 (o_aload 0 62) := s_aload_n (k := 0) (by decide +kernel) rfl
set_option maxRecDepth 20000 in
theorem iX10_operands_62 : zSnd zZM zmX10_operands 62 (o_callV zZM 0 zmX10_blockType 0 1 65) := s_callV (idx := 425) zcX10 calX10_blockType virX10_blockType dscX10_blockType (by decide +kernel) (zWS6 198 rfl rfl) (by decide +kernel)
theorem iX10_operands_65 : zSnd zZM zmX10_operands 65 (o_pop 66) := s_pop (by decide +kernel)
theorem iX10_operands_66 : zSnd zZM zmX10_operands 66 (o_vret) := s_vret rfl (by decide +kernel)
theorem iX10_operands_67 : zSnd zZM zmX10_operands 67 (o_aload 0 68) := s_aload_n (k := 0) (by decide +kernel) rfl
set_option maxRecDepth 20000 in
theorem iX10_operands_68 : zSnd zZM zmX10_operands 68 (o_callV zZM 0 zmX10_u 0 2 71) := s_callV (idx := 144) zcX10 calX10_u virX10_u dscX10_u (by decide +kernel) (zWS6 105 rfl rfl) (by decide +kernel)
theorem iX10_operands_71 : zSnd zZM zmX10_operands 71 (o_lstore 3 72) := s_lstore_n (k := 3) (by decide +kernel) rfl (by decide +kernel)
theorem iX10_operands_72 : zSnd zZM zmX10_operands 72 (o_vret) := s_vret rfl (by decide +kernel)
theorem iX10_operands_73 : zSnd zZM zmX10_operands 73 (o_aload 0 74) := s_aload_n (k := 0) (by decide +kernel) rfl
set_option maxRecDepth 20000 in
theorem iX10_operands_74 : zSnd zZM zmX10_operands 74 (o_callV zZM 0 zmX10_s 0 1 77) := s_callV (idx := 203) zcX10 calX10_s virX10_s dscX10_s (by decide +kernel) (zWS6 155 rfl rfl) (by decide +kernel)
theorem iX10_operands_77 : zSnd zZM zmX10_operands 77 (o_i2l 78) := s_i2l (by decide +kernel)
theorem iX10_operands_78 : zSnd zZM zmX10_operands 78 (o_lstore 3 79) := s_lstore_n (k := 3) (by decide +kernel) rfl (by decide +kernel)
theorem iX10_operands_79 : zSnd zZM zmX10_operands 79 (o_vret) := s_vret rfl (by decide +kernel)
theorem iX10_operands_80 : zSnd zZM zmX10_operands 80 (o_aload 0 81) := s_aload_n (k := 0) (by decide +kernel) rfl
set_option maxRecDepth 20000 in
theorem iX10_operands_81 : zSnd zZM zmX10_operands 81 (o_callV zZM 0 zmX10_l 0 2 84) := s_callV (idx := 206) zcX10 calX10_l virX10_l dscX10_l (by decide +kernel) (zWS6 163 rfl rfl) (by decide +kernel)
theorem iX10_operands_84 : zSnd zZM zmX10_operands 84 (o_lstore 3 85) := s_lstore_n (k := 3) (by decide +kernel) rfl (by decide +kernel)
theorem iX10_operands_85 : zSnd zZM zmX10_operands 85 (o_vret) := s_vret rfl (by decide +kernel)
theorem iX10_operands_86 : zSnd zZM zmX10_operands 86 (o_aload 0 87) := s_aload_n (k := 0) (by decide +kernel) rfl
set_option maxRecDepth 20000 in
theorem iX10_operands_87 : zSnd zZM zmX10_operands 87 (o_callV zZM 0 zmX10_u 0 2 90) := s_callV (idx := 144) zcX10 calX10_u virX10_u dscX10_u (by decide +kernel) (zWS6 105 rfl rfl) (by decide +kernel)
theorem iX10_operands_90 : zSnd zZM zmX10_operands 90 (o_lstore 3 91) := s_lstore_n (k := 3) (by decide +kernel) rfl (by decide +kernel)
theorem iX10_operands_91 : zSnd zZM zmX10_operands 91 (o_aload 0 92) := s_aload_n (k := 0) (by decide +kernel) rfl
set_option maxRecDepth 20000 in
theorem iX10_operands_92 : zSnd zZM zmX10_operands 92 (o_callV zZM 0 zmX10_u 0 2 95) := s_callV (idx := 144) zcX10 calX10_u virX10_u dscX10_u (by decide +kernel) (zWS6 105 rfl rfl) (by decide +kernel)
theorem iX10_operands_95 : zSnd zZM zmX10_operands 95 (o_lstore 3 96) := s_lstore_n (k := 3) (by decide +kernel) rfl (by decide +kernel)
theorem iX10_operands_96 : zSnd zZM zmX10_operands 96 (o_vret) := s_vret rfl (by decide +kernel)
theorem iX10_operands_97 : zSnd zZM zmX10_operands 97 (o_aload 0 98) := s_aload_n (k := 0) (by decide +kernel) rfl
set_option maxRecDepth 20000 in
theorem iX10_operands_98 : zSnd zZM zmX10_operands 98 (o_callV zZM 0 zmX10_u 0 2 101) := s_callV (idx := 144) zcX10 calX10_u virX10_u dscX10_u (by decide +kernel) (zWS6 105 rfl rfl) (by decide +kernel)
theorem iX10_operands_101 : zSnd zZM zmX10_operands 101 (o_lstore 3 102) := s_lstore_n (k := 3) (by decide +kernel) rfl (by decide +kernel)
theorem iX10_operands_102 : zSnd zZM zmX10_operands 102 (o_aload 0 103) := s_aload_n (k := 0) (by decide +kernel) rfl
theorem iX10_operands_103 : zSnd zZM zmX10_operands 103 (o_ic 0 104) := s_iconst (i := 0) (by decide +kernel) (by decide +kernel)
set_option maxRecDepth 20000 in
theorem iX10_operands_104 : zSnd zZM zmX10_operands 104 (o_callV zZM 0 zmX10_needOctet 1 0 107) := s_callV (idx := 209) zcX10 calX10_needOctet virX10_needOctet dscX10_needOctet (by decide +kernel) (zWS6 41 rfl rfl) (by decide +kernel)
theorem iX10_operands_107 : zSnd zZM zmX10_operands 107 (o_vret) := s_vret rfl (by decide +kernel)
theorem iX10_operands_108 : zSnd zZM zmX10_operands 108 (o_aload 0 109) := s_aload_n (k := 0) (by decide +kernel) rfl
theorem iX10_operands_109 : zSnd zZM zmX10_operands 109 (o_ic 0 110) := s_iconst (i := 0) (by decide +kernel) (by decide +kernel)
set_option maxRecDepth 20000 in
theorem iX10_operands_110 : zSnd zZM zmX10_operands 110 (o_callV zZM 0 zmX10_needOctet 1 0 113) := s_callV (idx := 209) zcX10 calX10_needOctet virX10_needOctet dscX10_needOctet (by decide +kernel) (zWS6 41 rfl rfl) (by decide +kernel)
theorem iX10_operands_113 : zSnd zZM zmX10_operands 113 (o_vret) := s_vret rfl (by decide +kernel)
theorem iX10_operands_114 : zSnd zZM zmX10_operands 114 (o_aload 0 115) := s_aload_n (k := 0) (by decide +kernel) rfl
theorem iX10_operands_115 : zSnd zZM zmX10_operands 115 (o_getf zYM 0 12 118) := s_getf zcX10 fX10_127 (by decide +kernel) (by decide +kernel)
theorem iX10_operands_118 : zSnd zZM zmX10_operands 118 (o_istore 5 120) := s_istore (by decide +kernel) (by decide +kernel)
theorem iX10_operands_120 : zSnd zZM zmX10_operands 120 (o_aload 0 121) := s_aload_n (k := 0) (by decide +kernel) rfl
set_option maxRecDepth 20000 in
theorem iX10_operands_121 : zSnd zZM zmX10_operands 121 (o_callV zZM 0 zmX10_u 0 2 124) := s_callV (idx := 144) zcX10 calX10_u virX10_u dscX10_u (by decide +kernel) (zWS6 105 rfl rfl) (by decide +kernel)
theorem iX10_operands_124 : zSnd zZM zmX10_operands 124 (o_lstore 6 126) := s_lstore (by decide +kernel) (by decide +kernel)
theorem iX10_operands_126 : zSnd zZM zmX10_operands 126 (o_lload 6 128) := s_lload (by decide +kernel)
set_option maxRecDepth 20000 in
theorem iX10_operands_128 : zSnd zZM zmX10_operands 128 (o_lc 256 131) := s_ldc2 (i := 388) (by decide +kernel) (zWS6 175 rfl rfl)
theorem iX10_operands_131 : zSnd zZM zmX10_operands 131 (o_lif (fun x y => x ≤ y) 143 135) := s_lle (off := 11) (by decide +kernel) (by decide +kernel) (by decide +kernel)
theorem iX10_operands_135 : zSnd zZM zmX10_operands 135 (o_aload 0 136) := s_aload_n (k := 0) (by decide +kernel) rfl
theorem iX10_operands_136 : zSnd zZM zmX10_operands 136 (o_ic 4 137) := s_iconst (i := 4) (by decide +kernel) (by decide +kernel)
theorem iX10_operands_137 : zSnd zZM zmX10_operands 137 (o_iload 5 139) := s_iload (by decide +kernel)
set_option maxRecDepth 20000 in
theorem iX10_operands_139 : zSnd zZM zmX10_operands 139 (o_callV zZM 0 zmX10_wrong 2 3 142) := s_callV (idx := 176) zcX10 calX10_wrong virX10_wrong dscX10_wrong (by decide +kernel) (zWS6 49 rfl rfl) (by decide +kernel)
theorem iX10_operands_142 : zSnd zZM zmX10_operands 142 (o_athrow zYM 2) := s_athrow (T := TIse) (N := 0) rfl (by decide +kernel)
theorem iX10_operands_143 : zSnd zZM zmX10_operands 143 (o_ic 0 144) := s_iconst (i := 0) (by decide +kernel) (by decide +kernel)
theorem iX10_operands_144 : zSnd zZM zmX10_operands 144 (o_istore 8 146) := s_istore (by decide +kernel) (by decide +kernel)
theorem iX10_operands_146 : zSnd zZM zmX10_operands 146 (o_iload 8 148) := s_iload (by decide +kernel)
theorem iX10_operands_148 : zSnd zZM zmX10_operands 148 (o_i2l 149) := s_i2l (by decide +kernel)
theorem iX10_operands_149 : zSnd zZM zmX10_operands 149 (o_lload 6 151) := s_lload (by decide +kernel)
theorem iX10_operands_151 : zSnd zZM zmX10_operands 151 (o_lif (fun x y => y < x) 166 155) := s_lgt (off := 14) (by decide +kernel) (by decide +kernel) (by decide +kernel)
theorem iX10_operands_155 : zSnd zZM zmX10_operands 155 (o_aload 0 156) := s_aload_n (k := 0) (by decide +kernel) rfl
set_option maxRecDepth 20000 in
theorem iX10_operands_156 : zSnd zZM zmX10_operands 156 (o_callV zZM 0 zmX10_u 0 2 159) := s_callV (idx := 144) zcX10 calX10_u virX10_u dscX10_u (by decide +kernel) (zWS6 105 rfl rfl) (by decide +kernel)
theorem iX10_operands_159 : zSnd zZM zmX10_operands 159 (o_lstore 3 160) := s_lstore_n (k := 3) (by decide +kernel) rfl (by decide +kernel)
theorem iX10_operands_160 : zSnd zZM zmX10_operands 160 (o_iinc 8 1 163) := s_iinc (a := 1) (by decide +kernel) (by decide +kernel) (by decide +kernel)
theorem iX10_operands_163 : zSnd zZM zmX10_operands 163 (o_goto 146) := s_goto (off := (-17)) (by decide +kernel) (by decide +kernel)
theorem iX10_operands_166 : zSnd zZM zmX10_operands 166 (o_vret) := s_vret rfl (by decide +kernel)
theorem iX10_operands_167 : zSnd zZM zmX10_operands 167 (o_aload 0 168) := s_aload_n (k := 0) (by decide +kernel) rfl
theorem iX10_operands_168 : zSnd zZM zmX10_operands 168 (o_iload 2 169) := s_iload_n (k := 2) (by decide +kernel) rfl
set_option maxRecDepth 20000 in
theorem iX10_operands_169 : zSnd zZM zmX10_operands 169 (o_callV zZM 0 zmX10_many 1 0 172) := s_callV (idx := 428) zcX10 calX10_many virX10_many dscX10_many (by decide +kernel) (zWS6 202 rfl rfl) (by decide +kernel)
theorem iX10_operands_172 : zSnd zZM zmX10_operands 172 (o_vret) := s_vret rfl (by decide +kernel)
theorem iX10_operands_173 : zSnd zZM zmX10_operands 173 (o_aload 0 174) := s_aload_n (k := 0) (by decide +kernel) rfl
theorem iX10_operands_174 : zSnd zZM zmX10_operands 174 (o_ic 1 175) := s_iconst (i := 1) (by decide +kernel) (by decide +kernel)
theorem iX10_operands_175 : zSnd zZM zmX10_operands 175 (o_iload 2 176) := s_iload_n (k := 2) (by decide +kernel) rfl
set_option maxRecDepth 20000 in
theorem iX10_operands_176 : zSnd zZM zmX10_operands 176 (o_callV zZM 0 zmX10_wrong 2 3 179) := s_callV (idx := 176) zcX10 calX10_wrong virX10_wrong dscX10_wrong (by decide +kernel) (zWS6 49 rfl rfl) (by decide +kernel)
theorem iX10_operands_179 : zSnd zZM zmX10_operands 179 (o_athrow zYM 2) := s_athrow (T := TIse) (N := 0) rfl (by decide +kernel)
def kX10_operands : List (Nat × zOp) := [(0, o_iload 1 1),
  (1, o_callS zZM zmX10_follows 1 1 4),
  (4, o_sw [([0], 60), ([1], 61), ([2], 67), ([3], 73), ([4], 80), ([5], 86), ([6], 97), ([7], 108), ([8], 114), ([9], 167)] 173),
  (60, o_vret),
  (61, o_aload 0 62),
  (62, o_callV zZM 0 zmX10_blockType 0 1 65),
  (65, o_pop 66),
  (66, o_vret),
  (67, o_aload 0 68),
  (68, o_callV zZM 0 zmX10_u 0 2 71),
  (71, o_lstore 3 72),
  (72, o_vret),
  (73, o_aload 0 74),
  (74, o_callV zZM 0 zmX10_s 0 1 77),
  (77, o_i2l 78),
  (78, o_lstore 3 79),
  (79, o_vret),
  (80, o_aload 0 81),
  (81, o_callV zZM 0 zmX10_l 0 2 84),
  (84, o_lstore 3 85),
  (85, o_vret),
  (86, o_aload 0 87),
  (87, o_callV zZM 0 zmX10_u 0 2 90),
  (90, o_lstore 3 91),
  (91, o_aload 0 92),
  (92, o_callV zZM 0 zmX10_u 0 2 95),
  (95, o_lstore 3 96),
  (96, o_vret),
  (97, o_aload 0 98),
  (98, o_callV zZM 0 zmX10_u 0 2 101),
  (101, o_lstore 3 102),
  (102, o_aload 0 103),
  (103, o_ic 0 104),
  (104, o_callV zZM 0 zmX10_needOctet 1 0 107),
  (107, o_vret),
  (108, o_aload 0 109),
  (109, o_ic 0 110),
  (110, o_callV zZM 0 zmX10_needOctet 1 0 113),
  (113, o_vret),
  (114, o_aload 0 115),
  (115, o_getf zYM 0 12 118),
  (118, o_istore 5 120),
  (120, o_aload 0 121),
  (121, o_callV zZM 0 zmX10_u 0 2 124),
  (124, o_lstore 6 126),
  (126, o_lload 6 128),
  (128, o_lc 256 131),
  (131, o_lif (fun x y => x ≤ y) 143 135),
  (135, o_aload 0 136),
  (136, o_ic 4 137),
  (137, o_iload 5 139),
  (139, o_callV zZM 0 zmX10_wrong 2 3 142),
  (142, o_athrow zYM 2),
  (143, o_ic 0 144),
  (144, o_istore 8 146),
  (146, o_iload 8 148),
  (148, o_i2l 149),
  (149, o_lload 6 151),
  (151, o_lif (fun x y => y < x) 166 155),
  (155, o_aload 0 156),
  (156, o_callV zZM 0 zmX10_u 0 2 159),
  (159, o_lstore 3 160),
  (160, o_iinc 8 1 163),
  (163, o_goto 146),
  (166, o_vret),
  (167, o_aload 0 168),
  (168, o_iload 2 169),
  (169, o_callV zZM 0 zmX10_many 1 0 172),
  (172, o_vret),
  (173, o_aload 0 174),
  (174, o_ic 1 175),
  (175, o_iload 2 176),
  (176, o_callV zZM 0 zmX10_wrong 2 3 179),
  (179, o_athrow zYM 2)]
set_option maxRecDepth 100000 in
theorem ksX10_operands : ∀ q ∈ kX10_operands, zSnd zZM zmX10_operands q.1 q.2 := zcc iX10_operands_0 (zcc iX10_operands_1 (zcc iX10_operands_4 (zcc iX10_operands_60 (zcc iX10_operands_61 (zcc iX10_operands_62 (zcc iX10_operands_65 (zcc iX10_operands_66 (zcc iX10_operands_67 (zcc iX10_operands_68 (zcc iX10_operands_71 (zcc iX10_operands_72 (zcc iX10_operands_73 (zcc iX10_operands_74 (zcc iX10_operands_77 (zcc iX10_operands_78 (zcc iX10_operands_79 (zcc iX10_operands_80 (zcc iX10_operands_81 (zcc iX10_operands_84 (zcc iX10_operands_85 (zcc iX10_operands_86 (zcc iX10_operands_87 (zcc iX10_operands_90 (zcc iX10_operands_91 (zcc iX10_operands_92 (zcc iX10_operands_95 (zcc iX10_operands_96 (zcc iX10_operands_97 (zcc iX10_operands_98 (zcc iX10_operands_101 (zcc iX10_operands_102 (zcc iX10_operands_103 (zcc iX10_operands_104 (zcc iX10_operands_107 (zcc iX10_operands_108 (zcc iX10_operands_109 (zcc iX10_operands_110 (zcc iX10_operands_113 (zcc iX10_operands_114 (zcc iX10_operands_115 (zcc iX10_operands_118 (zcc iX10_operands_120 (zcc iX10_operands_121 (zcc iX10_operands_124 (zcc iX10_operands_126 (zcc iX10_operands_128 (zcc iX10_operands_131 (zcc iX10_operands_135 (zcc iX10_operands_136 (zcc iX10_operands_137 (zcc iX10_operands_139 (zcc iX10_operands_142 (zcc iX10_operands_143 (zcc iX10_operands_144 (zcc iX10_operands_146 (zcc iX10_operands_148 (zcc iX10_operands_149 (zcc iX10_operands_151 (zcc iX10_operands_155 (zcc iX10_operands_156 (zcc iX10_operands_159 (zcc iX10_operands_160 (zcc iX10_operands_163 (zcc iX10_operands_166 (zcc iX10_operands_167 (zcc iX10_operands_168 (zcc iX10_operands_169 (zcc iX10_operands_172 (zcc iX10_operands_173 (zcc iX10_operands_174 (zcc iX10_operands_175 (zcc iX10_operands_176 (zcc iX10_operands_179 zcn)))))))))))))))))))))))))))))))))))))))))))))))))))))))))))))))))))))))))
theorem iX10_ownLimits_0 : zSnd zZM zmX10_ownLimits 0 (o_iload 2 1) := s_iload_n (k := 2) (by decide +kernel) rfl
theorem iX10_ownLimits_1 : zSnd zZM zmX10_ownLimits 1 (o_ic 1 2) := s_iconst (i := 1) (by decide +kernel) (by decide +kernel)
theorem iX10_ownLimits_2 : zSnd zZM zmX10_ownLimits 2 (o_ibin (fun x y => x - y) 3) := s_isub (by decide +kernel)
theorem iX10_ownLimits_3 : zSnd zZM zmX10_ownLimits 3 (o_istore 3 4) := s_istore_n (k := 3) (by decide +kernel) rfl (by decide +kernel)
theorem iX10_ownLimits_4 : zSnd zZM zmX10_ownLimits 4 (o_aload 0 5) := s_aload_n (k := 0) (by decide +kernel) rfl
theorem iX10_ownLimits_5 : zSnd zZM zmX10_ownLimits 5 (o_getf zYM 0 12 8) := s_getf zcX10 fX10_127 (by decide +kernel) (by decide +kernel)
theorem iX10_ownLimits_8 : zSnd zZM zmX10_ownLimits 8 (o_istore 4 10) := s_istore (by decide +kernel) (by decide +kernel)
theorem iX10_ownLimits_10 : zSnd zZM zmX10_ownLimits 10 (o_iload 2 11) := s_iload_n (k := 2) (by decide +kernel) rfl
theorem iX10_ownLimits_11 : zSnd zZM zmX10_ownLimits 11 (o_ic 1 12) := s_iconst (i := 1) (by decide +kernel) (by decide +kernel)
theorem iX10_ownLimits_12 : zSnd zZM zmX10_ownLimits 12 (o_icmp (fun x y => x = y) 15 21) := s_icmp_ne (off := 9) (by decide +kernel) (by decide +kernel)
theorem iX10_ownLimits_15 : zSnd zZM zmX10_ownLimits 15 (o_aload 0 16) := s_aload_n (k := 0) (by decide +kernel) rfl
theorem iX10_ownLimits_16 : zSnd zZM zmX10_ownLimits 16 (o_ic 112 18) := s_bipush (i := 112) (by decide +kernel) (by decide +kernel)
set_option maxRecDepth 20000 in
theorem iX10_ownLimits_18 : zSnd zZM zmX10_ownLimits 18 (o_callV zZM 0 zmX10_needOctet 1 0 21) := s_callV (idx := 209) zcX10 calX10_needOctet virX10_needOctet dscX10_needOctet (by decide +kernel) (zWS6 41 rfl rfl) (by decide +kernel)
theorem iX10_ownLimits_21 : zSnd zZM zmX10_ownLimits 21 (o_aload 0 22) := s_aload_n (k := 0) (by decide +kernel) rfl
theorem iX10_ownLimits_22 : zSnd zZM zmX10_ownLimits 22 (o_getf zYM 0 12 25) := s_getf zcX10 fX10_127 (by decide +kernel) (by decide +kernel)
theorem iX10_ownLimits_25 : zSnd zZM zmX10_ownLimits 25 (o_istore 5 27) := s_istore (by decide +kernel) (by decide +kernel)
theorem iX10_ownLimits_27 : zSnd zZM zmX10_ownLimits 27 (o_aload 0 28) := s_aload_n (k := 0) (by decide +kernel) rfl
set_option maxRecDepth 20000 in
theorem iX10_ownLimits_28 : zSnd zZM zmX10_ownLimits 28 (o_callV zZM 0 zmX10_limits 0 0 31) := s_callV (idx := 324) zcX10 calX10_limits virX10_limits dscX10_limits (by decide +kernel) (zWS6 138 rfl rfl) (by decide +kernel)
theorem iX10_ownLimits_31 : zSnd zZM zmX10_ownLimits 31 (o_iload 2 32) := s_iload_n (k := 2) (by decide +kernel) rfl
theorem iX10_ownLimits_32 : zSnd zZM zmX10_ownLimits 32 (o_ic 1 33) := s_iconst (i := 1) (by decide +kernel) (by decide +kernel)
theorem iX10_ownLimits_33 : zSnd zZM zmX10_ownLimits 33 (o_icmp (fun x y => x = y) 36 43) := s_icmp_ne (off := 10) (by decide +kernel) (by decide +kernel)
theorem iX10_ownLimits_36 : zSnd zZM zmX10_ownLimits 36 (o_aload 1 37) := s_aload_n (k := 1) (by decide +kernel) rfl
theorem iX10_ownLimits_37 : zSnd zZM zmX10_ownLimits 37 (o_getf zYM 1 12 40) := s_getf zcX9 fX10_106 (by decide +kernel) (by decide +kernel)
theorem iX10_ownLimits_40 : zSnd zZM zmX10_ownLimits 40 (o_goto 47) := s_goto (off := 7) (by decide +kernel) (by decide +kernel)
theorem iX10_ownLimits_43 : zSnd zZM zmX10_ownLimits 43 (o_aload 1 44) := s_aload_n (k := 1) (by decide +kernel) rfl
theorem iX10_ownLimits_44 : zSnd zZM zmX10_ownLimits 44 (o_getf zYM 1 13 47) := s_getf zcX9 fX10_109 (by decide +kernel) (by decide +kernel)
theorem iX10_ownLimits_47 : zSnd zZM zmX10_ownLimits 47 (o_istore 6 49) := s_istore (by decide +kernel) (by decide +kernel)
theorem iX10_ownLimits_49 : zSnd zZM zmX10_ownLimits 49 (o_iload 6 51) := s_iload (by decide +kernel)
theorem iX10_ownLimits_51 : zSnd zZM zmX10_ownLimits 51 (o_if0 (fun x => x = 0) 54 90) := s_if_ne (off := 39) (by decide +kernel) (by decide +kernel)
theorem iX10_ownLimits_54 : zSnd zZM zmX10_ownLimits 54 (o_aload 1 55) := s_aload_n (k := 1) (by decide +kernel) rfl
theorem iX10_ownLimits_55 : zSnd zZM zmX10_ownLimits 55 (o_getf zYM 1 14 58) := s_getf zcX9 fX10_336 (by decide +kernel) (by decide +kernel)
theorem iX10_ownLimits_58 : zSnd zZM zmX10_ownLimits 58 (o_iload 3 59) := s_iload_n (k := 3) (by decide +kernel) rfl
theorem iX10_ownLimits_59 : zSnd zZM zmX10_ownLimits 59 (o_aload 0 60) := s_aload_n (k := 0) (by decide +kernel) rfl
theorem iX10_ownLimits_60 : zSnd zZM zmX10_ownLimits 60 (o_getf zYM 0 16 63) := s_getf zcX10 fX10_196 (by decide +kernel) (by decide +kernel)
theorem iX10_ownLimits_63 : zSnd zZM zmX10_ownLimits 63 (o_last zYM 64) := s_last (by decide +kernel)
theorem iX10_ownLimits_64 : zSnd zZM zmX10_ownLimits 64 (o_aload 1 65) := s_aload_n (k := 1) (by decide +kernel) rfl
theorem iX10_ownLimits_65 : zSnd zZM zmX10_ownLimits 65 (o_getf zYM 1 15 68) := s_getf zcX9 fX10_338 (by decide +kernel) (by decide +kernel)
theorem iX10_ownLimits_68 : zSnd zZM zmX10_ownLimits 68 (o_iload 3 69) := s_iload_n (k := 3) (by decide +kernel) rfl
theorem iX10_ownLimits_69 : zSnd zZM zmX10_ownLimits 69 (o_aload 0 70) := s_aload_n (k := 0) (by decide +kernel) rfl
theorem iX10_ownLimits_70 : zSnd zZM zmX10_ownLimits 70 (o_getf zYM 0 17 73) := s_getf zcX10 fX10_200 (by decide +kernel) (by decide +kernel)
theorem iX10_ownLimits_73 : zSnd zZM zmX10_ownLimits 73 (o_last zYM 74) := s_last (by decide +kernel)
theorem iX10_ownLimits_74 : zSnd zZM zmX10_ownLimits 74 (o_aload 1 75) := s_aload_n (k := 1) (by decide +kernel) rfl
theorem iX10_ownLimits_75 : zSnd zZM zmX10_ownLimits 75 (o_getf zYM 1 16 78) := s_getf zcX9 fX10_340 (by decide +kernel) (by decide +kernel)
theorem iX10_ownLimits_78 : zSnd zZM zmX10_ownLimits 78 (o_iload 3 79) := s_iload_n (k := 3) (by decide +kernel) rfl
theorem iX10_ownLimits_79 : zSnd zZM zmX10_ownLimits 79 (o_iload 5 81) := s_iload (by decide +kernel)
theorem iX10_ownLimits_81 : zSnd zZM zmX10_ownLimits 81 (o_ast zYM .int (fun x => x) 82) := s_iast (by decide +kernel)
theorem iX10_ownLimits_82 : zSnd zZM zmX10_ownLimits 82 (o_aload 1 83) := s_aload_n (k := 1) (by decide +kernel) rfl
theorem iX10_ownLimits_83 : zSnd zZM zmX10_ownLimits 83 (o_getf zYM 1 18 86) := s_getf zcX9 fX10_343 (by decide +kernel) (by decide +kernel)
theorem iX10_ownLimits_86 : zSnd zZM zmX10_ownLimits 86 (o_iload 3 87) := s_iload_n (k := 3) (by decide +kernel) rfl
theorem iX10_ownLimits_87 : zSnd zZM zmX10_ownLimits 87 (o_iload 4 89) := s_iload (by decide +kernel)
theorem iX10_ownLimits_89 : zSnd zZM zmX10_ownLimits 89 (o_ast zYM .int (fun x => x) 90) := s_iast (by decide +kernel)
theorem iX10_ownLimits_90 : zSnd zZM zmX10_ownLimits 90 (o_iload 6 92) := s_iload (by decide +kernel)
theorem iX10_ownLimits_92 : zSnd zZM zmX10_ownLimits 92 (o_ic 1 93) := s_iconst (i := 1) (by decide +kernel) (by decide +kernel)
theorem iX10_ownLimits_93 : zSnd zZM zmX10_ownLimits 93 (o_icmp (fun x y => x = y) 96 104) := s_icmp_ne (off := 11) (by decide +kernel) (by decide +kernel)
theorem iX10_ownLimits_96 : zSnd zZM zmX10_ownLimits 96 (o_aload 1 97) := s_aload_n (k := 1) (by decide +kernel) rfl
theorem iX10_ownLimits_97 : zSnd zZM zmX10_ownLimits 97 (o_getf zYM 1 17 100) := s_getf zcX9 fX10_346 (by decide +kernel) (by decide +kernel)
theorem iX10_ownLimits_100 : zSnd zZM zmX10_ownLimits 100 (o_iload 3 101) := s_iload_n (k := 3) (by decide +kernel) rfl
theorem iX10_ownLimits_101 : zSnd zZM zmX10_ownLimits 101 (o_iload 4 103) := s_iload (by decide +kernel)
theorem iX10_ownLimits_103 : zSnd zZM zmX10_ownLimits 103 (o_ast zYM .int (fun x => x) 104) := s_iast (by decide +kernel)
theorem iX10_ownLimits_104 : zSnd zZM zmX10_ownLimits 104 (o_iload 2 105) := s_iload_n (k := 2) (by decide +kernel) rfl
theorem iX10_ownLimits_105 : zSnd zZM zmX10_ownLimits 105 (o_ic 1 106) := s_iconst (i := 1) (by decide +kernel) (by decide +kernel)
theorem iX10_ownLimits_106 : zSnd zZM zmX10_ownLimits 106 (o_icmp (fun x y => x = y) 109 122) := s_icmp_ne (off := 16) (by decide +kernel) (by decide +kernel)
theorem iX10_ownLimits_109 : zSnd zZM zmX10_ownLimits 109 (o_aload 1 110) := s_aload_n (k := 1) (by decide +kernel) rfl
theorem iX10_ownLimits_110 : zSnd zZM zmX10_ownLimits 110 (o_dup 111) := s_dup (by decide +kernel)
theorem iX10_ownLimits_111 : zSnd zZM zmX10_ownLimits 111 (o_getf zYM 1 12 114) := s_getf zcX9 fX10_106 (by decide +kernel) (by decide +kernel)
theorem iX10_ownLimits_114 : zSnd zZM zmX10_ownLimits 114 (o_ic 1 115) := s_iconst (i := 1) (by decide +kernel) (by decide +kernel)
theorem iX10_ownLimits_115 : zSnd zZM zmX10_ownLimits 115 (o_ibin (fun x y => x + y) 116) := s_iadd (by decide +kernel)
theorem iX10_ownLimits_116 : zSnd zZM zmX10_ownLimits 116 (o_putI zYM 1 12 119) := s_putI zcX9 fX10_106 (by decide +kernel) rfl rfl (by decide +kernel)
theorem iX10_ownLimits_119 : zSnd zZM zmX10_ownLimits 119 (o_goto 132) := s_goto (off := 13) (by decide +kernel) (by decide +kernel)
theorem iX10_ownLimits_122 : zSnd zZM zmX10_ownLimits 122 (o_aload 1 123) := s_aload_n (k := 1) (by decide +kernel) rfl
theorem iX10_ownLimits_123 : zSnd zZM zmX10_ownLimits 123 (o_dup 124) := s_dup (by decide +kernel)
theorem iX10_ownLimits_124 : zSnd zZM zmX10_ownLimits 124 (o_getf zYM 1 13 127) := s_getf zcX9 fX10_109 (by decide +kernel) (by decide +kernel)
theorem iX10_ownLimits_127 : zSnd zZM zmX10_ownLimits 127 (o_ic 1 128) := s_iconst (i := 1) (by decide +kernel) (by decide +kernel)
theorem iX10_ownLimits_128 : zSnd zZM zmX10_ownLimits 128 (o_ibin (fun x y => x + y) 129) := s_iadd (by decide +kernel)
theorem iX10_ownLimits_129 : zSnd zZM zmX10_ownLimits 129 (o_putI zYM 1 13 132) := s_putI zcX9 fX10_109 (by decide +kernel) rfl rfl (by decide +kernel)
theorem iX10_ownLimits_132 : zSnd zZM zmX10_ownLimits 132 (o_vret) := s_vret rfl (by decide +kernel)
def kX10_ownLimits : List (Nat × zOp) := [(0, o_iload 2 1),
  (1, o_ic 1 2),
  (2, o_ibin (fun x y => x - y) 3),
  (3, o_istore 3 4),
  (4, o_aload 0 5),
  (5, o_getf zYM 0 12 8),
  (8, o_istore 4 10),
  (10, o_iload 2 11),
  (11, o_ic 1 12),
  (12, o_icmp (fun x y => x = y) 15 21),
  (15, o_aload 0 16),
  (16, o_ic 112 18),
  (18, o_callV zZM 0 zmX10_needOctet 1 0 21),
  (21, o_aload 0 22),
  (22, o_getf zYM 0 12 25),
  (25, o_istore 5 27),
  (27, o_aload 0 28),
  (28, o_callV zZM 0 zmX10_limits 0 0 31),
  (31, o_iload 2 32),
  (32, o_ic 1 33),
  (33, o_icmp (fun x y => x = y) 36 43),
  (36, o_aload 1 37),
  (37, o_getf zYM 1 12 40),
  (40, o_goto 47),
  (43, o_aload 1 44),
  (44, o_getf zYM 1 13 47),
  (47, o_istore 6 49),
  (49, o_iload 6 51),
  (51, o_if0 (fun x => x = 0) 54 90),
  (54, o_aload 1 55),
  (55, o_getf zYM 1 14 58),
  (58, o_iload 3 59),
  (59, o_aload 0 60),
  (60, o_getf zYM 0 16 63),
  (63, o_last zYM 64),
  (64, o_aload 1 65),
  (65, o_getf zYM 1 15 68),
  (68, o_iload 3 69),
  (69, o_aload 0 70),
  (70, o_getf zYM 0 17 73),
  (73, o_last zYM 74),
  (74, o_aload 1 75),
  (75, o_getf zYM 1 16 78),
  (78, o_iload 3 79),
  (79, o_iload 5 81),
  (81, o_ast zYM .int (fun x => x) 82),
  (82, o_aload 1 83),
  (83, o_getf zYM 1 18 86),
  (86, o_iload 3 87),
  (87, o_iload 4 89),
  (89, o_ast zYM .int (fun x => x) 90),
  (90, o_iload 6 92),
  (92, o_ic 1 93),
  (93, o_icmp (fun x y => x = y) 96 104),
  (96, o_aload 1 97),
  (97, o_getf zYM 1 17 100),
  (100, o_iload 3 101),
  (101, o_iload 4 103),
  (103, o_ast zYM .int (fun x => x) 104),
  (104, o_iload 2 105),
  (105, o_ic 1 106),
  (106, o_icmp (fun x y => x = y) 109 122),
  (109, o_aload 1 110),
  (110, o_dup 111),
  (111, o_getf zYM 1 12 114),
  (114, o_ic 1 115),
  (115, o_ibin (fun x y => x + y) 116),
  (116, o_putI zYM 1 12 119),
  (119, o_goto 132),
  (122, o_aload 1 123),
  (123, o_dup 124),
  (124, o_getf zYM 1 13 127),
  (127, o_ic 1 128),
  (128, o_ibin (fun x y => x + y) 129),
  (129, o_putI zYM 1 13 132),
  (132, o_vret)]
set_option maxRecDepth 100000 in
theorem ksX10_ownLimits : ∀ q ∈ kX10_ownLimits, zSnd zZM zmX10_ownLimits q.1 q.2 := zcc iX10_ownLimits_0 (zcc iX10_ownLimits_1 (zcc iX10_ownLimits_2 (zcc iX10_ownLimits_3 (zcc iX10_ownLimits_4 (zcc iX10_ownLimits_5 (zcc iX10_ownLimits_8 (zcc iX10_ownLimits_10 (zcc iX10_ownLimits_11 (zcc iX10_ownLimits_12 (zcc iX10_ownLimits_15 (zcc iX10_ownLimits_16 (zcc iX10_ownLimits_18 (zcc iX10_ownLimits_21 (zcc iX10_ownLimits_22 (zcc iX10_ownLimits_25 (zcc iX10_ownLimits_27 (zcc iX10_ownLimits_28 (zcc iX10_ownLimits_31 (zcc iX10_ownLimits_32 (zcc iX10_ownLimits_33 (zcc iX10_ownLimits_36 (zcc iX10_ownLimits_37 (zcc iX10_ownLimits_40 (zcc iX10_ownLimits_43 (zcc iX10_ownLimits_44 (zcc iX10_ownLimits_47 (zcc iX10_ownLimits_49 (zcc iX10_ownLimits_51 (zcc iX10_ownLimits_54 (zcc iX10_ownLimits_55 (zcc iX10_ownLimits_58 (zcc iX10_ownLimits_59 (zcc iX10_ownLimits_60 (zcc iX10_ownLimits_63 (zcc iX10_ownLimits_64 (zcc iX10_ownLimits_65 (zcc iX10_ownLimits_68 (zcc iX10_ownLimits_69 (zcc iX10_ownLimits_70 (zcc iX10_ownLimits_73 (zcc iX10_ownLimits_74 (zcc iX10_ownLimits_75 (zcc iX10_ownLimits_78 (zcc iX10_ownLimits_79 (zcc iX10_ownLimits_81 (zcc iX10_ownLimits_82 (zcc iX10_ownLimits_83 (zcc iX10_ownLimits_86 (zcc iX10_ownLimits_87 (zcc iX10_ownLimits_89 (zcc iX10_ownLimits_90 (zcc iX10_ownLimits_92 (zcc iX10_ownLimits_93 (zcc iX10_ownLimits_96 (zcc iX10_ownLimits_97 (zcc iX10_ownLimits_100 (zcc iX10_ownLimits_101 (zcc iX10_ownLimits_103 (zcc iX10_ownLimits_104 (zcc iX10_ownLimits_105 (zcc iX10_ownLimits_106 (zcc iX10_ownLimits_109 (zcc iX10_ownLimits_110 (zcc iX10_ownLimits_111 (zcc iX10_ownLimits_114 (zcc iX10_ownLimits_115 (zcc iX10_ownLimits_116 (zcc iX10_ownLimits_119 (zcc iX10_ownLimits_122 (zcc iX10_ownLimits_123 (zcc iX10_ownLimits_124 (zcc iX10_ownLimits_127 (zcc iX10_ownLimits_128 (zcc iX10_ownLimits_129 (zcc iX10_ownLimits_132 zcn)))))))))))))))))))))))))))))))))))))))))))))))))))))))))))))))))))))))))))
theorem iX10_checkBody_0 : zSnd zZM zmX10_checkBody 0 (o_aload 1 1) := s_aload_n (k := 1) (by decide +kernel) rfl
theorem iX10_checkBody_1 : zSnd zZM zmX10_checkBody 1 (o_getf zYM 1 19 4) := s_getf zcX9 fX10_160 (by decide +kernel) (by decide +kernel)
theorem iX10_checkBody_4 : zSnd zZM zmX10_checkBody 4 (o_aload 1 5) := s_aload_n (k := 1) (by decide +kernel) rfl
theorem iX10_checkBody_5 : zSnd zZM zmX10_checkBody 5 (o_getf zYM 1 31 8) := s_getf zcX9 fX10_163 (by decide +kernel) (by decide +kernel)
theorem iX10_checkBody_8 : zSnd zZM zmX10_checkBody 8 (o_iload 2 9) := s_iload_n (k := 2) (by decide +kernel) rfl
theorem iX10_checkBody_9 : zSnd zZM zmX10_checkBody 9 (o_lald zYM 10) := s_lald (by decide +kernel)
theorem iX10_checkBody_10 : zSnd zZM zmX10_checkBody 10 (o_l2i 11) := s_l2i (by decide +kernel)
theorem iX10_checkBody_11 : zSnd zZM zmX10_checkBody 11 (o_ald zYM .int 12) := s_iald (by decide +kernel)
theorem iX10_checkBody_12 : zSnd zZM zmX10_checkBody 12 (o_istore 3 13) := s_istore_n (k := 3) (by decide +kernel) rfl (by decide +kernel)
theorem iX10_checkBody_13 : zSnd zZM zmX10_checkBody 13 (o_aload 0 14) := s_aload_n (k := 0) (by decide +kernel) rfl
theorem iX10_checkBody_14 : zSnd zZM zmX10_checkBody 14 (o_aload 1 15) := s_aload_n (k := 1) (by decide +kernel) rfl
theorem iX10_checkBody_15 : zSnd zZM zmX10_checkBody 15 (o_getf zYM 1 54 18) := s_getf zcX9 fX10_130 (by decide +kernel) (by decide +kernel)
theorem iX10_checkBody_18 : zSnd zZM zmX10_checkBody 18 (o_iload 2 19) := s_iload_n (k := 2) (by decide +kernel) rfl
theorem iX10_checkBody_19 : zSnd zZM zmX10_checkBody 19 (o_ald zYM .int 20) := s_iald (by decide +kernel)
theorem iX10_checkBody_20 : zSnd zZM zmX10_checkBody 20 (o_putI zYM 0 13 23) := s_putI zcX10 fX10_133 (by decide +kernel) rfl rfl (by decide +kernel)
theorem iX10_checkBody_23 : zSnd zZM zmX10_checkBody 23 (o_aload 0 24) := s_aload_n (k := 0) (by decide +kernel) rfl
theorem iX10_checkBody_24 : zSnd zZM zmX10_checkBody 24 (o_iload 3 25) := s_iload_n (k := 3) (by decide +kernel) rfl
theorem iX10_checkBody_25 : zSnd zZM zmX10_checkBody 25 (o_aload 1 26) := s_aload_n (k := 1) (by decide +kernel) rfl
theorem iX10_checkBody_26 : zSnd zZM zmX10_checkBody 26 (o_getf zYM 1 52 29) := s_getf zcX9 fX10_167 (by decide +kernel) (by decide +kernel)
theorem iX10_checkBody_29 : zSnd zZM zmX10_checkBody 29 (o_iload 2 30) := s_iload_n (k := 2) (by decide +kernel) rfl
theorem iX10_checkBody_30 : zSnd zZM zmX10_checkBody 30 (o_ald zYM .int 31) := s_iald (by decide +kernel)
set_option maxRecDepth 20000 in
theorem iX10_checkBody_31 : zSnd zZM zmX10_checkBody 31 (o_callV zZM 0 zmX10_readLocals 2 0 34) := s_callV (idx := 170) zcX10 calX10_readLocals virX10_readLocals dscX10_readLocals (by decide +kernel) (zWS7 37 rfl rfl) (by decide +kernel)
theorem iX10_checkBody_34 : zSnd zZM zmX10_checkBody 34 (o_aload 0 35) := s_aload_n (k := 0) (by decide +kernel) rfl
theorem iX10_checkBody_35 : zSnd zZM zmX10_checkBody 35 (o_ic 0 36) := s_iconst (i := 0) (by decide +kernel) (by decide +kernel)
theorem iX10_checkBody_36 : zSnd zZM zmX10_checkBody 36 (o_putI zYM 0 22 39) := s_putI zcX10 fX10_507 (by decide +kernel) rfl rfl (by decide +kernel)
theorem iX10_checkBody_39 : zSnd zZM zmX10_checkBody 39 (o_aload 0 40) := s_aload_n (k := 0) (by decide +kernel) rfl
theorem iX10_checkBody_40 : zSnd zZM zmX10_checkBody 40 (o_ic 0 41) := s_iconst (i := 0) (by decide +kernel) (by decide +kernel)
theorem iX10_checkBody_41 : zSnd zZM zmX10_checkBody 41 (o_putI zYM 0 28 44) := s_putI zcX10 fX10_504 (by decide +kernel) rfl rfl (by decide +kernel)
theorem iX10_checkBody_44 : zSnd zZM zmX10_checkBody 44 (o_aload 0 45) := s_aload_n (k := 0) (by decide +kernel) rfl
theorem iX10_checkBody_45 : zSnd zZM zmX10_checkBody 45 (o_ic 0 46) := s_iconst (i := 0) (by decide +kernel) (by decide +kernel)
theorem iX10_checkBody_46 : zSnd zZM zmX10_checkBody 46 (o_iload 3 47) := s_iload_n (k := 3) (by decide +kernel) rfl
set_option maxRecDepth 20000 in
theorem iX10_checkBody_47 : zSnd zZM zmX10_checkBody 47 (o_callS zZM zmX10_resultOf 1 1 50) := s_callS (idx := 481) calX10_resultOf virX10_resultOf dscX10_resultOf (by decide +kernel) (zWS7 30 rfl rfl) (by decide +kernel)
theorem iX10_checkBody_50 : zSnd zZM zmX10_checkBody 50 (o_iload 3 51) := s_iload_n (k := 3) (by decide +kernel) rfl
set_option maxRecDepth 20000 in
theorem iX10_checkBody_51 : zSnd zZM zmX10_checkBody 51 (o_callS zZM zmX10_resultOf 1 1 54) := s_callS (idx := 481) calX10_resultOf virX10_resultOf dscX10_resultOf (by decide +kernel) (zWS7 30 rfl rfl) (by decide +kernel)
set_option maxRecDepth 20000 in
theorem iX10_checkBody_54 : zSnd zZM zmX10_checkBody 54 (o_callV zZM 0 zmX10_openFrame 3 0 57) := s_callV (idx := 516) zcX10 calX10_openFrame virX10_openFrame dscX10_openFrame (by decide +kernel) (zWS7 44 rfl rfl) (by decide +kernel)
theorem iX10_checkBody_57 : zSnd zZM zmX10_checkBody 57 (o_aload 0 58) := s_aload_n (k := 0) (by decide +kernel) rfl
theorem iX10_checkBody_58 : zSnd zZM zmX10_checkBody 58 (o_getf zYM 0 28 61) := s_getf zcX10 fX10_504 (by decide +kernel) (by decide +kernel)
theorem iX10_checkBody_61 : zSnd zZM zmX10_checkBody 61 (o_if0 (fun x => x ≤ 0) 118 64) := s_if_le (off := 57) (by decide +kernel) (by decide +kernel)
theorem iX10_checkBody_64 : zSnd zZM zmX10_checkBody 64 (o_aload 0 65) := s_aload_n (k := 0) (by decide +kernel) rfl
theorem iX10_checkBody_65 : zSnd zZM zmX10_checkBody 65 (o_getf zYM 0 12 68) := s_getf zcX10 fX10_127 (by decide +kernel) (by decide +kernel)
theorem iX10_checkBody_68 : zSnd zZM zmX10_checkBody 68 (o_istore 4 70) := s_istore (by decide +kernel) (by decide +kernel)
theorem iX10_checkBody_70 : zSnd zZM zmX10_checkBody 70 (o_aload 0 71) := s_aload_n (k := 0) (by decide +kernel) rfl
theorem iX10_checkBody_71 : zSnd zZM zmX10_checkBody 71 (o_ic 1 72) := s_iconst (i := 1) (by decide +kernel) (by decide +kernel)
theorem iX10_checkBody_72 : zSnd zZM zmX10_checkBody 72 (o_putZ zYM 0 31 75) := s_putZ zcX10 fX10_510 (by decide +kernel) rfl rfl (by decide +kernel)
theorem iX10_checkBody_75 : zSnd zZM zmX10_checkBody 75 (o_aload 0 76) := s_aload_n (k := 0) (by decide +kernel) rfl
set_option maxRecDepth 20000 in
theorem iX10_checkBody_76 : zSnd zZM zmX10_checkBody 76 (o_callV zZM 0 zmX10_octet 0 1 79) := s_callV (idx := 140) zcX10 calX10_octet virX10_octet dscX10_octet (by decide +kernel) (zWS6 45 rfl rfl) (by decide +kernel)
theorem iX10_checkBody_79 : zSnd zZM zmX10_checkBody 79 (o_istore 5 81) := s_istore (by decide +kernel) (by decide +kernel)
theorem iX10_checkBody_81 : zSnd zZM zmX10_checkBody 81 (o_iload 5 83) := s_iload (by decide +kernel)
theorem iX10_checkBody_83 : zSnd zZM zmX10_checkBody 83 (o_ic 252 86) := s_sipush (i := 252) (by decide +kernel) (by decide +kernel)
theorem iX10_checkBody_86 : zSnd zZM zmX10_checkBody 86 (o_icmp (fun x y => x = y) 89 97) := s_icmp_ne (off := 11) (by decide +kernel) (by decide +kernel)
theorem iX10_checkBody_89 : zSnd zZM zmX10_checkBody 89 (o_aload 0 90) := s_aload_n (k := 0) (by decide +kernel) rfl
theorem iX10_checkBody_90 : zSnd zZM zmX10_checkBody 90 (o_aload 1 91) := s_aload_n (k := 1) (by decide +kernel) rfl
set_option maxRecDepth 20000 in
theorem iX10_checkBody_91 : zSnd zZM zmX10_checkBody 91 (o_callV zZM 0 zmX10_checkMany 1 0 94) := s_callV (idx := 520) zcX10 calX10_checkMany virX10_checkMany dscX10_checkMany (by decide +kernel) (zWS7 48 rfl rfl) (by decide +kernel)
theorem iX10_checkBody_94 : zSnd zZM zmX10_checkBody 94 (o_goto 105) := s_goto (off := 11) (by decide +kernel) (by decide +kernel)
theorem iX10_checkBody_97 : zSnd zZM zmX10_checkBody 97 (o_aload 0 98) := s_aload_n (k := 0) (by decide +kernel) rfl
theorem iX10_checkBody_98 : zSnd zZM zmX10_checkBody 98 (o_aload 1 99) := s_aload_n (k := 1) (by decide +kernel) rfl
theorem iX10_checkBody_99 : zSnd zZM zmX10_checkBody 99 (o_iload 5 101) := s_iload (by decide +kernel)
theorem iX10_checkBody_101 : zSnd zZM zmX10_checkBody 101 (o_iload 3 102) := s_iload_n (k := 3) (by decide +kernel) rfl
set_option maxRecDepth 20000 in
theorem iX10_checkBody_102 : zSnd zZM zmX10_checkBody 102 (o_callV zZM 0 zmX10_checkOne 3 0 105) := s_callV (idx := 523) zcX10 calX10_checkOne virX10_checkOne dscX10_checkOne (by decide +kernel) (zWS7 68 rfl rfl) (by decide +kernel)
theorem iX10_checkBody_105 : zSnd zZM zmX10_checkBody 105 (o_aload 0 106) := s_aload_n (k := 0) (by decide +kernel) rfl
theorem iX10_checkBody_106 : zSnd zZM zmX10_checkBody 106 (o_aload 0 107) := s_aload_n (k := 0) (by decide +kernel) rfl
theorem iX10_checkBody_107 : zSnd zZM zmX10_checkBody 107 (o_getf zYM 0 31 110) := s_getf zcX10 fX10_510 (by decide +kernel) (by decide +kernel)
theorem iX10_checkBody_110 : zSnd zZM zmX10_checkBody 110 (o_iload 4 112) := s_iload (by decide +kernel)
set_option maxRecDepth 20000 in
theorem iX10_checkBody_112 : zSnd zZM zmX10_checkBody 112 (o_callV zZM 0 zmX10_must 2 0 115) := s_callV (idx := 451) zcX10 calX10_must virX10_must dscX10_must (by decide +kernel) (zWS6 221 rfl rfl) (by decide +kernel)
theorem iX10_checkBody_115 : zSnd zZM zmX10_checkBody 115 (o_goto 57) := s_goto (off := (-58)) (by decide +kernel) (by decide +kernel)
theorem iX10_checkBody_118 : zSnd zZM zmX10_checkBody 118 (o_vret) := s_vret rfl (by decide +kernel)
def kX10_checkBody : List (Nat × zOp) := [(0, o_aload 1 1),
  (1, o_getf zYM 1 19 4),
  (4, o_aload 1 5),
  (5, o_getf zYM 1 31 8),
  (8, o_iload 2 9),
  (9, o_lald zYM 10),
  (10, o_l2i 11),
  (11, o_ald zYM .int 12),
  (12, o_istore 3 13),
  (13, o_aload 0 14),
  (14, o_aload 1 15),
  (15, o_getf zYM 1 54 18),
  (18, o_iload 2 19),
  (19, o_ald zYM .int 20),
  (20, o_putI zYM 0 13 23),
  (23, o_aload 0 24),
  (24, o_iload 3 25),
  (25, o_aload 1 26),
  (26, o_getf zYM 1 52 29),
  (29, o_iload 2 30),
  (30, o_ald zYM .int 31),
  (31, o_callV zZM 0 zmX10_readLocals 2 0 34),
  (34, o_aload 0 35),
  (35, o_ic 0 36),
  (36, o_putI zYM 0 22 39),
  (39, o_aload 0 40),
  (40, o_ic 0 41),
  (41, o_putI zYM 0 28 44),
  (44, o_aload 0 45),
  (45, o_ic 0 46),
  (46, o_iload 3 47),
  (47, o_callS zZM zmX10_resultOf 1 1 50),
  (50, o_iload 3 51),
  (51, o_callS zZM zmX10_resultOf 1 1 54),
  (54, o_callV zZM 0 zmX10_openFrame 3 0 57),
  (57, o_aload 0 58),
  (58, o_getf zYM 0 28 61),
  (61, o_if0 (fun x => x ≤ 0) 118 64),
  (64, o_aload 0 65),
  (65, o_getf zYM 0 12 68),
  (68, o_istore 4 70),
  (70, o_aload 0 71),
  (71, o_ic 1 72),
  (72, o_putZ zYM 0 31 75),
  (75, o_aload 0 76),
  (76, o_callV zZM 0 zmX10_octet 0 1 79),
  (79, o_istore 5 81),
  (81, o_iload 5 83),
  (83, o_ic 252 86),
  (86, o_icmp (fun x y => x = y) 89 97),
  (89, o_aload 0 90),
  (90, o_aload 1 91),
  (91, o_callV zZM 0 zmX10_checkMany 1 0 94),
  (94, o_goto 105),
  (97, o_aload 0 98),
  (98, o_aload 1 99),
  (99, o_iload 5 101),
  (101, o_iload 3 102),
  (102, o_callV zZM 0 zmX10_checkOne 3 0 105),
  (105, o_aload 0 106),
  (106, o_aload 0 107),
  (107, o_getf zYM 0 31 110),
  (110, o_iload 4 112),
  (112, o_callV zZM 0 zmX10_must 2 0 115),
  (115, o_goto 57),
  (118, o_vret)]
set_option maxRecDepth 100000 in
theorem ksX10_checkBody : ∀ q ∈ kX10_checkBody, zSnd zZM zmX10_checkBody q.1 q.2 := zcc iX10_checkBody_0 (zcc iX10_checkBody_1 (zcc iX10_checkBody_4 (zcc iX10_checkBody_5 (zcc iX10_checkBody_8 (zcc iX10_checkBody_9 (zcc iX10_checkBody_10 (zcc iX10_checkBody_11 (zcc iX10_checkBody_12 (zcc iX10_checkBody_13 (zcc iX10_checkBody_14 (zcc iX10_checkBody_15 (zcc iX10_checkBody_18 (zcc iX10_checkBody_19 (zcc iX10_checkBody_20 (zcc iX10_checkBody_23 (zcc iX10_checkBody_24 (zcc iX10_checkBody_25 (zcc iX10_checkBody_26 (zcc iX10_checkBody_29 (zcc iX10_checkBody_30 (zcc iX10_checkBody_31 (zcc iX10_checkBody_34 (zcc iX10_checkBody_35 (zcc iX10_checkBody_36 (zcc iX10_checkBody_39 (zcc iX10_checkBody_40 (zcc iX10_checkBody_41 (zcc iX10_checkBody_44 (zcc iX10_checkBody_45 (zcc iX10_checkBody_46 (zcc iX10_checkBody_47 (zcc iX10_checkBody_50 (zcc iX10_checkBody_51 (zcc iX10_checkBody_54 (zcc iX10_checkBody_57 (zcc iX10_checkBody_58 (zcc iX10_checkBody_61 (zcc iX10_checkBody_64 (zcc iX10_checkBody_65 (zcc iX10_checkBody_68 (zcc iX10_checkBody_70 (zcc iX10_checkBody_71 (zcc iX10_checkBody_72 (zcc iX10_checkBody_75 (zcc iX10_checkBody_76 (zcc iX10_checkBody_79 (zcc iX10_checkBody_81 (zcc iX10_checkBody_83 (zcc iX10_checkBody_86 (zcc iX10_checkBody_89 (zcc iX10_checkBody_90 (zcc iX10_checkBody_91 (zcc iX10_checkBody_94 (zcc iX10_checkBody_97 (zcc iX10_checkBody_98 (zcc iX10_checkBody_99 (zcc iX10_checkBody_101 (zcc iX10_checkBody_102 (zcc iX10_checkBody_105 (zcc iX10_checkBody_106 (zcc iX10_checkBody_107 (zcc iX10_checkBody_110 (zcc iX10_checkBody_112 (zcc iX10_checkBody_115 (zcc iX10_checkBody_118 zcn)))))))))))))))))))))))))))))))))))))))))))))))))))))))))))))))))
theorem iX10_dataLine_0 : zSnd zZM zmX10_dataLine 0 (o_aload 1 1) := s_aload_n (k := 1) (by decide +kernel) rfl
theorem iX10_dataLine_1 : zSnd zZM zmX10_dataLine 1 (o_getf zYM 1 8 4) := s_getf zcX9 fX10_121 (by decide +kernel) (by decide +kernel)
theorem iX10_dataLine_4 : zSnd zZM zmX10_dataLine 4 (o_istore 2 5) := s_istore_n (k := 2) (by decide +kernel) rfl (by decide +kernel)
theorem iX10_dataLine_5 : zSnd zZM zmX10_dataLine 5 (o_iload 2 6) := s_iload_n (k := 2) (by decide +kernel) rfl
theorem iX10_dataLine_6 : zSnd zZM zmX10_dataLine 6 (o_ic 32 8) := s_bipush (i := 32) (by decide +kernel) (by decide +kernel)
theorem iX10_dataLine_8 : zSnd zZM zmX10_dataLine 8 (o_icmp (fun x y => x = y) 11 21) := s_icmp_ne (off := 13) (by decide +kernel) (by decide +kernel)
theorem iX10_dataLine_11 : zSnd zZM zmX10_dataLine 11 (o_aload 0 12) := s_aload_n (k := 0) (by decide +kernel) rfl
theorem iX10_dataLine_12 : zSnd zZM zmX10_dataLine 12 (o_ic 4 13) := s_iconst (i := 4) (by decide +kernel) (by decide +kernel)
theorem iX10_dataLine_13 : zSnd zZM zmX10_dataLine 13 (o_aload 0 14) := s_aload_n (k := 0) (by decide +kernel) rfl
theorem iX10_dataLine_14 : zSnd zZM zmX10_dataLine 14 (o_getf zYM 0 12 17) := s_getf zcX10 fX10_127 (by decide +kernel) (by decide +kernel)
set_option maxRecDepth 20000 in
theorem iX10_dataLine_17 : zSnd zZM zmX10_dataLine 17 (o_callV zZM 0 zmX10_wrong 2 3 20) := s_callV (idx := 176) zcX10 calX10_wrong virX10_wrong dscX10_wrong (by decide +kernel) (zWS6 49 rfl rfl) (by decide +kernel)
theorem iX10_dataLine_20 : zSnd zZM zmX10_dataLine 20 (o_athrow zYM 2) := s_athrow (T := TIse) (N := 0) rfl (by decide +kernel)
theorem iX10_dataLine_21 : zSnd zZM zmX10_dataLine 21 (o_aload 1 22) := s_aload_n (k := 1) (by decide +kernel) rfl
theorem iX10_dataLine_22 : zSnd zZM zmX10_dataLine 22 (o_getf zYM 1 48 25) := s_getf zcX9 fX10_396 (by decide +kernel) (by decide +kernel)
theorem iX10_dataLine_25 : zSnd zZM zmX10_dataLine 25 (o_iload 2 26) := s_iload_n (k := 2) (by decide +kernel) rfl
theorem iX10_dataLine_26 : zSnd zZM zmX10_dataLine 26 (o_aload 0 27) := s_aload_n (k := 0) (by decide +kernel) rfl
theorem iX10_dataLine_27 : zSnd zZM zmX10_dataLine 27 (o_getf zYM 0 12 30) := s_getf zcX10 fX10_127 (by decide +kernel) (by decide +kernel)
theorem iX10_dataLine_30 : zSnd zZM zmX10_dataLine 30 (o_ast zYM .int (fun x => x) 31) := s_iast (by decide +kernel)
theorem iX10_dataLine_31 : zSnd zZM zmX10_dataLine 31 (o_aload 0 32) := s_aload_n (k := 0) (by decide +kernel) rfl
set_option maxRecDepth 20000 in
theorem iX10_dataLine_32 : zSnd zZM zmX10_dataLine 32 (o_callV zZM 0 zmX10_octet 0 1 35) := s_callV (idx := 140) zcX10 calX10_octet virX10_octet dscX10_octet (by decide +kernel) (zWS6 45 rfl rfl) (by decide +kernel)
theorem iX10_dataLine_35 : zSnd zZM zmX10_dataLine 35 (o_istore 3 36) := s_istore_n (k := 3) (by decide +kernel) rfl (by decide +kernel)
theorem iX10_dataLine_36 : zSnd zZM zmX10_dataLine 36 (o_iload 3 37) := s_iload_n (k := 3) (by decide +kernel) rfl
theorem iX10_dataLine_37 : zSnd zZM zmX10_dataLine 37 (o_ic 1 38) := s_iconst (i := 1) (by decide +kernel) (by decide +kernel)
theorem iX10_dataLine_38 : zSnd zZM zmX10_dataLine 38 (o_icmp (fun x y => x ≤ y) 53 41) := s_icmp_le (off := 15) (by decide +kernel) (by decide +kernel)
theorem iX10_dataLine_41 : zSnd zZM zmX10_dataLine 41 (o_aload 0 42) := s_aload_n (k := 0) (by decide +kernel) rfl
theorem iX10_dataLine_42 : zSnd zZM zmX10_dataLine 42 (o_ic 1 43) := s_iconst (i := 1) (by decide +kernel) (by decide +kernel)
theorem iX10_dataLine_43 : zSnd zZM zmX10_dataLine 43 (o_aload 1 44) := s_aload_n (k := 1) (by decide +kernel) rfl
theorem iX10_dataLine_44 : zSnd zZM zmX10_dataLine 44 (o_getf zYM 1 48 47) := s_getf zcX9 fX10_396 (by decide +kernel) (by decide +kernel)
theorem iX10_dataLine_47 : zSnd zZM zmX10_dataLine 47 (o_iload 2 48) := s_iload_n (k := 2) (by decide +kernel) rfl
theorem iX10_dataLine_48 : zSnd zZM zmX10_dataLine 48 (o_ald zYM .int 49) := s_iald (by decide +kernel)
set_option maxRecDepth 20000 in
theorem iX10_dataLine_49 : zSnd zZM zmX10_dataLine 49 (o_callV zZM 0 zmX10_wrong 2 3 52) := s_callV (idx := 176) zcX10 calX10_wrong virX10_wrong dscX10_wrong (by decide +kernel) (zWS6 49 rfl rfl) (by decide +kernel)
theorem iX10_dataLine_52 : zSnd zZM zmX10_dataLine 52 (o_athrow zYM 2) := s_athrow (T := TIse) (N := 0) rfl (by decide +kernel)
theorem iX10_dataLine_53 : zSnd zZM zmX10_dataLine 53 (o_aload 1 54) := s_aload_n (k := 1) (by decide +kernel) rfl
theorem iX10_dataLine_54 : zSnd zZM zmX10_dataLine 54 (o_getf zYM 1 47 57) := s_getf zcX9 fX10_399 (by decide +kernel) (by decide +kernel)
theorem iX10_dataLine_57 : zSnd zZM zmX10_dataLine 57 (o_iload 2 58) := s_iload_n (k := 2) (by decide +kernel) rfl
theorem iX10_dataLine_58 : zSnd zZM zmX10_dataLine 58 (o_iload 3 59) := s_iload_n (k := 3) (by decide +kernel) rfl
theorem iX10_dataLine_59 : zSnd zZM zmX10_dataLine 59 (o_ast zYM .int (fun x => x) 60) := s_iast (by decide +kernel)
theorem iX10_dataLine_60 : zSnd zZM zmX10_dataLine 60 (o_iload 3 61) := s_iload_n (k := 3) (by decide +kernel) rfl
theorem iX10_dataLine_61 : zSnd zZM zmX10_dataLine 61 (o_if0 (fun x => x = 0) 64 74) := s_if_ne (off := 13) (by decide +kernel) (by decide +kernel)
theorem iX10_dataLine_64 : zSnd zZM zmX10_dataLine 64 (o_aload 1 65) := s_aload_n (k := 1) (by decide +kernel) rfl
theorem iX10_dataLine_65 : zSnd zZM zmX10_dataLine 65 (o_getf zYM 1 49 68) := s_getf zcX9 fX10_402 (by decide +kernel) (by decide +kernel)
theorem iX10_dataLine_68 : zSnd zZM zmX10_dataLine 68 (o_iload 2 69) := s_iload_n (k := 2) (by decide +kernel) rfl
theorem iX10_dataLine_69 : zSnd zZM zmX10_dataLine 69 (o_aload 0 70) := s_aload_n (k := 0) (by decide +kernel) rfl
set_option maxRecDepth 20000 in
theorem iX10_dataLine_70 : zSnd zZM zmX10_dataLine 70 (o_callV zZM 0 zmX10_constant 0 1 73) := s_callV (idx := 358) zcX10 calX10_constant virX10_constant dscX10_constant (by decide +kernel) (zWS6 151 rfl rfl) (by decide +kernel)
theorem iX10_dataLine_73 : zSnd zZM zmX10_dataLine 73 (o_ast zYM .int (fun x => x) 74) := s_iast (by decide +kernel)
theorem iX10_dataLine_74 : zSnd zZM zmX10_dataLine 74 (o_aload 0 75) := s_aload_n (k := 0) (by decide +kernel) rfl
theorem iX10_dataLine_75 : zSnd zZM zmX10_dataLine 75 (o_getf zYM 0 12 78) := s_getf zcX10 fX10_127 (by decide +kernel) (by decide +kernel)
theorem iX10_dataLine_78 : zSnd zZM zmX10_dataLine 78 (o_istore 4 80) := s_istore (by decide +kernel) (by decide +kernel)
theorem iX10_dataLine_80 : zSnd zZM zmX10_dataLine 80 (o_aload 0 81) := s_aload_n (k := 0) (by decide +kernel) rfl
set_option maxRecDepth 20000 in
theorem iX10_dataLine_81 : zSnd zZM zmX10_dataLine 81 (o_callV zZM 0 zmX10_u 0 2 84) := s_callV (idx := 144) zcX10 calX10_u virX10_u dscX10_u (by decide +kernel) (zWS6 105 rfl rfl) (by decide +kernel)
theorem iX10_dataLine_84 : zSnd zZM zmX10_dataLine 84 (o_lstore 5 86) := s_lstore (by decide +kernel) (by decide +kernel)
theorem iX10_dataLine_86 : zSnd zZM zmX10_dataLine 86 (o_lload 5 88) := s_lload (by decide +kernel)
theorem iX10_dataLine_88 : zSnd zZM zmX10_dataLine 88 (o_aload 0 89) := s_aload_n (k := 0) (by decide +kernel) rfl
theorem iX10_dataLine_89 : zSnd zZM zmX10_dataLine 89 (o_getf zYM 0 13 92) := s_getf zcX10 fX10_133 (by decide +kernel) (by decide +kernel)
theorem iX10_dataLine_92 : zSnd zZM zmX10_dataLine 92 (o_aload 0 93) := s_aload_n (k := 0) (by decide +kernel) rfl
theorem iX10_dataLine_93 : zSnd zZM zmX10_dataLine 93 (o_getf zYM 0 12 96) := s_getf zcX10 fX10_127 (by decide +kernel) (by decide +kernel)
theorem iX10_dataLine_96 : zSnd zZM zmX10_dataLine 96 (o_ibin (fun x y => x - y) 97) := s_isub (by decide +kernel)
theorem iX10_dataLine_97 : zSnd zZM zmX10_dataLine 97 (o_i2l 98) := s_i2l (by decide +kernel)
theorem iX10_dataLine_98 : zSnd zZM zmX10_dataLine 98 (o_lif (fun x y => x ≤ y) 110 102) := s_lle (off := 11) (by decide +kernel) (by decide +kernel) (by decide +kernel)
theorem iX10_dataLine_102 : zSnd zZM zmX10_dataLine 102 (o_aload 0 103) := s_aload_n (k := 0) (by decide +kernel) rfl
theorem iX10_dataLine_103 : zSnd zZM zmX10_dataLine 103 (o_ic 1 104) := s_iconst (i := 1) (by decide +kernel) (by decide +kernel)
theorem iX10_dataLine_104 : zSnd zZM zmX10_dataLine 104 (o_iload 4 106) := s_iload (by decide +kernel)
set_option maxRecDepth 20000 in
theorem iX10_dataLine_106 : zSnd zZM zmX10_dataLine 106 (o_callV zZM 0 zmX10_wrong 2 3 109) := s_callV (idx := 176) zcX10 calX10_wrong virX10_wrong dscX10_wrong (by decide +kernel) (zWS6 49 rfl rfl) (by decide +kernel)
theorem iX10_dataLine_109 : zSnd zZM zmX10_dataLine 109 (o_athrow zYM 2) := s_athrow (T := TIse) (N := 0) rfl (by decide +kernel)
theorem iX10_dataLine_110 : zSnd zZM zmX10_dataLine 110 (o_aload 1 111) := s_aload_n (k := 1) (by decide +kernel) rfl
theorem iX10_dataLine_111 : zSnd zZM zmX10_dataLine 111 (o_getf zYM 1 50 114) := s_getf zcX9 fX10_405 (by decide +kernel) (by decide +kernel)
theorem iX10_dataLine_114 : zSnd zZM zmX10_dataLine 114 (o_iload 2 115) := s_iload_n (k := 2) (by decide +kernel) rfl
theorem iX10_dataLine_115 : zSnd zZM zmX10_dataLine 115 (o_aload 0 116) := s_aload_n (k := 0) (by decide +kernel) rfl
theorem iX10_dataLine_116 : zSnd zZM zmX10_dataLine 116 (o_getf zYM 0 12 119) := s_getf zcX10 fX10_127 (by decide +kernel) (by decide +kernel)
theorem iX10_dataLine_119 : zSnd zZM zmX10_dataLine 119 (o_ast zYM .int (fun x => x) 120) := s_iast (by decide +kernel)
theorem iX10_dataLine_120 : zSnd zZM zmX10_dataLine 120 (o_aload 1 121) := s_aload_n (k := 1) (by decide +kernel) rfl
theorem iX10_dataLine_121 : zSnd zZM zmX10_dataLine 121 (o_getf zYM 1 51 124) := s_getf zcX9 fX10_408 (by decide +kernel) (by decide +kernel)
theorem iX10_dataLine_124 : zSnd zZM zmX10_dataLine 124 (o_iload 2 125) := s_iload_n (k := 2) (by decide +kernel) rfl
theorem iX10_dataLine_125 : zSnd zZM zmX10_dataLine 125 (o_lload 5 127) := s_lload (by decide +kernel)
theorem iX10_dataLine_127 : zSnd zZM zmX10_dataLine 127 (o_l2i 128) := s_l2i (by decide +kernel)
theorem iX10_dataLine_128 : zSnd zZM zmX10_dataLine 128 (o_ast zYM .int (fun x => x) 129) := s_iast (by decide +kernel)
theorem iX10_dataLine_129 : zSnd zZM zmX10_dataLine 129 (o_aload 0 130) := s_aload_n (k := 0) (by decide +kernel) rfl
theorem iX10_dataLine_130 : zSnd zZM zmX10_dataLine 130 (o_dup 131) := s_dup (by decide +kernel)
theorem iX10_dataLine_131 : zSnd zZM zmX10_dataLine 131 (o_getf zYM 0 12 134) := s_getf zcX10 fX10_127 (by decide +kernel) (by decide +kernel)
theorem iX10_dataLine_134 : zSnd zZM zmX10_dataLine 134 (o_lload 5 136) := s_lload (by decide +kernel)
theorem iX10_dataLine_136 : zSnd zZM zmX10_dataLine 136 (o_l2i 137) := s_l2i (by decide +kernel)
theorem iX10_dataLine_137 : zSnd zZM zmX10_dataLine 137 (o_ibin (fun x y => x + y) 138) := s_iadd (by decide +kernel)
theorem iX10_dataLine_138 : zSnd zZM zmX10_dataLine 138 (o_putI zYM 0 12 141) := s_putI zcX10 fX10_127 (by decide +kernel) rfl rfl (by decide +kernel)
theorem iX10_dataLine_141 : zSnd zZM zmX10_dataLine 141 (o_aload 1 142) := s_aload_n (k := 1) (by decide +kernel) rfl
theorem iX10_dataLine_142 : zSnd zZM zmX10_dataLine 142 (o_dup 143) := s_dup (by decide +kernel)
theorem iX10_dataLine_143 : zSnd zZM zmX10_dataLine 143 (o_getf zYM 1 8 146) := s_getf zcX9 fX10_121 (by decide +kernel) (by decide +kernel)
theorem iX10_dataLine_146 : zSnd zZM zmX10_dataLine 146 (o_ic 1 147) := s_iconst (i := 1) (by decide +kernel) (by decide +kernel)
theorem iX10_dataLine_147 : zSnd zZM zmX10_dataLine 147 (o_ibin (fun x y => x + y) 148) := s_iadd (by decide +kernel)
theorem iX10_dataLine_148 : zSnd zZM zmX10_dataLine 148 (o_putI zYM 1 8 151) := s_putI zcX9 fX10_121 (by decide +kernel) rfl rfl (by decide +kernel)
theorem iX10_dataLine_151 : zSnd zZM zmX10_dataLine 151 (o_vret) := s_vret rfl (by decide +kernel)
def kX10_dataLine : List (Nat × zOp) := [(0, o_aload 1 1),
  (1, o_getf zYM 1 8 4),
  (4, o_istore 2 5),
  (5, o_iload 2 6),
  (6, o_ic 32 8),
  (8, o_icmp (fun x y => x = y) 11 21),
  (11, o_aload 0 12),
  (12, o_ic 4 13),
  (13, o_aload 0 14),
  (14, o_getf zYM 0 12 17),
  (17, o_callV zZM 0 zmX10_wrong 2 3 20),
  (20, o_athrow zYM 2),
  (21, o_aload 1 22),
  (22, o_getf zYM 1 48 25),
  (25, o_iload 2 26),
  (26, o_aload 0 27),
  (27, o_getf zYM 0 12 30),
  (30, o_ast zYM .int (fun x => x) 31),
  (31, o_aload 0 32),
  (32, o_callV zZM 0 zmX10_octet 0 1 35),
  (35, o_istore 3 36),
  (36, o_iload 3 37),
  (37, o_ic 1 38),
  (38, o_icmp (fun x y => x ≤ y) 53 41),
  (41, o_aload 0 42),
  (42, o_ic 1 43),
  (43, o_aload 1 44),
  (44, o_getf zYM 1 48 47),
  (47, o_iload 2 48),
  (48, o_ald zYM .int 49),
  (49, o_callV zZM 0 zmX10_wrong 2 3 52),
  (52, o_athrow zYM 2),
  (53, o_aload 1 54),
  (54, o_getf zYM 1 47 57),
  (57, o_iload 2 58),
  (58, o_iload 3 59),
  (59, o_ast zYM .int (fun x => x) 60),
  (60, o_iload 3 61),
  (61, o_if0 (fun x => x = 0) 64 74),
  (64, o_aload 1 65),
  (65, o_getf zYM 1 49 68),
  (68, o_iload 2 69),
  (69, o_aload 0 70),
  (70, o_callV zZM 0 zmX10_constant 0 1 73),
  (73, o_ast zYM .int (fun x => x) 74),
  (74, o_aload 0 75),
  (75, o_getf zYM 0 12 78),
  (78, o_istore 4 80),
  (80, o_aload 0 81),
  (81, o_callV zZM 0 zmX10_u 0 2 84),
  (84, o_lstore 5 86),
  (86, o_lload 5 88),
  (88, o_aload 0 89),
  (89, o_getf zYM 0 13 92),
  (92, o_aload 0 93),
  (93, o_getf zYM 0 12 96),
  (96, o_ibin (fun x y => x - y) 97),
  (97, o_i2l 98),
  (98, o_lif (fun x y => x ≤ y) 110 102),
  (102, o_aload 0 103),
  (103, o_ic 1 104),
  (104, o_iload 4 106),
  (106, o_callV zZM 0 zmX10_wrong 2 3 109),
  (109, o_athrow zYM 2),
  (110, o_aload 1 111),
  (111, o_getf zYM 1 50 114),
  (114, o_iload 2 115),
  (115, o_aload 0 116),
  (116, o_getf zYM 0 12 119),
  (119, o_ast zYM .int (fun x => x) 120),
  (120, o_aload 1 121),
  (121, o_getf zYM 1 51 124),
  (124, o_iload 2 125),
  (125, o_lload 5 127),
  (127, o_l2i 128),
  (128, o_ast zYM .int (fun x => x) 129),
  (129, o_aload 0 130),
  (130, o_dup 131),
  (131, o_getf zYM 0 12 134),
  (134, o_lload 5 136),
  (136, o_l2i 137),
  (137, o_ibin (fun x y => x + y) 138),
  (138, o_putI zYM 0 12 141),
  (141, o_aload 1 142),
  (142, o_dup 143),
  (143, o_getf zYM 1 8 146),
  (146, o_ic 1 147),
  (147, o_ibin (fun x y => x + y) 148),
  (148, o_putI zYM 1 8 151),
  (151, o_vret)]
set_option maxRecDepth 100000 in
theorem ksX10_dataLine : ∀ q ∈ kX10_dataLine, zSnd zZM zmX10_dataLine q.1 q.2 := zcc iX10_dataLine_0 (zcc iX10_dataLine_1 (zcc iX10_dataLine_4 (zcc iX10_dataLine_5 (zcc iX10_dataLine_6 (zcc iX10_dataLine_8 (zcc iX10_dataLine_11 (zcc iX10_dataLine_12 (zcc iX10_dataLine_13 (zcc iX10_dataLine_14 (zcc iX10_dataLine_17 (zcc iX10_dataLine_20 (zcc iX10_dataLine_21 (zcc iX10_dataLine_22 (zcc iX10_dataLine_25 (zcc iX10_dataLine_26 (zcc iX10_dataLine_27 (zcc iX10_dataLine_30 (zcc iX10_dataLine_31 (zcc iX10_dataLine_32 (zcc iX10_dataLine_35 (zcc iX10_dataLine_36 (zcc iX10_dataLine_37 (zcc iX10_dataLine_38 (zcc iX10_dataLine_41 (zcc iX10_dataLine_42 (zcc iX10_dataLine_43 (zcc iX10_dataLine_44 (zcc iX10_dataLine_47 (zcc iX10_dataLine_48 (zcc iX10_dataLine_49 (zcc iX10_dataLine_52 (zcc iX10_dataLine_53 (zcc iX10_dataLine_54 (zcc iX10_dataLine_57 (zcc iX10_dataLine_58 (zcc iX10_dataLine_59 (zcc iX10_dataLine_60 (zcc iX10_dataLine_61 (zcc iX10_dataLine_64 (zcc iX10_dataLine_65 (zcc iX10_dataLine_68 (zcc iX10_dataLine_69 (zcc iX10_dataLine_70 (zcc iX10_dataLine_73 (zcc iX10_dataLine_74 (zcc iX10_dataLine_75 (zcc iX10_dataLine_78 (zcc iX10_dataLine_80 (zcc iX10_dataLine_81 (zcc iX10_dataLine_84 (zcc iX10_dataLine_86 (zcc iX10_dataLine_88 (zcc iX10_dataLine_89 (zcc iX10_dataLine_92 (zcc iX10_dataLine_93 (zcc iX10_dataLine_96 (zcc iX10_dataLine_97 (zcc iX10_dataLine_98 (zcc iX10_dataLine_102 (zcc iX10_dataLine_103 (zcc iX10_dataLine_104 (zcc iX10_dataLine_106 (zcc iX10_dataLine_109 (zcc iX10_dataLine_110 (zcc iX10_dataLine_111 (zcc iX10_dataLine_114 (zcc iX10_dataLine_115 (zcc iX10_dataLine_116 (zcc iX10_dataLine_119 (zcc iX10_dataLine_120 (zcc iX10_dataLine_121 (zcc iX10_dataLine_124 (zcc iX10_dataLine_125 (zcc iX10_dataLine_127 (zcc iX10_dataLine_128 (zcc iX10_dataLine_129 (zcc iX10_dataLine_130 (zcc iX10_dataLine_131 (zcc iX10_dataLine_134 (zcc iX10_dataLine_136 (zcc iX10_dataLine_137 (zcc iX10_dataLine_138 (zcc iX10_dataLine_141 (zcc iX10_dataLine_142 (zcc iX10_dataLine_143 (zcc iX10_dataLine_146 (zcc iX10_dataLine_147 (zcc iX10_dataLine_148 (zcc iX10_dataLine_151 zcn)))))))))))))))))))))))))))))))))))))))))))))))))))))))))))))))))))))))))))))))))))))))))
theorem iX10_elementLine_0 : zSnd zZM zmX10_elementLine 0 (o_aload 1 1) := s_aload_n (k := 1) (by decide +kernel) rfl
theorem iX10_elementLine_1 : zSnd zZM zmX10_elementLine 1 (o_getf zYM 1 7 4) := s_getf zcX9 fX10_118 (by decide +kernel) (by decide +kernel)
theorem iX10_elementLine_4 : zSnd zZM zmX10_elementLine 4 (o_istore 2 5) := s_istore_n (k := 2) (by decide +kernel) rfl (by decide +kernel)
theorem iX10_elementLine_5 : zSnd zZM zmX10_elementLine 5 (o_iload 2 6) := s_iload_n (k := 2) (by decide +kernel) rfl
theorem iX10_elementLine_6 : zSnd zZM zmX10_elementLine 6 (o_ic 32 8) := s_bipush (i := 32) (by decide +kernel) (by decide +kernel)
theorem iX10_elementLine_8 : zSnd zZM zmX10_elementLine 8 (o_icmp (fun x y => x = y) 11 21) := s_icmp_ne (off := 13) (by decide +kernel) (by decide +kernel)
theorem iX10_elementLine_11 : zSnd zZM zmX10_elementLine 11 (o_aload 0 12) := s_aload_n (k := 0) (by decide +kernel) rfl
theorem iX10_elementLine_12 : zSnd zZM zmX10_elementLine 12 (o_ic 4 13) := s_iconst (i := 4) (by decide +kernel) (by decide +kernel)
theorem iX10_elementLine_13 : zSnd zZM zmX10_elementLine 13 (o_aload 0 14) := s_aload_n (k := 0) (by decide +kernel) rfl
theorem iX10_elementLine_14 : zSnd zZM zmX10_elementLine 14 (o_getf zYM 0 12 17) := s_getf zcX10 fX10_127 (by decide +kernel) (by decide +kernel)
set_option maxRecDepth 20000 in
theorem iX10_elementLine_17 : zSnd zZM zmX10_elementLine 17 (o_callV zZM 0 zmX10_wrong 2 3 20) := s_callV (idx := 176) zcX10 calX10_wrong virX10_wrong dscX10_wrong (by decide +kernel) (zWS6 49 rfl rfl) (by decide +kernel)
theorem iX10_elementLine_20 : zSnd zZM zmX10_elementLine 20 (o_athrow zYM 2) := s_athrow (T := TIse) (N := 0) rfl (by decide +kernel)
theorem iX10_elementLine_21 : zSnd zZM zmX10_elementLine 21 (o_aload 1 22) := s_aload_n (k := 1) (by decide +kernel) rfl
theorem iX10_elementLine_22 : zSnd zZM zmX10_elementLine 22 (o_getf zYM 1 43 25) := s_getf zcX9 fX10_379 (by decide +kernel) (by decide +kernel)
theorem iX10_elementLine_25 : zSnd zZM zmX10_elementLine 25 (o_iload 2 26) := s_iload_n (k := 2) (by decide +kernel) rfl
theorem iX10_elementLine_26 : zSnd zZM zmX10_elementLine 26 (o_aload 0 27) := s_aload_n (k := 0) (by decide +kernel) rfl
theorem iX10_elementLine_27 : zSnd zZM zmX10_elementLine 27 (o_getf zYM 0 12 30) := s_getf zcX10 fX10_127 (by decide +kernel) (by decide +kernel)
theorem iX10_elementLine_30 : zSnd zZM zmX10_elementLine 30 (o_ast zYM .int (fun x => x) 31) := s_iast (by decide +kernel)
theorem iX10_elementLine_31 : zSnd zZM zmX10_elementLine 31 (o_aload 0 32) := s_aload_n (k := 0) (by decide +kernel) rfl
set_option maxRecDepth 20000 in
theorem iX10_elementLine_32 : zSnd zZM zmX10_elementLine 32 (o_callV zZM 0 zmX10_octet 0 1 35) := s_callV (idx := 140) zcX10 calX10_octet virX10_octet dscX10_octet (by decide +kernel) (zWS6 45 rfl rfl) (by decide +kernel)
theorem iX10_elementLine_35 : zSnd zZM zmX10_elementLine 35 (o_istore 3 36) := s_istore_n (k := 3) (by decide +kernel) rfl (by decide +kernel)
theorem iX10_elementLine_36 : zSnd zZM zmX10_elementLine 36 (o_iload 3 37) := s_iload_n (k := 3) (by decide +kernel) rfl
theorem iX10_elementLine_37 : zSnd zZM zmX10_elementLine 37 (o_if0 (fun x => x = 0) 62 40) := s_if_eq (off := 25) (by decide +kernel) (by decide +kernel)
theorem iX10_elementLine_40 : zSnd zZM zmX10_elementLine 40 (o_iload 3 41) := s_iload_n (k := 3) (by decide +kernel) rfl
theorem iX10_elementLine_41 : zSnd zZM zmX10_elementLine 41 (o_ic 1 42) := s_iconst (i := 1) (by decide +kernel) (by decide +kernel)
theorem iX10_elementLine_42 : zSnd zZM zmX10_elementLine 42 (o_icmp (fun x y => x = y) 62 45) := s_icmp_eq (off := 20) (by decide +kernel) (by decide +kernel)
theorem iX10_elementLine_45 : zSnd zZM zmX10_elementLine 45 (o_iload 3 46) := s_iload_n (k := 3) (by decide +kernel) rfl
theorem iX10_elementLine_46 : zSnd zZM zmX10_elementLine 46 (o_ic 3 47) := s_iconst (i := 3) (by decide +kernel) (by decide +kernel)
theorem iX10_elementLine_47 : zSnd zZM zmX10_elementLine 47 (o_icmp (fun x y => x = y) 62 50) := s_icmp_eq (off := 15) (by decide +kernel) (by decide +kernel)
theorem iX10_elementLine_50 : zSnd zZM zmX10_elementLine 50 (o_aload 0 51) := s_aload_n (k := 0) (by decide +kernel) rfl
theorem iX10_elementLine_51 : zSnd zZM zmX10_elementLine 51 (o_ic 1 52) := s_iconst (i := 1) (by decide +kernel) (by decide +kernel)
theorem iX10_elementLine_52 : zSnd zZM zmX10_elementLine 52 (o_aload 1 53) := s_aload_n (k := 1) (by decide +kernel) rfl
theorem iX10_elementLine_53 : zSnd zZM zmX10_elementLine 53 (o_getf zYM 1 43 56) := s_getf zcX9 fX10_379 (by decide +kernel) (by decide +kernel)
theorem iX10_elementLine_56 : zSnd zZM zmX10_elementLine 56 (o_iload 2 57) := s_iload_n (k := 2) (by decide +kernel) rfl
theorem iX10_elementLine_57 : zSnd zZM zmX10_elementLine 57 (o_ald zYM .int 58) := s_iald (by decide +kernel)
set_option maxRecDepth 20000 in
theorem iX10_elementLine_58 : zSnd zZM zmX10_elementLine 58 (o_callV zZM 0 zmX10_wrong 2 3 61) := s_callV (idx := 176) zcX10 calX10_wrong virX10_wrong dscX10_wrong (by decide +kernel) (zWS6 49 rfl rfl) (by decide +kernel)
theorem iX10_elementLine_61 : zSnd zZM zmX10_elementLine 61 (o_athrow zYM 2) := s_athrow (T := TIse) (N := 0) rfl (by decide +kernel)
theorem iX10_elementLine_62 : zSnd zZM zmX10_elementLine 62 (o_aload 1 63) := s_aload_n (k := 1) (by decide +kernel) rfl
theorem iX10_elementLine_63 : zSnd zZM zmX10_elementLine 63 (o_getf zYM 1 42 66) := s_getf zcX9 fX10_382 (by decide +kernel) (by decide +kernel)
theorem iX10_elementLine_66 : zSnd zZM zmX10_elementLine 66 (o_iload 2 67) := s_iload_n (k := 2) (by decide +kernel) rfl
theorem iX10_elementLine_67 : zSnd zZM zmX10_elementLine 67 (o_iload 3 68) := s_iload_n (k := 3) (by decide +kernel) rfl
theorem iX10_elementLine_68 : zSnd zZM zmX10_elementLine 68 (o_ast zYM .int (fun x => x) 69) := s_iast (by decide +kernel)
theorem iX10_elementLine_69 : zSnd zZM zmX10_elementLine 69 (o_iload 3 70) := s_iload_n (k := 3) (by decide +kernel) rfl
theorem iX10_elementLine_70 : zSnd zZM zmX10_elementLine 70 (o_if0 (fun x => x = 0) 73 86) := s_if_ne (off := 16) (by decide +kernel) (by decide +kernel)
theorem iX10_elementLine_73 : zSnd zZM zmX10_elementLine 73 (o_aload 1 74) := s_aload_n (k := 1) (by decide +kernel) rfl
theorem iX10_elementLine_74 : zSnd zZM zmX10_elementLine 74 (o_getf zYM 1 44 77) := s_getf zcX9 fX10_385 (by decide +kernel) (by decide +kernel)
theorem iX10_elementLine_77 : zSnd zZM zmX10_elementLine 77 (o_iload 2 78) := s_iload_n (k := 2) (by decide +kernel) rfl
theorem iX10_elementLine_78 : zSnd zZM zmX10_elementLine 78 (o_aload 0 79) := s_aload_n (k := 0) (by decide +kernel) rfl
set_option maxRecDepth 20000 in
theorem iX10_elementLine_79 : zSnd zZM zmX10_elementLine 79 (o_callV zZM 0 zmX10_constant 0 1 82) := s_callV (idx := 358) zcX10 calX10_constant virX10_constant dscX10_constant (by decide +kernel) (zWS6 151 rfl rfl) (by decide +kernel)
theorem iX10_elementLine_82 : zSnd zZM zmX10_elementLine 82 (o_ast zYM .int (fun x => x) 83) := s_iast (by decide +kernel)
theorem iX10_elementLine_83 : zSnd zZM zmX10_elementLine 83 (o_goto 91) := s_goto (off := 8) (by decide +kernel) (by decide +kernel)
theorem iX10_elementLine_86 : zSnd zZM zmX10_elementLine 86 (o_aload 0 87) := s_aload_n (k := 0) (by decide +kernel) rfl
theorem iX10_elementLine_87 : zSnd zZM zmX10_elementLine 87 (o_ic 0 88) := s_iconst (i := 0) (by decide +kernel) (by decide +kernel)
set_option maxRecDepth 20000 in
theorem iX10_elementLine_88 : zSnd zZM zmX10_elementLine 88 (o_callV zZM 0 zmX10_needOctet 1 0 91) := s_callV (idx := 209) zcX10 calX10_needOctet virX10_needOctet dscX10_needOctet (by decide +kernel) (zWS6 41 rfl rfl) (by decide +kernel)
theorem iX10_elementLine_91 : zSnd zZM zmX10_elementLine 91 (o_aload 0 92) := s_aload_n (k := 0) (by decide +kernel) rfl
theorem iX10_elementLine_92 : zSnd zZM zmX10_elementLine 92 (o_getf zYM 0 12 95) := s_getf zcX10 fX10_127 (by decide +kernel) (by decide +kernel)
theorem iX10_elementLine_95 : zSnd zZM zmX10_elementLine 95 (o_istore 4 97) := s_istore (by decide +kernel) (by decide +kernel)
theorem iX10_elementLine_97 : zSnd zZM zmX10_elementLine 97 (o_aload 0 98) := s_aload_n (k := 0) (by decide +kernel) rfl
set_option maxRecDepth 20000 in
theorem iX10_elementLine_98 : zSnd zZM zmX10_elementLine 98 (o_callV zZM 0 zmX10_u 0 2 101) := s_callV (idx := 144) zcX10 calX10_u virX10_u dscX10_u (by decide +kernel) (zWS6 105 rfl rfl) (by decide +kernel)
theorem iX10_elementLine_101 : zSnd zZM zmX10_elementLine 101 (o_lstore 5 103) := s_lstore (by decide +kernel) (by decide +kernel)
theorem iX10_elementLine_103 : zSnd zZM zmX10_elementLine 103 (o_lload 5 105) := s_lload (by decide +kernel)
set_option maxRecDepth 20000 in
theorem iX10_elementLine_105 : zSnd zZM zmX10_elementLine 105 (o_lc 256 108) := s_ldc2 (i := 388) (by decide +kernel) (zWS6 175 rfl rfl)
theorem iX10_elementLine_108 : zSnd zZM zmX10_elementLine 108 (o_lif (fun x y => x ≤ y) 120 112) := s_lle (off := 11) (by decide +kernel) (by decide +kernel) (by decide +kernel)
theorem iX10_elementLine_112 : zSnd zZM zmX10_elementLine 112 (o_aload 0 113) := s_aload_n (k := 0) (by decide +kernel) rfl
theorem iX10_elementLine_113 : zSnd zZM zmX10_elementLine 113 (o_ic 4 114) := s_iconst (i := 4) (by decide +kernel) (by decide +kernel)
theorem iX10_elementLine_114 : zSnd zZM zmX10_elementLine 114 (o_iload 4 116) := s_iload (by decide +kernel)
set_option maxRecDepth 20000 in
theorem iX10_elementLine_116 : zSnd zZM zmX10_elementLine 116 (o_callV zZM 0 zmX10_wrong 2 3 119) := s_callV (idx := 176) zcX10 calX10_wrong virX10_wrong dscX10_wrong (by decide +kernel) (zWS6 49 rfl rfl) (by decide +kernel)
theorem iX10_elementLine_119 : zSnd zZM zmX10_elementLine 119 (o_athrow zYM 2) := s_athrow (T := TIse) (N := 0) rfl (by decide +kernel)
theorem iX10_elementLine_120 : zSnd zZM zmX10_elementLine 120 (o_aload 1 121) := s_aload_n (k := 1) (by decide +kernel) rfl
theorem iX10_elementLine_121 : zSnd zZM zmX10_elementLine 121 (o_getf zYM 1 45 124) := s_getf zcX9 fX10_390 (by decide +kernel) (by decide +kernel)
theorem iX10_elementLine_124 : zSnd zZM zmX10_elementLine 124 (o_iload 2 125) := s_iload_n (k := 2) (by decide +kernel) rfl
theorem iX10_elementLine_125 : zSnd zZM zmX10_elementLine 125 (o_aload 0 126) := s_aload_n (k := 0) (by decide +kernel) rfl
theorem iX10_elementLine_126 : zSnd zZM zmX10_elementLine 126 (o_getf zYM 0 12 129) := s_getf zcX10 fX10_127 (by decide +kernel) (by decide +kernel)
theorem iX10_elementLine_129 : zSnd zZM zmX10_elementLine 129 (o_ast zYM .int (fun x => x) 130) := s_iast (by decide +kernel)
theorem iX10_elementLine_130 : zSnd zZM zmX10_elementLine 130 (o_aload 1 131) := s_aload_n (k := 1) (by decide +kernel) rfl
theorem iX10_elementLine_131 : zSnd zZM zmX10_elementLine 131 (o_getf zYM 1 46 134) := s_getf zcX9 fX10_393 (by decide +kernel) (by decide +kernel)
theorem iX10_elementLine_134 : zSnd zZM zmX10_elementLine 134 (o_iload 2 135) := s_iload_n (k := 2) (by decide +kernel) rfl
theorem iX10_elementLine_135 : zSnd zZM zmX10_elementLine 135 (o_lload 5 137) := s_lload (by decide +kernel)
theorem iX10_elementLine_137 : zSnd zZM zmX10_elementLine 137 (o_l2i 138) := s_l2i (by decide +kernel)
theorem iX10_elementLine_138 : zSnd zZM zmX10_elementLine 138 (o_ast zYM .int (fun x => x) 139) := s_iast (by decide +kernel)
theorem iX10_elementLine_139 : zSnd zZM zmX10_elementLine 139 (o_ic 0 140) := s_iconst (i := 0) (by decide +kernel) (by decide +kernel)
theorem iX10_elementLine_140 : zSnd zZM zmX10_elementLine 140 (o_istore 7 142) := s_istore (by decide +kernel) (by decide +kernel)
theorem iX10_elementLine_142 : zSnd zZM zmX10_elementLine 142 (o_iload 7 144) := s_iload (by decide +kernel)
theorem iX10_elementLine_144 : zSnd zZM zmX10_elementLine 144 (o_i2l 145) := s_i2l (by decide +kernel)
theorem iX10_elementLine_145 : zSnd zZM zmX10_elementLine 145 (o_lload 5 147) := s_lload (by decide +kernel)
theorem iX10_elementLine_147 : zSnd zZM zmX10_elementLine 147 (o_lif (fun x y => y ≤ x) 163 151) := s_lge (off := 15) (by decide +kernel) (by decide +kernel) (by decide +kernel)
theorem iX10_elementLine_151 : zSnd zZM zmX10_elementLine 151 (o_aload 0 152) := s_aload_n (k := 0) (by decide +kernel) rfl
set_option maxRecDepth 20000 in
theorem iX10_elementLine_152 : zSnd zZM zmX10_elementLine 152 (o_callV zZM 0 zmX10_u 0 2 155) := s_callV (idx := 144) zcX10 calX10_u virX10_u dscX10_u (by decide +kernel) (zWS6 105 rfl rfl) (by decide +kernel)
theorem iX10_elementLine_155 : zSnd zZM zmX10_elementLine 155 (o_lstore 8 157) := s_lstore (by decide +kernel) (by decide +kernel)
theorem iX10_elementLine_157 : zSnd zZM zmX10_elementLine 157 (o_iinc 7 1 160) := s_iinc (a := 1) (by decide +kernel) (by decide +kernel) (by decide +kernel)
theorem iX10_elementLine_160 : zSnd zZM zmX10_elementLine 160 (o_goto 142) := s_goto (off := (-18)) (by decide +kernel) (by decide +kernel)
theorem iX10_elementLine_163 : zSnd zZM zmX10_elementLine 163 (o_aload 1 164) := s_aload_n (k := 1) (by decide +kernel) rfl
theorem iX10_elementLine_164 : zSnd zZM zmX10_elementLine 164 (o_dup 165) := s_dup (by decide +kernel)
theorem iX10_elementLine_165 : zSnd zZM zmX10_elementLine 165 (o_getf zYM 1 7 168) := s_getf zcX9 fX10_118 (by decide +kernel) (by decide +kernel)
theorem iX10_elementLine_168 : zSnd zZM zmX10_elementLine 168 (o_ic 1 169) := s_iconst (i := 1) (by decide +kernel) (by decide +kernel)
theorem iX10_elementLine_169 : zSnd zZM zmX10_elementLine 169 (o_ibin (fun x y => x + y) 170) := s_iadd (by decide +kernel)
theorem iX10_elementLine_170 : zSnd zZM zmX10_elementLine 170 (o_putI zYM 1 7 173) := s_putI zcX9 fX10_118 (by decide +kernel) rfl rfl (by decide +kernel)
theorem iX10_elementLine_173 : zSnd zZM zmX10_elementLine 173 (o_vret) := s_vret rfl (by decide +kernel)
def kX10_elementLine : List (Nat × zOp) := [(0, o_aload 1 1),
  (1, o_getf zYM 1 7 4),
  (4, o_istore 2 5),
  (5, o_iload 2 6),
  (6, o_ic 32 8),
  (8, o_icmp (fun x y => x = y) 11 21),
  (11, o_aload 0 12),
  (12, o_ic 4 13),
  (13, o_aload 0 14),
  (14, o_getf zYM 0 12 17),
  (17, o_callV zZM 0 zmX10_wrong 2 3 20),
  (20, o_athrow zYM 2),
  (21, o_aload 1 22),
  (22, o_getf zYM 1 43 25),
  (25, o_iload 2 26),
  (26, o_aload 0 27),
  (27, o_getf zYM 0 12 30),
  (30, o_ast zYM .int (fun x => x) 31),
  (31, o_aload 0 32),
  (32, o_callV zZM 0 zmX10_octet 0 1 35),
  (35, o_istore 3 36),
  (36, o_iload 3 37),
  (37, o_if0 (fun x => x = 0) 62 40),
  (40, o_iload 3 41),
  (41, o_ic 1 42),
  (42, o_icmp (fun x y => x = y) 62 45),
  (45, o_iload 3 46),
  (46, o_ic 3 47),
  (47, o_icmp (fun x y => x = y) 62 50),
  (50, o_aload 0 51),
  (51, o_ic 1 52),
  (52, o_aload 1 53),
  (53, o_getf zYM 1 43 56),
  (56, o_iload 2 57),
  (57, o_ald zYM .int 58),
  (58, o_callV zZM 0 zmX10_wrong 2 3 61),
  (61, o_athrow zYM 2),
  (62, o_aload 1 63),
  (63, o_getf zYM 1 42 66),
  (66, o_iload 2 67),
  (67, o_iload 3 68),
  (68, o_ast zYM .int (fun x => x) 69),
  (69, o_iload 3 70),
  (70, o_if0 (fun x => x = 0) 73 86),
  (73, o_aload 1 74),
  (74, o_getf zYM 1 44 77),
  (77, o_iload 2 78),
  (78, o_aload 0 79),
  (79, o_callV zZM 0 zmX10_constant 0 1 82),
  (82, o_ast zYM .int (fun x => x) 83),
  (83, o_goto 91),
  (86, o_aload 0 87),
  (87, o_ic 0 88),
  (88, o_callV zZM 0 zmX10_needOctet 1 0 91),
  (91, o_aload 0 92),
  (92, o_getf zYM 0 12 95),
  (95, o_istore 4 97),
  (97, o_aload 0 98),
  (98, o_callV zZM 0 zmX10_u 0 2 101),
  (101, o_lstore 5 103),
  (103, o_lload 5 105),
  (105, o_lc 256 108),
  (108, o_lif (fun x y => x ≤ y) 120 112),
  (112, o_aload 0 113),
  (113, o_ic 4 114),
  (114, o_iload 4 116),
  (116, o_callV zZM 0 zmX10_wrong 2 3 119),
  (119, o_athrow zYM 2),
  (120, o_aload 1 121),
  (121, o_getf zYM 1 45 124),
  (124, o_iload 2 125),
  (125, o_aload 0 126),
  (126, o_getf zYM 0 12 129),
  (129, o_ast zYM .int (fun x => x) 130),
  (130, o_aload 1 131),
  (131, o_getf zYM 1 46 134),
  (134, o_iload 2 135),
  (135, o_lload 5 137),
  (137, o_l2i 138),
  (138, o_ast zYM .int (fun x => x) 139),
  (139, o_ic 0 140),
  (140, o_istore 7 142),
  (142, o_iload 7 144),
  (144, o_i2l 145),
  (145, o_lload 5 147),
  (147, o_lif (fun x y => y ≤ x) 163 151),
  (151, o_aload 0 152),
  (152, o_callV zZM 0 zmX10_u 0 2 155),
  (155, o_lstore 8 157),
  (157, o_iinc 7 1 160),
  (160, o_goto 142),
  (163, o_aload 1 164),
  (164, o_dup 165),
  (165, o_getf zYM 1 7 168),
  (168, o_ic 1 169),
  (169, o_ibin (fun x y => x + y) 170),
  (170, o_putI zYM 1 7 173),
  (173, o_vret)]
set_option maxRecDepth 100000 in
theorem ksX10_elementLine : ∀ q ∈ kX10_elementLine, zSnd zZM zmX10_elementLine q.1 q.2 := zcc iX10_elementLine_0 (zcc iX10_elementLine_1 (zcc iX10_elementLine_4 (zcc iX10_elementLine_5 (zcc iX10_elementLine_6 (zcc iX10_elementLine_8 (zcc iX10_elementLine_11 (zcc iX10_elementLine_12 (zcc iX10_elementLine_13 (zcc iX10_elementLine_14 (zcc iX10_elementLine_17 (zcc iX10_elementLine_20 (zcc iX10_elementLine_21 (zcc iX10_elementLine_22 (zcc iX10_elementLine_25 (zcc iX10_elementLine_26 (zcc iX10_elementLine_27 (zcc iX10_elementLine_30 (zcc iX10_elementLine_31 (zcc iX10_elementLine_32 (zcc iX10_elementLine_35 (zcc iX10_elementLine_36 (zcc iX10_elementLine_37 (zcc iX10_elementLine_40 (zcc iX10_elementLine_41 (zcc iX10_elementLine_42 (zcc iX10_elementLine_45 (zcc iX10_elementLine_46 (zcc iX10_elementLine_47 (zcc iX10_elementLine_50 (zcc iX10_elementLine_51 (zcc iX10_elementLine_52 (zcc iX10_elementLine_53 (zcc iX10_elementLine_56 (zcc iX10_elementLine_57 (zcc iX10_elementLine_58 (zcc iX10_elementLine_61 (zcc iX10_elementLine_62 (zcc iX10_elementLine_63 (zcc iX10_elementLine_66 (zcc iX10_elementLine_67 (zcc iX10_elementLine_68 (zcc iX10_elementLine_69 (zcc iX10_elementLine_70 (zcc iX10_elementLine_73 (zcc iX10_elementLine_74 (zcc iX10_elementLine_77 (zcc iX10_elementLine_78 (zcc iX10_elementLine_79 (zcc iX10_elementLine_82 (zcc iX10_elementLine_83 (zcc iX10_elementLine_86 (zcc iX10_elementLine_87 (zcc iX10_elementLine_88 (zcc iX10_elementLine_91 (zcc iX10_elementLine_92 (zcc iX10_elementLine_95 (zcc iX10_elementLine_97 (zcc iX10_elementLine_98 (zcc iX10_elementLine_101 (zcc iX10_elementLine_103 (zcc iX10_elementLine_105 (zcc iX10_elementLine_108 (zcc iX10_elementLine_112 (zcc iX10_elementLine_113 (zcc iX10_elementLine_114 (zcc iX10_elementLine_116 (zcc iX10_elementLine_119 (zcc iX10_elementLine_120 (zcc iX10_elementLine_121 (zcc iX10_elementLine_124 (zcc iX10_elementLine_125 (zcc iX10_elementLine_126 (zcc iX10_elementLine_129 (zcc iX10_elementLine_130 (zcc iX10_elementLine_131 (zcc iX10_elementLine_134 (zcc iX10_elementLine_135 (zcc iX10_elementLine_137 (zcc iX10_elementLine_138 (zcc iX10_elementLine_139 (zcc iX10_elementLine_140 (zcc iX10_elementLine_142 (zcc iX10_elementLine_144 (zcc iX10_elementLine_145 (zcc iX10_elementLine_147 (zcc iX10_elementLine_151 (zcc iX10_elementLine_152 (zcc iX10_elementLine_155 (zcc iX10_elementLine_157 (zcc iX10_elementLine_160 (zcc iX10_elementLine_163 (zcc iX10_elementLine_164 (zcc iX10_elementLine_165 (zcc iX10_elementLine_168 (zcc iX10_elementLine_169 (zcc iX10_elementLine_170 (zcc iX10_elementLine_173 zcn)))))))))))))))))))))))))))))))))))))))))))))))))))))))))))))))))))))))))))))))))))))))))))))))))
theorem iX10_globalLine_0 : zSnd zZM zmX10_globalLine 0 (o_aload 1 1) := s_aload_n (k := 1) (by decide +kernel) rfl
theorem iX10_globalLine_1 : zSnd zZM zmX10_globalLine 1 (o_getf zYM 1 5 4) := s_getf zcX9 fX10_112 (by decide +kernel) (by decide +kernel)
theorem iX10_globalLine_4 : zSnd zZM zmX10_globalLine 4 (o_ic 32 6) := s_bipush (i := 32) (by decide +kernel) (by decide +kernel)
theorem iX10_globalLine_6 : zSnd zZM zmX10_globalLine 6 (o_icmp (fun x y => x = y) 9 19) := s_icmp_ne (off := 13) (by decide +kernel) (by decide +kernel)
theorem iX10_globalLine_9 : zSnd zZM zmX10_globalLine 9 (o_aload 0 10) := s_aload_n (k := 0) (by decide +kernel) rfl
theorem iX10_globalLine_10 : zSnd zZM zmX10_globalLine 10 (o_ic 4 11) := s_iconst (i := 4) (by decide +kernel) (by decide +kernel)
theorem iX10_globalLine_11 : zSnd zZM zmX10_globalLine 11 (o_aload 0 12) := s_aload_n (k := 0) (by decide +kernel) rfl
theorem iX10_globalLine_12 : zSnd zZM zmX10_globalLine 12 (o_getf zYM 0 12 15) := s_getf zcX10 fX10_127 (by decide +kernel) (by decide +kernel)
set_option maxRecDepth 20000 in
theorem iX10_globalLine_15 : zSnd zZM zmX10_globalLine 15 (o_callV zZM 0 zmX10_wrong 2 3 18) := s_callV (idx := 176) zcX10 calX10_wrong virX10_wrong dscX10_wrong (by decide +kernel) (zWS6 49 rfl rfl) (by decide +kernel)
theorem iX10_globalLine_18 : zSnd zZM zmX10_globalLine 18 (o_athrow zYM 2) := s_athrow (T := TIse) (N := 0) rfl (by decide +kernel)
theorem iX10_globalLine_19 : zSnd zZM zmX10_globalLine 19 (o_aload 1 20) := s_aload_n (k := 1) (by decide +kernel) rfl
theorem iX10_globalLine_20 : zSnd zZM zmX10_globalLine 20 (o_getf zYM 1 33 23) := s_getf zcX9 fX10_349 (by decide +kernel) (by decide +kernel)
theorem iX10_globalLine_23 : zSnd zZM zmX10_globalLine 23 (o_aload 1 24) := s_aload_n (k := 1) (by decide +kernel) rfl
theorem iX10_globalLine_24 : zSnd zZM zmX10_globalLine 24 (o_getf zYM 1 5 27) := s_getf zcX9 fX10_112 (by decide +kernel) (by decide +kernel)
theorem iX10_globalLine_27 : zSnd zZM zmX10_globalLine 27 (o_aload 0 28) := s_aload_n (k := 0) (by decide +kernel) rfl
set_option maxRecDepth 20000 in
theorem iX10_globalLine_28 : zSnd zZM zmX10_globalLine 28 (o_callV zZM 0 zmX10_type 0 1 31) := s_callV (idx := 290) zcX10 calX10_type virX10_type dscX10_type (by decide +kernel) (zWS6 126 rfl rfl) (by decide +kernel)
theorem iX10_globalLine_31 : zSnd zZM zmX10_globalLine 31 (o_ast zYM .int (fun x => x) 32) := s_iast (by decide +kernel)
theorem iX10_globalLine_32 : zSnd zZM zmX10_globalLine 32 (o_aload 1 33) := s_aload_n (k := 1) (by decide +kernel) rfl
theorem iX10_globalLine_33 : zSnd zZM zmX10_globalLine 33 (o_getf zYM 1 34 36) := s_getf zcX9 fX10_352 (by decide +kernel) (by decide +kernel)
theorem iX10_globalLine_36 : zSnd zZM zmX10_globalLine 36 (o_aload 1 37) := s_aload_n (k := 1) (by decide +kernel) rfl
theorem iX10_globalLine_37 : zSnd zZM zmX10_globalLine 37 (o_getf zYM 1 5 40) := s_getf zcX9 fX10_112 (by decide +kernel) (by decide +kernel)
theorem iX10_globalLine_40 : zSnd zZM zmX10_globalLine 40 (o_aload 0 41) := s_aload_n (k := 0) (by decide +kernel) rfl
set_option maxRecDepth 20000 in
theorem iX10_globalLine_41 : zSnd zZM zmX10_globalLine 41 (o_callV zZM 0 zmX10_flag 0 1 44) := s_callV (idx := 320) zcX10 calX10_flag virX10_flag dscX10_flag (by decide +kernel) (zWS6 134 rfl rfl) (by decide +kernel)
theorem iX10_globalLine_44 : zSnd zZM zmX10_globalLine 44 (o_ast zYM .boolean (fun x => vp_nar .boolean x) 45) := s_zast (by decide +kernel)
theorem iX10_globalLine_45 : zSnd zZM zmX10_globalLine 45 (o_aload 1 46) := s_aload_n (k := 1) (by decide +kernel) rfl
theorem iX10_globalLine_46 : zSnd zZM zmX10_globalLine 46 (o_getf zYM 1 35 49) := s_getf zcX9 fX10_355 (by decide +kernel) (by decide +kernel)
theorem iX10_globalLine_49 : zSnd zZM zmX10_globalLine 49 (o_aload 1 50) := s_aload_n (k := 1) (by decide +kernel) rfl
theorem iX10_globalLine_50 : zSnd zZM zmX10_globalLine 50 (o_getf zYM 1 5 53) := s_getf zcX9 fX10_112 (by decide +kernel) (by decide +kernel)
theorem iX10_globalLine_53 : zSnd zZM zmX10_globalLine 53 (o_aload 0 54) := s_aload_n (k := 0) (by decide +kernel) rfl
set_option maxRecDepth 20000 in
theorem iX10_globalLine_54 : zSnd zZM zmX10_globalLine 54 (o_callV zZM 0 zmX10_constant 0 1 57) := s_callV (idx := 358) zcX10 calX10_constant virX10_constant dscX10_constant (by decide +kernel) (zWS6 151 rfl rfl) (by decide +kernel)
theorem iX10_globalLine_57 : zSnd zZM zmX10_globalLine 57 (o_ast zYM .int (fun x => x) 58) := s_iast (by decide +kernel)
theorem iX10_globalLine_58 : zSnd zZM zmX10_globalLine 58 (o_aload 1 59) := s_aload_n (k := 1) (by decide +kernel) rfl
theorem iX10_globalLine_59 : zSnd zZM zmX10_globalLine 59 (o_dup 60) := s_dup (by decide +kernel)
theorem iX10_globalLine_60 : zSnd zZM zmX10_globalLine 60 (o_getf zYM 1 5 63) := s_getf zcX9 fX10_112 (by decide +kernel) (by decide +kernel)
theorem iX10_globalLine_63 : zSnd zZM zmX10_globalLine 63 (o_ic 1 64) := s_iconst (i := 1) (by decide +kernel) (by decide +kernel)
theorem iX10_globalLine_64 : zSnd zZM zmX10_globalLine 64 (o_ibin (fun x y => x + y) 65) := s_iadd (by decide +kernel)
theorem iX10_globalLine_65 : zSnd zZM zmX10_globalLine 65 (o_putI zYM 1 5 68) := s_putI zcX9 fX10_112 (by decide +kernel) rfl rfl (by decide +kernel)
theorem iX10_globalLine_68 : zSnd zZM zmX10_globalLine 68 (o_vret) := s_vret rfl (by decide +kernel)
def kX10_globalLine : List (Nat × zOp) := [(0, o_aload 1 1),
  (1, o_getf zYM 1 5 4),
  (4, o_ic 32 6),
  (6, o_icmp (fun x y => x = y) 9 19),
  (9, o_aload 0 10),
  (10, o_ic 4 11),
  (11, o_aload 0 12),
  (12, o_getf zYM 0 12 15),
  (15, o_callV zZM 0 zmX10_wrong 2 3 18),
  (18, o_athrow zYM 2),
  (19, o_aload 1 20),
  (20, o_getf zYM 1 33 23),
  (23, o_aload 1 24),
  (24, o_getf zYM 1 5 27),
  (27, o_aload 0 28),
  (28, o_callV zZM 0 zmX10_type 0 1 31),
  (31, o_ast zYM .int (fun x => x) 32),
  (32, o_aload 1 33),
  (33, o_getf zYM 1 34 36),
  (36, o_aload 1 37),
  (37, o_getf zYM 1 5 40),
  (40, o_aload 0 41),
  (41, o_callV zZM 0 zmX10_flag 0 1 44),
  (44, o_ast zYM .boolean (fun x => vp_nar .boolean x) 45),
  (45, o_aload 1 46),
  (46, o_getf zYM 1 35 49),
  (49, o_aload 1 50),
  (50, o_getf zYM 1 5 53),
  (53, o_aload 0 54),
  (54, o_callV zZM 0 zmX10_constant 0 1 57),
  (57, o_ast zYM .int (fun x => x) 58),
  (58, o_aload 1 59),
  (59, o_dup 60),
  (60, o_getf zYM 1 5 63),
  (63, o_ic 1 64),
  (64, o_ibin (fun x y => x + y) 65),
  (65, o_putI zYM 1 5 68),
  (68, o_vret)]
set_option maxRecDepth 100000 in
theorem ksX10_globalLine : ∀ q ∈ kX10_globalLine, zSnd zZM zmX10_globalLine q.1 q.2 := zcc iX10_globalLine_0 (zcc iX10_globalLine_1 (zcc iX10_globalLine_4 (zcc iX10_globalLine_6 (zcc iX10_globalLine_9 (zcc iX10_globalLine_10 (zcc iX10_globalLine_11 (zcc iX10_globalLine_12 (zcc iX10_globalLine_15 (zcc iX10_globalLine_18 (zcc iX10_globalLine_19 (zcc iX10_globalLine_20 (zcc iX10_globalLine_23 (zcc iX10_globalLine_24 (zcc iX10_globalLine_27 (zcc iX10_globalLine_28 (zcc iX10_globalLine_31 (zcc iX10_globalLine_32 (zcc iX10_globalLine_33 (zcc iX10_globalLine_36 (zcc iX10_globalLine_37 (zcc iX10_globalLine_40 (zcc iX10_globalLine_41 (zcc iX10_globalLine_44 (zcc iX10_globalLine_45 (zcc iX10_globalLine_46 (zcc iX10_globalLine_49 (zcc iX10_globalLine_50 (zcc iX10_globalLine_53 (zcc iX10_globalLine_54 (zcc iX10_globalLine_57 (zcc iX10_globalLine_58 (zcc iX10_globalLine_59 (zcc iX10_globalLine_60 (zcc iX10_globalLine_63 (zcc iX10_globalLine_64 (zcc iX10_globalLine_65 (zcc iX10_globalLine_68 zcn)))))))))))))))))))))))))))))))))))))
