theorem iX10_readCode_0 : zSnd zZM zmX10_readCode 0 (o_ic 0 1) := s_iconst (i := 0) (by decide +kernel) (by decide +kernel)
theorem iX10_readCode_1 : zSnd zZM zmX10_readCode 1 (o_istore 1 2) := s_istore_n (k := 1) (by decide +kernel) rfl (by decide +kernel)
theorem iX10_readCode_2 : zSnd zZM zmX10_readCode 2 (o_aload 0 3) := s_aload_n (k := 0) (by decide +kernel) rfl
theorem iX10_readCode_3 : zSnd zZM zmX10_readCode 3 (o_getf zYM 0 12 6) := s_getf zcX10 fX10_127 (by decide +kernel) (by decide +kernel)
theorem iX10_readCode_6 : zSnd zZM zmX10_readCode 6 (o_istore 2 7) := s_istore_n (k := 2) (by decide +kernel) rfl (by decide +kernel)
theorem iX10_readCode_7 : zSnd zZM zmX10_readCode 7 (o_aload 0 8) := s_aload_n (k := 0) (by decide +kernel) rfl
set_option maxRecDepth 20000 in
theorem iX10_readCode_8 : zSnd zZM zmX10_readCode 8 (o_callV zZM 0 zmX10_octet 0 1 11) := s_callV (idx := 140) zcX10 calX10_octet virX10_octet dscX10_octet (by decide +kernel) (zWS6 45 rfl rfl) (by decide +kernel)
theorem iX10_readCode_11 : zSnd zZM zmX10_readCode 11 (o_istore 3 12) := s_istore_n (k := 3) (by decide +kernel) rfl (by decide +kernel)
theorem iX10_readCode_12 : zSnd zZM zmX10_readCode 12 (o_iload 3 13) := s_iload_n (k := 3) (by decide +kernel) rfl
theorem iX10_readCode_13 : zSnd zZM zmX10_readCode 13 (o_ic 2 14) := s_iconst (i := 2) (by decide +kernel) (by decide +kernel)
theorem iX10_readCode_14 : zSnd zZM zmX10_readCode 14 (o_icmp (fun x y => x < y) 35 17) := s_icmp_lt (off := 21) (by decide +kernel) (by decide +kernel)
theorem iX10_readCode_17 : zSnd zZM zmX10_readCode 17 (o_iload 3 18) := s_iload_n (k := 3) (by decide +kernel) rfl
theorem iX10_readCode_18 : zSnd zZM zmX10_readCode 18 (o_ic 4 19) := s_iconst (i := 4) (by decide +kernel) (by decide +kernel)
theorem iX10_readCode_19 : zSnd zZM zmX10_readCode 19 (o_icmp (fun x y => y < x) 35 22) := s_icmp_gt (off := 16) (by decide +kernel) (by decide +kernel)
theorem iX10_readCode_22 : zSnd zZM zmX10_readCode 22 (o_iload 1 23) := s_iload_n (k := 1) (by decide +kernel) rfl
theorem iX10_readCode_23 : zSnd zZM zmX10_readCode 23 (o_ic 60 25) := s_bipush (i := 60) (by decide +kernel) (by decide +kernel)
theorem iX10_readCode_25 : zSnd zZM zmX10_readCode 25 (o_icmp (fun x y => x = y) 28 35) := s_icmp_ne (off := 10) (by decide +kernel) (by decide +kernel)
theorem iX10_readCode_28 : zSnd zZM zmX10_readCode 28 (o_aload 0 29) := s_aload_n (k := 0) (by decide +kernel) rfl
theorem iX10_readCode_29 : zSnd zZM zmX10_readCode 29 (o_ic 4 30) := s_iconst (i := 4) (by decide +kernel) (by decide +kernel)
theorem iX10_readCode_30 : zSnd zZM zmX10_readCode 30 (o_iload 2 31) := s_iload_n (k := 2) (by decide +kernel) rfl
set_option maxRecDepth 20000 in
theorem iX10_readCode_31 : zSnd zZM zmX10_readCode 31 (o_callV zZM 0 zmX10_wrong 2 3 34) := s_callV (idx := 176) zcX10 calX10_wrong virX10_wrong dscX10_wrong (by decide +kernel) (zWS6 49 rfl rfl) (by decide +kernel)
theorem iX10_readCode_34 : zSnd zZM zmX10_readCode 34 (o_athrow zYM 2) := s_athrow (T := TIse) (N := 0) rfl (by decide +kernel)
theorem iX10_readCode_35 : zSnd zZM zmX10_readCode 35 (o_iload 3 36) := s_iload_n (k := 3) (by decide +kernel) rfl
theorem iX10_readCode_36 : zSnd zZM zmX10_readCode 36 (o_ic 5 37) := s_iconst (i := 5) (by decide +kernel) (by decide +kernel)
theorem iX10_readCode_37 : zSnd zZM zmX10_readCode 37 (o_icmp (fun x y => x = y) 40 63) := s_icmp_ne (off := 26) (by decide +kernel) (by decide +kernel)
theorem iX10_readCode_40 : zSnd zZM zmX10_readCode 40 (o_iload 1 41) := s_iload_n (k := 1) (by decide +kernel) rfl
theorem iX10_readCode_41 : zSnd zZM zmX10_readCode 41 (o_if0 (fun x => x = 0) 56 44) := s_if_eq (off := 15) (by decide +kernel) (by decide +kernel)
theorem iX10_readCode_44 : zSnd zZM zmX10_readCode 44 (o_aload 0 45) := s_aload_n (k := 0) (by decide +kernel) rfl
theorem iX10_readCode_45 : zSnd zZM zmX10_readCode 45 (o_getf zYM 0 20 48) := s_getf zcX10 fX10_37 (by decide +kernel) (by decide +kernel)
theorem iX10_readCode_48 : zSnd zZM zmX10_readCode 48 (o_iload 1 49) := s_iload_n (k := 1) (by decide +kernel) rfl
theorem iX10_readCode_49 : zSnd zZM zmX10_readCode 49 (o_ic 1 50) := s_iconst (i := 1) (by decide +kernel) (by decide +kernel)
theorem iX10_readCode_50 : zSnd zZM zmX10_readCode 50 (o_ibin (fun x y => x - y) 51) := s_isub (by decide +kernel)
theorem iX10_readCode_51 : zSnd zZM zmX10_readCode 51 (o_ald zYM .int 52) := s_iald (by decide +kernel)
theorem iX10_readCode_52 : zSnd zZM zmX10_readCode 52 (o_ic 4 53) := s_iconst (i := 4) (by decide +kernel) (by decide +kernel)
theorem iX10_readCode_53 : zSnd zZM zmX10_readCode 53 (o_icmp (fun x y => x = y) 63 56) := s_icmp_eq (off := 10) (by decide +kernel) (by decide +kernel)
theorem iX10_readCode_56 : zSnd zZM zmX10_readCode 56 (o_aload 0 57) := s_aload_n (k := 0) (by decide +kernel) rfl
theorem iX10_readCode_57 : zSnd zZM zmX10_readCode 57 (o_ic 1 58) := s_iconst (i := 1) (by decide +kernel) (by decide +kernel)
theorem iX10_readCode_58 : zSnd zZM zmX10_readCode 58 (o_iload 2 59) := s_iload_n (k := 2) (by decide +kernel) rfl
set_option maxRecDepth 20000 in
theorem iX10_readCode_59 : zSnd zZM zmX10_readCode 59 (o_callV zZM 0 zmX10_wrong 2 3 62) := s_callV (idx := 176) zcX10 calX10_wrong virX10_wrong dscX10_wrong (by decide +kernel) (zWS6 49 rfl rfl) (by decide +kernel)
theorem iX10_readCode_62 : zSnd zZM zmX10_readCode 62 (o_athrow zYM 2) := s_athrow (T := TIse) (N := 0) rfl (by decide +kernel)
theorem iX10_readCode_63 : zSnd zZM zmX10_readCode 63 (o_aload 0 64) := s_aload_n (k := 0) (by decide +kernel) rfl
theorem iX10_readCode_64 : zSnd zZM zmX10_readCode 64 (o_iload 3 65) := s_iload_n (k := 3) (by decide +kernel) rfl
theorem iX10_readCode_65 : zSnd zZM zmX10_readCode 65 (o_iload 2 66) := s_iload_n (k := 2) (by decide +kernel) rfl
set_option maxRecDepth 20000 in
theorem iX10_readCode_66 : zSnd zZM zmX10_readCode 66 (o_callV zZM 0 zmX10_operands 2 0 69) := s_callV (idx := 148) zcX10 calX10_operands virX10_operands dscX10_operands (by decide +kernel) (zWS6 185 rfl rfl) (by decide +kernel)
theorem iX10_readCode_69 : zSnd zZM zmX10_readCode 69 (o_iload 3 70) := s_iload_n (k := 3) (by decide +kernel) rfl
theorem iX10_readCode_70 : zSnd zZM zmX10_readCode 70 (o_ic 2 71) := s_iconst (i := 2) (by decide +kernel) (by decide +kernel)
theorem iX10_readCode_71 : zSnd zZM zmX10_readCode 71 (o_icmp (fun x y => x < y) 92 74) := s_icmp_lt (off := 21) (by decide +kernel) (by decide +kernel)
theorem iX10_readCode_74 : zSnd zZM zmX10_readCode 74 (o_iload 3 75) := s_iload_n (k := 3) (by decide +kernel) rfl
theorem iX10_readCode_75 : zSnd zZM zmX10_readCode 75 (o_ic 4 76) := s_iconst (i := 4) (by decide +kernel) (by decide +kernel)
theorem iX10_readCode_76 : zSnd zZM zmX10_readCode 76 (o_icmp (fun x y => y < x) 92 79) := s_icmp_gt (off := 16) (by decide +kernel) (by decide +kernel)
theorem iX10_readCode_79 : zSnd zZM zmX10_readCode 79 (o_aload 0 80) := s_aload_n (k := 0) (by decide +kernel) rfl
theorem iX10_readCode_80 : zSnd zZM zmX10_readCode 80 (o_getf zYM 0 20 83) := s_getf zcX10 fX10_37 (by decide +kernel) (by decide +kernel)
theorem iX10_readCode_83 : zSnd zZM zmX10_readCode 83 (o_iload 1 84) := s_iload_n (k := 1) (by decide +kernel) rfl
theorem iX10_readCode_84 : zSnd zZM zmX10_readCode 84 (o_iload 3 85) := s_iload_n (k := 3) (by decide +kernel) rfl
theorem iX10_readCode_85 : zSnd zZM zmX10_readCode 85 (o_ast zYM .int (fun x => x) 86) := s_iast (by decide +kernel)
theorem iX10_readCode_86 : zSnd zZM zmX10_readCode 86 (o_iinc 1 1 89) := s_iinc (a := 1) (by decide +kernel) (by decide +kernel) (by decide +kernel)
theorem iX10_readCode_89 : zSnd zZM zmX10_readCode 89 (o_goto 123) := s_goto (off := 34) (by decide +kernel) (by decide +kernel)
theorem iX10_readCode_92 : zSnd zZM zmX10_readCode 92 (o_iload 3 93) := s_iload_n (k := 3) (by decide +kernel) rfl
theorem iX10_readCode_93 : zSnd zZM zmX10_readCode 93 (o_ic 5 94) := s_iconst (i := 5) (by decide +kernel) (by decide +kernel)
theorem iX10_readCode_94 : zSnd zZM zmX10_readCode 94 (o_icmp (fun x y => x = y) 97 109) := s_icmp_ne (off := 15) (by decide +kernel) (by decide +kernel)
theorem iX10_readCode_97 : zSnd zZM zmX10_readCode 97 (o_aload 0 98) := s_aload_n (k := 0) (by decide +kernel) rfl
theorem iX10_readCode_98 : zSnd zZM zmX10_readCode 98 (o_getf zYM 0 20 101) := s_getf zcX10 fX10_37 (by decide +kernel) (by decide +kernel)
theorem iX10_readCode_101 : zSnd zZM zmX10_readCode 101 (o_iload 1 102) := s_iload_n (k := 1) (by decide +kernel) rfl
theorem iX10_readCode_102 : zSnd zZM zmX10_readCode 102 (o_ic 1 103) := s_iconst (i := 1) (by decide +kernel) (by decide +kernel)
theorem iX10_readCode_103 : zSnd zZM zmX10_readCode 103 (o_ibin (fun x y => x - y) 104) := s_isub (by decide +kernel)
theorem iX10_readCode_104 : zSnd zZM zmX10_readCode 104 (o_ic 5 105) := s_iconst (i := 5) (by decide +kernel) (by decide +kernel)
theorem iX10_readCode_105 : zSnd zZM zmX10_readCode 105 (o_ast zYM .int (fun x => x) 106) := s_iast (by decide +kernel)
theorem iX10_readCode_106 : zSnd zZM zmX10_readCode 106 (o_goto 123) := s_goto (off := 17) (by decide +kernel) (by decide +kernel)
theorem iX10_readCode_109 : zSnd zZM zmX10_readCode 109 (o_iload 3 110) := s_iload_n (k := 3) (by decide +kernel) rfl
theorem iX10_readCode_110 : zSnd zZM zmX10_readCode 110 (o_ic 11 112) := s_bipush (i := 11) (by decide +kernel) (by decide +kernel)
theorem iX10_readCode_112 : zSnd zZM zmX10_readCode 112 (o_icmp (fun x y => x = y) 115 123) := s_icmp_ne (off := 11) (by decide +kernel) (by decide +kernel)
theorem iX10_readCode_115 : zSnd zZM zmX10_readCode 115 (o_iload 1 116) := s_iload_n (k := 1) (by decide +kernel) rfl
theorem iX10_readCode_116 : zSnd zZM zmX10_readCode 116 (o_if0 (fun x => x = 0) 119 120) := s_if_ne (off := 4) (by decide +kernel) (by decide +kernel)
theorem iX10_readCode_119 : zSnd zZM zmX10_readCode 119 (o_vret) := s_vret rfl (by decide +kernel)
theorem iX10_readCode_120 : zSnd zZM zmX10_readCode 120 (o_iinc 1 (-1) 123) := s_iinc (a := (-1)) (by decide +kernel) (by decide +kernel) (by decide +kernel)
theorem iX10_readCode_123 : zSnd zZM zmX10_readCode 123 (o_goto 2) := s_goto (off := (-121)) (by decide +kernel) (by decide +kernel)
def kX10_readCode : List (Nat × zOp) := [(0, o_ic 0 1),
  (1, o_istore 1 2),
  (2, o_aload 0 3),
  (3, o_getf zYM 0 12 6),
  (6, o_istore 2 7),
  (7, o_aload 0 8),
  (8, o_callV zZM 0 zmX10_octet 0 1 11),
  (11, o_istore 3 12),
  (12, o_iload 3 13),
  (13, o_ic 2 14),
  (14, o_icmp (fun x y => x < y) 35 17),
  (17, o_iload 3 18),
  (18, o_ic 4 19),
  (19, o_icmp (fun x y => y < x) 35 22),
  (22, o_iload 1 23),
  (23, o_ic 60 25),
  (25, o_icmp (fun x y => x = y) 28 35),
  (28, o_aload 0 29),
  (29, o_ic 4 30),
  (30, o_iload 2 31),
  (31, o_callV zZM 0 zmX10_wrong 2 3 34),
  (34, o_athrow zYM 2),
  (35, o_iload 3 36),
  (36, o_ic 5 37),
  (37, o_icmp (fun x y => x = y) 40 63),
  (40, o_iload 1 41),
  (41, o_if0 (fun x => x = 0) 56 44),
  (44, o_aload 0 45),
  (45, o_getf zYM 0 20 48),
  (48, o_iload 1 49),
  (49, o_ic 1 50),
  (50, o_ibin (fun x y => x - y) 51),
  (51, o_ald zYM .int 52),
  (52, o_ic 4 53),
  (53, o_icmp (fun x y => x = y) 63 56),
  (56, o_aload 0 57),
  (57, o_ic 1 58),
  (58, o_iload 2 59),
  (59, o_callV zZM 0 zmX10_wrong 2 3 62),
  (62, o_athrow zYM 2),
  (63, o_aload 0 64),
  (64, o_iload 3 65),
  (65, o_iload 2 66),
  (66, o_callV zZM 0 zmX10_operands 2 0 69),
  (69, o_iload 3 70),
  (70, o_ic 2 71),
  (71, o_icmp (fun x y => x < y) 92 74),
  (74, o_iload 3 75),
  (75, o_ic 4 76),
  (76, o_icmp (fun x y => y < x) 92 79),
  (79, o_aload 0 80),
  (80, o_getf zYM 0 20 83),
  (83, o_iload 1 84),
  (84, o_iload 3 85),
  (85, o_ast zYM .int (fun x => x) 86),
  (86, o_iinc 1 1 89),
  (89, o_goto 123),
  (92, o_iload 3 93),
  (93, o_ic 5 94),
  (94, o_icmp (fun x y => x = y) 97 109),
  (97, o_aload 0 98),
  (98, o_getf zYM 0 20 101),
  (101, o_iload 1 102),
  (102, o_ic 1 103),
  (103, o_ibin (fun x y => x - y) 104),
  (104, o_ic 5 105),
  (105, o_ast zYM .int (fun x => x) 106),
  (106, o_goto 123),
  (109, o_iload 3 110),
  (110, o_ic 11 112),
  (112, o_icmp (fun x y => x = y) 115 123),
  (115, o_iload 1 116),
  (116, o_if0 (fun x => x = 0) 119 120),
  (119, o_vret),
  (120, o_iinc 1 (-1) 123),
  (123, o_goto 2)]
set_option maxRecDepth 100000 in
theorem ksX10_readCode : ∀ q ∈ kX10_readCode, zSnd zZM zmX10_readCode q.1 q.2 := zcc iX10_readCode_0 (zcc iX10_readCode_1 (zcc iX10_readCode_2 (zcc iX10_readCode_3 (zcc iX10_readCode_6 (zcc iX10_readCode_7 (zcc iX10_readCode_8 (zcc iX10_readCode_11 (zcc iX10_readCode_12 (zcc iX10_readCode_13 (zcc iX10_readCode_14 (zcc iX10_readCode_17 (zcc iX10_readCode_18 (zcc iX10_readCode_19 (zcc iX10_readCode_22 (zcc iX10_readCode_23 (zcc iX10_readCode_25 (zcc iX10_readCode_28 (zcc iX10_readCode_29 (zcc iX10_readCode_30 (zcc iX10_readCode_31 (zcc iX10_readCode_34 (zcc iX10_readCode_35 (zcc iX10_readCode_36 (zcc iX10_readCode_37 (zcc iX10_readCode_40 (zcc iX10_readCode_41 (zcc iX10_readCode_44 (zcc iX10_readCode_45 (zcc iX10_readCode_48 (zcc iX10_readCode_49 (zcc iX10_readCode_50 (zcc iX10_readCode_51 (zcc iX10_readCode_52 (zcc iX10_readCode_53 (zcc iX10_readCode_56 (zcc iX10_readCode_57 (zcc iX10_readCode_58 (zcc iX10_readCode_59 (zcc iX10_readCode_62 (zcc iX10_readCode_63 (zcc iX10_readCode_64 (zcc iX10_readCode_65 (zcc iX10_readCode_66 (zcc iX10_readCode_69 (zcc iX10_readCode_70 (zcc iX10_readCode_71 (zcc iX10_readCode_74 (zcc iX10_readCode_75 (zcc iX10_readCode_76 (zcc iX10_readCode_79 (zcc iX10_readCode_80 (zcc iX10_readCode_83 (zcc iX10_readCode_84 (zcc iX10_readCode_85 (zcc iX10_readCode_86 (zcc iX10_readCode_89 (zcc iX10_readCode_92 (zcc iX10_readCode_93 (zcc iX10_readCode_94 (zcc iX10_readCode_97 (zcc iX10_readCode_98 (zcc iX10_readCode_101 (zcc iX10_readCode_102 (zcc iX10_readCode_103 (zcc iX10_readCode_104 (zcc iX10_readCode_105 (zcc iX10_readCode_106 (zcc iX10_readCode_109 (zcc iX10_readCode_110 (zcc iX10_readCode_112 (zcc iX10_readCode_115 (zcc iX10_readCode_116 (zcc iX10_readCode_119 (zcc iX10_readCode_120 (zcc iX10_readCode_123 zcn)))))))))))))))))))))))))))))))))))))))))))))))))))))))))))))))))))))))))))
theorem iX10_walked_0 : zSnd zZM zmX10_walked 0 (o_aload 0 1) := s_aload_n (k := 0) (by decide +kernel) rfl
theorem iX10_walked_1 : zSnd zZM zmX10_walked 1 (o_aload 0 2) := s_aload_n (k := 0) (by decide +kernel) rfl
theorem iX10_walked_2 : zSnd zZM zmX10_walked 2 (o_getf zYM 0 0 5) := s_getf zcX10 fX10_10 (by decide +kernel) (by decide +kernel)
theorem iX10_walked_5 : zSnd zZM zmX10_walked 5 (o_getf zYM 1 53 8) := s_getf zcX9 fX10_124 (by decide +kernel) (by decide +kernel)
theorem iX10_walked_8 : zSnd zZM zmX10_walked 8 (o_iload 1 9) := s_iload_n (k := 1) (by decide +kernel) rfl
theorem iX10_walked_9 : zSnd zZM zmX10_walked 9 (o_ald zYM .int 10) := s_iald (by decide +kernel)
theorem iX10_walked_10 : zSnd zZM zmX10_walked 10 (o_putI zYM 0 12 13) := s_putI zcX10 fX10_127 (by decide +kernel) rfl rfl (by decide +kernel)
theorem iX10_walked_13 : zSnd zZM zmX10_walked 13 (o_aload 0 14) := s_aload_n (k := 0) (by decide +kernel) rfl
theorem iX10_walked_14 : zSnd zZM zmX10_walked 14 (o_aload 0 15) := s_aload_n (k := 0) (by decide +kernel) rfl
theorem iX10_walked_15 : zSnd zZM zmX10_walked 15 (o_getf zYM 0 0 18) := s_getf zcX10 fX10_10 (by decide +kernel) (by decide +kernel)
theorem iX10_walked_18 : zSnd zZM zmX10_walked 18 (o_getf zYM 1 54 21) := s_getf zcX9 fX10_130 (by decide +kernel) (by decide +kernel)
theorem iX10_walked_21 : zSnd zZM zmX10_walked 21 (o_iload 1 22) := s_iload_n (k := 1) (by decide +kernel) rfl
theorem iX10_walked_22 : zSnd zZM zmX10_walked 22 (o_ald zYM .int 23) := s_iald (by decide +kernel)
theorem iX10_walked_23 : zSnd zZM zmX10_walked 23 (o_putI zYM 0 13 26) := s_putI zcX10 fX10_133 (by decide +kernel) rfl rfl (by decide +kernel)
theorem iX10_walked_26 : zSnd zZM zmX10_walked 26 (o_aload 0 27) := s_aload_n (k := 0) (by decide +kernel) rfl
theorem iX10_walked_27 : zSnd zZM zmX10_walked 27 (o_ic 1 28) := s_iconst (i := 1) (by decide +kernel) (by decide +kernel)
theorem iX10_walked_28 : zSnd zZM zmX10_walked 28 (o_putZ zYM 0 18 31) := s_putZ zcX10 fX10_134 (by decide +kernel) rfl rfl (by decide +kernel)
theorem iX10_walked_31 : zSnd zZM zmX10_walked 31 (o_aload 0 32) := s_aload_n (k := 0) (by decide +kernel) rfl
theorem iX10_walked_32 : zSnd zZM zmX10_walked 32 (o_ic 0 33) := s_iconst (i := 0) (by decide +kernel) (by decide +kernel)
theorem iX10_walked_33 : zSnd zZM zmX10_walked 33 (o_putI zYM 0 8 36) := s_putI zcX10 fX10_137 (by decide +kernel) rfl rfl (by decide +kernel)
theorem iX10_walked_36 : zSnd zZM zmX10_walked 36 (o_aload 0 37) := s_aload_n (k := 0) (by decide +kernel) rfl
theorem iX10_walked_37 : zSnd zZM zmX10_walked 37 (o_getf zYM 0 12 40) := s_getf zcX10 fX10_127 (by decide +kernel) (by decide +kernel)
theorem iX10_walked_40 : zSnd zZM zmX10_walked 40 (o_aload 0 41) := s_aload_n (k := 0) (by decide +kernel) rfl
theorem iX10_walked_41 : zSnd zZM zmX10_walked 41 (o_getf zYM 0 13 44) := s_getf zcX10 fX10_133 (by decide +kernel) (by decide +kernel)
theorem iX10_walked_44 : zSnd zZM zmX10_walked 44 (o_icmp (fun x y => y ≤ x) 119 47) := s_icmp_ge (off := 75) (by decide +kernel) (by decide +kernel)
theorem iX10_walked_47 : zSnd zZM zmX10_walked 47 (o_aload 0 48) := s_aload_n (k := 0) (by decide +kernel) rfl
theorem iX10_walked_48 : zSnd zZM zmX10_walked 48 (o_getf zYM 0 12 51) := s_getf zcX10 fX10_127 (by decide +kernel) (by decide +kernel)
theorem iX10_walked_51 : zSnd zZM zmX10_walked 51 (o_istore 3 52) := s_istore_n (k := 3) (by decide +kernel) rfl (by decide +kernel)
theorem iX10_walked_52 : zSnd zZM zmX10_walked 52 (o_aload 0 53) := s_aload_n (k := 0) (by decide +kernel) rfl
set_option maxRecDepth 20000 in
theorem iX10_walked_53 : zSnd zZM zmX10_walked 53 (o_callV zZM 0 zmX10_octet 0 1 56) := s_callV (idx := 140) zcX10 calX10_octet virX10_octet dscX10_octet (by decide +kernel) (zWS6 45 rfl rfl) (by decide +kernel)
theorem iX10_walked_56 : zSnd zZM zmX10_walked 56 (o_istore 4 58) := s_istore (by decide +kernel) (by decide +kernel)
theorem iX10_walked_58 : zSnd zZM zmX10_walked 58 (o_iload 4 60) := s_iload (by decide +kernel)
theorem iX10_walked_60 : zSnd zZM zmX10_walked 60 (o_istore 5 62) := s_istore (by decide +kernel) (by decide +kernel)
theorem iX10_walked_62 : zSnd zZM zmX10_walked 62 (o_iload 4 64) := s_iload (by decide +kernel)
theorem iX10_walked_64 : zSnd zZM zmX10_walked 64 (o_ic 252 67) := s_sipush (i := 252) (by decide +kernel) (by decide +kernel)
theorem iX10_walked_67 : zSnd zZM zmX10_walked 67 (o_icmp (fun x y => x = y) 70 88) := s_icmp_ne (off := 21) (by decide +kernel) (by decide +kernel)
theorem iX10_walked_70 : zSnd zZM zmX10_walked 70 (o_ic 256 73) := s_sipush (i := 256) (by decide +kernel) (by decide +kernel)
theorem iX10_walked_73 : zSnd zZM zmX10_walked 73 (o_aload 0 74) := s_aload_n (k := 0) (by decide +kernel) rfl
set_option maxRecDepth 20000 in
theorem iX10_walked_74 : zSnd zZM zmX10_walked 74 (o_callV zZM 0 zmX10_u 0 2 77) := s_callV (idx := 144) zcX10 calX10_u virX10_u dscX10_u (by decide +kernel) (zWS6 105 rfl rfl) (by decide +kernel)
theorem iX10_walked_77 : zSnd zZM zmX10_walked 77 (o_l2i 78) := s_l2i (by decide +kernel)
theorem iX10_walked_78 : zSnd zZM zmX10_walked 78 (o_ibin (fun x y => x + y) 79) := s_iadd (by decide +kernel)
theorem iX10_walked_79 : zSnd zZM zmX10_walked 79 (o_istore 5 81) := s_istore (by decide +kernel) (by decide +kernel)
theorem iX10_walked_81 : zSnd zZM zmX10_walked 81 (o_aload 0 82) := s_aload_n (k := 0) (by decide +kernel) rfl
theorem iX10_walked_82 : zSnd zZM zmX10_walked 82 (o_iload 3 83) := s_iload_n (k := 3) (by decide +kernel) rfl
theorem iX10_walked_83 : zSnd zZM zmX10_walked 83 (o_ic 1 84) := s_iconst (i := 1) (by decide +kernel) (by decide +kernel)
theorem iX10_walked_84 : zSnd zZM zmX10_walked 84 (o_ibin (fun x y => x + y) 85) := s_iadd (by decide +kernel)
theorem iX10_walked_85 : zSnd zZM zmX10_walked 85 (o_putI zYM 0 12 88) := s_putI zcX10 fX10_127 (by decide +kernel) rfl rfl (by decide +kernel)
theorem iX10_walked_88 : zSnd zZM zmX10_walked 88 (o_aload 0 89) := s_aload_n (k := 0) (by decide +kernel) rfl
theorem iX10_walked_89 : zSnd zZM zmX10_walked 89 (o_getf zYM 0 8 92) := s_getf zcX10 fX10_137 (by decide +kernel) (by decide +kernel)
theorem iX10_walked_92 : zSnd zZM zmX10_walked 92 (o_iload 2 93) := s_iload_n (k := 2) (by decide +kernel) rfl
theorem iX10_walked_93 : zSnd zZM zmX10_walked 93 (o_icmp (fun x y => x = y) 96 99) := s_icmp_ne (off := 6) (by decide +kernel) (by decide +kernel)
theorem iX10_walked_96 : zSnd zZM zmX10_walked 96 (o_iload 5 98) := s_iload (by decide +kernel)
theorem iX10_walked_98 : zSnd zZM zmX10_walked 98 (o_iret) := s_iret rfl (by decide +kernel)
theorem iX10_walked_99 : zSnd zZM zmX10_walked 99 (o_aload 0 100) := s_aload_n (k := 0) (by decide +kernel) rfl
theorem iX10_walked_100 : zSnd zZM zmX10_walked 100 (o_iload 4 102) := s_iload (by decide +kernel)
theorem iX10_walked_102 : zSnd zZM zmX10_walked 102 (o_iload 3 103) := s_iload_n (k := 3) (by decide +kernel) rfl
set_option maxRecDepth 20000 in
theorem iX10_walked_103 : zSnd zZM zmX10_walked 103 (o_callV zZM 0 zmX10_operands 2 0 106) := s_callV (idx := 148) zcX10 calX10_operands virX10_operands dscX10_operands (by decide +kernel) (zWS6 185 rfl rfl) (by decide +kernel)
theorem iX10_walked_106 : zSnd zZM zmX10_walked 106 (o_aload 0 107) := s_aload_n (k := 0) (by decide +kernel) rfl
theorem iX10_walked_107 : zSnd zZM zmX10_walked 107 (o_dup 108) := s_dup (by decide +kernel)
theorem iX10_walked_108 : zSnd zZM zmX10_walked 108 (o_getf zYM 0 8 111) := s_getf zcX10 fX10_137 (by decide +kernel) (by decide +kernel)
theorem iX10_walked_111 : zSnd zZM zmX10_walked 111 (o_ic 1 112) := s_iconst (i := 1) (by decide +kernel) (by decide +kernel)
theorem iX10_walked_112 : zSnd zZM zmX10_walked 112 (o_ibin (fun x y => x + y) 113) := s_iadd (by decide +kernel)
theorem iX10_walked_113 : zSnd zZM zmX10_walked 113 (o_putI zYM 0 8 116) := s_putI zcX10 fX10_137 (by decide +kernel) rfl rfl (by decide +kernel)
theorem iX10_walked_116 : zSnd zZM zmX10_walked 116 (o_goto 36) := s_goto (off := (-80)) (by decide +kernel) (by decide +kernel)
theorem iX10_walked_119 : zSnd zZM zmX10_walked 119 (o_ic (-1) 120) := s_iconst (i := (-1)) (by decide +kernel) (by decide +kernel)
theorem iX10_walked_120 : zSnd zZM zmX10_walked 120 (o_iret) := s_iret rfl (by decide +kernel)
def kX10_walked : List (Nat × zOp) := [(0, o_aload 0 1),
  (1, o_aload 0 2),
  (2, o_getf zYM 0 0 5),
  (5, o_getf zYM 1 53 8),
  (8, o_iload 1 9),
  (9, o_ald zYM .int 10),
  (10, o_putI zYM 0 12 13),
  (13, o_aload 0 14),
  (14, o_aload 0 15),
  (15, o_getf zYM 0 0 18),
  (18, o_getf zYM 1 54 21),
  (21, o_iload 1 22),
  (22, o_ald zYM .int 23),
  (23, o_putI zYM 0 13 26),
  (26, o_aload 0 27),
  (27, o_ic 1 28),
  (28, o_putZ zYM 0 18 31),
  (31, o_aload 0 32),
  (32, o_ic 0 33),
  (33, o_putI zYM 0 8 36),
  (36, o_aload 0 37),
  (37, o_getf zYM 0 12 40),
  (40, o_aload 0 41),
  (41, o_getf zYM 0 13 44),
  (44, o_icmp (fun x y => y ≤ x) 119 47),
  (47, o_aload 0 48),
  (48, o_getf zYM 0 12 51),
  (51, o_istore 3 52),
  (52, o_aload 0 53),
  (53, o_callV zZM 0 zmX10_octet 0 1 56),
  (56, o_istore 4 58),
  (58, o_iload 4 60),
  (60, o_istore 5 62),
  (62, o_iload 4 64),
  (64, o_ic 252 67),
  (67, o_icmp (fun x y => x = y) 70 88),
  (70, o_ic 256 73),
  (73, o_aload 0 74),
  (74, o_callV zZM 0 zmX10_u 0 2 77),
  (77, o_l2i 78),
  (78, o_ibin (fun x y => x + y) 79),
  (79, o_istore 5 81),
  (81, o_aload 0 82),
  (82, o_iload 3 83),
  (83, o_ic 1 84),
  (84, o_ibin (fun x y => x + y) 85),
  (85, o_putI zYM 0 12 88),
  (88, o_aload 0 89),
  (89, o_getf zYM 0 8 92),
  (92, o_iload 2 93),
  (93, o_icmp (fun x y => x = y) 96 99),
  (96, o_iload 5 98),
  (98, o_iret),
  (99, o_aload 0 100),
  (100, o_iload 4 102),
  (102, o_iload 3 103),
  (103, o_callV zZM 0 zmX10_operands 2 0 106),
  (106, o_aload 0 107),
  (107, o_dup 108),
  (108, o_getf zYM 0 8 111),
  (111, o_ic 1 112),
  (112, o_ibin (fun x y => x + y) 113),
  (113, o_putI zYM 0 8 116),
  (116, o_goto 36),
  (119, o_ic (-1) 120),
  (120, o_iret)]
set_option maxRecDepth 100000 in
theorem ksX10_walked : ∀ q ∈ kX10_walked, zSnd zZM zmX10_walked q.1 q.2 := zcc iX10_walked_0 (zcc iX10_walked_1 (zcc iX10_walked_2 (zcc iX10_walked_5 (zcc iX10_walked_8 (zcc iX10_walked_9 (zcc iX10_walked_10 (zcc iX10_walked_13 (zcc iX10_walked_14 (zcc iX10_walked_15 (zcc iX10_walked_18 (zcc iX10_walked_21 (zcc iX10_walked_22 (zcc iX10_walked_23 (zcc iX10_walked_26 (zcc iX10_walked_27 (zcc iX10_walked_28 (zcc iX10_walked_31 (zcc iX10_walked_32 (zcc iX10_walked_33 (zcc iX10_walked_36 (zcc iX10_walked_37 (zcc iX10_walked_40 (zcc iX10_walked_41 (zcc iX10_walked_44 (zcc iX10_walked_47 (zcc iX10_walked_48 (zcc iX10_walked_51 (zcc iX10_walked_52 (zcc iX10_walked_53 (zcc iX10_walked_56 (zcc iX10_walked_58 (zcc iX10_walked_60 (zcc iX10_walked_62 (zcc iX10_walked_64 (zcc iX10_walked_67 (zcc iX10_walked_70 (zcc iX10_walked_73 (zcc iX10_walked_74 (zcc iX10_walked_77 (zcc iX10_walked_78 (zcc iX10_walked_79 (zcc iX10_walked_81 (zcc iX10_walked_82 (zcc iX10_walked_83 (zcc iX10_walked_84 (zcc iX10_walked_85 (zcc iX10_walked_88 (zcc iX10_walked_89 (zcc iX10_walked_92 (zcc iX10_walked_93 (zcc iX10_walked_96 (zcc iX10_walked_98 (zcc iX10_walked_99 (zcc iX10_walked_100 (zcc iX10_walked_102 (zcc iX10_walked_103 (zcc iX10_walked_106 (zcc iX10_walked_107 (zcc iX10_walked_108 (zcc iX10_walked_111 (zcc iX10_walked_112 (zcc iX10_walked_113 (zcc iX10_walked_116 (zcc iX10_walked_119 (zcc iX10_walked_120 zcn)))))))))))))))))))))))))))))))))))))))))))))))))))))))))))))))))
theorem iX10_body_0 : zSnd zZM zmX10_body 0 (o_aload 0 1) := s_aload_n (k := 0) (by decide +kernel) rfl
theorem iX10_body_1 : zSnd zZM zmX10_body 1 (o_getf zYM 0 12 4) := s_getf zcX10 fX10_127 (by decide +kernel) (by decide +kernel)
theorem iX10_body_4 : zSnd zZM zmX10_body 4 (o_istore 2 5) := s_istore_n (k := 2) (by decide +kernel) rfl (by decide +kernel)
theorem iX10_body_5 : zSnd zZM zmX10_body 5 (o_aload 0 6) := s_aload_n (k := 0) (by decide +kernel) rfl
set_option maxRecDepth 20000 in
theorem iX10_body_6 : zSnd zZM zmX10_body 6 (o_callV zZM 0 zmX10_u 0 2 9) := s_callV (idx := 144) zcX10 calX10_u virX10_u dscX10_u (by decide +kernel) (zWS6 105 rfl rfl) (by decide +kernel)
theorem iX10_body_9 : zSnd zZM zmX10_body 9 (o_lstore 3 10) := s_lstore_n (k := 3) (by decide +kernel) rfl (by decide +kernel)
theorem iX10_body_10 : zSnd zZM zmX10_body 10 (o_lload 3 11) := s_lload_n (k := 3) (by decide +kernel) rfl
theorem iX10_body_11 : zSnd zZM zmX10_body 11 (o_aload 0 12) := s_aload_n (k := 0) (by decide +kernel) rfl
theorem iX10_body_12 : zSnd zZM zmX10_body 12 (o_getf zYM 0 13 15) := s_getf zcX10 fX10_133 (by decide +kernel) (by decide +kernel)
theorem iX10_body_15 : zSnd zZM zmX10_body 15 (o_aload 0 16) := s_aload_n (k := 0) (by decide +kernel) rfl
theorem iX10_body_16 : zSnd zZM zmX10_body 16 (o_getf zYM 0 12 19) := s_getf zcX10 fX10_127 (by decide +kernel) (by decide +kernel)
theorem iX10_body_19 : zSnd zZM zmX10_body 19 (o_ibin (fun x y => x - y) 20) := s_isub (by decide +kernel)
theorem iX10_body_20 : zSnd zZM zmX10_body 20 (o_i2l 21) := s_i2l (by decide +kernel)
theorem iX10_body_21 : zSnd zZM zmX10_body 21 (o_lif (fun x y => x ≤ y) 32 25) := s_lle (off := 10) (by decide +kernel) (by decide +kernel) (by decide +kernel)
theorem iX10_body_25 : zSnd zZM zmX10_body 25 (o_aload 0 26) := s_aload_n (k := 0) (by decide +kernel) rfl
theorem iX10_body_26 : zSnd zZM zmX10_body 26 (o_ic 1 27) := s_iconst (i := 1) (by decide +kernel) (by decide +kernel)
theorem iX10_body_27 : zSnd zZM zmX10_body 27 (o_iload 2 28) := s_iload_n (k := 2) (by decide +kernel) rfl
set_option maxRecDepth 20000 in
theorem iX10_body_28 : zSnd zZM zmX10_body 28 (o_callV zZM 0 zmX10_wrong 2 3 31) := s_callV (idx := 176) zcX10 calX10_wrong virX10_wrong dscX10_wrong (by decide +kernel) (zWS6 49 rfl rfl) (by decide +kernel)
theorem iX10_body_31 : zSnd zZM zmX10_body 31 (o_athrow zYM 2) := s_athrow (T := TIse) (N := 0) rfl (by decide +kernel)
theorem iX10_body_32 : zSnd zZM zmX10_body 32 (o_aload 0 33) := s_aload_n (k := 0) (by decide +kernel) rfl
theorem iX10_body_33 : zSnd zZM zmX10_body 33 (o_getf zYM 0 13 36) := s_getf zcX10 fX10_133 (by decide +kernel) (by decide +kernel)
theorem iX10_body_36 : zSnd zZM zmX10_body 36 (o_istore 5 38) := s_istore (by decide +kernel) (by decide +kernel)
theorem iX10_body_38 : zSnd zZM zmX10_body 38 (o_aload 0 39) := s_aload_n (k := 0) (by decide +kernel) rfl
theorem iX10_body_39 : zSnd zZM zmX10_body 39 (o_aload 0 40) := s_aload_n (k := 0) (by decide +kernel) rfl
theorem iX10_body_40 : zSnd zZM zmX10_body 40 (o_getf zYM 0 12 43) := s_getf zcX10 fX10_127 (by decide +kernel) (by decide +kernel)
theorem iX10_body_43 : zSnd zZM zmX10_body 43 (o_lload 3 44) := s_lload_n (k := 3) (by decide +kernel) rfl
theorem iX10_body_44 : zSnd zZM zmX10_body 44 (o_l2i 45) := s_l2i (by decide +kernel)
theorem iX10_body_45 : zSnd zZM zmX10_body 45 (o_ibin (fun x y => x + y) 46) := s_iadd (by decide +kernel)
theorem iX10_body_46 : zSnd zZM zmX10_body 46 (o_putI zYM 0 13 49) := s_putI zcX10 fX10_133 (by decide +kernel) rfl rfl (by decide +kernel)
theorem iX10_body_49 : zSnd zZM zmX10_body 49 (o_aload 0 50) := s_aload_n (k := 0) (by decide +kernel) rfl
theorem iX10_body_50 : zSnd zZM zmX10_body 50 (o_getf zYM 0 12 53) := s_getf zcX10 fX10_127 (by decide +kernel) (by decide +kernel)
theorem iX10_body_53 : zSnd zZM zmX10_body 53 (o_istore 6 55) := s_istore (by decide +kernel) (by decide +kernel)
theorem iX10_body_55 : zSnd zZM zmX10_body 55 (o_aload 0 56) := s_aload_n (k := 0) (by decide +kernel) rfl
set_option maxRecDepth 20000 in
theorem iX10_body_56 : zSnd zZM zmX10_body 56 (o_callV zZM 0 zmX10_u 0 2 59) := s_callV (idx := 144) zcX10 calX10_u virX10_u dscX10_u (by decide +kernel) (zWS6 105 rfl rfl) (by decide +kernel)
theorem iX10_body_59 : zSnd zZM zmX10_body 59 (o_lstore 7 61) := s_lstore (by decide +kernel) (by decide +kernel)
theorem iX10_body_61 : zSnd zZM zmX10_body 61 (o_lc 0 62) := s_lconst (i := 0) (by decide +kernel) (by decide +kernel)
theorem iX10_body_62 : zSnd zZM zmX10_body 62 (o_lstore 9 64) := s_lstore (by decide +kernel) (by decide +kernel)
theorem iX10_body_64 : zSnd zZM zmX10_body 64 (o_lc 0 65) := s_lconst (i := 0) (by decide +kernel) (by decide +kernel)
theorem iX10_body_65 : zSnd zZM zmX10_body 65 (o_lstore 11 67) := s_lstore (by decide +kernel) (by decide +kernel)
theorem iX10_body_67 : zSnd zZM zmX10_body 67 (o_lload 11 69) := s_lload (by decide +kernel)
theorem iX10_body_69 : zSnd zZM zmX10_body 69 (o_lload 7 71) := s_lload (by decide +kernel)
theorem iX10_body_71 : zSnd zZM zmX10_body 71 (o_lif (fun x y => y ≤ x) 122 75) := s_lge (off := 50) (by decide +kernel) (by decide +kernel) (by decide +kernel)
theorem iX10_body_75 : zSnd zZM zmX10_body 75 (o_aload 0 76) := s_aload_n (k := 0) (by decide +kernel) rfl
theorem iX10_body_76 : zSnd zZM zmX10_body 76 (o_getf zYM 0 12 79) := s_getf zcX10 fX10_127 (by decide +kernel) (by decide +kernel)
theorem iX10_body_79 : zSnd zZM zmX10_body 79 (o_istore 13 81) := s_istore (by decide +kernel) (by decide +kernel)
theorem iX10_body_81 : zSnd zZM zmX10_body 81 (o_lload 9 83) := s_lload (by decide +kernel)
theorem iX10_body_83 : zSnd zZM zmX10_body 83 (o_aload 0 84) := s_aload_n (k := 0) (by decide +kernel) rfl
set_option maxRecDepth 20000 in
theorem iX10_body_84 : zSnd zZM zmX10_body 84 (o_callV zZM 0 zmX10_u 0 2 87) := s_callV (idx := 144) zcX10 calX10_u virX10_u dscX10_u (by decide +kernel) (zWS6 105 rfl rfl) (by decide +kernel)
theorem iX10_body_87 : zSnd zZM zmX10_body 87 (o_lbin (fun x y => x + y) 88) := s_ladd (by decide +kernel)
theorem iX10_body_88 : zSnd zZM zmX10_body 88 (o_lstore 9 90) := s_lstore (by decide +kernel) (by decide +kernel)
theorem iX10_body_90 : zSnd zZM zmX10_body 90 (o_aload 0 91) := s_aload_n (k := 0) (by decide +kernel) rfl
set_option maxRecDepth 20000 in
theorem iX10_body_91 : zSnd zZM zmX10_body 91 (o_callV zZM 0 zmX10_type 0 1 94) := s_callV (idx := 290) zcX10 calX10_type virX10_type dscX10_type (by decide +kernel) (zWS6 126 rfl rfl) (by decide +kernel)
theorem iX10_body_94 : zSnd zZM zmX10_body 94 (o_istore 14 96) := s_istore (by decide +kernel) (by decide +kernel)
theorem iX10_body_96 : zSnd zZM zmX10_body 96 (o_lload 9 98) := s_lload (by decide +kernel)
set_option maxRecDepth 20000 in
theorem iX10_body_98 : zSnd zZM zmX10_body 98 (o_lc 64 101) := s_ldc2 (i := 411) (by decide +kernel) (zWS6 180 rfl rfl)
theorem iX10_body_101 : zSnd zZM zmX10_body 101 (o_lif (fun x y => x ≤ y) 113 105) := s_lle (off := 11) (by decide +kernel) (by decide +kernel) (by decide +kernel)
theorem iX10_body_105 : zSnd zZM zmX10_body 105 (o_aload 0 106) := s_aload_n (k := 0) (by decide +kernel) rfl
theorem iX10_body_106 : zSnd zZM zmX10_body 106 (o_ic 4 107) := s_iconst (i := 4) (by decide +kernel) (by decide +kernel)
theorem iX10_body_107 : zSnd zZM zmX10_body 107 (o_iload 13 109) := s_iload (by decide +kernel)
set_option maxRecDepth 20000 in
theorem iX10_body_109 : zSnd zZM zmX10_body 109 (o_callV zZM 0 zmX10_wrong 2 3 112) := s_callV (idx := 176) zcX10 calX10_wrong virX10_wrong dscX10_wrong (by decide +kernel) (zWS6 49 rfl rfl) (by decide +kernel)
theorem iX10_body_112 : zSnd zZM zmX10_body 112 (o_athrow zYM 2) := s_athrow (T := TIse) (N := 0) rfl (by decide +kernel)
theorem iX10_body_113 : zSnd zZM zmX10_body 113 (o_lload 11 115) := s_lload (by decide +kernel)
theorem iX10_body_115 : zSnd zZM zmX10_body 115 (o_lc 1 116) := s_lconst (i := 1) (by decide +kernel) (by decide +kernel)
theorem iX10_body_116 : zSnd zZM zmX10_body 116 (o_lbin (fun x y => x + y) 117) := s_ladd (by decide +kernel)
theorem iX10_body_117 : zSnd zZM zmX10_body 117 (o_lstore 11 119) := s_lstore (by decide +kernel) (by decide +kernel)
theorem iX10_body_119 : zSnd zZM zmX10_body 119 (o_goto 67) := s_goto (off := (-52)) (by decide +kernel) (by decide +kernel)
theorem iX10_body_122 : zSnd zZM zmX10_body 122 (o_aload 0 123) := s_aload_n (k := 0) (by decide +kernel) rfl
theorem iX10_body_123 : zSnd zZM zmX10_body 123 (o_getf zYM 0 12 126) := s_getf zcX10 fX10_127 (by decide +kernel) (by decide +kernel)
theorem iX10_body_126 : zSnd zZM zmX10_body 126 (o_istore 11 128) := s_istore (by decide +kernel) (by decide +kernel)
theorem iX10_body_128 : zSnd zZM zmX10_body 128 (o_aload 0 129) := s_aload_n (k := 0) (by decide +kernel) rfl
set_option maxRecDepth 20000 in
theorem iX10_body_129 : zSnd zZM zmX10_body 129 (o_callV zZM 0 zmX10_readCode 0 0 132) := s_callV (idx := 413) zcX10 calX10_readCode virX10_readCode dscX10_readCode (by decide +kernel) (zWS6 181 rfl rfl) (by decide +kernel)
theorem iX10_body_132 : zSnd zZM zmX10_body 132 (o_aload 0 133) := s_aload_n (k := 0) (by decide +kernel) rfl
theorem iX10_body_133 : zSnd zZM zmX10_body 133 (o_getf zYM 0 12 136) := s_getf zcX10 fX10_127 (by decide +kernel) (by decide +kernel)
theorem iX10_body_136 : zSnd zZM zmX10_body 136 (o_aload 0 137) := s_aload_n (k := 0) (by decide +kernel) rfl
theorem iX10_body_137 : zSnd zZM zmX10_body 137 (o_getf zYM 0 13 140) := s_getf zcX10 fX10_133 (by decide +kernel) (by decide +kernel)
theorem iX10_body_140 : zSnd zZM zmX10_body 140 (o_icmp (fun x y => y ≤ x) 153 143) := s_icmp_ge (off := 13) (by decide +kernel) (by decide +kernel)
theorem iX10_body_143 : zSnd zZM zmX10_body 143 (o_aload 0 144) := s_aload_n (k := 0) (by decide +kernel) rfl
theorem iX10_body_144 : zSnd zZM zmX10_body 144 (o_ic 1 145) := s_iconst (i := 1) (by decide +kernel) (by decide +kernel)
theorem iX10_body_145 : zSnd zZM zmX10_body 145 (o_aload 0 146) := s_aload_n (k := 0) (by decide +kernel) rfl
theorem iX10_body_146 : zSnd zZM zmX10_body 146 (o_getf zYM 0 12 149) := s_getf zcX10 fX10_127 (by decide +kernel) (by decide +kernel)
set_option maxRecDepth 20000 in
theorem iX10_body_149 : zSnd zZM zmX10_body 149 (o_callV zZM 0 zmX10_wrong 2 3 152) := s_callV (idx := 176) zcX10 calX10_wrong virX10_wrong dscX10_wrong (by decide +kernel) (zWS6 49 rfl rfl) (by decide +kernel)
theorem iX10_body_152 : zSnd zZM zmX10_body 152 (o_athrow zYM 2) := s_athrow (T := TIse) (N := 0) rfl (by decide +kernel)
theorem iX10_body_153 : zSnd zZM zmX10_body 153 (o_aload 1 154) := s_aload_n (k := 1) (by decide +kernel) rfl
theorem iX10_body_154 : zSnd zZM zmX10_body 154 (o_getf zYM 1 9 157) := s_getf zcX9 fX10_212 (by decide +kernel) (by decide +kernel)
theorem iX10_body_157 : zSnd zZM zmX10_body 157 (o_ic 64 159) := s_bipush (i := 64) (by decide +kernel) (by decide +kernel)
theorem iX10_body_159 : zSnd zZM zmX10_body 159 (o_icmp (fun x y => y ≤ x) 197 162) := s_icmp_ge (off := 38) (by decide +kernel) (by decide +kernel)
theorem iX10_body_162 : zSnd zZM zmX10_body 162 (o_aload 1 163) := s_aload_n (k := 1) (by decide +kernel) rfl
theorem iX10_body_163 : zSnd zZM zmX10_body 163 (o_getf zYM 1 52 166) := s_getf zcX9 fX10_167 (by decide +kernel) (by decide +kernel)
theorem iX10_body_166 : zSnd zZM zmX10_body 166 (o_aload 1 167) := s_aload_n (k := 1) (by decide +kernel) rfl
theorem iX10_body_167 : zSnd zZM zmX10_body 167 (o_getf zYM 1 9 170) := s_getf zcX9 fX10_212 (by decide +kernel) (by decide +kernel)
theorem iX10_body_170 : zSnd zZM zmX10_body 170 (o_iload 6 172) := s_iload (by decide +kernel)
theorem iX10_body_172 : zSnd zZM zmX10_body 172 (o_ast zYM .int (fun x => x) 173) := s_iast (by decide +kernel)
theorem iX10_body_173 : zSnd zZM zmX10_body 173 (o_aload 1 174) := s_aload_n (k := 1) (by decide +kernel) rfl
theorem iX10_body_174 : zSnd zZM zmX10_body 174 (o_getf zYM 1 53 177) := s_getf zcX9 fX10_124 (by decide +kernel) (by decide +kernel)
theorem iX10_body_177 : zSnd zZM zmX10_body 177 (o_aload 1 178) := s_aload_n (k := 1) (by decide +kernel) rfl
theorem iX10_body_178 : zSnd zZM zmX10_body 178 (o_getf zYM 1 9 181) := s_getf zcX9 fX10_212 (by decide +kernel) (by decide +kernel)
theorem iX10_body_181 : zSnd zZM zmX10_body 181 (o_iload 11 183) := s_iload (by decide +kernel)
theorem iX10_body_183 : zSnd zZM zmX10_body 183 (o_ast zYM .int (fun x => x) 184) := s_iast (by decide +kernel)
theorem iX10_body_184 : zSnd zZM zmX10_body 184 (o_aload 1 185) := s_aload_n (k := 1) (by decide +kernel) rfl
theorem iX10_body_185 : zSnd zZM zmX10_body 185 (o_getf zYM 1 54 188) := s_getf zcX9 fX10_130 (by decide +kernel) (by decide +kernel)
theorem iX10_body_188 : zSnd zZM zmX10_body 188 (o_aload 1 189) := s_aload_n (k := 1) (by decide +kernel) rfl
theorem iX10_body_189 : zSnd zZM zmX10_body 189 (o_getf zYM 1 9 192) := s_getf zcX9 fX10_212 (by decide +kernel) (by decide +kernel)
theorem iX10_body_192 : zSnd zZM zmX10_body 192 (o_aload 0 193) := s_aload_n (k := 0) (by decide +kernel) rfl
theorem iX10_body_193 : zSnd zZM zmX10_body 193 (o_getf zYM 0 13 196) := s_getf zcX10 fX10_133 (by decide +kernel) (by decide +kernel)
theorem iX10_body_196 : zSnd zZM zmX10_body 196 (o_ast zYM .int (fun x => x) 197) := s_iast (by decide +kernel)
theorem iX10_body_197 : zSnd zZM zmX10_body 197 (o_aload 1 198) := s_aload_n (k := 1) (by decide +kernel) rfl
theorem iX10_body_198 : zSnd zZM zmX10_body 198 (o_dup 199) := s_dup (by decide +kernel)
theorem iX10_body_199 : zSnd zZM zmX10_body 199 (o_getf zYM 1 9 202) := s_getf zcX9 fX10_212 (by decide +kernel) (by decide +kernel)
theorem iX10_body_202 : zSnd zZM zmX10_body 202 (o_ic 1 203) := s_iconst (i := 1) (by decide +kernel) (by decide +kernel)
theorem iX10_body_203 : zSnd zZM zmX10_body 203 (o_ibin (fun x y => x + y) 204) := s_iadd (by decide +kernel)
theorem iX10_body_204 : zSnd zZM zmX10_body 204 (o_putI zYM 1 9 207) := s_putI zcX9 fX10_212 (by decide +kernel) rfl rfl (by decide +kernel)
theorem iX10_body_207 : zSnd zZM zmX10_body 207 (o_aload 0 208) := s_aload_n (k := 0) (by decide +kernel) rfl
theorem iX10_body_208 : zSnd zZM zmX10_body 208 (o_iload 5 210) := s_iload (by decide +kernel)
theorem iX10_body_210 : zSnd zZM zmX10_body 210 (o_putI zYM 0 13 213) := s_putI zcX10 fX10_133 (by decide +kernel) rfl rfl (by decide +kernel)
theorem iX10_body_213 : zSnd zZM zmX10_body 213 (o_vret) := s_vret rfl (by decide +kernel)
def kX10_body : List (Nat × zOp) := [(0, o_aload 0 1),
  (1, o_getf zYM 0 12 4),
  (4, o_istore 2 5),
  (5, o_aload 0 6),
  (6, o_callV zZM 0 zmX10_u 0 2 9),
  (9, o_lstore 3 10),
  (10, o_lload 3 11),
  (11, o_aload 0 12),
  (12, o_getf zYM 0 13 15),
  (15, o_aload 0 16),
  (16, o_getf zYM 0 12 19),
  (19, o_ibin (fun x y => x - y) 20),
  (20, o_i2l 21),
  (21, o_lif (fun x y => x ≤ y) 32 25),
  (25, o_aload 0 26),
  (26, o_ic 1 27),
  (27, o_iload 2 28),
  (28, o_callV zZM 0 zmX10_wrong 2 3 31),
  (31, o_athrow zYM 2),
  (32, o_aload 0 33),
  (33, o_getf zYM 0 13 36),
  (36, o_istore 5 38),
  (38, o_aload 0 39),
  (39, o_aload 0 40),
  (40, o_getf zYM 0 12 43),
  (43, o_lload 3 44),
  (44, o_l2i 45),
  (45, o_ibin (fun x y => x + y) 46),
  (46, o_putI zYM 0 13 49),
  (49, o_aload 0 50),
  (50, o_getf zYM 0 12 53),
  (53, o_istore 6 55),
  (55, o_aload 0 56),
  (56, o_callV zZM 0 zmX10_u 0 2 59),
  (59, o_lstore 7 61),
  (61, o_lc 0 62),
  (62, o_lstore 9 64),
  (64, o_lc 0 65),
  (65, o_lstore 11 67),
  (67, o_lload 11 69),
  (69, o_lload 7 71),
  (71, o_lif (fun x y => y ≤ x) 122 75),
  (75, o_aload 0 76),
  (76, o_getf zYM 0 12 79),
  (79, o_istore 13 81),
  (81, o_lload 9 83),
  (83, o_aload 0 84),
  (84, o_callV zZM 0 zmX10_u 0 2 87),
  (87, o_lbin (fun x y => x + y) 88),
  (88, o_lstore 9 90),
  (90, o_aload 0 91),
  (91, o_callV zZM 0 zmX10_type 0 1 94),
  (94, o_istore 14 96),
  (96, o_lload 9 98),
  (98, o_lc 64 101),
  (101, o_lif (fun x y => x ≤ y) 113 105),
  (105, o_aload 0 106),
  (106, o_ic 4 107),
  (107, o_iload 13 109),
  (109, o_callV zZM 0 zmX10_wrong 2 3 112),
  (112, o_athrow zYM 2),
  (113, o_lload 11 115),
  (115, o_lc 1 116),
  (116, o_lbin (fun x y => x + y) 117),
  (117, o_lstore 11 119),
  (119, o_goto 67),
  (122, o_aload 0 123),
  (123, o_getf zYM 0 12 126),
  (126, o_istore 11 128),
  (128, o_aload 0 129),
  (129, o_callV zZM 0 zmX10_readCode 0 0 132),
  (132, o_aload 0 133),
  (133, o_getf zYM 0 12 136),
  (136, o_aload 0 137),
  (137, o_getf zYM 0 13 140),
  (140, o_icmp (fun x y => y ≤ x) 153 143),
  (143, o_aload 0 144),
  (144, o_ic 1 145),
  (145, o_aload 0 146),
  (146, o_getf zYM 0 12 149),
  (149, o_callV zZM 0 zmX10_wrong 2 3 152),
  (152, o_athrow zYM 2),
  (153, o_aload 1 154),
  (154, o_getf zYM 1 9 157),
  (157, o_ic 64 159),
  (159, o_icmp (fun x y => y ≤ x) 197 162),
  (162, o_aload 1 163),
  (163, o_getf zYM 1 52 166),
  (166, o_aload 1 167),
  (167, o_getf zYM 1 9 170),
  (170, o_iload 6 172),
  (172, o_ast zYM .int (fun x => x) 173),
  (173, o_aload 1 174),
  (174, o_getf zYM 1 53 177),
  (177, o_aload 1 178),
  (178, o_getf zYM 1 9 181),
  (181, o_iload 11 183),
  (183, o_ast zYM .int (fun x => x) 184),
  (184, o_aload 1 185),
  (185, o_getf zYM 1 54 188),
  (188, o_aload 1 189),
  (189, o_getf zYM 1 9 192),
  (192, o_aload 0 193),
  (193, o_getf zYM 0 13 196),
  (196, o_ast zYM .int (fun x => x) 197),
  (197, o_aload 1 198),
  (198, o_dup 199),
  (199, o_getf zYM 1 9 202),
  (202, o_ic 1 203),
  (203, o_ibin (fun x y => x + y) 204),
  (204, o_putI zYM 1 9 207),
  (207, o_aload 0 208),
  (208, o_iload 5 210),
  (210, o_putI zYM 0 13 213),
  (213, o_vret)]
set_option maxRecDepth 100000 in
theorem ksX10_body : ∀ q ∈ kX10_body, zSnd zZM zmX10_body q.1 q.2 := zcc iX10_body_0 (zcc iX10_body_1 (zcc iX10_body_4 (zcc iX10_body_5 (zcc iX10_body_6 (zcc iX10_body_9 (zcc iX10_body_10 (zcc iX10_body_11 (zcc iX10_body_12 (zcc iX10_body_15 (zcc iX10_body_16 (zcc iX10_body_19 (zcc iX10_body_20 (zcc iX10_body_21 (zcc iX10_body_25 (zcc iX10_body_26 (zcc iX10_body_27 (zcc iX10_body_28 (zcc iX10_body_31 (zcc iX10_body_32 (zcc iX10_body_33 (zcc iX10_body_36 (zcc iX10_body_38 (zcc iX10_body_39 (zcc iX10_body_40 (zcc iX10_body_43 (zcc iX10_body_44 (zcc iX10_body_45 (zcc iX10_body_46 (zcc iX10_body_49 (zcc iX10_body_50 (zcc iX10_body_53 (zcc iX10_body_55 (zcc iX10_body_56 (zcc iX10_body_59 (zcc iX10_body_61 (zcc iX10_body_62 (zcc iX10_body_64 (zcc iX10_body_65 (zcc iX10_body_67 (zcc iX10_body_69 (zcc iX10_body_71 (zcc iX10_body_75 (zcc iX10_body_76 (zcc iX10_body_79 (zcc iX10_body_81 (zcc iX10_body_83 (zcc iX10_body_84 (zcc iX10_body_87 (zcc iX10_body_88 (zcc iX10_body_90 (zcc iX10_body_91 (zcc iX10_body_94 (zcc iX10_body_96 (zcc iX10_body_98 (zcc iX10_body_101 (zcc iX10_body_105 (zcc iX10_body_106 (zcc iX10_body_107 (zcc iX10_body_109 (zcc iX10_body_112 (zcc iX10_body_113 (zcc iX10_body_115 (zcc iX10_body_116 (zcc iX10_body_117 (zcc iX10_body_119 (zcc iX10_body_122 (zcc iX10_body_123 (zcc iX10_body_126 (zcc iX10_body_128 (zcc iX10_body_129 (zcc iX10_body_132 (zcc iX10_body_133 (zcc iX10_body_136 (zcc iX10_body_137 (zcc iX10_body_140 (zcc iX10_body_143 (zcc iX10_body_144 (zcc iX10_body_145 (zcc iX10_body_146 (zcc iX10_body_149 (zcc iX10_body_152 (zcc iX10_body_153 (zcc iX10_body_154 (zcc iX10_body_157 (zcc iX10_body_159 (zcc iX10_body_162 (zcc iX10_body_163 (zcc iX10_body_166 (zcc iX10_body_167 (zcc iX10_body_170 (zcc iX10_body_172 (zcc iX10_body_173 (zcc iX10_body_174 (zcc iX10_body_177 (zcc iX10_body_178 (zcc iX10_body_181 (zcc iX10_body_183 (zcc iX10_body_184 (zcc iX10_body_185 (zcc iX10_body_188 (zcc iX10_body_189 (zcc iX10_body_192 (zcc iX10_body_193 (zcc iX10_body_196 (zcc iX10_body_197 (zcc iX10_body_198 (zcc iX10_body_199 (zcc iX10_body_202 (zcc iX10_body_203 (zcc iX10_body_204 (zcc iX10_body_207 (zcc iX10_body_208 (zcc iX10_body_210 (zcc iX10_body_213 zcn))))))))))))))))))))))))))))))))))))))))))))))))))))))))))))))))))))))))))))))))))))))))))))))))))))))))))))))))))
theorem iX10_code_0 : zSnd zZM zmX10_code 0 (o_aload 0 1) := s_aload_n (k := 0) (by decide +kernel) rfl
theorem iX10_code_1 : zSnd zZM zmX10_code 1 (o_iload 1 2) := s_iload_n (k := 1) (by decide +kernel) rfl
set_option maxRecDepth 20000 in
theorem iX10_code_2 : zSnd zZM zmX10_code 2 (o_callV zZM 0 zmX10_isOwn 1 1 5) := s_callV (idx := 152) zcX10 calX10_isOwn virX10_isOwn dscX10_isOwn (by decide +kernel) (zWS7 118 rfl rfl) (by decide +kernel)
theorem iX10_code_5 : zSnd zZM zmX10_code 5 (o_if0 (fun x => x = 0) 21 8) := s_if_eq (off := 16) (by decide +kernel) (by decide +kernel)
theorem iX10_code_8 : zSnd zZM zmX10_code 8 (o_iload 2 9) := s_iload_n (k := 2) (by decide +kernel) rfl
theorem iX10_code_9 : zSnd zZM zmX10_code 9 (o_if0 (fun x => x < 0) 21 12) := s_if_lt (off := 12) (by decide +kernel) (by decide +kernel)
theorem iX10_code_12 : zSnd zZM zmX10_code 12 (o_aload 0 13) := s_aload_n (k := 0) (by decide +kernel) rfl
theorem iX10_code_13 : zSnd zZM zmX10_code 13 (o_iload 1 14) := s_iload_n (k := 1) (by decide +kernel) rfl
theorem iX10_code_14 : zSnd zZM zmX10_code 14 (o_iload 2 15) := s_iload_n (k := 2) (by decide +kernel) rfl
set_option maxRecDepth 20000 in
theorem iX10_code_15 : zSnd zZM zmX10_code 15 (o_callV zZM 0 zmX10_walked 2 1 18) := s_callV (idx := 156) zcX10 calX10_walked virX10_walked dscX10_walked (by decide +kernel) (zWS7 122 rfl rfl) (by decide +kernel)
theorem iX10_code_18 : zSnd zZM zmX10_code 18 (o_goto 22) := s_goto (off := 4) (by decide +kernel) (by decide +kernel)
theorem iX10_code_21 : zSnd zZM zmX10_code 21 (o_ic (-1) 22) := s_iconst (i := (-1)) (by decide +kernel) (by decide +kernel)
theorem iX10_code_22 : zSnd zZM zmX10_code 22 (o_iret) := s_iret rfl (by decide +kernel)
def kX10_code : List (Nat × zOp) := [(0, o_aload 0 1),
  (1, o_iload 1 2),
  (2, o_callV zZM 0 zmX10_isOwn 1 1 5),
  (5, o_if0 (fun x => x = 0) 21 8),
  (8, o_iload 2 9),
  (9, o_if0 (fun x => x < 0) 21 12),
  (12, o_aload 0 13),
  (13, o_iload 1 14),
  (14, o_iload 2 15),
  (15, o_callV zZM 0 zmX10_walked 2 1 18),
  (18, o_goto 22),
  (21, o_ic (-1) 22),
  (22, o_iret)]
set_option maxRecDepth 100000 in
theorem ksX10_code : ∀ q ∈ kX10_code, zSnd zZM zmX10_code q.1 q.2 := zcc iX10_code_0 (zcc iX10_code_1 (zcc iX10_code_2 (zcc iX10_code_5 (zcc iX10_code_8 (zcc iX10_code_9 (zcc iX10_code_12 (zcc iX10_code_13 (zcc iX10_code_14 (zcc iX10_code_15 (zcc iX10_code_18 (zcc iX10_code_21 (zcc iX10_code_22 zcn))))))))))))
theorem iX10_instructions_0 : zSnd zZM zmX10_instructions 0 (o_aload 0 1) := s_aload_n (k := 0) (by decide +kernel) rfl
theorem iX10_instructions_1 : zSnd zZM zmX10_instructions 1 (o_iload 1 2) := s_iload_n (k := 1) (by decide +kernel) rfl
set_option maxRecDepth 20000 in
theorem iX10_instructions_2 : zSnd zZM zmX10_instructions 2 (o_callV zZM 0 zmX10_isOwn 1 1 5) := s_callV (idx := 152) zcX10 calX10_isOwn virX10_isOwn dscX10_isOwn (by decide +kernel) (zWS7 118 rfl rfl) (by decide +kernel)
theorem iX10_instructions_5 : zSnd zZM zmX10_instructions 5 (o_if0 (fun x => x = 0) 8 10) := s_if_ne (off := 5) (by decide +kernel) (by decide +kernel)
theorem iX10_instructions_8 : zSnd zZM zmX10_instructions 8 (o_ic (-1) 9) := s_iconst (i := (-1)) (by decide +kernel) (by decide +kernel)
theorem iX10_instructions_9 : zSnd zZM zmX10_instructions 9 (o_iret) := s_iret rfl (by decide +kernel)
theorem iX10_instructions_10 : zSnd zZM zmX10_instructions 10 (o_aload 0 11) := s_aload_n (k := 0) (by decide +kernel) rfl
theorem iX10_instructions_11 : zSnd zZM zmX10_instructions 11 (o_iload 1 12) := s_iload_n (k := 1) (by decide +kernel) rfl
theorem iX10_instructions_12 : zSnd zZM zmX10_instructions 12 (o_ic (-1) 13) := s_iconst (i := (-1)) (by decide +kernel) (by decide +kernel)
set_option maxRecDepth 20000 in
theorem iX10_instructions_13 : zSnd zZM zmX10_instructions 13 (o_callV zZM 0 zmX10_walked 2 1 16) := s_callV (idx := 156) zcX10 calX10_walked virX10_walked dscX10_walked (by decide +kernel) (zWS7 122 rfl rfl) (by decide +kernel)
theorem iX10_instructions_16 : zSnd zZM zmX10_instructions 16 (o_istore 2 17) := s_istore_n (k := 2) (by decide +kernel) rfl (by decide +kernel)
theorem iX10_instructions_17 : zSnd zZM zmX10_instructions 17 (o_aload 0 18) := s_aload_n (k := 0) (by decide +kernel) rfl
theorem iX10_instructions_18 : zSnd zZM zmX10_instructions 18 (o_getf zYM 0 8 21) := s_getf zcX10 fX10_137 (by decide +kernel) (by decide +kernel)
theorem iX10_instructions_21 : zSnd zZM zmX10_instructions 21 (o_iret) := s_iret rfl (by decide +kernel)
def kX10_instructions : List (Nat × zOp) := [(0, o_aload 0 1),
  (1, o_iload 1 2),
  (2, o_callV zZM 0 zmX10_isOwn 1 1 5),
  (5, o_if0 (fun x => x = 0) 8 10),
  (8, o_ic (-1) 9),
  (9, o_iret),
  (10, o_aload 0 11),
  (11, o_iload 1 12),
  (12, o_ic (-1) 13),
  (13, o_callV zZM 0 zmX10_walked 2 1 16),
  (16, o_istore 2 17),
  (17, o_aload 0 18),
  (18, o_getf zYM 0 8 21),
  (21, o_iret)]
set_option maxRecDepth 100000 in
theorem ksX10_instructions : ∀ q ∈ kX10_instructions, zSnd zZM zmX10_instructions q.1 q.2 := zcc iX10_instructions_0 (zcc iX10_instructions_1 (zcc iX10_instructions_2 (zcc iX10_instructions_5 (zcc iX10_instructions_8 (zcc iX10_instructions_9 (zcc iX10_instructions_10 (zcc iX10_instructions_11 (zcc iX10_instructions_12 (zcc iX10_instructions_13 (zcc iX10_instructions_16 (zcc iX10_instructions_17 (zcc iX10_instructions_18 (zcc iX10_instructions_21 zcn)))))))))))))
theorem iX10_means_0 : zSnd zZM zmX10_means 0 (o_aload 0 1) := s_aload_n (k := 0) (by decide +kernel) rfl
theorem iX10_means_1 : zSnd zZM zmX10_means 1 (o_aload 1 2) := s_aload_n (k := 1) (by decide +kernel) rfl
theorem iX10_means_2 : zSnd zZM zmX10_means 2 (o_getf zYM 1 1 5) := s_getf zcX9 fX10_77 (by decide +kernel) (by decide +kernel)
theorem iX10_means_5 : zSnd zZM zmX10_means 5 (o_putI zYM 0 13 8) := s_putI zcX10 fX10_133 (by decide +kernel) rfl rfl (by decide +kernel)
theorem iX10_means_8 : zSnd zZM zmX10_means 8 (o_ic 0 9) := s_iconst (i := 0) (by decide +kernel) (by decide +kernel)
theorem iX10_means_9 : zSnd zZM zmX10_means 9 (o_istore 2 10) := s_istore_n (k := 2) (by decide +kernel) rfl (by decide +kernel)
theorem iX10_means_10 : zSnd zZM zmX10_means 10 (o_iload 2 11) := s_iload_n (k := 2) (by decide +kernel) rfl
theorem iX10_means_11 : zSnd zZM zmX10_means 11 (o_aload 1 12) := s_aload_n (k := 1) (by decide +kernel) rfl
theorem iX10_means_12 : zSnd zZM zmX10_means 12 (o_getf zYM 1 3 15) := s_getf zcX9 fX10_100 (by decide +kernel) (by decide +kernel)
theorem iX10_means_15 : zSnd zZM zmX10_means 15 (o_icmp (fun x y => y ≤ x) 114 18) := s_icmp_ge (off := 99) (by decide +kernel) (by decide +kernel)
theorem iX10_means_18 : zSnd zZM zmX10_means 18 (o_aload 1 19) := s_aload_n (k := 1) (by decide +kernel) rfl
theorem iX10_means_19 : zSnd zZM zmX10_means 19 (o_getf zYM 1 24 22) := s_getf zcX9 fX10_308 (by decide +kernel) (by decide +kernel)
theorem iX10_means_22 : zSnd zZM zmX10_means 22 (o_iload 2 23) := s_iload_n (k := 2) (by decide +kernel) rfl
theorem iX10_means_23 : zSnd zZM zmX10_means 23 (o_ald zYM .int 24) := s_iald (by decide +kernel)
theorem iX10_means_24 : zSnd zZM zmX10_means 24 (o_if0 (fun x => x = 0) 27 57) := s_if_ne (off := 33) (by decide +kernel) (by decide +kernel)
theorem iX10_means_27 : zSnd zZM zmX10_means 27 (o_aload 0 28) := s_aload_n (k := 0) (by decide +kernel) rfl
theorem iX10_means_28 : zSnd zZM zmX10_means 28 (o_aload 1 29) := s_aload_n (k := 1) (by decide +kernel) rfl
theorem iX10_means_29 : zSnd zZM zmX10_means 29 (o_getf zYM 1 25 32) := s_getf zcX9 fX10_314 (by decide +kernel) (by decide +kernel)
theorem iX10_means_32 : zSnd zZM zmX10_means 32 (o_iload 2 33) := s_iload_n (k := 2) (by decide +kernel) rfl
theorem iX10_means_33 : zSnd zZM zmX10_means 33 (o_lald zYM 34) := s_lald (by decide +kernel)
theorem iX10_means_34 : zSnd zZM zmX10_means 34 (o_aload 1 35) := s_aload_n (k := 1) (by decide +kernel) rfl
theorem iX10_means_35 : zSnd zZM zmX10_means 35 (o_getf zYM 1 2 38) := s_getf zcX9 fX10_97 (by decide +kernel) (by decide +kernel)
theorem iX10_means_38 : zSnd zZM zmX10_means 38 (o_i2l 39) := s_i2l (by decide +kernel)
theorem iX10_means_39 : zSnd zZM zmX10_means 39 (o_lif (fun x y => y ≤ x) 47 43) := s_lge (off := 7) (by decide +kernel) (by decide +kernel) (by decide +kernel)
theorem iX10_means_43 : zSnd zZM zmX10_means 43 (o_ic 1 44) := s_iconst (i := 1) (by decide +kernel) (by decide +kernel)
theorem iX10_means_44 : zSnd zZM zmX10_means 44 (o_goto 48) := s_goto (off := 4) (by decide +kernel) (by decide +kernel)
theorem iX10_means_47 : zSnd zZM zmX10_means 47 (o_ic 0 48) := s_iconst (i := 0) (by decide +kernel) (by decide +kernel)
theorem iX10_means_48 : zSnd zZM zmX10_means 48 (o_aload 1 49) := s_aload_n (k := 1) (by decide +kernel) rfl
theorem iX10_means_49 : zSnd zZM zmX10_means 49 (o_getf zYM 1 26 52) := s_getf zcX9 fX10_311 (by decide +kernel) (by decide +kernel)
theorem iX10_means_52 : zSnd zZM zmX10_means 52 (o_iload 2 53) := s_iload_n (k := 2) (by decide +kernel) rfl
theorem iX10_means_53 : zSnd zZM zmX10_means 53 (o_ald zYM .int 54) := s_iald (by decide +kernel)
set_option maxRecDepth 20000 in
theorem iX10_means_54 : zSnd zZM zmX10_means 54 (o_callV zZM 0 zmX10_must 2 0 57) := s_callV (idx := 451) zcX10 calX10_must virX10_must dscX10_must (by decide +kernel) (zWS6 221 rfl rfl) (by decide +kernel)
theorem iX10_means_57 : zSnd zZM zmX10_means 57 (o_aload 1 58) := s_aload_n (k := 1) (by decide +kernel) rfl
theorem iX10_means_58 : zSnd zZM zmX10_means 58 (o_getf zYM 1 24 61) := s_getf zcX9 fX10_308 (by decide +kernel) (by decide +kernel)
theorem iX10_means_61 : zSnd zZM zmX10_means 61 (o_iload 2 62) := s_iload_n (k := 2) (by decide +kernel) rfl
theorem iX10_means_62 : zSnd zZM zmX10_means 62 (o_ald zYM .int 63) := s_iald (by decide +kernel)
theorem iX10_means_63 : zSnd zZM zmX10_means 63 (o_ic 1 64) := s_iconst (i := 1) (by decide +kernel) (by decide +kernel)
theorem iX10_means_64 : zSnd zZM zmX10_means 64 (o_icmp (fun x y => x = y) 77 67) := s_icmp_eq (off := 13) (by decide +kernel) (by decide +kernel)
theorem iX10_means_67 : zSnd zZM zmX10_means 67 (o_aload 1 68) := s_aload_n (k := 1) (by decide +kernel) rfl
theorem iX10_means_68 : zSnd zZM zmX10_means 68 (o_getf zYM 1 24 71) := s_getf zcX9 fX10_308 (by decide +kernel) (by decide +kernel)
theorem iX10_means_71 : zSnd zZM zmX10_means 71 (o_iload 2 72) := s_iload_n (k := 2) (by decide +kernel) rfl
theorem iX10_means_72 : zSnd zZM zmX10_means 72 (o_ald zYM .int 73) := s_iald (by decide +kernel)
theorem iX10_means_73 : zSnd zZM zmX10_means 73 (o_ic 2 74) := s_iconst (i := 2) (by decide +kernel) (by decide +kernel)
theorem iX10_means_74 : zSnd zZM zmX10_means 74 (o_icmp (fun x y => x = y) 77 108) := s_icmp_ne (off := 34) (by decide +kernel) (by decide +kernel)
theorem iX10_means_77 : zSnd zZM zmX10_means 77 (o_aload 0 78) := s_aload_n (k := 0) (by decide +kernel) rfl
theorem iX10_means_78 : zSnd zZM zmX10_means 78 (o_aload 1 79) := s_aload_n (k := 1) (by decide +kernel) rfl
theorem iX10_means_79 : zSnd zZM zmX10_means 79 (o_getf zYM 1 24 82) := s_getf zcX9 fX10_308 (by decide +kernel) (by decide +kernel)
theorem iX10_means_82 : zSnd zZM zmX10_means 82 (o_iload 2 83) := s_iload_n (k := 2) (by decide +kernel) rfl
theorem iX10_means_83 : zSnd zZM zmX10_means 83 (o_ald zYM .int 84) := s_iald (by decide +kernel)
theorem iX10_means_84 : zSnd zZM zmX10_means 84 (o_aload 1 85) := s_aload_n (k := 1) (by decide +kernel) rfl
theorem iX10_means_85 : zSnd zZM zmX10_means 85 (o_getf zYM 1 29 88) := s_getf zcX9 fX10_327 (by decide +kernel) (by decide +kernel)
theorem iX10_means_88 : zSnd zZM zmX10_means 88 (o_iload 2 89) := s_iload_n (k := 2) (by decide +kernel) rfl
theorem iX10_means_89 : zSnd zZM zmX10_means 89 (o_lald zYM 90) := s_lald (by decide +kernel)
theorem iX10_means_90 : zSnd zZM zmX10_means 90 (o_aload 1 91) := s_aload_n (k := 1) (by decide +kernel) rfl
theorem iX10_means_91 : zSnd zZM zmX10_means 91 (o_getf zYM 1 30 94) := s_getf zcX9 fX10_330 (by decide +kernel) (by decide +kernel)
theorem iX10_means_94 : zSnd zZM zmX10_means 94 (o_iload 2 95) := s_iload_n (k := 2) (by decide +kernel) rfl
theorem iX10_means_95 : zSnd zZM zmX10_means 95 (o_lald zYM 96) := s_lald (by decide +kernel)
set_option maxRecDepth 20000 in
theorem iX10_means_96 : zSnd zZM zmX10_means 96 (o_callS zZM zmX10_areRight 3 1 99) := s_callS (idx := 455) calX10_areRight virX10_areRight dscX10_areRight (by decide +kernel) (zWS6 225 rfl rfl) (by decide +kernel)
theorem iX10_means_99 : zSnd zZM zmX10_means 99 (o_aload 1 100) := s_aload_n (k := 1) (by decide +kernel) rfl
theorem iX10_means_100 : zSnd zZM zmX10_means 100 (o_getf zYM 1 26 103) := s_getf zcX9 fX10_311 (by decide +kernel) (by decide +kernel)
theorem iX10_means_103 : zSnd zZM zmX10_means 103 (o_iload 2 104) := s_iload_n (k := 2) (by decide +kernel) rfl
theorem iX10_means_104 : zSnd zZM zmX10_means 104 (o_ald zYM .int 105) := s_iald (by decide +kernel)
set_option maxRecDepth 20000 in
theorem iX10_means_105 : zSnd zZM zmX10_means 105 (o_callV zZM 0 zmX10_must 2 0 108) := s_callV (idx := 451) zcX10 calX10_must virX10_must dscX10_must (by decide +kernel) (zWS6 221 rfl rfl) (by decide +kernel)
theorem iX10_means_108 : zSnd zZM zmX10_means 108 (o_iinc 2 1 111) := s_iinc (a := 1) (by decide +kernel) (by decide +kernel) (by decide +kernel)
theorem iX10_means_111 : zSnd zZM zmX10_means 111 (o_goto 10) := s_goto (off := (-101)) (by decide +kernel) (by decide +kernel)
theorem iX10_means_114 : zSnd zZM zmX10_means 114 (o_ic 0 115) := s_iconst (i := 0) (by decide +kernel) (by decide +kernel)
theorem iX10_means_115 : zSnd zZM zmX10_means 115 (o_istore 2 116) := s_istore_n (k := 2) (by decide +kernel) rfl (by decide +kernel)
theorem iX10_means_116 : zSnd zZM zmX10_means 116 (o_iload 2 117) := s_iload_n (k := 2) (by decide +kernel) rfl
theorem iX10_means_117 : zSnd zZM zmX10_means 117 (o_aload 1 118) := s_aload_n (k := 1) (by decide +kernel) rfl
theorem iX10_means_118 : zSnd zZM zmX10_means 118 (o_getf zYM 1 4 121) := s_getf zcX9 fX10_103 (by decide +kernel) (by decide +kernel)
theorem iX10_means_121 : zSnd zZM zmX10_means 121 (o_icmp (fun x y => y ≤ x) 160 124) := s_icmp_ge (off := 39) (by decide +kernel) (by decide +kernel)
theorem iX10_means_124 : zSnd zZM zmX10_means 124 (o_aload 0 125) := s_aload_n (k := 0) (by decide +kernel) rfl
theorem iX10_means_125 : zSnd zZM zmX10_means 125 (o_aload 1 126) := s_aload_n (k := 1) (by decide +kernel) rfl
theorem iX10_means_126 : zSnd zZM zmX10_means 126 (o_getf zYM 1 31 129) := s_getf zcX9 fX10_163 (by decide +kernel) (by decide +kernel)
theorem iX10_means_129 : zSnd zZM zmX10_means 129 (o_iload 2 130) := s_iload_n (k := 2) (by decide +kernel) rfl
theorem iX10_means_130 : zSnd zZM zmX10_means 130 (o_lald zYM 131) := s_lald (by decide +kernel)
theorem iX10_means_131 : zSnd zZM zmX10_means 131 (o_aload 1 132) := s_aload_n (k := 1) (by decide +kernel) rfl
theorem iX10_means_132 : zSnd zZM zmX10_means 132 (o_getf zYM 1 2 135) := s_getf zcX9 fX10_97 (by decide +kernel) (by decide +kernel)
theorem iX10_means_135 : zSnd zZM zmX10_means 135 (o_i2l 136) := s_i2l (by decide +kernel)
theorem iX10_means_136 : zSnd zZM zmX10_means 136 (o_lif (fun x y => y ≤ x) 144 140) := s_lge (off := 7) (by decide +kernel) (by decide +kernel) (by decide +kernel)
theorem iX10_means_140 : zSnd zZM zmX10_means 140 (o_ic 1 141) := s_iconst (i := 1) (by decide +kernel) (by decide +kernel)
theorem iX10_means_141 : zSnd zZM zmX10_means 141 (o_goto 145) := s_goto (off := 4) (by decide +kernel) (by decide +kernel)
theorem iX10_means_144 : zSnd zZM zmX10_means 144 (o_ic 0 145) := s_iconst (i := 0) (by decide +kernel) (by decide +kernel)
theorem iX10_means_145 : zSnd zZM zmX10_means 145 (o_aload 1 146) := s_aload_n (k := 1) (by decide +kernel) rfl
theorem iX10_means_146 : zSnd zZM zmX10_means 146 (o_getf zYM 1 32 149) := s_getf zcX9 fX10_267 (by decide +kernel) (by decide +kernel)
theorem iX10_means_149 : zSnd zZM zmX10_means 149 (o_iload 2 150) := s_iload_n (k := 2) (by decide +kernel) rfl
theorem iX10_means_150 : zSnd zZM zmX10_means 150 (o_ald zYM .int 151) := s_iald (by decide +kernel)
set_option maxRecDepth 20000 in
theorem iX10_means_151 : zSnd zZM zmX10_means 151 (o_callV zZM 0 zmX10_must 2 0 154) := s_callV (idx := 451) zcX10 calX10_must virX10_must dscX10_must (by decide +kernel) (zWS6 221 rfl rfl) (by decide +kernel)
theorem iX10_means_154 : zSnd zZM zmX10_means 154 (o_iinc 2 1 157) := s_iinc (a := 1) (by decide +kernel) (by decide +kernel) (by decide +kernel)
theorem iX10_means_157 : zSnd zZM zmX10_means 157 (o_goto 116) := s_goto (off := (-41)) (by decide +kernel) (by decide +kernel)
theorem iX10_means_160 : zSnd zZM zmX10_means 160 (o_aload 0 161) := s_aload_n (k := 0) (by decide +kernel) rfl
theorem iX10_means_161 : zSnd zZM zmX10_means 161 (o_aload 1 162) := s_aload_n (k := 1) (by decide +kernel) rfl
theorem iX10_means_162 : zSnd zZM zmX10_means 162 (o_ic 1 163) := s_iconst (i := 1) (by decide +kernel) (by decide +kernel)
theorem iX10_means_163 : zSnd zZM zmX10_means 163 (o_aload 1 164) := s_aload_n (k := 1) (by decide +kernel) rfl
theorem iX10_means_164 : zSnd zZM zmX10_means 164 (o_getf zYM 1 12 167) := s_getf zcX9 fX10_106 (by decide +kernel) (by decide +kernel)
set_option maxRecDepth 20000 in
theorem iX10_means_167 : zSnd zZM zmX10_means 167 (o_callV zZM 0 zmX10_one 3 0 170) := s_callV (idx := 459) zcX10 calX10_one virX10_one dscX10_one (by decide +kernel) (zWS6 229 rfl rfl) (by decide +kernel)
theorem iX10_means_170 : zSnd zZM zmX10_means 170 (o_aload 0 171) := s_aload_n (k := 0) (by decide +kernel) rfl
theorem iX10_means_171 : zSnd zZM zmX10_means 171 (o_aload 1 172) := s_aload_n (k := 1) (by decide +kernel) rfl
theorem iX10_means_172 : zSnd zZM zmX10_means 172 (o_ic 2 173) := s_iconst (i := 2) (by decide +kernel) (by decide +kernel)
theorem iX10_means_173 : zSnd zZM zmX10_means 173 (o_aload 1 174) := s_aload_n (k := 1) (by decide +kernel) rfl
theorem iX10_means_174 : zSnd zZM zmX10_means 174 (o_getf zYM 1 13 177) := s_getf zcX9 fX10_109 (by decide +kernel) (by decide +kernel)
set_option maxRecDepth 20000 in
theorem iX10_means_177 : zSnd zZM zmX10_means 177 (o_callV zZM 0 zmX10_one 3 0 180) := s_callV (idx := 459) zcX10 calX10_one virX10_one dscX10_one (by decide +kernel) (zWS6 229 rfl rfl) (by decide +kernel)
theorem iX10_means_180 : zSnd zZM zmX10_means 180 (o_ic 0 181) := s_iconst (i := 0) (by decide +kernel) (by decide +kernel)
theorem iX10_means_181 : zSnd zZM zmX10_means 181 (o_istore 2 182) := s_istore_n (k := 2) (by decide +kernel) rfl (by decide +kernel)
theorem iX10_means_182 : zSnd zZM zmX10_means 182 (o_iload 2 183) := s_iload_n (k := 2) (by decide +kernel) rfl
theorem iX10_means_183 : zSnd zZM zmX10_means 183 (o_aload 1 184) := s_aload_n (k := 1) (by decide +kernel) rfl
theorem iX10_means_184 : zSnd zZM zmX10_means 184 (o_getf zYM 1 5 187) := s_getf zcX9 fX10_112 (by decide +kernel) (by decide +kernel)
theorem iX10_means_187 : zSnd zZM zmX10_means 187 (o_icmp (fun x y => y ≤ x) 223 190) := s_icmp_ge (off := 36) (by decide +kernel) (by decide +kernel)
theorem iX10_means_190 : zSnd zZM zmX10_means 190 (o_aload 0 191) := s_aload_n (k := 0) (by decide +kernel) rfl
theorem iX10_means_191 : zSnd zZM zmX10_means 191 (o_aload 0 192) := s_aload_n (k := 0) (by decide +kernel) rfl
theorem iX10_means_192 : zSnd zZM zmX10_means 192 (o_aload 1 193) := s_aload_n (k := 1) (by decide +kernel) rfl
theorem iX10_means_193 : zSnd zZM zmX10_means 193 (o_aload 1 194) := s_aload_n (k := 1) (by decide +kernel) rfl
theorem iX10_means_194 : zSnd zZM zmX10_means 194 (o_getf zYM 1 35 197) := s_getf zcX9 fX10_355 (by decide +kernel) (by decide +kernel)
theorem iX10_means_197 : zSnd zZM zmX10_means 197 (o_iload 2 198) := s_iload_n (k := 2) (by decide +kernel) rfl
theorem iX10_means_198 : zSnd zZM zmX10_means 198 (o_ald zYM .int 199) := s_iald (by decide +kernel)
theorem iX10_means_199 : zSnd zZM zmX10_means 199 (o_aload 1 200) := s_aload_n (k := 1) (by decide +kernel) rfl
theorem iX10_means_200 : zSnd zZM zmX10_means 200 (o_getf zYM 1 33 203) := s_getf zcX9 fX10_349 (by decide +kernel) (by decide +kernel)
theorem iX10_means_203 : zSnd zZM zmX10_means 203 (o_iload 2 204) := s_iload_n (k := 2) (by decide +kernel) rfl
theorem iX10_means_204 : zSnd zZM zmX10_means 204 (o_ald zYM .int 205) := s_iald (by decide +kernel)
set_option maxRecDepth 20000 in
theorem iX10_means_205 : zSnd zZM zmX10_means 205 (o_callV zZM 0 zmX10_isConstant 3 1 208) := s_callV (idx := 463) zcX10 calX10_isConstant virX10_isConstant dscX10_isConstant (by decide +kernel) (zWS6 236 rfl rfl) (by decide +kernel)
theorem iX10_means_208 : zSnd zZM zmX10_means 208 (o_aload 1 209) := s_aload_n (k := 1) (by decide +kernel) rfl
theorem iX10_means_209 : zSnd zZM zmX10_means 209 (o_getf zYM 1 35 212) := s_getf zcX9 fX10_355 (by decide +kernel) (by decide +kernel)
theorem iX10_means_212 : zSnd zZM zmX10_means 212 (o_iload 2 213) := s_iload_n (k := 2) (by decide +kernel) rfl
theorem iX10_means_213 : zSnd zZM zmX10_means 213 (o_ald zYM .int 214) := s_iald (by decide +kernel)
set_option maxRecDepth 20000 in
theorem iX10_means_214 : zSnd zZM zmX10_means 214 (o_callV zZM 0 zmX10_must 2 0 217) := s_callV (idx := 451) zcX10 calX10_must virX10_must dscX10_must (by decide +kernel) (zWS6 221 rfl rfl) (by decide +kernel)
theorem iX10_means_217 : zSnd zZM zmX10_means 217 (o_iinc 2 1 220) := s_iinc (a := 1) (by decide +kernel) (by decide +kernel) (by decide +kernel)
theorem iX10_means_220 : zSnd zZM zmX10_means 220 (o_goto 182) := s_goto (off := (-38)) (by decide +kernel) (by decide +kernel)
theorem iX10_means_223 : zSnd zZM zmX10_means 223 (o_ic 0 224) := s_iconst (i := 0) (by decide +kernel) (by decide +kernel)
theorem iX10_means_224 : zSnd zZM zmX10_means 224 (o_istore 2 225) := s_istore_n (k := 2) (by decide +kernel) rfl (by decide +kernel)
theorem iX10_means_225 : zSnd zZM zmX10_means 225 (o_iload 2 226) := s_iload_n (k := 2) (by decide +kernel) rfl
theorem iX10_means_226 : zSnd zZM zmX10_means 226 (o_aload 1 227) := s_aload_n (k := 1) (by decide +kernel) rfl
theorem iX10_means_227 : zSnd zZM zmX10_means 227 (o_getf zYM 1 6 230) := s_getf zcX9 fX10_115 (by decide +kernel) (by decide +kernel)
theorem iX10_means_230 : zSnd zZM zmX10_means 230 (o_icmp (fun x y => y ≤ x) 245 233) := s_icmp_ge (off := 15) (by decide +kernel) (by decide +kernel)
theorem iX10_means_233 : zSnd zZM zmX10_means 233 (o_aload 0 234) := s_aload_n (k := 0) (by decide +kernel) rfl
theorem iX10_means_234 : zSnd zZM zmX10_means 234 (o_aload 1 235) := s_aload_n (k := 1) (by decide +kernel) rfl
theorem iX10_means_235 : zSnd zZM zmX10_means 235 (o_iload 2 236) := s_iload_n (k := 2) (by decide +kernel) rfl
set_option maxRecDepth 20000 in
theorem iX10_means_236 : zSnd zZM zmX10_means 236 (o_callV zZM 0 zmX10_exported 2 0 239) := s_callV (idx := 467) zcX10 calX10_exported virX10_exported dscX10_exported (by decide +kernel) (zWS7 6 rfl rfl) (by decide +kernel)
theorem iX10_means_239 : zSnd zZM zmX10_means 239 (o_iinc 2 1 242) := s_iinc (a := 1) (by decide +kernel) (by decide +kernel) (by decide +kernel)
theorem iX10_means_242 : zSnd zZM zmX10_means 242 (o_goto 225) := s_goto (off := (-17)) (by decide +kernel) (by decide +kernel)
theorem iX10_means_245 : zSnd zZM zmX10_means 245 (o_aload 1 246) := s_aload_n (k := 1) (by decide +kernel) rfl
theorem iX10_means_246 : zSnd zZM zmX10_means 246 (o_getf zYM 1 10 249) := s_getf zcX9 fX10_215 (by decide +kernel) (by decide +kernel)
theorem iX10_means_249 : zSnd zZM zmX10_means 249 (o_if0 (fun x => x < 0) 313 252) := s_if_lt (off := 64) (by decide +kernel) (by decide +kernel)
theorem iX10_means_252 : zSnd zZM zmX10_means 252 (o_aload 0 253) := s_aload_n (k := 0) (by decide +kernel) rfl
theorem iX10_means_253 : zSnd zZM zmX10_means 253 (o_aload 1 254) := s_aload_n (k := 1) (by decide +kernel) rfl
theorem iX10_means_254 : zSnd zZM zmX10_means 254 (o_getf zYM 1 10 257) := s_getf zcX9 fX10_215 (by decide +kernel) (by decide +kernel)
theorem iX10_means_257 : zSnd zZM zmX10_means 257 (o_aload 1 258) := s_aload_n (k := 1) (by decide +kernel) rfl
set_option maxRecDepth 20000 in
theorem iX10_means_258 : zSnd zZM zmX10_means 258 (o_callS zZM zmX10_functionsOf 1 1 261) := s_callS (idx := 470) calX10_functionsOf virX10_functionsOf dscX10_functionsOf (by decide +kernel) (zWS7 10 rfl rfl) (by decide +kernel)
theorem iX10_means_261 : zSnd zZM zmX10_means 261 (o_icmp (fun x y => y ≤ x) 268 264) := s_icmp_ge (off := 7) (by decide +kernel) (by decide +kernel)
theorem iX10_means_264 : zSnd zZM zmX10_means 264 (o_ic 1 265) := s_iconst (i := 1) (by decide +kernel) (by decide +kernel)
theorem iX10_means_265 : zSnd zZM zmX10_means 265 (o_goto 269) := s_goto (off := 4) (by decide +kernel) (by decide +kernel)
theorem iX10_means_268 : zSnd zZM zmX10_means 268 (o_ic 0 269) := s_iconst (i := 0) (by decide +kernel) (by decide +kernel)
theorem iX10_means_269 : zSnd zZM zmX10_means 269 (o_aload 1 270) := s_aload_n (k := 1) (by decide +kernel) rfl
theorem iX10_means_270 : zSnd zZM zmX10_means 270 (o_getf zYM 1 11 273) := s_getf zcX9 fX10_250 (by decide +kernel) (by decide +kernel)
set_option maxRecDepth 20000 in
theorem iX10_means_273 : zSnd zZM zmX10_means 273 (o_callV zZM 0 zmX10_must 2 0 276) := s_callV (idx := 451) zcX10 calX10_must virX10_must dscX10_must (by decide +kernel) (zWS6 221 rfl rfl) (by decide +kernel)
theorem iX10_means_276 : zSnd zZM zmX10_means 276 (o_aload 1 277) := s_aload_n (k := 1) (by decide +kernel) rfl
theorem iX10_means_277 : zSnd zZM zmX10_means 277 (o_aload 1 278) := s_aload_n (k := 1) (by decide +kernel) rfl
theorem iX10_means_278 : zSnd zZM zmX10_means 278 (o_getf zYM 1 10 281) := s_getf zcX9 fX10_215 (by decide +kernel) (by decide +kernel)
set_option maxRecDepth 20000 in
theorem iX10_means_281 : zSnd zZM zmX10_means 281 (o_callS zZM zmX10_sigOf 2 1 284) := s_callS (idx := 474) calX10_sigOf virX10_sigOf dscX10_sigOf (by decide +kernel) (zWS7 24 rfl rfl) (by decide +kernel)
theorem iX10_means_284 : zSnd zZM zmX10_means 284 (o_istore 2 285) := s_istore_n (k := 2) (by decide +kernel) rfl (by decide +kernel)
theorem iX10_means_285 : zSnd zZM zmX10_means 285 (o_aload 0 286) := s_aload_n (k := 0) (by decide +kernel) rfl
theorem iX10_means_286 : zSnd zZM zmX10_means 286 (o_iload 2 287) := s_iload_n (k := 2) (by decide +kernel) rfl
set_option maxRecDepth 20000 in
theorem iX10_means_287 : zSnd zZM zmX10_means 287 (o_callS zZM zmX10_parameters 1 1 290) := s_callS (idx := 478) calX10_parameters virX10_parameters dscX10_parameters (by decide +kernel) (zWS7 27 rfl rfl) (by decide +kernel)
theorem iX10_means_290 : zSnd zZM zmX10_means 290 (o_if0 (fun x => x = 0) 293 305) := s_if_ne (off := 15) (by decide +kernel) (by decide +kernel)
theorem iX10_means_293 : zSnd zZM zmX10_means 293 (o_iload 2 294) := s_iload_n (k := 2) (by decide +kernel) rfl
set_option maxRecDepth 20000 in
theorem iX10_means_294 : zSnd zZM zmX10_means 294 (o_callS zZM zmX10_resultOf 1 1 297) := s_callS (idx := 481) calX10_resultOf virX10_resultOf dscX10_resultOf (by decide +kernel) (zWS7 30 rfl rfl) (by decide +kernel)
theorem iX10_means_297 : zSnd zZM zmX10_means 297 (o_ic 2 298) := s_iconst (i := 2) (by decide +kernel) (by decide +kernel)
theorem iX10_means_298 : zSnd zZM zmX10_means 298 (o_icmp (fun x y => x = y) 301 305) := s_icmp_ne (off := 7) (by decide +kernel) (by decide +kernel)
theorem iX10_means_301 : zSnd zZM zmX10_means 301 (o_ic 1 302) := s_iconst (i := 1) (by decide +kernel) (by decide +kernel)
theorem iX10_means_302 : zSnd zZM zmX10_means 302 (o_goto 306) := s_goto (off := 4) (by decide +kernel) (by decide +kernel)
theorem iX10_means_305 : zSnd zZM zmX10_means 305 (o_ic 0 306) := s_iconst (i := 0) (by decide +kernel) (by decide +kernel)
theorem iX10_means_306 : zSnd zZM zmX10_means 306 (o_aload 1 307) := s_aload_n (k := 1) (by decide +kernel) rfl
theorem iX10_means_307 : zSnd zZM zmX10_means 307 (o_getf zYM 1 11 310) := s_getf zcX9 fX10_250 (by decide +kernel) (by decide +kernel)
set_option maxRecDepth 20000 in
theorem iX10_means_310 : zSnd zZM zmX10_means 310 (o_callV zZM 0 zmX10_must 2 0 313) := s_callV (idx := 451) zcX10 calX10_must virX10_must dscX10_must (by decide +kernel) (zWS6 221 rfl rfl) (by decide +kernel)
theorem iX10_means_313 : zSnd zZM zmX10_means 313 (o_ic 0 314) := s_iconst (i := 0) (by decide +kernel) (by decide +kernel)
theorem iX10_means_314 : zSnd zZM zmX10_means 314 (o_istore 2 315) := s_istore_n (k := 2) (by decide +kernel) rfl (by decide +kernel)
theorem iX10_means_315 : zSnd zZM zmX10_means 315 (o_iload 2 316) := s_iload_n (k := 2) (by decide +kernel) rfl
theorem iX10_means_316 : zSnd zZM zmX10_means 316 (o_aload 1 317) := s_aload_n (k := 1) (by decide +kernel) rfl
theorem iX10_means_317 : zSnd zZM zmX10_means 317 (o_getf zYM 1 7 320) := s_getf zcX9 fX10_118 (by decide +kernel) (by decide +kernel)
theorem iX10_means_320 : zSnd zZM zmX10_means 320 (o_icmp (fun x y => y ≤ x) 433 323) := s_icmp_ge (off := 113) (by decide +kernel) (by decide +kernel)
theorem iX10_means_323 : zSnd zZM zmX10_means 323 (o_aload 1 324) := s_aload_n (k := 1) (by decide +kernel) rfl
theorem iX10_means_324 : zSnd zZM zmX10_means 324 (o_getf zYM 1 42 327) := s_getf zcX9 fX10_382 (by decide +kernel) (by decide +kernel)
theorem iX10_means_327 : zSnd zZM zmX10_means 327 (o_iload 2 328) := s_iload_n (k := 2) (by decide +kernel) rfl
theorem iX10_means_328 : zSnd zZM zmX10_means 328 (o_ald zYM .int 329) := s_iald (by decide +kernel)
theorem iX10_means_329 : zSnd zZM zmX10_means 329 (o_if0 (fun x => x = 0) 332 369) := s_if_ne (off := 40) (by decide +kernel) (by decide +kernel)
theorem iX10_means_332 : zSnd zZM zmX10_means 332 (o_aload 0 333) := s_aload_n (k := 0) (by decide +kernel) rfl
theorem iX10_means_333 : zSnd zZM zmX10_means 333 (o_aload 1 334) := s_aload_n (k := 1) (by decide +kernel) rfl
theorem iX10_means_334 : zSnd zZM zmX10_means 334 (o_ic 1 335) := s_iconst (i := 1) (by decide +kernel) (by decide +kernel)
set_option maxRecDepth 20000 in
theorem iX10_means_335 : zSnd zZM zmX10_means 335 (o_callV zZM 1 zmX9_has 1 1 338) := s_callV (idx := 484) zcX9 calX9_has virX9_has dscX9_has (by decide +kernel) (zWS7 16 rfl rfl) (by decide +kernel)
theorem iX10_means_338 : zSnd zZM zmX10_means 338 (o_aload 1 339) := s_aload_n (k := 1) (by decide +kernel) rfl
theorem iX10_means_339 : zSnd zZM zmX10_means 339 (o_getf zYM 1 43 342) := s_getf zcX9 fX10_379 (by decide +kernel) (by decide +kernel)
theorem iX10_means_342 : zSnd zZM zmX10_means 342 (o_iload 2 343) := s_iload_n (k := 2) (by decide +kernel) rfl
theorem iX10_means_343 : zSnd zZM zmX10_means 343 (o_ald zYM .int 344) := s_iald (by decide +kernel)
set_option maxRecDepth 20000 in
theorem iX10_means_344 : zSnd zZM zmX10_means 344 (o_callV zZM 0 zmX10_must 2 0 347) := s_callV (idx := 451) zcX10 calX10_must virX10_must dscX10_must (by decide +kernel) (zWS6 221 rfl rfl) (by decide +kernel)
theorem iX10_means_347 : zSnd zZM zmX10_means 347 (o_aload 0 348) := s_aload_n (k := 0) (by decide +kernel) rfl
theorem iX10_means_348 : zSnd zZM zmX10_means 348 (o_aload 0 349) := s_aload_n (k := 0) (by decide +kernel) rfl
theorem iX10_means_349 : zSnd zZM zmX10_means 349 (o_aload 1 350) := s_aload_n (k := 1) (by decide +kernel) rfl
theorem iX10_means_350 : zSnd zZM zmX10_means 350 (o_aload 1 351) := s_aload_n (k := 1) (by decide +kernel) rfl
theorem iX10_means_351 : zSnd zZM zmX10_means 351 (o_getf zYM 1 44 354) := s_getf zcX9 fX10_385 (by decide +kernel) (by decide +kernel)
theorem iX10_means_354 : zSnd zZM zmX10_means 354 (o_iload 2 355) := s_iload_n (k := 2) (by decide +kernel) rfl
theorem iX10_means_355 : zSnd zZM zmX10_means 355 (o_ald zYM .int 356) := s_iald (by decide +kernel)
theorem iX10_means_356 : zSnd zZM zmX10_means 356 (o_ic 0 357) := s_iconst (i := 0) (by decide +kernel) (by decide +kernel)
set_option maxRecDepth 20000 in
theorem iX10_means_357 : zSnd zZM zmX10_means 357 (o_callV zZM 0 zmX10_isConstant 3 1 360) := s_callV (idx := 463) zcX10 calX10_isConstant virX10_isConstant dscX10_isConstant (by decide +kernel) (zWS6 236 rfl rfl) (by decide +kernel)
theorem iX10_means_360 : zSnd zZM zmX10_means 360 (o_aload 1 361) := s_aload_n (k := 1) (by decide +kernel) rfl
theorem iX10_means_361 : zSnd zZM zmX10_means 361 (o_getf zYM 1 44 364) := s_getf zcX9 fX10_385 (by decide +kernel) (by decide +kernel)
theorem iX10_means_364 : zSnd zZM zmX10_means 364 (o_iload 2 365) := s_iload_n (k := 2) (by decide +kernel) rfl
theorem iX10_means_365 : zSnd zZM zmX10_means 365 (o_ald zYM .int 366) := s_iald (by decide +kernel)
set_option maxRecDepth 20000 in
theorem iX10_means_366 : zSnd zZM zmX10_means 366 (o_callV zZM 0 zmX10_must 2 0 369) := s_callV (idx := 451) zcX10 calX10_must virX10_must dscX10_must (by decide +kernel) (zWS6 221 rfl rfl) (by decide +kernel)
theorem iX10_means_369 : zSnd zZM zmX10_means 369 (o_aload 0 370) := s_aload_n (k := 0) (by decide +kernel) rfl
theorem iX10_means_370 : zSnd zZM zmX10_means 370 (o_aload 1 371) := s_aload_n (k := 1) (by decide +kernel) rfl
theorem iX10_means_371 : zSnd zZM zmX10_means 371 (o_getf zYM 1 45 374) := s_getf zcX9 fX10_390 (by decide +kernel) (by decide +kernel)
theorem iX10_means_374 : zSnd zZM zmX10_means 374 (o_iload 2 375) := s_iload_n (k := 2) (by decide +kernel) rfl
theorem iX10_means_375 : zSnd zZM zmX10_means 375 (o_ald zYM .int 376) := s_iald (by decide +kernel)
theorem iX10_means_376 : zSnd zZM zmX10_means 376 (o_putI zYM 0 12 379) := s_putI zcX10 fX10_127 (by decide +kernel) rfl rfl (by decide +kernel)
theorem iX10_means_379 : zSnd zZM zmX10_means 379 (o_ic 0 380) := s_iconst (i := 0) (by decide +kernel) (by decide +kernel)
theorem iX10_means_380 : zSnd zZM zmX10_means 380 (o_istore 3 381) := s_istore_n (k := 3) (by decide +kernel) rfl (by decide +kernel)
theorem iX10_means_381 : zSnd zZM zmX10_means 381 (o_iload 3 382) := s_iload_n (k := 3) (by decide +kernel) rfl
theorem iX10_means_382 : zSnd zZM zmX10_means 382 (o_aload 1 383) := s_aload_n (k := 1) (by decide +kernel) rfl
theorem iX10_means_383 : zSnd zZM zmX10_means 383 (o_getf zYM 1 46 386) := s_getf zcX9 fX10_393 (by decide +kernel) (by decide +kernel)
theorem iX10_means_386 : zSnd zZM zmX10_means 386 (o_iload 2 387) := s_iload_n (k := 2) (by decide +kernel) rfl
theorem iX10_means_387 : zSnd zZM zmX10_means 387 (o_ald zYM .int 388) := s_iald (by decide +kernel)
theorem iX10_means_388 : zSnd zZM zmX10_means 388 (o_icmp (fun x y => y ≤ x) 427 391) := s_icmp_ge (off := 39) (by decide +kernel) (by decide +kernel)
theorem iX10_means_391 : zSnd zZM zmX10_means 391 (o_aload 0 392) := s_aload_n (k := 0) (by decide +kernel) rfl
theorem iX10_means_392 : zSnd zZM zmX10_means 392 (o_getf zYM 0 12 395) := s_getf zcX10 fX10_127 (by decide +kernel) (by decide +kernel)
theorem iX10_means_395 : zSnd zZM zmX10_means 395 (o_istore 4 397) := s_istore (by decide +kernel) (by decide +kernel)
theorem iX10_means_397 : zSnd zZM zmX10_means 397 (o_aload 0 398) := s_aload_n (k := 0) (by decide +kernel) rfl
theorem iX10_means_398 : zSnd zZM zmX10_means 398 (o_aload 0 399) := s_aload_n (k := 0) (by decide +kernel) rfl
set_option maxRecDepth 20000 in
theorem iX10_means_399 : zSnd zZM zmX10_means 399 (o_callV zZM 0 zmX10_u 0 2 402) := s_callV (idx := 144) zcX10 calX10_u virX10_u dscX10_u (by decide +kernel) (zWS6 105 rfl rfl) (by decide +kernel)
theorem iX10_means_402 : zSnd zZM zmX10_means 402 (o_aload 1 403) := s_aload_n (k := 1) (by decide +kernel) rfl
set_option maxRecDepth 20000 in
theorem iX10_means_403 : zSnd zZM zmX10_means 403 (o_callS zZM zmX10_functionsOf 1 1 406) := s_callS (idx := 470) calX10_functionsOf virX10_functionsOf dscX10_functionsOf (by decide +kernel) (zWS7 10 rfl rfl) (by decide +kernel)
theorem iX10_means_406 : zSnd zZM zmX10_means 406 (o_i2l 407) := s_i2l (by decide +kernel)
theorem iX10_means_407 : zSnd zZM zmX10_means 407 (o_lif (fun x y => y ≤ x) 415 411) := s_lge (off := 7) (by decide +kernel) (by decide +kernel) (by decide +kernel)
theorem iX10_means_411 : zSnd zZM zmX10_means 411 (o_ic 1 412) := s_iconst (i := 1) (by decide +kernel) (by decide +kernel)
theorem iX10_means_412 : zSnd zZM zmX10_means 412 (o_goto 416) := s_goto (off := 4) (by decide +kernel) (by decide +kernel)
theorem iX10_means_415 : zSnd zZM zmX10_means 415 (o_ic 0 416) := s_iconst (i := 0) (by decide +kernel) (by decide +kernel)
theorem iX10_means_416 : zSnd zZM zmX10_means 416 (o_iload 4 418) := s_iload (by decide +kernel)
set_option maxRecDepth 20000 in
theorem iX10_means_418 : zSnd zZM zmX10_means 418 (o_callV zZM 0 zmX10_must 2 0 421) := s_callV (idx := 451) zcX10 calX10_must virX10_must dscX10_must (by decide +kernel) (zWS6 221 rfl rfl) (by decide +kernel)
theorem iX10_means_421 : zSnd zZM zmX10_means 421 (o_iinc 3 1 424) := s_iinc (a := 1) (by decide +kernel) (by decide +kernel) (by decide +kernel)
theorem iX10_means_424 : zSnd zZM zmX10_means 424 (o_goto 381) := s_goto (off := (-43)) (by decide +kernel) (by decide +kernel)
theorem iX10_means_427 : zSnd zZM zmX10_means 427 (o_iinc 2 1 430) := s_iinc (a := 1) (by decide +kernel) (by decide +kernel) (by decide +kernel)
theorem iX10_means_430 : zSnd zZM zmX10_means 430 (o_goto 315) := s_goto (off := (-115)) (by decide +kernel) (by decide +kernel)
theorem iX10_means_433 : zSnd zZM zmX10_means 433 (o_ic 0 434) := s_iconst (i := 0) (by decide +kernel) (by decide +kernel)
theorem iX10_means_434 : zSnd zZM zmX10_means 434 (o_istore 2 435) := s_istore_n (k := 2) (by decide +kernel) rfl (by decide +kernel)
theorem iX10_means_435 : zSnd zZM zmX10_means 435 (o_iload 2 436) := s_iload_n (k := 2) (by decide +kernel) rfl
theorem iX10_means_436 : zSnd zZM zmX10_means 436 (o_aload 1 437) := s_aload_n (k := 1) (by decide +kernel) rfl
theorem iX10_means_437 : zSnd zZM zmX10_means 437 (o_getf zYM 1 8 440) := s_getf zcX9 fX10_121 (by decide +kernel) (by decide +kernel)
theorem iX10_means_440 : zSnd zZM zmX10_means 440 (o_icmp (fun x y => y ≤ x) 495 443) := s_icmp_ge (off := 55) (by decide +kernel) (by decide +kernel)
theorem iX10_means_443 : zSnd zZM zmX10_means 443 (o_aload 1 444) := s_aload_n (k := 1) (by decide +kernel) rfl
theorem iX10_means_444 : zSnd zZM zmX10_means 444 (o_getf zYM 1 47 447) := s_getf zcX9 fX10_399 (by decide +kernel) (by decide +kernel)
theorem iX10_means_447 : zSnd zZM zmX10_means 447 (o_iload 2 448) := s_iload_n (k := 2) (by decide +kernel) rfl
theorem iX10_means_448 : zSnd zZM zmX10_means 448 (o_ald zYM .int 449) := s_iald (by decide +kernel)
theorem iX10_means_449 : zSnd zZM zmX10_means 449 (o_if0 (fun x => x = 0) 452 489) := s_if_ne (off := 40) (by decide +kernel) (by decide +kernel)
theorem iX10_means_452 : zSnd zZM zmX10_means 452 (o_aload 0 453) := s_aload_n (k := 0) (by decide +kernel) rfl
theorem iX10_means_453 : zSnd zZM zmX10_means 453 (o_aload 1 454) := s_aload_n (k := 1) (by decide +kernel) rfl
theorem iX10_means_454 : zSnd zZM zmX10_means 454 (o_ic 2 455) := s_iconst (i := 2) (by decide +kernel) (by decide +kernel)
set_option maxRecDepth 20000 in
theorem iX10_means_455 : zSnd zZM zmX10_means 455 (o_callV zZM 1 zmX9_has 1 1 458) := s_callV (idx := 484) zcX9 calX9_has virX9_has dscX9_has (by decide +kernel) (zWS7 16 rfl rfl) (by decide +kernel)
theorem iX10_means_458 : zSnd zZM zmX10_means 458 (o_aload 1 459) := s_aload_n (k := 1) (by decide +kernel) rfl
theorem iX10_means_459 : zSnd zZM zmX10_means 459 (o_getf zYM 1 48 462) := s_getf zcX9 fX10_396 (by decide +kernel) (by decide +kernel)
theorem iX10_means_462 : zSnd zZM zmX10_means 462 (o_iload 2 463) := s_iload_n (k := 2) (by decide +kernel) rfl
theorem iX10_means_463 : zSnd zZM zmX10_means 463 (o_ald zYM .int 464) := s_iald (by decide +kernel)
set_option maxRecDepth 20000 in
theorem iX10_means_464 : zSnd zZM zmX10_means 464 (o_callV zZM 0 zmX10_must 2 0 467) := s_callV (idx := 451) zcX10 calX10_must virX10_must dscX10_must (by decide +kernel) (zWS6 221 rfl rfl) (by decide +kernel)
theorem iX10_means_467 : zSnd zZM zmX10_means 467 (o_aload 0 468) := s_aload_n (k := 0) (by decide +kernel) rfl
theorem iX10_means_468 : zSnd zZM zmX10_means 468 (o_aload 0 469) := s_aload_n (k := 0) (by decide +kernel) rfl
theorem iX10_means_469 : zSnd zZM zmX10_means 469 (o_aload 1 470) := s_aload_n (k := 1) (by decide +kernel) rfl
theorem iX10_means_470 : zSnd zZM zmX10_means 470 (o_aload 1 471) := s_aload_n (k := 1) (by decide +kernel) rfl
theorem iX10_means_471 : zSnd zZM zmX10_means 471 (o_getf zYM 1 49 474) := s_getf zcX9 fX10_402 (by decide +kernel) (by decide +kernel)
theorem iX10_means_474 : zSnd zZM zmX10_means 474 (o_iload 2 475) := s_iload_n (k := 2) (by decide +kernel) rfl
theorem iX10_means_475 : zSnd zZM zmX10_means 475 (o_ald zYM .int 476) := s_iald (by decide +kernel)
theorem iX10_means_476 : zSnd zZM zmX10_means 476 (o_ic 0 477) := s_iconst (i := 0) (by decide +kernel) (by decide +kernel)
set_option maxRecDepth 20000 in
theorem iX10_means_477 : zSnd zZM zmX10_means 477 (o_callV zZM 0 zmX10_isConstant 3 1 480) := s_callV (idx := 463) zcX10 calX10_isConstant virX10_isConstant dscX10_isConstant (by decide +kernel) (zWS6 236 rfl rfl) (by decide +kernel)
theorem iX10_means_480 : zSnd zZM zmX10_means 480 (o_aload 1 481) := s_aload_n (k := 1) (by decide +kernel) rfl
theorem iX10_means_481 : zSnd zZM zmX10_means 481 (o_getf zYM 1 49 484) := s_getf zcX9 fX10_402 (by decide +kernel) (by decide +kernel)
theorem iX10_means_484 : zSnd zZM zmX10_means 484 (o_iload 2 485) := s_iload_n (k := 2) (by decide +kernel) rfl
theorem iX10_means_485 : zSnd zZM zmX10_means 485 (o_ald zYM .int 486) := s_iald (by decide +kernel)
set_option maxRecDepth 20000 in
theorem iX10_means_486 : zSnd zZM zmX10_means 486 (o_callV zZM 0 zmX10_must 2 0 489) := s_callV (idx := 451) zcX10 calX10_must virX10_must dscX10_must (by decide +kernel) (zWS6 221 rfl rfl) (by decide +kernel)
theorem iX10_means_489 : zSnd zZM zmX10_means 489 (o_iinc 2 1 492) := s_iinc (a := 1) (by decide +kernel) (by decide +kernel) (by decide +kernel)
theorem iX10_means_492 : zSnd zZM zmX10_means 492 (o_goto 435) := s_goto (off := (-57)) (by decide +kernel) (by decide +kernel)
theorem iX10_means_495 : zSnd zZM zmX10_means 495 (o_ic 0 496) := s_iconst (i := 0) (by decide +kernel) (by decide +kernel)
theorem iX10_means_496 : zSnd zZM zmX10_means 496 (o_istore 2 497) := s_istore_n (k := 2) (by decide +kernel) rfl (by decide +kernel)
theorem iX10_means_497 : zSnd zZM zmX10_means 497 (o_iload 2 498) := s_iload_n (k := 2) (by decide +kernel) rfl
theorem iX10_means_498 : zSnd zZM zmX10_means 498 (o_aload 1 499) := s_aload_n (k := 1) (by decide +kernel) rfl
theorem iX10_means_499 : zSnd zZM zmX10_means 499 (o_getf zYM 1 4 502) := s_getf zcX9 fX10_103 (by decide +kernel) (by decide +kernel)
theorem iX10_means_502 : zSnd zZM zmX10_means 502 (o_icmp (fun x y => y ≤ x) 517 505) := s_icmp_ge (off := 15) (by decide +kernel) (by decide +kernel)
theorem iX10_means_505 : zSnd zZM zmX10_means 505 (o_aload 0 506) := s_aload_n (k := 0) (by decide +kernel) rfl
theorem iX10_means_506 : zSnd zZM zmX10_means 506 (o_aload 1 507) := s_aload_n (k := 1) (by decide +kernel) rfl
theorem iX10_means_507 : zSnd zZM zmX10_means 507 (o_iload 2 508) := s_iload_n (k := 2) (by decide +kernel) rfl
set_option maxRecDepth 20000 in
theorem iX10_means_508 : zSnd zZM zmX10_means 508 (o_callV zZM 0 zmX10_checkBody 2 0 511) := s_callV (idx := 487) zcX10 calX10_checkBody virX10_checkBody dscX10_checkBody (by decide +kernel) (zWS7 33 rfl rfl) (by decide +kernel)
theorem iX10_means_511 : zSnd zZM zmX10_means 511 (o_iinc 2 1 514) := s_iinc (a := 1) (by decide +kernel) (by decide +kernel) (by decide +kernel)
theorem iX10_means_514 : zSnd zZM zmX10_means 514 (o_goto 497) := s_goto (off := (-17)) (by decide +kernel) (by decide +kernel)
theorem iX10_means_517 : zSnd zZM zmX10_means 517 (o_vret) := s_vret rfl (by decide +kernel)
def kX10_means : List (Nat × zOp) := [(0, o_aload 0 1),
  (1, o_aload 1 2),
  (2, o_getf zYM 1 1 5),
  (5, o_putI zYM 0 13 8),
  (8, o_ic 0 9),
  (9, o_istore 2 10),
  (10, o_iload 2 11),
  (11, o_aload 1 12),
  (12, o_getf zYM 1 3 15),
  (15, o_icmp (fun x y => y ≤ x) 114 18),
  (18, o_aload 1 19),
  (19, o_getf zYM 1 24 22),
  (22, o_iload 2 23),
  (23, o_ald zYM .int 24),
  (24, o_if0 (fun x => x = 0) 27 57),
  (27, o_aload 0 28),
  (28, o_aload 1 29),
  (29, o_getf zYM 1 25 32),
  (32, o_iload 2 33),
  (33, o_lald zYM 34),
  (34, o_aload 1 35),
  (35, o_getf zYM 1 2 38),
  (38, o_i2l 39),
  (39, o_lif (fun x y => y ≤ x) 47 43),
  (43, o_ic 1 44),
  (44, o_goto 48),
  (47, o_ic 0 48),
  (48, o_aload 1 49),
  (49, o_getf zYM 1 26 52),
  (52, o_iload 2 53),
  (53, o_ald zYM .int 54),
  (54, o_callV zZM 0 zmX10_must 2 0 57),
  (57, o_aload 1 58),
  (58, o_getf zYM 1 24 61),
  (61, o_iload 2 62),
  (62, o_ald zYM .int 63),
  (63, o_ic 1 64),
  (64, o_icmp (fun x y => x = y) 77 67),
  (67, o_aload 1 68),
  (68, o_getf zYM 1 24 71),
  (71, o_iload 2 72),
  (72, o_ald zYM .int 73),
  (73, o_ic 2 74),
  (74, o_icmp (fun x y => x = y) 77 108),
  (77, o_aload 0 78),
  (78, o_aload 1 79),
  (79, o_getf zYM 1 24 82),
  (82, o_iload 2 83),
  (83, o_ald zYM .int 84),
  (84, o_aload 1 85),
  (85, o_getf zYM 1 29 88),
  (88, o_iload 2 89),
  (89, o_lald zYM 90),
  (90, o_aload 1 91),
  (91, o_getf zYM 1 30 94),
  (94, o_iload 2 95),
  (95, o_lald zYM 96),
  (96, o_callS zZM zmX10_areRight 3 1 99),
  (99, o_aload 1 100),
  (100, o_getf zYM 1 26 103),
  (103, o_iload 2 104),
  (104, o_ald zYM .int 105),
  (105, o_callV zZM 0 zmX10_must 2 0 108),
  (108, o_iinc 2 1 111),
  (111, o_goto 10),
  (114, o_ic 0 115),
  (115, o_istore 2 116),
  (116, o_iload 2 117),
  (117, o_aload 1 118),
  (118, o_getf zYM 1 4 121),
  (121, o_icmp (fun x y => y ≤ x) 160 124),
  (124, o_aload 0 125),
  (125, o_aload 1 126),
  (126, o_getf zYM 1 31 129),
  (129, o_iload 2 130),
  (130, o_lald zYM 131),
  (131, o_aload 1 132),
  (132, o_getf zYM 1 2 135),
  (135, o_i2l 136),
  (136, o_lif (fun x y => y ≤ x) 144 140),
  (140, o_ic 1 141),
  (141, o_goto 145),
  (144, o_ic 0 145),
  (145, o_aload 1 146),
  (146, o_getf zYM 1 32 149),
  (149, o_iload 2 150),
  (150, o_ald zYM .int 151),
  (151, o_callV zZM 0 zmX10_must 2 0 154),
  (154, o_iinc 2 1 157),
  (157, o_goto 116),
  (160, o_aload 0 161),
  (161, o_aload 1 162),
  (162, o_ic 1 163),
  (163, o_aload 1 164),
  (164, o_getf zYM 1 12 167),
  (167, o_callV zZM 0 zmX10_one 3 0 170),
  (170, o_aload 0 171),
  (171, o_aload 1 172),
  (172, o_ic 2 173),
  (173, o_aload 1 174),
  (174, o_getf zYM 1 13 177),
  (177, o_callV zZM 0 zmX10_one 3 0 180),
  (180, o_ic 0 181),
  (181, o_istore 2 182),
  (182, o_iload 2 183),
  (183, o_aload 1 184),
  (184, o_getf zYM 1 5 187),
  (187, o_icmp (fun x y => y ≤ x) 223 190),
  (190, o_aload 0 191),
  (191, o_aload 0 192),
  (192, o_aload 1 193),
  (193, o_aload 1 194),
  (194, o_getf zYM 1 35 197),
  (197, o_iload 2 198),
  (198, o_ald zYM .int 199),
  (199, o_aload 1 200),
  (200, o_getf zYM 1 33 203),
  (203, o_iload 2 204),
  (204, o_ald zYM .int 205),
  (205, o_callV zZM 0 zmX10_isConstant 3 1 208),
  (208, o_aload 1 209),
  (209, o_getf zYM 1 35 212),
  (212, o_iload 2 213),
  (213, o_ald zYM .int 214),
  (214, o_callV zZM 0 zmX10_must 2 0 217),
  (217, o_iinc 2 1 220),
  (220, o_goto 182),
  (223, o_ic 0 224),
  (224, o_istore 2 225),
  (225, o_iload 2 226),
  (226, o_aload 1 227),
  (227, o_getf zYM 1 6 230),
  (230, o_icmp (fun x y => y ≤ x) 245 233),
  (233, o_aload 0 234),
  (234, o_aload 1 235),
  (235, o_iload 2 236),
  (236, o_callV zZM 0 zmX10_exported 2 0 239),
  (239, o_iinc 2 1 242),
  (242, o_goto 225),
  (245, o_aload 1 246),
  (246, o_getf zYM 1 10 249),
  (249, o_if0 (fun x => x < 0) 313 252),
  (252, o_aload 0 253),
  (253, o_aload 1 254),
  (254, o_getf zYM 1 10 257),
  (257, o_aload 1 258),
  (258, o_callS zZM zmX10_functionsOf 1 1 261),
  (261, o_icmp (fun x y => y ≤ x) 268 264),
  (264, o_ic 1 265),
  (265, o_goto 269),
  (268, o_ic 0 269),
  (269, o_aload 1 270),
  (270, o_getf zYM 1 11 273),
  (273, o_callV zZM 0 zmX10_must 2 0 276),
  (276, o_aload 1 277),
  (277, o_aload 1 278),
  (278, o_getf zYM 1 10 281),
  (281, o_callS zZM zmX10_sigOf 2 1 284),
  (284, o_istore 2 285),
  (285, o_aload 0 286),
  (286, o_iload 2 287),
  (287, o_callS zZM zmX10_parameters 1 1 290),
  (290, o_if0 (fun x => x = 0) 293 305),
  (293, o_iload 2 294),
  (294, o_callS zZM zmX10_resultOf 1 1 297),
  (297, o_ic 2 298),
  (298, o_icmp (fun x y => x = y) 301 305),
  (301, o_ic 1 302),
  (302, o_goto 306),
  (305, o_ic 0 306),
  (306, o_aload 1 307),
  (307, o_getf zYM 1 11 310),
  (310, o_callV zZM 0 zmX10_must 2 0 313),
  (313, o_ic 0 314),
  (314, o_istore 2 315),
  (315, o_iload 2 316),
  (316, o_aload 1 317),
  (317, o_getf zYM 1 7 320),
  (320, o_icmp (fun x y => y ≤ x) 433 323),
  (323, o_aload 1 324),
  (324, o_getf zYM 1 42 327),
  (327, o_iload 2 328),
  (328, o_ald zYM .int 329),
  (329, o_if0 (fun x => x = 0) 332 369),
  (332, o_aload 0 333),
  (333, o_aload 1 334),
  (334, o_ic 1 335),
  (335, o_callV zZM 1 zmX9_has 1 1 338),
  (338, o_aload 1 339),
  (339, o_getf zYM 1 43 342),
  (342, o_iload 2 343),
  (343, o_ald zYM .int 344),
  (344, o_callV zZM 0 zmX10_must 2 0 347),
  (347, o_aload 0 348),
  (348, o_aload 0 349),
  (349, o_aload 1 350),
  (350, o_aload 1 351),
  (351, o_getf zYM 1 44 354),
  (354, o_iload 2 355),
  (355, o_ald zYM .int 356),
  (356, o_ic 0 357),
  (357, o_callV zZM 0 zmX10_isConstant 3 1 360),
  (360, o_aload 1 361),
  (361, o_getf zYM 1 44 364),
  (364, o_iload 2 365),
  (365, o_ald zYM .int 366),
  (366, o_callV zZM 0 zmX10_must 2 0 369),
  (369, o_aload 0 370),
  (370, o_aload 1 371),
  (371, o_getf zYM 1 45 374),
  (374, o_iload 2 375),
  (375, o_ald zYM .int 376),
  (376, o_putI zYM 0 12 379),
  (379, o_ic 0 380),
  (380, o_istore 3 381),
  (381, o_iload 3 382),
  (382, o_aload 1 383),
  (383, o_getf zYM 1 46 386),
  (386, o_iload 2 387),
  (387, o_ald zYM .int 388),
  (388, o_icmp (fun x y => y ≤ x) 427 391),
  (391, o_aload 0 392),
  (392, o_getf zYM 0 12 395),
  (395, o_istore 4 397),
  (397, o_aload 0 398),
  (398, o_aload 0 399),
  (399, o_callV zZM 0 zmX10_u 0 2 402),
  (402, o_aload 1 403),
  (403, o_callS zZM zmX10_functionsOf 1 1 406),
  (406, o_i2l 407),
  (407, o_lif (fun x y => y ≤ x) 415 411),
  (411, o_ic 1 412),
  (412, o_goto 416),
  (415, o_ic 0 416),
  (416, o_iload 4 418),
  (418, o_callV zZM 0 zmX10_must 2 0 421),
  (421, o_iinc 3 1 424),
  (424, o_goto 381),
  (427, o_iinc 2 1 430),
  (430, o_goto 315),
  (433, o_ic 0 434),
  (434, o_istore 2 435),
  (435, o_iload 2 436),
  (436, o_aload 1 437),
  (437, o_getf zYM 1 8 440),
  (440, o_icmp (fun x y => y ≤ x) 495 443),
  (443, o_aload 1 444),
  (444, o_getf zYM 1 47 447),
  (447, o_iload 2 448),
  (448, o_ald zYM .int 449),
  (449, o_if0 (fun x => x = 0) 452 489),
  (452, o_aload 0 453),
  (453, o_aload 1 454),
  (454, o_ic 2 455),
  (455, o_callV zZM 1 zmX9_has 1 1 458),
  (458, o_aload 1 459),
  (459, o_getf zYM 1 48 462),
  (462, o_iload 2 463),
  (463, o_ald zYM .int 464),
  (464, o_callV zZM 0 zmX10_must 2 0 467),
  (467, o_aload 0 468),
  (468, o_aload 0 469),
  (469, o_aload 1 470),
  (470, o_aload 1 471),
  (471, o_getf zYM 1 49 474),
  (474, o_iload 2 475),
  (475, o_ald zYM .int 476),
  (476, o_ic 0 477),
  (477, o_callV zZM 0 zmX10_isConstant 3 1 480),
  (480, o_aload 1 481),
  (481, o_getf zYM 1 49 484),
  (484, o_iload 2 485),
  (485, o_ald zYM .int 486),
  (486, o_callV zZM 0 zmX10_must 2 0 489),
  (489, o_iinc 2 1 492),
  (492, o_goto 435),
  (495, o_ic 0 496),
  (496, o_istore 2 497),
  (497, o_iload 2 498),
  (498, o_aload 1 499),
  (499, o_getf zYM 1 4 502),
  (502, o_icmp (fun x y => y ≤ x) 517 505),
  (505, o_aload 0 506),
  (506, o_aload 1 507),
  (507, o_iload 2 508),
  (508, o_callV zZM 0 zmX10_checkBody 2 0 511),
  (511, o_iinc 2 1 514),
  (514, o_goto 497),
  (517, o_vret)]
set_option maxRecDepth 100000 in
theorem ksX10_means : ∀ q ∈ kX10_means, zSnd zZM zmX10_means q.1 q.2 := zcc iX10_means_0 (zcc iX10_means_1 (zcc iX10_means_2 (zcc iX10_means_5 (zcc iX10_means_8 (zcc iX10_means_9 (zcc iX10_means_10 (zcc iX10_means_11 (zcc iX10_means_12 (zcc iX10_means_15 (zcc iX10_means_18 (zcc iX10_means_19 (zcc iX10_means_22 (zcc iX10_means_23 (zcc iX10_means_24 (zcc iX10_means_27 (zcc iX10_means_28 (zcc iX10_means_29 (zcc iX10_means_32 (zcc iX10_means_33 (zcc iX10_means_34 (zcc iX10_means_35 (zcc iX10_means_38 (zcc iX10_means_39 (zcc iX10_means_43 (zcc iX10_means_44 (zcc iX10_means_47 (zcc iX10_means_48 (zcc iX10_means_49 (zcc iX10_means_52 (zcc iX10_means_53 (zcc iX10_means_54 (zcc iX10_means_57 (zcc iX10_means_58 (zcc iX10_means_61 (zcc iX10_means_62 (zcc iX10_means_63 (zcc iX10_means_64 (zcc iX10_means_67 (zcc iX10_means_68 (zcc iX10_means_71 (zcc iX10_means_72 (zcc iX10_means_73 (zcc iX10_means_74 (zcc iX10_means_77 (zcc iX10_means_78 (zcc iX10_means_79 (zcc iX10_means_82 (zcc iX10_means_83 (zcc iX10_means_84 (zcc iX10_means_85 (zcc iX10_means_88 (zcc iX10_means_89 (zcc iX10_means_90 (zcc iX10_means_91 (zcc iX10_means_94 (zcc iX10_means_95 (zcc iX10_means_96 (zcc iX10_means_99 (zcc iX10_means_100 (zcc iX10_means_103 (zcc iX10_means_104 (zcc iX10_means_105 (zcc iX10_means_108 (zcc iX10_means_111 (zcc iX10_means_114 (zcc iX10_means_115 (zcc iX10_means_116 (zcc iX10_means_117 (zcc iX10_means_118 (zcc iX10_means_121 (zcc iX10_means_124 (zcc iX10_means_125 (zcc iX10_means_126 (zcc iX10_means_129 (zcc iX10_means_130 (zcc iX10_means_131 (zcc iX10_means_132 (zcc iX10_means_135 (zcc iX10_means_136 (zcc iX10_means_140 (zcc iX10_means_141 (zcc iX10_means_144 (zcc iX10_means_145 (zcc iX10_means_146 (zcc iX10_means_149 (zcc iX10_means_150 (zcc iX10_means_151 (zcc iX10_means_154 (zcc iX10_means_157 (zcc iX10_means_160 (zcc iX10_means_161 (zcc iX10_means_162 (zcc iX10_means_163 (zcc iX10_means_164 (zcc iX10_means_167 (zcc iX10_means_170 (zcc iX10_means_171 (zcc iX10_means_172 (zcc iX10_means_173 (zcc iX10_means_174 (zcc iX10_means_177 (zcc iX10_means_180 (zcc iX10_means_181 (zcc iX10_means_182 (zcc iX10_means_183 (zcc iX10_means_184 (zcc iX10_means_187 (zcc iX10_means_190 (zcc iX10_means_191 (zcc iX10_means_192 (zcc iX10_means_193 (zcc iX10_means_194 (zcc iX10_means_197 (zcc iX10_means_198 (zcc iX10_means_199 (zcc iX10_means_200 (zcc iX10_means_203 (zcc iX10_means_204 (zcc iX10_means_205 (zcc iX10_means_208 (zcc iX10_means_209 (zcc iX10_means_212 (zcc iX10_means_213 (zcc iX10_means_214 (zcc iX10_means_217 (zcc iX10_means_220 (zcc iX10_means_223 (zcc iX10_means_224 (zcc iX10_means_225 (zcc iX10_means_226 (zcc iX10_means_227 (zcc iX10_means_230 (zcc iX10_means_233 (zcc iX10_means_234 (zcc iX10_means_235 (zcc iX10_means_236 (zcc iX10_means_239 (zcc iX10_means_242 (zcc iX10_means_245 (zcc iX10_means_246 (zcc iX10_means_249 (zcc iX10_means_252 (zcc iX10_means_253 (zcc iX10_means_254 (zcc iX10_means_257 (zcc iX10_means_258 (zcc iX10_means_261 (zcc iX10_means_264 (zcc iX10_means_265 (zcc iX10_means_268 (zcc iX10_means_269 (zcc iX10_means_270 (zcc iX10_means_273 (zcc iX10_means_276 (zcc iX10_means_277 (zcc iX10_means_278 (zcc iX10_means_281 (zcc iX10_means_284 (zcc iX10_means_285 (zcc iX10_means_286 (zcc iX10_means_287 (zcc iX10_means_290 (zcc iX10_means_293 (zcc iX10_means_294 (zcc iX10_means_297 (zcc iX10_means_298 (zcc iX10_means_301 (zcc iX10_means_302 (zcc iX10_means_305 (zcc iX10_means_306 (zcc iX10_means_307 (zcc iX10_means_310 (zcc iX10_means_313 (zcc iX10_means_314 (zcc iX10_means_315 (zcc iX10_means_316 (zcc iX10_means_317 (zcc iX10_means_320 (zcc iX10_means_323 (zcc iX10_means_324 (zcc iX10_means_327 (zcc iX10_means_328 (zcc iX10_means_329 (zcc iX10_means_332 (zcc iX10_means_333 (zcc iX10_means_334 (zcc iX10_means_335 (zcc iX10_means_338 (zcc iX10_means_339 (zcc iX10_means_342 (zcc iX10_means_343 (zcc iX10_means_344 (zcc iX10_means_347 (zcc iX10_means_348 (zcc iX10_means_349 (zcc iX10_means_350 (zcc iX10_means_351 (zcc iX10_means_354 (zcc iX10_means_355 (zcc iX10_means_356 (zcc iX10_means_357 (zcc iX10_means_360 (zcc iX10_means_361 (zcc iX10_means_364 (zcc iX10_means_365 (zcc iX10_means_366 (zcc iX10_means_369 (zcc iX10_means_370 (zcc iX10_means_371 (zcc iX10_means_374 (zcc iX10_means_375 (zcc iX10_means_376 (zcc iX10_means_379 (zcc iX10_means_380 (zcc iX10_means_381 (zcc iX10_means_382 (zcc iX10_means_383 (zcc iX10_means_386 (zcc iX10_means_387 (zcc iX10_means_388 (zcc iX10_means_391 (zcc iX10_means_392 (zcc iX10_means_395 (zcc iX10_means_397 (zcc iX10_means_398 (zcc iX10_means_399 (zcc iX10_means_402 (zcc iX10_means_403 (zcc iX10_means_406 (zcc iX10_means_407 (zcc iX10_means_411 (zcc iX10_means_412 (zcc iX10_means_415 (zcc iX10_means_416 (zcc iX10_means_418 (zcc iX10_means_421 (zcc iX10_means_424 (zcc iX10_means_427 (zcc iX10_means_430 (zcc iX10_means_433 (zcc iX10_means_434 (zcc iX10_means_435 (zcc iX10_means_436 (zcc iX10_means_437 (zcc iX10_means_440 (zcc iX10_means_443 (zcc iX10_means_444 (zcc iX10_means_447 (zcc iX10_means_448 (zcc iX10_means_449 (zcc iX10_means_452 (zcc iX10_means_453 (zcc iX10_means_454 (zcc iX10_means_455 (zcc iX10_means_458 (zcc iX10_means_459 (zcc iX10_means_462 (zcc iX10_means_463 (zcc iX10_means_464 (zcc iX10_means_467 (zcc iX10_means_468 (zcc iX10_means_469 (zcc iX10_means_470 (zcc iX10_means_471 (zcc iX10_means_474 (zcc iX10_means_475 (zcc iX10_means_476 (zcc iX10_means_477 (zcc iX10_means_480 (zcc iX10_means_481 (zcc iX10_means_484 (zcc iX10_means_485 (zcc iX10_means_486 (zcc iX10_means_489 (zcc iX10_means_492 (zcc iX10_means_495 (zcc iX10_means_496 (zcc iX10_means_497 (zcc iX10_means_498 (zcc iX10_means_499 (zcc iX10_means_502 (zcc iX10_means_505 (zcc iX10_means_506 (zcc iX10_means_507 (zcc iX10_means_508 (zcc iX10_means_511 (zcc iX10_means_514 (zcc iX10_means_517 zcn))))))))))))))))))))))))))))))))))))))))))))))))))))))))))))))))))))))))))))))))))))))))))))))))))))))))))))))))))))))))))))))))))))))))))))))))))))))))))))))))))))))))))))))))))))))))))))))))))))))))))))))))))))))))))))))))))))))))))))))))))))))))))))))))))))))))))))))))))))))))))))))))
theorem iX10_section_0 : zSnd zZM zmX10_section 0 (o_iload 2 1) := s_iload_n (k := 2) (by decide +kernel) rfl
theorem iX10_section_1 : zSnd zZM zmX10_section 1 (o_ic 8 3) := s_bipush (i := 8) (by decide +kernel) (by decide +kernel)
theorem iX10_section_3 : zSnd zZM zmX10_section 3 (o_icmp (fun x y => x = y) 6 32) := s_icmp_ne (off := 29) (by decide +kernel) (by decide +kernel)
theorem iX10_section_6 : zSnd zZM zmX10_section 6 (o_aload 1 7) := s_aload_n (k := 1) (by decide +kernel) rfl
theorem iX10_section_7 : zSnd zZM zmX10_section 7 (o_aload 0 8) := s_aload_n (k := 0) (by decide +kernel) rfl
theorem iX10_section_8 : zSnd zZM zmX10_section 8 (o_getf zYM 0 12 11) := s_getf zcX10 fX10_127 (by decide +kernel) (by decide +kernel)
theorem iX10_section_11 : zSnd zZM zmX10_section 11 (o_putI zYM 1 11 14) := s_putI zcX9 fX10_250 (by decide +kernel) rfl rfl (by decide +kernel)
theorem iX10_section_14 : zSnd zZM zmX10_section 14 (o_aload 0 15) := s_aload_n (k := 0) (by decide +kernel) rfl
set_option maxRecDepth 20000 in
theorem iX10_section_15 : zSnd zZM zmX10_section 15 (o_callV zZM 0 zmX10_u 0 2 18) := s_callV (idx := 144) zcX10 calX10_u virX10_u dscX10_u (by decide +kernel) (zWS6 105 rfl rfl) (by decide +kernel)
theorem iX10_section_18 : zSnd zZM zmX10_section 18 (o_lstore 3 19) := s_lstore_n (k := 3) (by decide +kernel) rfl (by decide +kernel)
theorem iX10_section_19 : zSnd zZM zmX10_section 19 (o_aload 1 20) := s_aload_n (k := 1) (by decide +kernel) rfl
theorem iX10_section_20 : zSnd zZM zmX10_section 20 (o_lload 3 21) := s_lload_n (k := 3) (by decide +kernel) rfl
set_option maxRecDepth 20000 in
theorem iX10_section_21 : zSnd zZM zmX10_section 21 (o_lc 1000000 24) := s_ldc2 (i := 253) (by decide +kernel) (zWS6 119 rfl rfl)
set_option maxRecDepth 20000 in
theorem iX10_section_24 : zSnd zZM zmX10_section 24 (o_lmin 27) := s_lmin lminwM_1 lminwM_2 lminwM_3 (zWS6 120 rfl rfl) (by decide +kernel) (by decide +kernel)
theorem iX10_section_27 : zSnd zZM zmX10_section 27 (o_l2i 28) := s_l2i (by decide +kernel)
theorem iX10_section_28 : zSnd zZM zmX10_section 28 (o_putI zYM 1 10 31) := s_putI zcX9 fX10_215 (by decide +kernel) rfl rfl (by decide +kernel)
theorem iX10_section_31 : zSnd zZM zmX10_section 31 (o_vret) := s_vret rfl (by decide +kernel)
theorem iX10_section_32 : zSnd zZM zmX10_section 32 (o_iload 2 33) := s_iload_n (k := 2) (by decide +kernel) rfl
theorem iX10_section_33 : zSnd zZM zmX10_section 33 (o_ic 12 35) := s_bipush (i := 12) (by decide +kernel) (by decide +kernel)
theorem iX10_section_35 : zSnd zZM zmX10_section 35 (o_icmp (fun x y => x = y) 38 52) := s_icmp_ne (off := 17) (by decide +kernel) (by decide +kernel)
theorem iX10_section_38 : zSnd zZM zmX10_section 38 (o_aload 0 39) := s_aload_n (k := 0) (by decide +kernel) rfl
theorem iX10_section_39 : zSnd zZM zmX10_section 39 (o_ic 1 40) := s_iconst (i := 1) (by decide +kernel) (by decide +kernel)
theorem iX10_section_40 : zSnd zZM zmX10_section 40 (o_putZ zYM 0 18 43) := s_putZ zcX10 fX10_134 (by decide +kernel) rfl rfl (by decide +kernel)
theorem iX10_section_43 : zSnd zZM zmX10_section 43 (o_aload 0 44) := s_aload_n (k := 0) (by decide +kernel) rfl
theorem iX10_section_44 : zSnd zZM zmX10_section 44 (o_aload 0 45) := s_aload_n (k := 0) (by decide +kernel) rfl
set_option maxRecDepth 20000 in
theorem iX10_section_45 : zSnd zZM zmX10_section 45 (o_callV zZM 0 zmX10_u 0 2 48) := s_callV (idx := 144) zcX10 calX10_u virX10_u dscX10_u (by decide +kernel) (zWS6 105 rfl rfl) (by decide +kernel)
theorem iX10_section_48 : zSnd zZM zmX10_section 48 (o_putL zYM 0 19 51) := s_putL zcX10 fX10_221 (by decide +kernel) rfl rfl (by decide +kernel)
theorem iX10_section_51 : zSnd zZM zmX10_section 51 (o_vret) := s_vret rfl (by decide +kernel)
theorem iX10_section_52 : zSnd zZM zmX10_section 52 (o_aload 0 53) := s_aload_n (k := 0) (by decide +kernel) rfl
set_option maxRecDepth 20000 in
theorem iX10_section_53 : zSnd zZM zmX10_section 53 (o_callV zZM 0 zmX10_u 0 2 56) := s_callV (idx := 144) zcX10 calX10_u virX10_u dscX10_u (by decide +kernel) (zWS6 105 rfl rfl) (by decide +kernel)
theorem iX10_section_56 : zSnd zZM zmX10_section 56 (o_lstore 3 57) := s_lstore_n (k := 3) (by decide +kernel) rfl (by decide +kernel)
theorem iX10_section_57 : zSnd zZM zmX10_section 57 (o_lc 0 58) := s_lconst (i := 0) (by decide +kernel) (by decide +kernel)
theorem iX10_section_58 : zSnd zZM zmX10_section 58 (o_lstore 5 60) := s_lstore (by decide +kernel) (by decide +kernel)
theorem iX10_section_60 : zSnd zZM zmX10_section 60 (o_lload 5 62) := s_lload (by decide +kernel)
theorem iX10_section_62 : zSnd zZM zmX10_section 62 (o_lload 3 63) := s_lload_n (k := 3) (by decide +kernel) rfl
theorem iX10_section_63 : zSnd zZM zmX10_section 63 (o_lif (fun x y => y ≤ x) 262 67) := s_lge (off := 198) (by decide +kernel) (by decide +kernel) (by decide +kernel)
theorem iX10_section_67 : zSnd zZM zmX10_section 67 (o_iload 2 68) := s_iload_n (k := 2) (by decide +kernel) rfl
theorem iX10_section_68 : zSnd zZM zmX10_section 68 (o_sw [([1], 124), ([2], 132), ([3], 140), ([4], 198), ([5], 207), ([6], 216), ([7], 224), ([9], 232), ([10], 240)] 248) := s_tsw (dflt := 180) (lo := 1) (hi := 10) (offs := #[56, 64, 72, 130, 139, 148, 156, 180, 164, 172]) (len := 56) (by decide +kernel) (by decide +kernel) (by decide +kernel) (by decide +kernel)
theorem iX10_section_124 : zSnd zZM zmX10_section 124 (o_aload 0 125) := s_aload_n (k := 0) (by decide +kernel) rfl
theorem iX10_section_125 : zSnd zZM zmX10_section 125 (o_aload 1 126) := s_aload_n (k := 1) (by decide +kernel) rfl
set_option maxRecDepth 20000 in
theorem iX10_section_126 : zSnd zZM zmX10_section 126 (o_callV zZM 0 zmX10_signature 1 0 129) := s_callV (idx := 261) zcX10 calX10_signature virX10_signature dscX10_signature (by decide +kernel) (zWS6 121 rfl rfl) (by decide +kernel)
theorem iX10_section_129 : zSnd zZM zmX10_section 129 (o_goto 253) := s_goto (off := 124) (by decide +kernel) (by decide +kernel)
theorem iX10_section_132 : zSnd zZM zmX10_section 132 (o_aload 0 133) := s_aload_n (k := 0) (by decide +kernel) rfl
theorem iX10_section_133 : zSnd zZM zmX10_section 133 (o_aload 1 134) := s_aload_n (k := 1) (by decide +kernel) rfl
set_option maxRecDepth 20000 in
theorem iX10_section_134 : zSnd zZM zmX10_section 134 (o_callV zZM 0 zmX10_importLine 1 0 137) := s_callV (idx := 264) zcX10 calX10_importLine virX10_importLine dscX10_importLine (by decide +kernel) (zWS6 130 rfl rfl) (by decide +kernel)
theorem iX10_section_137 : zSnd zZM zmX10_section 137 (o_goto 253) := s_goto (off := 116) (by decide +kernel) (by decide +kernel)
theorem iX10_section_140 : zSnd zZM zmX10_section 140 (o_aload 1 141) := s_aload_n (k := 1) (by decide +kernel) rfl
theorem iX10_section_141 : zSnd zZM zmX10_section 141 (o_getf zYM 1 4 144) := s_getf zcX9 fX10_103 (by decide +kernel) (by decide +kernel)
theorem iX10_section_144 : zSnd zZM zmX10_section 144 (o_ic 64 146) := s_bipush (i := 64) (by decide +kernel) (by decide +kernel)
theorem iX10_section_146 : zSnd zZM zmX10_section 146 (o_icmp (fun x y => x = y) 149 159) := s_icmp_ne (off := 13) (by decide +kernel) (by decide +kernel)
theorem iX10_section_149 : zSnd zZM zmX10_section 149 (o_aload 0 150) := s_aload_n (k := 0) (by decide +kernel) rfl
theorem iX10_section_150 : zSnd zZM zmX10_section 150 (o_ic 4 151) := s_iconst (i := 4) (by decide +kernel) (by decide +kernel)
theorem iX10_section_151 : zSnd zZM zmX10_section 151 (o_aload 0 152) := s_aload_n (k := 0) (by decide +kernel) rfl
theorem iX10_section_152 : zSnd zZM zmX10_section 152 (o_getf zYM 0 12 155) := s_getf zcX10 fX10_127 (by decide +kernel) (by decide +kernel)
set_option maxRecDepth 20000 in
theorem iX10_section_155 : zSnd zZM zmX10_section 155 (o_callV zZM 0 zmX10_wrong 2 3 158) := s_callV (idx := 176) zcX10 calX10_wrong virX10_wrong dscX10_wrong (by decide +kernel) (zWS6 49 rfl rfl) (by decide +kernel)
theorem iX10_section_158 : zSnd zZM zmX10_section 158 (o_athrow zYM 2) := s_athrow (T := TIse) (N := 0) rfl (by decide +kernel)
theorem iX10_section_159 : zSnd zZM zmX10_section 159 (o_aload 1 160) := s_aload_n (k := 1) (by decide +kernel) rfl
theorem iX10_section_160 : zSnd zZM zmX10_section 160 (o_getf zYM 1 32 163) := s_getf zcX9 fX10_267 (by decide +kernel) (by decide +kernel)
theorem iX10_section_163 : zSnd zZM zmX10_section 163 (o_aload 1 164) := s_aload_n (k := 1) (by decide +kernel) rfl
theorem iX10_section_164 : zSnd zZM zmX10_section 164 (o_getf zYM 1 4 167) := s_getf zcX9 fX10_103 (by decide +kernel) (by decide +kernel)
theorem iX10_section_167 : zSnd zZM zmX10_section 167 (o_aload 0 168) := s_aload_n (k := 0) (by decide +kernel) rfl
theorem iX10_section_168 : zSnd zZM zmX10_section 168 (o_getf zYM 0 12 171) := s_getf zcX10 fX10_127 (by decide +kernel) (by decide +kernel)
theorem iX10_section_171 : zSnd zZM zmX10_section 171 (o_ast zYM .int (fun x => x) 172) := s_iast (by decide +kernel)
theorem iX10_section_172 : zSnd zZM zmX10_section 172 (o_aload 1 173) := s_aload_n (k := 1) (by decide +kernel) rfl
theorem iX10_section_173 : zSnd zZM zmX10_section 173 (o_getf zYM 1 31 176) := s_getf zcX9 fX10_163 (by decide +kernel) (by decide +kernel)
theorem iX10_section_176 : zSnd zZM zmX10_section 176 (o_aload 1 177) := s_aload_n (k := 1) (by decide +kernel) rfl
theorem iX10_section_177 : zSnd zZM zmX10_section 177 (o_getf zYM 1 4 180) := s_getf zcX9 fX10_103 (by decide +kernel) (by decide +kernel)
theorem iX10_section_180 : zSnd zZM zmX10_section 180 (o_aload 0 181) := s_aload_n (k := 0) (by decide +kernel) rfl
set_option maxRecDepth 20000 in
theorem iX10_section_181 : zSnd zZM zmX10_section 181 (o_callV zZM 0 zmX10_u 0 2 184) := s_callV (idx := 144) zcX10 calX10_u virX10_u dscX10_u (by decide +kernel) (zWS6 105 rfl rfl) (by decide +kernel)
theorem iX10_section_184 : zSnd zZM zmX10_section 184 (o_last zYM 185) := s_last (by decide +kernel)
theorem iX10_section_185 : zSnd zZM zmX10_section 185 (o_aload 1 186) := s_aload_n (k := 1) (by decide +kernel) rfl
theorem iX10_section_186 : zSnd zZM zmX10_section 186 (o_dup 187) := s_dup (by decide +kernel)
theorem iX10_section_187 : zSnd zZM zmX10_section 187 (o_getf zYM 1 4 190) := s_getf zcX9 fX10_103 (by decide +kernel) (by decide +kernel)
theorem iX10_section_190 : zSnd zZM zmX10_section 190 (o_ic 1 191) := s_iconst (i := 1) (by decide +kernel) (by decide +kernel)
theorem iX10_section_191 : zSnd zZM zmX10_section 191 (o_ibin (fun x y => x + y) 192) := s_iadd (by decide +kernel)
theorem iX10_section_192 : zSnd zZM zmX10_section 192 (o_putI zYM 1 4 195) := s_putI zcX9 fX10_103 (by decide +kernel) rfl rfl (by decide +kernel)
theorem iX10_section_195 : zSnd zZM zmX10_section 195 (o_goto 253) := s_goto (off := 58) (by decide +kernel) (by decide +kernel)
theorem iX10_section_198 : zSnd zZM zmX10_section 198 (o_aload 0 199) := s_aload_n (k := 0) (by decide +kernel) rfl
theorem iX10_section_199 : zSnd zZM zmX10_section 199 (o_aload 1 200) := s_aload_n (k := 1) (by decide +kernel) rfl
theorem iX10_section_200 : zSnd zZM zmX10_section 200 (o_ic 1 201) := s_iconst (i := 1) (by decide +kernel) (by decide +kernel)
set_option maxRecDepth 20000 in
theorem iX10_section_201 : zSnd zZM zmX10_section 201 (o_callV zZM 0 zmX10_ownLimits 2 0 204) := s_callV (idx := 270) zcX10 calX10_ownLimits virX10_ownLimits dscX10_ownLimits (by decide +kernel) (zWS6 143 rfl rfl) (by decide +kernel)
theorem iX10_section_204 : zSnd zZM zmX10_section 204 (o_goto 253) := s_goto (off := 49) (by decide +kernel) (by decide +kernel)
theorem iX10_section_207 : zSnd zZM zmX10_section 207 (o_aload 0 208) := s_aload_n (k := 0) (by decide +kernel) rfl
theorem iX10_section_208 : zSnd zZM zmX10_section 208 (o_aload 1 209) := s_aload_n (k := 1) (by decide +kernel) rfl
theorem iX10_section_209 : zSnd zZM zmX10_section 209 (o_ic 2 210) := s_iconst (i := 2) (by decide +kernel) (by decide +kernel)
set_option maxRecDepth 20000 in
theorem iX10_section_210 : zSnd zZM zmX10_section 210 (o_callV zZM 0 zmX10_ownLimits 2 0 213) := s_callV (idx := 270) zcX10 calX10_ownLimits virX10_ownLimits dscX10_ownLimits (by decide +kernel) (zWS6 143 rfl rfl) (by decide +kernel)
theorem iX10_section_213 : zSnd zZM zmX10_section 213 (o_goto 253) := s_goto (off := 40) (by decide +kernel) (by decide +kernel)
theorem iX10_section_216 : zSnd zZM zmX10_section 216 (o_aload 0 217) := s_aload_n (k := 0) (by decide +kernel) rfl
theorem iX10_section_217 : zSnd zZM zmX10_section 217 (o_aload 1 218) := s_aload_n (k := 1) (by decide +kernel) rfl
set_option maxRecDepth 20000 in
theorem iX10_section_218 : zSnd zZM zmX10_section 218 (o_callV zZM 0 zmX10_globalLine 1 0 221) := s_callV (idx := 273) zcX10 calX10_globalLine virX10_globalLine dscX10_globalLine (by decide +kernel) (zWS6 147 rfl rfl) (by decide +kernel)
theorem iX10_section_221 : zSnd zZM zmX10_section 221 (o_goto 253) := s_goto (off := 32) (by decide +kernel) (by decide +kernel)
theorem iX10_section_224 : zSnd zZM zmX10_section 224 (o_aload 0 225) := s_aload_n (k := 0) (by decide +kernel) rfl
theorem iX10_section_225 : zSnd zZM zmX10_section 225 (o_aload 1 226) := s_aload_n (k := 1) (by decide +kernel) rfl
set_option maxRecDepth 20000 in
theorem iX10_section_226 : zSnd zZM zmX10_section 226 (o_callV zZM 0 zmX10_exportLine 1 0 229) := s_callV (idx := 276) zcX10 calX10_exportLine virX10_exportLine dscX10_exportLine (by decide +kernel) (zWS6 167 rfl rfl) (by decide +kernel)
theorem iX10_section_229 : zSnd zZM zmX10_section 229 (o_goto 253) := s_goto (off := 24) (by decide +kernel) (by decide +kernel)
theorem iX10_section_232 : zSnd zZM zmX10_section 232 (o_aload 0 233) := s_aload_n (k := 0) (by decide +kernel) rfl
theorem iX10_section_233 : zSnd zZM zmX10_section 233 (o_aload 1 234) := s_aload_n (k := 1) (by decide +kernel) rfl
set_option maxRecDepth 20000 in
theorem iX10_section_234 : zSnd zZM zmX10_section 234 (o_callV zZM 0 zmX10_elementLine 1 0 237) := s_callV (idx := 279) zcX10 calX10_elementLine virX10_elementLine dscX10_elementLine (by decide +kernel) (zWS6 171 rfl rfl) (by decide +kernel)
theorem iX10_section_237 : zSnd zZM zmX10_section 237 (o_goto 253) := s_goto (off := 16) (by decide +kernel) (by decide +kernel)
theorem iX10_section_240 : zSnd zZM zmX10_section 240 (o_aload 0 241) := s_aload_n (k := 0) (by decide +kernel) rfl
theorem iX10_section_241 : zSnd zZM zmX10_section 241 (o_aload 1 242) := s_aload_n (k := 1) (by decide +kernel) rfl
set_option maxRecDepth 20000 in
theorem iX10_section_242 : zSnd zZM zmX10_section 242 (o_callV zZM 0 zmX10_body 1 0 245) := s_callV (idx := 282) zcX10 calX10_body virX10_body dscX10_body (by decide +kernel) (zWS6 176 rfl rfl) (by decide +kernel)
theorem iX10_section_245 : zSnd zZM zmX10_section 245 (o_goto 253) := s_goto (off := 8) (by decide +kernel) (by decide +kernel)
theorem iX10_section_248 : zSnd zZM zmX10_section 248 (o_aload 0 249) := s_aload_n (k := 0) (by decide +kernel) rfl
theorem iX10_section_249 : zSnd zZM zmX10_section 249 (o_aload 1 250) := s_aload_n (k := 1) (by decide +kernel) rfl
set_option maxRecDepth 20000 in
theorem iX10_section_250 : zSnd zZM zmX10_section 250 (o_callV zZM 0 zmX10_dataLine 1 0 253) := s_callV (idx := 285) zcX10 calX10_dataLine virX10_dataLine dscX10_dataLine (by decide +kernel) (zWS6 213 rfl rfl) (by decide +kernel)
theorem iX10_section_253 : zSnd zZM zmX10_section 253 (o_lload 5 255) := s_lload (by decide +kernel)
theorem iX10_section_255 : zSnd zZM zmX10_section 255 (o_lc 1 256) := s_lconst (i := 1) (by decide +kernel) (by decide +kernel)
theorem iX10_section_256 : zSnd zZM zmX10_section 256 (o_lbin (fun x y => x + y) 257) := s_ladd (by decide +kernel)
theorem iX10_section_257 : zSnd zZM zmX10_section 257 (o_lstore 5 259) := s_lstore (by decide +kernel) (by decide +kernel)
theorem iX10_section_259 : zSnd zZM zmX10_section 259 (o_goto 60) := s_goto (off := (-199)) (by decide +kernel) (by decide +kernel)
theorem iX10_section_262 : zSnd zZM zmX10_section 262 (o_vret) := s_vret rfl (by decide +kernel)
def kX10_section : List (Nat × zOp) := [(0, o_iload 2 1),
  (1, o_ic 8 3),
  (3, o_icmp (fun x y => x = y) 6 32),
  (6, o_aload 1 7),
  (7, o_aload 0 8),
  (8, o_getf zYM 0 12 11),
  (11, o_putI zYM 1 11 14),
  (14, o_aload 0 15),
  (15, o_callV zZM 0 zmX10_u 0 2 18),
  (18, o_lstore 3 19),
  (19, o_aload 1 20),
  (20, o_lload 3 21),
  (21, o_lc 1000000 24),
  (24, o_lmin 27),
  (27, o_l2i 28),
  (28, o_putI zYM 1 10 31),
  (31, o_vret),
  (32, o_iload 2 33),
  (33, o_ic 12 35),
  (35, o_icmp (fun x y => x = y) 38 52),
  (38, o_aload 0 39),
  (39, o_ic 1 40),
  (40, o_putZ zYM 0 18 43),
  (43, o_aload 0 44),
  (44, o_aload 0 45),
  (45, o_callV zZM 0 zmX10_u 0 2 48),
  (48, o_putL zYM 0 19 51),
  (51, o_vret),
  (52, o_aload 0 53),
  (53, o_callV zZM 0 zmX10_u 0 2 56),
  (56, o_lstore 3 57),
  (57, o_lc 0 58),
  (58, o_lstore 5 60),
  (60, o_lload 5 62),
  (62, o_lload 3 63),
  (63, o_lif (fun x y => y ≤ x) 262 67),
  (67, o_iload 2 68),
  (68, o_sw [([1], 124), ([2], 132), ([3], 140), ([4], 198), ([5], 207), ([6], 216), ([7], 224), ([9], 232), ([10], 240)] 248),
  (124, o_aload 0 125),
  (125, o_aload 1 126),
  (126, o_callV zZM 0 zmX10_signature 1 0 129),
  (129, o_goto 253),
  (132, o_aload 0 133),
  (133, o_aload 1 134),
  (134, o_callV zZM 0 zmX10_importLine 1 0 137),
  (137, o_goto 253),
  (140, o_aload 1 141),
  (141, o_getf zYM 1 4 144),
  (144, o_ic 64 146),
  (146, o_icmp (fun x y => x = y) 149 159),
  (149, o_aload 0 150),
  (150, o_ic 4 151),
  (151, o_aload 0 152),
  (152, o_getf zYM 0 12 155),
  (155, o_callV zZM 0 zmX10_wrong 2 3 158),
  (158, o_athrow zYM 2),
  (159, o_aload 1 160),
  (160, o_getf zYM 1 32 163),
  (163, o_aload 1 164),
  (164, o_getf zYM 1 4 167),
  (167, o_aload 0 168),
  (168, o_getf zYM 0 12 171),
  (171, o_ast zYM .int (fun x => x) 172),
  (172, o_aload 1 173),
  (173, o_getf zYM 1 31 176),
  (176, o_aload 1 177),
  (177, o_getf zYM 1 4 180),
  (180, o_aload 0 181),
  (181, o_callV zZM 0 zmX10_u 0 2 184),
  (184, o_last zYM 185),
  (185, o_aload 1 186),
  (186, o_dup 187),
  (187, o_getf zYM 1 4 190),
  (190, o_ic 1 191),
  (191, o_ibin (fun x y => x + y) 192),
  (192, o_putI zYM 1 4 195),
  (195, o_goto 253),
  (198, o_aload 0 199),
  (199, o_aload 1 200),
  (200, o_ic 1 201),
  (201, o_callV zZM 0 zmX10_ownLimits 2 0 204),
  (204, o_goto 253),
  (207, o_aload 0 208),
  (208, o_aload 1 209),
  (209, o_ic 2 210),
  (210, o_callV zZM 0 zmX10_ownLimits 2 0 213),
  (213, o_goto 253),
  (216, o_aload 0 217),
  (217, o_aload 1 218),
  (218, o_callV zZM 0 zmX10_globalLine 1 0 221),
  (221, o_goto 253),
  (224, o_aload 0 225),
  (225, o_aload 1 226),
  (226, o_callV zZM 0 zmX10_exportLine 1 0 229),
  (229, o_goto 253),
  (232, o_aload 0 233),
  (233, o_aload 1 234),
  (234, o_callV zZM 0 zmX10_elementLine 1 0 237),
  (237, o_goto 253),
  (240, o_aload 0 241),
  (241, o_aload 1 242),
  (242, o_callV zZM 0 zmX10_body 1 0 245),
  (245, o_goto 253),
  (248, o_aload 0 249),
  (249, o_aload 1 250),
  (250, o_callV zZM 0 zmX10_dataLine 1 0 253),
  (253, o_lload 5 255),
  (255, o_lc 1 256),
  (256, o_lbin (fun x y => x + y) 257),
  (257, o_lstore 5 259),
  (259, o_goto 60),
  (262, o_vret)]
set_option maxRecDepth 100000 in
theorem ksX10_section : ∀ q ∈ kX10_section, zSnd zZM zmX10_section q.1 q.2 := zcc iX10_section_0 (zcc iX10_section_1 (zcc iX10_section_3 (zcc iX10_section_6 (zcc iX10_section_7 (zcc iX10_section_8 (zcc iX10_section_11 (zcc iX10_section_14 (zcc iX10_section_15 (zcc iX10_section_18 (zcc iX10_section_19 (zcc iX10_section_20 (zcc iX10_section_21 (zcc iX10_section_24 (zcc iX10_section_27 (zcc iX10_section_28 (zcc iX10_section_31 (zcc iX10_section_32 (zcc iX10_section_33 (zcc iX10_section_35 (zcc iX10_section_38 (zcc iX10_section_39 (zcc iX10_section_40 (zcc iX10_section_43 (zcc iX10_section_44 (zcc iX10_section_45 (zcc iX10_section_48 (zcc iX10_section_51 (zcc iX10_section_52 (zcc iX10_section_53 (zcc iX10_section_56 (zcc iX10_section_57 (zcc iX10_section_58 (zcc iX10_section_60 (zcc iX10_section_62 (zcc iX10_section_63 (zcc iX10_section_67 (zcc iX10_section_68 (zcc iX10_section_124 (zcc iX10_section_125 (zcc iX10_section_126 (zcc iX10_section_129 (zcc iX10_section_132 (zcc iX10_section_133 (zcc iX10_section_134 (zcc iX10_section_137 (zcc iX10_section_140 (zcc iX10_section_141 (zcc iX10_section_144 (zcc iX10_section_146 (zcc iX10_section_149 (zcc iX10_section_150 (zcc iX10_section_151 (zcc iX10_section_152 (zcc iX10_section_155 (zcc iX10_section_158 (zcc iX10_section_159 (zcc iX10_section_160 (zcc iX10_section_163 (zcc iX10_section_164 (zcc iX10_section_167 (zcc iX10_section_168 (zcc iX10_section_171 (zcc iX10_section_172 (zcc iX10_section_173 (zcc iX10_section_176 (zcc iX10_section_177 (zcc iX10_section_180 (zcc iX10_section_181 (zcc iX10_section_184 (zcc iX10_section_185 (zcc iX10_section_186 (zcc iX10_section_187 (zcc iX10_section_190 (zcc iX10_section_191 (zcc iX10_section_192 (zcc iX10_section_195 (zcc iX10_section_198 (zcc iX10_section_199 (zcc iX10_section_200 (zcc iX10_section_201 (zcc iX10_section_204 (zcc iX10_section_207 (zcc iX10_section_208 (zcc iX10_section_209 (zcc iX10_section_210 (zcc iX10_section_213 (zcc iX10_section_216 (zcc iX10_section_217 (zcc iX10_section_218 (zcc iX10_section_221 (zcc iX10_section_224 (zcc iX10_section_225 (zcc iX10_section_226 (zcc iX10_section_229 (zcc iX10_section_232 (zcc iX10_section_233 (zcc iX10_section_234 (zcc iX10_section_237 (zcc iX10_section_240 (zcc iX10_section_241 (zcc iX10_section_242 (zcc iX10_section_245 (zcc iX10_section_248 (zcc iX10_section_249 (zcc iX10_section_250 (zcc iX10_section_253 (zcc iX10_section_255 (zcc iX10_section_256 (zcc iX10_section_257 (zcc iX10_section_259 (zcc iX10_section_262 zcn)))))))))))))))))))))))))))))))))))))))))))))))))))))))))))))))))))))))))))))))))))))))))))))))))))))))))))))))
theorem iX10_read_0 : zSnd zZM zmX10_read 0 (o_aload 1 1) := s_aload_n (k := 1) (by decide +kernel) rfl
theorem iX10_read_1 : zSnd zZM zmX10_read 1 (o_ic 0 2) := s_iconst (i := 0) (by decide +kernel) (by decide +kernel)
theorem iX10_read_2 : zSnd zZM zmX10_read 2 (o_putI zYM 1 2 5) := s_putI zcX9 fX10_97 (by decide +kernel) rfl rfl (by decide +kernel)
theorem iX10_read_5 : zSnd zZM zmX10_read 5 (o_aload 1 6) := s_aload_n (k := 1) (by decide +kernel) rfl
theorem iX10_read_6 : zSnd zZM zmX10_read 6 (o_ic 0 7) := s_iconst (i := 0) (by decide +kernel) (by decide +kernel)
theorem iX10_read_7 : zSnd zZM zmX10_read 7 (o_putI zYM 1 3 10) := s_putI zcX9 fX10_100 (by decide +kernel) rfl rfl (by decide +kernel)
theorem iX10_read_10 : zSnd zZM zmX10_read 10 (o_aload 1 11) := s_aload_n (k := 1) (by decide +kernel) rfl
theorem iX10_read_11 : zSnd zZM zmX10_read 11 (o_ic 0 12) := s_iconst (i := 0) (by decide +kernel) (by decide +kernel)
theorem iX10_read_12 : zSnd zZM zmX10_read 12 (o_putI zYM 1 4 15) := s_putI zcX9 fX10_103 (by decide +kernel) rfl rfl (by decide +kernel)
theorem iX10_read_15 : zSnd zZM zmX10_read 15 (o_aload 1 16) := s_aload_n (k := 1) (by decide +kernel) rfl
theorem iX10_read_16 : zSnd zZM zmX10_read 16 (o_ic 0 17) := s_iconst (i := 0) (by decide +kernel) (by decide +kernel)
theorem iX10_read_17 : zSnd zZM zmX10_read 17 (o_putI zYM 1 5 20) := s_putI zcX9 fX10_112 (by decide +kernel) rfl rfl (by decide +kernel)
theorem iX10_read_20 : zSnd zZM zmX10_read 20 (o_aload 1 21) := s_aload_n (k := 1) (by decide +kernel) rfl
theorem iX10_read_21 : zSnd zZM zmX10_read 21 (o_ic 0 22) := s_iconst (i := 0) (by decide +kernel) (by decide +kernel)
theorem iX10_read_22 : zSnd zZM zmX10_read 22 (o_putI zYM 1 6 25) := s_putI zcX9 fX10_115 (by decide +kernel) rfl rfl (by decide +kernel)
theorem iX10_read_25 : zSnd zZM zmX10_read 25 (o_aload 1 26) := s_aload_n (k := 1) (by decide +kernel) rfl
theorem iX10_read_26 : zSnd zZM zmX10_read 26 (o_ic 0 27) := s_iconst (i := 0) (by decide +kernel) (by decide +kernel)
theorem iX10_read_27 : zSnd zZM zmX10_read 27 (o_putI zYM 1 7 30) := s_putI zcX9 fX10_118 (by decide +kernel) rfl rfl (by decide +kernel)
theorem iX10_read_30 : zSnd zZM zmX10_read 30 (o_aload 1 31) := s_aload_n (k := 1) (by decide +kernel) rfl
theorem iX10_read_31 : zSnd zZM zmX10_read 31 (o_ic 0 32) := s_iconst (i := 0) (by decide +kernel) (by decide +kernel)
theorem iX10_read_32 : zSnd zZM zmX10_read 32 (o_putI zYM 1 8 35) := s_putI zcX9 fX10_121 (by decide +kernel) rfl rfl (by decide +kernel)
theorem iX10_read_35 : zSnd zZM zmX10_read 35 (o_aload 1 36) := s_aload_n (k := 1) (by decide +kernel) rfl
theorem iX10_read_36 : zSnd zZM zmX10_read 36 (o_ic 0 37) := s_iconst (i := 0) (by decide +kernel) (by decide +kernel)
theorem iX10_read_37 : zSnd zZM zmX10_read 37 (o_putI zYM 1 9 40) := s_putI zcX9 fX10_212 (by decide +kernel) rfl rfl (by decide +kernel)
theorem iX10_read_40 : zSnd zZM zmX10_read 40 (o_aload 1 41) := s_aload_n (k := 1) (by decide +kernel) rfl
theorem iX10_read_41 : zSnd zZM zmX10_read 41 (o_ic (-1) 42) := s_iconst (i := (-1)) (by decide +kernel) (by decide +kernel)
theorem iX10_read_42 : zSnd zZM zmX10_read 42 (o_putI zYM 1 10 45) := s_putI zcX9 fX10_215 (by decide +kernel) rfl rfl (by decide +kernel)
theorem iX10_read_45 : zSnd zZM zmX10_read 45 (o_aload 1 46) := s_aload_n (k := 1) (by decide +kernel) rfl
theorem iX10_read_46 : zSnd zZM zmX10_read 46 (o_ic 0 47) := s_iconst (i := 0) (by decide +kernel) (by decide +kernel)
theorem iX10_read_47 : zSnd zZM zmX10_read 47 (o_putI zYM 1 12 50) := s_putI zcX9 fX10_106 (by decide +kernel) rfl rfl (by decide +kernel)
theorem iX10_read_50 : zSnd zZM zmX10_read 50 (o_aload 1 51) := s_aload_n (k := 1) (by decide +kernel) rfl
theorem iX10_read_51 : zSnd zZM zmX10_read 51 (o_ic 0 52) := s_iconst (i := 0) (by decide +kernel) (by decide +kernel)
theorem iX10_read_52 : zSnd zZM zmX10_read 52 (o_putI zYM 1 13 55) := s_putI zcX9 fX10_109 (by decide +kernel) rfl rfl (by decide +kernel)
theorem iX10_read_55 : zSnd zZM zmX10_read 55 (o_ic 0 56) := s_iconst (i := 0) (by decide +kernel) (by decide +kernel)
theorem iX10_read_56 : zSnd zZM zmX10_read 56 (o_istore 2 57) := s_istore_n (k := 2) (by decide +kernel) rfl (by decide +kernel)
theorem iX10_read_57 : zSnd zZM zmX10_read 57 (o_iload 2 58) := s_iload_n (k := 2) (by decide +kernel) rfl
theorem iX10_read_58 : zSnd zZM zmX10_read 58 (o_ic 4 59) := s_iconst (i := 4) (by decide +kernel) (by decide +kernel)
theorem iX10_read_59 : zSnd zZM zmX10_read 59 (o_icmp (fun x y => y ≤ x) 75 62) := s_icmp_ge (off := 16) (by decide +kernel) (by decide +kernel)
theorem iX10_read_62 : zSnd zZM zmX10_read 62 (o_aload 1 63) := s_aload_n (k := 1) (by decide +kernel) rfl
theorem iX10_read_63 : zSnd zZM zmX10_read 63 (o_getf zYM 1 55 66) := s_getf zcX9 fX10_218 (by decide +kernel) (by decide +kernel)
theorem iX10_read_66 : zSnd zZM zmX10_read 66 (o_iload 2 67) := s_iload_n (k := 2) (by decide +kernel) rfl
theorem iX10_read_67 : zSnd zZM zmX10_read 67 (o_ic 0 68) := s_iconst (i := 0) (by decide +kernel) (by decide +kernel)
theorem iX10_read_68 : zSnd zZM zmX10_read 68 (o_ast zYM .int (fun x => x) 69) := s_iast (by decide +kernel)
theorem iX10_read_69 : zSnd zZM zmX10_read 69 (o_iinc 2 1 72) := s_iinc (a := 1) (by decide +kernel) (by decide +kernel) (by decide +kernel)
theorem iX10_read_72 : zSnd zZM zmX10_read 72 (o_goto 57) := s_goto (off := (-15)) (by decide +kernel) (by decide +kernel)
theorem iX10_read_75 : zSnd zZM zmX10_read 75 (o_aload 0 76) := s_aload_n (k := 0) (by decide +kernel) rfl
theorem iX10_read_76 : zSnd zZM zmX10_read 76 (o_ic 0 77) := s_iconst (i := 0) (by decide +kernel) (by decide +kernel)
theorem iX10_read_77 : zSnd zZM zmX10_read 77 (o_putZ zYM 0 18 80) := s_putZ zcX10 fX10_134 (by decide +kernel) rfl rfl (by decide +kernel)
theorem iX10_read_80 : zSnd zZM zmX10_read 80 (o_aload 0 81) := s_aload_n (k := 0) (by decide +kernel) rfl
theorem iX10_read_81 : zSnd zZM zmX10_read 81 (o_lc 0 82) := s_lconst (i := 0) (by decide +kernel) (by decide +kernel)
theorem iX10_read_82 : zSnd zZM zmX10_read 82 (o_putL zYM 0 19 85) := s_putL zcX10 fX10_221 (by decide +kernel) rfl rfl (by decide +kernel)
theorem iX10_read_85 : zSnd zZM zmX10_read 85 (o_aload 0 86) := s_aload_n (k := 0) (by decide +kernel) rfl
theorem iX10_read_86 : zSnd zZM zmX10_read 86 (o_aload 1 87) := s_aload_n (k := 1) (by decide +kernel) rfl
theorem iX10_read_87 : zSnd zZM zmX10_read 87 (o_getf zYM 1 0 90) := s_getf zcX9 fX10_63 (by decide +kernel) (by decide +kernel)
theorem iX10_read_90 : zSnd zZM zmX10_read 90 (o_putI zYM 0 12 93) := s_putI zcX10 fX10_127 (by decide +kernel) rfl rfl (by decide +kernel)
theorem iX10_read_93 : zSnd zZM zmX10_read 93 (o_aload 0 94) := s_aload_n (k := 0) (by decide +kernel) rfl
theorem iX10_read_94 : zSnd zZM zmX10_read 94 (o_aload 1 95) := s_aload_n (k := 1) (by decide +kernel) rfl
theorem iX10_read_95 : zSnd zZM zmX10_read 95 (o_getf zYM 1 1 98) := s_getf zcX9 fX10_77 (by decide +kernel) (by decide +kernel)
theorem iX10_read_98 : zSnd zZM zmX10_read 98 (o_putI zYM 0 13 101) := s_putI zcX10 fX10_133 (by decide +kernel) rfl rfl (by decide +kernel)
theorem iX10_read_101 : zSnd zZM zmX10_read 101 (o_ic 0 102) := s_iconst (i := 0) (by decide +kernel) (by decide +kernel)
theorem iX10_read_102 : zSnd zZM zmX10_read 102 (o_istore 2 103) := s_istore_n (k := 2) (by decide +kernel) rfl (by decide +kernel)
theorem iX10_read_103 : zSnd zZM zmX10_read 103 (o_iload 2 104) := s_iload_n (k := 2) (by decide +kernel) rfl
theorem iX10_read_104 : zSnd zZM zmX10_read 104 (o_ic 8 106) := s_bipush (i := 8) (by decide +kernel) (by decide +kernel)
theorem iX10_read_106 : zSnd zZM zmX10_read 106 (o_icmp (fun x y => y ≤ x) 123 109) := s_icmp_ge (off := 17) (by decide +kernel) (by decide +kernel)
theorem iX10_read_109 : zSnd zZM zmX10_read 109 (o_aload 0 110) := s_aload_n (k := 0) (by decide +kernel) rfl
theorem iX10_read_110 : zSnd zZM zmX10_read 110 (o_iload 2 111) := s_iload_n (k := 2) (by decide +kernel) rfl
set_option maxRecDepth 20000 in
theorem iX10_read_111 : zSnd zZM zmX10_read 111 (o_callS zZM zmX10_headerAt 1 1 114) := s_callS (idx := 224) calX10_headerAt virX10_headerAt dscX10_headerAt (by decide +kernel) (zWS6 38 rfl rfl) (by decide +kernel)
set_option maxRecDepth 20000 in
theorem iX10_read_114 : zSnd zZM zmX10_read 114 (o_callV zZM 0 zmX10_needOctet 1 0 117) := s_callV (idx := 209) zcX10 calX10_needOctet virX10_needOctet dscX10_needOctet (by decide +kernel) (zWS6 41 rfl rfl) (by decide +kernel)
theorem iX10_read_117 : zSnd zZM zmX10_read 117 (o_iinc 2 1 120) := s_iinc (a := 1) (by decide +kernel) (by decide +kernel) (by decide +kernel)
theorem iX10_read_120 : zSnd zZM zmX10_read 120 (o_goto 103) := s_goto (off := (-17)) (by decide +kernel) (by decide +kernel)
theorem iX10_read_123 : zSnd zZM zmX10_read 123 (o_ic (-1) 124) := s_iconst (i := (-1)) (by decide +kernel) (by decide +kernel)
theorem iX10_read_124 : zSnd zZM zmX10_read 124 (o_istore 2 125) := s_istore_n (k := 2) (by decide +kernel) rfl (by decide +kernel)
theorem iX10_read_125 : zSnd zZM zmX10_read 125 (o_ic 0 126) := s_iconst (i := 0) (by decide +kernel) (by decide +kernel)
theorem iX10_read_126 : zSnd zZM zmX10_read 126 (o_istore 3 127) := s_istore_n (k := 3) (by decide +kernel) rfl (by decide +kernel)
theorem iX10_read_127 : zSnd zZM zmX10_read 127 (o_ic 0 128) := s_iconst (i := 0) (by decide +kernel) (by decide +kernel)
theorem iX10_read_128 : zSnd zZM zmX10_read 128 (o_istore 4 130) := s_istore (by decide +kernel) (by decide +kernel)
theorem iX10_read_130 : zSnd zZM zmX10_read 130 (o_aload 0 131) := s_aload_n (k := 0) (by decide +kernel) rfl
theorem iX10_read_131 : zSnd zZM zmX10_read 131 (o_getf zYM 0 12 134) := s_getf zcX10 fX10_127 (by decide +kernel) (by decide +kernel)
theorem iX10_read_134 : zSnd zZM zmX10_read 134 (o_aload 1 135) := s_aload_n (k := 1) (by decide +kernel) rfl
theorem iX10_read_135 : zSnd zZM zmX10_read 135 (o_getf zYM 1 1 138) := s_getf zcX9 fX10_77 (by decide +kernel) (by decide +kernel)
theorem iX10_read_138 : zSnd zZM zmX10_read 138 (o_icmp (fun x y => y ≤ x) 390 141) := s_icmp_ge (off := 252) (by decide +kernel) (by decide +kernel)
theorem iX10_read_141 : zSnd zZM zmX10_read 141 (o_aload 0 142) := s_aload_n (k := 0) (by decide +kernel) rfl
theorem iX10_read_142 : zSnd zZM zmX10_read 142 (o_getf zYM 0 12 145) := s_getf zcX10 fX10_127 (by decide +kernel) (by decide +kernel)
theorem iX10_read_145 : zSnd zZM zmX10_read 145 (o_istore 5 147) := s_istore (by decide +kernel) (by decide +kernel)
theorem iX10_read_147 : zSnd zZM zmX10_read 147 (o_aload 0 148) := s_aload_n (k := 0) (by decide +kernel) rfl
set_option maxRecDepth 20000 in
theorem iX10_read_148 : zSnd zZM zmX10_read 148 (o_callV zZM 0 zmX10_octet 0 1 151) := s_callV (idx := 140) zcX10 calX10_octet virX10_octet dscX10_octet (by decide +kernel) (zWS6 45 rfl rfl) (by decide +kernel)
theorem iX10_read_151 : zSnd zZM zmX10_read 151 (o_istore 6 153) := s_istore (by decide +kernel) (by decide +kernel)
theorem iX10_read_153 : zSnd zZM zmX10_read 153 (o_iload 6 155) := s_iload (by decide +kernel)
theorem iX10_read_155 : zSnd zZM zmX10_read 155 (o_if0 (fun x => x = 0) 158 162) := s_if_ne (off := 7) (by decide +kernel) (by decide +kernel)
theorem iX10_read_158 : zSnd zZM zmX10_read 158 (o_iload 2 159) := s_iload_n (k := 2) (by decide +kernel) rfl
theorem iX10_read_159 : zSnd zZM zmX10_read 159 (o_goto 167) := s_goto (off := 8) (by decide +kernel) (by decide +kernel)
theorem iX10_read_162 : zSnd zZM zmX10_read 162 (o_iload 6 164) := s_iload (by decide +kernel)
set_option maxRecDepth 20000 in
theorem iX10_read_164 : zSnd zZM zmX10_read 164 (o_callS zZM zmX10_orderOf 1 1 167) := s_callS (idx := 228) calX10_orderOf virX10_orderOf dscX10_orderOf (by decide +kernel) (zWS6 53 rfl rfl) (by decide +kernel)
theorem iX10_read_167 : zSnd zZM zmX10_read 167 (o_istore 7 169) := s_istore (by decide +kernel) (by decide +kernel)
theorem iX10_read_169 : zSnd zZM zmX10_read 169 (o_iload 6 171) := s_iload (by decide +kernel)
theorem iX10_read_171 : zSnd zZM zmX10_read 171 (o_if0 (fun x => x = 0) 188 174) := s_if_eq (off := 17) (by decide +kernel) (by decide +kernel)
theorem iX10_read_174 : zSnd zZM zmX10_read 174 (o_iload 7 176) := s_iload (by decide +kernel)
theorem iX10_read_176 : zSnd zZM zmX10_read 176 (o_iload 2 177) := s_iload_n (k := 2) (by decide +kernel) rfl
theorem iX10_read_177 : zSnd zZM zmX10_read 177 (o_icmp (fun x y => y < x) 188 180) := s_icmp_gt (off := 11) (by decide +kernel) (by decide +kernel)
theorem iX10_read_180 : zSnd zZM zmX10_read 180 (o_aload 0 181) := s_aload_n (k := 0) (by decide +kernel) rfl
theorem iX10_read_181 : zSnd zZM zmX10_read 181 (o_ic 1 182) := s_iconst (i := 1) (by decide +kernel) (by decide +kernel)
theorem iX10_read_182 : zSnd zZM zmX10_read 182 (o_iload 5 184) := s_iload (by decide +kernel)
set_option maxRecDepth 20000 in
theorem iX10_read_184 : zSnd zZM zmX10_read 184 (o_callV zZM 0 zmX10_wrong 2 3 187) := s_callV (idx := 176) zcX10 calX10_wrong virX10_wrong dscX10_wrong (by decide +kernel) (zWS6 49 rfl rfl) (by decide +kernel)
theorem iX10_read_187 : zSnd zZM zmX10_read 187 (o_athrow zYM 2) := s_athrow (T := TIse) (N := 0) rfl (by decide +kernel)
theorem iX10_read_188 : zSnd zZM zmX10_read 188 (o_iload 7 190) := s_iload (by decide +kernel)
theorem iX10_read_190 : zSnd zZM zmX10_read 190 (o_istore 2 191) := s_istore_n (k := 2) (by decide +kernel) rfl (by decide +kernel)
theorem iX10_read_191 : zSnd zZM zmX10_read 191 (o_aload 0 192) := s_aload_n (k := 0) (by decide +kernel) rfl
theorem iX10_read_192 : zSnd zZM zmX10_read 192 (o_getf zYM 0 12 195) := s_getf zcX10 fX10_127 (by decide +kernel) (by decide +kernel)
theorem iX10_read_195 : zSnd zZM zmX10_read 195 (o_istore 5 197) := s_istore (by decide +kernel) (by decide +kernel)
theorem iX10_read_197 : zSnd zZM zmX10_read 197 (o_aload 0 198) := s_aload_n (k := 0) (by decide +kernel) rfl
set_option maxRecDepth 20000 in
theorem iX10_read_198 : zSnd zZM zmX10_read 198 (o_callV zZM 0 zmX10_u 0 2 201) := s_callV (idx := 144) zcX10 calX10_u virX10_u dscX10_u (by decide +kernel) (zWS6 105 rfl rfl) (by decide +kernel)
theorem iX10_read_201 : zSnd zZM zmX10_read 201 (o_lstore 8 203) := s_lstore (by decide +kernel) (by decide +kernel)
theorem iX10_read_203 : zSnd zZM zmX10_read 203 (o_lload 8 205) := s_lload (by decide +kernel)
theorem iX10_read_205 : zSnd zZM zmX10_read 205 (o_aload 1 206) := s_aload_n (k := 1) (by decide +kernel) rfl
theorem iX10_read_206 : zSnd zZM zmX10_read 206 (o_getf zYM 1 1 209) := s_getf zcX9 fX10_77 (by decide +kernel) (by decide +kernel)
theorem iX10_read_209 : zSnd zZM zmX10_read 209 (o_aload 0 210) := s_aload_n (k := 0) (by decide +kernel) rfl
theorem iX10_read_210 : zSnd zZM zmX10_read 210 (o_getf zYM 0 12 213) := s_getf zcX10 fX10_127 (by decide +kernel) (by decide +kernel)
theorem iX10_read_213 : zSnd zZM zmX10_read 213 (o_ibin (fun x y => x - y) 214) := s_isub (by decide +kernel)
theorem iX10_read_214 : zSnd zZM zmX10_read 214 (o_i2l 215) := s_i2l (by decide +kernel)
theorem iX10_read_215 : zSnd zZM zmX10_read 215 (o_lif (fun x y => x ≤ y) 227 219) := s_lle (off := 11) (by decide +kernel) (by decide +kernel) (by decide +kernel)
theorem iX10_read_219 : zSnd zZM zmX10_read 219 (o_aload 0 220) := s_aload_n (k := 0) (by decide +kernel) rfl
theorem iX10_read_220 : zSnd zZM zmX10_read 220 (o_ic 1 221) := s_iconst (i := 1) (by decide +kernel) (by decide +kernel)
theorem iX10_read_221 : zSnd zZM zmX10_read 221 (o_iload 5 223) := s_iload (by decide +kernel)
set_option maxRecDepth 20000 in
theorem iX10_read_223 : zSnd zZM zmX10_read 223 (o_callV zZM 0 zmX10_wrong 2 3 226) := s_callV (idx := 176) zcX10 calX10_wrong virX10_wrong dscX10_wrong (by decide +kernel) (zWS6 49 rfl rfl) (by decide +kernel)
theorem iX10_read_226 : zSnd zZM zmX10_read 226 (o_athrow zYM 2) := s_athrow (T := TIse) (N := 0) rfl (by decide +kernel)
theorem iX10_read_227 : zSnd zZM zmX10_read 227 (o_aload 0 228) := s_aload_n (k := 0) (by decide +kernel) rfl
theorem iX10_read_228 : zSnd zZM zmX10_read 228 (o_aload 0 229) := s_aload_n (k := 0) (by decide +kernel) rfl
theorem iX10_read_229 : zSnd zZM zmX10_read 229 (o_getf zYM 0 12 232) := s_getf zcX10 fX10_127 (by decide +kernel) (by decide +kernel)
theorem iX10_read_232 : zSnd zZM zmX10_read 232 (o_lload 8 234) := s_lload (by decide +kernel)
theorem iX10_read_234 : zSnd zZM zmX10_read 234 (o_l2i 235) := s_l2i (by decide +kernel)
theorem iX10_read_235 : zSnd zZM zmX10_read 235 (o_ibin (fun x y => x + y) 236) := s_iadd (by decide +kernel)
theorem iX10_read_236 : zSnd zZM zmX10_read 236 (o_putI zYM 0 13 239) := s_putI zcX10 fX10_133 (by decide +kernel) rfl rfl (by decide +kernel)
theorem iX10_read_239 : zSnd zZM zmX10_read 239 (o_iload 6 241) := s_iload (by decide +kernel)
theorem iX10_read_241 : zSnd zZM zmX10_read 241 (o_if0 (fun x => x = 0) 244 260) := s_if_ne (off := 19) (by decide +kernel) (by decide +kernel)
theorem iX10_read_244 : zSnd zZM zmX10_read 244 (o_aload 0 245) := s_aload_n (k := 0) (by decide +kernel) rfl
theorem iX10_read_245 : zSnd zZM zmX10_read 245 (o_ic 0 246) := s_iconst (i := 0) (by decide +kernel) (by decide +kernel)
set_option maxRecDepth 20000 in
theorem iX10_read_246 : zSnd zZM zmX10_read 246 (o_callV zZM 0 zmX10_nameItem 1 0 249) := s_callV (idx := 231) zcX10 calX10_nameItem virX10_nameItem dscX10_nameItem (by decide +kernel) (zWS6 109 rfl rfl) (by decide +kernel)
theorem iX10_read_249 : zSnd zZM zmX10_read 249 (o_aload 0 250) := s_aload_n (k := 0) (by decide +kernel) rfl
theorem iX10_read_250 : zSnd zZM zmX10_read 250 (o_aload 0 251) := s_aload_n (k := 0) (by decide +kernel) rfl
theorem iX10_read_251 : zSnd zZM zmX10_read 251 (o_getf zYM 0 13 254) := s_getf zcX10 fX10_133 (by decide +kernel) (by decide +kernel)
theorem iX10_read_254 : zSnd zZM zmX10_read 254 (o_putI zYM 0 12 257) := s_putI zcX10 fX10_127 (by decide +kernel) rfl rfl (by decide +kernel)
theorem iX10_read_257 : zSnd zZM zmX10_read 257 (o_goto 267) := s_goto (off := 10) (by decide +kernel) (by decide +kernel)
theorem iX10_read_260 : zSnd zZM zmX10_read 260 (o_aload 0 261) := s_aload_n (k := 0) (by decide +kernel) rfl
theorem iX10_read_261 : zSnd zZM zmX10_read 261 (o_aload 1 262) := s_aload_n (k := 1) (by decide +kernel) rfl
theorem iX10_read_262 : zSnd zZM zmX10_read 262 (o_iload 6 264) := s_iload (by decide +kernel)
set_option maxRecDepth 20000 in
theorem iX10_read_264 : zSnd zZM zmX10_read 264 (o_callV zZM 0 zmX10_section 2 0 267) := s_callV (idx := 235) zcX10 calX10_section virX10_section dscX10_section (by decide +kernel) (zWS6 115 rfl rfl) (by decide +kernel)
theorem iX10_read_267 : zSnd zZM zmX10_read 267 (o_aload 0 268) := s_aload_n (k := 0) (by decide +kernel) rfl
theorem iX10_read_268 : zSnd zZM zmX10_read 268 (o_getf zYM 0 12 271) := s_getf zcX10 fX10_127 (by decide +kernel) (by decide +kernel)
theorem iX10_read_271 : zSnd zZM zmX10_read 271 (o_aload 0 272) := s_aload_n (k := 0) (by decide +kernel) rfl
theorem iX10_read_272 : zSnd zZM zmX10_read 272 (o_getf zYM 0 13 275) := s_getf zcX10 fX10_133 (by decide +kernel) (by decide +kernel)
theorem iX10_read_275 : zSnd zZM zmX10_read 275 (o_icmp (fun x y => y ≤ x) 288 278) := s_icmp_ge (off := 13) (by decide +kernel) (by decide +kernel)
theorem iX10_read_278 : zSnd zZM zmX10_read 278 (o_aload 0 279) := s_aload_n (k := 0) (by decide +kernel) rfl
theorem iX10_read_279 : zSnd zZM zmX10_read 279 (o_ic 1 280) := s_iconst (i := 1) (by decide +kernel) (by decide +kernel)
theorem iX10_read_280 : zSnd zZM zmX10_read 280 (o_aload 0 281) := s_aload_n (k := 0) (by decide +kernel) rfl
theorem iX10_read_281 : zSnd zZM zmX10_read 281 (o_getf zYM 0 12 284) := s_getf zcX10 fX10_127 (by decide +kernel) (by decide +kernel)
set_option maxRecDepth 20000 in
theorem iX10_read_284 : zSnd zZM zmX10_read 284 (o_callV zZM 0 zmX10_wrong 2 3 287) := s_callV (idx := 176) zcX10 calX10_wrong virX10_wrong dscX10_wrong (by decide +kernel) (zWS6 49 rfl rfl) (by decide +kernel)
theorem iX10_read_287 : zSnd zZM zmX10_read 287 (o_athrow zYM 2) := s_athrow (T := TIse) (N := 0) rfl (by decide +kernel)
theorem iX10_read_288 : zSnd zZM zmX10_read 288 (o_iload 6 290) := s_iload (by decide +kernel)
theorem iX10_read_290 : zSnd zZM zmX10_read 290 (o_ic 10 292) := s_bipush (i := 10) (by decide +kernel) (by decide +kernel)
theorem iX10_read_292 : zSnd zZM zmX10_read 292 (o_icmp (fun x y => x = y) 295 306) := s_icmp_ne (off := 14) (by decide +kernel) (by decide +kernel)
theorem iX10_read_295 : zSnd zZM zmX10_read 295 (o_aload 1 296) := s_aload_n (k := 1) (by decide +kernel) rfl
theorem iX10_read_296 : zSnd zZM zmX10_read 296 (o_getf zYM 1 9 299) := s_getf zcX9 fX10_212 (by decide +kernel) (by decide +kernel)
theorem iX10_read_299 : zSnd zZM zmX10_read 299 (o_aload 1 300) := s_aload_n (k := 1) (by decide +kernel) rfl
theorem iX10_read_300 : zSnd zZM zmX10_read 300 (o_getf zYM 1 4 303) := s_getf zcX9 fX10_103 (by decide +kernel) (by decide +kernel)
theorem iX10_read_303 : zSnd zZM zmX10_read 303 (o_icmp (fun x y => x = y) 306 333) := s_icmp_ne (off := 30) (by decide +kernel) (by decide +kernel)
theorem iX10_read_306 : zSnd zZM zmX10_read 306 (o_iload 6 308) := s_iload (by decide +kernel)
theorem iX10_read_308 : zSnd zZM zmX10_read 308 (o_ic 11 310) := s_bipush (i := 11) (by decide +kernel) (by decide +kernel)
theorem iX10_read_310 : zSnd zZM zmX10_read 310 (o_icmp (fun x y => x = y) 313 343) := s_icmp_ne (off := 33) (by decide +kernel) (by decide +kernel)
theorem iX10_read_313 : zSnd zZM zmX10_read 313 (o_aload 0 314) := s_aload_n (k := 0) (by decide +kernel) rfl
theorem iX10_read_314 : zSnd zZM zmX10_read 314 (o_getf zYM 0 18 317) := s_getf zcX10 fX10_134 (by decide +kernel) (by decide +kernel)
theorem iX10_read_317 : zSnd zZM zmX10_read 317 (o_if0 (fun x => x = 0) 343 320) := s_if_eq (off := 26) (by decide +kernel) (by decide +kernel)
theorem iX10_read_320 : zSnd zZM zmX10_read 320 (o_aload 1 321) := s_aload_n (k := 1) (by decide +kernel) rfl
theorem iX10_read_321 : zSnd zZM zmX10_read 321 (o_getf zYM 1 8 324) := s_getf zcX9 fX10_121 (by decide +kernel) (by decide +kernel)
theorem iX10_read_324 : zSnd zZM zmX10_read 324 (o_i2l 325) := s_i2l (by decide +kernel)
theorem iX10_read_325 : zSnd zZM zmX10_read 325 (o_aload 0 326) := s_aload_n (k := 0) (by decide +kernel) rfl
theorem iX10_read_326 : zSnd zZM zmX10_read 326 (o_getf zYM 0 19 329) := s_getf zcX10 fX10_221 (by decide +kernel) (by decide +kernel)
theorem iX10_read_329 : zSnd zZM zmX10_read 329 (o_lif (fun x y => x = y) 343 333) := s_leq (off := 13) (by decide +kernel) (by decide +kernel) (by decide +kernel)
theorem iX10_read_333 : zSnd zZM zmX10_read 333 (o_aload 0 334) := s_aload_n (k := 0) (by decide +kernel) rfl
theorem iX10_read_334 : zSnd zZM zmX10_read 334 (o_ic 1 335) := s_iconst (i := 1) (by decide +kernel) (by decide +kernel)
theorem iX10_read_335 : zSnd zZM zmX10_read 335 (o_aload 0 336) := s_aload_n (k := 0) (by decide +kernel) rfl
theorem iX10_read_336 : zSnd zZM zmX10_read 336 (o_getf zYM 0 13 339) := s_getf zcX10 fX10_133 (by decide +kernel) (by decide +kernel)
set_option maxRecDepth 20000 in
theorem iX10_read_339 : zSnd zZM zmX10_read 339 (o_callV zZM 0 zmX10_wrong 2 3 342) := s_callV (idx := 176) zcX10 calX10_wrong virX10_wrong dscX10_wrong (by decide +kernel) (zWS6 49 rfl rfl) (by decide +kernel)
theorem iX10_read_342 : zSnd zZM zmX10_read 342 (o_athrow zYM 2) := s_athrow (T := TIse) (N := 0) rfl (by decide +kernel)
theorem iX10_read_343 : zSnd zZM zmX10_read 343 (o_iload 3 344) := s_iload_n (k := 3) (by decide +kernel) rfl
theorem iX10_read_344 : zSnd zZM zmX10_read 344 (o_if0 (fun x => x = 0) 347 354) := s_if_ne (off := 10) (by decide +kernel) (by decide +kernel)
theorem iX10_read_347 : zSnd zZM zmX10_read 347 (o_iload 6 349) := s_iload (by decide +kernel)
theorem iX10_read_349 : zSnd zZM zmX10_read 349 (o_ic 10 351) := s_bipush (i := 10) (by decide +kernel) (by decide +kernel)
theorem iX10_read_351 : zSnd zZM zmX10_read 351 (o_icmp (fun x y => x = y) 354 358) := s_icmp_ne (off := 7) (by decide +kernel) (by decide +kernel)
theorem iX10_read_354 : zSnd zZM zmX10_read 354 (o_ic 1 355) := s_iconst (i := 1) (by decide +kernel) (by decide +kernel)
theorem iX10_read_355 : zSnd zZM zmX10_read 355 (o_goto 359) := s_goto (off := 4) (by decide +kernel) (by decide +kernel)
theorem iX10_read_358 : zSnd zZM zmX10_read 358 (o_ic 0 359) := s_iconst (i := 0) (by decide +kernel) (by decide +kernel)
theorem iX10_read_359 : zSnd zZM zmX10_read 359 (o_istore 3 360) := s_istore_n (k := 3) (by decide +kernel) rfl (by decide +kernel)
theorem iX10_read_360 : zSnd zZM zmX10_read 360 (o_iload 4 362) := s_iload (by decide +kernel)
theorem iX10_read_362 : zSnd zZM zmX10_read 362 (o_if0 (fun x => x = 0) 365 372) := s_if_ne (off := 10) (by decide +kernel) (by decide +kernel)
theorem iX10_read_365 : zSnd zZM zmX10_read 365 (o_iload 6 367) := s_iload (by decide +kernel)
theorem iX10_read_367 : zSnd zZM zmX10_read 367 (o_ic 11 369) := s_bipush (i := 11) (by decide +kernel) (by decide +kernel)
theorem iX10_read_369 : zSnd zZM zmX10_read 369 (o_icmp (fun x y => x = y) 372 376) := s_icmp_ne (off := 7) (by decide +kernel) (by decide +kernel)
theorem iX10_read_372 : zSnd zZM zmX10_read 372 (o_ic 1 373) := s_iconst (i := 1) (by decide +kernel) (by decide +kernel)
theorem iX10_read_373 : zSnd zZM zmX10_read 373 (o_goto 377) := s_goto (off := 4) (by decide +kernel) (by decide +kernel)
theorem iX10_read_376 : zSnd zZM zmX10_read 376 (o_ic 0 377) := s_iconst (i := 0) (by decide +kernel) (by decide +kernel)
theorem iX10_read_377 : zSnd zZM zmX10_read 377 (o_istore 4 379) := s_istore (by decide +kernel) (by decide +kernel)
theorem iX10_read_379 : zSnd zZM zmX10_read 379 (o_aload 0 380) := s_aload_n (k := 0) (by decide +kernel) rfl
theorem iX10_read_380 : zSnd zZM zmX10_read 380 (o_aload 1 381) := s_aload_n (k := 1) (by decide +kernel) rfl
theorem iX10_read_381 : zSnd zZM zmX10_read 381 (o_getf zYM 1 1 384) := s_getf zcX9 fX10_77 (by decide +kernel) (by decide +kernel)
theorem iX10_read_384 : zSnd zZM zmX10_read 384 (o_putI zYM 0 13 387) := s_putI zcX10 fX10_133 (by decide +kernel) rfl rfl (by decide +kernel)
theorem iX10_read_387 : zSnd zZM zmX10_read 387 (o_goto 130) := s_goto (off := (-257)) (by decide +kernel) (by decide +kernel)
theorem iX10_read_390 : zSnd zZM zmX10_read 390 (o_iload 3 391) := s_iload_n (k := 3) (by decide +kernel) rfl
theorem iX10_read_391 : zSnd zZM zmX10_read 391 (o_if0 (fun x => x = 0) 394 401) := s_if_ne (off := 10) (by decide +kernel) (by decide +kernel)
theorem iX10_read_394 : zSnd zZM zmX10_read 394 (o_aload 1 395) := s_aload_n (k := 1) (by decide +kernel) rfl
theorem iX10_read_395 : zSnd zZM zmX10_read 395 (o_getf zYM 1 4 398) := s_getf zcX9 fX10_103 (by decide +kernel) (by decide +kernel)
theorem iX10_read_398 : zSnd zZM zmX10_read 398 (o_if0 (fun x => 0 < x) 415 401) := s_if_gt (off := 17) (by decide +kernel) (by decide +kernel)
theorem iX10_read_401 : zSnd zZM zmX10_read 401 (o_iload 4 403) := s_iload (by decide +kernel)
theorem iX10_read_403 : zSnd zZM zmX10_read 403 (o_if0 (fun x => x = 0) 406 425) := s_if_ne (off := 22) (by decide +kernel) (by decide +kernel)
theorem iX10_read_406 : zSnd zZM zmX10_read 406 (o_aload 0 407) := s_aload_n (k := 0) (by decide +kernel) rfl
theorem iX10_read_407 : zSnd zZM zmX10_read 407 (o_getf zYM 0 19 410) := s_getf zcX10 fX10_221 (by decide +kernel) (by decide +kernel)
theorem iX10_read_410 : zSnd zZM zmX10_read 410 (o_lc 0 411) := s_lconst (i := 0) (by decide +kernel) (by decide +kernel)
theorem iX10_read_411 : zSnd zZM zmX10_read 411 (o_lif (fun x y => x ≤ y) 425 415) := s_lle (off := 13) (by decide +kernel) (by decide +kernel) (by decide +kernel)
theorem iX10_read_415 : zSnd zZM zmX10_read 415 (o_aload 0 416) := s_aload_n (k := 0) (by decide +kernel) rfl
theorem iX10_read_416 : zSnd zZM zmX10_read 416 (o_ic 1 417) := s_iconst (i := 1) (by decide +kernel) (by decide +kernel)
theorem iX10_read_417 : zSnd zZM zmX10_read 417 (o_aload 0 418) := s_aload_n (k := 0) (by decide +kernel) rfl
theorem iX10_read_418 : zSnd zZM zmX10_read 418 (o_getf zYM 0 13 421) := s_getf zcX10 fX10_133 (by decide +kernel) (by decide +kernel)
set_option maxRecDepth 20000 in
theorem iX10_read_421 : zSnd zZM zmX10_read 421 (o_callV zZM 0 zmX10_wrong 2 3 424) := s_callV (idx := 176) zcX10 calX10_wrong virX10_wrong dscX10_wrong (by decide +kernel) (zWS6 49 rfl rfl) (by decide +kernel)
theorem iX10_read_424 : zSnd zZM zmX10_read 424 (o_athrow zYM 2) := s_athrow (T := TIse) (N := 0) rfl (by decide +kernel)
theorem iX10_read_425 : zSnd zZM zmX10_read 425 (o_vret) := s_vret rfl (by decide +kernel)
def kX10_read : List (Nat × zOp) := [(0, o_aload 1 1),
  (1, o_ic 0 2),
  (2, o_putI zYM 1 2 5),
  (5, o_aload 1 6),
  (6, o_ic 0 7),
  (7, o_putI zYM 1 3 10),
  (10, o_aload 1 11),
  (11, o_ic 0 12),
  (12, o_putI zYM 1 4 15),
  (15, o_aload 1 16),
  (16, o_ic 0 17),
  (17, o_putI zYM 1 5 20),
  (20, o_aload 1 21),
  (21, o_ic 0 22),
  (22, o_putI zYM 1 6 25),
  (25, o_aload 1 26),
  (26, o_ic 0 27),
  (27, o_putI zYM 1 7 30),
  (30, o_aload 1 31),
  (31, o_ic 0 32),
  (32, o_putI zYM 1 8 35),
  (35, o_aload 1 36),
  (36, o_ic 0 37),
  (37, o_putI zYM 1 9 40),
  (40, o_aload 1 41),
  (41, o_ic (-1) 42),
  (42, o_putI zYM 1 10 45),
  (45, o_aload 1 46),
  (46, o_ic 0 47),
  (47, o_putI zYM 1 12 50),
  (50, o_aload 1 51),
  (51, o_ic 0 52),
  (52, o_putI zYM 1 13 55),
  (55, o_ic 0 56),
  (56, o_istore 2 57),
  (57, o_iload 2 58),
  (58, o_ic 4 59),
  (59, o_icmp (fun x y => y ≤ x) 75 62),
  (62, o_aload 1 63),
  (63, o_getf zYM 1 55 66),
  (66, o_iload 2 67),
  (67, o_ic 0 68),
  (68, o_ast zYM .int (fun x => x) 69),
  (69, o_iinc 2 1 72),
  (72, o_goto 57),
  (75, o_aload 0 76),
  (76, o_ic 0 77),
  (77, o_putZ zYM 0 18 80),
  (80, o_aload 0 81),
  (81, o_lc 0 82),
  (82, o_putL zYM 0 19 85),
  (85, o_aload 0 86),
  (86, o_aload 1 87),
  (87, o_getf zYM 1 0 90),
  (90, o_putI zYM 0 12 93),
  (93, o_aload 0 94),
  (94, o_aload 1 95),
  (95, o_getf zYM 1 1 98),
  (98, o_putI zYM 0 13 101),
  (101, o_ic 0 102),
  (102, o_istore 2 103),
  (103, o_iload 2 104),
  (104, o_ic 8 106),
  (106, o_icmp (fun x y => y ≤ x) 123 109),
  (109, o_aload 0 110),
  (110, o_iload 2 111),
  (111, o_callS zZM zmX10_headerAt 1 1 114),
  (114, o_callV zZM 0 zmX10_needOctet 1 0 117),
  (117, o_iinc 2 1 120),
  (120, o_goto 103),
  (123, o_ic (-1) 124),
  (124, o_istore 2 125),
  (125, o_ic 0 126),
  (126, o_istore 3 127),
  (127, o_ic 0 128),
  (128, o_istore 4 130),
  (130, o_aload 0 131),
  (131, o_getf zYM 0 12 134),
  (134, o_aload 1 135),
  (135, o_getf zYM 1 1 138),
  (138, o_icmp (fun x y => y ≤ x) 390 141),
  (141, o_aload 0 142),
  (142, o_getf zYM 0 12 145),
  (145, o_istore 5 147),
  (147, o_aload 0 148),
  (148, o_callV zZM 0 zmX10_octet 0 1 151),
  (151, o_istore 6 153),
  (153, o_iload 6 155),
  (155, o_if0 (fun x => x = 0) 158 162),
  (158, o_iload 2 159),
  (159, o_goto 167),
  (162, o_iload 6 164),
  (164, o_callS zZM zmX10_orderOf 1 1 167),
  (167, o_istore 7 169),
  (169, o_iload 6 171),
  (171, o_if0 (fun x => x = 0) 188 174),
  (174, o_iload 7 176),
  (176, o_iload 2 177),
  (177, o_icmp (fun x y => y < x) 188 180),
  (180, o_aload 0 181),
  (181, o_ic 1 182),
  (182, o_iload 5 184),
  (184, o_callV zZM 0 zmX10_wrong 2 3 187),
  (187, o_athrow zYM 2),
  (188, o_iload 7 190),
  (190, o_istore 2 191),
  (191, o_aload 0 192),
  (192, o_getf zYM 0 12 195),
  (195, o_istore 5 197),
  (197, o_aload 0 198),
  (198, o_callV zZM 0 zmX10_u 0 2 201),
  (201, o_lstore 8 203),
  (203, o_lload 8 205),
  (205, o_aload 1 206),
  (206, o_getf zYM 1 1 209),
  (209, o_aload 0 210),
  (210, o_getf zYM 0 12 213),
  (213, o_ibin (fun x y => x - y) 214),
  (214, o_i2l 215),
  (215, o_lif (fun x y => x ≤ y) 227 219),
  (219, o_aload 0 220),
  (220, o_ic 1 221),
  (221, o_iload 5 223),
  (223, o_callV zZM 0 zmX10_wrong 2 3 226),
  (226, o_athrow zYM 2),
  (227, o_aload 0 228),
  (228, o_aload 0 229),
  (229, o_getf zYM 0 12 232),
  (232, o_lload 8 234),
  (234, o_l2i 235),
  (235, o_ibin (fun x y => x + y) 236),
  (236, o_putI zYM 0 13 239),
  (239, o_iload 6 241),
  (241, o_if0 (fun x => x = 0) 244 260),
  (244, o_aload 0 245),
  (245, o_ic 0 246),
  (246, o_callV zZM 0 zmX10_nameItem 1 0 249),
  (249, o_aload 0 250),
  (250, o_aload 0 251),
  (251, o_getf zYM 0 13 254),
  (254, o_putI zYM 0 12 257),
  (257, o_goto 267),
  (260, o_aload 0 261),
  (261, o_aload 1 262),
  (262, o_iload 6 264),
  (264, o_callV zZM 0 zmX10_section 2 0 267),
  (267, o_aload 0 268),
  (268, o_getf zYM 0 12 271),
  (271, o_aload 0 272),
  (272, o_getf zYM 0 13 275),
  (275, o_icmp (fun x y => y ≤ x) 288 278),
  (278, o_aload 0 279),
  (279, o_ic 1 280),
  (280, o_aload 0 281),
  (281, o_getf zYM 0 12 284),
  (284, o_callV zZM 0 zmX10_wrong 2 3 287),
  (287, o_athrow zYM 2),
  (288, o_iload 6 290),
  (290, o_ic 10 292),
  (292, o_icmp (fun x y => x = y) 295 306),
  (295, o_aload 1 296),
  (296, o_getf zYM 1 9 299),
  (299, o_aload 1 300),
  (300, o_getf zYM 1 4 303),
  (303, o_icmp (fun x y => x = y) 306 333),
  (306, o_iload 6 308),
  (308, o_ic 11 310),
  (310, o_icmp (fun x y => x = y) 313 343),
  (313, o_aload 0 314),
  (314, o_getf zYM 0 18 317),
  (317, o_if0 (fun x => x = 0) 343 320),
  (320, o_aload 1 321),
  (321, o_getf zYM 1 8 324),
  (324, o_i2l 325),
  (325, o_aload 0 326),
  (326, o_getf zYM 0 19 329),
  (329, o_lif (fun x y => x = y) 343 333),
  (333, o_aload 0 334),
  (334, o_ic 1 335),
  (335, o_aload 0 336),
  (336, o_getf zYM 0 13 339),
  (339, o_callV zZM 0 zmX10_wrong 2 3 342),
  (342, o_athrow zYM 2),
  (343, o_iload 3 344),
  (344, o_if0 (fun x => x = 0) 347 354),
  (347, o_iload 6 349),
  (349, o_ic 10 351),
  (351, o_icmp (fun x y => x = y) 354 358),
  (354, o_ic 1 355),
  (355, o_goto 359),
  (358, o_ic 0 359),
  (359, o_istore 3 360),
  (360, o_iload 4 362),
  (362, o_if0 (fun x => x = 0) 365 372),
  (365, o_iload 6 367),
  (367, o_ic 11 369),
  (369, o_icmp (fun x y => x = y) 372 376),
  (372, o_ic 1 373),
  (373, o_goto 377),
  (376, o_ic 0 377),
  (377, o_istore 4 379),
  (379, o_aload 0 380),
  (380, o_aload 1 381),
  (381, o_getf zYM 1 1 384),
  (384, o_putI zYM 0 13 387),
  (387, o_goto 130),
  (390, o_iload 3 391),
  (391, o_if0 (fun x => x = 0) 394 401),
  (394, o_aload 1 395),
  (395, o_getf zYM 1 4 398),
  (398, o_if0 (fun x => 0 < x) 415 401),
  (401, o_iload 4 403),
  (403, o_if0 (fun x => x = 0) 406 425),
  (406, o_aload 0 407),
  (407, o_getf zYM 0 19 410),
  (410, o_lc 0 411),
  (411, o_lif (fun x y => x ≤ y) 425 415),
  (415, o_aload 0 416),
  (416, o_ic 1 417),
  (417, o_aload 0 418),
  (418, o_getf zYM 0 13 421),
  (421, o_callV zZM 0 zmX10_wrong 2 3 424),
  (424, o_athrow zYM 2),
  (425, o_vret)]
set_option maxRecDepth 100000 in
theorem ksX10_read : ∀ q ∈ kX10_read, zSnd zZM zmX10_read q.1 q.2 := zcc iX10_read_0 (zcc iX10_read_1 (zcc iX10_read_2 (zcc iX10_read_5 (zcc iX10_read_6 (zcc iX10_read_7 (zcc iX10_read_10 (zcc iX10_read_11 (zcc iX10_read_12 (zcc iX10_read_15 (zcc iX10_read_16 (zcc iX10_read_17 (zcc iX10_read_20 (zcc iX10_read_21 (zcc iX10_read_22 (zcc iX10_read_25 (zcc iX10_read_26 (zcc iX10_read_27 (zcc iX10_read_30 (zcc iX10_read_31 (zcc iX10_read_32 (zcc iX10_read_35 (zcc iX10_read_36 (zcc iX10_read_37 (zcc iX10_read_40 (zcc iX10_read_41 (zcc iX10_read_42 (zcc iX10_read_45 (zcc iX10_read_46 (zcc iX10_read_47 (zcc iX10_read_50 (zcc iX10_read_51 (zcc iX10_read_52 (zcc iX10_read_55 (zcc iX10_read_56 (zcc iX10_read_57 (zcc iX10_read_58 (zcc iX10_read_59 (zcc iX10_read_62 (zcc iX10_read_63 (zcc iX10_read_66 (zcc iX10_read_67 (zcc iX10_read_68 (zcc iX10_read_69 (zcc iX10_read_72 (zcc iX10_read_75 (zcc iX10_read_76 (zcc iX10_read_77 (zcc iX10_read_80 (zcc iX10_read_81 (zcc iX10_read_82 (zcc iX10_read_85 (zcc iX10_read_86 (zcc iX10_read_87 (zcc iX10_read_90 (zcc iX10_read_93 (zcc iX10_read_94 (zcc iX10_read_95 (zcc iX10_read_98 (zcc iX10_read_101 (zcc iX10_read_102 (zcc iX10_read_103 (zcc iX10_read_104 (zcc iX10_read_106 (zcc iX10_read_109 (zcc iX10_read_110 (zcc iX10_read_111 (zcc iX10_read_114 (zcc iX10_read_117 (zcc iX10_read_120 (zcc iX10_read_123 (zcc iX10_read_124 (zcc iX10_read_125 (zcc iX10_read_126 (zcc iX10_read_127 (zcc iX10_read_128 (zcc iX10_read_130 (zcc iX10_read_131 (zcc iX10_read_134 (zcc iX10_read_135 (zcc iX10_read_138 (zcc iX10_read_141 (zcc iX10_read_142 (zcc iX10_read_145 (zcc iX10_read_147 (zcc iX10_read_148 (zcc iX10_read_151 (zcc iX10_read_153 (zcc iX10_read_155 (zcc iX10_read_158 (zcc iX10_read_159 (zcc iX10_read_162 (zcc iX10_read_164 (zcc iX10_read_167 (zcc iX10_read_169 (zcc iX10_read_171 (zcc iX10_read_174 (zcc iX10_read_176 (zcc iX10_read_177 (zcc iX10_read_180 (zcc iX10_read_181 (zcc iX10_read_182 (zcc iX10_read_184 (zcc iX10_read_187 (zcc iX10_read_188 (zcc iX10_read_190 (zcc iX10_read_191 (zcc iX10_read_192 (zcc iX10_read_195 (zcc iX10_read_197 (zcc iX10_read_198 (zcc iX10_read_201 (zcc iX10_read_203 (zcc iX10_read_205 (zcc iX10_read_206 (zcc iX10_read_209 (zcc iX10_read_210 (zcc iX10_read_213 (zcc iX10_read_214 (zcc iX10_read_215 (zcc iX10_read_219 (zcc iX10_read_220 (zcc iX10_read_221 (zcc iX10_read_223 (zcc iX10_read_226 (zcc iX10_read_227 (zcc iX10_read_228 (zcc iX10_read_229 (zcc iX10_read_232 (zcc iX10_read_234 (zcc iX10_read_235 (zcc iX10_read_236 (zcc iX10_read_239 (zcc iX10_read_241 (zcc iX10_read_244 (zcc iX10_read_245 (zcc iX10_read_246 (zcc iX10_read_249 (zcc iX10_read_250 (zcc iX10_read_251 (zcc iX10_read_254 (zcc iX10_read_257 (zcc iX10_read_260 (zcc iX10_read_261 (zcc iX10_read_262 (zcc iX10_read_264 (zcc iX10_read_267 (zcc iX10_read_268 (zcc iX10_read_271 (zcc iX10_read_272 (zcc iX10_read_275 (zcc iX10_read_278 (zcc iX10_read_279 (zcc iX10_read_280 (zcc iX10_read_281 (zcc iX10_read_284 (zcc iX10_read_287 (zcc iX10_read_288 (zcc iX10_read_290 (zcc iX10_read_292 (zcc iX10_read_295 (zcc iX10_read_296 (zcc iX10_read_299 (zcc iX10_read_300 (zcc iX10_read_303 (zcc iX10_read_306 (zcc iX10_read_308 (zcc iX10_read_310 (zcc iX10_read_313 (zcc iX10_read_314 (zcc iX10_read_317 (zcc iX10_read_320 (zcc iX10_read_321 (zcc iX10_read_324 (zcc iX10_read_325 (zcc iX10_read_326 (zcc iX10_read_329 (zcc iX10_read_333 (zcc iX10_read_334 (zcc iX10_read_335 (zcc iX10_read_336 (zcc iX10_read_339 (zcc iX10_read_342 (zcc iX10_read_343 (zcc iX10_read_344 (zcc iX10_read_347 (zcc iX10_read_349 (zcc iX10_read_351 (zcc iX10_read_354 (zcc iX10_read_355 (zcc iX10_read_358 (zcc iX10_read_359 (zcc iX10_read_360 (zcc iX10_read_362 (zcc iX10_read_365 (zcc iX10_read_367 (zcc iX10_read_369 (zcc iX10_read_372 (zcc iX10_read_373 (zcc iX10_read_376 (zcc iX10_read_377 (zcc iX10_read_379 (zcc iX10_read_380 (zcc iX10_read_381 (zcc iX10_read_384 (zcc iX10_read_387 (zcc iX10_read_390 (zcc iX10_read_391 (zcc iX10_read_394 (zcc iX10_read_395 (zcc iX10_read_398 (zcc iX10_read_401 (zcc iX10_read_403 (zcc iX10_read_406 (zcc iX10_read_407 (zcc iX10_read_410 (zcc iX10_read_411 (zcc iX10_read_415 (zcc iX10_read_416 (zcc iX10_read_417 (zcc iX10_read_418 (zcc iX10_read_421 (zcc iX10_read_424 (zcc iX10_read_425 zcn)))))))))))))))))))))))))))))))))))))))))))))))))))))))))))))))))))))))))))))))))))))))))))))))))))))))))))))))))))))))))))))))))))))))))))))))))))))))))))))))))))))))))))))))))))))))))))))))))))))))))))))))))))))))))))))))
