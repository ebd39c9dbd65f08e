theorem iX3_take_0 : zSnd zZC zmX3_take 0 (o_iload 1 1) := s_iload_n (k := 1) (by decide +kernel) rfl
theorem iX3_take_1 : zSnd zZC zmX3_take 1 (o_ic 64 3) := s_bipush (i := 64) (by decide +kernel) (by decide +kernel)
theorem iX3_take_3 : zSnd zZC zmX3_take 3 (o_icmp (fun x y => x = y) 25 6) := s_icmp_eq (off := 22) (by decide +kernel) (by decide +kernel)
theorem iX3_take_6 : zSnd zZC zmX3_take 6 (o_aload 0 7) := s_aload_n (k := 0) (by decide +kernel) rfl
theorem iX3_take_7 : zSnd zZC zmX3_take 7 (o_getf zYC 5 5 10) := s_getf zcX3 fX3_29 (by decide +kernel) (by decide +kernel)
theorem iX3_take_10 : zSnd zZC zmX3_take 10 (o_if0 (fun x => x < 0) 25 13) := s_if_lt (off := 15) (by decide +kernel) (by decide +kernel)
theorem iX3_take_13 : zSnd zZC zmX3_take 13 (o_aload 0 14) := s_aload_n (k := 0) (by decide +kernel) rfl
theorem iX3_take_14 : zSnd zZC zmX3_take 14 (o_getf zYC 5 5 17) := s_getf zcX3 fX3_29 (by decide +kernel) (by decide +kernel)
theorem iX3_take_17 : zSnd zZC zmX3_take 17 (o_aload 0 18) := s_aload_n (k := 0) (by decide +kernel) rfl
theorem iX3_take_18 : zSnd zZC zmX3_take 18 (o_getf zYC 5 2 21) := s_getf zcX3 fX3_18 (by decide +kernel) (by decide +kernel)
theorem iX3_take_21 : zSnd zZC zmX3_take 21 (o_alen zYC 22) := s_alen zYC_arr (by decide +kernel)
theorem iX3_take_22 : zSnd zZC zmX3_take 22 (o_icmp (fun x y => x < y) 28 25) := s_icmp_lt (off := 6) (by decide +kernel) (by decide +kernel)
theorem iX3_take_25 : zSnd zZC zmX3_take 25 (o_ic 64 27) := s_bipush (i := 64) (by decide +kernel) (by decide +kernel)
theorem iX3_take_27 : zSnd zZC zmX3_take 27 (o_iret) := s_iret rfl (by decide +kernel)
theorem iX3_take_28 : zSnd zZC zmX3_take 28 (o_aload 0 29) := s_aload_n (k := 0) (by decide +kernel) rfl
theorem iX3_take_29 : zSnd zZC zmX3_take 29 (o_getf zYC 5 6 32) := s_getf zcX3 fX3_33 (by decide +kernel) (by decide +kernel)
theorem iX3_take_32 : zSnd zZC zmX3_take 32 (o_aload 0 33) := s_aload_n (k := 0) (by decide +kernel) rfl
theorem iX3_take_33 : zSnd zZC zmX3_take 33 (o_getf zYC 5 2 36) := s_getf zcX3 fX3_18 (by decide +kernel) (by decide +kernel)
theorem iX3_take_36 : zSnd zZC zmX3_take 36 (o_aload 0 37) := s_aload_n (k := 0) (by decide +kernel) rfl
theorem iX3_take_37 : zSnd zZC zmX3_take 37 (o_getf zYC 5 5 40) := s_getf zcX3 fX3_29 (by decide +kernel) (by decide +kernel)
theorem iX3_take_40 : zSnd zZC zmX3_take 40 (o_ald zYC .int 41) := s_iald (by decide +kernel)
theorem iX3_take_41 : zSnd zZC zmX3_take 41 (o_icmp (fun x y => x ≤ y) 64 44) := s_icmp_le (off := 23) (by decide +kernel) (by decide +kernel)
theorem iX3_take_44 : zSnd zZC zmX3_take 44 (o_aload 0 45) := s_aload_n (k := 0) (by decide +kernel) rfl
theorem iX3_take_45 : zSnd zZC zmX3_take 45 (o_getf zYC 5 6 48) := s_getf zcX3 fX3_33 (by decide +kernel) (by decide +kernel)
theorem iX3_take_48 : zSnd zZC zmX3_take 48 (o_ic 1 49) := s_iconst (i := 1) (by decide +kernel) (by decide +kernel)
theorem iX3_take_49 : zSnd zZC zmX3_take 49 (o_icmp (fun x y => x < y) 64 52) := s_icmp_lt (off := 15) (by decide +kernel) (by decide +kernel)
theorem iX3_take_52 : zSnd zZC zmX3_take 52 (o_aload 0 53) := s_aload_n (k := 0) (by decide +kernel) rfl
theorem iX3_take_53 : zSnd zZC zmX3_take 53 (o_getf zYC 5 6 56) := s_getf zcX3 fX3_33 (by decide +kernel) (by decide +kernel)
theorem iX3_take_56 : zSnd zZC zmX3_take 56 (o_aload 0 57) := s_aload_n (k := 0) (by decide +kernel) rfl
theorem iX3_take_57 : zSnd zZC zmX3_take 57 (o_getf zYC 5 4 60) := s_getf zcX3 fX3_25 (by decide +kernel) (by decide +kernel)
theorem iX3_take_60 : zSnd zZC zmX3_take 60 (o_alen zYC 61) := s_alen zYC_arr (by decide +kernel)
theorem iX3_take_61 : zSnd zZC zmX3_take 61 (o_icmp (fun x y => x ≤ y) 94 64) := s_icmp_le (off := 33) (by decide +kernel) (by decide +kernel)
theorem iX3_take_64 : zSnd zZC zmX3_take 64 (o_aload 0 65) := s_aload_n (k := 0) (by decide +kernel) rfl
theorem iX3_take_65 : zSnd zZC zmX3_take 65 (o_aload 0 66) := s_aload_n (k := 0) (by decide +kernel) rfl
theorem iX3_take_66 : zSnd zZC zmX3_take 66 (o_getf zYC 5 7 69) := s_getf zcX3 fX3_44 (by decide +kernel) (by decide +kernel)
theorem iX3_take_69 : zSnd zZC zmX3_take 69 (o_if0 (fun x => x = 0) 88 72) := s_if_eq (off := 19) (by decide +kernel) (by decide +kernel)
theorem iX3_take_72 : zSnd zZC zmX3_take 72 (o_aload 0 73) := s_aload_n (k := 0) (by decide +kernel) rfl
theorem iX3_take_73 : zSnd zZC zmX3_take 73 (o_getf zYC 5 3 76) := s_getf zcX3 fX3_21 (by decide +kernel) (by decide +kernel)
theorem iX3_take_76 : zSnd zZC zmX3_take 76 (o_aload 0 77) := s_aload_n (k := 0) (by decide +kernel) rfl
theorem iX3_take_77 : zSnd zZC zmX3_take 77 (o_getf zYC 5 5 80) := s_getf zcX3 fX3_29 (by decide +kernel) (by decide +kernel)
theorem iX3_take_80 : zSnd zZC zmX3_take 80 (o_ald zYC .boolean 81) := s_zald (by decide +kernel)
theorem iX3_take_81 : zSnd zZC zmX3_take 81 (o_if0 (fun x => x = 0) 88 84) := s_if_eq (off := 7) (by decide +kernel) (by decide +kernel)
theorem iX3_take_84 : zSnd zZC zmX3_take 84 (o_ic 1 85) := s_iconst (i := 1) (by decide +kernel) (by decide +kernel)
theorem iX3_take_85 : zSnd zZC zmX3_take 85 (o_goto 89) := s_goto (off := 4) (by decide +kernel) (by decide +kernel)
theorem iX3_take_88 : zSnd zZC zmX3_take 88 (o_ic 0 89) := s_iconst (i := 0) (by decide +kernel) (by decide +kernel)
theorem iX3_take_89 : zSnd zZC zmX3_take 89 (o_putZ zYC 5 7 92) := s_putZ zcX3 fX3_44 (by decide +kernel) rfl rfl (by decide +kernel)
theorem iX3_take_92 : zSnd zZC zmX3_take 92 (o_ic 0 93) := s_iconst (i := 0) (by decide +kernel) (by decide +kernel)
theorem iX3_take_93 : zSnd zZC zmX3_take 93 (o_iret) := s_iret rfl (by decide +kernel)
theorem iX3_take_94 : zSnd zZC zmX3_take 94 (o_aload 0 95) := s_aload_n (k := 0) (by decide +kernel) rfl
theorem iX3_take_95 : zSnd zZC zmX3_take 95 (o_dup 96) := s_dup (by decide +kernel)
theorem iX3_take_96 : zSnd zZC zmX3_take 96 (o_getf zYC 5 6 99) := s_getf zcX3 fX3_33 (by decide +kernel) (by decide +kernel)
theorem iX3_take_99 : zSnd zZC zmX3_take 99 (o_ic 1 100) := s_iconst (i := 1) (by decide +kernel) (by decide +kernel)
theorem iX3_take_100 : zSnd zZC zmX3_take 100 (o_ibin (fun x y => x - y) 101) := s_isub (by decide +kernel)
theorem iX3_take_101 : zSnd zZC zmX3_take 101 (o_putI zYC 5 6 104) := s_putI zcX3 fX3_33 (by decide +kernel) rfl rfl (by decide +kernel)
theorem iX3_take_104 : zSnd zZC zmX3_take 104 (o_aload 0 105) := s_aload_n (k := 0) (by decide +kernel) rfl
theorem iX3_take_105 : zSnd zZC zmX3_take 105 (o_getf zYC 5 4 108) := s_getf zcX3 fX3_25 (by decide +kernel) (by decide +kernel)
theorem iX3_take_108 : zSnd zZC zmX3_take 108 (o_aload 0 109) := s_aload_n (k := 0) (by decide +kernel) rfl
theorem iX3_take_109 : zSnd zZC zmX3_take 109 (o_getf zYC 5 6 112) := s_getf zcX3 fX3_33 (by decide +kernel) (by decide +kernel)
theorem iX3_take_112 : zSnd zZC zmX3_take 112 (o_ald zYC .byte 113) := s_bald (by decide +kernel)
theorem iX3_take_113 : zSnd zZC zmX3_take 113 (o_istore 2 114) := s_istore_n (k := 2) (by decide +kernel) rfl (by decide +kernel)
theorem iX3_take_114 : zSnd zZC zmX3_take 114 (o_aload 0 115) := s_aload_n (k := 0) (by decide +kernel) rfl
theorem iX3_take_115 : zSnd zZC zmX3_take 115 (o_aload 0 116) := s_aload_n (k := 0) (by decide +kernel) rfl
theorem iX3_take_116 : zSnd zZC zmX3_take 116 (o_getf zYC 5 7 119) := s_getf zcX3 fX3_44 (by decide +kernel) (by decide +kernel)
theorem iX3_take_119 : zSnd zZC zmX3_take 119 (o_if0 (fun x => x = 0) 139 122) := s_if_eq (off := 20) (by decide +kernel) (by decide +kernel)
theorem iX3_take_122 : zSnd zZC zmX3_take 122 (o_iload 2 123) := s_iload_n (k := 2) (by decide +kernel) rfl
theorem iX3_take_123 : zSnd zZC zmX3_take 123 (o_iload 1 124) := s_iload_n (k := 1) (by decide +kernel) rfl
theorem iX3_take_124 : zSnd zZC zmX3_take 124 (o_icmp (fun x y => x = y) 135 127) := s_icmp_eq (off := 11) (by decide +kernel) (by decide +kernel)
theorem iX3_take_127 : zSnd zZC zmX3_take 127 (o_iload 2 128) := s_iload_n (k := 2) (by decide +kernel) rfl
theorem iX3_take_128 : zSnd zZC zmX3_take 128 (o_if0 (fun x => x = 0) 135 131) := s_if_eq (off := 7) (by decide +kernel) (by decide +kernel)
theorem iX3_take_131 : zSnd zZC zmX3_take 131 (o_iload 1 132) := s_iload_n (k := 1) (by decide +kernel) rfl
theorem iX3_take_132 : zSnd zZC zmX3_take 132 (o_if0 (fun x => x = 0) 135 139) := s_if_ne (off := 7) (by decide +kernel) (by decide +kernel)
theorem iX3_take_135 : zSnd zZC zmX3_take 135 (o_ic 1 136) := s_iconst (i := 1) (by decide +kernel) (by decide +kernel)
theorem iX3_take_136 : zSnd zZC zmX3_take 136 (o_goto 140) := s_goto (off := 4) (by decide +kernel) (by decide +kernel)
theorem iX3_take_139 : zSnd zZC zmX3_take 139 (o_ic 0 140) := s_iconst (i := 0) (by decide +kernel) (by decide +kernel)
theorem iX3_take_140 : zSnd zZC zmX3_take 140 (o_putZ zYC 5 7 143) := s_putZ zcX3 fX3_44 (by decide +kernel) rfl rfl (by decide +kernel)
theorem iX3_take_143 : zSnd zZC zmX3_take 143 (o_iload 2 144) := s_iload_n (k := 2) (by decide +kernel) rfl
theorem iX3_take_144 : zSnd zZC zmX3_take 144 (o_iret) := s_iret rfl (by decide +kernel)
def kX3_take : List (Nat × zOp) := [(0, o_iload 1 1),
  (1, o_ic 64 3),
  (3, o_icmp (fun x y => x = y) 25 6),
  (6, o_aload 0 7),
  (7, o_getf zYC 5 5 10),
  (10, o_if0 (fun x => x < 0) 25 13),
  (13, o_aload 0 14),
  (14, o_getf zYC 5 5 17),
  (17, o_aload 0 18),
  (18, o_getf zYC 5 2 21),
  (21, o_alen zYC 22),
  (22, o_icmp (fun x y => x < y) 28 25),
  (25, o_ic 64 27),
  (27, o_iret),
  (28, o_aload 0 29),
  (29, o_getf zYC 5 6 32),
  (32, o_aload 0 33),
  (33, o_getf zYC 5 2 36),
  (36, o_aload 0 37),
  (37, o_getf zYC 5 5 40),
  (40, o_ald zYC .int 41),
  (41, o_icmp (fun x y => x ≤ y) 64 44),
  (44, o_aload 0 45),
  (45, o_getf zYC 5 6 48),
  (48, o_ic 1 49),
  (49, o_icmp (fun x y => x < y) 64 52),
  (52, o_aload 0 53),
  (53, o_getf zYC 5 6 56),
  (56, o_aload 0 57),
  (57, o_getf zYC 5 4 60),
  (60, o_alen zYC 61),
  (61, o_icmp (fun x y => x ≤ y) 94 64),
  (64, o_aload 0 65),
  (65, o_aload 0 66),
  (66, o_getf zYC 5 7 69),
  (69, o_if0 (fun x => x = 0) 88 72),
  (72, o_aload 0 73),
  (73, o_getf zYC 5 3 76),
  (76, o_aload 0 77),
  (77, o_getf zYC 5 5 80),
  (80, o_ald zYC .boolean 81),
  (81, o_if0 (fun x => x = 0) 88 84),
  (84, o_ic 1 85),
  (85, o_goto 89),
  (88, o_ic 0 89),
  (89, o_putZ zYC 5 7 92),
  (92, o_ic 0 93),
  (93, o_iret),
  (94, o_aload 0 95),
  (95, o_dup 96),
  (96, o_getf zYC 5 6 99),
  (99, o_ic 1 100),
  (100, o_ibin (fun x y => x - y) 101),
  (101, o_putI zYC 5 6 104),
  (104, o_aload 0 105),
  (105, o_getf zYC 5 4 108),
  (108, o_aload 0 109),
  (109, o_getf zYC 5 6 112),
  (112, o_ald zYC .byte 113),
  (113, o_istore 2 114),
  (114, o_aload 0 115),
  (115, o_aload 0 116),
  (116, o_getf zYC 5 7 119),
  (119, o_if0 (fun x => x = 0) 139 122),
  (122, o_iload 2 123),
  (123, o_iload 1 124),
  (124, o_icmp (fun x y => x = y) 135 127),
  (127, o_iload 2 128),
  (128, o_if0 (fun x => x = 0) 135 131),
  (131, o_iload 1 132),
  (132, o_if0 (fun x => x = 0) 135 139),
  (135, o_ic 1 136),
  (136, o_goto 140),
  (139, o_ic 0 140),
  (140, o_putZ zYC 5 7 143),
  (143, o_iload 2 144),
  (144, o_iret)]
set_option maxRecDepth 100000 in
theorem ksX3_take : ∀ q ∈ kX3_take, zSnd zZC zmX3_take q.1 q.2 := zcc iX3_take_0 (zcc iX3_take_1 (zcc iX3_take_3 (zcc iX3_take_6 (zcc iX3_take_7 (zcc iX3_take_10 (zcc iX3_take_13 (zcc iX3_take_14 (zcc iX3_take_17 (zcc iX3_take_18 (zcc iX3_take_21 (zcc iX3_take_22 (zcc iX3_take_25 (zcc iX3_take_27 (zcc iX3_take_28 (zcc iX3_take_29 (zcc iX3_take_32 (zcc iX3_take_33 (zcc iX3_take_36 (zcc iX3_take_37 (zcc iX3_take_40 (zcc iX3_take_41 (zcc iX3_take_44 (zcc iX3_take_45 (zcc iX3_take_48 (zcc iX3_take_49 (zcc iX3_take_52 (zcc iX3_take_53 (zcc iX3_take_56 (zcc iX3_take_57 (zcc iX3_take_60 (zcc iX3_take_61 (zcc iX3_take_64 (zcc iX3_take_65 (zcc iX3_take_66 (zcc iX3_take_69 (zcc iX3_take_72 (zcc iX3_take_73 (zcc iX3_take_76 (zcc iX3_take_77 (zcc iX3_take_80 (zcc iX3_take_81 (zcc iX3_take_84 (zcc iX3_take_85 (zcc iX3_take_88 (zcc iX3_take_89 (zcc iX3_take_92 (zcc iX3_take_93 (zcc iX3_take_94 (zcc iX3_take_95 (zcc iX3_take_96 (zcc iX3_take_99 (zcc iX3_take_100 (zcc iX3_take_101 (zcc iX3_take_104 (zcc iX3_take_105 (zcc iX3_take_108 (zcc iX3_take_109 (zcc iX3_take_112 (zcc iX3_take_113 (zcc iX3_take_114 (zcc iX3_take_115 (zcc iX3_take_116 (zcc iX3_take_119 (zcc iX3_take_122 (zcc iX3_take_123 (zcc iX3_take_124 (zcc iX3_take_127 (zcc iX3_take_128 (zcc iX3_take_131 (zcc iX3_take_132 (zcc iX3_take_135 (zcc iX3_take_136 (zcc iX3_take_139 (zcc iX3_take_140 (zcc iX3_take_143 (zcc iX3_take_144 zcn))))))))))))))))))))))))))))))))))))))))))))))))))))))))))))))))))))))))))))
theorem iX3_turnToElse_0 : zSnd zZC zmX3_turnToElse 0 (o_aload 0 1) := s_aload_n (k := 0) (by decide +kernel) rfl
theorem iX3_turnToElse_1 : zSnd zZC zmX3_turnToElse 1 (o_getf zYC 5 5 4) := s_getf zcX3 fX3_29 (by decide +kernel) (by decide +kernel)
theorem iX3_turnToElse_4 : zSnd zZC zmX3_turnToElse 4 (o_if0 (fun x => x < 0) 52 7) := s_if_lt (off := 48) (by decide +kernel) (by decide +kernel)
theorem iX3_turnToElse_7 : zSnd zZC zmX3_turnToElse 7 (o_aload 0 8) := s_aload_n (k := 0) (by decide +kernel) rfl
theorem iX3_turnToElse_8 : zSnd zZC zmX3_turnToElse 8 (o_getf zYC 5 5 11) := s_getf zcX3 fX3_29 (by decide +kernel) (by decide +kernel)
theorem iX3_turnToElse_11 : zSnd zZC zmX3_turnToElse 11 (o_aload 0 12) := s_aload_n (k := 0) (by decide +kernel) rfl
theorem iX3_turnToElse_12 : zSnd zZC zmX3_turnToElse 12 (o_getf zYC 5 0 15) := s_getf zcX3 fX3_9 (by decide +kernel) (by decide +kernel)
theorem iX3_turnToElse_15 : zSnd zZC zmX3_turnToElse 15 (o_alen zYC 16) := s_alen zYC_arr (by decide +kernel)
theorem iX3_turnToElse_16 : zSnd zZC zmX3_turnToElse 16 (o_icmp (fun x y => y ≤ x) 52 19) := s_icmp_ge (off := 36) (by decide +kernel) (by decide +kernel)
theorem iX3_turnToElse_19 : zSnd zZC zmX3_turnToElse 19 (o_aload 0 20) := s_aload_n (k := 0) (by decide +kernel) rfl
theorem iX3_turnToElse_20 : zSnd zZC zmX3_turnToElse 20 (o_getf zYC 5 0 23) := s_getf zcX3 fX3_9 (by decide +kernel) (by decide +kernel)
theorem iX3_turnToElse_23 : zSnd zZC zmX3_turnToElse 23 (o_aload 0 24) := s_aload_n (k := 0) (by decide +kernel) rfl
theorem iX3_turnToElse_24 : zSnd zZC zmX3_turnToElse 24 (o_getf zYC 5 5 27) := s_getf zcX3 fX3_29 (by decide +kernel) (by decide +kernel)
theorem iX3_turnToElse_27 : zSnd zZC zmX3_turnToElse 27 (o_ic 5 28) := s_iconst (i := 5) (by decide +kernel) (by decide +kernel)
theorem iX3_turnToElse_28 : zSnd zZC zmX3_turnToElse 28 (o_ast zYC .int (fun x => x) 29) := s_iast (by decide +kernel)
theorem iX3_turnToElse_29 : zSnd zZC zmX3_turnToElse 29 (o_aload 0 30) := s_aload_n (k := 0) (by decide +kernel) rfl
theorem iX3_turnToElse_30 : zSnd zZC zmX3_turnToElse 30 (o_aload 0 31) := s_aload_n (k := 0) (by decide +kernel) rfl
theorem iX3_turnToElse_31 : zSnd zZC zmX3_turnToElse 31 (o_getf zYC 5 2 34) := s_getf zcX3 fX3_18 (by decide +kernel) (by decide +kernel)
theorem iX3_turnToElse_34 : zSnd zZC zmX3_turnToElse 34 (o_aload 0 35) := s_aload_n (k := 0) (by decide +kernel) rfl
theorem iX3_turnToElse_35 : zSnd zZC zmX3_turnToElse 35 (o_getf zYC 5 5 38) := s_getf zcX3 fX3_29 (by decide +kernel) (by decide +kernel)
theorem iX3_turnToElse_38 : zSnd zZC zmX3_turnToElse 38 (o_ald zYC .int 39) := s_iald (by decide +kernel)
theorem iX3_turnToElse_39 : zSnd zZC zmX3_turnToElse 39 (o_putI zYC 5 6 42) := s_putI zcX3 fX3_33 (by decide +kernel) rfl rfl (by decide +kernel)
theorem iX3_turnToElse_42 : zSnd zZC zmX3_turnToElse 42 (o_aload 0 43) := s_aload_n (k := 0) (by decide +kernel) rfl
theorem iX3_turnToElse_43 : zSnd zZC zmX3_turnToElse 43 (o_getf zYC 5 3 46) := s_getf zcX3 fX3_21 (by decide +kernel) (by decide +kernel)
theorem iX3_turnToElse_46 : zSnd zZC zmX3_turnToElse 46 (o_aload 0 47) := s_aload_n (k := 0) (by decide +kernel) rfl
theorem iX3_turnToElse_47 : zSnd zZC zmX3_turnToElse 47 (o_getf zYC 5 5 50) := s_getf zcX3 fX3_29 (by decide +kernel) (by decide +kernel)
theorem iX3_turnToElse_50 : zSnd zZC zmX3_turnToElse 50 (o_ic 0 51) := s_iconst (i := 0) (by decide +kernel) (by decide +kernel)
theorem iX3_turnToElse_51 : zSnd zZC zmX3_turnToElse 51 (o_ast zYC .boolean (fun x => vp_nar .boolean x) 52) := s_zast (by decide +kernel)
theorem iX3_turnToElse_52 : zSnd zZC zmX3_turnToElse 52 (o_vret) := s_vret rfl (by decide +kernel)
def kX3_turnToElse : List (Nat × zOp) := [(0, o_aload 0 1),
  (1, o_getf zYC 5 5 4),
  (4, o_if0 (fun x => x < 0) 52 7),
  (7, o_aload 0 8),
  (8, o_getf zYC 5 5 11),
  (11, o_aload 0 12),
  (12, o_getf zYC 5 0 15),
  (15, o_alen zYC 16),
  (16, o_icmp (fun x y => y ≤ x) 52 19),
  (19, o_aload 0 20),
  (20, o_getf zYC 5 0 23),
  (23, o_aload 0 24),
  (24, o_getf zYC 5 5 27),
  (27, o_ic 5 28),
  (28, o_ast zYC .int (fun x => x) 29),
  (29, o_aload 0 30),
  (30, o_aload 0 31),
  (31, o_getf zYC 5 2 34),
  (34, o_aload 0 35),
  (35, o_getf zYC 5 5 38),
  (38, o_ald zYC .int 39),
  (39, o_putI zYC 5 6 42),
  (42, o_aload 0 43),
  (43, o_getf zYC 5 3 46),
  (46, o_aload 0 47),
  (47, o_getf zYC 5 5 50),
  (50, o_ic 0 51),
  (51, o_ast zYC .boolean (fun x => vp_nar .boolean x) 52),
  (52, o_vret)]
set_option maxRecDepth 100000 in
theorem ksX3_turnToElse : ∀ q ∈ kX3_turnToElse, zSnd zZC zmX3_turnToElse q.1 q.2 := zcc iX3_turnToElse_0 (zcc iX3_turnToElse_1 (zcc iX3_turnToElse_4 (zcc iX3_turnToElse_7 (zcc iX3_turnToElse_8 (zcc iX3_turnToElse_11 (zcc iX3_turnToElse_12 (zcc iX3_turnToElse_15 (zcc iX3_turnToElse_16 (zcc iX3_turnToElse_19 (zcc iX3_turnToElse_20 (zcc iX3_turnToElse_23 (zcc iX3_turnToElse_24 (zcc iX3_turnToElse_27 (zcc iX3_turnToElse_28 (zcc iX3_turnToElse_29 (zcc iX3_turnToElse_30 (zcc iX3_turnToElse_31 (zcc iX3_turnToElse_34 (zcc iX3_turnToElse_35 (zcc iX3_turnToElse_38 (zcc iX3_turnToElse_39 (zcc iX3_turnToElse_42 (zcc iX3_turnToElse_43 (zcc iX3_turnToElse_46 (zcc iX3_turnToElse_47 (zcc iX3_turnToElse_50 (zcc iX3_turnToElse_51 (zcc iX3_turnToElse_52 zcn))))))))))))))))))))))))))))
theorem iX4_add_0 : zSnd zZC zmX4_add 0 (o_ic 24 2) := s_bipush (i := 24) (by decide +kernel) (by decide +kernel)
theorem iX4_add_2 : zSnd zZC zmX4_add 2 (o_istore 2 3) := s_istore_n (k := 2) (by decide +kernel) rfl (by decide +kernel)
theorem iX4_add_3 : zSnd zZC zmX4_add 3 (o_iload 2 4) := s_iload_n (k := 2) (by decide +kernel) rfl
theorem iX4_add_4 : zSnd zZC zmX4_add 4 (o_if0 (fun x => x < 0) 55 7) := s_if_lt (off := 51) (by decide +kernel) (by decide +kernel)
theorem iX4_add_7 : zSnd zZC zmX4_add 7 (o_aload 0 8) := s_aload_n (k := 0) (by decide +kernel) rfl
theorem iX4_add_8 : zSnd zZC zmX4_add 8 (o_getf zYC 1 1 11) := s_getf zcX4 fX4_15 (by decide +kernel) (by decide +kernel)
theorem iX4_add_11 : zSnd zZC zmX4_add 11 (o_if0 (fun x => x < 0) 49 14) := s_if_lt (off := 38) (by decide +kernel) (by decide +kernel)
theorem iX4_add_14 : zSnd zZC zmX4_add 14 (o_aload 0 15) := s_aload_n (k := 0) (by decide +kernel) rfl
theorem iX4_add_15 : zSnd zZC zmX4_add 15 (o_getf zYC 1 1 18) := s_getf zcX4 fX4_15 (by decide +kernel) (by decide +kernel)
theorem iX4_add_18 : zSnd zZC zmX4_add 18 (o_aload 0 19) := s_aload_n (k := 0) (by decide +kernel) rfl
theorem iX4_add_19 : zSnd zZC zmX4_add 19 (o_getf zYC 1 0 22) := s_getf zcX4 fX4_9 (by decide +kernel) (by decide +kernel)
theorem iX4_add_22 : zSnd zZC zmX4_add 22 (o_alen zYC 23) := s_alen zYC_arr (by decide +kernel)
theorem iX4_add_23 : zSnd zZC zmX4_add 23 (o_icmp (fun x y => y ≤ x) 49 26) := s_icmp_ge (off := 26) (by decide +kernel) (by decide +kernel)
theorem iX4_add_26 : zSnd zZC zmX4_add 26 (o_aload 0 27) := s_aload_n (k := 0) (by decide +kernel) rfl
theorem iX4_add_27 : zSnd zZC zmX4_add 27 (o_getf zYC 1 0 30) := s_getf zcX4 fX4_9 (by decide +kernel) (by decide +kernel)
theorem iX4_add_30 : zSnd zZC zmX4_add 30 (o_aload 0 31) := s_aload_n (k := 0) (by decide +kernel) rfl
theorem iX4_add_31 : zSnd zZC zmX4_add 31 (o_getf zYC 1 1 34) := s_getf zcX4 fX4_15 (by decide +kernel) (by decide +kernel)
theorem iX4_add_34 : zSnd zZC zmX4_add 34 (o_iload 1 35) := s_iload_n (k := 1) (by decide +kernel) rfl
theorem iX4_add_35 : zSnd zZC zmX4_add 35 (o_iload 2 36) := s_iload_n (k := 2) (by decide +kernel) rfl
theorem iX4_add_36 : zSnd zZC zmX4_add 36 (o_ibin (fun x y => (x.toUInt32 >>> (y.toUInt32 &&& Int32.toUInt32 31)).toInt32) 37) := s_iushr (by decide +kernel)
theorem iX4_add_37 : zSnd zZC zmX4_add 37 (o_iun (fun x => x.toInt8.toInt32) 38) := s_i2b (by decide +kernel)
theorem iX4_add_38 : zSnd zZC zmX4_add 38 (o_ast zYC .byte (fun x => vp_nar .byte x) 39) := s_bast (by decide +kernel)
theorem iX4_add_39 : zSnd zZC zmX4_add 39 (o_aload 0 40) := s_aload_n (k := 0) (by decide +kernel) rfl
theorem iX4_add_40 : zSnd zZC zmX4_add 40 (o_dup 41) := s_dup (by decide +kernel)
theorem iX4_add_41 : zSnd zZC zmX4_add 41 (o_getf zYC 1 1 44) := s_getf zcX4 fX4_15 (by decide +kernel) (by decide +kernel)
theorem iX4_add_44 : zSnd zZC zmX4_add 44 (o_ic 1 45) := s_iconst (i := 1) (by decide +kernel) (by decide +kernel)
theorem iX4_add_45 : zSnd zZC zmX4_add 45 (o_ibin (fun x y => x + y) 46) := s_iadd (by decide +kernel)
theorem iX4_add_46 : zSnd zZC zmX4_add 46 (o_putI zYC 1 1 49) := s_putI zcX4 fX4_15 (by decide +kernel) rfl rfl (by decide +kernel)
theorem iX4_add_49 : zSnd zZC zmX4_add 49 (o_iinc 2 (-8) 52) := s_iinc (a := (-8)) (by decide +kernel) (by decide +kernel) (by decide +kernel)
theorem iX4_add_52 : zSnd zZC zmX4_add 52 (o_goto 3) := s_goto (off := (-49)) (by decide +kernel) (by decide +kernel)
theorem iX4_add_55 : zSnd zZC zmX4_add 55 (o_vret) := s_vret rfl (by decide +kernel)
def kX4_add : List (Nat × zOp) := [(0, o_ic 24 2),
  (2, o_istore 2 3),
  (3, o_iload 2 4),
  (4, o_if0 (fun x => x < 0) 55 7),
  (7, o_aload 0 8),
  (8, o_getf zYC 1 1 11),
  (11, o_if0 (fun x => x < 0) 49 14),
  (14, o_aload 0 15),
  (15, o_getf zYC 1 1 18),
  (18, o_aload 0 19),
  (19, o_getf zYC 1 0 22),
  (22, o_alen zYC 23),
  (23, o_icmp (fun x y => y ≤ x) 49 26),
  (26, o_aload 0 27),
  (27, o_getf zYC 1 0 30),
  (30, o_aload 0 31),
  (31, o_getf zYC 1 1 34),
  (34, o_iload 1 35),
  (35, o_iload 2 36),
  (36, o_ibin (fun x y => (x.toUInt32 >>> (y.toUInt32 &&& Int32.toUInt32 31)).toInt32) 37),
  (37, o_iun (fun x => x.toInt8.toInt32) 38),
  (38, o_ast zYC .byte (fun x => vp_nar .byte x) 39),
  (39, o_aload 0 40),
  (40, o_dup 41),
  (41, o_getf zYC 1 1 44),
  (44, o_ic 1 45),
  (45, o_ibin (fun x y => x + y) 46),
  (46, o_putI zYC 1 1 49),
  (49, o_iinc 2 (-8) 52),
  (52, o_goto 3),
  (55, o_vret)]
set_option maxRecDepth 100000 in
theorem ksX4_add : ∀ q ∈ kX4_add, zSnd zZC zmX4_add q.1 q.2 := zcc iX4_add_0 (zcc iX4_add_2 (zcc iX4_add_3 (zcc iX4_add_4 (zcc iX4_add_7 (zcc iX4_add_8 (zcc iX4_add_11 (zcc iX4_add_14 (zcc iX4_add_15 (zcc iX4_add_18 (zcc iX4_add_19 (zcc iX4_add_22 (zcc iX4_add_23 (zcc iX4_add_26 (zcc iX4_add_27 (zcc iX4_add_30 (zcc iX4_add_31 (zcc iX4_add_34 (zcc iX4_add_35 (zcc iX4_add_36 (zcc iX4_add_37 (zcc iX4_add_38 (zcc iX4_add_39 (zcc iX4_add_40 (zcc iX4_add_41 (zcc iX4_add_44 (zcc iX4_add_45 (zcc iX4_add_46 (zcc iX4_add_49 (zcc iX4_add_52 (zcc iX4_add_55 zcn))))))))))))))))))))))))))))))
theorem iX4_fail_0 : zSnd zZC zmX4_fail 0 (o_aload 0 1) := s_aload_n (k := 0) (by decide +kernel) rfl
theorem iX4_fail_1 : zSnd zZC zmX4_fail 1 (o_getf zYC 1 4 4) := s_getf zcX4 fX4_25 (by decide +kernel) (by decide +kernel)
theorem iX4_fail_4 : zSnd zZC zmX4_fail 4 (o_if0 (fun x => x = 0) 7 17) := s_if_ne (off := 13) (by decide +kernel) (by decide +kernel)
theorem iX4_fail_7 : zSnd zZC zmX4_fail 7 (o_aload 0 8) := s_aload_n (k := 0) (by decide +kernel) rfl
theorem iX4_fail_8 : zSnd zZC zmX4_fail 8 (o_iload 1 9) := s_iload_n (k := 1) (by decide +kernel) rfl
theorem iX4_fail_9 : zSnd zZC zmX4_fail 9 (o_putI zYC 1 4 12) := s_putI zcX4 fX4_25 (by decide +kernel) rfl rfl (by decide +kernel)
theorem iX4_fail_12 : zSnd zZC zmX4_fail 12 (o_aload 0 13) := s_aload_n (k := 0) (by decide +kernel) rfl
theorem iX4_fail_13 : zSnd zZC zmX4_fail 13 (o_iload 2 14) := s_iload_n (k := 2) (by decide +kernel) rfl
theorem iX4_fail_14 : zSnd zZC zmX4_fail 14 (o_putI zYC 1 5 17) := s_putI zcX4 fX4_28 (by decide +kernel) rfl rfl (by decide +kernel)
theorem iX4_fail_17 : zSnd zZC zmX4_fail 17 (o_vret) := s_vret rfl (by decide +kernel)
def kX4_fail : List (Nat × zOp) := [(0, o_aload 0 1),
  (1, o_getf zYC 1 4 4),
  (4, o_if0 (fun x => x = 0) 7 17),
  (7, o_aload 0 8),
  (8, o_iload 1 9),
  (9, o_putI zYC 1 4 12),
  (12, o_aload 0 13),
  (13, o_iload 2 14),
  (14, o_putI zYC 1 5 17),
  (17, o_vret)]
set_option maxRecDepth 100000 in
theorem ksX4_fail : ∀ q ∈ kX4_fail, zSnd zZC zmX4_fail q.1 q.2 := zcc iX4_fail_0 (zcc iX4_fail_1 (zcc iX4_fail_4 (zcc iX4_fail_7 (zcc iX4_fail_8 (zcc iX4_fail_9 (zcc iX4_fail_12 (zcc iX4_fail_13 (zcc iX4_fail_14 (zcc iX4_fail_17 zcn)))))))))
theorem iX4_octet_0 : zSnd zZC zmX4_octet 0 (o_aload 0 1) := s_aload_n (k := 0) (by decide +kernel) rfl
theorem iX4_octet_1 : zSnd zZC zmX4_octet 1 (o_getf zYC 1 4 4) := s_getf zcX4 fX4_25 (by decide +kernel) (by decide +kernel)
theorem iX4_octet_4 : zSnd zZC zmX4_octet 4 (o_if0 (fun x => x = 0) 9 7) := s_if_eq (off := 5) (by decide +kernel) (by decide +kernel)
theorem iX4_octet_7 : zSnd zZC zmX4_octet 7 (o_ic 0 8) := s_iconst (i := 0) (by decide +kernel) (by decide +kernel)
theorem iX4_octet_8 : zSnd zZC zmX4_octet 8 (o_iret) := s_iret rfl (by decide +kernel)
theorem iX4_octet_9 : zSnd zZC zmX4_octet 9 (o_aload 0 10) := s_aload_n (k := 0) (by decide +kernel) rfl
theorem iX4_octet_10 : zSnd zZC zmX4_octet 10 (o_getf zYC 1 2 13) := s_getf zcX4 fX4_19 (by decide +kernel) (by decide +kernel)
theorem iX4_octet_13 : zSnd zZC zmX4_octet 13 (o_if0 (fun x => x < 0) 39 16) := s_if_lt (off := 26) (by decide +kernel) (by decide +kernel)
theorem iX4_octet_16 : zSnd zZC zmX4_octet 16 (o_aload 0 17) := s_aload_n (k := 0) (by decide +kernel) rfl
theorem iX4_octet_17 : zSnd zZC zmX4_octet 17 (o_getf zYC 1 2 20) := s_getf zcX4 fX4_19 (by decide +kernel) (by decide +kernel)
theorem iX4_octet_20 : zSnd zZC zmX4_octet 20 (o_aload 0 21) := s_aload_n (k := 0) (by decide +kernel) rfl
theorem iX4_octet_21 : zSnd zZC zmX4_octet 21 (o_getf zYC 1 3 24) := s_getf zcX4 fX4_22 (by decide +kernel) (by decide +kernel)
theorem iX4_octet_24 : zSnd zZC zmX4_octet 24 (o_icmp (fun x y => y ≤ x) 39 27) := s_icmp_ge (off := 15) (by decide +kernel) (by decide +kernel)
theorem iX4_octet_27 : zSnd zZC zmX4_octet 27 (o_aload 0 28) := s_aload_n (k := 0) (by decide +kernel) rfl
theorem iX4_octet_28 : zSnd zZC zmX4_octet 28 (o_getf zYC 1 2 31) := s_getf zcX4 fX4_19 (by decide +kernel) (by decide +kernel)
theorem iX4_octet_31 : zSnd zZC zmX4_octet 31 (o_aload 0 32) := s_aload_n (k := 0) (by decide +kernel) rfl
theorem iX4_octet_32 : zSnd zZC zmX4_octet 32 (o_getf zYC 1 0 35) := s_getf zcX4 fX4_9 (by decide +kernel) (by decide +kernel)
theorem iX4_octet_35 : zSnd zZC zmX4_octet 35 (o_alen zYC 36) := s_alen zYC_arr (by decide +kernel)
theorem iX4_octet_36 : zSnd zZC zmX4_octet 36 (o_icmp (fun x y => x < y) 54 39) := s_icmp_lt (off := 18) (by decide +kernel) (by decide +kernel)
theorem iX4_octet_39 : zSnd zZC zmX4_octet 39 (o_aload 0 40) := s_aload_n (k := 0) (by decide +kernel) rfl
theorem iX4_octet_40 : zSnd zZC zmX4_octet 40 (o_ic 1 41) := s_iconst (i := 1) (by decide +kernel) (by decide +kernel)
theorem iX4_octet_41 : zSnd zZC zmX4_octet 41 (o_putI zYC 1 4 44) := s_putI zcX4 fX4_25 (by decide +kernel) rfl rfl (by decide +kernel)
theorem iX4_octet_44 : zSnd zZC zmX4_octet 44 (o_aload 0 45) := s_aload_n (k := 0) (by decide +kernel) rfl
theorem iX4_octet_45 : zSnd zZC zmX4_octet 45 (o_aload 0 46) := s_aload_n (k := 0) (by decide +kernel) rfl
theorem iX4_octet_46 : zSnd zZC zmX4_octet 46 (o_getf zYC 1 3 49) := s_getf zcX4 fX4_22 (by decide +kernel) (by decide +kernel)
theorem iX4_octet_49 : zSnd zZC zmX4_octet 49 (o_putI zYC 1 5 52) := s_putI zcX4 fX4_28 (by decide +kernel) rfl rfl (by decide +kernel)
theorem iX4_octet_52 : zSnd zZC zmX4_octet 52 (o_ic 0 53) := s_iconst (i := 0) (by decide +kernel) (by decide +kernel)
theorem iX4_octet_53 : zSnd zZC zmX4_octet 53 (o_iret) := s_iret rfl (by decide +kernel)
theorem iX4_octet_54 : zSnd zZC zmX4_octet 54 (o_aload 0 55) := s_aload_n (k := 0) (by decide +kernel) rfl
theorem iX4_octet_55 : zSnd zZC zmX4_octet 55 (o_getf zYC 1 0 58) := s_getf zcX4 fX4_9 (by decide +kernel) (by decide +kernel)
theorem iX4_octet_58 : zSnd zZC zmX4_octet 58 (o_aload 0 59) := s_aload_n (k := 0) (by decide +kernel) rfl
theorem iX4_octet_59 : zSnd zZC zmX4_octet 59 (o_getf zYC 1 2 62) := s_getf zcX4 fX4_19 (by decide +kernel) (by decide +kernel)
theorem iX4_octet_62 : zSnd zZC zmX4_octet 62 (o_ald zYC .byte 63) := s_bald (by decide +kernel)
theorem iX4_octet_63 : zSnd zZC zmX4_octet 63 (o_ic 255 66) := s_sipush (i := 255) (by decide +kernel) (by decide +kernel)
theorem iX4_octet_66 : zSnd zZC zmX4_octet 66 (o_ibin (fun x y => x &&& y) 67) := s_iand (by decide +kernel)
theorem iX4_octet_67 : zSnd zZC zmX4_octet 67 (o_istore 1 68) := s_istore_n (k := 1) (by decide +kernel) rfl (by decide +kernel)
theorem iX4_octet_68 : zSnd zZC zmX4_octet 68 (o_aload 0 69) := s_aload_n (k := 0) (by decide +kernel) rfl
theorem iX4_octet_69 : zSnd zZC zmX4_octet 69 (o_dup 70) := s_dup (by decide +kernel)
theorem iX4_octet_70 : zSnd zZC zmX4_octet 70 (o_getf zYC 1 2 73) := s_getf zcX4 fX4_19 (by decide +kernel) (by decide +kernel)
theorem iX4_octet_73 : zSnd zZC zmX4_octet 73 (o_ic 1 74) := s_iconst (i := 1) (by decide +kernel) (by decide +kernel)
theorem iX4_octet_74 : zSnd zZC zmX4_octet 74 (o_ibin (fun x y => x + y) 75) := s_iadd (by decide +kernel)
theorem iX4_octet_75 : zSnd zZC zmX4_octet 75 (o_putI zYC 1 2 78) := s_putI zcX4 fX4_19 (by decide +kernel) rfl rfl (by decide +kernel)
theorem iX4_octet_78 : zSnd zZC zmX4_octet 78 (o_iload 1 79) := s_iload_n (k := 1) (by decide +kernel) rfl
theorem iX4_octet_79 : zSnd zZC zmX4_octet 79 (o_iret) := s_iret rfl (by decide +kernel)
def kX4_octet : List (Nat × zOp) := [(0, o_aload 0 1),
  (1, o_getf zYC 1 4 4),
  (4, o_if0 (fun x => x = 0) 9 7),
  (7, o_ic 0 8),
  (8, o_iret),
  (9, o_aload 0 10),
  (10, o_getf zYC 1 2 13),
  (13, o_if0 (fun x => x < 0) 39 16),
  (16, o_aload 0 17),
  (17, o_getf zYC 1 2 20),
  (20, o_aload 0 21),
  (21, o_getf zYC 1 3 24),
  (24, o_icmp (fun x y => y ≤ x) 39 27),
  (27, o_aload 0 28),
  (28, o_getf zYC 1 2 31),
  (31, o_aload 0 32),
  (32, o_getf zYC 1 0 35),
  (35, o_alen zYC 36),
  (36, o_icmp (fun x y => x < y) 54 39),
  (39, o_aload 0 40),
  (40, o_ic 1 41),
  (41, o_putI zYC 1 4 44),
  (44, o_aload 0 45),
  (45, o_aload 0 46),
  (46, o_getf zYC 1 3 49),
  (49, o_putI zYC 1 5 52),
  (52, o_ic 0 53),
  (53, o_iret),
  (54, o_aload 0 55),
  (55, o_getf zYC 1 0 58),
  (58, o_aload 0 59),
  (59, o_getf zYC 1 2 62),
  (62, o_ald zYC .byte 63),
  (63, o_ic 255 66),
  (66, o_ibin (fun x y => x &&& y) 67),
  (67, o_istore 1 68),
  (68, o_aload 0 69),
  (69, o_dup 70),
  (70, o_getf zYC 1 2 73),
  (73, o_ic 1 74),
  (74, o_ibin (fun x y => x + y) 75),
  (75, o_putI zYC 1 2 78),
  (78, o_iload 1 79),
  (79, o_iret)]
set_option maxRecDepth 100000 in
theorem ksX4_octet : ∀ q ∈ kX4_octet, zSnd zZC zmX4_octet q.1 q.2 := zcc iX4_octet_0 (zcc iX4_octet_1 (zcc iX4_octet_4 (zcc iX4_octet_7 (zcc iX4_octet_8 (zcc iX4_octet_9 (zcc iX4_octet_10 (zcc iX4_octet_13 (zcc iX4_octet_16 (zcc iX4_octet_17 (zcc iX4_octet_20 (zcc iX4_octet_21 (zcc iX4_octet_24 (zcc iX4_octet_27 (zcc iX4_octet_28 (zcc iX4_octet_31 (zcc iX4_octet_32 (zcc iX4_octet_35 (zcc iX4_octet_36 (zcc iX4_octet_39 (zcc iX4_octet_40 (zcc iX4_octet_41 (zcc iX4_octet_44 (zcc iX4_octet_45 (zcc iX4_octet_46 (zcc iX4_octet_49 (zcc iX4_octet_52 (zcc iX4_octet_53 (zcc iX4_octet_54 (zcc iX4_octet_55 (zcc iX4_octet_58 (zcc iX4_octet_59 (zcc iX4_octet_62 (zcc iX4_octet_63 (zcc iX4_octet_66 (zcc iX4_octet_67 (zcc iX4_octet_68 (zcc iX4_octet_69 (zcc iX4_octet_70 (zcc iX4_octet_73 (zcc iX4_octet_74 (zcc iX4_octet_75 (zcc iX4_octet_78 (zcc iX4_octet_79 zcn)))))))))))))))))))))))))))))))))))))))))))
theorem iX4_restart_0 : zSnd zZC zmX4_restart 0 (o_aload 0 1) := s_aload_n (k := 0) (by decide +kernel) rfl
theorem iX4_restart_1 : zSnd zZC zmX4_restart 1 (o_ic 0 2) := s_iconst (i := 0) (by decide +kernel) (by decide +kernel)
theorem iX4_restart_2 : zSnd zZC zmX4_restart 2 (o_putI zYC 1 2 5) := s_putI zcX4 fX4_19 (by decide +kernel) rfl rfl (by decide +kernel)
theorem iX4_restart_5 : zSnd zZC zmX4_restart 5 (o_aload 0 6) := s_aload_n (k := 0) (by decide +kernel) rfl
theorem iX4_restart_6 : zSnd zZC zmX4_restart 6 (o_aload 0 7) := s_aload_n (k := 0) (by decide +kernel) rfl
theorem iX4_restart_7 : zSnd zZC zmX4_restart 7 (o_getf zYC 1 1 10) := s_getf zcX4 fX4_15 (by decide +kernel) (by decide +kernel)
theorem iX4_restart_10 : zSnd zZC zmX4_restart 10 (o_putI zYC 1 3 13) := s_putI zcX4 fX4_22 (by decide +kernel) rfl rfl (by decide +kernel)
theorem iX4_restart_13 : zSnd zZC zmX4_restart 13 (o_aload 0 14) := s_aload_n (k := 0) (by decide +kernel) rfl
theorem iX4_restart_14 : zSnd zZC zmX4_restart 14 (o_ic 0 15) := s_iconst (i := 0) (by decide +kernel) (by decide +kernel)
theorem iX4_restart_15 : zSnd zZC zmX4_restart 15 (o_putI zYC 1 4 18) := s_putI zcX4 fX4_25 (by decide +kernel) rfl rfl (by decide +kernel)
theorem iX4_restart_18 : zSnd zZC zmX4_restart 18 (o_aload 0 19) := s_aload_n (k := 0) (by decide +kernel) rfl
theorem iX4_restart_19 : zSnd zZC zmX4_restart 19 (o_ic (-1) 20) := s_iconst (i := (-1)) (by decide +kernel) (by decide +kernel)
theorem iX4_restart_20 : zSnd zZC zmX4_restart 20 (o_putI zYC 1 5 23) := s_putI zcX4 fX4_28 (by decide +kernel) rfl rfl (by decide +kernel)
theorem iX4_restart_23 : zSnd zZC zmX4_restart 23 (o_vret) := s_vret rfl (by decide +kernel)
def kX4_restart : List (Nat × zOp) := [(0, o_aload 0 1),
  (1, o_ic 0 2),
  (2, o_putI zYC 1 2 5),
  (5, o_aload 0 6),
  (6, o_aload 0 7),
  (7, o_getf zYC 1 1 10),
  (10, o_putI zYC 1 3 13),
  (13, o_aload 0 14),
  (14, o_ic 0 15),
  (15, o_putI zYC 1 4 18),
  (18, o_aload 0 19),
  (19, o_ic (-1) 20),
  (20, o_putI zYC 1 5 23),
  (23, o_vret)]
set_option maxRecDepth 100000 in
theorem ksX4_restart : ∀ q ∈ kX4_restart, zSnd zZC zmX4_restart q.1 q.2 := zcc iX4_restart_0 (zcc iX4_restart_1 (zcc iX4_restart_2 (zcc iX4_restart_5 (zcc iX4_restart_6 (zcc iX4_restart_7 (zcc iX4_restart_10 (zcc iX4_restart_13 (zcc iX4_restart_14 (zcc iX4_restart_15 (zcc iX4_restart_18 (zcc iX4_restart_19 (zcc iX4_restart_20 (zcc iX4_restart_23 zcn)))))))))))))
theorem iX4_sameBytes_0 : zSnd zZC zmX4_sameBytes 0 (o_iload 1 1) := s_iload_n (k := 1) (by decide +kernel) rfl
theorem iX4_sameBytes_1 : zSnd zZC zmX4_sameBytes 1 (o_if0 (fun x => x < 0) 30 4) := s_if_lt (off := 29) (by decide +kernel) (by decide +kernel)
theorem iX4_sameBytes_4 : zSnd zZC zmX4_sameBytes 4 (o_iload 2 5) := s_iload_n (k := 2) (by decide +kernel) rfl
theorem iX4_sameBytes_5 : zSnd zZC zmX4_sameBytes 5 (o_if0 (fun x => x < 0) 30 8) := s_if_lt (off := 25) (by decide +kernel) (by decide +kernel)
theorem iX4_sameBytes_8 : zSnd zZC zmX4_sameBytes 8 (o_iload 1 9) := s_iload_n (k := 1) (by decide +kernel) rfl
theorem iX4_sameBytes_9 : zSnd zZC zmX4_sameBytes 9 (o_aload 0 10) := s_aload_n (k := 0) (by decide +kernel) rfl
theorem iX4_sameBytes_10 : zSnd zZC zmX4_sameBytes 10 (o_getf zYC 1 0 13) := s_getf zcX4 fX4_9 (by decide +kernel) (by decide +kernel)
theorem iX4_sameBytes_13 : zSnd zZC zmX4_sameBytes 13 (o_alen zYC 14) := s_alen zYC_arr (by decide +kernel)
theorem iX4_sameBytes_14 : zSnd zZC zmX4_sameBytes 14 (o_iload 3 15) := s_iload_n (k := 3) (by decide +kernel) rfl
theorem iX4_sameBytes_15 : zSnd zZC zmX4_sameBytes 15 (o_ibin (fun x y => x - y) 16) := s_isub (by decide +kernel)
theorem iX4_sameBytes_16 : zSnd zZC zmX4_sameBytes 16 (o_icmp (fun x y => y < x) 30 19) := s_icmp_gt (off := 14) (by decide +kernel) (by decide +kernel)
theorem iX4_sameBytes_19 : zSnd zZC zmX4_sameBytes 19 (o_iload 2 20) := s_iload_n (k := 2) (by decide +kernel) rfl
theorem iX4_sameBytes_20 : zSnd zZC zmX4_sameBytes 20 (o_aload 0 21) := s_aload_n (k := 0) (by decide +kernel) rfl
theorem iX4_sameBytes_21 : zSnd zZC zmX4_sameBytes 21 (o_getf zYC 1 0 24) := s_getf zcX4 fX4_9 (by decide +kernel) (by decide +kernel)
theorem iX4_sameBytes_24 : zSnd zZC zmX4_sameBytes 24 (o_alen zYC 25) := s_alen zYC_arr (by decide +kernel)
theorem iX4_sameBytes_25 : zSnd zZC zmX4_sameBytes 25 (o_iload 3 26) := s_iload_n (k := 3) (by decide +kernel) rfl
theorem iX4_sameBytes_26 : zSnd zZC zmX4_sameBytes 26 (o_ibin (fun x y => x - y) 27) := s_isub (by decide +kernel)
theorem iX4_sameBytes_27 : zSnd zZC zmX4_sameBytes 27 (o_icmp (fun x y => x ≤ y) 32 30) := s_icmp_le (off := 5) (by decide +kernel) (by decide +kernel)
theorem iX4_sameBytes_30 : zSnd zZC zmX4_sameBytes 30 (o_ic 0 31) := s_iconst (i := 0) (by decide +kernel) (by decide +kernel)
theorem iX4_sameBytes_31 : zSnd zZC zmX4_sameBytes 31 (o_zret) := s_zret rfl (by decide +kernel)
theorem iX4_sameBytes_32 : zSnd zZC zmX4_sameBytes 32 (o_ic 0 33) := s_iconst (i := 0) (by decide +kernel) (by decide +kernel)
theorem iX4_sameBytes_33 : zSnd zZC zmX4_sameBytes 33 (o_istore 4 35) := s_istore (by decide +kernel) (by decide +kernel)
theorem iX4_sameBytes_35 : zSnd zZC zmX4_sameBytes 35 (o_iload 4 37) := s_iload (by decide +kernel)
theorem iX4_sameBytes_37 : zSnd zZC zmX4_sameBytes 37 (o_iload 3 38) := s_iload_n (k := 3) (by decide +kernel) rfl
theorem iX4_sameBytes_38 : zSnd zZC zmX4_sameBytes 38 (o_icmp (fun x y => y ≤ x) 70 41) := s_icmp_ge (off := 32) (by decide +kernel) (by decide +kernel)
theorem iX4_sameBytes_41 : zSnd zZC zmX4_sameBytes 41 (o_aload 0 42) := s_aload_n (k := 0) (by decide +kernel) rfl
theorem iX4_sameBytes_42 : zSnd zZC zmX4_sameBytes 42 (o_getf zYC 1 0 45) := s_getf zcX4 fX4_9 (by decide +kernel) (by decide +kernel)
theorem iX4_sameBytes_45 : zSnd zZC zmX4_sameBytes 45 (o_iload 1 46) := s_iload_n (k := 1) (by decide +kernel) rfl
theorem iX4_sameBytes_46 : zSnd zZC zmX4_sameBytes 46 (o_iload 4 48) := s_iload (by decide +kernel)
theorem iX4_sameBytes_48 : zSnd zZC zmX4_sameBytes 48 (o_ibin (fun x y => x + y) 49) := s_iadd (by decide +kernel)
theorem iX4_sameBytes_49 : zSnd zZC zmX4_sameBytes 49 (o_ald zYC .byte 50) := s_bald (by decide +kernel)
theorem iX4_sameBytes_50 : zSnd zZC zmX4_sameBytes 50 (o_aload 0 51) := s_aload_n (k := 0) (by decide +kernel) rfl
theorem iX4_sameBytes_51 : zSnd zZC zmX4_sameBytes 51 (o_getf zYC 1 0 54) := s_getf zcX4 fX4_9 (by decide +kernel) (by decide +kernel)
theorem iX4_sameBytes_54 : zSnd zZC zmX4_sameBytes 54 (o_iload 2 55) := s_iload_n (k := 2) (by decide +kernel) rfl
theorem iX4_sameBytes_55 : zSnd zZC zmX4_sameBytes 55 (o_iload 4 57) := s_iload (by decide +kernel)
theorem iX4_sameBytes_57 : zSnd zZC zmX4_sameBytes 57 (o_ibin (fun x y => x + y) 58) := s_iadd (by decide +kernel)
theorem iX4_sameBytes_58 : zSnd zZC zmX4_sameBytes 58 (o_ald zYC .byte 59) := s_bald (by decide +kernel)
theorem iX4_sameBytes_59 : zSnd zZC zmX4_sameBytes 59 (o_icmp (fun x y => x = y) 64 62) := s_icmp_eq (off := 5) (by decide +kernel) (by decide +kernel)
theorem iX4_sameBytes_62 : zSnd zZC zmX4_sameBytes 62 (o_ic 0 63) := s_iconst (i := 0) (by decide +kernel) (by decide +kernel)
theorem iX4_sameBytes_63 : zSnd zZC zmX4_sameBytes 63 (o_zret) := s_zret rfl (by decide +kernel)
theorem iX4_sameBytes_64 : zSnd zZC zmX4_sameBytes 64 (o_iinc 4 1 67) := s_iinc (a := 1) (by decide +kernel) (by decide +kernel) (by decide +kernel)
theorem iX4_sameBytes_67 : zSnd zZC zmX4_sameBytes 67 (o_goto 35) := s_goto (off := (-32)) (by decide +kernel) (by decide +kernel)
theorem iX4_sameBytes_70 : zSnd zZC zmX4_sameBytes 70 (o_ic 1 71) := s_iconst (i := 1) (by decide +kernel) (by decide +kernel)
theorem iX4_sameBytes_71 : zSnd zZC zmX4_sameBytes 71 (o_zret) := s_zret rfl (by decide +kernel)
def kX4_sameBytes : List (Nat × zOp) := [(0, o_iload 1 1),
  (1, o_if0 (fun x => x < 0) 30 4),
  (4, o_iload 2 5),
  (5, o_if0 (fun x => x < 0) 30 8),
  (8, o_iload 1 9),
  (9, o_aload 0 10),
  (10, o_getf zYC 1 0 13),
  (13, o_alen zYC 14),
  (14, o_iload 3 15),
  (15, o_ibin (fun x y => x - y) 16),
  (16, o_icmp (fun x y => y < x) 30 19),
  (19, o_iload 2 20),
  (20, o_aload 0 21),
  (21, o_getf zYC 1 0 24),
  (24, o_alen zYC 25),
  (25, o_iload 3 26),
  (26, o_ibin (fun x y => x - y) 27),
  (27, o_icmp (fun x y => x ≤ y) 32 30),
  (30, o_ic 0 31),
  (31, o_zret),
  (32, o_ic 0 33),
  (33, o_istore 4 35),
  (35, o_iload 4 37),
  (37, o_iload 3 38),
  (38, o_icmp (fun x y => y ≤ x) 70 41),
  (41, o_aload 0 42),
  (42, o_getf zYC 1 0 45),
  (45, o_iload 1 46),
  (46, o_iload 4 48),
  (48, o_ibin (fun x y => x + y) 49),
  (49, o_ald zYC .byte 50),
  (50, o_aload 0 51),
  (51, o_getf zYC 1 0 54),
  (54, o_iload 2 55),
  (55, o_iload 4 57),
  (57, o_ibin (fun x y => x + y) 58),
  (58, o_ald zYC .byte 59),
  (59, o_icmp (fun x y => x = y) 64 62),
  (62, o_ic 0 63),
  (63, o_zret),
  (64, o_iinc 4 1 67),
  (67, o_goto 35),
  (70, o_ic 1 71),
  (71, o_zret)]
set_option maxRecDepth 100000 in
theorem ksX4_sameBytes : ∀ q ∈ kX4_sameBytes, zSnd zZC zmX4_sameBytes q.1 q.2 := zcc iX4_sameBytes_0 (zcc iX4_sameBytes_1 (zcc iX4_sameBytes_4 (zcc iX4_sameBytes_5 (zcc iX4_sameBytes_8 (zcc iX4_sameBytes_9 (zcc iX4_sameBytes_10 (zcc iX4_sameBytes_13 (zcc iX4_sameBytes_14 (zcc iX4_sameBytes_15 (zcc iX4_sameBytes_16 (zcc iX4_sameBytes_19 (zcc iX4_sameBytes_20 (zcc iX4_sameBytes_21 (zcc iX4_sameBytes_24 (zcc iX4_sameBytes_25 (zcc iX4_sameBytes_26 (zcc iX4_sameBytes_27 (zcc iX4_sameBytes_30 (zcc iX4_sameBytes_31 (zcc iX4_sameBytes_32 (zcc iX4_sameBytes_33 (zcc iX4_sameBytes_35 (zcc iX4_sameBytes_37 (zcc iX4_sameBytes_38 (zcc iX4_sameBytes_41 (zcc iX4_sameBytes_42 (zcc iX4_sameBytes_45 (zcc iX4_sameBytes_46 (zcc iX4_sameBytes_48 (zcc iX4_sameBytes_49 (zcc iX4_sameBytes_50 (zcc iX4_sameBytes_51 (zcc iX4_sameBytes_54 (zcc iX4_sameBytes_55 (zcc iX4_sameBytes_57 (zcc iX4_sameBytes_58 (zcc iX4_sameBytes_59 (zcc iX4_sameBytes_62 (zcc iX4_sameBytes_63 (zcc iX4_sameBytes_64 (zcc iX4_sameBytes_67 (zcc iX4_sameBytes_70 (zcc iX4_sameBytes_71 zcn)))))))))))))))))))))))))))))))))))))))))))
theorem iX4_skipRest_0 : zSnd zZC zmX4_skipRest 0 (o_aload 0 1) := s_aload_n (k := 0) (by decide +kernel) rfl
theorem iX4_skipRest_1 : zSnd zZC zmX4_skipRest 1 (o_aload 0 2) := s_aload_n (k := 0) (by decide +kernel) rfl
theorem iX4_skipRest_2 : zSnd zZC zmX4_skipRest 2 (o_getf zYC 1 2 5) := s_getf zcX4 fX4_19 (by decide +kernel) (by decide +kernel)
theorem iX4_skipRest_5 : zSnd zZC zmX4_skipRest 5 (o_aload 0 6) := s_aload_n (k := 0) (by decide +kernel) rfl
theorem iX4_skipRest_6 : zSnd zZC zmX4_skipRest 6 (o_getf zYC 1 3 9) := s_getf zcX4 fX4_22 (by decide +kernel) (by decide +kernel)
set_option maxRecDepth 20000 in
theorem iX4_skipRest_9 : zSnd zZC zmX4_skipRest 9 (o_imax 12) := s_imax imaxwC_1 imaxwC_2 imaxwC_3 (zWS4 46 rfl rfl) (by decide +kernel) (by decide +kernel)
theorem iX4_skipRest_12 : zSnd zZC zmX4_skipRest 12 (o_putI zYC 1 2 15) := s_putI zcX4 fX4_19 (by decide +kernel) rfl rfl (by decide +kernel)
theorem iX4_skipRest_15 : zSnd zZC zmX4_skipRest 15 (o_vret) := s_vret rfl (by decide +kernel)
def kX4_skipRest : List (Nat × zOp) := [(0, o_aload 0 1),
  (1, o_aload 0 2),
  (2, o_getf zYC 1 2 5),
  (5, o_aload 0 6),
  (6, o_getf zYC 1 3 9),
  (9, o_imax 12),
  (12, o_putI zYC 1 2 15),
  (15, o_vret)]
set_option maxRecDepth 100000 in
theorem ksX4_skipRest : ∀ q ∈ kX4_skipRest, zSnd zZC zmX4_skipRest q.1 q.2 := zcc iX4_skipRest_0 (zcc iX4_skipRest_1 (zcc iX4_skipRest_2 (zcc iX4_skipRest_5 (zcc iX4_skipRest_6 (zcc iX4_skipRest_9 (zcc iX4_skipRest_12 (zcc iX4_skipRest_15 zcn)))))))
theorem iX5_isOfOneByte_0 : zSnd zZC zmX5_isOfOneByte 0 (o_ic 0 1) := s_iconst (i := 0) (by decide +kernel) (by decide +kernel)
theorem iX5_isOfOneByte_1 : zSnd zZC zmX5_isOfOneByte 1 (o_istore 1 2) := s_istore_n (k := 1) (by decide +kernel) rfl (by decide +kernel)
theorem iX5_isOfOneByte_2 : zSnd zZC zmX5_isOfOneByte 2 (o_iload 1 3) := s_iload_n (k := 1) (by decide +kernel) rfl
theorem iX5_isOfOneByte_3 : zSnd zZC zmX5_isOfOneByte 3 (o_ic 1 4) := s_iconst (i := 1) (by decide +kernel) (by decide +kernel)
theorem iX5_isOfOneByte_4 : zSnd zZC zmX5_isOfOneByte 4 (o_ibin (fun x y => x + y) 5) := s_iadd (by decide +kernel)
set_option maxRecDepth 20000 in
theorem iX5_isOfOneByte_5 : zSnd zZC zmX5_isOfOneByte 5 (o_gets zt_INSTRUCTION_RUNS_k 8) := s_getsN zt_INSTRUCTION_RUNS_Z (zNW3 129 rfl rfl) (by decide +kernel)
theorem iX5_isOfOneByte_8 : zSnd zZC zmX5_isOfOneByte 8 (o_tlen zt_INSTRUCTION_RUNS_n zt_INSTRUCTION_RUNS_k 9) := s_tlen zt_INSTRUCTION_RUNS_T (by decide +kernel)
theorem iX5_isOfOneByte_9 : zSnd zZC zmX5_isOfOneByte 9 (o_icmp (fun x y => y ≤ x) 44 12) := s_icmp_ge (off := 35) (by decide +kernel) (by decide +kernel)
theorem iX5_isOfOneByte_12 : zSnd zZC zmX5_isOfOneByte 12 (o_iload 0 13) := s_iload_n (k := 0) (by decide +kernel) rfl
set_option maxRecDepth 20000 in
theorem iX5_isOfOneByte_13 : zSnd zZC zmX5_isOfOneByte 13 (o_gets zt_INSTRUCTION_RUNS_k 16) := s_getsN zt_INSTRUCTION_RUNS_Z (zNW3 129 rfl rfl) (by decide +kernel)
theorem iX5_isOfOneByte_16 : zSnd zZC zmX5_isOfOneByte 16 (o_iload 1 17) := s_iload_n (k := 1) (by decide +kernel) rfl
theorem iX5_isOfOneByte_17 : zSnd zZC zmX5_isOfOneByte 17 (o_ic 1 18) := s_iconst (i := 1) (by decide +kernel) (by decide +kernel)
theorem iX5_isOfOneByte_18 : zSnd zZC zmX5_isOfOneByte 18 (o_ibin (fun x y => x + y) 19) := s_iadd (by decide +kernel)
theorem iX5_isOfOneByte_19 : zSnd zZC zmX5_isOfOneByte 19 (o_tald zt_INSTRUCTION_RUNS_f zt_INSTRUCTION_RUNS_n zt_INSTRUCTION_RUNS_k 20) := s_tald zt_INSTRUCTION_RUNS_T (by decide +kernel)
theorem iX5_isOfOneByte_20 : zSnd zZC zmX5_isOfOneByte 20 (o_icmp (fun x y => y < x) 38 23) := s_icmp_gt (off := 18) (by decide +kernel) (by decide +kernel)
theorem iX5_isOfOneByte_23 : zSnd zZC zmX5_isOfOneByte 23 (o_iload 0 24) := s_iload_n (k := 0) (by decide +kernel) rfl
set_option maxRecDepth 20000 in
theorem iX5_isOfOneByte_24 : zSnd zZC zmX5_isOfOneByte 24 (o_gets zt_INSTRUCTION_RUNS_k 27) := s_getsN zt_INSTRUCTION_RUNS_Z (zNW3 129 rfl rfl) (by decide +kernel)
theorem iX5_isOfOneByte_27 : zSnd zZC zmX5_isOfOneByte 27 (o_iload 1 28) := s_iload_n (k := 1) (by decide +kernel) rfl
theorem iX5_isOfOneByte_28 : zSnd zZC zmX5_isOfOneByte 28 (o_tald zt_INSTRUCTION_RUNS_f zt_INSTRUCTION_RUNS_n zt_INSTRUCTION_RUNS_k 29) := s_tald zt_INSTRUCTION_RUNS_T (by decide +kernel)
theorem iX5_isOfOneByte_29 : zSnd zZC zmX5_isOfOneByte 29 (o_icmp (fun x y => x < y) 36 32) := s_icmp_lt (off := 7) (by decide +kernel) (by decide +kernel)
theorem iX5_isOfOneByte_32 : zSnd zZC zmX5_isOfOneByte 32 (o_ic 1 33) := s_iconst (i := 1) (by decide +kernel) (by decide +kernel)
theorem iX5_isOfOneByte_33 : zSnd zZC zmX5_isOfOneByte 33 (o_goto 37) := s_goto (off := 4) (by decide +kernel) (by decide +kernel)
theorem iX5_isOfOneByte_36 : zSnd zZC zmX5_isOfOneByte 36 (o_ic 0 37) := s_iconst (i := 0) (by decide +kernel) (by decide +kernel)
theorem iX5_isOfOneByte_37 : zSnd zZC zmX5_isOfOneByte 37 (o_zret) := s_zret rfl (by decide +kernel)
theorem iX5_isOfOneByte_38 : zSnd zZC zmX5_isOfOneByte 38 (o_iinc 1 2 41) := s_iinc (a := 2) (by decide +kernel) (by decide +kernel) (by decide +kernel)
theorem iX5_isOfOneByte_41 : zSnd zZC zmX5_isOfOneByte 41 (o_goto 2) := s_goto (off := (-39)) (by decide +kernel) (by decide +kernel)
theorem iX5_isOfOneByte_44 : zSnd zZC zmX5_isOfOneByte 44 (o_ic 0 45) := s_iconst (i := 0) (by decide +kernel) (by decide +kernel)
theorem iX5_isOfOneByte_45 : zSnd zZC zmX5_isOfOneByte 45 (o_zret) := s_zret rfl (by decide +kernel)
def kX5_isOfOneByte : List (Nat × zOp) := [(0, o_ic 0 1),
  (1, o_istore 1 2),
  (2, o_iload 1 3),
  (3, o_ic 1 4),
  (4, o_ibin (fun x y => x + y) 5),
  (5, o_gets zt_INSTRUCTION_RUNS_k 8),
  (8, o_tlen zt_INSTRUCTION_RUNS_n zt_INSTRUCTION_RUNS_k 9),
  (9, o_icmp (fun x y => y ≤ x) 44 12),
  (12, o_iload 0 13),
  (13, o_gets zt_INSTRUCTION_RUNS_k 16),
  (16, o_iload 1 17),
  (17, o_ic 1 18),
  (18, o_ibin (fun x y => x + y) 19),
  (19, o_tald zt_INSTRUCTION_RUNS_f zt_INSTRUCTION_RUNS_n zt_INSTRUCTION_RUNS_k 20),
  (20, o_icmp (fun x y => y < x) 38 23),
  (23, o_iload 0 24),
  (24, o_gets zt_INSTRUCTION_RUNS_k 27),
  (27, o_iload 1 28),
  (28, o_tald zt_INSTRUCTION_RUNS_f zt_INSTRUCTION_RUNS_n zt_INSTRUCTION_RUNS_k 29),
  (29, o_icmp (fun x y => x < y) 36 32),
  (32, o_ic 1 33),
  (33, o_goto 37),
  (36, o_ic 0 37),
  (37, o_zret),
  (38, o_iinc 1 2 41),
  (41, o_goto 2),
  (44, o_ic 0 45),
  (45, o_zret)]
set_option maxRecDepth 100000 in
theorem ksX5_isOfOneByte : ∀ q ∈ kX5_isOfOneByte, zSnd zZC zmX5_isOfOneByte q.1 q.2 := zcc iX5_isOfOneByte_0 (zcc iX5_isOfOneByte_1 (zcc iX5_isOfOneByte_2 (zcc iX5_isOfOneByte_3 (zcc iX5_isOfOneByte_4 (zcc iX5_isOfOneByte_5 (zcc iX5_isOfOneByte_8 (zcc iX5_isOfOneByte_9 (zcc iX5_isOfOneByte_12 (zcc iX5_isOfOneByte_13 (zcc iX5_isOfOneByte_16 (zcc iX5_isOfOneByte_17 (zcc iX5_isOfOneByte_18 (zcc iX5_isOfOneByte_19 (zcc iX5_isOfOneByte_20 (zcc iX5_isOfOneByte_23 (zcc iX5_isOfOneByte_24 (zcc iX5_isOfOneByte_27 (zcc iX5_isOfOneByte_28 (zcc iX5_isOfOneByte_29 (zcc iX5_isOfOneByte_32 (zcc iX5_isOfOneByte_33 (zcc iX5_isOfOneByte_36 (zcc iX5_isOfOneByte_37 (zcc iX5_isOfOneByte_38 (zcc iX5_isOfOneByte_41 (zcc iX5_isOfOneByte_44 (zcc iX5_isOfOneByte_45 zcn)))))))))))))))))))))))))))
theorem iX6_areMore_0 : zSnd zZC zmX6_areMore 0 (o_aload 0 1) := s_aload_n (k := 0) (by decide +kernel) rfl
theorem iX6_areMore_1 : zSnd zZC zmX6_areMore 1 (o_getf zYC 3 0 4) := s_getf zcX6 fX6_18 (by decide +kernel) (by decide +kernel)
theorem iX6_areMore_4 : zSnd zZC zmX6_areMore 4 (o_getf zYC 1 4 7) := s_getf zcX4 fX6_59 (by decide +kernel) (by decide +kernel)
theorem iX6_areMore_7 : zSnd zZC zmX6_areMore 7 (o_if0 (fun x => x = 0) 10 31) := s_if_ne (off := 24) (by decide +kernel) (by decide +kernel)
theorem iX6_areMore_10 : zSnd zZC zmX6_areMore 10 (o_aload 0 11) := s_aload_n (k := 0) (by decide +kernel) rfl
theorem iX6_areMore_11 : zSnd zZC zmX6_areMore 11 (o_getf zYC 3 0 14) := s_getf zcX6 fX6_18 (by decide +kernel) (by decide +kernel)
theorem iX6_areMore_14 : zSnd zZC zmX6_areMore 14 (o_getf zYC 1 2 17) := s_getf zcX4 fX6_62 (by decide +kernel) (by decide +kernel)
theorem iX6_areMore_17 : zSnd zZC zmX6_areMore 17 (o_aload 0 18) := s_aload_n (k := 0) (by decide +kernel) rfl
theorem iX6_areMore_18 : zSnd zZC zmX6_areMore 18 (o_getf zYC 3 0 21) := s_getf zcX6 fX6_18 (by decide +kernel) (by decide +kernel)
theorem iX6_areMore_21 : zSnd zZC zmX6_areMore 21 (o_getf zYC 1 3 24) := s_getf zcX4 fX6_65 (by decide +kernel) (by decide +kernel)
theorem iX6_areMore_24 : zSnd zZC zmX6_areMore 24 (o_icmp (fun x y => y ≤ x) 31 27) := s_icmp_ge (off := 7) (by decide +kernel) (by decide +kernel)
theorem iX6_areMore_27 : zSnd zZC zmX6_areMore 27 (o_ic 1 28) := s_iconst (i := 1) (by decide +kernel) (by decide +kernel)
theorem iX6_areMore_28 : zSnd zZC zmX6_areMore 28 (o_goto 32) := s_goto (off := 4) (by decide +kernel) (by decide +kernel)
theorem iX6_areMore_31 : zSnd zZC zmX6_areMore 31 (o_ic 0 32) := s_iconst (i := 0) (by decide +kernel) (by decide +kernel)
theorem iX6_areMore_32 : zSnd zZC zmX6_areMore 32 (o_zret) := s_zret rfl (by decide +kernel)
def kX6_areMore : List (Nat × zOp) := [(0, o_aload 0 1),
  (1, o_getf zYC 3 0 4),
  (4, o_getf zYC 1 4 7),
  (7, o_if0 (fun x => x = 0) 10 31),
  (10, o_aload 0 11),
  (11, o_getf zYC 3 0 14),
  (14, o_getf zYC 1 2 17),
  (17, o_aload 0 18),
  (18, o_getf zYC 3 0 21),
  (21, o_getf zYC 1 3 24),
  (24, o_icmp (fun x y => y ≤ x) 31 27),
  (27, o_ic 1 28),
  (28, o_goto 32),
  (31, o_ic 0 32),
  (32, o_zret)]
set_option maxRecDepth 100000 in
theorem ksX6_areMore : ∀ q ∈ kX6_areMore, zSnd zZC zmX6_areMore q.1 q.2 := zcc iX6_areMore_0 (zcc iX6_areMore_1 (zcc iX6_areMore_4 (zcc iX6_areMore_7 (zcc iX6_areMore_10 (zcc iX6_areMore_11 (zcc iX6_areMore_14 (zcc iX6_areMore_17 (zcc iX6_areMore_18 (zcc iX6_areMore_21 (zcc iX6_areMore_24 (zcc iX6_areMore_27 (zcc iX6_areMore_28 (zcc iX6_areMore_31 (zcc iX6_areMore_32 zcn))))))))))))))
theorem iX6_isRow_0 : zSnd zZC zmX6_isRow 0 (o_iload 0 1) := s_iload_n (k := 0) (by decide +kernel) rfl
theorem iX6_isRow_1 : zSnd zZC zmX6_isRow 1 (o_if0 (fun x => x = 0) 20 4) := s_if_eq (off := 19) (by decide +kernel) (by decide +kernel)
theorem iX6_isRow_4 : zSnd zZC zmX6_isRow 4 (o_iload 0 5) := s_iload_n (k := 0) (by decide +kernel) rfl
theorem iX6_isRow_5 : zSnd zZC zmX6_isRow 5 (o_ic 8 7) := s_bipush (i := 8) (by decide +kernel) (by decide +kernel)
theorem iX6_isRow_7 : zSnd zZC zmX6_isRow 7 (o_icmp (fun x y => x = y) 20 10) := s_icmp_eq (off := 13) (by decide +kernel) (by decide +kernel)
theorem iX6_isRow_10 : zSnd zZC zmX6_isRow 10 (o_iload 0 11) := s_iload_n (k := 0) (by decide +kernel) rfl
theorem iX6_isRow_11 : zSnd zZC zmX6_isRow 11 (o_ic 12 13) := s_bipush (i := 12) (by decide +kernel) (by decide +kernel)
theorem iX6_isRow_13 : zSnd zZC zmX6_isRow 13 (o_icmp (fun x y => x = y) 20 16) := s_icmp_eq (off := 7) (by decide +kernel) (by decide +kernel)
theorem iX6_isRow_16 : zSnd zZC zmX6_isRow 16 (o_ic 1 17) := s_iconst (i := 1) (by decide +kernel) (by decide +kernel)
theorem iX6_isRow_17 : zSnd zZC zmX6_isRow 17 (o_goto 21) := s_goto (off := 4) (by decide +kernel) (by decide +kernel)
theorem iX6_isRow_20 : zSnd zZC zmX6_isRow 20 (o_ic 0 21) := s_iconst (i := 0) (by decide +kernel) (by decide +kernel)
theorem iX6_isRow_21 : zSnd zZC zmX6_isRow 21 (o_zret) := s_zret rfl (by decide +kernel)
def kX6_isRow : List (Nat × zOp) := [(0, o_iload 0 1),
  (1, o_if0 (fun x => x = 0) 20 4),
  (4, o_iload 0 5),
  (5, o_ic 8 7),
  (7, o_icmp (fun x y => x = y) 20 10),
  (10, o_iload 0 11),
  (11, o_ic 12 13),
  (13, o_icmp (fun x y => x = y) 20 16),
  (16, o_ic 1 17),
  (17, o_goto 21),
  (20, o_ic 0 21),
  (21, o_zret)]
set_option maxRecDepth 100000 in
theorem ksX6_isRow : ∀ q ∈ kX6_isRow, zSnd zZC zmX6_isRow q.1 q.2 := zcc iX6_isRow_0 (zcc iX6_isRow_1 (zcc iX6_isRow_4 (zcc iX6_isRow_5 (zcc iX6_isRow_7 (zcc iX6_isRow_10 (zcc iX6_isRow_11 (zcc iX6_isRow_13 (zcc iX6_isRow_16 (zcc iX6_isRow_17 (zcc iX6_isRow_20 (zcc iX6_isRow_21 zcn)))))))))))
theorem iX7_addLocals_0 : zSnd zZC zmX7_addLocals 0 (o_ic 0 1) := s_iconst (i := 0) (by decide +kernel) (by decide +kernel)
theorem iX7_addLocals_1 : zSnd zZC zmX7_addLocals 1 (o_istore 3 2) := s_istore_n (k := 3) (by decide +kernel) rfl (by decide +kernel)
theorem iX7_addLocals_2 : zSnd zZC zmX7_addLocals 2 (o_iload 3 3) := s_iload_n (k := 3) (by decide +kernel) rfl
theorem iX7_addLocals_3 : zSnd zZC zmX7_addLocals 3 (o_iload 1 4) := s_iload_n (k := 1) (by decide +kernel) rfl
theorem iX7_addLocals_4 : zSnd zZC zmX7_addLocals 4 (o_icmp (fun x y => y ≤ x) 45 7) := s_icmp_ge (off := 41) (by decide +kernel) (by decide +kernel)
theorem iX7_addLocals_7 : zSnd zZC zmX7_addLocals 7 (o_aload 0 8) := s_aload_n (k := 0) (by decide +kernel) rfl
theorem iX7_addLocals_8 : zSnd zZC zmX7_addLocals 8 (o_getf zYC 7 3 11) := s_getf zcX7 fX7_35 (by decide +kernel) (by decide +kernel)
theorem iX7_addLocals_11 : zSnd zZC zmX7_addLocals 11 (o_aload 0 12) := s_aload_n (k := 0) (by decide +kernel) rfl
theorem iX7_addLocals_12 : zSnd zZC zmX7_addLocals 12 (o_getf zYC 7 2 15) := s_getf zcX7 fX7_9 (by decide +kernel) (by decide +kernel)
theorem iX7_addLocals_15 : zSnd zZC zmX7_addLocals 15 (o_alen zYC 16) := s_alen zYC_arr (by decide +kernel)
theorem iX7_addLocals_16 : zSnd zZC zmX7_addLocals 16 (o_icmp (fun x y => y ≤ x) 45 19) := s_icmp_ge (off := 29) (by decide +kernel) (by decide +kernel)
theorem iX7_addLocals_19 : zSnd zZC zmX7_addLocals 19 (o_aload 0 20) := s_aload_n (k := 0) (by decide +kernel) rfl
theorem iX7_addLocals_20 : zSnd zZC zmX7_addLocals 20 (o_getf zYC 7 2 23) := s_getf zcX7 fX7_9 (by decide +kernel) (by decide +kernel)
theorem iX7_addLocals_23 : zSnd zZC zmX7_addLocals 23 (o_aload 0 24) := s_aload_n (k := 0) (by decide +kernel) rfl
theorem iX7_addLocals_24 : zSnd zZC zmX7_addLocals 24 (o_getf zYC 7 3 27) := s_getf zcX7 fX7_35 (by decide +kernel) (by decide +kernel)
theorem iX7_addLocals_27 : zSnd zZC zmX7_addLocals 27 (o_iload 2 28) := s_iload_n (k := 2) (by decide +kernel) rfl
theorem iX7_addLocals_28 : zSnd zZC zmX7_addLocals 28 (o_ast zYC .int (fun x => x) 29) := s_iast (by decide +kernel)
theorem iX7_addLocals_29 : zSnd zZC zmX7_addLocals 29 (o_aload 0 30) := s_aload_n (k := 0) (by decide +kernel) rfl
theorem iX7_addLocals_30 : zSnd zZC zmX7_addLocals 30 (o_dup 31) := s_dup (by decide +kernel)
theorem iX7_addLocals_31 : zSnd zZC zmX7_addLocals 31 (o_getf zYC 7 3 34) := s_getf zcX7 fX7_35 (by decide +kernel) (by decide +kernel)
theorem iX7_addLocals_34 : zSnd zZC zmX7_addLocals 34 (o_ic 1 35) := s_iconst (i := 1) (by decide +kernel) (by decide +kernel)
theorem iX7_addLocals_35 : zSnd zZC zmX7_addLocals 35 (o_ibin (fun x y => x + y) 36) := s_iadd (by decide +kernel)
theorem iX7_addLocals_36 : zSnd zZC zmX7_addLocals 36 (o_putI zYC 7 3 39) := s_putI zcX7 fX7_35 (by decide +kernel) rfl rfl (by decide +kernel)
theorem iX7_addLocals_39 : zSnd zZC zmX7_addLocals 39 (o_iinc 3 1 42) := s_iinc (a := 1) (by decide +kernel) (by decide +kernel) (by decide +kernel)
theorem iX7_addLocals_42 : zSnd zZC zmX7_addLocals 42 (o_goto 2) := s_goto (off := (-40)) (by decide +kernel) (by decide +kernel)
theorem iX7_addLocals_45 : zSnd zZC zmX7_addLocals 45 (o_vret) := s_vret rfl (by decide +kernel)
def kX7_addLocals : List (Nat × zOp) := [(0, o_ic 0 1),
  (1, o_istore 3 2),
  (2, o_iload 3 3),
  (3, o_iload 1 4),
  (4, o_icmp (fun x y => y ≤ x) 45 7),
  (7, o_aload 0 8),
  (8, o_getf zYC 7 3 11),
  (11, o_aload 0 12),
  (12, o_getf zYC 7 2 15),
  (15, o_alen zYC 16),
  (16, o_icmp (fun x y => y ≤ x) 45 19),
  (19, o_aload 0 20),
  (20, o_getf zYC 7 2 23),
  (23, o_aload 0 24),
  (24, o_getf zYC 7 3 27),
  (27, o_iload 2 28),
  (28, o_ast zYC .int (fun x => x) 29),
  (29, o_aload 0 30),
  (30, o_dup 31),
  (31, o_getf zYC 7 3 34),
  (34, o_ic 1 35),
  (35, o_ibin (fun x y => x + y) 36),
  (36, o_putI zYC 7 3 39),
  (39, o_iinc 3 1 42),
  (42, o_goto 2),
  (45, o_vret)]
set_option maxRecDepth 100000 in
theorem ksX7_addLocals : ∀ q ∈ kX7_addLocals, zSnd zZC zmX7_addLocals q.1 q.2 := zcc iX7_addLocals_0 (zcc iX7_addLocals_1 (zcc iX7_addLocals_2 (zcc iX7_addLocals_3 (zcc iX7_addLocals_4 (zcc iX7_addLocals_7 (zcc iX7_addLocals_8 (zcc iX7_addLocals_11 (zcc iX7_addLocals_12 (zcc iX7_addLocals_15 (zcc iX7_addLocals_16 (zcc iX7_addLocals_19 (zcc iX7_addLocals_20 (zcc iX7_addLocals_23 (zcc iX7_addLocals_24 (zcc iX7_addLocals_27 (zcc iX7_addLocals_28 (zcc iX7_addLocals_29 (zcc iX7_addLocals_30 (zcc iX7_addLocals_31 (zcc iX7_addLocals_34 (zcc iX7_addLocals_35 (zcc iX7_addLocals_36 (zcc iX7_addLocals_39 (zcc iX7_addLocals_42 (zcc iX7_addLocals_45 zcn)))))))))))))))))))))))))
theorem iX7_leavesLong_0 : zSnd zZC zmX7_leavesLong 0 (o_iload 0 1) := s_iload_n (k := 0) (by decide +kernel) rfl
theorem iX7_leavesLong_1 : zSnd zZC zmX7_leavesLong 1 (o_ic 121 3) := s_bipush (i := 121) (by decide +kernel) (by decide +kernel)
theorem iX7_leavesLong_3 : zSnd zZC zmX7_leavesLong 3 (o_icmp (fun x y => x < y) 13 6) := s_icmp_lt (off := 10) (by decide +kernel) (by decide +kernel)
theorem iX7_leavesLong_6 : zSnd zZC zmX7_leavesLong 6 (o_iload 0 7) := s_iload_n (k := 0) (by decide +kernel) rfl
theorem iX7_leavesLong_7 : zSnd zZC zmX7_leavesLong 7 (o_ic 138 10) := s_sipush (i := 138) (by decide +kernel) (by decide +kernel)
theorem iX7_leavesLong_10 : zSnd zZC zmX7_leavesLong 10 (o_icmp (fun x y => x ≤ y) 34 13) := s_icmp_le (off := 24) (by decide +kernel) (by decide +kernel)
theorem iX7_leavesLong_13 : zSnd zZC zmX7_leavesLong 13 (o_iload 0 14) := s_iload_n (k := 0) (by decide +kernel) rfl
theorem iX7_leavesLong_14 : zSnd zZC zmX7_leavesLong 14 (o_ic 172 17) := s_sipush (i := 172) (by decide +kernel) (by decide +kernel)
theorem iX7_leavesLong_17 : zSnd zZC zmX7_leavesLong 17 (o_icmp (fun x y => x = y) 34 20) := s_icmp_eq (off := 17) (by decide +kernel) (by decide +kernel)
theorem iX7_leavesLong_20 : zSnd zZC zmX7_leavesLong 20 (o_iload 0 21) := s_iload_n (k := 0) (by decide +kernel) rfl
theorem iX7_leavesLong_21 : zSnd zZC zmX7_leavesLong 21 (o_ic 173 24) := s_sipush (i := 173) (by decide +kernel) (by decide +kernel)
theorem iX7_leavesLong_24 : zSnd zZC zmX7_leavesLong 24 (o_icmp (fun x y => x = y) 34 27) := s_icmp_eq (off := 10) (by decide +kernel) (by decide +kernel)
theorem iX7_leavesLong_27 : zSnd zZC zmX7_leavesLong 27 (o_iload 0 28) := s_iload_n (k := 0) (by decide +kernel) rfl
theorem iX7_leavesLong_28 : zSnd zZC zmX7_leavesLong 28 (o_ic 194 31) := s_sipush (i := 194) (by decide +kernel) (by decide +kernel)
theorem iX7_leavesLong_31 : zSnd zZC zmX7_leavesLong 31 (o_icmp (fun x y => x < y) 38 34) := s_icmp_lt (off := 7) (by decide +kernel) (by decide +kernel)
theorem iX7_leavesLong_34 : zSnd zZC zmX7_leavesLong 34 (o_ic 1 35) := s_iconst (i := 1) (by decide +kernel) (by decide +kernel)
theorem iX7_leavesLong_35 : zSnd zZC zmX7_leavesLong 35 (o_goto 39) := s_goto (off := 4) (by decide +kernel) (by decide +kernel)
theorem iX7_leavesLong_38 : zSnd zZC zmX7_leavesLong 38 (o_ic 0 39) := s_iconst (i := 0) (by decide +kernel) (by decide +kernel)
theorem iX7_leavesLong_39 : zSnd zZC zmX7_leavesLong 39 (o_zret) := s_zret rfl (by decide +kernel)
def kX7_leavesLong : List (Nat × zOp) := [(0, o_iload 0 1),
  (1, o_ic 121 3),
  (3, o_icmp (fun x y => x < y) 13 6),
  (6, o_iload 0 7),
  (7, o_ic 138 10),
  (10, o_icmp (fun x y => x ≤ y) 34 13),
  (13, o_iload 0 14),
  (14, o_ic 172 17),
  (17, o_icmp (fun x y => x = y) 34 20),
  (20, o_iload 0 21),
  (21, o_ic 173 24),
  (24, o_icmp (fun x y => x = y) 34 27),
  (27, o_iload 0 28),
  (28, o_ic 194 31),
  (31, o_icmp (fun x y => x < y) 38 34),
  (34, o_ic 1 35),
  (35, o_goto 39),
  (38, o_ic 0 39),
  (39, o_zret)]
set_option maxRecDepth 100000 in
theorem ksX7_leavesLong : ∀ q ∈ kX7_leavesLong, zSnd zZC zmX7_leavesLong q.1 q.2 := zcc iX7_leavesLong_0 (zcc iX7_leavesLong_1 (zcc iX7_leavesLong_3 (zcc iX7_leavesLong_6 (zcc iX7_leavesLong_7 (zcc iX7_leavesLong_10 (zcc iX7_leavesLong_13 (zcc iX7_leavesLong_14 (zcc iX7_leavesLong_17 (zcc iX7_leavesLong_20 (zcc iX7_leavesLong_21 (zcc iX7_leavesLong_24 (zcc iX7_leavesLong_27 (zcc iX7_leavesLong_28 (zcc iX7_leavesLong_31 (zcc iX7_leavesLong_34 (zcc iX7_leavesLong_35 (zcc iX7_leavesLong_38 (zcc iX7_leavesLong_39 zcn))))))))))))))))))
theorem iX7_takesLong_0 : zSnd zZC zmX7_takesLong 0 (o_iload 0 1) := s_iload_n (k := 0) (by decide +kernel) rfl
theorem iX7_takesLong_1 : zSnd zZC zmX7_takesLong 1 (o_ic 80 3) := s_bipush (i := 80) (by decide +kernel) (by decide +kernel)
theorem iX7_takesLong_3 : zSnd zZC zmX7_takesLong 3 (o_icmp (fun x y => x < y) 12 6) := s_icmp_lt (off := 9) (by decide +kernel) (by decide +kernel)
theorem iX7_takesLong_6 : zSnd zZC zmX7_takesLong 6 (o_iload 0 7) := s_iload_n (k := 0) (by decide +kernel) rfl
theorem iX7_takesLong_7 : zSnd zZC zmX7_takesLong 7 (o_ic 90 9) := s_bipush (i := 90) (by decide +kernel) (by decide +kernel)
theorem iX7_takesLong_9 : zSnd zZC zmX7_takesLong 9 (o_icmp (fun x y => x ≤ y) 39 12) := s_icmp_le (off := 30) (by decide +kernel) (by decide +kernel)
theorem iX7_takesLong_12 : zSnd zZC zmX7_takesLong 12 (o_iload 0 13) := s_iload_n (k := 0) (by decide +kernel) rfl
theorem iX7_takesLong_13 : zSnd zZC zmX7_takesLong 13 (o_ic 121 15) := s_bipush (i := 121) (by decide +kernel) (by decide +kernel)
theorem iX7_takesLong_15 : zSnd zZC zmX7_takesLong 15 (o_icmp (fun x y => x < y) 25 18) := s_icmp_lt (off := 10) (by decide +kernel) (by decide +kernel)
theorem iX7_takesLong_18 : zSnd zZC zmX7_takesLong 18 (o_iload 0 19) := s_iload_n (k := 0) (by decide +kernel) rfl
theorem iX7_takesLong_19 : zSnd zZC zmX7_takesLong 19 (o_ic 138 22) := s_sipush (i := 138) (by decide +kernel) (by decide +kernel)
theorem iX7_takesLong_22 : zSnd zZC zmX7_takesLong 22 (o_icmp (fun x y => x ≤ y) 39 25) := s_icmp_le (off := 17) (by decide +kernel) (by decide +kernel)
theorem iX7_takesLong_25 : zSnd zZC zmX7_takesLong 25 (o_iload 0 26) := s_iload_n (k := 0) (by decide +kernel) rfl
theorem iX7_takesLong_26 : zSnd zZC zmX7_takesLong 26 (o_ic 167 29) := s_sipush (i := 167) (by decide +kernel) (by decide +kernel)
theorem iX7_takesLong_29 : zSnd zZC zmX7_takesLong 29 (o_icmp (fun x y => x = y) 39 32) := s_icmp_eq (off := 10) (by decide +kernel) (by decide +kernel)
theorem iX7_takesLong_32 : zSnd zZC zmX7_takesLong 32 (o_iload 0 33) := s_iload_n (k := 0) (by decide +kernel) rfl
theorem iX7_takesLong_33 : zSnd zZC zmX7_takesLong 33 (o_ic 194 36) := s_sipush (i := 194) (by decide +kernel) (by decide +kernel)
theorem iX7_takesLong_36 : zSnd zZC zmX7_takesLong 36 (o_icmp (fun x y => x < y) 43 39) := s_icmp_lt (off := 7) (by decide +kernel) (by decide +kernel)
theorem iX7_takesLong_39 : zSnd zZC zmX7_takesLong 39 (o_ic 1 40) := s_iconst (i := 1) (by decide +kernel) (by decide +kernel)
theorem iX7_takesLong_40 : zSnd zZC zmX7_takesLong 40 (o_goto 44) := s_goto (off := 4) (by decide +kernel) (by decide +kernel)
theorem iX7_takesLong_43 : zSnd zZC zmX7_takesLong 43 (o_ic 0 44) := s_iconst (i := 0) (by decide +kernel) (by decide +kernel)
theorem iX7_takesLong_44 : zSnd zZC zmX7_takesLong 44 (o_zret) := s_zret rfl (by decide +kernel)
def kX7_takesLong : List (Nat × zOp) := [(0, o_iload 0 1),
  (1, o_ic 80 3),
  (3, o_icmp (fun x y => x < y) 12 6),
  (6, o_iload 0 7),
  (7, o_ic 90 9),
  (9, o_icmp (fun x y => x ≤ y) 39 12),
  (12, o_iload 0 13),
  (13, o_ic 121 15),
  (15, o_icmp (fun x y => x < y) 25 18),
  (18, o_iload 0 19),
  (19, o_ic 138 22),
  (22, o_icmp (fun x y => x ≤ y) 39 25),
  (25, o_iload 0 26),
  (26, o_ic 167 29),
  (29, o_icmp (fun x y => x = y) 39 32),
  (32, o_iload 0 33),
  (33, o_ic 194 36),
  (36, o_icmp (fun x y => x < y) 43 39),
  (39, o_ic 1 40),
  (40, o_goto 44),
  (43, o_ic 0 44),
  (44, o_zret)]
set_option maxRecDepth 100000 in
theorem ksX7_takesLong : ∀ q ∈ kX7_takesLong, zSnd zZC zmX7_takesLong q.1 q.2 := zcc iX7_takesLong_0 (zcc iX7_takesLong_1 (zcc iX7_takesLong_3 (zcc iX7_takesLong_6 (zcc iX7_takesLong_7 (zcc iX7_takesLong_9 (zcc iX7_takesLong_12 (zcc iX7_takesLong_13 (zcc iX7_takesLong_15 (zcc iX7_takesLong_18 (zcc iX7_takesLong_19 (zcc iX7_takesLong_22 (zcc iX7_takesLong_25 (zcc iX7_takesLong_26 (zcc iX7_takesLong_29 (zcc iX7_takesLong_32 (zcc iX7_takesLong_33 (zcc iX7_takesLong_36 (zcc iX7_takesLong_39 (zcc iX7_takesLong_40 (zcc iX7_takesLong_43 (zcc iX7_takesLong_44 zcn)))))))))))))))))))))
theorem iX7_takesTwo_0 : zSnd zZC zmX7_takesTwo 0 (o_iload 0 1) := s_iload_n (k := 0) (by decide +kernel) rfl
theorem iX7_takesTwo_1 : zSnd zZC zmX7_takesTwo 1 (o_ic 70 3) := s_bipush (i := 70) (by decide +kernel) (by decide +kernel)
theorem iX7_takesTwo_3 : zSnd zZC zmX7_takesTwo 3 (o_icmp (fun x y => x < y) 12 6) := s_icmp_lt (off := 9) (by decide +kernel) (by decide +kernel)
theorem iX7_takesTwo_6 : zSnd zZC zmX7_takesTwo 6 (o_iload 0 7) := s_iload_n (k := 0) (by decide +kernel) rfl
theorem iX7_takesTwo_7 : zSnd zZC zmX7_takesTwo 7 (o_ic 79 9) := s_bipush (i := 79) (by decide +kernel) (by decide +kernel)
theorem iX7_takesTwo_9 : zSnd zZC zmX7_takesTwo 9 (o_icmp (fun x y => x ≤ y) 49 12) := s_icmp_le (off := 40) (by decide +kernel) (by decide +kernel)
theorem iX7_takesTwo_12 : zSnd zZC zmX7_takesTwo 12 (o_iload 0 13) := s_iload_n (k := 0) (by decide +kernel) rfl
theorem iX7_takesTwo_13 : zSnd zZC zmX7_takesTwo 13 (o_ic 81 15) := s_bipush (i := 81) (by decide +kernel) (by decide +kernel)
theorem iX7_takesTwo_15 : zSnd zZC zmX7_takesTwo 15 (o_icmp (fun x y => x < y) 24 18) := s_icmp_lt (off := 9) (by decide +kernel) (by decide +kernel)
theorem iX7_takesTwo_18 : zSnd zZC zmX7_takesTwo 18 (o_iload 0 19) := s_iload_n (k := 0) (by decide +kernel) rfl
theorem iX7_takesTwo_19 : zSnd zZC zmX7_takesTwo 19 (o_ic 90 21) := s_bipush (i := 90) (by decide +kernel) (by decide +kernel)
theorem iX7_takesTwo_21 : zSnd zZC zmX7_takesTwo 21 (o_icmp (fun x y => x ≤ y) 49 24) := s_icmp_le (off := 28) (by decide +kernel) (by decide +kernel)
theorem iX7_takesTwo_24 : zSnd zZC zmX7_takesTwo 24 (o_iload 0 25) := s_iload_n (k := 0) (by decide +kernel) rfl
theorem iX7_takesTwo_25 : zSnd zZC zmX7_takesTwo 25 (o_ic 106 27) := s_bipush (i := 106) (by decide +kernel) (by decide +kernel)
theorem iX7_takesTwo_27 : zSnd zZC zmX7_takesTwo 27 (o_icmp (fun x y => x < y) 36 30) := s_icmp_lt (off := 9) (by decide +kernel) (by decide +kernel)
theorem iX7_takesTwo_30 : zSnd zZC zmX7_takesTwo 30 (o_iload 0 31) := s_iload_n (k := 0) (by decide +kernel) rfl
theorem iX7_takesTwo_31 : zSnd zZC zmX7_takesTwo 31 (o_ic 120 33) := s_bipush (i := 120) (by decide +kernel) (by decide +kernel)
theorem iX7_takesTwo_33 : zSnd zZC zmX7_takesTwo 33 (o_icmp (fun x y => x ≤ y) 49 36) := s_icmp_le (off := 16) (by decide +kernel) (by decide +kernel)
theorem iX7_takesTwo_36 : zSnd zZC zmX7_takesTwo 36 (o_iload 0 37) := s_iload_n (k := 0) (by decide +kernel) rfl
theorem iX7_takesTwo_37 : zSnd zZC zmX7_takesTwo 37 (o_ic 124 39) := s_bipush (i := 124) (by decide +kernel) (by decide +kernel)
theorem iX7_takesTwo_39 : zSnd zZC zmX7_takesTwo 39 (o_icmp (fun x y => x < y) 53 42) := s_icmp_lt (off := 14) (by decide +kernel) (by decide +kernel)
theorem iX7_takesTwo_42 : zSnd zZC zmX7_takesTwo 42 (o_iload 0 43) := s_iload_n (k := 0) (by decide +kernel) rfl
theorem iX7_takesTwo_43 : zSnd zZC zmX7_takesTwo 43 (o_ic 138 46) := s_sipush (i := 138) (by decide +kernel) (by decide +kernel)
theorem iX7_takesTwo_46 : zSnd zZC zmX7_takesTwo 46 (o_icmp (fun x y => y < x) 53 49) := s_icmp_gt (off := 7) (by decide +kernel) (by decide +kernel)
theorem iX7_takesTwo_49 : zSnd zZC zmX7_takesTwo 49 (o_ic 1 50) := s_iconst (i := 1) (by decide +kernel) (by decide +kernel)
theorem iX7_takesTwo_50 : zSnd zZC zmX7_takesTwo 50 (o_goto 54) := s_goto (off := 4) (by decide +kernel) (by decide +kernel)
theorem iX7_takesTwo_53 : zSnd zZC zmX7_takesTwo 53 (o_ic 0 54) := s_iconst (i := 0) (by decide +kernel) (by decide +kernel)
theorem iX7_takesTwo_54 : zSnd zZC zmX7_takesTwo 54 (o_zret) := s_zret rfl (by decide +kernel)
def kX7_takesTwo : List (Nat × zOp) := [(0, o_iload 0 1),
  (1, o_ic 70 3),
  (3, o_icmp (fun x y => x < y) 12 6),
  (6, o_iload 0 7),
  (7, o_ic 79 9),
  (9, o_icmp (fun x y => x ≤ y) 49 12),
  (12, o_iload 0 13),
  (13, o_ic 81 15),
  (15, o_icmp (fun x y => x < y) 24 18),
  (18, o_iload 0 19),
  (19, o_ic 90 21),
  (21, o_icmp (fun x y => x ≤ y) 49 24),
  (24, o_iload 0 25),
  (25, o_ic 106 27),
  (27, o_icmp (fun x y => x < y) 36 30),
  (30, o_iload 0 31),
  (31, o_ic 120 33),
  (33, o_icmp (fun x y => x ≤ y) 49 36),
  (36, o_iload 0 37),
  (37, o_ic 124 39),
  (39, o_icmp (fun x y => x < y) 53 42),
  (42, o_iload 0 43),
  (43, o_ic 138 46),
  (46, o_icmp (fun x y => y < x) 53 49),
  (49, o_ic 1 50),
  (50, o_goto 54),
  (53, o_ic 0 54),
  (54, o_zret)]
set_option maxRecDepth 100000 in
theorem ksX7_takesTwo : ∀ q ∈ kX7_takesTwo, zSnd zZC zmX7_takesTwo q.1 q.2 := zcc iX7_takesTwo_0 (zcc iX7_takesTwo_1 (zcc iX7_takesTwo_3 (zcc iX7_takesTwo_6 (zcc iX7_takesTwo_7 (zcc iX7_takesTwo_9 (zcc iX7_takesTwo_12 (zcc iX7_takesTwo_13 (zcc iX7_takesTwo_15 (zcc iX7_takesTwo_18 (zcc iX7_takesTwo_19 (zcc iX7_takesTwo_21 (zcc iX7_takesTwo_24 (zcc iX7_takesTwo_25 (zcc iX7_takesTwo_27 (zcc iX7_takesTwo_30 (zcc iX7_takesTwo_31 (zcc iX7_takesTwo_33 (zcc iX7_takesTwo_36 (zcc iX7_takesTwo_37 (zcc iX7_takesTwo_39 (zcc iX7_takesTwo_42 (zcc iX7_takesTwo_43 (zcc iX7_takesTwo_46 (zcc iX7_takesTwo_49 (zcc iX7_takesTwo_50 (zcc iX7_takesTwo_53 (zcc iX7_takesTwo_54 zcn)))))))))))))))))))))))))))
theorem iX8_end_0 : zSnd zZC zmX8_end 0 (o_iload 1 1) := s_iload_n (k := 1) (by decide +kernel) rfl
theorem iX8_end_1 : zSnd zZC zmX8_end 1 (o_if0 (fun x => x < 0) 15 4) := s_if_lt (off := 14) (by decide +kernel) (by decide +kernel)
theorem iX8_end_4 : zSnd zZC zmX8_end 4 (o_iload 1 5) := s_iload_n (k := 1) (by decide +kernel) rfl
theorem iX8_end_5 : zSnd zZC zmX8_end 5 (o_aload 0 6) := s_aload_n (k := 0) (by decide +kernel) rfl
theorem iX8_end_6 : zSnd zZC zmX8_end 6 (o_getf zYC 0 0 9) := s_getf zcX8 fX8_12 (by decide +kernel) (by decide +kernel)
theorem iX8_end_9 : zSnd zZC zmX8_end 9 (o_getf zYC 1 1 12) := s_getf zcX4 fX8_49 (by decide +kernel) (by decide +kernel)
theorem iX8_end_12 : zSnd zZC zmX8_end 12 (o_icmp (fun x y => x ≤ y) 17 15) := s_icmp_le (off := 5) (by decide +kernel) (by decide +kernel)
theorem iX8_end_15 : zSnd zZC zmX8_end 15 (o_ic 0 16) := s_iconst (i := 0) (by decide +kernel) (by decide +kernel)
theorem iX8_end_16 : zSnd zZC zmX8_end 16 (o_zret) := s_zret rfl (by decide +kernel)
theorem iX8_end_17 : zSnd zZC zmX8_end 17 (o_aload 0 18) := s_aload_n (k := 0) (by decide +kernel) rfl
theorem iX8_end_18 : zSnd zZC zmX8_end 18 (o_getf zYC 0 0 21) := s_getf zcX8 fX8_12 (by decide +kernel) (by decide +kernel)
theorem iX8_end_21 : zSnd zZC zmX8_end 21 (o_iload 1 22) := s_iload_n (k := 1) (by decide +kernel) rfl
theorem iX8_end_22 : zSnd zZC zmX8_end 22 (o_putI zYC 1 1 25) := s_putI zcX4 fX8_49 (by decide +kernel) rfl rfl (by decide +kernel)
theorem iX8_end_25 : zSnd zZC zmX8_end 25 (o_ic 1 26) := s_iconst (i := 1) (by decide +kernel) (by decide +kernel)
theorem iX8_end_26 : zSnd zZC zmX8_end 26 (o_zret) := s_zret rfl (by decide +kernel)
def kX8_end : List (Nat × zOp) := [(0, o_iload 1 1),
  (1, o_if0 (fun x => x < 0) 15 4),
  (4, o_iload 1 5),
  (5, o_aload 0 6),
  (6, o_getf zYC 0 0 9),
  (9, o_getf zYC 1 1 12),
  (12, o_icmp (fun x y => x ≤ y) 17 15),
  (15, o_ic 0 16),
  (16, o_zret),
  (17, o_aload 0 18),
  (18, o_getf zYC 0 0 21),
  (21, o_iload 1 22),
  (22, o_putI zYC 1 1 25),
  (25, o_ic 1 26),
  (26, o_zret)]
set_option maxRecDepth 100000 in
theorem ksX8_end : ∀ q ∈ kX8_end, zSnd zZC zmX8_end q.1 q.2 := zcc iX8_end_0 (zcc iX8_end_1 (zcc iX8_end_4 (zcc iX8_end_5 (zcc iX8_end_6 (zcc iX8_end_9 (zcc iX8_end_12 (zcc iX8_end_15 (zcc iX8_end_16 (zcc iX8_end_17 (zcc iX8_end_18 (zcc iX8_end_21 (zcc iX8_end_22 (zcc iX8_end_25 (zcc iX8_end_26 zcn))))))))))))))
theorem iX8_place_0 : zSnd zZC zmX8_place 0 (o_aload 0 1) := s_aload_n (k := 0) (by decide +kernel) rfl
theorem iX8_place_1 : zSnd zZC zmX8_place 1 (o_getf zYC 0 6 4) := s_getf zcX8 fX8_46 (by decide +kernel) (by decide +kernel)
theorem iX8_place_4 : zSnd zZC zmX8_place 4 (o_iret) := s_iret rfl (by decide +kernel)
def kX8_place : List (Nat × zOp) := [(0, o_aload 0 1),
  (1, o_getf zYC 0 6 4),
  (4, o_iret)]
set_option maxRecDepth 100000 in
theorem ksX8_place : ∀ q ∈ kX8_place, zSnd zZC zmX8_place q.1 q.2 := zcc iX8_place_0 (zcc iX8_place_1 (zcc iX8_place_4 zcn))
theorem iX0_codeAt_0 : zSnd zZC zmX0_codeAt 0 (o_aload 0 1) := s_aload_n (k := 0) (by decide +kernel) rfl
theorem iX0_codeAt_1 : zSnd zZC zmX0_codeAt 1 (o_iload 1 2) := s_iload_n (k := 1) (by decide +kernel) rfl
set_option maxRecDepth 20000 in
theorem iX0_codeAt_2 : zSnd zZC zmX0_codeAt 2 (o_callV zZC 8 zmX0_has 1 1 5) := s_callV (idx := 59) zcX0 calX0_has virX0_has dscX0_has (by decide +kernel) (zWS4 105 rfl rfl) (by decide +kernel)
theorem iX0_codeAt_5 : zSnd zZC zmX0_codeAt 5 (o_if0 (fun x => x = 0) 22 8) := s_if_eq (off := 17) (by decide +kernel) (by decide +kernel)
theorem iX0_codeAt_8 : zSnd zZC zmX0_codeAt 8 (o_iload 2 9) := s_iload_n (k := 2) (by decide +kernel) rfl
theorem iX0_codeAt_9 : zSnd zZC zmX0_codeAt 9 (o_if0 (fun x => x < 0) 22 12) := s_if_lt (off := 13) (by decide +kernel) (by decide +kernel)
theorem iX0_codeAt_12 : zSnd zZC zmX0_codeAt 12 (o_iload 2 13) := s_iload_n (k := 2) (by decide +kernel) rfl
theorem iX0_codeAt_13 : zSnd zZC zmX0_codeAt 13 (o_aload 0 14) := s_aload_n (k := 0) (by decide +kernel) rfl
theorem iX0_codeAt_14 : zSnd zZC zmX0_codeAt 14 (o_getf zYC 8 2 17) := s_getf zcX0 fX0_18 (by decide +kernel) (by decide +kernel)
theorem iX0_codeAt_17 : zSnd zZC zmX0_codeAt 17 (o_iload 1 18) := s_iload_n (k := 1) (by decide +kernel) rfl
theorem iX0_codeAt_18 : zSnd zZC zmX0_codeAt 18 (o_ald zYC .int 19) := s_iald (by decide +kernel)
theorem iX0_codeAt_19 : zSnd zZC zmX0_codeAt 19 (o_icmp (fun x y => x < y) 24 22) := s_icmp_lt (off := 5) (by decide +kernel) (by decide +kernel)
theorem iX0_codeAt_22 : zSnd zZC zmX0_codeAt 22 (o_ic (-1) 23) := s_iconst (i := (-1)) (by decide +kernel) (by decide +kernel)
theorem iX0_codeAt_23 : zSnd zZC zmX0_codeAt 23 (o_iret) := s_iret rfl (by decide +kernel)
theorem iX0_codeAt_24 : zSnd zZC zmX0_codeAt 24 (o_aload 0 25) := s_aload_n (k := 0) (by decide +kernel) rfl
theorem iX0_codeAt_25 : zSnd zZC zmX0_codeAt 25 (o_getf zYC 8 1 28) := s_getf zcX0 fX0_15 (by decide +kernel) (by decide +kernel)
theorem iX0_codeAt_28 : zSnd zZC zmX0_codeAt 28 (o_iload 1 29) := s_iload_n (k := 1) (by decide +kernel) rfl
theorem iX0_codeAt_29 : zSnd zZC zmX0_codeAt 29 (o_ald zYC .int 30) := s_iald (by decide +kernel)
theorem iX0_codeAt_30 : zSnd zZC zmX0_codeAt 30 (o_iload 2 31) := s_iload_n (k := 2) (by decide +kernel) rfl
theorem iX0_codeAt_31 : zSnd zZC zmX0_codeAt 31 (o_ibin (fun x y => x + y) 32) := s_iadd (by decide +kernel)
theorem iX0_codeAt_32 : zSnd zZC zmX0_codeAt 32 (o_istore 3 33) := s_istore_n (k := 3) (by decide +kernel) rfl (by decide +kernel)
theorem iX0_codeAt_33 : zSnd zZC zmX0_codeAt 33 (o_iload 3 34) := s_iload_n (k := 3) (by decide +kernel) rfl
theorem iX0_codeAt_34 : zSnd zZC zmX0_codeAt 34 (o_if0 (fun x => x < 0) 55 37) := s_if_lt (off := 21) (by decide +kernel) (by decide +kernel)
theorem iX0_codeAt_37 : zSnd zZC zmX0_codeAt 37 (o_iload 3 38) := s_iload_n (k := 3) (by decide +kernel) rfl
theorem iX0_codeAt_38 : zSnd zZC zmX0_codeAt 38 (o_aload 0 39) := s_aload_n (k := 0) (by decide +kernel) rfl
theorem iX0_codeAt_39 : zSnd zZC zmX0_codeAt 39 (o_getf zYC 8 4 42) := s_getf zcX0 fX0_24 (by decide +kernel) (by decide +kernel)
theorem iX0_codeAt_42 : zSnd zZC zmX0_codeAt 42 (o_alen zYC 43) := s_alen zYC_arr (by decide +kernel)
theorem iX0_codeAt_43 : zSnd zZC zmX0_codeAt 43 (o_icmp (fun x y => y ≤ x) 55 46) := s_icmp_ge (off := 12) (by decide +kernel) (by decide +kernel)
theorem iX0_codeAt_46 : zSnd zZC zmX0_codeAt 46 (o_aload 0 47) := s_aload_n (k := 0) (by decide +kernel) rfl
theorem iX0_codeAt_47 : zSnd zZC zmX0_codeAt 47 (o_getf zYC 8 4 50) := s_getf zcX0 fX0_24 (by decide +kernel) (by decide +kernel)
theorem iX0_codeAt_50 : zSnd zZC zmX0_codeAt 50 (o_iload 3 51) := s_iload_n (k := 3) (by decide +kernel) rfl
theorem iX0_codeAt_51 : zSnd zZC zmX0_codeAt 51 (o_ald zYC .short 52) := s_sald (by decide +kernel)
theorem iX0_codeAt_52 : zSnd zZC zmX0_codeAt 52 (o_goto 56) := s_goto (off := 4) (by decide +kernel) (by decide +kernel)
theorem iX0_codeAt_55 : zSnd zZC zmX0_codeAt 55 (o_ic (-1) 56) := s_iconst (i := (-1)) (by decide +kernel) (by decide +kernel)
theorem iX0_codeAt_56 : zSnd zZC zmX0_codeAt 56 (o_iret) := s_iret rfl (by decide +kernel)
def kX0_codeAt : List (Nat × zOp) := [(0, o_aload 0 1),
  (1, o_iload 1 2),
  (2, o_callV zZC 8 zmX0_has 1 1 5),
  (5, o_if0 (fun x => x = 0) 22 8),
  (8, o_iload 2 9),
  (9, o_if0 (fun x => x < 0) 22 12),
  (12, o_iload 2 13),
  (13, o_aload 0 14),
  (14, o_getf zYC 8 2 17),
  (17, o_iload 1 18),
  (18, o_ald zYC .int 19),
  (19, o_icmp (fun x y => x < y) 24 22),
  (22, o_ic (-1) 23),
  (23, o_iret),
  (24, o_aload 0 25),
  (25, o_getf zYC 8 1 28),
  (28, o_iload 1 29),
  (29, o_ald zYC .int 30),
  (30, o_iload 2 31),
  (31, o_ibin (fun x y => x + y) 32),
  (32, o_istore 3 33),
  (33, o_iload 3 34),
  (34, o_if0 (fun x => x < 0) 55 37),
  (37, o_iload 3 38),
  (38, o_aload 0 39),
  (39, o_getf zYC 8 4 42),
  (42, o_alen zYC 43),
  (43, o_icmp (fun x y => y ≤ x) 55 46),
  (46, o_aload 0 47),
  (47, o_getf zYC 8 4 50),
  (50, o_iload 3 51),
  (51, o_ald zYC .short 52),
  (52, o_goto 56),
  (55, o_ic (-1) 56),
  (56, o_iret)]
set_option maxRecDepth 100000 in
theorem ksX0_codeAt : ∀ q ∈ kX0_codeAt, zSnd zZC zmX0_codeAt q.1 q.2 := zcc iX0_codeAt_0 (zcc iX0_codeAt_1 (zcc iX0_codeAt_2 (zcc iX0_codeAt_5 (zcc iX0_codeAt_8 (zcc iX0_codeAt_9 (zcc iX0_codeAt_12 (zcc iX0_codeAt_13 (zcc iX0_codeAt_14 (zcc iX0_codeAt_17 (zcc iX0_codeAt_18 (zcc iX0_codeAt_19 (zcc iX0_codeAt_22 (zcc iX0_codeAt_23 (zcc iX0_codeAt_24 (zcc iX0_codeAt_25 (zcc iX0_codeAt_28 (zcc iX0_codeAt_29 (zcc iX0_codeAt_30 (zcc iX0_codeAt_31 (zcc iX0_codeAt_32 (zcc iX0_codeAt_33 (zcc iX0_codeAt_34 (zcc iX0_codeAt_37 (zcc iX0_codeAt_38 (zcc iX0_codeAt_39 (zcc iX0_codeAt_42 (zcc iX0_codeAt_43 (zcc iX0_codeAt_46 (zcc iX0_codeAt_47 (zcc iX0_codeAt_50 (zcc iX0_codeAt_51 (zcc iX0_codeAt_52 (zcc iX0_codeAt_55 (zcc iX0_codeAt_56 zcn))))))))))))))))))))))))))))))))))
theorem iX1_lookWhereItStands_0 : zSnd zZC zmX1_lookWhereItStands 0 (o_aload 0 1) := s_aload_n (k := 0) (by decide +kernel) rfl
theorem iX1_lookWhereItStands_1 : zSnd zZC zmX1_lookWhereItStands 1 (o_getf zYC 4 3 4) := s_getf zcX1 fX1_21 (by decide +kernel) (by decide +kernel)
theorem iX1_lookWhereItStands_4 : zSnd zZC zmX1_lookWhereItStands 4 (o_getf zYC 6 3 7) := s_getf zcX5 fX1_128 (by decide +kernel) (by decide +kernel)
theorem iX1_lookWhereItStands_7 : zSnd zZC zmX1_lookWhereItStands 7 (o_sw [([2, 3, 4], 64), ([5], 94), ([264, 265], 123)] 153) := s_lsw (dflt := 146) (ps := #[(2, 57), (3, 57), (4, 57), (5, 87), (264, 116), (265, 116)]) (len := 57) (by decide +kernel) (by decide +kernel) (by decide +kernel) (by decide +kernel) (by decide +kernel)
theorem iX1_lookWhereItStands_64 : zSnd zZC zmX1_lookWhereItStands 64 (o_aload 0 65) := s_aload_n (k := 0) (by decide +kernel) rfl
theorem iX1_lookWhereItStands_65 : zSnd zZC zmX1_lookWhereItStands 65 (o_getf zYC 4 2 68) := s_getf zcX1 fX1_12 (by decide +kernel) (by decide +kernel)
theorem iX1_lookWhereItStands_68 : zSnd zZC zmX1_lookWhereItStands 68 (o_getf zYC 5 5 71) := s_getf zcX3 fX1_85 (by decide +kernel) (by decide +kernel)
theorem iX1_lookWhereItStands_71 : zSnd zZC zmX1_lookWhereItStands 71 (o_ic 60 73) := s_bipush (i := 60) (by decide +kernel) (by decide +kernel)
theorem iX1_lookWhereItStands_73 : zSnd zZC zmX1_lookWhereItStands 73 (o_icmp (fun x y => x < y) 153 76) := s_icmp_lt (off := 80) (by decide +kernel) (by decide +kernel)
theorem iX1_lookWhereItStands_76 : zSnd zZC zmX1_lookWhereItStands 76 (o_aload 0 77) := s_aload_n (k := 0) (by decide +kernel) rfl
theorem iX1_lookWhereItStands_77 : zSnd zZC zmX1_lookWhereItStands 77 (o_getf zYC 4 0 80) := s_getf zcX1 fX1_25 (by decide +kernel) (by decide +kernel)
theorem iX1_lookWhereItStands_80 : zSnd zZC zmX1_lookWhereItStands 80 (o_ic 4 81) := s_iconst (i := 4) (by decide +kernel) (by decide +kernel)
theorem iX1_lookWhereItStands_81 : zSnd zZC zmX1_lookWhereItStands 81 (o_aload 0 82) := s_aload_n (k := 0) (by decide +kernel) rfl
theorem iX1_lookWhereItStands_82 : zSnd zZC zmX1_lookWhereItStands 82 (o_getf zYC 4 3 85) := s_getf zcX1 fX1_21 (by decide +kernel) (by decide +kernel)
theorem iX1_lookWhereItStands_85 : zSnd zZC zmX1_lookWhereItStands 85 (o_getf zYC 6 2 88) := s_getf zcX5 fX1_143 (by decide +kernel) (by decide +kernel)
set_option maxRecDepth 20000 in
theorem iX1_lookWhereItStands_88 : zSnd zZC zmX1_lookWhereItStands 88 (o_callV zZC 1 zmX4_fail 2 0 91) := s_callVN (idx := 115) zcX4 calX4_fail virX4_fail dscX4_fail (by decide +kernel) (zNW3 107 rfl rfl) (by decide +kernel)
theorem iX1_lookWhereItStands_91 : zSnd zZC zmX1_lookWhereItStands 91 (o_goto 153) := s_goto (off := 62) (by decide +kernel) (by decide +kernel)
theorem iX1_lookWhereItStands_94 : zSnd zZC zmX1_lookWhereItStands 94 (o_aload 0 95) := s_aload_n (k := 0) (by decide +kernel) rfl
theorem iX1_lookWhereItStands_95 : zSnd zZC zmX1_lookWhereItStands 95 (o_getf zYC 4 2 98) := s_getf zcX1 fX1_12 (by decide +kernel) (by decide +kernel)
set_option maxRecDepth 20000 in
theorem iX1_lookWhereItStands_98 : zSnd zZC zmX1_lookWhereItStands 98 (o_callV zZC 5 zmX3_openedBy 0 1 101) := s_callVN (idx := 152) zcX3 calX3_openedBy virX3_openedBy dscX3_openedBy (by decide +kernel) (zNW3 135 rfl rfl) (by decide +kernel)
theorem iX1_lookWhereItStands_101 : zSnd zZC zmX1_lookWhereItStands 101 (o_ic 4 102) := s_iconst (i := 4) (by decide +kernel) (by decide +kernel)
theorem iX1_lookWhereItStands_102 : zSnd zZC zmX1_lookWhereItStands 102 (o_icmp (fun x y => x = y) 153 105) := s_icmp_eq (off := 51) (by decide +kernel) (by decide +kernel)
theorem iX1_lookWhereItStands_105 : zSnd zZC zmX1_lookWhereItStands 105 (o_aload 0 106) := s_aload_n (k := 0) (by decide +kernel) rfl
theorem iX1_lookWhereItStands_106 : zSnd zZC zmX1_lookWhereItStands 106 (o_getf zYC 4 0 109) := s_getf zcX1 fX1_25 (by decide +kernel) (by decide +kernel)
theorem iX1_lookWhereItStands_109 : zSnd zZC zmX1_lookWhereItStands 109 (o_ic 1 110) := s_iconst (i := 1) (by decide +kernel) (by decide +kernel)
theorem iX1_lookWhereItStands_110 : zSnd zZC zmX1_lookWhereItStands 110 (o_aload 0 111) := s_aload_n (k := 0) (by decide +kernel) rfl
theorem iX1_lookWhereItStands_111 : zSnd zZC zmX1_lookWhereItStands 111 (o_getf zYC 4 3 114) := s_getf zcX1 fX1_21 (by decide +kernel) (by decide +kernel)
theorem iX1_lookWhereItStands_114 : zSnd zZC zmX1_lookWhereItStands 114 (o_getf zYC 6 2 117) := s_getf zcX5 fX1_143 (by decide +kernel) (by decide +kernel)
set_option maxRecDepth 20000 in
theorem iX1_lookWhereItStands_117 : zSnd zZC zmX1_lookWhereItStands 117 (o_callV zZC 1 zmX4_fail 2 0 120) := s_callVN (idx := 115) zcX4 calX4_fail virX4_fail dscX4_fail (by decide +kernel) (zNW3 107 rfl rfl) (by decide +kernel)
theorem iX1_lookWhereItStands_120 : zSnd zZC zmX1_lookWhereItStands 120 (o_goto 153) := s_goto (off := 33) (by decide +kernel) (by decide +kernel)
theorem iX1_lookWhereItStands_123 : zSnd zZC zmX1_lookWhereItStands 123 (o_aload 0 124) := s_aload_n (k := 0) (by decide +kernel) rfl
theorem iX1_lookWhereItStands_124 : zSnd zZC zmX1_lookWhereItStands 124 (o_getf zYC 4 1 127) := s_getf zcX1 fX1_29 (by decide +kernel) (by decide +kernel)
theorem iX1_lookWhereItStands_127 : zSnd zZC zmX1_lookWhereItStands 127 (o_getf zYC 2 14 130) := s_getf zcX2 fX1_155 (by decide +kernel) (by decide +kernel)
theorem iX1_lookWhereItStands_130 : zSnd zZC zmX1_lookWhereItStands 130 (o_lc 0 131) := s_lconst (i := 0) (by decide +kernel) (by decide +kernel)
theorem iX1_lookWhereItStands_131 : zSnd zZC zmX1_lookWhereItStands 131 (o_lif (fun x y => y ≤ x) 153 135) := s_lge (off := 21) (by decide +kernel) (by decide +kernel) (by decide +kernel)
theorem iX1_lookWhereItStands_135 : zSnd zZC zmX1_lookWhereItStands 135 (o_aload 0 136) := s_aload_n (k := 0) (by decide +kernel) rfl
theorem iX1_lookWhereItStands_136 : zSnd zZC zmX1_lookWhereItStands 136 (o_getf zYC 4 0 139) := s_getf zcX1 fX1_25 (by decide +kernel) (by decide +kernel)
theorem iX1_lookWhereItStands_139 : zSnd zZC zmX1_lookWhereItStands 139 (o_ic 1 140) := s_iconst (i := 1) (by decide +kernel) (by decide +kernel)
theorem iX1_lookWhereItStands_140 : zSnd zZC zmX1_lookWhereItStands 140 (o_aload 0 141) := s_aload_n (k := 0) (by decide +kernel) rfl
theorem iX1_lookWhereItStands_141 : zSnd zZC zmX1_lookWhereItStands 141 (o_getf zYC 4 3 144) := s_getf zcX1 fX1_21 (by decide +kernel) (by decide +kernel)
theorem iX1_lookWhereItStands_144 : zSnd zZC zmX1_lookWhereItStands 144 (o_getf zYC 6 2 147) := s_getf zcX5 fX1_143 (by decide +kernel) (by decide +kernel)
set_option maxRecDepth 20000 in
theorem iX1_lookWhereItStands_147 : zSnd zZC zmX1_lookWhereItStands 147 (o_callV zZC 1 zmX4_fail 2 0 150) := s_callVN (idx := 115) zcX4 calX4_fail virX4_fail dscX4_fail (by decide +kernel) (zNW3 107 rfl rfl) (by decide +kernel)
theorem iX1_lookWhereItStands_150 : zSnd zZC zmX1_lookWhereItStands 150 (o_goto 153) := s_goto (off := 3) (by decide +kernel) (by decide +kernel)
theorem iX1_lookWhereItStands_153 : zSnd zZC zmX1_lookWhereItStands 153 (o_vret) := s_vret rfl (by decide +kernel)
def kX1_lookWhereItStands : List (Nat × zOp) := [(0, o_aload 0 1),
  (1, o_getf zYC 4 3 4),
  (4, o_getf zYC 6 3 7),
  (7, o_sw [([2, 3, 4], 64), ([5], 94), ([264, 265], 123)] 153),
  (64, o_aload 0 65),
  (65, o_getf zYC 4 2 68),
  (68, o_getf zYC 5 5 71),
  (71, o_ic 60 73),
  (73, o_icmp (fun x y => x < y) 153 76),
  (76, o_aload 0 77),
  (77, o_getf zYC 4 0 80),
  (80, o_ic 4 81),
  (81, o_aload 0 82),
  (82, o_getf zYC 4 3 85),
  (85, o_getf zYC 6 2 88),
  (88, o_callV zZC 1 zmX4_fail 2 0 91),
  (91, o_goto 153),
  (94, o_aload 0 95),
  (95, o_getf zYC 4 2 98),
  (98, o_callV zZC 5 zmX3_openedBy 0 1 101),
  (101, o_ic 4 102),
  (102, o_icmp (fun x y => x = y) 153 105),
  (105, o_aload 0 106),
  (106, o_getf zYC 4 0 109),
  (109, o_ic 1 110),
  (110, o_aload 0 111),
  (111, o_getf zYC 4 3 114),
  (114, o_getf zYC 6 2 117),
  (117, o_callV zZC 1 zmX4_fail 2 0 120),
  (120, o_goto 153),
  (123, o_aload 0 124),
  (124, o_getf zYC 4 1 127),
  (127, o_getf zYC 2 14 130),
  (130, o_lc 0 131),
  (131, o_lif (fun x y => y ≤ x) 153 135),
  (135, o_aload 0 136),
  (136, o_getf zYC 4 0 139),
  (139, o_ic 1 140),
  (140, o_aload 0 141),
  (141, o_getf zYC 4 3 144),
  (144, o_getf zYC 6 2 147),
  (147, o_callV zZC 1 zmX4_fail 2 0 150),
  (150, o_goto 153),
  (153, o_vret)]
set_option maxRecDepth 100000 in
theorem ksX1_lookWhereItStands : ∀ q ∈ kX1_lookWhereItStands, zSnd zZC zmX1_lookWhereItStands q.1 q.2 := zcc iX1_lookWhereItStands_0 (zcc iX1_lookWhereItStands_1 (zcc iX1_lookWhereItStands_4 (zcc iX1_lookWhereItStands_7 (zcc iX1_lookWhereItStands_64 (zcc iX1_lookWhereItStands_65 (zcc iX1_lookWhereItStands_68 (zcc iX1_lookWhereItStands_71 (zcc iX1_lookWhereItStands_73 (zcc iX1_lookWhereItStands_76 (zcc iX1_lookWhereItStands_77 (zcc iX1_lookWhereItStands_80 (zcc iX1_lookWhereItStands_81 (zcc iX1_lookWhereItStands_82 (zcc iX1_lookWhereItStands_85 (zcc iX1_lookWhereItStands_88 (zcc iX1_lookWhereItStands_91 (zcc iX1_lookWhereItStands_94 (zcc iX1_lookWhereItStands_95 (zcc iX1_lookWhereItStands_98 (zcc iX1_lookWhereItStands_101 (zcc iX1_lookWhereItStands_102 (zcc iX1_lookWhereItStands_105 (zcc iX1_lookWhereItStands_106 (zcc iX1_lookWhereItStands_109 (zcc iX1_lookWhereItStands_110 (zcc iX1_lookWhereItStands_111 (zcc iX1_lookWhereItStands_114 (zcc iX1_lookWhereItStands_117 (zcc iX1_lookWhereItStands_120 (zcc iX1_lookWhereItStands_123 (zcc iX1_lookWhereItStands_124 (zcc iX1_lookWhereItStands_127 (zcc iX1_lookWhereItStands_130 (zcc iX1_lookWhereItStands_131 (zcc iX1_lookWhereItStands_135 (zcc iX1_lookWhereItStands_136 (zcc iX1_lookWhereItStands_139 (zcc iX1_lookWhereItStands_140 (zcc iX1_lookWhereItStands_141 (zcc iX1_lookWhereItStands_144 (zcc iX1_lookWhereItStands_147 (zcc iX1_lookWhereItStands_150 (zcc iX1_lookWhereItStands_153 zcn)))))))))))))))))))))))))))))))))))))))))))
theorem iX2_isUnchangedImport_0 : zSnd zZC zmX2_isUnchangedImport 0 (o_lload 1 1) := s_lload_n (k := 1) (by decide +kernel) rfl
theorem iX2_isUnchangedImport_1 : zSnd zZC zmX2_isUnchangedImport 1 (o_aload 0 2) := s_aload_n (k := 0) (by decide +kernel) rfl
theorem iX2_isUnchangedImport_2 : zSnd zZC zmX2_isUnchangedImport 2 (o_getf zYC 2 13 5) := s_getf zcX2 fX2_53 (by decide +kernel) (by decide +kernel)
theorem iX2_isUnchangedImport_5 : zSnd zZC zmX2_isUnchangedImport 5 (o_i2l 6) := s_i2l (by decide +kernel)
theorem iX2_isUnchangedImport_6 : zSnd zZC zmX2_isUnchangedImport 6 (o_lif (fun x y => y ≤ x) 33 10) := s_lge (off := 26) (by decide +kernel) (by decide +kernel) (by decide +kernel)
theorem iX2_isUnchangedImport_10 : zSnd zZC zmX2_isUnchangedImport 10 (o_lload 1 11) := s_lload_n (k := 1) (by decide +kernel) rfl
theorem iX2_isUnchangedImport_11 : zSnd zZC zmX2_isUnchangedImport 11 (o_aload 0 12) := s_aload_n (k := 0) (by decide +kernel) rfl
theorem iX2_isUnchangedImport_12 : zSnd zZC zmX2_isUnchangedImport 12 (o_getf zYC 2 12 15) := s_getf zcX2 fX2_50 (by decide +kernel) (by decide +kernel)
theorem iX2_isUnchangedImport_15 : zSnd zZC zmX2_isUnchangedImport 15 (o_i2l 16) := s_i2l (by decide +kernel)
theorem iX2_isUnchangedImport_16 : zSnd zZC zmX2_isUnchangedImport 16 (o_lif (fun x y => y ≤ x) 33 20) := s_lge (off := 16) (by decide +kernel) (by decide +kernel) (by decide +kernel)
theorem iX2_isUnchangedImport_20 : zSnd zZC zmX2_isUnchangedImport 20 (o_aload 0 21) := s_aload_n (k := 0) (by decide +kernel) rfl
theorem iX2_isUnchangedImport_21 : zSnd zZC zmX2_isUnchangedImport 21 (o_lload 1 22) := s_lload_n (k := 1) (by decide +kernel) rfl
theorem iX2_isUnchangedImport_22 : zSnd zZC zmX2_isUnchangedImport 22 (o_l2i 23) := s_l2i (by decide +kernel)
set_option maxRecDepth 20000 in
theorem iX2_isUnchangedImport_23 : zSnd zZC zmX2_isUnchangedImport 23 (o_callV zZC 2 zmX2_changesGlobal 1 1 26) := s_callV (idx := 62) zcX2 calX2_changesGlobal virX2_changesGlobal dscX2_changesGlobal (by decide +kernel) (zWS3 23 rfl rfl) (by decide +kernel)
theorem iX2_isUnchangedImport_26 : zSnd zZC zmX2_isUnchangedImport 26 (o_if0 (fun x => x = 0) 29 33) := s_if_ne (off := 7) (by decide +kernel) (by decide +kernel)
theorem iX2_isUnchangedImport_29 : zSnd zZC zmX2_isUnchangedImport 29 (o_ic 1 30) := s_iconst (i := 1) (by decide +kernel) (by decide +kernel)
theorem iX2_isUnchangedImport_30 : zSnd zZC zmX2_isUnchangedImport 30 (o_goto 34) := s_goto (off := 4) (by decide +kernel) (by decide +kernel)
theorem iX2_isUnchangedImport_33 : zSnd zZC zmX2_isUnchangedImport 33 (o_ic 0 34) := s_iconst (i := 0) (by decide +kernel) (by decide +kernel)
theorem iX2_isUnchangedImport_34 : zSnd zZC zmX2_isUnchangedImport 34 (o_zret) := s_zret rfl (by decide +kernel)
def kX2_isUnchangedImport : List (Nat × zOp) := [(0, o_lload 1 1),
  (1, o_aload 0 2),
  (2, o_getf zYC 2 13 5),
  (5, o_i2l 6),
  (6, o_lif (fun x y => y ≤ x) 33 10),
  (10, o_lload 1 11),
  (11, o_aload 0 12),
  (12, o_getf zYC 2 12 15),
  (15, o_i2l 16),
  (16, o_lif (fun x y => y ≤ x) 33 20),
  (20, o_aload 0 21),
  (21, o_lload 1 22),
  (22, o_l2i 23),
  (23, o_callV zZC 2 zmX2_changesGlobal 1 1 26),
  (26, o_if0 (fun x => x = 0) 29 33),
  (29, o_ic 1 30),
  (30, o_goto 34),
  (33, o_ic 0 34),
  (34, o_zret)]
set_option maxRecDepth 100000 in
theorem ksX2_isUnchangedImport : ∀ q ∈ kX2_isUnchangedImport, zSnd zZC zmX2_isUnchangedImport q.1 q.2 := zcc iX2_isUnchangedImport_0 (zcc iX2_isUnchangedImport_1 (zcc iX2_isUnchangedImport_2 (zcc iX2_isUnchangedImport_5 (zcc iX2_isUnchangedImport_6 (zcc iX2_isUnchangedImport_10 (zcc iX2_isUnchangedImport_11 (zcc iX2_isUnchangedImport_12 (zcc iX2_isUnchangedImport_15 (zcc iX2_isUnchangedImport_16 (zcc iX2_isUnchangedImport_20 (zcc iX2_isUnchangedImport_21 (zcc iX2_isUnchangedImport_22 (zcc iX2_isUnchangedImport_23 (zcc iX2_isUnchangedImport_26 (zcc iX2_isUnchangedImport_29 (zcc iX2_isUnchangedImport_30 (zcc iX2_isUnchangedImport_33 (zcc iX2_isUnchangedImport_34 zcn))))))))))))))))))
theorem iX3_begin_0 : zSnd zZC zmX3_begin 0 (o_aload 0 1) := s_aload_n (k := 0) (by decide +kernel) rfl
theorem iX3_begin_1 : zSnd zZC zmX3_begin 1 (o_ic (-1) 2) := s_iconst (i := (-1)) (by decide +kernel) (by decide +kernel)
theorem iX3_begin_2 : zSnd zZC zmX3_begin 2 (o_putI zYC 5 5 5) := s_putI zcX3 fX3_29 (by decide +kernel) rfl rfl (by decide +kernel)
theorem iX3_begin_5 : zSnd zZC zmX3_begin 5 (o_aload 0 6) := s_aload_n (k := 0) (by decide +kernel) rfl
theorem iX3_begin_6 : zSnd zZC zmX3_begin 6 (o_ic 0 7) := s_iconst (i := 0) (by decide +kernel) (by decide +kernel)
theorem iX3_begin_7 : zSnd zZC zmX3_begin 7 (o_putI zYC 5 6 10) := s_putI zcX3 fX3_33 (by decide +kernel) rfl rfl (by decide +kernel)
theorem iX3_begin_10 : zSnd zZC zmX3_begin 10 (o_aload 0 11) := s_aload_n (k := 0) (by decide +kernel) rfl
theorem iX3_begin_11 : zSnd zZC zmX3_begin 11 (o_ic 2 12) := s_iconst (i := 2) (by decide +kernel) (by decide +kernel)
theorem iX3_begin_12 : zSnd zZC zmX3_begin 12 (o_iload 1 13) := s_iload_n (k := 1) (by decide +kernel) rfl
set_option maxRecDepth 20000 in
theorem iX3_begin_13 : zSnd zZC zmX3_begin 13 (o_callV zZC 5 zmX3_open 2 0 16) := s_callV (idx := 36) zcX3 calX3_open virX3_open dscX3_open (by decide +kernel) (zWS3 86 rfl rfl) (by decide +kernel)
theorem iX3_begin_16 : zSnd zZC zmX3_begin 16 (o_vret) := s_vret rfl (by decide +kernel)
def kX3_begin : List (Nat × zOp) := [(0, o_aload 0 1),
  (1, o_ic (-1) 2),
  (2, o_putI zYC 5 5 5),
  (5, o_aload 0 6),
  (6, o_ic 0 7),
  (7, o_putI zYC 5 6 10),
  (10, o_aload 0 11),
  (11, o_ic 2 12),
  (12, o_iload 1 13),
  (13, o_callV zZC 5 zmX3_open 2 0 16),
  (16, o_vret)]
set_option maxRecDepth 100000 in
theorem ksX3_begin : ∀ q ∈ kX3_begin, zSnd zZC zmX3_begin q.1 q.2 := zcc iX3_begin_0 (zcc iX3_begin_1 (zcc iX3_begin_2 (zcc iX3_begin_5 (zcc iX3_begin_6 (zcc iX3_begin_7 (zcc iX3_begin_10 (zcc iX3_begin_11 (zcc iX3_begin_12 (zcc iX3_begin_13 (zcc iX3_begin_16 zcn))))))))))
theorem iX3_close_0 : zSnd zZC zmX3_close 0 (o_aload 0 1) := s_aload_n (k := 0) (by decide +kernel) rfl
theorem iX3_close_1 : zSnd zZC zmX3_close 1 (o_getf zYC 5 5 4) := s_getf zcX3 fX3_29 (by decide +kernel) (by decide +kernel)
theorem iX3_close_4 : zSnd zZC zmX3_close 4 (o_if0 (fun x => x < 0) 55 7) := s_if_lt (off := 51) (by decide +kernel) (by decide +kernel)
theorem iX3_close_7 : zSnd zZC zmX3_close 7 (o_aload 0 8) := s_aload_n (k := 0) (by decide +kernel) rfl
theorem iX3_close_8 : zSnd zZC zmX3_close 8 (o_getf zYC 5 5 11) := s_getf zcX3 fX3_29 (by decide +kernel) (by decide +kernel)
theorem iX3_close_11 : zSnd zZC zmX3_close 11 (o_aload 0 12) := s_aload_n (k := 0) (by decide +kernel) rfl
theorem iX3_close_12 : zSnd zZC zmX3_close 12 (o_getf zYC 5 2 15) := s_getf zcX3 fX3_18 (by decide +kernel) (by decide +kernel)
theorem iX3_close_15 : zSnd zZC zmX3_close 15 (o_alen zYC 16) := s_alen zYC_arr (by decide +kernel)
theorem iX3_close_16 : zSnd zZC zmX3_close 16 (o_icmp (fun x y => y ≤ x) 55 19) := s_icmp_ge (off := 39) (by decide +kernel) (by decide +kernel)
theorem iX3_close_19 : zSnd zZC zmX3_close 19 (o_aload 0 20) := s_aload_n (k := 0) (by decide +kernel) rfl
theorem iX3_close_20 : zSnd zZC zmX3_close 20 (o_aload 0 21) := s_aload_n (k := 0) (by decide +kernel) rfl
theorem iX3_close_21 : zSnd zZC zmX3_close 21 (o_getf zYC 5 2 24) := s_getf zcX3 fX3_18 (by decide +kernel) (by decide +kernel)
theorem iX3_close_24 : zSnd zZC zmX3_close 24 (o_aload 0 25) := s_aload_n (k := 0) (by decide +kernel) rfl
theorem iX3_close_25 : zSnd zZC zmX3_close 25 (o_getf zYC 5 5 28) := s_getf zcX3 fX3_29 (by decide +kernel) (by decide +kernel)
theorem iX3_close_28 : zSnd zZC zmX3_close 28 (o_ald zYC .int 29) := s_iald (by decide +kernel)
theorem iX3_close_29 : zSnd zZC zmX3_close 29 (o_putI zYC 5 6 32) := s_putI zcX3 fX3_33 (by decide +kernel) rfl rfl (by decide +kernel)
theorem iX3_close_32 : zSnd zZC zmX3_close 32 (o_aload 0 33) := s_aload_n (k := 0) (by decide +kernel) rfl
theorem iX3_close_33 : zSnd zZC zmX3_close 33 (o_aload 0 34) := s_aload_n (k := 0) (by decide +kernel) rfl
theorem iX3_close_34 : zSnd zZC zmX3_close 34 (o_getf zYC 5 1 37) := s_getf zcX3 fX3_15 (by decide +kernel) (by decide +kernel)
theorem iX3_close_37 : zSnd zZC zmX3_close 37 (o_aload 0 38) := s_aload_n (k := 0) (by decide +kernel) rfl
theorem iX3_close_38 : zSnd zZC zmX3_close 38 (o_getf zYC 5 5 41) := s_getf zcX3 fX3_29 (by decide +kernel) (by decide +kernel)
theorem iX3_close_41 : zSnd zZC zmX3_close 41 (o_ald zYC .int 42) := s_iald (by decide +kernel)
set_option maxRecDepth 20000 in
theorem iX3_close_42 : zSnd zZC zmX3_close 42 (o_callV zZC 5 zmX3_leave 1 0 45) := s_callV (idx := 40) zcX3 calX3_leave virX3_leave dscX3_leave (by decide +kernel) (zWS4 27 rfl rfl) (by decide +kernel)
theorem iX3_close_45 : zSnd zZC zmX3_close 45 (o_aload 0 46) := s_aload_n (k := 0) (by decide +kernel) rfl
theorem iX3_close_46 : zSnd zZC zmX3_close 46 (o_dup 47) := s_dup (by decide +kernel)
theorem iX3_close_47 : zSnd zZC zmX3_close 47 (o_getf zYC 5 5 50) := s_getf zcX3 fX3_29 (by decide +kernel) (by decide +kernel)
theorem iX3_close_50 : zSnd zZC zmX3_close 50 (o_ic 1 51) := s_iconst (i := 1) (by decide +kernel) (by decide +kernel)
theorem iX3_close_51 : zSnd zZC zmX3_close 51 (o_ibin (fun x y => x - y) 52) := s_isub (by decide +kernel)
theorem iX3_close_52 : zSnd zZC zmX3_close 52 (o_putI zYC 5 5 55) := s_putI zcX3 fX3_29 (by decide +kernel) rfl rfl (by decide +kernel)
theorem iX3_close_55 : zSnd zZC zmX3_close 55 (o_vret) := s_vret rfl (by decide +kernel)
def kX3_close : List (Nat × zOp) := [(0, o_aload 0 1),
  (1, o_getf zYC 5 5 4),
  (4, o_if0 (fun x => x < 0) 55 7),
  (7, o_aload 0 8),
  (8, o_getf zYC 5 5 11),
  (11, o_aload 0 12),
  (12, o_getf zYC 5 2 15),
  (15, o_alen zYC 16),
  (16, o_icmp (fun x y => y ≤ x) 55 19),
  (19, o_aload 0 20),
  (20, o_aload 0 21),
  (21, o_getf zYC 5 2 24),
  (24, o_aload 0 25),
  (25, o_getf zYC 5 5 28),
  (28, o_ald zYC .int 29),
  (29, o_putI zYC 5 6 32),
  (32, o_aload 0 33),
  (33, o_aload 0 34),
  (34, o_getf zYC 5 1 37),
  (37, o_aload 0 38),
  (38, o_getf zYC 5 5 41),
  (41, o_ald zYC .int 42),
  (42, o_callV zZC 5 zmX3_leave 1 0 45),
  (45, o_aload 0 46),
  (46, o_dup 47),
  (47, o_getf zYC 5 5 50),
  (50, o_ic 1 51),
  (51, o_ibin (fun x y => x - y) 52),
  (52, o_putI zYC 5 5 55),
  (55, o_vret)]
set_option maxRecDepth 100000 in
theorem ksX3_close : ∀ q ∈ kX3_close, zSnd zZC zmX3_close q.1 q.2 := zcc iX3_close_0 (zcc iX3_close_1 (zcc iX3_close_4 (zcc iX3_close_7 (zcc iX3_close_8 (zcc iX3_close_11 (zcc iX3_close_12 (zcc iX3_close_15 (zcc iX3_close_16 (zcc iX3_close_19 (zcc iX3_close_20 (zcc iX3_close_21 (zcc iX3_close_24 (zcc iX3_close_25 (zcc iX3_close_28 (zcc iX3_close_29 (zcc iX3_close_32 (zcc iX3_close_33 (zcc iX3_close_34 (zcc iX3_close_37 (zcc iX3_close_38 (zcc iX3_close_41 (zcc iX3_close_42 (zcc iX3_close_45 (zcc iX3_close_46 (zcc iX3_close_47 (zcc iX3_close_50 (zcc iX3_close_51 (zcc iX3_close_52 (zcc iX3_close_55 zcn)))))))))))))))))))))))))))))
theorem iX4_blockType_0 : zSnd zZC zmX4_blockType 0 (o_aload 0 1) := s_aload_n (k := 0) (by decide +kernel) rfl
theorem iX4_blockType_1 : zSnd zZC zmX4_blockType 1 (o_getf zYC 1 2 4) := s_getf zcX4 fX4_19 (by decide +kernel) (by decide +kernel)
theorem iX4_blockType_4 : zSnd zZC zmX4_blockType 4 (o_istore 1 5) := s_istore_n (k := 1) (by decide +kernel) rfl (by decide +kernel)
theorem iX4_blockType_5 : zSnd zZC zmX4_blockType 5 (o_aload 0 6) := s_aload_n (k := 0) (by decide +kernel) rfl
set_option maxRecDepth 20000 in
theorem iX4_blockType_6 : zSnd zZC zmX4_blockType 6 (o_callV zZC 1 zmX4_octet 0 1 9) := s_callV (idx := 31) zcX4 calX4_octet virX4_octet dscX4_octet (by decide +kernel) (zWS2 130 rfl rfl) (by decide +kernel)
theorem iX4_blockType_9 : zSnd zZC zmX4_blockType 9 (o_istore 2 10) := s_istore_n (k := 2) (by decide +kernel) rfl (by decide +kernel)
theorem iX4_blockType_10 : zSnd zZC zmX4_blockType 10 (o_iload 2 11) := s_iload_n (k := 2) (by decide +kernel) rfl
theorem iX4_blockType_11 : zSnd zZC zmX4_blockType 11 (o_ic 64 13) := s_bipush (i := 64) (by decide +kernel) (by decide +kernel)
theorem iX4_blockType_13 : zSnd zZC zmX4_blockType 13 (o_icmp (fun x y => x = y) 34 16) := s_icmp_eq (off := 21) (by decide +kernel) (by decide +kernel)
theorem iX4_blockType_16 : zSnd zZC zmX4_blockType 16 (o_iload 2 17) := s_iload_n (k := 2) (by decide +kernel) rfl
theorem iX4_blockType_17 : zSnd zZC zmX4_blockType 17 (o_ic 127 19) := s_bipush (i := 127) (by decide +kernel) (by decide +kernel)
theorem iX4_blockType_19 : zSnd zZC zmX4_blockType 19 (o_icmp (fun x y => x = y) 34 22) := s_icmp_eq (off := 15) (by decide +kernel) (by decide +kernel)
theorem iX4_blockType_22 : zSnd zZC zmX4_blockType 22 (o_iload 2 23) := s_iload_n (k := 2) (by decide +kernel) rfl
theorem iX4_blockType_23 : zSnd zZC zmX4_blockType 23 (o_ic 126 25) := s_bipush (i := 126) (by decide +kernel) (by decide +kernel)
theorem iX4_blockType_25 : zSnd zZC zmX4_blockType 25 (o_icmp (fun x y => x = y) 34 28) := s_icmp_eq (off := 9) (by decide +kernel) (by decide +kernel)
theorem iX4_blockType_28 : zSnd zZC zmX4_blockType 28 (o_aload 0 29) := s_aload_n (k := 0) (by decide +kernel) rfl
theorem iX4_blockType_29 : zSnd zZC zmX4_blockType 29 (o_ic 1 30) := s_iconst (i := 1) (by decide +kernel) (by decide +kernel)
theorem iX4_blockType_30 : zSnd zZC zmX4_blockType 30 (o_iload 1 31) := s_iload_n (k := 1) (by decide +kernel) rfl
set_option maxRecDepth 20000 in
theorem iX4_blockType_31 : zSnd zZC zmX4_blockType 31 (o_callV zZC 1 zmX4_fail 2 0 34) := s_callV (idx := 35) zcX4 calX4_fail virX4_fail dscX4_fail (by decide +kernel) (zWS2 134 rfl rfl) (by decide +kernel)
theorem iX4_blockType_34 : zSnd zZC zmX4_blockType 34 (o_iload 2 35) := s_iload_n (k := 2) (by decide +kernel) rfl
theorem iX4_blockType_35 : zSnd zZC zmX4_blockType 35 (o_iret) := s_iret rfl (by decide +kernel)
def kX4_blockType : List (Nat × zOp) := [(0, o_aload 0 1),
  (1, o_getf zYC 1 2 4),
  (4, o_istore 1 5),
  (5, o_aload 0 6),
  (6, o_callV zZC 1 zmX4_octet 0 1 9),
  (9, o_istore 2 10),
  (10, o_iload 2 11),
  (11, o_ic 64 13),
  (13, o_icmp (fun x y => x = y) 34 16),
  (16, o_iload 2 17),
  (17, o_ic 127 19),
  (19, o_icmp (fun x y => x = y) 34 22),
  (22, o_iload 2 23),
  (23, o_ic 126 25),
  (25, o_icmp (fun x y => x = y) 34 28),
  (28, o_aload 0 29),
  (29, o_ic 1 30),
  (30, o_iload 1 31),
  (31, o_callV zZC 1 zmX4_fail 2 0 34),
  (34, o_iload 2 35),
  (35, o_iret)]
set_option maxRecDepth 100000 in
theorem ksX4_blockType : ∀ q ∈ kX4_blockType, zSnd zZC zmX4_blockType q.1 q.2 := zcc iX4_blockType_0 (zcc iX4_blockType_1 (zcc iX4_blockType_4 (zcc iX4_blockType_5 (zcc iX4_blockType_6 (zcc iX4_blockType_9 (zcc iX4_blockType_10 (zcc iX4_blockType_11 (zcc iX4_blockType_13 (zcc iX4_blockType_16 (zcc iX4_blockType_17 (zcc iX4_blockType_19 (zcc iX4_blockType_22 (zcc iX4_blockType_23 (zcc iX4_blockType_25 (zcc iX4_blockType_28 (zcc iX4_blockType_29 (zcc iX4_blockType_30 (zcc iX4_blockType_31 (zcc iX4_blockType_34 (zcc iX4_blockType_35 zcn))))))))))))))))))))
theorem iX4_leave_0 : zSnd zZC zmX4_leave 0 (o_aload 0 1) := s_aload_n (k := 0) (by decide +kernel) rfl
theorem iX4_leave_1 : zSnd zZC zmX4_leave 1 (o_getf zYC 1 2 4) := s_getf zcX4 fX4_19 (by decide +kernel) (by decide +kernel)
theorem iX4_leave_4 : zSnd zZC zmX4_leave 4 (o_aload 0 5) := s_aload_n (k := 0) (by decide +kernel) rfl
theorem iX4_leave_5 : zSnd zZC zmX4_leave 5 (o_getf zYC 1 3 8) := s_getf zcX4 fX4_22 (by decide +kernel) (by decide +kernel)
theorem iX4_leave_8 : zSnd zZC zmX4_leave 8 (o_icmp (fun x y => y ≤ x) 20 11) := s_icmp_ge (off := 12) (by decide +kernel) (by decide +kernel)
theorem iX4_leave_11 : zSnd zZC zmX4_leave 11 (o_aload 0 12) := s_aload_n (k := 0) (by decide +kernel) rfl
theorem iX4_leave_12 : zSnd zZC zmX4_leave 12 (o_ic 1 13) := s_iconst (i := 1) (by decide +kernel) (by decide +kernel)
theorem iX4_leave_13 : zSnd zZC zmX4_leave 13 (o_aload 0 14) := s_aload_n (k := 0) (by decide +kernel) rfl
theorem iX4_leave_14 : zSnd zZC zmX4_leave 14 (o_getf zYC 1 2 17) := s_getf zcX4 fX4_19 (by decide +kernel) (by decide +kernel)
set_option maxRecDepth 20000 in
theorem iX4_leave_17 : zSnd zZC zmX4_leave 17 (o_callV zZC 1 zmX4_fail 2 0 20) := s_callV (idx := 35) zcX4 calX4_fail virX4_fail dscX4_fail (by decide +kernel) (zWS2 134 rfl rfl) (by decide +kernel)
theorem iX4_leave_20 : zSnd zZC zmX4_leave 20 (o_aload 0 21) := s_aload_n (k := 0) (by decide +kernel) rfl
theorem iX4_leave_21 : zSnd zZC zmX4_leave 21 (o_iload 1 22) := s_iload_n (k := 1) (by decide +kernel) rfl
theorem iX4_leave_22 : zSnd zZC zmX4_leave 22 (o_putI zYC 1 3 25) := s_putI zcX4 fX4_22 (by decide +kernel) rfl rfl (by decide +kernel)
theorem iX4_leave_25 : zSnd zZC zmX4_leave 25 (o_vret) := s_vret rfl (by decide +kernel)
def kX4_leave : List (Nat × zOp) := [(0, o_aload 0 1),
  (1, o_getf zYC 1 2 4),
  (4, o_aload 0 5),
  (5, o_getf zYC 1 3 8),
  (8, o_icmp (fun x y => y ≤ x) 20 11),
  (11, o_aload 0 12),
  (12, o_ic 1 13),
  (13, o_aload 0 14),
  (14, o_getf zYC 1 2 17),
  (17, o_callV zZC 1 zmX4_fail 2 0 20),
  (20, o_aload 0 21),
  (21, o_iload 1 22),
  (22, o_putI zYC 1 3 25),
  (25, o_vret)]
set_option maxRecDepth 100000 in
theorem ksX4_leave : ∀ q ∈ kX4_leave, zSnd zZC zmX4_leave q.1 q.2 := zcc iX4_leave_0 (zcc iX4_leave_1 (zcc iX4_leave_4 (zcc iX4_leave_5 (zcc iX4_leave_8 (zcc iX4_leave_11 (zcc iX4_leave_12 (zcc iX4_leave_13 (zcc iX4_leave_14 (zcc iX4_leave_17 (zcc iX4_leave_20 (zcc iX4_leave_21 (zcc iX4_leave_22 (zcc iX4_leave_25 zcn)))))))))))))
theorem iX4_number_0 : zSnd zZC zmX4_number 0 (o_aload 0 1) := s_aload_n (k := 0) (by decide +kernel) rfl
theorem iX4_number_1 : zSnd zZC zmX4_number 1 (o_getf zYC 1 2 4) := s_getf zcX4 fX4_19 (by decide +kernel) (by decide +kernel)
theorem iX4_number_4 : zSnd zZC zmX4_number 4 (o_istore 1 5) := s_istore_n (k := 1) (by decide +kernel) rfl (by decide +kernel)
theorem iX4_number_5 : zSnd zZC zmX4_number 5 (o_lc 0 6) := s_lconst (i := 0) (by decide +kernel) (by decide +kernel)
theorem iX4_number_6 : zSnd zZC zmX4_number 6 (o_lstore 2 7) := s_lstore_n (k := 2) (by decide +kernel) rfl (by decide +kernel)
theorem iX4_number_7 : zSnd zZC zmX4_number 7 (o_ic 0 8) := s_iconst (i := 0) (by decide +kernel) (by decide +kernel)
theorem iX4_number_8 : zSnd zZC zmX4_number 8 (o_istore 4 10) := s_istore (by decide +kernel) (by decide +kernel)
theorem iX4_number_10 : zSnd zZC zmX4_number 10 (o_iload 4 12) := s_iload (by decide +kernel)
theorem iX4_number_12 : zSnd zZC zmX4_number 12 (o_ic 5 13) := s_iconst (i := 5) (by decide +kernel) (by decide +kernel)
theorem iX4_number_13 : zSnd zZC zmX4_number 13 (o_icmp (fun x y => y ≤ x) 80 16) := s_icmp_ge (off := 67) (by decide +kernel) (by decide +kernel)
theorem iX4_number_16 : zSnd zZC zmX4_number 16 (o_aload 0 17) := s_aload_n (k := 0) (by decide +kernel) rfl
theorem iX4_number_17 : zSnd zZC zmX4_number 17 (o_getf zYC 1 4 20) := s_getf zcX4 fX4_25 (by decide +kernel) (by decide +kernel)
theorem iX4_number_20 : zSnd zZC zmX4_number 20 (o_if0 (fun x => x = 0) 23 80) := s_if_ne (off := 60) (by decide +kernel) (by decide +kernel)
theorem iX4_number_23 : zSnd zZC zmX4_number 23 (o_aload 0 24) := s_aload_n (k := 0) (by decide +kernel) rfl
set_option maxRecDepth 20000 in
theorem iX4_number_24 : zSnd zZC zmX4_number 24 (o_callV zZC 1 zmX4_octet 0 1 27) := s_callV (idx := 31) zcX4 calX4_octet virX4_octet dscX4_octet (by decide +kernel) (zWS2 130 rfl rfl) (by decide +kernel)
theorem iX4_number_27 : zSnd zZC zmX4_number 27 (o_istore 5 29) := s_istore (by decide +kernel) (by decide +kernel)
theorem iX4_number_29 : zSnd zZC zmX4_number 29 (o_iload 4 31) := s_iload (by decide +kernel)
theorem iX4_number_31 : zSnd zZC zmX4_number 31 (o_ic 4 32) := s_iconst (i := 4) (by decide +kernel) (by decide +kernel)
theorem iX4_number_32 : zSnd zZC zmX4_number 32 (o_icmp (fun x y => x = y) 35 48) := s_icmp_ne (off := 16) (by decide +kernel) (by decide +kernel)
theorem iX4_number_35 : zSnd zZC zmX4_number 35 (o_iload 5 37) := s_iload (by decide +kernel)
theorem iX4_number_37 : zSnd zZC zmX4_number 37 (o_ic 15 39) := s_bipush (i := 15) (by decide +kernel) (by decide +kernel)
theorem iX4_number_39 : zSnd zZC zmX4_number 39 (o_icmp (fun x y => x ≤ y) 48 42) := s_icmp_le (off := 9) (by decide +kernel) (by decide +kernel)
theorem iX4_number_42 : zSnd zZC zmX4_number 42 (o_aload 0 43) := s_aload_n (k := 0) (by decide +kernel) rfl
theorem iX4_number_43 : zSnd zZC zmX4_number 43 (o_ic 1 44) := s_iconst (i := 1) (by decide +kernel) (by decide +kernel)
theorem iX4_number_44 : zSnd zZC zmX4_number 44 (o_iload 1 45) := s_iload_n (k := 1) (by decide +kernel) rfl
set_option maxRecDepth 20000 in
theorem iX4_number_45 : zSnd zZC zmX4_number 45 (o_callV zZC 1 zmX4_fail 2 0 48) := s_callV (idx := 35) zcX4 calX4_fail virX4_fail dscX4_fail (by decide +kernel) (zWS2 134 rfl rfl) (by decide +kernel)
theorem iX4_number_48 : zSnd zZC zmX4_number 48 (o_lload 2 49) := s_lload_n (k := 2) (by decide +kernel) rfl
theorem iX4_number_49 : zSnd zZC zmX4_number 49 (o_iload 5 51) := s_iload (by decide +kernel)
theorem iX4_number_51 : zSnd zZC zmX4_number 51 (o_ic 127 53) := s_bipush (i := 127) (by decide +kernel) (by decide +kernel)
theorem iX4_number_53 : zSnd zZC zmX4_number 53 (o_ibin (fun x y => x &&& y) 54) := s_iand (by decide +kernel)
theorem iX4_number_54 : zSnd zZC zmX4_number 54 (o_i2l 55) := s_i2l (by decide +kernel)
theorem iX4_number_55 : zSnd zZC zmX4_number 55 (o_ic 7 57) := s_bipush (i := 7) (by decide +kernel) (by decide +kernel)
theorem iX4_number_57 : zSnd zZC zmX4_number 57 (o_iload 4 59) := s_iload (by decide +kernel)
theorem iX4_number_59 : zSnd zZC zmX4_number 59 (o_ibin (fun x y => x * y) 60) := s_imul (by decide +kernel)
theorem iX4_number_60 : zSnd zZC zmX4_number 60 (o_lsh (fun x y => x <<< (y.toInt64 &&& 63)) 61) := s_lshl (by decide +kernel)
theorem iX4_number_61 : zSnd zZC zmX4_number 61 (o_lbin (fun x y => x ||| y) 62) := s_lor (by decide +kernel)
theorem iX4_number_62 : zSnd zZC zmX4_number 62 (o_lstore 2 63) := s_lstore_n (k := 2) (by decide +kernel) rfl (by decide +kernel)
theorem iX4_number_63 : zSnd zZC zmX4_number 63 (o_iload 5 65) := s_iload (by decide +kernel)
theorem iX4_number_65 : zSnd zZC zmX4_number 65 (o_ic 128 68) := s_sipush (i := 128) (by decide +kernel) (by decide +kernel)
theorem iX4_number_68 : zSnd zZC zmX4_number 68 (o_icmp (fun x y => y ≤ x) 74 71) := s_icmp_ge (off := 6) (by decide +kernel) (by decide +kernel)
theorem iX4_number_71 : zSnd zZC zmX4_number 71 (o_goto 80) := s_goto (off := 9) (by decide +kernel) (by decide +kernel)
theorem iX4_number_74 : zSnd zZC zmX4_number 74 (o_iinc 4 1 77) := s_iinc (a := 1) (by decide +kernel) (by decide +kernel) (by decide +kernel)
theorem iX4_number_77 : zSnd zZC zmX4_number 77 (o_goto 10) := s_goto (off := (-67)) (by decide +kernel) (by decide +kernel)
theorem iX4_number_80 : zSnd zZC zmX4_number 80 (o_aload 0 81) := s_aload_n (k := 0) (by decide +kernel) rfl
theorem iX4_number_81 : zSnd zZC zmX4_number 81 (o_getf zYC 1 4 84) := s_getf zcX4 fX4_25 (by decide +kernel) (by decide +kernel)
theorem iX4_number_84 : zSnd zZC zmX4_number 84 (o_if0 (fun x => x = 0) 87 91) := s_if_ne (off := 7) (by decide +kernel) (by decide +kernel)
theorem iX4_number_87 : zSnd zZC zmX4_number 87 (o_lload 2 88) := s_lload_n (k := 2) (by decide +kernel) rfl
theorem iX4_number_88 : zSnd zZC zmX4_number 88 (o_goto 92) := s_goto (off := 4) (by decide +kernel) (by decide +kernel)
theorem iX4_number_91 : zSnd zZC zmX4_number 91 (o_lc 0 92) := s_lconst (i := 0) (by decide +kernel) (by decide +kernel)
theorem iX4_number_92 : zSnd zZC zmX4_number 92 (o_lret) := s_lret rfl (by decide +kernel)
def kX4_number : List (Nat × zOp) := [(0, o_aload 0 1),
  (1, o_getf zYC 1 2 4),
  (4, o_istore 1 5),
  (5, o_lc 0 6),
  (6, o_lstore 2 7),
  (7, o_ic 0 8),
  (8, o_istore 4 10),
  (10, o_iload 4 12),
  (12, o_ic 5 13),
  (13, o_icmp (fun x y => y ≤ x) 80 16),
  (16, o_aload 0 17),
  (17, o_getf zYC 1 4 20),
  (20, o_if0 (fun x => x = 0) 23 80),
  (23, o_aload 0 24),
  (24, o_callV zZC 1 zmX4_octet 0 1 27),
  (27, o_istore 5 29),
  (29, o_iload 4 31),
  (31, o_ic 4 32),
  (32, o_icmp (fun x y => x = y) 35 48),
  (35, o_iload 5 37),
  (37, o_ic 15 39),
  (39, o_icmp (fun x y => x ≤ y) 48 42),
  (42, o_aload 0 43),
  (43, o_ic 1 44),
  (44, o_iload 1 45),
  (45, o_callV zZC 1 zmX4_fail 2 0 48),
  (48, o_lload 2 49),
  (49, o_iload 5 51),
  (51, o_ic 127 53),
  (53, o_ibin (fun x y => x &&& y) 54),
  (54, o_i2l 55),
  (55, o_ic 7 57),
  (57, o_iload 4 59),
  (59, o_ibin (fun x y => x * y) 60),
  (60, o_lsh (fun x y => x <<< (y.toInt64 &&& 63)) 61),
  (61, o_lbin (fun x y => x ||| y) 62),
  (62, o_lstore 2 63),
  (63, o_iload 5 65),
  (65, o_ic 128 68),
  (68, o_icmp (fun x y => y ≤ x) 74 71),
  (71, o_goto 80),
  (74, o_iinc 4 1 77),
  (77, o_goto 10),
  (80, o_aload 0 81),
  (81, o_getf zYC 1 4 84),
  (84, o_if0 (fun x => x = 0) 87 91),
  (87, o_lload 2 88),
  (88, o_goto 92),
  (91, o_lc 0 92),
  (92, o_lret)]
set_option maxRecDepth 100000 in
theorem ksX4_number : ∀ q ∈ kX4_number, zSnd zZC zmX4_number q.1 q.2 := zcc iX4_number_0 (zcc iX4_number_1 (zcc iX4_number_4 (zcc iX4_number_5 (zcc iX4_number_6 (zcc iX4_number_7 (zcc iX4_number_8 (zcc iX4_number_10 (zcc iX4_number_12 (zcc iX4_number_13 (zcc iX4_number_16 (zcc iX4_number_17 (zcc iX4_number_20 (zcc iX4_number_23 (zcc iX4_number_24 (zcc iX4_number_27 (zcc iX4_number_29 (zcc iX4_number_31 (zcc iX4_number_32 (zcc iX4_number_35 (zcc iX4_number_37 (zcc iX4_number_39 (zcc iX4_number_42 (zcc iX4_number_43 (zcc iX4_number_44 (zcc iX4_number_45 (zcc iX4_number_48 (zcc iX4_number_49 (zcc iX4_number_51 (zcc iX4_number_53 (zcc iX4_number_54 (zcc iX4_number_55 (zcc iX4_number_57 (zcc iX4_number_59 (zcc iX4_number_60 (zcc iX4_number_61 (zcc iX4_number_62 (zcc iX4_number_63 (zcc iX4_number_65 (zcc iX4_number_68 (zcc iX4_number_71 (zcc iX4_number_74 (zcc iX4_number_77 (zcc iX4_number_80 (zcc iX4_number_81 (zcc iX4_number_84 (zcc iX4_number_87 (zcc iX4_number_88 (zcc iX4_number_91 (zcc iX4_number_92 zcn)))))))))))))))))))))))))))))))))))))))))))))))))
theorem iX4_octetWithin_0 : zSnd zZC zmX4_octetWithin 0 (o_aload 0 1) := s_aload_n (k := 0) (by decide +kernel) rfl
theorem iX4_octetWithin_1 : zSnd zZC zmX4_octetWithin 1 (o_getf zYC 1 2 4) := s_getf zcX4 fX4_19 (by decide +kernel) (by decide +kernel)
theorem iX4_octetWithin_4 : zSnd zZC zmX4_octetWithin 4 (o_istore 3 5) := s_istore_n (k := 3) (by decide +kernel) rfl (by decide +kernel)
theorem iX4_octetWithin_5 : zSnd zZC zmX4_octetWithin 5 (o_aload 0 6) := s_aload_n (k := 0) (by decide +kernel) rfl
set_option maxRecDepth 20000 in
theorem iX4_octetWithin_6 : zSnd zZC zmX4_octetWithin 6 (o_callV zZC 1 zmX4_octet 0 1 9) := s_callV (idx := 31) zcX4 calX4_octet virX4_octet dscX4_octet (by decide +kernel) (zWS2 130 rfl rfl) (by decide +kernel)
theorem iX4_octetWithin_9 : zSnd zZC zmX4_octetWithin 9 (o_istore 4 11) := s_istore (by decide +kernel) (by decide +kernel)
theorem iX4_octetWithin_11 : zSnd zZC zmX4_octetWithin 11 (o_iload 4 13) := s_iload (by decide +kernel)
theorem iX4_octetWithin_13 : zSnd zZC zmX4_octetWithin 13 (o_iload 1 14) := s_iload_n (k := 1) (by decide +kernel) rfl
theorem iX4_octetWithin_14 : zSnd zZC zmX4_octetWithin 14 (o_icmp (fun x y => x < y) 23 17) := s_icmp_lt (off := 9) (by decide +kernel) (by decide +kernel)
theorem iX4_octetWithin_17 : zSnd zZC zmX4_octetWithin 17 (o_iload 4 19) := s_iload (by decide +kernel)
theorem iX4_octetWithin_19 : zSnd zZC zmX4_octetWithin 19 (o_iload 2 20) := s_iload_n (k := 2) (by decide +kernel) rfl
theorem iX4_octetWithin_20 : zSnd zZC zmX4_octetWithin 20 (o_icmp (fun x y => x ≤ y) 29 23) := s_icmp_le (off := 9) (by decide +kernel) (by decide +kernel)
theorem iX4_octetWithin_23 : zSnd zZC zmX4_octetWithin 23 (o_aload 0 24) := s_aload_n (k := 0) (by decide +kernel) rfl
theorem iX4_octetWithin_24 : zSnd zZC zmX4_octetWithin 24 (o_ic 1 25) := s_iconst (i := 1) (by decide +kernel) (by decide +kernel)
theorem iX4_octetWithin_25 : zSnd zZC zmX4_octetWithin 25 (o_iload 3 26) := s_iload_n (k := 3) (by decide +kernel) rfl
set_option maxRecDepth 20000 in
theorem iX4_octetWithin_26 : zSnd zZC zmX4_octetWithin 26 (o_callV zZC 1 zmX4_fail 2 0 29) := s_callV (idx := 35) zcX4 calX4_fail virX4_fail dscX4_fail (by decide +kernel) (zWS2 134 rfl rfl) (by decide +kernel)
theorem iX4_octetWithin_29 : zSnd zZC zmX4_octetWithin 29 (o_iload 4 31) := s_iload (by decide +kernel)
theorem iX4_octetWithin_31 : zSnd zZC zmX4_octetWithin 31 (o_iret) := s_iret rfl (by decide +kernel)
def kX4_octetWithin : List (Nat × zOp) := [(0, o_aload 0 1),
  (1, o_getf zYC 1 2 4),
  (4, o_istore 3 5),
  (5, o_aload 0 6),
  (6, o_callV zZC 1 zmX4_octet 0 1 9),
  (9, o_istore 4 11),
  (11, o_iload 4 13),
  (13, o_iload 1 14),
  (14, o_icmp (fun x y => x < y) 23 17),
  (17, o_iload 4 19),
  (19, o_iload 2 20),
  (20, o_icmp (fun x y => x ≤ y) 29 23),
  (23, o_aload 0 24),
  (24, o_ic 1 25),
  (25, o_iload 3 26),
  (26, o_callV zZC 1 zmX4_fail 2 0 29),
  (29, o_iload 4 31),
  (31, o_iret)]
set_option maxRecDepth 100000 in
theorem ksX4_octetWithin : ∀ q ∈ kX4_octetWithin, zSnd zZC zmX4_octetWithin q.1 q.2 := zcc iX4_octetWithin_0 (zcc iX4_octetWithin_1 (zcc iX4_octetWithin_4 (zcc iX4_octetWithin_5 (zcc iX4_octetWithin_6 (zcc iX4_octetWithin_9 (zcc iX4_octetWithin_11 (zcc iX4_octetWithin_13 (zcc iX4_octetWithin_14 (zcc iX4_octetWithin_17 (zcc iX4_octetWithin_19 (zcc iX4_octetWithin_20 (zcc iX4_octetWithin_23 (zcc iX4_octetWithin_24 (zcc iX4_octetWithin_25 (zcc iX4_octetWithin_26 (zcc iX4_octetWithin_29 (zcc iX4_octetWithin_31 zcn)))))))))))))))))
theorem iX4_skipSigned_0 : zSnd zZC zmX4_skipSigned 0 (o_aload 0 1) := s_aload_n (k := 0) (by decide +kernel) rfl
theorem iX4_skipSigned_1 : zSnd zZC zmX4_skipSigned 1 (o_getf zYC 1 2 4) := s_getf zcX4 fX4_19 (by decide +kernel) (by decide +kernel)
theorem iX4_skipSigned_4 : zSnd zZC zmX4_skipSigned 4 (o_istore 3 5) := s_istore_n (k := 3) (by decide +kernel) rfl (by decide +kernel)
theorem iX4_skipSigned_5 : zSnd zZC zmX4_skipSigned 5 (o_ic 1 6) := s_iconst (i := 1) (by decide +kernel) (by decide +kernel)
theorem iX4_skipSigned_6 : zSnd zZC zmX4_skipSigned 6 (o_istore 4 8) := s_istore (by decide +kernel) (by decide +kernel)
theorem iX4_skipSigned_8 : zSnd zZC zmX4_skipSigned 8 (o_iload 4 10) := s_iload (by decide +kernel)
theorem iX4_skipSigned_10 : zSnd zZC zmX4_skipSigned 10 (o_iload 1 11) := s_iload_n (k := 1) (by decide +kernel) rfl
theorem iX4_skipSigned_11 : zSnd zZC zmX4_skipSigned 11 (o_icmp (fun x y => y < x) 78 14) := s_icmp_gt (off := 67) (by decide +kernel) (by decide +kernel)
theorem iX4_skipSigned_14 : zSnd zZC zmX4_skipSigned 14 (o_aload 0 15) := s_aload_n (k := 0) (by decide +kernel) rfl
theorem iX4_skipSigned_15 : zSnd zZC zmX4_skipSigned 15 (o_getf zYC 1 4 18) := s_getf zcX4 fX4_25 (by decide +kernel) (by decide +kernel)
theorem iX4_skipSigned_18 : zSnd zZC zmX4_skipSigned 18 (o_if0 (fun x => x = 0) 21 78) := s_if_ne (off := 60) (by decide +kernel) (by decide +kernel)
theorem iX4_skipSigned_21 : zSnd zZC zmX4_skipSigned 21 (o_aload 0 22) := s_aload_n (k := 0) (by decide +kernel) rfl
set_option maxRecDepth 20000 in
theorem iX4_skipSigned_22 : zSnd zZC zmX4_skipSigned 22 (o_callV zZC 1 zmX4_octet 0 1 25) := s_callV (idx := 31) zcX4 calX4_octet virX4_octet dscX4_octet (by decide +kernel) (zWS2 130 rfl rfl) (by decide +kernel)
theorem iX4_skipSigned_25 : zSnd zZC zmX4_skipSigned 25 (o_istore 5 27) := s_istore (by decide +kernel) (by decide +kernel)
theorem iX4_skipSigned_27 : zSnd zZC zmX4_skipSigned 27 (o_iload 4 29) := s_iload (by decide +kernel)
theorem iX4_skipSigned_29 : zSnd zZC zmX4_skipSigned 29 (o_iload 1 30) := s_iload_n (k := 1) (by decide +kernel) rfl
theorem iX4_skipSigned_30 : zSnd zZC zmX4_skipSigned 30 (o_icmp (fun x y => x = y) 33 61) := s_icmp_ne (off := 31) (by decide +kernel) (by decide +kernel)
theorem iX4_skipSigned_33 : zSnd zZC zmX4_skipSigned 33 (o_iload 5 35) := s_iload (by decide +kernel)
theorem iX4_skipSigned_35 : zSnd zZC zmX4_skipSigned 35 (o_iload 2 36) := s_iload_n (k := 2) (by decide +kernel) rfl
theorem iX4_skipSigned_36 : zSnd zZC zmX4_skipSigned 36 (o_icmp (fun x y => x ≤ y) 61 39) := s_icmp_le (off := 25) (by decide +kernel) (by decide +kernel)
theorem iX4_skipSigned_39 : zSnd zZC zmX4_skipSigned 39 (o_iload 5 41) := s_iload (by decide +kernel)
theorem iX4_skipSigned_41 : zSnd zZC zmX4_skipSigned 41 (o_ic 127 43) := s_bipush (i := 127) (by decide +kernel) (by decide +kernel)
theorem iX4_skipSigned_43 : zSnd zZC zmX4_skipSigned 43 (o_iload 2 44) := s_iload_n (k := 2) (by decide +kernel) rfl
theorem iX4_skipSigned_44 : zSnd zZC zmX4_skipSigned 44 (o_ibin (fun x y => x - y) 45) := s_isub (by decide +kernel)
theorem iX4_skipSigned_45 : zSnd zZC zmX4_skipSigned 45 (o_icmp (fun x y => x < y) 55 48) := s_icmp_lt (off := 10) (by decide +kernel) (by decide +kernel)
theorem iX4_skipSigned_48 : zSnd zZC zmX4_skipSigned 48 (o_iload 5 50) := s_iload (by decide +kernel)
theorem iX4_skipSigned_50 : zSnd zZC zmX4_skipSigned 50 (o_ic 127 52) := s_bipush (i := 127) (by decide +kernel) (by decide +kernel)
theorem iX4_skipSigned_52 : zSnd zZC zmX4_skipSigned 52 (o_icmp (fun x y => x ≤ y) 61 55) := s_icmp_le (off := 9) (by decide +kernel) (by decide +kernel)
theorem iX4_skipSigned_55 : zSnd zZC zmX4_skipSigned 55 (o_aload 0 56) := s_aload_n (k := 0) (by decide +kernel) rfl
theorem iX4_skipSigned_56 : zSnd zZC zmX4_skipSigned 56 (o_ic 1 57) := s_iconst (i := 1) (by decide +kernel) (by decide +kernel)
theorem iX4_skipSigned_57 : zSnd zZC zmX4_skipSigned 57 (o_iload 3 58) := s_iload_n (k := 3) (by decide +kernel) rfl
set_option maxRecDepth 20000 in
theorem iX4_skipSigned_58 : zSnd zZC zmX4_skipSigned 58 (o_callV zZC 1 zmX4_fail 2 0 61) := s_callV (idx := 35) zcX4 calX4_fail virX4_fail dscX4_fail (by decide +kernel) (zWS2 134 rfl rfl) (by decide +kernel)
theorem iX4_skipSigned_61 : zSnd zZC zmX4_skipSigned 61 (o_iload 5 63) := s_iload (by decide +kernel)
theorem iX4_skipSigned_63 : zSnd zZC zmX4_skipSigned 63 (o_ic 128 66) := s_sipush (i := 128) (by decide +kernel) (by decide +kernel)
theorem iX4_skipSigned_66 : zSnd zZC zmX4_skipSigned 66 (o_icmp (fun x y => y ≤ x) 72 69) := s_icmp_ge (off := 6) (by decide +kernel) (by decide +kernel)
theorem iX4_skipSigned_69 : zSnd zZC zmX4_skipSigned 69 (o_goto 78) := s_goto (off := 9) (by decide +kernel) (by decide +kernel)
theorem iX4_skipSigned_72 : zSnd zZC zmX4_skipSigned 72 (o_iinc 4 1 75) := s_iinc (a := 1) (by decide +kernel) (by decide +kernel) (by decide +kernel)
theorem iX4_skipSigned_75 : zSnd zZC zmX4_skipSigned 75 (o_goto 8) := s_goto (off := (-67)) (by decide +kernel) (by decide +kernel)
theorem iX4_skipSigned_78 : zSnd zZC zmX4_skipSigned 78 (o_vret) := s_vret rfl (by decide +kernel)
def kX4_skipSigned : List (Nat × zOp) := [(0, o_aload 0 1),
  (1, o_getf zYC 1 2 4),
  (4, o_istore 3 5),
  (5, o_ic 1 6),
  (6, o_istore 4 8),
  (8, o_iload 4 10),
  (10, o_iload 1 11),
  (11, o_icmp (fun x y => y < x) 78 14),
  (14, o_aload 0 15),
  (15, o_getf zYC 1 4 18),
  (18, o_if0 (fun x => x = 0) 21 78),
  (21, o_aload 0 22),
  (22, o_callV zZC 1 zmX4_octet 0 1 25),
  (25, o_istore 5 27),
  (27, o_iload 4 29),
  (29, o_iload 1 30),
  (30, o_icmp (fun x y => x = y) 33 61),
  (33, o_iload 5 35),
  (35, o_iload 2 36),
  (36, o_icmp (fun x y => x ≤ y) 61 39),
  (39, o_iload 5 41),
  (41, o_ic 127 43),
  (43, o_iload 2 44),
  (44, o_ibin (fun x y => x - y) 45),
  (45, o_icmp (fun x y => x < y) 55 48),
  (48, o_iload 5 50),
  (50, o_ic 127 52),
  (52, o_icmp (fun x y => x ≤ y) 61 55),
  (55, o_aload 0 56),
  (56, o_ic 1 57),
  (57, o_iload 3 58),
  (58, o_callV zZC 1 zmX4_fail 2 0 61),
  (61, o_iload 5 63),
  (63, o_ic 128 66),
  (66, o_icmp (fun x y => y ≤ x) 72 69),
  (69, o_goto 78),
  (72, o_iinc 4 1 75),
  (75, o_goto 8),
  (78, o_vret)]
set_option maxRecDepth 100000 in
theorem ksX4_skipSigned : ∀ q ∈ kX4_skipSigned, zSnd zZC zmX4_skipSigned q.1 q.2 := zcc iX4_skipSigned_0 (zcc iX4_skipSigned_1 (zcc iX4_skipSigned_4 (zcc iX4_skipSigned_5 (zcc iX4_skipSigned_6 (zcc iX4_skipSigned_8 (zcc iX4_skipSigned_10 (zcc iX4_skipSigned_11 (zcc iX4_skipSigned_14 (zcc iX4_skipSigned_15 (zcc iX4_skipSigned_18 (zcc iX4_skipSigned_21 (zcc iX4_skipSigned_22 (zcc iX4_skipSigned_25 (zcc iX4_skipSigned_27 (zcc iX4_skipSigned_29 (zcc iX4_skipSigned_30 (zcc iX4_skipSigned_33 (zcc iX4_skipSigned_35 (zcc iX4_skipSigned_36 (zcc iX4_skipSigned_39 (zcc iX4_skipSigned_41 (zcc iX4_skipSigned_43 (zcc iX4_skipSigned_44 (zcc iX4_skipSigned_45 (zcc iX4_skipSigned_48 (zcc iX4_skipSigned_50 (zcc iX4_skipSigned_52 (zcc iX4_skipSigned_55 (zcc iX4_skipSigned_56 (zcc iX4_skipSigned_57 (zcc iX4_skipSigned_58 (zcc iX4_skipSigned_61 (zcc iX4_skipSigned_63 (zcc iX4_skipSigned_66 (zcc iX4_skipSigned_69 (zcc iX4_skipSigned_72 (zcc iX4_skipSigned_75 (zcc iX4_skipSigned_78 zcn))))))))))))))))))))))))))))))))))))))
