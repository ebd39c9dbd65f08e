theorem iX10_areRight_0 : zSnd zZM zmX10_areRight 0 (o_lload 3 1) := s_lload_n (k := 3) (by decide +kernel) rfl
theorem iX10_areRight_1 : zSnd zZM zmX10_areRight 1 (o_lc 0 2) := s_lconst (i := 0) (by decide +kernel) (by decide +kernel)
theorem iX10_areRight_2 : zSnd zZM zmX10_areRight 2 (o_lif (fun x y => x < y) 12 6) := s_llt (off := 9) (by decide +kernel) (by decide +kernel) (by decide +kernel)
theorem iX10_areRight_6 : zSnd zZM zmX10_areRight 6 (o_lload 3 7) := s_lload_n (k := 3) (by decide +kernel) rfl
theorem iX10_areRight_7 : zSnd zZM zmX10_areRight 7 (o_lload 1 8) := s_lload_n (k := 1) (by decide +kernel) rfl
theorem iX10_areRight_8 : zSnd zZM zmX10_areRight 8 (o_lif (fun x y => x < y) 37 12) := s_llt (off := 28) (by decide +kernel) (by decide +kernel) (by decide +kernel)
theorem iX10_areRight_12 : zSnd zZM zmX10_areRight 12 (o_iload 0 13) := s_iload_n (k := 0) (by decide +kernel) rfl
theorem iX10_areRight_13 : zSnd zZM zmX10_areRight 13 (o_ic 1 14) := s_iconst (i := 1) (by decide +kernel) (by decide +kernel)
theorem iX10_areRight_14 : zSnd zZM zmX10_areRight 14 (o_icmp (fun x y => x = y) 33 17) := s_icmp_eq (off := 19) (by decide +kernel) (by decide +kernel)
theorem iX10_areRight_17 : zSnd zZM zmX10_areRight 17 (o_lload 1 18) := s_lload_n (k := 1) (by decide +kernel) rfl
set_option maxRecDepth 20000 in
theorem iX10_areRight_18 : zSnd zZM zmX10_areRight 18 (o_lc 65536 21) := s_ldc2 (i := 449) (by decide +kernel) (zWS6 228 rfl rfl)
theorem iX10_areRight_21 : zSnd zZM zmX10_areRight 21 (o_lif (fun x y => y < x) 37 25) := s_lgt (off := 15) (by decide +kernel) (by decide +kernel) (by decide +kernel)
theorem iX10_areRight_25 : zSnd zZM zmX10_areRight 25 (o_lload 3 26) := s_lload_n (k := 3) (by decide +kernel) rfl
set_option maxRecDepth 20000 in
theorem iX10_areRight_26 : zSnd zZM zmX10_areRight 26 (o_lc 65536 29) := s_ldc2 (i := 449) (by decide +kernel) (zWS6 228 rfl rfl)
theorem iX10_areRight_29 : zSnd zZM zmX10_areRight 29 (o_lif (fun x y => y < x) 37 33) := s_lgt (off := 7) (by decide +kernel) (by decide +kernel) (by decide +kernel)
theorem iX10_areRight_33 : zSnd zZM zmX10_areRight 33 (o_ic 1 34) := s_iconst (i := 1) (by decide +kernel) (by decide +kernel)
theorem iX10_areRight_34 : zSnd zZM zmX10_areRight 34 (o_goto 38) := s_goto (off := 4) (by decide +kernel) (by decide +kernel)
theorem iX10_areRight_37 : zSnd zZM zmX10_areRight 37 (o_ic 0 38) := s_iconst (i := 0) (by decide +kernel) (by decide +kernel)
theorem iX10_areRight_38 : zSnd zZM zmX10_areRight 38 (o_zret) := s_zret rfl (by decide +kernel)
def kX10_areRight : List (Nat × zOp) := [(0, o_lload 3 1),
  (1, o_lc 0 2),
  (2, o_lif (fun x y => x < y) 12 6),
  (6, o_lload 3 7),
  (7, o_lload 1 8),
  (8, o_lif (fun x y => x < y) 37 12),
  (12, o_iload 0 13),
  (13, o_ic 1 14),
  (14, o_icmp (fun x y => x = y) 33 17),
  (17, o_lload 1 18),
  (18, o_lc 65536 21),
  (21, o_lif (fun x y => y < x) 37 25),
  (25, o_lload 3 26),
  (26, o_lc 65536 29),
  (29, o_lif (fun x y => y < x) 37 33),
  (33, o_ic 1 34),
  (34, o_goto 38),
  (37, o_ic 0 38),
  (38, o_zret)]
set_option maxRecDepth 100000 in
theorem ksX10_areRight : ∀ q ∈ kX10_areRight, zSnd zZM zmX10_areRight q.1 q.2 := zcc iX10_areRight_0 (zcc iX10_areRight_1 (zcc iX10_areRight_2 (zcc iX10_areRight_6 (zcc iX10_areRight_7 (zcc iX10_areRight_8 (zcc iX10_areRight_12 (zcc iX10_areRight_13 (zcc iX10_areRight_14 (zcc iX10_areRight_17 (zcc iX10_areRight_18 (zcc iX10_areRight_21 (zcc iX10_areRight_25 (zcc iX10_areRight_26 (zcc iX10_areRight_29 (zcc iX10_areRight_33 (zcc iX10_areRight_34 (zcc iX10_areRight_37 (zcc iX10_areRight_38 zcn))))))))))))))))))
theorem iX10_count_0 : zSnd zZM zmX10_count 0 (o_aload 0 1) := s_aload_n (k := 0) (by decide +kernel) rfl
theorem iX10_count_1 : zSnd zZM zmX10_count 1 (o_getf zYM 0 2 4) := s_getf zcX10 fX10_93 (by decide +kernel) (by decide +kernel)
theorem iX10_count_4 : zSnd zZM zmX10_count 4 (o_if0 (fun x => x = 0) 7 9) := s_if_ne (off := 5) (by decide +kernel) (by decide +kernel)
theorem iX10_count_7 : zSnd zZM zmX10_count 7 (o_ic (-1) 8) := s_iconst (i := (-1)) (by decide +kernel) (by decide +kernel)
theorem iX10_count_8 : zSnd zZM zmX10_count 8 (o_iret) := s_iret rfl (by decide +kernel)
theorem iX10_count_9 : zSnd zZM zmX10_count 9 (o_iload 1 10) := s_iload_n (k := 1) (by decide +kernel) rfl
theorem iX10_count_10 : zSnd zZM zmX10_count 10 (o_sw [([1], 68), ([2], 76), ([3], 84), ([4], 92), ([5], 100), ([6], 108), ([7], 116), ([9], 124), ([11], 132)] 140) := s_tsw (dflt := 130) (lo := 1) (hi := 11) (offs := #[58, 66, 74, 82, 90, 98, 106, 130, 114, 130, 122]) (len := 58) (by decide +kernel) (by decide +kernel) (by decide +kernel) (by decide +kernel)
theorem iX10_count_68 : zSnd zZM zmX10_count 68 (o_aload 0 69) := s_aload_n (k := 0) (by decide +kernel) rfl
theorem iX10_count_69 : zSnd zZM zmX10_count 69 (o_getf zYM 0 0 72) := s_getf zcX10 fX10_10 (by decide +kernel) (by decide +kernel)
theorem iX10_count_72 : zSnd zZM zmX10_count 72 (o_getf zYM 1 2 75) := s_getf zcX9 fX10_97 (by decide +kernel) (by decide +kernel)
theorem iX10_count_75 : zSnd zZM zmX10_count 75 (o_iret) := s_iret rfl (by decide +kernel)
theorem iX10_count_76 : zSnd zZM zmX10_count 76 (o_aload 0 77) := s_aload_n (k := 0) (by decide +kernel) rfl
theorem iX10_count_77 : zSnd zZM zmX10_count 77 (o_getf zYM 0 0 80) := s_getf zcX10 fX10_10 (by decide +kernel) (by decide +kernel)
theorem iX10_count_80 : zSnd zZM zmX10_count 80 (o_getf zYM 1 3 83) := s_getf zcX9 fX10_100 (by decide +kernel) (by decide +kernel)
theorem iX10_count_83 : zSnd zZM zmX10_count 83 (o_iret) := s_iret rfl (by decide +kernel)
theorem iX10_count_84 : zSnd zZM zmX10_count 84 (o_aload 0 85) := s_aload_n (k := 0) (by decide +kernel) rfl
theorem iX10_count_85 : zSnd zZM zmX10_count 85 (o_getf zYM 0 0 88) := s_getf zcX10 fX10_10 (by decide +kernel) (by decide +kernel)
theorem iX10_count_88 : zSnd zZM zmX10_count 88 (o_getf zYM 1 4 91) := s_getf zcX9 fX10_103 (by decide +kernel) (by decide +kernel)
theorem iX10_count_91 : zSnd zZM zmX10_count 91 (o_iret) := s_iret rfl (by decide +kernel)
theorem iX10_count_92 : zSnd zZM zmX10_count 92 (o_aload 0 93) := s_aload_n (k := 0) (by decide +kernel) rfl
theorem iX10_count_93 : zSnd zZM zmX10_count 93 (o_getf zYM 0 0 96) := s_getf zcX10 fX10_10 (by decide +kernel) (by decide +kernel)
theorem iX10_count_96 : zSnd zZM zmX10_count 96 (o_getf zYM 1 12 99) := s_getf zcX9 fX10_106 (by decide +kernel) (by decide +kernel)
theorem iX10_count_99 : zSnd zZM zmX10_count 99 (o_iret) := s_iret rfl (by decide +kernel)
theorem iX10_count_100 : zSnd zZM zmX10_count 100 (o_aload 0 101) := s_aload_n (k := 0) (by decide +kernel) rfl
theorem iX10_count_101 : zSnd zZM zmX10_count 101 (o_getf zYM 0 0 104) := s_getf zcX10 fX10_10 (by decide +kernel) (by decide +kernel)
theorem iX10_count_104 : zSnd zZM zmX10_count 104 (o_getf zYM 1 13 107) := s_getf zcX9 fX10_109 (by decide +kernel) (by decide +kernel)
theorem iX10_count_107 : zSnd zZM zmX10_count 107 (o_iret) := s_iret rfl (by decide +kernel)
theorem iX10_count_108 : zSnd zZM zmX10_count 108 (o_aload 0 109) := s_aload_n (k := 0) (by decide +kernel) rfl
theorem iX10_count_109 : zSnd zZM zmX10_count 109 (o_getf zYM 0 0 112) := s_getf zcX10 fX10_10 (by decide +kernel) (by decide +kernel)
theorem iX10_count_112 : zSnd zZM zmX10_count 112 (o_getf zYM 1 5 115) := s_getf zcX9 fX10_112 (by decide +kernel) (by decide +kernel)
theorem iX10_count_115 : zSnd zZM zmX10_count 115 (o_iret) := s_iret rfl (by decide +kernel)
theorem iX10_count_116 : zSnd zZM zmX10_count 116 (o_aload 0 117) := s_aload_n (k := 0) (by decide +kernel) rfl
theorem iX10_count_117 : zSnd zZM zmX10_count 117 (o_getf zYM 0 0 120) := s_getf zcX10 fX10_10 (by decide +kernel) (by decide +kernel)
theorem iX10_count_120 : zSnd zZM zmX10_count 120 (o_getf zYM 1 6 123) := s_getf zcX9 fX10_115 (by decide +kernel) (by decide +kernel)
theorem iX10_count_123 : zSnd zZM zmX10_count 123 (o_iret) := s_iret rfl (by decide +kernel)
theorem iX10_count_124 : zSnd zZM zmX10_count 124 (o_aload 0 125) := s_aload_n (k := 0) (by decide +kernel) rfl
theorem iX10_count_125 : zSnd zZM zmX10_count 125 (o_getf zYM 0 0 128) := s_getf zcX10 fX10_10 (by decide +kernel) (by decide +kernel)
theorem iX10_count_128 : zSnd zZM zmX10_count 128 (o_getf zYM 1 7 131) := s_getf zcX9 fX10_118 (by decide +kernel) (by decide +kernel)
theorem iX10_count_131 : zSnd zZM zmX10_count 131 (o_iret) := s_iret rfl (by decide +kernel)
theorem iX10_count_132 : zSnd zZM zmX10_count 132 (o_aload 0 133) := s_aload_n (k := 0) (by decide +kernel) rfl
theorem iX10_count_133 : zSnd zZM zmX10_count 133 (o_getf zYM 0 0 136) := s_getf zcX10 fX10_10 (by decide +kernel) (by decide +kernel)
theorem iX10_count_136 : zSnd zZM zmX10_count 136 (o_getf zYM 1 8 139) := s_getf zcX9 fX10_121 (by decide +kernel) (by decide +kernel)
theorem iX10_count_139 : zSnd zZM zmX10_count 139 (o_iret) := s_iret rfl (by decide +kernel)
theorem iX10_count_140 : zSnd zZM zmX10_count 140 (o_ic (-1) 141) := s_iconst (i := (-1)) (by decide +kernel) (by decide +kernel)
theorem iX10_count_141 : zSnd zZM zmX10_count 141 (o_iret) := s_iret rfl (by decide +kernel)
def kX10_count : List (Nat × zOp) := [(0, o_aload 0 1),
  (1, o_getf zYM 0 2 4),
  (4, o_if0 (fun x => x = 0) 7 9),
  (7, o_ic (-1) 8),
  (8, o_iret),
  (9, o_iload 1 10),
  (10, o_sw [([1], 68), ([2], 76), ([3], 84), ([4], 92), ([5], 100), ([6], 108), ([7], 116), ([9], 124), ([11], 132)] 140),
  (68, o_aload 0 69),
  (69, o_getf zYM 0 0 72),
  (72, o_getf zYM 1 2 75),
  (75, o_iret),
  (76, o_aload 0 77),
  (77, o_getf zYM 0 0 80),
  (80, o_getf zYM 1 3 83),
  (83, o_iret),
  (84, o_aload 0 85),
  (85, o_getf zYM 0 0 88),
  (88, o_getf zYM 1 4 91),
  (91, o_iret),
  (92, o_aload 0 93),
  (93, o_getf zYM 0 0 96),
  (96, o_getf zYM 1 12 99),
  (99, o_iret),
  (100, o_aload 0 101),
  (101, o_getf zYM 0 0 104),
  (104, o_getf zYM 1 13 107),
  (107, o_iret),
  (108, o_aload 0 109),
  (109, o_getf zYM 0 0 112),
  (112, o_getf zYM 1 5 115),
  (115, o_iret),
  (116, o_aload 0 117),
  (117, o_getf zYM 0 0 120),
  (120, o_getf zYM 1 6 123),
  (123, o_iret),
  (124, o_aload 0 125),
  (125, o_getf zYM 0 0 128),
  (128, o_getf zYM 1 7 131),
  (131, o_iret),
  (132, o_aload 0 133),
  (133, o_getf zYM 0 0 136),
  (136, o_getf zYM 1 8 139),
  (139, o_iret),
  (140, o_ic (-1) 141),
  (141, o_iret)]
set_option maxRecDepth 100000 in
theorem ksX10_count : ∀ q ∈ kX10_count, zSnd zZM zmX10_count q.1 q.2 := zcc iX10_count_0 (zcc iX10_count_1 (zcc iX10_count_4 (zcc iX10_count_7 (zcc iX10_count_8 (zcc iX10_count_9 (zcc iX10_count_10 (zcc iX10_count_68 (zcc iX10_count_69 (zcc iX10_count_72 (zcc iX10_count_75 (zcc iX10_count_76 (zcc iX10_count_77 (zcc iX10_count_80 (zcc iX10_count_83 (zcc iX10_count_84 (zcc iX10_count_85 (zcc iX10_count_88 (zcc iX10_count_91 (zcc iX10_count_92 (zcc iX10_count_93 (zcc iX10_count_96 (zcc iX10_count_99 (zcc iX10_count_100 (zcc iX10_count_101 (zcc iX10_count_104 (zcc iX10_count_107 (zcc iX10_count_108 (zcc iX10_count_109 (zcc iX10_count_112 (zcc iX10_count_115 (zcc iX10_count_116 (zcc iX10_count_117 (zcc iX10_count_120 (zcc iX10_count_123 (zcc iX10_count_124 (zcc iX10_count_125 (zcc iX10_count_128 (zcc iX10_count_131 (zcc iX10_count_132 (zcc iX10_count_133 (zcc iX10_count_136 (zcc iX10_count_139 (zcc iX10_count_140 (zcc iX10_count_141 zcn))))))))))))))))))))))))))))))))))))))))))))
theorem iX10_end_0 : zSnd zZM zmX10_end 0 (o_iload 1 1) := s_iload_n (k := 1) (by decide +kernel) rfl
theorem iX10_end_1 : zSnd zZM zmX10_end 1 (o_if0 (fun x => x < 0) 12 4) := s_if_lt (off := 11) (by decide +kernel) (by decide +kernel)
theorem iX10_end_4 : zSnd zZM zmX10_end 4 (o_iload 1 5) := s_iload_n (k := 1) (by decide +kernel) rfl
theorem iX10_end_5 : zSnd zZM zmX10_end 5 (o_aload 0 6) := s_aload_n (k := 0) (by decide +kernel) rfl
theorem iX10_end_6 : zSnd zZM zmX10_end 6 (o_getf zYM 0 5 9) := s_getf zcX10 fX10_66 (by decide +kernel) (by decide +kernel)
theorem iX10_end_9 : zSnd zZM zmX10_end 9 (o_icmp (fun x y => x ≤ y) 14 12) := s_icmp_le (off := 5) (by decide +kernel) (by decide +kernel)
theorem iX10_end_12 : zSnd zZM zmX10_end 12 (o_ic 0 13) := s_iconst (i := 0) (by decide +kernel) (by decide +kernel)
theorem iX10_end_13 : zSnd zZM zmX10_end 13 (o_zret) := s_zret rfl (by decide +kernel)
theorem iX10_end_14 : zSnd zZM zmX10_end 14 (o_aload 0 15) := s_aload_n (k := 0) (by decide +kernel) rfl
theorem iX10_end_15 : zSnd zZM zmX10_end 15 (o_iload 1 16) := s_iload_n (k := 1) (by decide +kernel) rfl
theorem iX10_end_16 : zSnd zZM zmX10_end 16 (o_putI zYM 0 5 19) := s_putI zcX10 fX10_66 (by decide +kernel) rfl rfl (by decide +kernel)
theorem iX10_end_19 : zSnd zZM zmX10_end 19 (o_ic 1 20) := s_iconst (i := 1) (by decide +kernel) (by decide +kernel)
theorem iX10_end_20 : zSnd zZM zmX10_end 20 (o_zret) := s_zret rfl (by decide +kernel)
def kX10_end : List (Nat × zOp) := [(0, o_iload 1 1),
  (1, o_if0 (fun x => x < 0) 12 4),
  (4, o_iload 1 5),
  (5, o_aload 0 6),
  (6, o_getf zYM 0 5 9),
  (9, o_icmp (fun x y => x ≤ y) 14 12),
  (12, o_ic 0 13),
  (13, o_zret),
  (14, o_aload 0 15),
  (15, o_iload 1 16),
  (16, o_putI zYM 0 5 19),
  (19, o_ic 1 20),
  (20, o_zret)]
set_option maxRecDepth 100000 in
theorem ksX10_end : ∀ q ∈ kX10_end, zSnd zZM zmX10_end q.1 q.2 := zcc iX10_end_0 (zcc iX10_end_1 (zcc iX10_end_4 (zcc iX10_end_5 (zcc iX10_end_6 (zcc iX10_end_9 (zcc iX10_end_12 (zcc iX10_end_13 (zcc iX10_end_14 (zcc iX10_end_15 (zcc iX10_end_16 (zcc iX10_end_19 (zcc iX10_end_20 zcn))))))))))))
theorem iX10_functionsOf_0 : zSnd zZM zmX10_functionsOf 0 (o_aload 0 1) := s_aload_n (k := 0) (by decide +kernel) rfl
theorem iX10_functionsOf_1 : zSnd zZM zmX10_functionsOf 1 (o_getf zYM 1 55 4) := s_getf zcX9 fX10_218 (by decide +kernel) (by decide +kernel)
theorem iX10_functionsOf_4 : zSnd zZM zmX10_functionsOf 4 (o_ic 0 5) := s_iconst (i := 0) (by decide +kernel) (by decide +kernel)
theorem iX10_functionsOf_5 : zSnd zZM zmX10_functionsOf 5 (o_ald zYM .int 6) := s_iald (by decide +kernel)
theorem iX10_functionsOf_6 : zSnd zZM zmX10_functionsOf 6 (o_aload 0 7) := s_aload_n (k := 0) (by decide +kernel) rfl
theorem iX10_functionsOf_7 : zSnd zZM zmX10_functionsOf 7 (o_getf zYM 1 4 10) := s_getf zcX9 fX10_103 (by decide +kernel) (by decide +kernel)
theorem iX10_functionsOf_10 : zSnd zZM zmX10_functionsOf 10 (o_ibin (fun x y => x + y) 11) := s_iadd (by decide +kernel)
theorem iX10_functionsOf_11 : zSnd zZM zmX10_functionsOf 11 (o_iret) := s_iret rfl (by decide +kernel)
def kX10_functionsOf : List (Nat × zOp) := [(0, o_aload 0 1),
  (1, o_getf zYM 1 55 4),
  (4, o_ic 0 5),
  (5, o_ald zYM .int 6),
  (6, o_aload 0 7),
  (7, o_getf zYM 1 4 10),
  (10, o_ibin (fun x y => x + y) 11),
  (11, o_iret)]
set_option maxRecDepth 100000 in
theorem ksX10_functionsOf : ∀ q ∈ kX10_functionsOf, zSnd zZM zmX10_functionsOf q.1 q.2 := zcc iX10_functionsOf_0 (zcc iX10_functionsOf_1 (zcc iX10_functionsOf_4 (zcc iX10_functionsOf_5 (zcc iX10_functionsOf_6 (zcc iX10_functionsOf_7 (zcc iX10_functionsOf_10 (zcc iX10_functionsOf_11 zcn)))))))
theorem iX10_gives_0 : zSnd zZM zmX10_gives 0 (o_iload 1 1) := s_iload_n (k := 1) (by decide +kernel) rfl
theorem iX10_gives_1 : zSnd zZM zmX10_gives 1 (o_ic 2 2) := s_iconst (i := 2) (by decide +kernel) (by decide +kernel)
theorem iX10_gives_2 : zSnd zZM zmX10_gives 2 (o_icmp (fun x y => x = y) 5 6) := s_icmp_ne (off := 4) (by decide +kernel) (by decide +kernel)
theorem iX10_gives_5 : zSnd zZM zmX10_gives 5 (o_vret) := s_vret rfl (by decide +kernel)
theorem iX10_gives_6 : zSnd zZM zmX10_gives 6 (o_aload 0 7) := s_aload_n (k := 0) (by decide +kernel) rfl
theorem iX10_gives_7 : zSnd zZM zmX10_gives 7 (o_getf zYM 0 21 10) := s_getf zcX10 fX10_41 (by decide +kernel) (by decide +kernel)
theorem iX10_gives_10 : zSnd zZM zmX10_gives 10 (o_aload 0 11) := s_aload_n (k := 0) (by decide +kernel) rfl
theorem iX10_gives_11 : zSnd zZM zmX10_gives 11 (o_getf zYM 0 22 14) := s_getf zcX10 fX10_507 (by decide +kernel) (by decide +kernel)
theorem iX10_gives_14 : zSnd zZM zmX10_gives 14 (o_iload 1 15) := s_iload_n (k := 1) (by decide +kernel) rfl
theorem iX10_gives_15 : zSnd zZM zmX10_gives 15 (o_iun (fun x => x.toInt8.toInt32) 16) := s_i2b (by decide +kernel)
theorem iX10_gives_16 : zSnd zZM zmX10_gives 16 (o_ast zYM .byte (fun x => vp_nar .byte x) 17) := s_bast (by decide +kernel)
theorem iX10_gives_17 : zSnd zZM zmX10_gives 17 (o_aload 0 18) := s_aload_n (k := 0) (by decide +kernel) rfl
theorem iX10_gives_18 : zSnd zZM zmX10_gives 18 (o_dup 19) := s_dup (by decide +kernel)
theorem iX10_gives_19 : zSnd zZM zmX10_gives 19 (o_getf zYM 0 22 22) := s_getf zcX10 fX10_507 (by decide +kernel) (by decide +kernel)
theorem iX10_gives_22 : zSnd zZM zmX10_gives 22 (o_ic 1 23) := s_iconst (i := 1) (by decide +kernel) (by decide +kernel)
theorem iX10_gives_23 : zSnd zZM zmX10_gives 23 (o_ibin (fun x y => x + y) 24) := s_iadd (by decide +kernel)
theorem iX10_gives_24 : zSnd zZM zmX10_gives 24 (o_putI zYM 0 22 27) := s_putI zcX10 fX10_507 (by decide +kernel) rfl rfl (by decide +kernel)
theorem iX10_gives_27 : zSnd zZM zmX10_gives 27 (o_vret) := s_vret rfl (by decide +kernel)
def kX10_gives : List (Nat × zOp) := [(0, o_iload 1 1),
  (1, o_ic 2 2),
  (2, o_icmp (fun x y => x = y) 5 6),
  (5, o_vret),
  (6, o_aload 0 7),
  (7, o_getf zYM 0 21 10),
  (10, o_aload 0 11),
  (11, o_getf zYM 0 22 14),
  (14, o_iload 1 15),
  (15, o_iun (fun x => x.toInt8.toInt32) 16),
  (16, o_ast zYM .byte (fun x => vp_nar .byte x) 17),
  (17, o_aload 0 18),
  (18, o_dup 19),
  (19, o_getf zYM 0 22 22),
  (22, o_ic 1 23),
  (23, o_ibin (fun x y => x + y) 24),
  (24, o_putI zYM 0 22 27),
  (27, o_vret)]
set_option maxRecDepth 100000 in
theorem ksX10_gives : ∀ q ∈ kX10_gives, zSnd zZM zmX10_gives q.1 q.2 := zcc iX10_gives_0 (zcc iX10_gives_1 (zcc iX10_gives_2 (zcc iX10_gives_5 (zcc iX10_gives_6 (zcc iX10_gives_7 (zcc iX10_gives_10 (zcc iX10_gives_11 (zcc iX10_gives_14 (zcc iX10_gives_15 (zcc iX10_gives_16 (zcc iX10_gives_17 (zcc iX10_gives_18 (zcc iX10_gives_19 (zcc iX10_gives_22 (zcc iX10_gives_23 (zcc iX10_gives_24 (zcc iX10_gives_27 zcn)))))))))))))))))
theorem iX10_globalsOf_0 : zSnd zZM zmX10_globalsOf 0 (o_aload 0 1) := s_aload_n (k := 0) (by decide +kernel) rfl
theorem iX10_globalsOf_1 : zSnd zZM zmX10_globalsOf 1 (o_getf zYM 1 55 4) := s_getf zcX9 fX10_218 (by decide +kernel) (by decide +kernel)
theorem iX10_globalsOf_4 : zSnd zZM zmX10_globalsOf 4 (o_ic 3 5) := s_iconst (i := 3) (by decide +kernel) (by decide +kernel)
theorem iX10_globalsOf_5 : zSnd zZM zmX10_globalsOf 5 (o_ald zYM .int 6) := s_iald (by decide +kernel)
theorem iX10_globalsOf_6 : zSnd zZM zmX10_globalsOf 6 (o_aload 0 7) := s_aload_n (k := 0) (by decide +kernel) rfl
theorem iX10_globalsOf_7 : zSnd zZM zmX10_globalsOf 7 (o_getf zYM 1 5 10) := s_getf zcX9 fX10_112 (by decide +kernel) (by decide +kernel)
theorem iX10_globalsOf_10 : zSnd zZM zmX10_globalsOf 10 (o_ibin (fun x y => x + y) 11) := s_iadd (by decide +kernel)
theorem iX10_globalsOf_11 : zSnd zZM zmX10_globalsOf 11 (o_iret) := s_iret rfl (by decide +kernel)
def kX10_globalsOf : List (Nat × zOp) := [(0, o_aload 0 1),
  (1, o_getf zYM 1 55 4),
  (4, o_ic 3 5),
  (5, o_ald zYM .int 6),
  (6, o_aload 0 7),
  (7, o_getf zYM 1 5 10),
  (10, o_ibin (fun x y => x + y) 11),
  (11, o_iret)]
set_option maxRecDepth 100000 in
theorem ksX10_globalsOf : ∀ q ∈ kX10_globalsOf, zSnd zZM zmX10_globalsOf q.1 q.2 := zcc iX10_globalsOf_0 (zcc iX10_globalsOf_1 (zcc iX10_globalsOf_4 (zcc iX10_globalsOf_5 (zcc iX10_globalsOf_6 (zcc iX10_globalsOf_7 (zcc iX10_globalsOf_10 (zcc iX10_globalsOf_11 zcn)))))))
theorem iX10_headerAt_0 : zSnd zZM zmX10_headerAt 0 (o_iload 0 1) := s_iload_n (k := 0) (by decide +kernel) rfl
theorem iX10_headerAt_1 : zSnd zZM zmX10_headerAt 1 (o_ic 1 2) := s_iconst (i := 1) (by decide +kernel) (by decide +kernel)
theorem iX10_headerAt_2 : zSnd zZM zmX10_headerAt 2 (o_icmp (fun x y => x = y) 5 10) := s_icmp_ne (off := 8) (by decide +kernel) (by decide +kernel)
theorem iX10_headerAt_5 : zSnd zZM zmX10_headerAt 5 (o_ic 97 7) := s_bipush (i := 97) (by decide +kernel) (by decide +kernel)
theorem iX10_headerAt_7 : zSnd zZM zmX10_headerAt 7 (o_goto 40) := s_goto (off := 33) (by decide +kernel) (by decide +kernel)
theorem iX10_headerAt_10 : zSnd zZM zmX10_headerAt 10 (o_iload 0 11) := s_iload_n (k := 0) (by decide +kernel) rfl
theorem iX10_headerAt_11 : zSnd zZM zmX10_headerAt 11 (o_ic 2 12) := s_iconst (i := 2) (by decide +kernel) (by decide +kernel)
theorem iX10_headerAt_12 : zSnd zZM zmX10_headerAt 12 (o_icmp (fun x y => x = y) 15 20) := s_icmp_ne (off := 8) (by decide +kernel) (by decide +kernel)
theorem iX10_headerAt_15 : zSnd zZM zmX10_headerAt 15 (o_ic 115 17) := s_bipush (i := 115) (by decide +kernel) (by decide +kernel)
theorem iX10_headerAt_17 : zSnd zZM zmX10_headerAt 17 (o_goto 40) := s_goto (off := 23) (by decide +kernel) (by decide +kernel)
theorem iX10_headerAt_20 : zSnd zZM zmX10_headerAt 20 (o_iload 0 21) := s_iload_n (k := 0) (by decide +kernel) rfl
theorem iX10_headerAt_21 : zSnd zZM zmX10_headerAt 21 (o_ic 3 22) := s_iconst (i := 3) (by decide +kernel) (by decide +kernel)
theorem iX10_headerAt_22 : zSnd zZM zmX10_headerAt 22 (o_icmp (fun x y => x = y) 25 30) := s_icmp_ne (off := 8) (by decide +kernel) (by decide +kernel)
theorem iX10_headerAt_25 : zSnd zZM zmX10_headerAt 25 (o_ic 109 27) := s_bipush (i := 109) (by decide +kernel) (by decide +kernel)
theorem iX10_headerAt_27 : zSnd zZM zmX10_headerAt 27 (o_goto 40) := s_goto (off := 13) (by decide +kernel) (by decide +kernel)
theorem iX10_headerAt_30 : zSnd zZM zmX10_headerAt 30 (o_iload 0 31) := s_iload_n (k := 0) (by decide +kernel) rfl
theorem iX10_headerAt_31 : zSnd zZM zmX10_headerAt 31 (o_ic 4 32) := s_iconst (i := 4) (by decide +kernel) (by decide +kernel)
theorem iX10_headerAt_32 : zSnd zZM zmX10_headerAt 32 (o_icmp (fun x y => x = y) 35 39) := s_icmp_ne (off := 7) (by decide +kernel) (by decide +kernel)
theorem iX10_headerAt_35 : zSnd zZM zmX10_headerAt 35 (o_ic 1 36) := s_iconst (i := 1) (by decide +kernel) (by decide +kernel)
theorem iX10_headerAt_36 : zSnd zZM zmX10_headerAt 36 (o_goto 40) := s_goto (off := 4) (by decide +kernel) (by decide +kernel)
theorem iX10_headerAt_39 : zSnd zZM zmX10_headerAt 39 (o_ic 0 40) := s_iconst (i := 0) (by decide +kernel) (by decide +kernel)
theorem iX10_headerAt_40 : zSnd zZM zmX10_headerAt 40 (o_iret) := s_iret rfl (by decide +kernel)
def kX10_headerAt : List (Nat × zOp) := [(0, o_iload 0 1),
  (1, o_ic 1 2),
  (2, o_icmp (fun x y => x = y) 5 10),
  (5, o_ic 97 7),
  (7, o_goto 40),
  (10, o_iload 0 11),
  (11, o_ic 2 12),
  (12, o_icmp (fun x y => x = y) 15 20),
  (15, o_ic 115 17),
  (17, o_goto 40),
  (20, o_iload 0 21),
  (21, o_ic 3 22),
  (22, o_icmp (fun x y => x = y) 25 30),
  (25, o_ic 109 27),
  (27, o_goto 40),
  (30, o_iload 0 31),
  (31, o_ic 4 32),
  (32, o_icmp (fun x y => x = y) 35 39),
  (35, o_ic 1 36),
  (36, o_goto 40),
  (39, o_ic 0 40),
  (40, o_iret)]
set_option maxRecDepth 100000 in
theorem ksX10_headerAt : ∀ q ∈ kX10_headerAt, zSnd zZM zmX10_headerAt q.1 q.2 := zcc iX10_headerAt_0 (zcc iX10_headerAt_1 (zcc iX10_headerAt_2 (zcc iX10_headerAt_5 (zcc iX10_headerAt_7 (zcc iX10_headerAt_10 (zcc iX10_headerAt_11 (zcc iX10_headerAt_12 (zcc iX10_headerAt_15 (zcc iX10_headerAt_17 (zcc iX10_headerAt_20 (zcc iX10_headerAt_21 (zcc iX10_headerAt_22 (zcc iX10_headerAt_25 (zcc iX10_headerAt_27 (zcc iX10_headerAt_30 (zcc iX10_headerAt_31 (zcc iX10_headerAt_32 (zcc iX10_headerAt_35 (zcc iX10_headerAt_36 (zcc iX10_headerAt_39 (zcc iX10_headerAt_40 zcn)))))))))))))))))))))
theorem iX10_importOf_0 : zSnd zZM zmX10_importOf 0 (o_aload 0 1) := s_aload_n (k := 0) (by decide +kernel) rfl
theorem iX10_importOf_1 : zSnd zZM zmX10_importOf 1 (o_getf zYM 1 56 4) := s_getf zcX9 fX10_333 (by decide +kernel) (by decide +kernel)
theorem iX10_importOf_4 : zSnd zZM zmX10_importOf 4 (o_iload 1 5) := s_iload_n (k := 1) (by decide +kernel) rfl
theorem iX10_importOf_5 : zSnd zZM zmX10_importOf 5 (o_ic 32 7) := s_bipush (i := 32) (by decide +kernel) (by decide +kernel)
theorem iX10_importOf_7 : zSnd zZM zmX10_importOf 7 (o_ibin (fun x y => x * y) 8) := s_imul (by decide +kernel)
theorem iX10_importOf_8 : zSnd zZM zmX10_importOf 8 (o_iload 2 9) := s_iload_n (k := 2) (by decide +kernel) rfl
theorem iX10_importOf_9 : zSnd zZM zmX10_importOf 9 (o_ibin (fun x y => x + y) 10) := s_iadd (by decide +kernel)
theorem iX10_importOf_10 : zSnd zZM zmX10_importOf 10 (o_ald zYM .int 11) := s_iald (by decide +kernel)
theorem iX10_importOf_11 : zSnd zZM zmX10_importOf 11 (o_iret) := s_iret rfl (by decide +kernel)
def kX10_importOf : List (Nat × zOp) := [(0, o_aload 0 1),
  (1, o_getf zYM 1 56 4),
  (4, o_iload 1 5),
  (5, o_ic 32 7),
  (7, o_ibin (fun x y => x * y) 8),
  (8, o_iload 2 9),
  (9, o_ibin (fun x y => x + y) 10),
  (10, o_ald zYM .int 11),
  (11, o_iret)]
set_option maxRecDepth 100000 in
theorem ksX10_importOf : ∀ q ∈ kX10_importOf, zSnd zZM zmX10_importOf q.1 q.2 := zcc iX10_importOf_0 (zcc iX10_importOf_1 (zcc iX10_importOf_4 (zcc iX10_importOf_5 (zcc iX10_importOf_7 (zcc iX10_importOf_8 (zcc iX10_importOf_9 (zcc iX10_importOf_10 (zcc iX10_importOf_11 zcn))))))))
theorem iX10_isLoad_0 : zSnd zZM zmX10_isLoad 0 (o_iload 0 1) := s_iload_n (k := 0) (by decide +kernel) rfl
theorem iX10_isLoad_1 : zSnd zZM zmX10_isLoad 1 (o_ic 40 3) := s_bipush (i := 40) (by decide +kernel) (by decide +kernel)
theorem iX10_isLoad_3 : zSnd zZM zmX10_isLoad 3 (o_icmp (fun x y => x = y) 24 6) := s_icmp_eq (off := 21) (by decide +kernel) (by decide +kernel)
theorem iX10_isLoad_6 : zSnd zZM zmX10_isLoad 6 (o_iload 0 7) := s_iload_n (k := 0) (by decide +kernel) rfl
theorem iX10_isLoad_7 : zSnd zZM zmX10_isLoad 7 (o_ic 41 9) := s_bipush (i := 41) (by decide +kernel) (by decide +kernel)
theorem iX10_isLoad_9 : zSnd zZM zmX10_isLoad 9 (o_icmp (fun x y => x = y) 24 12) := s_icmp_eq (off := 15) (by decide +kernel) (by decide +kernel)
theorem iX10_isLoad_12 : zSnd zZM zmX10_isLoad 12 (o_iload 0 13) := s_iload_n (k := 0) (by decide +kernel) rfl
theorem iX10_isLoad_13 : zSnd zZM zmX10_isLoad 13 (o_ic 44 15) := s_bipush (i := 44) (by decide +kernel) (by decide +kernel)
theorem iX10_isLoad_15 : zSnd zZM zmX10_isLoad 15 (o_icmp (fun x y => x < y) 28 18) := s_icmp_lt (off := 13) (by decide +kernel) (by decide +kernel)
theorem iX10_isLoad_18 : zSnd zZM zmX10_isLoad 18 (o_iload 0 19) := s_iload_n (k := 0) (by decide +kernel) rfl
theorem iX10_isLoad_19 : zSnd zZM zmX10_isLoad 19 (o_ic 53 21) := s_bipush (i := 53) (by decide +kernel) (by decide +kernel)
theorem iX10_isLoad_21 : zSnd zZM zmX10_isLoad 21 (o_icmp (fun x y => y < x) 28 24) := s_icmp_gt (off := 7) (by decide +kernel) (by decide +kernel)
theorem iX10_isLoad_24 : zSnd zZM zmX10_isLoad 24 (o_ic 1 25) := s_iconst (i := 1) (by decide +kernel) (by decide +kernel)
theorem iX10_isLoad_25 : zSnd zZM zmX10_isLoad 25 (o_goto 29) := s_goto (off := 4) (by decide +kernel) (by decide +kernel)
theorem iX10_isLoad_28 : zSnd zZM zmX10_isLoad 28 (o_ic 0 29) := s_iconst (i := 0) (by decide +kernel) (by decide +kernel)
theorem iX10_isLoad_29 : zSnd zZM zmX10_isLoad 29 (o_zret) := s_zret rfl (by decide +kernel)
def kX10_isLoad : List (Nat × zOp) := [(0, o_iload 0 1),
  (1, o_ic 40 3),
  (3, o_icmp (fun x y => x = y) 24 6),
  (6, o_iload 0 7),
  (7, o_ic 41 9),
  (9, o_icmp (fun x y => x = y) 24 12),
  (12, o_iload 0 13),
  (13, o_ic 44 15),
  (15, o_icmp (fun x y => x < y) 28 18),
  (18, o_iload 0 19),
  (19, o_ic 53 21),
  (21, o_icmp (fun x y => y < x) 28 24),
  (24, o_ic 1 25),
  (25, o_goto 29),
  (28, o_ic 0 29),
  (29, o_zret)]
set_option maxRecDepth 100000 in
theorem ksX10_isLoad : ∀ q ∈ kX10_isLoad, zSnd zZM zmX10_isLoad q.1 q.2 := zcc iX10_isLoad_0 (zcc iX10_isLoad_1 (zcc iX10_isLoad_3 (zcc iX10_isLoad_6 (zcc iX10_isLoad_7 (zcc iX10_isLoad_9 (zcc iX10_isLoad_12 (zcc iX10_isLoad_13 (zcc iX10_isLoad_15 (zcc iX10_isLoad_18 (zcc iX10_isLoad_19 (zcc iX10_isLoad_21 (zcc iX10_isLoad_24 (zcc iX10_isLoad_25 (zcc iX10_isLoad_28 (zcc iX10_isLoad_29 zcn)))))))))))))))
theorem iX10_isOwn_0 : zSnd zZM zmX10_isOwn 0 (o_aload 0 1) := s_aload_n (k := 0) (by decide +kernel) rfl
theorem iX10_isOwn_1 : zSnd zZM zmX10_isOwn 1 (o_getf zYM 0 2 4) := s_getf zcX10 fX10_93 (by decide +kernel) (by decide +kernel)
theorem iX10_isOwn_4 : zSnd zZM zmX10_isOwn 4 (o_if0 (fun x => x = 0) 26 7) := s_if_eq (off := 22) (by decide +kernel) (by decide +kernel)
theorem iX10_isOwn_7 : zSnd zZM zmX10_isOwn 7 (o_iload 1 8) := s_iload_n (k := 1) (by decide +kernel) rfl
theorem iX10_isOwn_8 : zSnd zZM zmX10_isOwn 8 (o_if0 (fun x => x < 0) 26 11) := s_if_lt (off := 18) (by decide +kernel) (by decide +kernel)
theorem iX10_isOwn_11 : zSnd zZM zmX10_isOwn 11 (o_iload 1 12) := s_iload_n (k := 1) (by decide +kernel) rfl
theorem iX10_isOwn_12 : zSnd zZM zmX10_isOwn 12 (o_aload 0 13) := s_aload_n (k := 0) (by decide +kernel) rfl
theorem iX10_isOwn_13 : zSnd zZM zmX10_isOwn 13 (o_getf zYM 0 0 16) := s_getf zcX10 fX10_10 (by decide +kernel) (by decide +kernel)
theorem iX10_isOwn_16 : zSnd zZM zmX10_isOwn 16 (o_getf zYM 1 4 19) := s_getf zcX9 fX10_103 (by decide +kernel) (by decide +kernel)
theorem iX10_isOwn_19 : zSnd zZM zmX10_isOwn 19 (o_icmp (fun x y => y ≤ x) 26 22) := s_icmp_ge (off := 7) (by decide +kernel) (by decide +kernel)
theorem iX10_isOwn_22 : zSnd zZM zmX10_isOwn 22 (o_ic 1 23) := s_iconst (i := 1) (by decide +kernel) (by decide +kernel)
theorem iX10_isOwn_23 : zSnd zZM zmX10_isOwn 23 (o_goto 27) := s_goto (off := 4) (by decide +kernel) (by decide +kernel)
theorem iX10_isOwn_26 : zSnd zZM zmX10_isOwn 26 (o_ic 0 27) := s_iconst (i := 0) (by decide +kernel) (by decide +kernel)
theorem iX10_isOwn_27 : zSnd zZM zmX10_isOwn 27 (o_zret) := s_zret rfl (by decide +kernel)
def kX10_isOwn : List (Nat × zOp) := [(0, o_aload 0 1),
  (1, o_getf zYM 0 2 4),
  (4, o_if0 (fun x => x = 0) 26 7),
  (7, o_iload 1 8),
  (8, o_if0 (fun x => x < 0) 26 11),
  (11, o_iload 1 12),
  (12, o_aload 0 13),
  (13, o_getf zYM 0 0 16),
  (16, o_getf zYM 1 4 19),
  (19, o_icmp (fun x y => y ≤ x) 26 22),
  (22, o_ic 1 23),
  (23, o_goto 27),
  (26, o_ic 0 27),
  (27, o_zret)]
set_option maxRecDepth 100000 in
theorem ksX10_isOwn : ∀ q ∈ kX10_isOwn, zSnd zZM zmX10_isOwn q.1 q.2 := zcc iX10_isOwn_0 (zcc iX10_isOwn_1 (zcc iX10_isOwn_4 (zcc iX10_isOwn_7 (zcc iX10_isOwn_8 (zcc iX10_isOwn_11 (zcc iX10_isOwn_12 (zcc iX10_isOwn_13 (zcc iX10_isOwn_16 (zcc iX10_isOwn_19 (zcc iX10_isOwn_22 (zcc iX10_isOwn_23 (zcc iX10_isOwn_26 (zcc iX10_isOwn_27 zcn)))))))))))))
theorem iX10_isSame_0 : zSnd zZM zmX10_isSame 0 (o_iload 2 1) := s_iload_n (k := 2) (by decide +kernel) rfl
theorem iX10_isSame_1 : zSnd zZM zmX10_isSame 1 (o_iload 4 3) := s_iload (by decide +kernel)
theorem iX10_isSame_3 : zSnd zZM zmX10_isSame 3 (o_icmp (fun x y => x = y) 8 6) := s_icmp_eq (off := 5) (by decide +kernel) (by decide +kernel)
theorem iX10_isSame_6 : zSnd zZM zmX10_isSame 6 (o_ic 0 7) := s_iconst (i := 0) (by decide +kernel) (by decide +kernel)
theorem iX10_isSame_7 : zSnd zZM zmX10_isSame 7 (o_zret) := s_zret rfl (by decide +kernel)
theorem iX10_isSame_8 : zSnd zZM zmX10_isSame 8 (o_ic 0 9) := s_iconst (i := 0) (by decide +kernel) (by decide +kernel)
theorem iX10_isSame_9 : zSnd zZM zmX10_isSame 9 (o_istore 5 11) := s_istore (by decide +kernel) (by decide +kernel)
theorem iX10_isSame_11 : zSnd zZM zmX10_isSame 11 (o_iload 5 13) := s_iload (by decide +kernel)
theorem iX10_isSame_13 : zSnd zZM zmX10_isSame 13 (o_iload 2 14) := s_iload_n (k := 2) (by decide +kernel) rfl
theorem iX10_isSame_14 : zSnd zZM zmX10_isSame 14 (o_icmp (fun x y => y ≤ x) 46 17) := s_icmp_ge (off := 32) (by decide +kernel) (by decide +kernel)
theorem iX10_isSame_17 : zSnd zZM zmX10_isSame 17 (o_aload 0 18) := s_aload_n (k := 0) (by decide +kernel) rfl
theorem iX10_isSame_18 : zSnd zZM zmX10_isSame 18 (o_getf zYM 0 3 21) := s_getf zcX10 fX10_19 (by decide +kernel) (by decide +kernel)
theorem iX10_isSame_21 : zSnd zZM zmX10_isSame 21 (o_iload 1 22) := s_iload_n (k := 1) (by decide +kernel) rfl
theorem iX10_isSame_22 : zSnd zZM zmX10_isSame 22 (o_iload 5 24) := s_iload (by decide +kernel)
theorem iX10_isSame_24 : zSnd zZM zmX10_isSame 24 (o_ibin (fun x y => x + y) 25) := s_iadd (by decide +kernel)
theorem iX10_isSame_25 : zSnd zZM zmX10_isSame 25 (o_ald zYM .byte 26) := s_bald (by decide +kernel)
theorem iX10_isSame_26 : zSnd zZM zmX10_isSame 26 (o_aload 0 27) := s_aload_n (k := 0) (by decide +kernel) rfl
theorem iX10_isSame_27 : zSnd zZM zmX10_isSame 27 (o_getf zYM 0 3 30) := s_getf zcX10 fX10_19 (by decide +kernel) (by decide +kernel)
theorem iX10_isSame_30 : zSnd zZM zmX10_isSame 30 (o_iload 3 31) := s_iload_n (k := 3) (by decide +kernel) rfl
theorem iX10_isSame_31 : zSnd zZM zmX10_isSame 31 (o_iload 5 33) := s_iload (by decide +kernel)
theorem iX10_isSame_33 : zSnd zZM zmX10_isSame 33 (o_ibin (fun x y => x + y) 34) := s_iadd (by decide +kernel)
theorem iX10_isSame_34 : zSnd zZM zmX10_isSame 34 (o_ald zYM .byte 35) := s_bald (by decide +kernel)
theorem iX10_isSame_35 : zSnd zZM zmX10_isSame 35 (o_icmp (fun x y => x = y) 40 38) := s_icmp_eq (off := 5) (by decide +kernel) (by decide +kernel)
theorem iX10_isSame_38 : zSnd zZM zmX10_isSame 38 (o_ic 0 39) := s_iconst (i := 0) (by decide +kernel) (by decide +kernel)
theorem iX10_isSame_39 : zSnd zZM zmX10_isSame 39 (o_zret) := s_zret rfl (by decide +kernel)
theorem iX10_isSame_40 : zSnd zZM zmX10_isSame 40 (o_iinc 5 1 43) := s_iinc (a := 1) (by decide +kernel) (by decide +kernel) (by decide +kernel)
theorem iX10_isSame_43 : zSnd zZM zmX10_isSame 43 (o_goto 11) := s_goto (off := (-32)) (by decide +kernel) (by decide +kernel)
theorem iX10_isSame_46 : zSnd zZM zmX10_isSame 46 (o_ic 1 47) := s_iconst (i := 1) (by decide +kernel) (by decide +kernel)
theorem iX10_isSame_47 : zSnd zZM zmX10_isSame 47 (o_zret) := s_zret rfl (by decide +kernel)
def kX10_isSame : List (Nat × zOp) := [(0, o_iload 2 1),
  (1, o_iload 4 3),
  (3, o_icmp (fun x y => x = y) 8 6),
  (6, o_ic 0 7),
  (7, o_zret),
  (8, o_ic 0 9),
  (9, o_istore 5 11),
  (11, o_iload 5 13),
  (13, o_iload 2 14),
  (14, o_icmp (fun x y => y ≤ x) 46 17),
  (17, o_aload 0 18),
  (18, o_getf zYM 0 3 21),
  (21, o_iload 1 22),
  (22, o_iload 5 24),
  (24, o_ibin (fun x y => x + y) 25),
  (25, o_ald zYM .byte 26),
  (26, o_aload 0 27),
  (27, o_getf zYM 0 3 30),
  (30, o_iload 3 31),
  (31, o_iload 5 33),
  (33, o_ibin (fun x y => x + y) 34),
  (34, o_ald zYM .byte 35),
  (35, o_icmp (fun x y => x = y) 40 38),
  (38, o_ic 0 39),
  (39, o_zret),
  (40, o_iinc 5 1 43),
  (43, o_goto 11),
  (46, o_ic 1 47),
  (47, o_zret)]
set_option maxRecDepth 100000 in
theorem ksX10_isSame : ∀ q ∈ kX10_isSame, zSnd zZM zmX10_isSame q.1 q.2 := zcc iX10_isSame_0 (zcc iX10_isSame_1 (zcc iX10_isSame_3 (zcc iX10_isSame_6 (zcc iX10_isSame_7 (zcc iX10_isSame_8 (zcc iX10_isSame_9 (zcc iX10_isSame_11 (zcc iX10_isSame_13 (zcc iX10_isSame_14 (zcc iX10_isSame_17 (zcc iX10_isSame_18 (zcc iX10_isSame_21 (zcc iX10_isSame_22 (zcc iX10_isSame_24 (zcc iX10_isSame_25 (zcc iX10_isSame_26 (zcc iX10_isSame_27 (zcc iX10_isSame_30 (zcc iX10_isSame_31 (zcc iX10_isSame_33 (zcc iX10_isSame_34 (zcc iX10_isSame_35 (zcc iX10_isSame_38 (zcc iX10_isSame_39 (zcc iX10_isSame_40 (zcc iX10_isSame_43 (zcc iX10_isSame_46 (zcc iX10_isSame_47 zcn))))))))))))))))))))))))))))
theorem iX10_isStore_0 : zSnd zZM zmX10_isStore 0 (o_iload 0 1) := s_iload_n (k := 0) (by decide +kernel) rfl
theorem iX10_isStore_1 : zSnd zZM zmX10_isStore 1 (o_ic 54 3) := s_bipush (i := 54) (by decide +kernel) (by decide +kernel)
theorem iX10_isStore_3 : zSnd zZM zmX10_isStore 3 (o_icmp (fun x y => x = y) 24 6) := s_icmp_eq (off := 21) (by decide +kernel) (by decide +kernel)
theorem iX10_isStore_6 : zSnd zZM zmX10_isStore 6 (o_iload 0 7) := s_iload_n (k := 0) (by decide +kernel) rfl
theorem iX10_isStore_7 : zSnd zZM zmX10_isStore 7 (o_ic 55 9) := s_bipush (i := 55) (by decide +kernel) (by decide +kernel)
theorem iX10_isStore_9 : zSnd zZM zmX10_isStore 9 (o_icmp (fun x y => x = y) 24 12) := s_icmp_eq (off := 15) (by decide +kernel) (by decide +kernel)
theorem iX10_isStore_12 : zSnd zZM zmX10_isStore 12 (o_iload 0 13) := s_iload_n (k := 0) (by decide +kernel) rfl
theorem iX10_isStore_13 : zSnd zZM zmX10_isStore 13 (o_ic 58 15) := s_bipush (i := 58) (by decide +kernel) (by decide +kernel)
theorem iX10_isStore_15 : zSnd zZM zmX10_isStore 15 (o_icmp (fun x y => x < y) 28 18) := s_icmp_lt (off := 13) (by decide +kernel) (by decide +kernel)
theorem iX10_isStore_18 : zSnd zZM zmX10_isStore 18 (o_iload 0 19) := s_iload_n (k := 0) (by decide +kernel) rfl
theorem iX10_isStore_19 : zSnd zZM zmX10_isStore 19 (o_ic 62 21) := s_bipush (i := 62) (by decide +kernel) (by decide +kernel)
theorem iX10_isStore_21 : zSnd zZM zmX10_isStore 21 (o_icmp (fun x y => y < x) 28 24) := s_icmp_gt (off := 7) (by decide +kernel) (by decide +kernel)
theorem iX10_isStore_24 : zSnd zZM zmX10_isStore 24 (o_ic 1 25) := s_iconst (i := 1) (by decide +kernel) (by decide +kernel)
theorem iX10_isStore_25 : zSnd zZM zmX10_isStore 25 (o_goto 29) := s_goto (off := 4) (by decide +kernel) (by decide +kernel)
theorem iX10_isStore_28 : zSnd zZM zmX10_isStore 28 (o_ic 0 29) := s_iconst (i := 0) (by decide +kernel) (by decide +kernel)
theorem iX10_isStore_29 : zSnd zZM zmX10_isStore 29 (o_zret) := s_zret rfl (by decide +kernel)
def kX10_isStore : List (Nat × zOp) := [(0, o_iload 0 1),
  (1, o_ic 54 3),
  (3, o_icmp (fun x y => x = y) 24 6),
  (6, o_iload 0 7),
  (7, o_ic 55 9),
  (9, o_icmp (fun x y => x = y) 24 12),
  (12, o_iload 0 13),
  (13, o_ic 58 15),
  (15, o_icmp (fun x y => x < y) 28 18),
  (18, o_iload 0 19),
  (19, o_ic 62 21),
  (21, o_icmp (fun x y => y < x) 28 24),
  (24, o_ic 1 25),
  (25, o_goto 29),
  (28, o_ic 0 29),
  (29, o_zret)]
set_option maxRecDepth 100000 in
theorem ksX10_isStore : ∀ q ∈ kX10_isStore, zSnd zZM zmX10_isStore q.1 q.2 := zcc iX10_isStore_0 (zcc iX10_isStore_1 (zcc iX10_isStore_3 (zcc iX10_isStore_6 (zcc iX10_isStore_7 (zcc iX10_isStore_9 (zcc iX10_isStore_12 (zcc iX10_isStore_13 (zcc iX10_isStore_15 (zcc iX10_isStore_18 (zcc iX10_isStore_19 (zcc iX10_isStore_21 (zcc iX10_isStore_24 (zcc iX10_isStore_25 (zcc iX10_isStore_28 (zcc iX10_isStore_29 zcn)))))))))))))))
theorem iX10_need_0 : zSnd zZM zmX10_need 0 (o_aload 0 1) := s_aload_n (k := 0) (by decide +kernel) rfl
theorem iX10_need_1 : zSnd zZM zmX10_need 1 (o_aload 0 2) := s_aload_n (k := 0) (by decide +kernel) rfl
theorem iX10_need_2 : zSnd zZM zmX10_need 2 (o_getf zYM 0 31 5) := s_getf zcX10 fX10_510 (by decide +kernel) (by decide +kernel)
theorem iX10_need_5 : zSnd zZM zmX10_need 5 (o_if0 (fun x => x = 0) 16 8) := s_if_eq (off := 11) (by decide +kernel) (by decide +kernel)
theorem iX10_need_8 : zSnd zZM zmX10_need 8 (o_iload 1 9) := s_iload_n (k := 1) (by decide +kernel) rfl
theorem iX10_need_9 : zSnd zZM zmX10_need 9 (o_if0 (fun x => x = 0) 16 12) := s_if_eq (off := 7) (by decide +kernel) (by decide +kernel)
theorem iX10_need_12 : zSnd zZM zmX10_need 12 (o_ic 1 13) := s_iconst (i := 1) (by decide +kernel) (by decide +kernel)
theorem iX10_need_13 : zSnd zZM zmX10_need 13 (o_goto 17) := s_goto (off := 4) (by decide +kernel) (by decide +kernel)
theorem iX10_need_16 : zSnd zZM zmX10_need 16 (o_ic 0 17) := s_iconst (i := 0) (by decide +kernel) (by decide +kernel)
theorem iX10_need_17 : zSnd zZM zmX10_need 17 (o_putZ zYM 0 31 20) := s_putZ zcX10 fX10_510 (by decide +kernel) rfl rfl (by decide +kernel)
theorem iX10_need_20 : zSnd zZM zmX10_need 20 (o_vret) := s_vret rfl (by decide +kernel)
def kX10_need : List (Nat × zOp) := [(0, o_aload 0 1),
  (1, o_aload 0 2),
  (2, o_getf zYM 0 31 5),
  (5, o_if0 (fun x => x = 0) 16 8),
  (8, o_iload 1 9),
  (9, o_if0 (fun x => x = 0) 16 12),
  (12, o_ic 1 13),
  (13, o_goto 17),
  (16, o_ic 0 17),
  (17, o_putZ zYM 0 31 20),
  (20, o_vret)]
set_option maxRecDepth 100000 in
theorem ksX10_need : ∀ q ∈ kX10_need, zSnd zZM zmX10_need q.1 q.2 := zcc iX10_need_0 (zcc iX10_need_1 (zcc iX10_need_2 (zcc iX10_need_5 (zcc iX10_need_8 (zcc iX10_need_9 (zcc iX10_need_12 (zcc iX10_need_13 (zcc iX10_need_16 (zcc iX10_need_17 (zcc iX10_need_20 zcn))))))))))
theorem iX10_openFrame_0 : zSnd zZM zmX10_openFrame 0 (o_aload 0 1) := s_aload_n (k := 0) (by decide +kernel) rfl
theorem iX10_openFrame_1 : zSnd zZM zmX10_openFrame 1 (o_getf zYM 0 26 4) := s_getf zcX10 fX10_53 (by decide +kernel) (by decide +kernel)
theorem iX10_openFrame_4 : zSnd zZM zmX10_openFrame 4 (o_aload 0 5) := s_aload_n (k := 0) (by decide +kernel) rfl
theorem iX10_openFrame_5 : zSnd zZM zmX10_openFrame 5 (o_getf zYM 0 28 8) := s_getf zcX10 fX10_504 (by decide +kernel) (by decide +kernel)
theorem iX10_openFrame_8 : zSnd zZM zmX10_openFrame 8 (o_iload 1 9) := s_iload_n (k := 1) (by decide +kernel) rfl
theorem iX10_openFrame_9 : zSnd zZM zmX10_openFrame 9 (o_ast zYM .int (fun x => x) 10) := s_iast (by decide +kernel)
theorem iX10_openFrame_10 : zSnd zZM zmX10_openFrame 10 (o_aload 0 11) := s_aload_n (k := 0) (by decide +kernel) rfl
theorem iX10_openFrame_11 : zSnd zZM zmX10_openFrame 11 (o_getf zYM 0 23 14) := s_getf zcX10 fX10_44 (by decide +kernel) (by decide +kernel)
theorem iX10_openFrame_14 : zSnd zZM zmX10_openFrame 14 (o_aload 0 15) := s_aload_n (k := 0) (by decide +kernel) rfl
theorem iX10_openFrame_15 : zSnd zZM zmX10_openFrame 15 (o_getf zYM 0 28 18) := s_getf zcX10 fX10_504 (by decide +kernel) (by decide +kernel)
theorem iX10_openFrame_18 : zSnd zZM zmX10_openFrame 18 (o_iload 2 19) := s_iload_n (k := 2) (by decide +kernel) rfl
theorem iX10_openFrame_19 : zSnd zZM zmX10_openFrame 19 (o_ast zYM .int (fun x => x) 20) := s_iast (by decide +kernel)
theorem iX10_openFrame_20 : zSnd zZM zmX10_openFrame 20 (o_aload 0 21) := s_aload_n (k := 0) (by decide +kernel) rfl
theorem iX10_openFrame_21 : zSnd zZM zmX10_openFrame 21 (o_getf zYM 0 24 24) := s_getf zcX10 fX10_47 (by decide +kernel) (by decide +kernel)
theorem iX10_openFrame_24 : zSnd zZM zmX10_openFrame 24 (o_aload 0 25) := s_aload_n (k := 0) (by decide +kernel) rfl
theorem iX10_openFrame_25 : zSnd zZM zmX10_openFrame 25 (o_getf zYM 0 28 28) := s_getf zcX10 fX10_504 (by decide +kernel) (by decide +kernel)
theorem iX10_openFrame_28 : zSnd zZM zmX10_openFrame 28 (o_iload 3 29) := s_iload_n (k := 3) (by decide +kernel) rfl
theorem iX10_openFrame_29 : zSnd zZM zmX10_openFrame 29 (o_ast zYM .int (fun x => x) 30) := s_iast (by decide +kernel)
theorem iX10_openFrame_30 : zSnd zZM zmX10_openFrame 30 (o_aload 0 31) := s_aload_n (k := 0) (by decide +kernel) rfl
theorem iX10_openFrame_31 : zSnd zZM zmX10_openFrame 31 (o_getf zYM 0 25 34) := s_getf zcX10 fX10_50 (by decide +kernel) (by decide +kernel)
theorem iX10_openFrame_34 : zSnd zZM zmX10_openFrame 34 (o_aload 0 35) := s_aload_n (k := 0) (by decide +kernel) rfl
theorem iX10_openFrame_35 : zSnd zZM zmX10_openFrame 35 (o_getf zYM 0 28 38) := s_getf zcX10 fX10_504 (by decide +kernel) (by decide +kernel)
theorem iX10_openFrame_38 : zSnd zZM zmX10_openFrame 38 (o_aload 0 39) := s_aload_n (k := 0) (by decide +kernel) rfl
theorem iX10_openFrame_39 : zSnd zZM zmX10_openFrame 39 (o_getf zYM 0 22 42) := s_getf zcX10 fX10_507 (by decide +kernel) (by decide +kernel)
theorem iX10_openFrame_42 : zSnd zZM zmX10_openFrame 42 (o_ast zYM .int (fun x => x) 43) := s_iast (by decide +kernel)
theorem iX10_openFrame_43 : zSnd zZM zmX10_openFrame 43 (o_aload 0 44) := s_aload_n (k := 0) (by decide +kernel) rfl
theorem iX10_openFrame_44 : zSnd zZM zmX10_openFrame 44 (o_getf zYM 0 27 47) := s_getf zcX10 fX10_56 (by decide +kernel) (by decide +kernel)
theorem iX10_openFrame_47 : zSnd zZM zmX10_openFrame 47 (o_aload 0 48) := s_aload_n (k := 0) (by decide +kernel) rfl
theorem iX10_openFrame_48 : zSnd zZM zmX10_openFrame 48 (o_getf zYM 0 28 51) := s_getf zcX10 fX10_504 (by decide +kernel) (by decide +kernel)
theorem iX10_openFrame_51 : zSnd zZM zmX10_openFrame 51 (o_ic 0 52) := s_iconst (i := 0) (by decide +kernel) (by decide +kernel)
theorem iX10_openFrame_52 : zSnd zZM zmX10_openFrame 52 (o_ast zYM .boolean (fun x => vp_nar .boolean x) 53) := s_zast (by decide +kernel)
theorem iX10_openFrame_53 : zSnd zZM zmX10_openFrame 53 (o_aload 0 54) := s_aload_n (k := 0) (by decide +kernel) rfl
theorem iX10_openFrame_54 : zSnd zZM zmX10_openFrame 54 (o_dup 55) := s_dup (by decide +kernel)
theorem iX10_openFrame_55 : zSnd zZM zmX10_openFrame 55 (o_getf zYM 0 28 58) := s_getf zcX10 fX10_504 (by decide +kernel) (by decide +kernel)
theorem iX10_openFrame_58 : zSnd zZM zmX10_openFrame 58 (o_ic 1 59) := s_iconst (i := 1) (by decide +kernel) (by decide +kernel)
theorem iX10_openFrame_59 : zSnd zZM zmX10_openFrame 59 (o_ibin (fun x y => x + y) 60) := s_iadd (by decide +kernel)
theorem iX10_openFrame_60 : zSnd zZM zmX10_openFrame 60 (o_putI zYM 0 28 63) := s_putI zcX10 fX10_504 (by decide +kernel) rfl rfl (by decide +kernel)
theorem iX10_openFrame_63 : zSnd zZM zmX10_openFrame 63 (o_vret) := s_vret rfl (by decide +kernel)
def kX10_openFrame : List (Nat × zOp) := [(0, o_aload 0 1),
  (1, o_getf zYM 0 26 4),
  (4, o_aload 0 5),
  (5, o_getf zYM 0 28 8),
  (8, o_iload 1 9),
  (9, o_ast zYM .int (fun x => x) 10),
  (10, o_aload 0 11),
  (11, o_getf zYM 0 23 14),
  (14, o_aload 0 15),
  (15, o_getf zYM 0 28 18),
  (18, o_iload 2 19),
  (19, o_ast zYM .int (fun x => x) 20),
  (20, o_aload 0 21),
  (21, o_getf zYM 0 24 24),
  (24, o_aload 0 25),
  (25, o_getf zYM 0 28 28),
  (28, o_iload 3 29),
  (29, o_ast zYM .int (fun x => x) 30),
  (30, o_aload 0 31),
  (31, o_getf zYM 0 25 34),
  (34, o_aload 0 35),
  (35, o_getf zYM 0 28 38),
  (38, o_aload 0 39),
  (39, o_getf zYM 0 22 42),
  (42, o_ast zYM .int (fun x => x) 43),
  (43, o_aload 0 44),
  (44, o_getf zYM 0 27 47),
  (47, o_aload 0 48),
  (48, o_getf zYM 0 28 51),
  (51, o_ic 0 52),
  (52, o_ast zYM .boolean (fun x => vp_nar .boolean x) 53),
  (53, o_aload 0 54),
  (54, o_dup 55),
  (55, o_getf zYM 0 28 58),
  (58, o_ic 1 59),
  (59, o_ibin (fun x y => x + y) 60),
  (60, o_putI zYM 0 28 63),
  (63, o_vret)]
set_option maxRecDepth 100000 in
theorem ksX10_openFrame : ∀ q ∈ kX10_openFrame, zSnd zZM zmX10_openFrame q.1 q.2 := zcc iX10_openFrame_0 (zcc iX10_openFrame_1 (zcc iX10_openFrame_4 (zcc iX10_openFrame_5 (zcc iX10_openFrame_8 (zcc iX10_openFrame_9 (zcc iX10_openFrame_10 (zcc iX10_openFrame_11 (zcc iX10_openFrame_14 (zcc iX10_openFrame_15 (zcc iX10_openFrame_18 (zcc iX10_openFrame_19 (zcc iX10_openFrame_20 (zcc iX10_openFrame_21 (zcc iX10_openFrame_24 (zcc iX10_openFrame_25 (zcc iX10_openFrame_28 (zcc iX10_openFrame_29 (zcc iX10_openFrame_30 (zcc iX10_openFrame_31 (zcc iX10_openFrame_34 (zcc iX10_openFrame_35 (zcc iX10_openFrame_38 (zcc iX10_openFrame_39 (zcc iX10_openFrame_42 (zcc iX10_openFrame_43 (zcc iX10_openFrame_44 (zcc iX10_openFrame_47 (zcc iX10_openFrame_48 (zcc iX10_openFrame_51 (zcc iX10_openFrame_52 (zcc iX10_openFrame_53 (zcc iX10_openFrame_54 (zcc iX10_openFrame_55 (zcc iX10_openFrame_58 (zcc iX10_openFrame_59 (zcc iX10_openFrame_60 (zcc iX10_openFrame_63 zcn)))))))))))))))))))))))))))))))))))))
theorem iX10_parameter_0 : zSnd zZM zmX10_parameter 0 (o_iload 0 1) := s_iload_n (k := 0) (by decide +kernel) rfl
theorem iX10_parameter_1 : zSnd zZM zmX10_parameter 1 (o_ic 5 2) := s_iconst (i := 5) (by decide +kernel) (by decide +kernel)
theorem iX10_parameter_2 : zSnd zZM zmX10_parameter 2 (o_iload 1 3) := s_iload_n (k := 1) (by decide +kernel) rfl
theorem iX10_parameter_3 : zSnd zZM zmX10_parameter 3 (o_ibin (fun x y => x + y) 4) := s_iadd (by decide +kernel)
theorem iX10_parameter_4 : zSnd zZM zmX10_parameter 4 (o_ibin (fun x y => x >>> (y &&& 31)) 5) := s_ishr (by decide +kernel)
theorem iX10_parameter_5 : zSnd zZM zmX10_parameter 5 (o_ic 1 6) := s_iconst (i := 1) (by decide +kernel) (by decide +kernel)
theorem iX10_parameter_6 : zSnd zZM zmX10_parameter 6 (o_ibin (fun x y => x &&& y) 7) := s_iand (by decide +kernel)
theorem iX10_parameter_7 : zSnd zZM zmX10_parameter 7 (o_iret) := s_iret rfl (by decide +kernel)
def kX10_parameter : List (Nat × zOp) := [(0, o_iload 0 1),
  (1, o_ic 5 2),
  (2, o_iload 1 3),
  (3, o_ibin (fun x y => x + y) 4),
  (4, o_ibin (fun x y => x >>> (y &&& 31)) 5),
  (5, o_ic 1 6),
  (6, o_ibin (fun x y => x &&& y) 7),
  (7, o_iret)]
set_option maxRecDepth 100000 in
theorem ksX10_parameter : ∀ q ∈ kX10_parameter, zSnd zZM zmX10_parameter q.1 q.2 := zcc iX10_parameter_0 (zcc iX10_parameter_1 (zcc iX10_parameter_2 (zcc iX10_parameter_3 (zcc iX10_parameter_4 (zcc iX10_parameter_5 (zcc iX10_parameter_6 (zcc iX10_parameter_7 zcn)))))))
theorem iX10_parameters_0 : zSnd zZM zmX10_parameters 0 (o_iload 0 1) := s_iload_n (k := 0) (by decide +kernel) rfl
theorem iX10_parameters_1 : zSnd zZM zmX10_parameters 1 (o_ic 31 3) := s_bipush (i := 31) (by decide +kernel) (by decide +kernel)
theorem iX10_parameters_3 : zSnd zZM zmX10_parameters 3 (o_ibin (fun x y => x &&& y) 4) := s_iand (by decide +kernel)
theorem iX10_parameters_4 : zSnd zZM zmX10_parameters 4 (o_iret) := s_iret rfl (by decide +kernel)
def kX10_parameters : List (Nat × zOp) := [(0, o_iload 0 1),
  (1, o_ic 31 3),
  (3, o_ibin (fun x y => x &&& y) 4),
  (4, o_iret)]
set_option maxRecDepth 100000 in
theorem ksX10_parameters : ∀ q ∈ kX10_parameters, zSnd zZM zmX10_parameters q.1 q.2 := zcc iX10_parameters_0 (zcc iX10_parameters_1 (zcc iX10_parameters_3 (zcc iX10_parameters_4 zcn)))
theorem iX10_place_0 : zSnd zZM zmX10_place 0 (o_aload 0 1) := s_aload_n (k := 0) (by decide +kernel) rfl
theorem iX10_place_1 : zSnd zZM zmX10_place 1 (o_getf zYM 0 7 4) := s_getf zcX10 fX10_26 (by decide +kernel) (by decide +kernel)
theorem iX10_place_4 : zSnd zZM zmX10_place 4 (o_iret) := s_iret rfl (by decide +kernel)
def kX10_place : List (Nat × zOp) := [(0, o_aload 0 1),
  (1, o_getf zYM 0 7 4),
  (4, o_iret)]
set_option maxRecDepth 100000 in
theorem ksX10_place : ∀ q ∈ kX10_place, zSnd zZM zmX10_place q.1 q.2 := zcc iX10_place_0 (zcc iX10_place_1 (zcc iX10_place_4 zcn))
theorem iX10_rest_0 : zSnd zZM zmX10_rest 0 (o_aload 0 1) := s_aload_n (k := 0) (by decide +kernel) rfl
theorem iX10_rest_1 : zSnd zZM zmX10_rest 1 (o_aload 0 2) := s_aload_n (k := 0) (by decide +kernel) rfl
theorem iX10_rest_2 : zSnd zZM zmX10_rest 2 (o_getf zYM 0 25 5) := s_getf zcX10 fX10_50 (by decide +kernel) (by decide +kernel)
theorem iX10_rest_5 : zSnd zZM zmX10_rest 5 (o_aload 0 6) := s_aload_n (k := 0) (by decide +kernel) rfl
theorem iX10_rest_6 : zSnd zZM zmX10_rest 6 (o_getf zYM 0 28 9) := s_getf zcX10 fX10_504 (by decide +kernel) (by decide +kernel)
theorem iX10_rest_9 : zSnd zZM zmX10_rest 9 (o_ic 1 10) := s_iconst (i := 1) (by decide +kernel) (by decide +kernel)
theorem iX10_rest_10 : zSnd zZM zmX10_rest 10 (o_ibin (fun x y => x - y) 11) := s_isub (by decide +kernel)
theorem iX10_rest_11 : zSnd zZM zmX10_rest 11 (o_ald zYM .int 12) := s_iald (by decide +kernel)
theorem iX10_rest_12 : zSnd zZM zmX10_rest 12 (o_putI zYM 0 22 15) := s_putI zcX10 fX10_507 (by decide +kernel) rfl rfl (by decide +kernel)
theorem iX10_rest_15 : zSnd zZM zmX10_rest 15 (o_aload 0 16) := s_aload_n (k := 0) (by decide +kernel) rfl
theorem iX10_rest_16 : zSnd zZM zmX10_rest 16 (o_getf zYM 0 27 19) := s_getf zcX10 fX10_56 (by decide +kernel) (by decide +kernel)
theorem iX10_rest_19 : zSnd zZM zmX10_rest 19 (o_aload 0 20) := s_aload_n (k := 0) (by decide +kernel) rfl
theorem iX10_rest_20 : zSnd zZM zmX10_rest 20 (o_getf zYM 0 28 23) := s_getf zcX10 fX10_504 (by decide +kernel) (by decide +kernel)
theorem iX10_rest_23 : zSnd zZM zmX10_rest 23 (o_ic 1 24) := s_iconst (i := 1) (by decide +kernel) (by decide +kernel)
theorem iX10_rest_24 : zSnd zZM zmX10_rest 24 (o_ibin (fun x y => x - y) 25) := s_isub (by decide +kernel)
theorem iX10_rest_25 : zSnd zZM zmX10_rest 25 (o_ic 1 26) := s_iconst (i := 1) (by decide +kernel) (by decide +kernel)
theorem iX10_rest_26 : zSnd zZM zmX10_rest 26 (o_ast zYM .boolean (fun x => vp_nar .boolean x) 27) := s_zast (by decide +kernel)
theorem iX10_rest_27 : zSnd zZM zmX10_rest 27 (o_vret) := s_vret rfl (by decide +kernel)
def kX10_rest : List (Nat × zOp) := [(0, o_aload 0 1),
  (1, o_aload 0 2),
  (2, o_getf zYM 0 25 5),
  (5, o_aload 0 6),
  (6, o_getf zYM 0 28 9),
  (9, o_ic 1 10),
  (10, o_ibin (fun x y => x - y) 11),
  (11, o_ald zYM .int 12),
  (12, o_putI zYM 0 22 15),
  (15, o_aload 0 16),
  (16, o_getf zYM 0 27 19),
  (19, o_aload 0 20),
  (20, o_getf zYM 0 28 23),
  (23, o_ic 1 24),
  (24, o_ibin (fun x y => x - y) 25),
  (25, o_ic 1 26),
  (26, o_ast zYM .boolean (fun x => vp_nar .boolean x) 27),
  (27, o_vret)]
set_option maxRecDepth 100000 in
theorem ksX10_rest : ∀ q ∈ kX10_rest, zSnd zZM zmX10_rest q.1 q.2 := zcc iX10_rest_0 (zcc iX10_rest_1 (zcc iX10_rest_2 (zcc iX10_rest_5 (zcc iX10_rest_6 (zcc iX10_rest_9 (zcc iX10_rest_10 (zcc iX10_rest_11 (zcc iX10_rest_12 (zcc iX10_rest_15 (zcc iX10_rest_16 (zcc iX10_rest_19 (zcc iX10_rest_20 (zcc iX10_rest_23 (zcc iX10_rest_24 (zcc iX10_rest_25 (zcc iX10_rest_26 (zcc iX10_rest_27 zcn)))))))))))))))))
theorem iX10_resultOf_0 : zSnd zZM zmX10_resultOf 0 (o_iload 0 1) := s_iload_n (k := 0) (by decide +kernel) rfl
theorem iX10_resultOf_1 : zSnd zZM zmX10_resultOf 1 (o_ic 21 3) := s_bipush (i := 21) (by decide +kernel) (by decide +kernel)
theorem iX10_resultOf_3 : zSnd zZM zmX10_resultOf 3 (o_ibin (fun x y => x >>> (y &&& 31)) 4) := s_ishr (by decide +kernel)
theorem iX10_resultOf_4 : zSnd zZM zmX10_resultOf 4 (o_iret) := s_iret rfl (by decide +kernel)
def kX10_resultOf : List (Nat × zOp) := [(0, o_iload 0 1),
  (1, o_ic 21 3),
  (3, o_ibin (fun x y => x >>> (y &&& 31)) 4),
  (4, o_iret)]
set_option maxRecDepth 100000 in
theorem ksX10_resultOf : ∀ q ∈ kX10_resultOf, zSnd zZM zmX10_resultOf q.1 q.2 := zcc iX10_resultOf_0 (zcc iX10_resultOf_1 (zcc iX10_resultOf_3 (zcc iX10_resultOf_4 zcn)))
theorem iX10_takes_0 : zSnd zZM zmX10_takes 0 (o_iload 1 1) := s_iload_n (k := 1) (by decide +kernel) rfl
theorem iX10_takes_1 : zSnd zZM zmX10_takes 1 (o_ic 2 2) := s_iconst (i := 2) (by decide +kernel) (by decide +kernel)
theorem iX10_takes_2 : zSnd zZM zmX10_takes 2 (o_icmp (fun x y => x = y) 5 7) := s_icmp_ne (off := 5) (by decide +kernel) (by decide +kernel)
theorem iX10_takes_5 : zSnd zZM zmX10_takes 5 (o_ic 2 6) := s_iconst (i := 2) (by decide +kernel) (by decide +kernel)
theorem iX10_takes_6 : zSnd zZM zmX10_takes 6 (o_iret) := s_iret rfl (by decide +kernel)
theorem iX10_takes_7 : zSnd zZM zmX10_takes 7 (o_aload 0 8) := s_aload_n (k := 0) (by decide +kernel) rfl
theorem iX10_takes_8 : zSnd zZM zmX10_takes 8 (o_getf zYM 0 22 11) := s_getf zcX10 fX10_507 (by decide +kernel) (by decide +kernel)
theorem iX10_takes_11 : zSnd zZM zmX10_takes 11 (o_aload 0 12) := s_aload_n (k := 0) (by decide +kernel) rfl
theorem iX10_takes_12 : zSnd zZM zmX10_takes 12 (o_getf zYM 0 25 15) := s_getf zcX10 fX10_50 (by decide +kernel) (by decide +kernel)
theorem iX10_takes_15 : zSnd zZM zmX10_takes 15 (o_aload 0 16) := s_aload_n (k := 0) (by decide +kernel) rfl
theorem iX10_takes_16 : zSnd zZM zmX10_takes 16 (o_getf zYM 0 28 19) := s_getf zcX10 fX10_504 (by decide +kernel) (by decide +kernel)
theorem iX10_takes_19 : zSnd zZM zmX10_takes 19 (o_ic 1 20) := s_iconst (i := 1) (by decide +kernel) (by decide +kernel)
theorem iX10_takes_20 : zSnd zZM zmX10_takes 20 (o_ibin (fun x y => x - y) 21) := s_isub (by decide +kernel)
theorem iX10_takes_21 : zSnd zZM zmX10_takes 21 (o_ald zYM .int 22) := s_iald (by decide +kernel)
theorem iX10_takes_22 : zSnd zZM zmX10_takes 22 (o_icmp (fun x y => x = y) 25 57) := s_icmp_ne (off := 35) (by decide +kernel) (by decide +kernel)
theorem iX10_takes_25 : zSnd zZM zmX10_takes 25 (o_aload 0 26) := s_aload_n (k := 0) (by decide +kernel) rfl
theorem iX10_takes_26 : zSnd zZM zmX10_takes 26 (o_aload 0 27) := s_aload_n (k := 0) (by decide +kernel) rfl
theorem iX10_takes_27 : zSnd zZM zmX10_takes 27 (o_getf zYM 0 31 30) := s_getf zcX10 fX10_510 (by decide +kernel) (by decide +kernel)
theorem iX10_takes_30 : zSnd zZM zmX10_takes 30 (o_if0 (fun x => x = 0) 51 33) := s_if_eq (off := 21) (by decide +kernel) (by decide +kernel)
theorem iX10_takes_33 : zSnd zZM zmX10_takes 33 (o_aload 0 34) := s_aload_n (k := 0) (by decide +kernel) rfl
theorem iX10_takes_34 : zSnd zZM zmX10_takes 34 (o_getf zYM 0 27 37) := s_getf zcX10 fX10_56 (by decide +kernel) (by decide +kernel)
theorem iX10_takes_37 : zSnd zZM zmX10_takes 37 (o_aload 0 38) := s_aload_n (k := 0) (by decide +kernel) rfl
theorem iX10_takes_38 : zSnd zZM zmX10_takes 38 (o_getf zYM 0 28 41) := s_getf zcX10 fX10_504 (by decide +kernel) (by decide +kernel)
theorem iX10_takes_41 : zSnd zZM zmX10_takes 41 (o_ic 1 42) := s_iconst (i := 1) (by decide +kernel) (by decide +kernel)
theorem iX10_takes_42 : zSnd zZM zmX10_takes 42 (o_ibin (fun x y => x - y) 43) := s_isub (by decide +kernel)
theorem iX10_takes_43 : zSnd zZM zmX10_takes 43 (o_ald zYM .boolean 44) := s_zald (by decide +kernel)
theorem iX10_takes_44 : zSnd zZM zmX10_takes 44 (o_if0 (fun x => x = 0) 51 47) := s_if_eq (off := 7) (by decide +kernel) (by decide +kernel)
theorem iX10_takes_47 : zSnd zZM zmX10_takes 47 (o_ic 1 48) := s_iconst (i := 1) (by decide +kernel) (by decide +kernel)
theorem iX10_takes_48 : zSnd zZM zmX10_takes 48 (o_goto 52) := s_goto (off := 4) (by decide +kernel) (by decide +kernel)
theorem iX10_takes_51 : zSnd zZM zmX10_takes 51 (o_ic 0 52) := s_iconst (i := 0) (by decide +kernel) (by decide +kernel)
theorem iX10_takes_52 : zSnd zZM zmX10_takes 52 (o_putZ zYM 0 31 55) := s_putZ zcX10 fX10_510 (by decide +kernel) rfl rfl (by decide +kernel)
theorem iX10_takes_55 : zSnd zZM zmX10_takes 55 (o_ic 3 56) := s_iconst (i := 3) (by decide +kernel) (by decide +kernel)
theorem iX10_takes_56 : zSnd zZM zmX10_takes 56 (o_iret) := s_iret rfl (by decide +kernel)
theorem iX10_takes_57 : zSnd zZM zmX10_takes 57 (o_aload 0 58) := s_aload_n (k := 0) (by decide +kernel) rfl
theorem iX10_takes_58 : zSnd zZM zmX10_takes 58 (o_dup 59) := s_dup (by decide +kernel)
theorem iX10_takes_59 : zSnd zZM zmX10_takes 59 (o_getf zYM 0 22 62) := s_getf zcX10 fX10_507 (by decide +kernel) (by decide +kernel)
theorem iX10_takes_62 : zSnd zZM zmX10_takes 62 (o_ic 1 63) := s_iconst (i := 1) (by decide +kernel) (by decide +kernel)
theorem iX10_takes_63 : zSnd zZM zmX10_takes 63 (o_ibin (fun x y => x - y) 64) := s_isub (by decide +kernel)
theorem iX10_takes_64 : zSnd zZM zmX10_takes 64 (o_putI zYM 0 22 67) := s_putI zcX10 fX10_507 (by decide +kernel) rfl rfl (by decide +kernel)
theorem iX10_takes_67 : zSnd zZM zmX10_takes 67 (o_aload 0 68) := s_aload_n (k := 0) (by decide +kernel) rfl
theorem iX10_takes_68 : zSnd zZM zmX10_takes 68 (o_getf zYM 0 21 71) := s_getf zcX10 fX10_41 (by decide +kernel) (by decide +kernel)
theorem iX10_takes_71 : zSnd zZM zmX10_takes 71 (o_aload 0 72) := s_aload_n (k := 0) (by decide +kernel) rfl
theorem iX10_takes_72 : zSnd zZM zmX10_takes 72 (o_getf zYM 0 22 75) := s_getf zcX10 fX10_507 (by decide +kernel) (by decide +kernel)
theorem iX10_takes_75 : zSnd zZM zmX10_takes 75 (o_ald zYM .byte 76) := s_bald (by decide +kernel)
theorem iX10_takes_76 : zSnd zZM zmX10_takes 76 (o_istore 2 77) := s_istore_n (k := 2) (by decide +kernel) rfl (by decide +kernel)
theorem iX10_takes_77 : zSnd zZM zmX10_takes 77 (o_aload 0 78) := s_aload_n (k := 0) (by decide +kernel) rfl
theorem iX10_takes_78 : zSnd zZM zmX10_takes 78 (o_aload 0 79) := s_aload_n (k := 0) (by decide +kernel) rfl
theorem iX10_takes_79 : zSnd zZM zmX10_takes 79 (o_getf zYM 0 31 82) := s_getf zcX10 fX10_510 (by decide +kernel) (by decide +kernel)
theorem iX10_takes_82 : zSnd zZM zmX10_takes 82 (o_if0 (fun x => x = 0) 104 85) := s_if_eq (off := 22) (by decide +kernel) (by decide +kernel)
theorem iX10_takes_85 : zSnd zZM zmX10_takes 85 (o_iload 2 86) := s_iload_n (k := 2) (by decide +kernel) rfl
theorem iX10_takes_86 : zSnd zZM zmX10_takes 86 (o_iload 1 87) := s_iload_n (k := 1) (by decide +kernel) rfl
theorem iX10_takes_87 : zSnd zZM zmX10_takes 87 (o_icmp (fun x y => x = y) 100 90) := s_icmp_eq (off := 13) (by decide +kernel) (by decide +kernel)
theorem iX10_takes_90 : zSnd zZM zmX10_takes 90 (o_iload 2 91) := s_iload_n (k := 2) (by decide +kernel) rfl
theorem iX10_takes_91 : zSnd zZM zmX10_takes 91 (o_ic 3 92) := s_iconst (i := 3) (by decide +kernel) (by decide +kernel)
theorem iX10_takes_92 : zSnd zZM zmX10_takes 92 (o_icmp (fun x y => x = y) 100 95) := s_icmp_eq (off := 8) (by decide +kernel) (by decide +kernel)
theorem iX10_takes_95 : zSnd zZM zmX10_takes 95 (o_iload 1 96) := s_iload_n (k := 1) (by decide +kernel) rfl
theorem iX10_takes_96 : zSnd zZM zmX10_takes 96 (o_ic 3 97) := s_iconst (i := 3) (by decide +kernel) (by decide +kernel)
theorem iX10_takes_97 : zSnd zZM zmX10_takes 97 (o_icmp (fun x y => x = y) 100 104) := s_icmp_ne (off := 7) (by decide +kernel) (by decide +kernel)
theorem iX10_takes_100 : zSnd zZM zmX10_takes 100 (o_ic 1 101) := s_iconst (i := 1) (by decide +kernel) (by decide +kernel)
theorem iX10_takes_101 : zSnd zZM zmX10_takes 101 (o_goto 105) := s_goto (off := 4) (by decide +kernel) (by decide +kernel)
theorem iX10_takes_104 : zSnd zZM zmX10_takes 104 (o_ic 0 105) := s_iconst (i := 0) (by decide +kernel) (by decide +kernel)
theorem iX10_takes_105 : zSnd zZM zmX10_takes 105 (o_putZ zYM 0 31 108) := s_putZ zcX10 fX10_510 (by decide +kernel) rfl rfl (by decide +kernel)
theorem iX10_takes_108 : zSnd zZM zmX10_takes 108 (o_iload 2 109) := s_iload_n (k := 2) (by decide +kernel) rfl
theorem iX10_takes_109 : zSnd zZM zmX10_takes 109 (o_iret) := s_iret rfl (by decide +kernel)
def kX10_takes : List (Nat × zOp) := [(0, o_iload 1 1),
  (1, o_ic 2 2),
  (2, o_icmp (fun x y => x = y) 5 7),
  (5, o_ic 2 6),
  (6, o_iret),
  (7, o_aload 0 8),
  (8, o_getf zYM 0 22 11),
  (11, o_aload 0 12),
  (12, o_getf zYM 0 25 15),
  (15, o_aload 0 16),
  (16, o_getf zYM 0 28 19),
  (19, o_ic 1 20),
  (20, o_ibin (fun x y => x - y) 21),
  (21, o_ald zYM .int 22),
  (22, o_icmp (fun x y => x = y) 25 57),
  (25, o_aload 0 26),
  (26, o_aload 0 27),
  (27, o_getf zYM 0 31 30),
  (30, o_if0 (fun x => x = 0) 51 33),
  (33, o_aload 0 34),
  (34, o_getf zYM 0 27 37),
  (37, o_aload 0 38),
  (38, o_getf zYM 0 28 41),
  (41, o_ic 1 42),
  (42, o_ibin (fun x y => x - y) 43),
  (43, o_ald zYM .boolean 44),
  (44, o_if0 (fun x => x = 0) 51 47),
  (47, o_ic 1 48),
  (48, o_goto 52),
  (51, o_ic 0 52),
  (52, o_putZ zYM 0 31 55),
  (55, o_ic 3 56),
  (56, o_iret),
  (57, o_aload 0 58),
  (58, o_dup 59),
  (59, o_getf zYM 0 22 62),
  (62, o_ic 1 63),
  (63, o_ibin (fun x y => x - y) 64),
  (64, o_putI zYM 0 22 67),
  (67, o_aload 0 68),
  (68, o_getf zYM 0 21 71),
  (71, o_aload 0 72),
  (72, o_getf zYM 0 22 75),
  (75, o_ald zYM .byte 76),
  (76, o_istore 2 77),
  (77, o_aload 0 78),
  (78, o_aload 0 79),
  (79, o_getf zYM 0 31 82),
  (82, o_if0 (fun x => x = 0) 104 85),
  (85, o_iload 2 86),
  (86, o_iload 1 87),
  (87, o_icmp (fun x y => x = y) 100 90),
  (90, o_iload 2 91),
  (91, o_ic 3 92),
  (92, o_icmp (fun x y => x = y) 100 95),
  (95, o_iload 1 96),
  (96, o_ic 3 97),
  (97, o_icmp (fun x y => x = y) 100 104),
  (100, o_ic 1 101),
  (101, o_goto 105),
  (104, o_ic 0 105),
  (105, o_putZ zYM 0 31 108),
  (108, o_iload 2 109),
  (109, o_iret)]
set_option maxRecDepth 100000 in
theorem ksX10_takes : ∀ q ∈ kX10_takes, zSnd zZM zmX10_takes q.1 q.2 := zcc iX10_takes_0 (zcc iX10_takes_1 (zcc iX10_takes_2 (zcc iX10_takes_5 (zcc iX10_takes_6 (zcc iX10_takes_7 (zcc iX10_takes_8 (zcc iX10_takes_11 (zcc iX10_takes_12 (zcc iX10_takes_15 (zcc iX10_takes_16 (zcc iX10_takes_19 (zcc iX10_takes_20 (zcc iX10_takes_21 (zcc iX10_takes_22 (zcc iX10_takes_25 (zcc iX10_takes_26 (zcc iX10_takes_27 (zcc iX10_takes_30 (zcc iX10_takes_33 (zcc iX10_takes_34 (zcc iX10_takes_37 (zcc iX10_takes_38 (zcc iX10_takes_41 (zcc iX10_takes_42 (zcc iX10_takes_43 (zcc iX10_takes_44 (zcc iX10_takes_47 (zcc iX10_takes_48 (zcc iX10_takes_51 (zcc iX10_takes_52 (zcc iX10_takes_55 (zcc iX10_takes_56 (zcc iX10_takes_57 (zcc iX10_takes_58 (zcc iX10_takes_59 (zcc iX10_takes_62 (zcc iX10_takes_63 (zcc iX10_takes_64 (zcc iX10_takes_67 (zcc iX10_takes_68 (zcc iX10_takes_71 (zcc iX10_takes_72 (zcc iX10_takes_75 (zcc iX10_takes_76 (zcc iX10_takes_77 (zcc iX10_takes_78 (zcc iX10_takes_79 (zcc iX10_takes_82 (zcc iX10_takes_85 (zcc iX10_takes_86 (zcc iX10_takes_87 (zcc iX10_takes_90 (zcc iX10_takes_91 (zcc iX10_takes_92 (zcc iX10_takes_95 (zcc iX10_takes_96 (zcc iX10_takes_97 (zcc iX10_takes_100 (zcc iX10_takes_101 (zcc iX10_takes_104 (zcc iX10_takes_105 (zcc iX10_takes_108 (zcc iX10_takes_109 zcn)))))))))))))))))))))))))))))))))))))))))))))))))))))))))))))))
theorem iX10_valueType_0 : zSnd zZM zmX10_valueType 0 (o_iload 0 1) := s_iload_n (k := 0) (by decide +kernel) rfl
theorem iX10_valueType_1 : zSnd zZM zmX10_valueType 1 (o_ic 40 3) := s_bipush (i := 40) (by decide +kernel) (by decide +kernel)
theorem iX10_valueType_3 : zSnd zZM zmX10_valueType 3 (o_icmp (fun x y => x = y) 36 6) := s_icmp_eq (off := 33) (by decide +kernel) (by decide +kernel)
theorem iX10_valueType_6 : zSnd zZM zmX10_valueType 6 (o_iload 0 7) := s_iload_n (k := 0) (by decide +kernel) rfl
theorem iX10_valueType_7 : zSnd zZM zmX10_valueType 7 (o_ic 44 9) := s_bipush (i := 44) (by decide +kernel) (by decide +kernel)
theorem iX10_valueType_9 : zSnd zZM zmX10_valueType 9 (o_icmp (fun x y => x < y) 18 12) := s_icmp_lt (off := 9) (by decide +kernel) (by decide +kernel)
theorem iX10_valueType_12 : zSnd zZM zmX10_valueType 12 (o_iload 0 13) := s_iload_n (k := 0) (by decide +kernel) rfl
theorem iX10_valueType_13 : zSnd zZM zmX10_valueType 13 (o_ic 47 15) := s_bipush (i := 47) (by decide +kernel) (by decide +kernel)
theorem iX10_valueType_15 : zSnd zZM zmX10_valueType 15 (o_icmp (fun x y => x ≤ y) 36 18) := s_icmp_le (off := 21) (by decide +kernel) (by decide +kernel)
theorem iX10_valueType_18 : zSnd zZM zmX10_valueType 18 (o_iload 0 19) := s_iload_n (k := 0) (by decide +kernel) rfl
theorem iX10_valueType_19 : zSnd zZM zmX10_valueType 19 (o_ic 54 21) := s_bipush (i := 54) (by decide +kernel) (by decide +kernel)
theorem iX10_valueType_21 : zSnd zZM zmX10_valueType 21 (o_icmp (fun x y => x = y) 36 24) := s_icmp_eq (off := 15) (by decide +kernel) (by decide +kernel)
theorem iX10_valueType_24 : zSnd zZM zmX10_valueType 24 (o_iload 0 25) := s_iload_n (k := 0) (by decide +kernel) rfl
theorem iX10_valueType_25 : zSnd zZM zmX10_valueType 25 (o_ic 58 27) := s_bipush (i := 58) (by decide +kernel) (by decide +kernel)
theorem iX10_valueType_27 : zSnd zZM zmX10_valueType 27 (o_icmp (fun x y => x = y) 36 30) := s_icmp_eq (off := 9) (by decide +kernel) (by decide +kernel)
theorem iX10_valueType_30 : zSnd zZM zmX10_valueType 30 (o_iload 0 31) := s_iload_n (k := 0) (by decide +kernel) rfl
theorem iX10_valueType_31 : zSnd zZM zmX10_valueType 31 (o_ic 59 33) := s_bipush (i := 59) (by decide +kernel) (by decide +kernel)
theorem iX10_valueType_33 : zSnd zZM zmX10_valueType 33 (o_icmp (fun x y => x = y) 36 40) := s_icmp_ne (off := 7) (by decide +kernel) (by decide +kernel)
theorem iX10_valueType_36 : zSnd zZM zmX10_valueType 36 (o_ic 0 37) := s_iconst (i := 0) (by decide +kernel) (by decide +kernel)
theorem iX10_valueType_37 : zSnd zZM zmX10_valueType 37 (o_goto 41) := s_goto (off := 4) (by decide +kernel) (by decide +kernel)
theorem iX10_valueType_40 : zSnd zZM zmX10_valueType 40 (o_ic 1 41) := s_iconst (i := 1) (by decide +kernel) (by decide +kernel)
theorem iX10_valueType_41 : zSnd zZM zmX10_valueType 41 (o_iret) := s_iret rfl (by decide +kernel)
def kX10_valueType : List (Nat × zOp) := [(0, o_iload 0 1),
  (1, o_ic 40 3),
  (3, o_icmp (fun x y => x = y) 36 6),
  (6, o_iload 0 7),
  (7, o_ic 44 9),
  (9, o_icmp (fun x y => x < y) 18 12),
  (12, o_iload 0 13),
  (13, o_ic 47 15),
  (15, o_icmp (fun x y => x ≤ y) 36 18),
  (18, o_iload 0 19),
  (19, o_ic 54 21),
  (21, o_icmp (fun x y => x = y) 36 24),
  (24, o_iload 0 25),
  (25, o_ic 58 27),
  (27, o_icmp (fun x y => x = y) 36 30),
  (30, o_iload 0 31),
  (31, o_ic 59 33),
  (33, o_icmp (fun x y => x = y) 36 40),
  (36, o_ic 0 37),
  (37, o_goto 41),
  (40, o_ic 1 41),
  (41, o_iret)]
set_option maxRecDepth 100000 in
theorem ksX10_valueType : ∀ q ∈ kX10_valueType, zSnd zZM zmX10_valueType q.1 q.2 := zcc iX10_valueType_0 (zcc iX10_valueType_1 (zcc iX10_valueType_3 (zcc iX10_valueType_6 (zcc iX10_valueType_7 (zcc iX10_valueType_9 (zcc iX10_valueType_12 (zcc iX10_valueType_13 (zcc iX10_valueType_15 (zcc iX10_valueType_18 (zcc iX10_valueType_19 (zcc iX10_valueType_21 (zcc iX10_valueType_24 (zcc iX10_valueType_25 (zcc iX10_valueType_27 (zcc iX10_valueType_30 (zcc iX10_valueType_31 (zcc iX10_valueType_33 (zcc iX10_valueType_36 (zcc iX10_valueType_37 (zcc iX10_valueType_40 (zcc iX10_valueType_41 zcn)))))))))))))))))))))
theorem iX10_width_0 : zSnd zZM zmX10_width 0 (o_iload 0 1) := s_iload_n (k := 0) (by decide +kernel) rfl
theorem iX10_width_1 : zSnd zZM zmX10_width 1 (o_sw [([40, 52, 53, 54, 62], 110), ([41, 55], 108), ([46, 47, 50, 51, 59, 61], 112)] 114) := s_tsw (dflt := 113) (lo := 40) (hi := 62) (offs := #[109, 107, 113, 113, 113, 113, 111, 111, 113, 113, 111, 111, 109, 109, 109, 107, 113, 113, 113, 111, 113, 111, 109]) (len := 107) (by decide +kernel) (by decide +kernel) (by decide +kernel) (by decide +kernel)
theorem iX10_width_108 : zSnd zZM zmX10_width 108 (o_ic 3 109) := s_iconst (i := 3) (by decide +kernel) (by decide +kernel)
theorem iX10_width_109 : zSnd zZM zmX10_width 109 (o_iret) := s_iret rfl (by decide +kernel)
theorem iX10_width_110 : zSnd zZM zmX10_width 110 (o_ic 2 111) := s_iconst (i := 2) (by decide +kernel) (by decide +kernel)
theorem iX10_width_111 : zSnd zZM zmX10_width 111 (o_iret) := s_iret rfl (by decide +kernel)
theorem iX10_width_112 : zSnd zZM zmX10_width 112 (o_ic 1 113) := s_iconst (i := 1) (by decide +kernel) (by decide +kernel)
theorem iX10_width_113 : zSnd zZM zmX10_width 113 (o_iret) := s_iret rfl (by decide +kernel)
theorem iX10_width_114 : zSnd zZM zmX10_width 114 (o_ic 0 115) := s_iconst (i := 0) (by decide +kernel) (by decide +kernel)
theorem iX10_width_115 : zSnd zZM zmX10_width 115 (o_iret) := s_iret rfl (by decide +kernel)
def kX10_width : List (Nat × zOp) := [(0, o_iload 0 1),
  (1, o_sw [([40, 52, 53, 54, 62], 110), ([41, 55], 108), ([46, 47, 50, 51, 59, 61], 112)] 114),
  (108, o_ic 3 109),
  (109, o_iret),
  (110, o_ic 2 111),
  (111, o_iret),
  (112, o_ic 1 113),
  (113, o_iret),
  (114, o_ic 0 115),
  (115, o_iret)]
set_option maxRecDepth 100000 in
theorem ksX10_width : ∀ q ∈ kX10_width, zSnd zZM zmX10_width q.1 q.2 := zcc iX10_width_0 (zcc iX10_width_1 (zcc iX10_width_108 (zcc iX10_width_109 (zcc iX10_width_110 (zcc iX10_width_111 (zcc iX10_width_112 (zcc iX10_width_113 (zcc iX10_width_114 (zcc iX10_width_115 zcn)))))))))
theorem iX10_word_0 : zSnd zZM zmX10_word 0 (o_ic 3 1) := s_iconst (i := 3) (by decide +kernel) (by decide +kernel)
theorem iX10_word_1 : zSnd zZM zmX10_word 1 (o_istore 2 2) := s_istore_n (k := 2) (by decide +kernel) rfl (by decide +kernel)
theorem iX10_word_2 : zSnd zZM zmX10_word 2 (o_iload 2 3) := s_iload_n (k := 2) (by decide +kernel) rfl
theorem iX10_word_3 : zSnd zZM zmX10_word 3 (o_if0 (fun x => x < 0) 38 6) := s_if_lt (off := 35) (by decide +kernel) (by decide +kernel)
theorem iX10_word_6 : zSnd zZM zmX10_word 6 (o_aload 0 7) := s_aload_n (k := 0) (by decide +kernel) rfl
theorem iX10_word_7 : zSnd zZM zmX10_word 7 (o_getf zYM 0 4 10) := s_getf zcX10 fX10_23 (by decide +kernel) (by decide +kernel)
theorem iX10_word_10 : zSnd zZM zmX10_word 10 (o_aload 0 11) := s_aload_n (k := 0) (by decide +kernel) rfl
theorem iX10_word_11 : zSnd zZM zmX10_word 11 (o_getf zYM 0 5 14) := s_getf zcX10 fX10_66 (by decide +kernel) (by decide +kernel)
theorem iX10_word_14 : zSnd zZM zmX10_word 14 (o_iload 1 15) := s_iload_n (k := 1) (by decide +kernel) rfl
theorem iX10_word_15 : zSnd zZM zmX10_word 15 (o_ic 8 17) := s_bipush (i := 8) (by decide +kernel) (by decide +kernel)
theorem iX10_word_17 : zSnd zZM zmX10_word 17 (o_iload 2 18) := s_iload_n (k := 2) (by decide +kernel) rfl
theorem iX10_word_18 : zSnd zZM zmX10_word 18 (o_ibin (fun x y => x * y) 19) := s_imul (by decide +kernel)
theorem iX10_word_19 : zSnd zZM zmX10_word 19 (o_ibin (fun x y => x >>> (y &&& 31)) 20) := s_ishr (by decide +kernel)
theorem iX10_word_20 : zSnd zZM zmX10_word 20 (o_iun (fun x => x.toInt8.toInt32) 21) := s_i2b (by decide +kernel)
theorem iX10_word_21 : zSnd zZM zmX10_word 21 (o_ast zYM .byte (fun x => vp_nar .byte x) 22) := s_bast (by decide +kernel)
theorem iX10_word_22 : zSnd zZM zmX10_word 22 (o_aload 0 23) := s_aload_n (k := 0) (by decide +kernel) rfl
theorem iX10_word_23 : zSnd zZM zmX10_word 23 (o_dup 24) := s_dup (by decide +kernel)
theorem iX10_word_24 : zSnd zZM zmX10_word 24 (o_getf zYM 0 5 27) := s_getf zcX10 fX10_66 (by decide +kernel) (by decide +kernel)
theorem iX10_word_27 : zSnd zZM zmX10_word 27 (o_ic 1 28) := s_iconst (i := 1) (by decide +kernel) (by decide +kernel)
theorem iX10_word_28 : zSnd zZM zmX10_word 28 (o_ibin (fun x y => x + y) 29) := s_iadd (by decide +kernel)
theorem iX10_word_29 : zSnd zZM zmX10_word 29 (o_putI zYM 0 5 32) := s_putI zcX10 fX10_66 (by decide +kernel) rfl rfl (by decide +kernel)
theorem iX10_word_32 : zSnd zZM zmX10_word 32 (o_iinc 2 (-1) 35) := s_iinc (a := (-1)) (by decide +kernel) (by decide +kernel) (by decide +kernel)
theorem iX10_word_35 : zSnd zZM zmX10_word 35 (o_goto 2) := s_goto (off := (-33)) (by decide +kernel) (by decide +kernel)
theorem iX10_word_38 : zSnd zZM zmX10_word 38 (o_vret) := s_vret rfl (by decide +kernel)
def kX10_word : List (Nat × zOp) := [(0, o_ic 3 1),
  (1, o_istore 2 2),
  (2, o_iload 2 3),
  (3, o_if0 (fun x => x < 0) 38 6),
  (6, o_aload 0 7),
  (7, o_getf zYM 0 4 10),
  (10, o_aload 0 11),
  (11, o_getf zYM 0 5 14),
  (14, o_iload 1 15),
  (15, o_ic 8 17),
  (17, o_iload 2 18),
  (18, o_ibin (fun x y => x * y) 19),
  (19, o_ibin (fun x y => x >>> (y &&& 31)) 20),
  (20, o_iun (fun x => x.toInt8.toInt32) 21),
  (21, o_ast zYM .byte (fun x => vp_nar .byte x) 22),
  (22, o_aload 0 23),
  (23, o_dup 24),
  (24, o_getf zYM 0 5 27),
  (27, o_ic 1 28),
  (28, o_ibin (fun x y => x + y) 29),
  (29, o_putI zYM 0 5 32),
  (32, o_iinc 2 (-1) 35),
  (35, o_goto 2),
  (38, o_vret)]
set_option maxRecDepth 100000 in
theorem ksX10_word : ∀ q ∈ kX10_word, zSnd zZM zmX10_word q.1 q.2 := zcc iX10_word_0 (zcc iX10_word_1 (zcc iX10_word_2 (zcc iX10_word_3 (zcc iX10_word_6 (zcc iX10_word_7 (zcc iX10_word_10 (zcc iX10_word_11 (zcc iX10_word_14 (zcc iX10_word_15 (zcc iX10_word_17 (zcc iX10_word_18 (zcc iX10_word_19 (zcc iX10_word_20 (zcc iX10_word_21 (zcc iX10_word_22 (zcc iX10_word_23 (zcc iX10_word_24 (zcc iX10_word_27 (zcc iX10_word_28 (zcc iX10_word_29 (zcc iX10_word_32 (zcc iX10_word_35 (zcc iX10_word_38 zcn)))))))))))))))))))))))
theorem iX10_wrong_0 : zSnd zZM zmX10_wrong 0 (o_aload 0 1) := s_aload_n (k := 0) (by decide +kernel) rfl
theorem iX10_wrong_1 : zSnd zZM zmX10_wrong 1 (o_iload 1 2) := s_iload_n (k := 1) (by decide +kernel) rfl
theorem iX10_wrong_2 : zSnd zZM zmX10_wrong 2 (o_putI zYM 0 10 5) := s_putI zcX10 fX10_90 (by decide +kernel) rfl rfl (by decide +kernel)
theorem iX10_wrong_5 : zSnd zZM zmX10_wrong 5 (o_aload 0 6) := s_aload_n (k := 0) (by decide +kernel) rfl
theorem iX10_wrong_6 : zSnd zZM zmX10_wrong 6 (o_iload 2 7) := s_iload_n (k := 2) (by decide +kernel) rfl
theorem iX10_wrong_7 : zSnd zZM zmX10_wrong 7 (o_putI zYM 0 11 10) := s_putI zcX10 fX10_87 (by decide +kernel) rfl rfl (by decide +kernel)
theorem iX10_wrong_10 : zSnd zZM zmX10_wrong 10 (o_aload 0 11) := s_aload_n (k := 0) (by decide +kernel) rfl
theorem iX10_wrong_11 : zSnd zZM zmX10_wrong 11 (o_getf zYM 0 9 14) := s_getf zcX10 fX10_33 (by decide +kernel) (by decide +kernel)
theorem iX10_wrong_14 : zSnd zZM zmX10_wrong 14 (o_aret) := s_aret rfl (by decide +kernel)
def kX10_wrong : List (Nat × zOp) := [(0, o_aload 0 1),
  (1, o_iload 1 2),
  (2, o_putI zYM 0 10 5),
  (5, o_aload 0 6),
  (6, o_iload 2 7),
  (7, o_putI zYM 0 11 10),
  (10, o_aload 0 11),
  (11, o_getf zYM 0 9 14),
  (14, o_aret)]
set_option maxRecDepth 100000 in
theorem ksX10_wrong : ∀ q ∈ kX10_wrong, zSnd zZM zmX10_wrong q.1 q.2 := zcc iX10_wrong_0 (zcc iX10_wrong_1 (zcc iX10_wrong_2 (zcc iX10_wrong_5 (zcc iX10_wrong_6 (zcc iX10_wrong_7 (zcc iX10_wrong_10 (zcc iX10_wrong_11 (zcc iX10_wrong_14 zcn))))))))
theorem iX9_has_0 : zSnd zZM zmX9_has 0 (o_aload 0 1) := s_aload_n (k := 0) (by decide +kernel) rfl
theorem iX9_has_1 : zSnd zZM zmX9_has 1 (o_getf zYM 1 55 4) := s_getf zcX9 fX9_137 (by decide +kernel) (by decide +kernel)
theorem iX9_has_4 : zSnd zZM zmX9_has 4 (o_iload 1 5) := s_iload_n (k := 1) (by decide +kernel) rfl
theorem iX9_has_5 : zSnd zZM zmX9_has 5 (o_ald zYM .int 6) := s_iald (by decide +kernel)
theorem iX9_has_6 : zSnd zZM zmX9_has 6 (o_iload 1 7) := s_iload_n (k := 1) (by decide +kernel) rfl
theorem iX9_has_7 : zSnd zZM zmX9_has 7 (o_ic 1 8) := s_iconst (i := 1) (by decide +kernel) (by decide +kernel)
theorem iX9_has_8 : zSnd zZM zmX9_has 8 (o_icmp (fun x y => x = y) 11 18) := s_icmp_ne (off := 10) (by decide +kernel) (by decide +kernel)
theorem iX9_has_11 : zSnd zZM zmX9_has 11 (o_aload 0 12) := s_aload_n (k := 0) (by decide +kernel) rfl
theorem iX9_has_12 : zSnd zZM zmX9_has 12 (o_getf zYM 1 12 15) := s_getf zcX9 fX9_143 (by decide +kernel) (by decide +kernel)
theorem iX9_has_15 : zSnd zZM zmX9_has 15 (o_goto 22) := s_goto (off := 7) (by decide +kernel) (by decide +kernel)
theorem iX9_has_18 : zSnd zZM zmX9_has 18 (o_aload 0 19) := s_aload_n (k := 0) (by decide +kernel) rfl
theorem iX9_has_19 : zSnd zZM zmX9_has 19 (o_getf zYM 1 13 22) := s_getf zcX9 fX9_147 (by decide +kernel) (by decide +kernel)
theorem iX9_has_22 : zSnd zZM zmX9_has 22 (o_ibin (fun x y => x + y) 23) := s_iadd (by decide +kernel)
theorem iX9_has_23 : zSnd zZM zmX9_has 23 (o_if0 (fun x => x ≤ 0) 30 26) := s_if_le (off := 7) (by decide +kernel) (by decide +kernel)
theorem iX9_has_26 : zSnd zZM zmX9_has 26 (o_ic 1 27) := s_iconst (i := 1) (by decide +kernel) (by decide +kernel)
theorem iX9_has_27 : zSnd zZM zmX9_has 27 (o_goto 31) := s_goto (off := 4) (by decide +kernel) (by decide +kernel)
theorem iX9_has_30 : zSnd zZM zmX9_has 30 (o_ic 0 31) := s_iconst (i := 0) (by decide +kernel) (by decide +kernel)
theorem iX9_has_31 : zSnd zZM zmX9_has 31 (o_zret) := s_zret rfl (by decide +kernel)
def kX9_has : List (Nat × zOp) := [(0, o_aload 0 1),
  (1, o_getf zYM 1 55 4),
  (4, o_iload 1 5),
  (5, o_ald zYM .int 6),
  (6, o_iload 1 7),
  (7, o_ic 1 8),
  (8, o_icmp (fun x y => x = y) 11 18),
  (11, o_aload 0 12),
  (12, o_getf zYM 1 12 15),
  (15, o_goto 22),
  (18, o_aload 0 19),
  (19, o_getf zYM 1 13 22),
  (22, o_ibin (fun x y => x + y) 23),
  (23, o_if0 (fun x => x ≤ 0) 30 26),
  (26, o_ic 1 27),
  (27, o_goto 31),
  (30, o_ic 0 31),
  (31, o_zret)]
set_option maxRecDepth 100000 in
theorem ksX9_has : ∀ q ∈ kX9_has, zSnd zZM zmX9_has q.1 q.2 := zcc iX9_has_0 (zcc iX9_has_1 (zcc iX9_has_4 (zcc iX9_has_5 (zcc iX9_has_6 (zcc iX9_has_7 (zcc iX9_has_8 (zcc iX9_has_11 (zcc iX9_has_12 (zcc iX9_has_15 (zcc iX9_has_18 (zcc iX9_has_19 (zcc iX9_has_22 (zcc iX9_has_23 (zcc iX9_has_26 (zcc iX9_has_27 (zcc iX9_has_30 (zcc iX9_has_31 zcn)))))))))))))))))
theorem iX10_calls_0 : zSnd zZM zmX10_calls 0 (o_iload 1 1) := s_iload_n (k := 1) (by decide +kernel) rfl
set_option maxRecDepth 20000 in
theorem iX10_calls_1 : zSnd zZM zmX10_calls 1 (o_callS zZM zmX10_parameters 1 1 4) := s_callS (idx := 478) calX10_parameters virX10_parameters dscX10_parameters (by decide +kernel) (zWS7 27 rfl rfl) (by decide +kernel)
theorem iX10_calls_4 : zSnd zZM zmX10_calls 4 (o_ic 1 5) := s_iconst (i := 1) (by decide +kernel) (by decide +kernel)
theorem iX10_calls_5 : zSnd zZM zmX10_calls 5 (o_ibin (fun x y => x - y) 6) := s_isub (by decide +kernel)
theorem iX10_calls_6 : zSnd zZM zmX10_calls 6 (o_istore 2 7) := s_istore_n (k := 2) (by decide +kernel) rfl (by decide +kernel)
theorem iX10_calls_7 : zSnd zZM zmX10_calls 7 (o_iload 2 8) := s_iload_n (k := 2) (by decide +kernel) rfl
theorem iX10_calls_8 : zSnd zZM zmX10_calls 8 (o_if0 (fun x => x < 0) 27 11) := s_if_lt (off := 19) (by decide +kernel) (by decide +kernel)
theorem iX10_calls_11 : zSnd zZM zmX10_calls 11 (o_aload 0 12) := s_aload_n (k := 0) (by decide +kernel) rfl
theorem iX10_calls_12 : zSnd zZM zmX10_calls 12 (o_iload 1 13) := s_iload_n (k := 1) (by decide +kernel) rfl
theorem iX10_calls_13 : zSnd zZM zmX10_calls 13 (o_iload 2 14) := s_iload_n (k := 2) (by decide +kernel) rfl
set_option maxRecDepth 20000 in
theorem iX10_calls_14 : zSnd zZM zmX10_calls 14 (o_callS zZM zmX10_parameter 2 1 17) := s_callS (idx := 513) calX10_parameter virX10_parameter dscX10_parameter (by decide +kernel) (zWS7 41 rfl rfl) (by decide +kernel)
set_option maxRecDepth 20000 in
theorem iX10_calls_17 : zSnd zZM zmX10_calls 17 (o_callV zZM 0 zmX10_takes 1 1 20) := s_callV (idx := 529) zcX10 calX10_takes virX10_takes dscX10_takes (by decide +kernel) (zWS7 60 rfl rfl) (by decide +kernel)
theorem iX10_calls_20 : zSnd zZM zmX10_calls 20 (o_istore 3 21) := s_istore_n (k := 3) (by decide +kernel) rfl (by decide +kernel)
theorem iX10_calls_21 : zSnd zZM zmX10_calls 21 (o_iinc 2 (-1) 24) := s_iinc (a := (-1)) (by decide +kernel) (by decide +kernel) (by decide +kernel)
theorem iX10_calls_24 : zSnd zZM zmX10_calls 24 (o_goto 7) := s_goto (off := (-17)) (by decide +kernel) (by decide +kernel)
theorem iX10_calls_27 : zSnd zZM zmX10_calls 27 (o_aload 0 28) := s_aload_n (k := 0) (by decide +kernel) rfl
theorem iX10_calls_28 : zSnd zZM zmX10_calls 28 (o_iload 1 29) := s_iload_n (k := 1) (by decide +kernel) rfl
set_option maxRecDepth 20000 in
theorem iX10_calls_29 : zSnd zZM zmX10_calls 29 (o_callS zZM zmX10_resultOf 1 1 32) := s_callS (idx := 481) calX10_resultOf virX10_resultOf dscX10_resultOf (by decide +kernel) (zWS7 30 rfl rfl) (by decide +kernel)
set_option maxRecDepth 20000 in
theorem iX10_calls_32 : zSnd zZM zmX10_calls 32 (o_callV zZM 0 zmX10_gives 1 0 35) := s_callV (idx := 532) zcX10 calX10_gives virX10_gives dscX10_gives (by decide +kernel) (zWS7 64 rfl rfl) (by decide +kernel)
theorem iX10_calls_35 : zSnd zZM zmX10_calls 35 (o_vret) := s_vret rfl (by decide +kernel)
def kX10_calls : List (Nat × zOp) := [(0, o_iload 1 1),
  (1, o_callS zZM zmX10_parameters 1 1 4),
  (4, o_ic 1 5),
  (5, o_ibin (fun x y => x - y) 6),
  (6, o_istore 2 7),
  (7, o_iload 2 8),
  (8, o_if0 (fun x => x < 0) 27 11),
  (11, o_aload 0 12),
  (12, o_iload 1 13),
  (13, o_iload 2 14),
  (14, o_callS zZM zmX10_parameter 2 1 17),
  (17, o_callV zZM 0 zmX10_takes 1 1 20),
  (20, o_istore 3 21),
  (21, o_iinc 2 (-1) 24),
  (24, o_goto 7),
  (27, o_aload 0 28),
  (28, o_iload 1 29),
  (29, o_callS zZM zmX10_resultOf 1 1 32),
  (32, o_callV zZM 0 zmX10_gives 1 0 35),
  (35, o_vret)]
set_option maxRecDepth 100000 in
theorem ksX10_calls : ∀ q ∈ kX10_calls, zSnd zZM zmX10_calls q.1 q.2 := zcc iX10_calls_0 (zcc iX10_calls_1 (zcc iX10_calls_4 (zcc iX10_calls_5 (zcc iX10_calls_6 (zcc iX10_calls_7 (zcc iX10_calls_8 (zcc iX10_calls_11 (zcc iX10_calls_12 (zcc iX10_calls_13 (zcc iX10_calls_14 (zcc iX10_calls_17 (zcc iX10_calls_20 (zcc iX10_calls_21 (zcc iX10_calls_24 (zcc iX10_calls_27 (zcc iX10_calls_28 (zcc iX10_calls_29 (zcc iX10_calls_32 (zcc iX10_calls_35 zcn)))))))))))))))))))
theorem iX10_closes_0 : zSnd zZM zmX10_closes 0 (o_aload 0 1) := s_aload_n (k := 0) (by decide +kernel) rfl
theorem iX10_closes_1 : zSnd zZM zmX10_closes 1 (o_aload 0 2) := s_aload_n (k := 0) (by decide +kernel) rfl
theorem iX10_closes_2 : zSnd zZM zmX10_closes 2 (o_getf zYM 0 24 5) := s_getf zcX10 fX10_47 (by decide +kernel) (by decide +kernel)
theorem iX10_closes_5 : zSnd zZM zmX10_closes 5 (o_aload 0 6) := s_aload_n (k := 0) (by decide +kernel) rfl
theorem iX10_closes_6 : zSnd zZM zmX10_closes 6 (o_getf zYM 0 28 9) := s_getf zcX10 fX10_504 (by decide +kernel) (by decide +kernel)
theorem iX10_closes_9 : zSnd zZM zmX10_closes 9 (o_ic 1 10) := s_iconst (i := 1) (by decide +kernel) (by decide +kernel)
theorem iX10_closes_10 : zSnd zZM zmX10_closes 10 (o_ibin (fun x y => x - y) 11) := s_isub (by decide +kernel)
theorem iX10_closes_11 : zSnd zZM zmX10_closes 11 (o_ald zYM .int 12) := s_iald (by decide +kernel)
set_option maxRecDepth 20000 in
theorem iX10_closes_12 : zSnd zZM zmX10_closes 12 (o_callV zZM 0 zmX10_takes 1 1 15) := s_callV (idx := 529) zcX10 calX10_takes virX10_takes dscX10_takes (by decide +kernel) (zWS7 60 rfl rfl) (by decide +kernel)
theorem iX10_closes_15 : zSnd zZM zmX10_closes 15 (o_istore 1 16) := s_istore_n (k := 1) (by decide +kernel) rfl (by decide +kernel)
theorem iX10_closes_16 : zSnd zZM zmX10_closes 16 (o_aload 0 17) := s_aload_n (k := 0) (by decide +kernel) rfl
theorem iX10_closes_17 : zSnd zZM zmX10_closes 17 (o_aload 0 18) := s_aload_n (k := 0) (by decide +kernel) rfl
theorem iX10_closes_18 : zSnd zZM zmX10_closes 18 (o_getf zYM 0 22 21) := s_getf zcX10 fX10_507 (by decide +kernel) (by decide +kernel)
theorem iX10_closes_21 : zSnd zZM zmX10_closes 21 (o_aload 0 22) := s_aload_n (k := 0) (by decide +kernel) rfl
theorem iX10_closes_22 : zSnd zZM zmX10_closes 22 (o_getf zYM 0 25 25) := s_getf zcX10 fX10_50 (by decide +kernel) (by decide +kernel)
theorem iX10_closes_25 : zSnd zZM zmX10_closes 25 (o_aload 0 26) := s_aload_n (k := 0) (by decide +kernel) rfl
theorem iX10_closes_26 : zSnd zZM zmX10_closes 26 (o_getf zYM 0 28 29) := s_getf zcX10 fX10_504 (by decide +kernel) (by decide +kernel)
theorem iX10_closes_29 : zSnd zZM zmX10_closes 29 (o_ic 1 30) := s_iconst (i := 1) (by decide +kernel) (by decide +kernel)
theorem iX10_closes_30 : zSnd zZM zmX10_closes 30 (o_ibin (fun x y => x - y) 31) := s_isub (by decide +kernel)
theorem iX10_closes_31 : zSnd zZM zmX10_closes 31 (o_ald zYM .int 32) := s_iald (by decide +kernel)
theorem iX10_closes_32 : zSnd zZM zmX10_closes 32 (o_icmp (fun x y => x = y) 35 39) := s_icmp_ne (off := 7) (by decide +kernel) (by decide +kernel)
theorem iX10_closes_35 : zSnd zZM zmX10_closes 35 (o_ic 1 36) := s_iconst (i := 1) (by decide +kernel) (by decide +kernel)
theorem iX10_closes_36 : zSnd zZM zmX10_closes 36 (o_goto 40) := s_goto (off := 4) (by decide +kernel) (by decide +kernel)
theorem iX10_closes_39 : zSnd zZM zmX10_closes 39 (o_ic 0 40) := s_iconst (i := 0) (by decide +kernel) (by decide +kernel)
set_option maxRecDepth 20000 in
theorem iX10_closes_40 : zSnd zZM zmX10_closes 40 (o_callV zZM 0 zmX10_need 1 0 43) := s_callV (idx := 526) zcX10 calX10_need virX10_need dscX10_need (by decide +kernel) (zWS7 52 rfl rfl) (by decide +kernel)
theorem iX10_closes_43 : zSnd zZM zmX10_closes 43 (o_vret) := s_vret rfl (by decide +kernel)
def kX10_closes : List (Nat × zOp) := [(0, o_aload 0 1),
  (1, o_aload 0 2),
  (2, o_getf zYM 0 24 5),
  (5, o_aload 0 6),
  (6, o_getf zYM 0 28 9),
  (9, o_ic 1 10),
  (10, o_ibin (fun x y => x - y) 11),
  (11, o_ald zYM .int 12),
  (12, o_callV zZM 0 zmX10_takes 1 1 15),
  (15, o_istore 1 16),
  (16, o_aload 0 17),
  (17, o_aload 0 18),
  (18, o_getf zYM 0 22 21),
  (21, o_aload 0 22),
  (22, o_getf zYM 0 25 25),
  (25, o_aload 0 26),
  (26, o_getf zYM 0 28 29),
  (29, o_ic 1 30),
  (30, o_ibin (fun x y => x - y) 31),
  (31, o_ald zYM .int 32),
  (32, o_icmp (fun x y => x = y) 35 39),
  (35, o_ic 1 36),
  (36, o_goto 40),
  (39, o_ic 0 40),
  (40, o_callV zZM 0 zmX10_need 1 0 43),
  (43, o_vret)]
set_option maxRecDepth 100000 in
theorem ksX10_closes : ∀ q ∈ kX10_closes, zSnd zZM zmX10_closes q.1 q.2 := zcc iX10_closes_0 (zcc iX10_closes_1 (zcc iX10_closes_2 (zcc iX10_closes_5 (zcc iX10_closes_6 (zcc iX10_closes_9 (zcc iX10_closes_10 (zcc iX10_closes_11 (zcc iX10_closes_12 (zcc iX10_closes_15 (zcc iX10_closes_16 (zcc iX10_closes_17 (zcc iX10_closes_18 (zcc iX10_closes_21 (zcc iX10_closes_22 (zcc iX10_closes_25 (zcc iX10_closes_26 (zcc iX10_closes_29 (zcc iX10_closes_30 (zcc iX10_closes_31 (zcc iX10_closes_32 (zcc iX10_closes_35 (zcc iX10_closes_36 (zcc iX10_closes_39 (zcc iX10_closes_40 (zcc iX10_closes_43 zcn)))))))))))))))))))))))))
theorem iX10_feed_0 : zSnd zZM zmX10_feed 0 (o_aload 0 1) := s_aload_n (k := 0) (by decide +kernel) rfl
theorem iX10_feed_1 : zSnd zZM zmX10_feed 1 (o_getf zYM 0 5 4) := s_getf zcX10 fX10_66 (by decide +kernel) (by decide +kernel)
theorem iX10_feed_4 : zSnd zZM zmX10_feed 4 (o_ic 20 6) := s_bipush (i := 20) (by decide +kernel) (by decide +kernel)
theorem iX10_feed_6 : zSnd zZM zmX10_feed 6 (o_ibin (fun x y => x + y) 7) := s_iadd (by decide +kernel)
theorem iX10_feed_7 : zSnd zZM zmX10_feed 7 (o_ic 16000 10) := s_sipush (i := 16000) (by decide +kernel) (by decide +kernel)
theorem iX10_feed_10 : zSnd zZM zmX10_feed 10 (o_icmp (fun x y => y < x) 25 13) := s_icmp_gt (off := 15) (by decide +kernel) (by decide +kernel)
theorem iX10_feed_13 : zSnd zZM zmX10_feed 13 (o_aload 0 14) := s_aload_n (k := 0) (by decide +kernel) rfl
theorem iX10_feed_14 : zSnd zZM zmX10_feed 14 (o_getf zYM 0 6 17) := s_getf zcX10 fX10_69 (by decide +kernel) (by decide +kernel)
theorem iX10_feed_17 : zSnd zZM zmX10_feed 17 (o_ic 20 19) := s_bipush (i := 20) (by decide +kernel) (by decide +kernel)
theorem iX10_feed_19 : zSnd zZM zmX10_feed 19 (o_ibin (fun x y => x + y) 20) := s_iadd (by decide +kernel)
set_option maxRecDepth 20000 in
theorem iX10_feed_20 : zSnd zZM zmX10_feed 20 (o_ic 65536 22) := s_ldc (i := 72) (by decide +kernel) (zWS6 21 rfl rfl)
theorem iX10_feed_22 : zSnd zZM zmX10_feed 22 (o_icmp (fun x y => x ≤ y) 27 25) := s_icmp_le (off := 5) (by decide +kernel) (by decide +kernel)
theorem iX10_feed_25 : zSnd zZM zmX10_feed 25 (o_ic (-1) 26) := s_iconst (i := (-1)) (by decide +kernel) (by decide +kernel)
theorem iX10_feed_26 : zSnd zZM zmX10_feed 26 (o_iret) := s_iret rfl (by decide +kernel)
theorem iX10_feed_27 : zSnd zZM zmX10_feed 27 (o_aload 0 28) := s_aload_n (k := 0) (by decide +kernel) rfl
theorem iX10_feed_28 : zSnd zZM zmX10_feed 28 (o_iload 1 29) := s_iload_n (k := 1) (by decide +kernel) rfl
set_option maxRecDepth 20000 in
theorem iX10_feed_29 : zSnd zZM zmX10_feed 29 (o_callV zZM 0 zmX10_word 1 0 32) := s_callV (idx := 73) zcX10 calX10_word virX10_word dscX10_word (by decide +kernel) (zWS6 22 rfl rfl) (by decide +kernel)
theorem iX10_feed_32 : zSnd zZM zmX10_feed 32 (o_aload 0 33) := s_aload_n (k := 0) (by decide +kernel) rfl
theorem iX10_feed_33 : zSnd zZM zmX10_feed 33 (o_iload 2 34) := s_iload_n (k := 2) (by decide +kernel) rfl
set_option maxRecDepth 20000 in
theorem iX10_feed_34 : zSnd zZM zmX10_feed 34 (o_callV zZM 0 zmX10_word 1 0 37) := s_callV (idx := 73) zcX10 calX10_word virX10_word dscX10_word (by decide +kernel) (zWS6 22 rfl rfl) (by decide +kernel)
theorem iX10_feed_37 : zSnd zZM zmX10_feed 37 (o_aload 0 38) := s_aload_n (k := 0) (by decide +kernel) rfl
theorem iX10_feed_38 : zSnd zZM zmX10_feed 38 (o_iload 3 39) := s_iload_n (k := 3) (by decide +kernel) rfl
set_option maxRecDepth 20000 in
theorem iX10_feed_39 : zSnd zZM zmX10_feed 39 (o_callV zZM 0 zmX10_word 1 0 42) := s_callV (idx := 73) zcX10 calX10_word virX10_word dscX10_word (by decide +kernel) (zWS6 22 rfl rfl) (by decide +kernel)
theorem iX10_feed_42 : zSnd zZM zmX10_feed 42 (o_aload 0 43) := s_aload_n (k := 0) (by decide +kernel) rfl
theorem iX10_feed_43 : zSnd zZM zmX10_feed 43 (o_iload 4 45) := s_iload (by decide +kernel)
set_option maxRecDepth 20000 in
theorem iX10_feed_45 : zSnd zZM zmX10_feed 45 (o_callV zZM 0 zmX10_word 1 0 48) := s_callV (idx := 73) zcX10 calX10_word virX10_word dscX10_word (by decide +kernel) (zWS6 22 rfl rfl) (by decide +kernel)
theorem iX10_feed_48 : zSnd zZM zmX10_feed 48 (o_aload 0 49) := s_aload_n (k := 0) (by decide +kernel) rfl
theorem iX10_feed_49 : zSnd zZM zmX10_feed 49 (o_iload 5 51) := s_iload (by decide +kernel)
set_option maxRecDepth 20000 in
theorem iX10_feed_51 : zSnd zZM zmX10_feed 51 (o_callV zZM 0 zmX10_word 1 0 54) := s_callV (idx := 73) zcX10 calX10_word virX10_word dscX10_word (by decide +kernel) (zWS6 22 rfl rfl) (by decide +kernel)
theorem iX10_feed_54 : zSnd zZM zmX10_feed 54 (o_aload 0 55) := s_aload_n (k := 0) (by decide +kernel) rfl
theorem iX10_feed_55 : zSnd zZM zmX10_feed 55 (o_dup 56) := s_dup (by decide +kernel)
theorem iX10_feed_56 : zSnd zZM zmX10_feed 56 (o_getf zYM 0 6 59) := s_getf zcX10 fX10_69 (by decide +kernel) (by decide +kernel)
theorem iX10_feed_59 : zSnd zZM zmX10_feed 59 (o_ic 20 61) := s_bipush (i := 20) (by decide +kernel) (by decide +kernel)
theorem iX10_feed_61 : zSnd zZM zmX10_feed 61 (o_ibin (fun x y => x + y) 62) := s_iadd (by decide +kernel)
theorem iX10_feed_62 : zSnd zZM zmX10_feed 62 (o_putI zYM 0 6 65) := s_putI zcX10 fX10_69 (by decide +kernel) rfl rfl (by decide +kernel)
theorem iX10_feed_65 : zSnd zZM zmX10_feed 65 (o_aload 0 66) := s_aload_n (k := 0) (by decide +kernel) rfl
theorem iX10_feed_66 : zSnd zZM zmX10_feed 66 (o_getf zYM 0 5 69) := s_getf zcX10 fX10_66 (by decide +kernel) (by decide +kernel)
theorem iX10_feed_69 : zSnd zZM zmX10_feed 69 (o_iret) := s_iret rfl (by decide +kernel)
def kX10_feed : List (Nat × zOp) := [(0, o_aload 0 1),
  (1, o_getf zYM 0 5 4),
  (4, o_ic 20 6),
  (6, o_ibin (fun x y => x + y) 7),
  (7, o_ic 16000 10),
  (10, o_icmp (fun x y => y < x) 25 13),
  (13, o_aload 0 14),
  (14, o_getf zYM 0 6 17),
  (17, o_ic 20 19),
  (19, o_ibin (fun x y => x + y) 20),
  (20, o_ic 65536 22),
  (22, o_icmp (fun x y => x ≤ y) 27 25),
  (25, o_ic (-1) 26),
  (26, o_iret),
  (27, o_aload 0 28),
  (28, o_iload 1 29),
  (29, o_callV zZM 0 zmX10_word 1 0 32),
  (32, o_aload 0 33),
  (33, o_iload 2 34),
  (34, o_callV zZM 0 zmX10_word 1 0 37),
  (37, o_aload 0 38),
  (38, o_iload 3 39),
  (39, o_callV zZM 0 zmX10_word 1 0 42),
  (42, o_aload 0 43),
  (43, o_iload 4 45),
  (45, o_callV zZM 0 zmX10_word 1 0 48),
  (48, o_aload 0 49),
  (49, o_iload 5 51),
  (51, o_callV zZM 0 zmX10_word 1 0 54),
  (54, o_aload 0 55),
  (55, o_dup 56),
  (56, o_getf zYM 0 6 59),
  (59, o_ic 20 61),
  (61, o_ibin (fun x y => x + y) 62),
  (62, o_putI zYM 0 6 65),
  (65, o_aload 0 66),
  (66, o_getf zYM 0 5 69),
  (69, o_iret)]
set_option maxRecDepth 100000 in
theorem ksX10_feed : ∀ q ∈ kX10_feed, zSnd zZM zmX10_feed q.1 q.2 := zcc iX10_feed_0 (zcc iX10_feed_1 (zcc iX10_feed_4 (zcc iX10_feed_6 (zcc iX10_feed_7 (zcc iX10_feed_10 (zcc iX10_feed_13 (zcc iX10_feed_14 (zcc iX10_feed_17 (zcc iX10_feed_19 (zcc iX10_feed_20 (zcc iX10_feed_22 (zcc iX10_feed_25 (zcc iX10_feed_26 (zcc iX10_feed_27 (zcc iX10_feed_28 (zcc iX10_feed_29 (zcc iX10_feed_32 (zcc iX10_feed_33 (zcc iX10_feed_34 (zcc iX10_feed_37 (zcc iX10_feed_38 (zcc iX10_feed_39 (zcc iX10_feed_42 (zcc iX10_feed_43 (zcc iX10_feed_45 (zcc iX10_feed_48 (zcc iX10_feed_49 (zcc iX10_feed_51 (zcc iX10_feed_54 (zcc iX10_feed_55 (zcc iX10_feed_56 (zcc iX10_feed_59 (zcc iX10_feed_61 (zcc iX10_feed_62 (zcc iX10_feed_65 (zcc iX10_feed_66 (zcc iX10_feed_69 zcn)))))))))))))))))))))))))))))))))))))
theorem iX10_follows_0 : zSnd zZM zmX10_follows 0 (o_iload 0 1) := s_iload_n (k := 0) (by decide +kernel) rfl
theorem iX10_follows_1 : zSnd zZM zmX10_follows 1 (o_ic 1 2) := s_iconst (i := 1) (by decide +kernel) (by decide +kernel)
theorem iX10_follows_2 : zSnd zZM zmX10_follows 2 (o_icmp (fun x y => x ≤ y) 34 5) := s_icmp_le (off := 32) (by decide +kernel) (by decide +kernel)
theorem iX10_follows_5 : zSnd zZM zmX10_follows 5 (o_iload 0 6) := s_iload_n (k := 0) (by decide +kernel) rfl
theorem iX10_follows_6 : zSnd zZM zmX10_follows 6 (o_ic 5 7) := s_iconst (i := 5) (by decide +kernel) (by decide +kernel)
theorem iX10_follows_7 : zSnd zZM zmX10_follows 7 (o_icmp (fun x y => x = y) 34 10) := s_icmp_eq (off := 27) (by decide +kernel) (by decide +kernel)
theorem iX10_follows_10 : zSnd zZM zmX10_follows 10 (o_iload 0 11) := s_iload_n (k := 0) (by decide +kernel) rfl
theorem iX10_follows_11 : zSnd zZM zmX10_follows 11 (o_ic 11 13) := s_bipush (i := 11) (by decide +kernel) (by decide +kernel)
theorem iX10_follows_13 : zSnd zZM zmX10_follows 13 (o_icmp (fun x y => x = y) 34 16) := s_icmp_eq (off := 21) (by decide +kernel) (by decide +kernel)
theorem iX10_follows_16 : zSnd zZM zmX10_follows 16 (o_iload 0 17) := s_iload_n (k := 0) (by decide +kernel) rfl
theorem iX10_follows_17 : zSnd zZM zmX10_follows 17 (o_ic 15 19) := s_bipush (i := 15) (by decide +kernel) (by decide +kernel)
theorem iX10_follows_19 : zSnd zZM zmX10_follows 19 (o_icmp (fun x y => x = y) 34 22) := s_icmp_eq (off := 15) (by decide +kernel) (by decide +kernel)
theorem iX10_follows_22 : zSnd zZM zmX10_follows 22 (o_iload 0 23) := s_iload_n (k := 0) (by decide +kernel) rfl
theorem iX10_follows_23 : zSnd zZM zmX10_follows 23 (o_ic 26 25) := s_bipush (i := 26) (by decide +kernel) (by decide +kernel)
theorem iX10_follows_25 : zSnd zZM zmX10_follows 25 (o_icmp (fun x y => x = y) 34 28) := s_icmp_eq (off := 9) (by decide +kernel) (by decide +kernel)
theorem iX10_follows_28 : zSnd zZM zmX10_follows 28 (o_iload 0 29) := s_iload_n (k := 0) (by decide +kernel) rfl
theorem iX10_follows_29 : zSnd zZM zmX10_follows 29 (o_ic 27 31) := s_bipush (i := 27) (by decide +kernel) (by decide +kernel)
theorem iX10_follows_31 : zSnd zZM zmX10_follows 31 (o_icmp (fun x y => x = y) 34 36) := s_icmp_ne (off := 5) (by decide +kernel) (by decide +kernel)
theorem iX10_follows_34 : zSnd zZM zmX10_follows 34 (o_ic 0 35) := s_iconst (i := 0) (by decide +kernel) (by decide +kernel)
theorem iX10_follows_35 : zSnd zZM zmX10_follows 35 (o_iret) := s_iret rfl (by decide +kernel)
theorem iX10_follows_36 : zSnd zZM zmX10_follows 36 (o_iload 0 37) := s_iload_n (k := 0) (by decide +kernel) rfl
theorem iX10_follows_37 : zSnd zZM zmX10_follows 37 (o_ic 4 38) := s_iconst (i := 4) (by decide +kernel) (by decide +kernel)
theorem iX10_follows_38 : zSnd zZM zmX10_follows 38 (o_icmp (fun x y => y < x) 43 41) := s_icmp_gt (off := 5) (by decide +kernel) (by decide +kernel)
theorem iX10_follows_41 : zSnd zZM zmX10_follows 41 (o_ic 1 42) := s_iconst (i := 1) (by decide +kernel) (by decide +kernel)
theorem iX10_follows_42 : zSnd zZM zmX10_follows 42 (o_iret) := s_iret rfl (by decide +kernel)
theorem iX10_follows_43 : zSnd zZM zmX10_follows 43 (o_iload 0 44) := s_iload_n (k := 0) (by decide +kernel) rfl
theorem iX10_follows_44 : zSnd zZM zmX10_follows 44 (o_ic 12 46) := s_bipush (i := 12) (by decide +kernel) (by decide +kernel)
theorem iX10_follows_46 : zSnd zZM zmX10_follows 46 (o_icmp (fun x y => x = y) 73 49) := s_icmp_eq (off := 27) (by decide +kernel) (by decide +kernel)
theorem iX10_follows_49 : zSnd zZM zmX10_follows 49 (o_iload 0 50) := s_iload_n (k := 0) (by decide +kernel) rfl
theorem iX10_follows_50 : zSnd zZM zmX10_follows 50 (o_ic 13 52) := s_bipush (i := 13) (by decide +kernel) (by decide +kernel)
theorem iX10_follows_52 : zSnd zZM zmX10_follows 52 (o_icmp (fun x y => x = y) 73 55) := s_icmp_eq (off := 21) (by decide +kernel) (by decide +kernel)
theorem iX10_follows_55 : zSnd zZM zmX10_follows 55 (o_iload 0 56) := s_iload_n (k := 0) (by decide +kernel) rfl
theorem iX10_follows_56 : zSnd zZM zmX10_follows 56 (o_ic 16 58) := s_bipush (i := 16) (by decide +kernel) (by decide +kernel)
theorem iX10_follows_58 : zSnd zZM zmX10_follows 58 (o_icmp (fun x y => x = y) 73 61) := s_icmp_eq (off := 15) (by decide +kernel) (by decide +kernel)
theorem iX10_follows_61 : zSnd zZM zmX10_follows 61 (o_iload 0 62) := s_iload_n (k := 0) (by decide +kernel) rfl
theorem iX10_follows_62 : zSnd zZM zmX10_follows 62 (o_ic 32 64) := s_bipush (i := 32) (by decide +kernel) (by decide +kernel)
theorem iX10_follows_64 : zSnd zZM zmX10_follows 64 (o_icmp (fun x y => x < y) 75 67) := s_icmp_lt (off := 11) (by decide +kernel) (by decide +kernel)
theorem iX10_follows_67 : zSnd zZM zmX10_follows 67 (o_iload 0 68) := s_iload_n (k := 0) (by decide +kernel) rfl
theorem iX10_follows_68 : zSnd zZM zmX10_follows 68 (o_ic 36 70) := s_bipush (i := 36) (by decide +kernel) (by decide +kernel)
theorem iX10_follows_70 : zSnd zZM zmX10_follows 70 (o_icmp (fun x y => y < x) 75 73) := s_icmp_gt (off := 5) (by decide +kernel) (by decide +kernel)
theorem iX10_follows_73 : zSnd zZM zmX10_follows 73 (o_ic 2 74) := s_iconst (i := 2) (by decide +kernel) (by decide +kernel)
theorem iX10_follows_74 : zSnd zZM zmX10_follows 74 (o_iret) := s_iret rfl (by decide +kernel)
theorem iX10_follows_75 : zSnd zZM zmX10_follows 75 (o_iload 0 76) := s_iload_n (k := 0) (by decide +kernel) rfl
theorem iX10_follows_76 : zSnd zZM zmX10_follows 76 (o_ic 14 78) := s_bipush (i := 14) (by decide +kernel) (by decide +kernel)
theorem iX10_follows_78 : zSnd zZM zmX10_follows 78 (o_icmp (fun x y => x = y) 81 84) := s_icmp_ne (off := 6) (by decide +kernel) (by decide +kernel)
theorem iX10_follows_81 : zSnd zZM zmX10_follows 81 (o_ic 8 83) := s_bipush (i := 8) (by decide +kernel) (by decide +kernel)
theorem iX10_follows_83 : zSnd zZM zmX10_follows 83 (o_iret) := s_iret rfl (by decide +kernel)
theorem iX10_follows_84 : zSnd zZM zmX10_follows 84 (o_iload 0 85) := s_iload_n (k := 0) (by decide +kernel) rfl
theorem iX10_follows_85 : zSnd zZM zmX10_follows 85 (o_ic 17 87) := s_bipush (i := 17) (by decide +kernel) (by decide +kernel)
theorem iX10_follows_87 : zSnd zZM zmX10_follows 87 (o_icmp (fun x y => x = y) 90 93) := s_icmp_ne (off := 6) (by decide +kernel) (by decide +kernel)
theorem iX10_follows_90 : zSnd zZM zmX10_follows 90 (o_ic 6 92) := s_bipush (i := 6) (by decide +kernel) (by decide +kernel)
theorem iX10_follows_92 : zSnd zZM zmX10_follows 92 (o_iret) := s_iret rfl (by decide +kernel)
theorem iX10_follows_93 : zSnd zZM zmX10_follows 93 (o_iload 0 94) := s_iload_n (k := 0) (by decide +kernel) rfl
set_option maxRecDepth 20000 in
theorem iX10_follows_94 : zSnd zZM zmX10_follows 94 (o_callS zZM zmX10_isLoad 1 1 97) := s_callS (idx := 416) calX10_isLoad virX10_isLoad dscX10_isLoad (by decide +kernel) (zWS6 192 rfl rfl) (by decide +kernel)
theorem iX10_follows_97 : zSnd zZM zmX10_follows 97 (o_if0 (fun x => x = 0) 100 107) := s_if_ne (off := 10) (by decide +kernel) (by decide +kernel)
theorem iX10_follows_100 : zSnd zZM zmX10_follows 100 (o_iload 0 101) := s_iload_n (k := 0) (by decide +kernel) rfl
set_option maxRecDepth 20000 in
theorem iX10_follows_101 : zSnd zZM zmX10_follows 101 (o_callS zZM zmX10_isStore 1 1 104) := s_callS (idx := 419) calX10_isStore virX10_isStore dscX10_isStore (by decide +kernel) (zWS6 195 rfl rfl) (by decide +kernel)
theorem iX10_follows_104 : zSnd zZM zmX10_follows 104 (o_if0 (fun x => x = 0) 109 107) := s_if_eq (off := 5) (by decide +kernel) (by decide +kernel)
theorem iX10_follows_107 : zSnd zZM zmX10_follows 107 (o_ic 5 108) := s_iconst (i := 5) (by decide +kernel) (by decide +kernel)
theorem iX10_follows_108 : zSnd zZM zmX10_follows 108 (o_iret) := s_iret rfl (by decide +kernel)
theorem iX10_follows_109 : zSnd zZM zmX10_follows 109 (o_iload 0 110) := s_iload_n (k := 0) (by decide +kernel) rfl
theorem iX10_follows_110 : zSnd zZM zmX10_follows 110 (o_ic 63 112) := s_bipush (i := 63) (by decide +kernel) (by decide +kernel)
theorem iX10_follows_112 : zSnd zZM zmX10_follows 112 (o_icmp (fun x y => x = y) 121 115) := s_icmp_eq (off := 9) (by decide +kernel) (by decide +kernel)
theorem iX10_follows_115 : zSnd zZM zmX10_follows 115 (o_iload 0 116) := s_iload_n (k := 0) (by decide +kernel) rfl
theorem iX10_follows_116 : zSnd zZM zmX10_follows 116 (o_ic 64 118) := s_bipush (i := 64) (by decide +kernel) (by decide +kernel)
theorem iX10_follows_118 : zSnd zZM zmX10_follows 118 (o_icmp (fun x y => x = y) 121 124) := s_icmp_ne (off := 6) (by decide +kernel) (by decide +kernel)
theorem iX10_follows_121 : zSnd zZM zmX10_follows 121 (o_ic 7 123) := s_bipush (i := 7) (by decide +kernel) (by decide +kernel)
theorem iX10_follows_123 : zSnd zZM zmX10_follows 123 (o_iret) := s_iret rfl (by decide +kernel)
theorem iX10_follows_124 : zSnd zZM zmX10_follows 124 (o_iload 0 125) := s_iload_n (k := 0) (by decide +kernel) rfl
theorem iX10_follows_125 : zSnd zZM zmX10_follows 125 (o_ic 65 127) := s_bipush (i := 65) (by decide +kernel) (by decide +kernel)
theorem iX10_follows_127 : zSnd zZM zmX10_follows 127 (o_icmp (fun x y => x = y) 130 132) := s_icmp_ne (off := 5) (by decide +kernel) (by decide +kernel)
theorem iX10_follows_130 : zSnd zZM zmX10_follows 130 (o_ic 3 131) := s_iconst (i := 3) (by decide +kernel) (by decide +kernel)
theorem iX10_follows_131 : zSnd zZM zmX10_follows 131 (o_iret) := s_iret rfl (by decide +kernel)
theorem iX10_follows_132 : zSnd zZM zmX10_follows 132 (o_iload 0 133) := s_iload_n (k := 0) (by decide +kernel) rfl
theorem iX10_follows_133 : zSnd zZM zmX10_follows 133 (o_ic 66 135) := s_bipush (i := 66) (by decide +kernel) (by decide +kernel)
theorem iX10_follows_135 : zSnd zZM zmX10_follows 135 (o_icmp (fun x y => x = y) 138 140) := s_icmp_ne (off := 5) (by decide +kernel) (by decide +kernel)
theorem iX10_follows_138 : zSnd zZM zmX10_follows 138 (o_ic 4 139) := s_iconst (i := 4) (by decide +kernel) (by decide +kernel)
theorem iX10_follows_139 : zSnd zZM zmX10_follows 139 (o_iret) := s_iret rfl (by decide +kernel)
theorem iX10_follows_140 : zSnd zZM zmX10_follows 140 (o_iload 0 141) := s_iload_n (k := 0) (by decide +kernel) rfl
theorem iX10_follows_141 : zSnd zZM zmX10_follows 141 (o_ic 69 143) := s_bipush (i := 69) (by decide +kernel) (by decide +kernel)
theorem iX10_follows_143 : zSnd zZM zmX10_follows 143 (o_icmp (fun x y => x < y) 152 146) := s_icmp_lt (off := 9) (by decide +kernel) (by decide +kernel)
theorem iX10_follows_146 : zSnd zZM zmX10_follows 146 (o_iload 0 147) := s_iload_n (k := 0) (by decide +kernel) rfl
theorem iX10_follows_147 : zSnd zZM zmX10_follows 147 (o_ic 90 149) := s_bipush (i := 90) (by decide +kernel) (by decide +kernel)
theorem iX10_follows_149 : zSnd zZM zmX10_follows 149 (o_icmp (fun x y => x ≤ y) 200 152) := s_icmp_le (off := 51) (by decide +kernel) (by decide +kernel)
theorem iX10_follows_152 : zSnd zZM zmX10_follows 152 (o_iload 0 153) := s_iload_n (k := 0) (by decide +kernel) rfl
theorem iX10_follows_153 : zSnd zZM zmX10_follows 153 (o_ic 103 155) := s_bipush (i := 103) (by decide +kernel) (by decide +kernel)
theorem iX10_follows_155 : zSnd zZM zmX10_follows 155 (o_icmp (fun x y => x < y) 165 158) := s_icmp_lt (off := 10) (by decide +kernel) (by decide +kernel)
theorem iX10_follows_158 : zSnd zZM zmX10_follows 158 (o_iload 0 159) := s_iload_n (k := 0) (by decide +kernel) rfl
theorem iX10_follows_159 : zSnd zZM zmX10_follows 159 (o_ic 138 162) := s_sipush (i := 138) (by decide +kernel) (by decide +kernel)
theorem iX10_follows_162 : zSnd zZM zmX10_follows 162 (o_icmp (fun x y => x ≤ y) 200 165) := s_icmp_le (off := 38) (by decide +kernel) (by decide +kernel)
theorem iX10_follows_165 : zSnd zZM zmX10_follows 165 (o_iload 0 166) := s_iload_n (k := 0) (by decide +kernel) rfl
theorem iX10_follows_166 : zSnd zZM zmX10_follows 166 (o_ic 167 169) := s_sipush (i := 167) (by decide +kernel) (by decide +kernel)
theorem iX10_follows_169 : zSnd zZM zmX10_follows 169 (o_icmp (fun x y => x = y) 200 172) := s_icmp_eq (off := 31) (by decide +kernel) (by decide +kernel)
theorem iX10_follows_172 : zSnd zZM zmX10_follows 172 (o_iload 0 173) := s_iload_n (k := 0) (by decide +kernel) rfl
theorem iX10_follows_173 : zSnd zZM zmX10_follows 173 (o_ic 172 176) := s_sipush (i := 172) (by decide +kernel) (by decide +kernel)
theorem iX10_follows_176 : zSnd zZM zmX10_follows 176 (o_icmp (fun x y => x = y) 200 179) := s_icmp_eq (off := 24) (by decide +kernel) (by decide +kernel)
theorem iX10_follows_179 : zSnd zZM zmX10_follows 179 (o_iload 0 180) := s_iload_n (k := 0) (by decide +kernel) rfl
theorem iX10_follows_180 : zSnd zZM zmX10_follows 180 (o_ic 173 183) := s_sipush (i := 173) (by decide +kernel) (by decide +kernel)
theorem iX10_follows_183 : zSnd zZM zmX10_follows 183 (o_icmp (fun x y => x = y) 200 186) := s_icmp_eq (off := 17) (by decide +kernel) (by decide +kernel)
theorem iX10_follows_186 : zSnd zZM zmX10_follows 186 (o_iload 0 187) := s_iload_n (k := 0) (by decide +kernel) rfl
theorem iX10_follows_187 : zSnd zZM zmX10_follows 187 (o_ic 192 190) := s_sipush (i := 192) (by decide +kernel) (by decide +kernel)
theorem iX10_follows_190 : zSnd zZM zmX10_follows 190 (o_icmp (fun x y => x < y) 202 193) := s_icmp_lt (off := 12) (by decide +kernel) (by decide +kernel)
theorem iX10_follows_193 : zSnd zZM zmX10_follows 193 (o_iload 0 194) := s_iload_n (k := 0) (by decide +kernel) rfl
theorem iX10_follows_194 : zSnd zZM zmX10_follows 194 (o_ic 196 197) := s_sipush (i := 196) (by decide +kernel) (by decide +kernel)
theorem iX10_follows_197 : zSnd zZM zmX10_follows 197 (o_icmp (fun x y => y < x) 202 200) := s_icmp_gt (off := 5) (by decide +kernel) (by decide +kernel)
theorem iX10_follows_200 : zSnd zZM zmX10_follows 200 (o_ic 0 201) := s_iconst (i := 0) (by decide +kernel) (by decide +kernel)
theorem iX10_follows_201 : zSnd zZM zmX10_follows 201 (o_iret) := s_iret rfl (by decide +kernel)
theorem iX10_follows_202 : zSnd zZM zmX10_follows 202 (o_iload 0 203) := s_iload_n (k := 0) (by decide +kernel) rfl
theorem iX10_follows_203 : zSnd zZM zmX10_follows 203 (o_ic 252 206) := s_sipush (i := 252) (by decide +kernel) (by decide +kernel)
theorem iX10_follows_206 : zSnd zZM zmX10_follows 206 (o_icmp (fun x y => x = y) 209 214) := s_icmp_ne (off := 8) (by decide +kernel) (by decide +kernel)
theorem iX10_follows_209 : zSnd zZM zmX10_follows 209 (o_ic 9 211) := s_bipush (i := 9) (by decide +kernel) (by decide +kernel)
theorem iX10_follows_211 : zSnd zZM zmX10_follows 211 (o_goto 215) := s_goto (off := 4) (by decide +kernel) (by decide +kernel)
theorem iX10_follows_214 : zSnd zZM zmX10_follows 214 (o_ic (-1) 215) := s_iconst (i := (-1)) (by decide +kernel) (by decide +kernel)
theorem iX10_follows_215 : zSnd zZM zmX10_follows 215 (o_iret) := s_iret rfl (by decide +kernel)
def kX10_follows : List (Nat × zOp) := [(0, o_iload 0 1),
  (1, o_ic 1 2),
  (2, o_icmp (fun x y => x ≤ y) 34 5),
  (5, o_iload 0 6),
  (6, o_ic 5 7),
  (7, o_icmp (fun x y => x = y) 34 10),
  (10, o_iload 0 11),
  (11, o_ic 11 13),
  (13, o_icmp (fun x y => x = y) 34 16),
  (16, o_iload 0 17),
  (17, o_ic 15 19),
  (19, o_icmp (fun x y => x = y) 34 22),
  (22, o_iload 0 23),
  (23, o_ic 26 25),
  (25, o_icmp (fun x y => x = y) 34 28),
  (28, o_iload 0 29),
  (29, o_ic 27 31),
  (31, o_icmp (fun x y => x = y) 34 36),
  (34, o_ic 0 35),
  (35, o_iret),
  (36, o_iload 0 37),
  (37, o_ic 4 38),
  (38, o_icmp (fun x y => y < x) 43 41),
  (41, o_ic 1 42),
  (42, o_iret),
  (43, o_iload 0 44),
  (44, o_ic 12 46),
  (46, o_icmp (fun x y => x = y) 73 49),
  (49, o_iload 0 50),
  (50, o_ic 13 52),
  (52, o_icmp (fun x y => x = y) 73 55),
  (55, o_iload 0 56),
  (56, o_ic 16 58),
  (58, o_icmp (fun x y => x = y) 73 61),
  (61, o_iload 0 62),
  (62, o_ic 32 64),
  (64, o_icmp (fun x y => x < y) 75 67),
  (67, o_iload 0 68),
  (68, o_ic 36 70),
  (70, o_icmp (fun x y => y < x) 75 73),
  (73, o_ic 2 74),
  (74, o_iret),
  (75, o_iload 0 76),
  (76, o_ic 14 78),
  (78, o_icmp (fun x y => x = y) 81 84),
  (81, o_ic 8 83),
  (83, o_iret),
  (84, o_iload 0 85),
  (85, o_ic 17 87),
  (87, o_icmp (fun x y => x = y) 90 93),
  (90, o_ic 6 92),
  (92, o_iret),
  (93, o_iload 0 94),
  (94, o_callS zZM zmX10_isLoad 1 1 97),
  (97, o_if0 (fun x => x = 0) 100 107),
  (100, o_iload 0 101),
  (101, o_callS zZM zmX10_isStore 1 1 104),
  (104, o_if0 (fun x => x = 0) 109 107),
  (107, o_ic 5 108),
  (108, o_iret),
  (109, o_iload 0 110),
  (110, o_ic 63 112),
  (112, o_icmp (fun x y => x = y) 121 115),
  (115, o_iload 0 116),
  (116, o_ic 64 118),
  (118, o_icmp (fun x y => x = y) 121 124),
  (121, o_ic 7 123),
  (123, o_iret),
  (124, o_iload 0 125),
  (125, o_ic 65 127),
  (127, o_icmp (fun x y => x = y) 130 132),
  (130, o_ic 3 131),
  (131, o_iret),
  (132, o_iload 0 133),
  (133, o_ic 66 135),
  (135, o_icmp (fun x y => x = y) 138 140),
  (138, o_ic 4 139),
  (139, o_iret),
  (140, o_iload 0 141),
  (141, o_ic 69 143),
  (143, o_icmp (fun x y => x < y) 152 146),
  (146, o_iload 0 147),
  (147, o_ic 90 149),
  (149, o_icmp (fun x y => x ≤ y) 200 152),
  (152, o_iload 0 153),
  (153, o_ic 103 155),
  (155, o_icmp (fun x y => x < y) 165 158),
  (158, o_iload 0 159),
  (159, o_ic 138 162),
  (162, o_icmp (fun x y => x ≤ y) 200 165),
  (165, o_iload 0 166),
  (166, o_ic 167 169),
  (169, o_icmp (fun x y => x = y) 200 172),
  (172, o_iload 0 173),
  (173, o_ic 172 176),
  (176, o_icmp (fun x y => x = y) 200 179),
  (179, o_iload 0 180),
  (180, o_ic 173 183),
  (183, o_icmp (fun x y => x = y) 200 186),
  (186, o_iload 0 187),
  (187, o_ic 192 190),
  (190, o_icmp (fun x y => x < y) 202 193),
  (193, o_iload 0 194),
  (194, o_ic 196 197),
  (197, o_icmp (fun x y => y < x) 202 200),
  (200, o_ic 0 201),
  (201, o_iret),
  (202, o_iload 0 203),
  (203, o_ic 252 206),
  (206, o_icmp (fun x y => x = y) 209 214),
  (209, o_ic 9 211),
  (211, o_goto 215),
  (214, o_ic (-1) 215),
  (215, o_iret)]
set_option maxRecDepth 100000 in
theorem ksX10_follows : ∀ q ∈ kX10_follows, zSnd zZM zmX10_follows q.1 q.2 := zcc iX10_follows_0 (zcc iX10_follows_1 (zcc iX10_follows_2 (zcc iX10_follows_5 (zcc iX10_follows_6 (zcc iX10_follows_7 (zcc iX10_follows_10 (zcc iX10_follows_11 (zcc iX10_follows_13 (zcc iX10_follows_16 (zcc iX10_follows_17 (zcc iX10_follows_19 (zcc iX10_follows_22 (zcc iX10_follows_23 (zcc iX10_follows_25 (zcc iX10_follows_28 (zcc iX10_follows_29 (zcc iX10_follows_31 (zcc iX10_follows_34 (zcc iX10_follows_35 (zcc iX10_follows_36 (zcc iX10_follows_37 (zcc iX10_follows_38 (zcc iX10_follows_41 (zcc iX10_follows_42 (zcc iX10_follows_43 (zcc iX10_follows_44 (zcc iX10_follows_46 (zcc iX10_follows_49 (zcc iX10_follows_50 (zcc iX10_follows_52 (zcc iX10_follows_55 (zcc iX10_follows_56 (zcc iX10_follows_58 (zcc iX10_follows_61 (zcc iX10_follows_62 (zcc iX10_follows_64 (zcc iX10_follows_67 (zcc iX10_follows_68 (zcc iX10_follows_70 (zcc iX10_follows_73 (zcc iX10_follows_74 (zcc iX10_follows_75 (zcc iX10_follows_76 (zcc iX10_follows_78 (zcc iX10_follows_81 (zcc iX10_follows_83 (zcc iX10_follows_84 (zcc iX10_follows_85 (zcc iX10_follows_87 (zcc iX10_follows_90 (zcc iX10_follows_92 (zcc iX10_follows_93 (zcc iX10_follows_94 (zcc iX10_follows_97 (zcc iX10_follows_100 (zcc iX10_follows_101 (zcc iX10_follows_104 (zcc iX10_follows_107 (zcc iX10_follows_108 (zcc iX10_follows_109 (zcc iX10_follows_110 (zcc iX10_follows_112 (zcc iX10_follows_115 (zcc iX10_follows_116 (zcc iX10_follows_118 (zcc iX10_follows_121 (zcc iX10_follows_123 (zcc iX10_follows_124 (zcc iX10_follows_125 (zcc iX10_follows_127 (zcc iX10_follows_130 (zcc iX10_follows_131 (zcc iX10_follows_132 (zcc iX10_follows_133 (zcc iX10_follows_135 (zcc iX10_follows_138 (zcc iX10_follows_139 (zcc iX10_follows_140 (zcc iX10_follows_141 (zcc iX10_follows_143 (zcc iX10_follows_146 (zcc iX10_follows_147 (zcc iX10_follows_149 (zcc iX10_follows_152 (zcc iX10_follows_153 (zcc iX10_follows_155 (zcc iX10_follows_158 (zcc iX10_follows_159 (zcc iX10_follows_162 (zcc iX10_follows_165 (zcc iX10_follows_166 (zcc iX10_follows_169 (zcc iX10_follows_172 (zcc iX10_follows_173 (zcc iX10_follows_176 (zcc iX10_follows_179 (zcc iX10_follows_180 (zcc iX10_follows_183 (zcc iX10_follows_186 (zcc iX10_follows_187 (zcc iX10_follows_190 (zcc iX10_follows_193 (zcc iX10_follows_194 (zcc iX10_follows_197 (zcc iX10_follows_200 (zcc iX10_follows_201 (zcc iX10_follows_202 (zcc iX10_follows_203 (zcc iX10_follows_206 (zcc iX10_follows_209 (zcc iX10_follows_211 (zcc iX10_follows_214 (zcc iX10_follows_215 zcn)))))))))))))))))))))))))))))))))))))))))))))))))))))))))))))))))))))))))))))))))))))))))))))))))))))))))))))))))
theorem iX10_isChanged_0 : zSnd zZM zmX10_isChanged 0 (o_aload 0 1) := s_aload_n (k := 0) (by decide +kernel) rfl
theorem iX10_isChanged_1 : zSnd zZM zmX10_isChanged 1 (o_getf zYM 1 55 4) := s_getf zcX9 fX10_218 (by decide +kernel) (by decide +kernel)
theorem iX10_isChanged_4 : zSnd zZM zmX10_isChanged 4 (o_ic 3 5) := s_iconst (i := 3) (by decide +kernel) (by decide +kernel)
theorem iX10_isChanged_5 : zSnd zZM zmX10_isChanged 5 (o_ald zYM .int 6) := s_iald (by decide +kernel)
theorem iX10_isChanged_6 : zSnd zZM zmX10_isChanged 6 (o_istore 2 7) := s_istore_n (k := 2) (by decide +kernel) rfl (by decide +kernel)
theorem iX10_isChanged_7 : zSnd zZM zmX10_isChanged 7 (o_iload 1 8) := s_iload_n (k := 1) (by decide +kernel) rfl
theorem iX10_isChanged_8 : zSnd zZM zmX10_isChanged 8 (o_iload 2 9) := s_iload_n (k := 2) (by decide +kernel) rfl
theorem iX10_isChanged_9 : zSnd zZM zmX10_isChanged 9 (o_icmp (fun x y => y ≤ x) 26 12) := s_icmp_ge (off := 17) (by decide +kernel) (by decide +kernel)
theorem iX10_isChanged_12 : zSnd zZM zmX10_isChanged 12 (o_aload 0 13) := s_aload_n (k := 0) (by decide +kernel) rfl
theorem iX10_isChanged_13 : zSnd zZM zmX10_isChanged 13 (o_getf zYM 1 28 16) := s_getf zcX9 fX10_317 (by decide +kernel) (by decide +kernel)
theorem iX10_isChanged_16 : zSnd zZM zmX10_isChanged 16 (o_aload 0 17) := s_aload_n (k := 0) (by decide +kernel) rfl
theorem iX10_isChanged_17 : zSnd zZM zmX10_isChanged 17 (o_ic 3 18) := s_iconst (i := 3) (by decide +kernel) (by decide +kernel)
theorem iX10_isChanged_18 : zSnd zZM zmX10_isChanged 18 (o_iload 1 19) := s_iload_n (k := 1) (by decide +kernel) rfl
set_option maxRecDepth 20000 in
theorem iX10_isChanged_19 : zSnd zZM zmX10_isChanged 19 (o_callS zZM zmX10_importOf 3 1 22) := s_callS (idx := 445) calX10_importOf virX10_importOf dscX10_importOf (by decide +kernel) (zWS6 233 rfl rfl) (by decide +kernel)
theorem iX10_isChanged_22 : zSnd zZM zmX10_isChanged 22 (o_ald zYM .boolean 23) := s_zald (by decide +kernel)
theorem iX10_isChanged_23 : zSnd zZM zmX10_isChanged 23 (o_goto 34) := s_goto (off := 11) (by decide +kernel) (by decide +kernel)
theorem iX10_isChanged_26 : zSnd zZM zmX10_isChanged 26 (o_aload 0 27) := s_aload_n (k := 0) (by decide +kernel) rfl
theorem iX10_isChanged_27 : zSnd zZM zmX10_isChanged 27 (o_getf zYM 1 34 30) := s_getf zcX9 fX10_352 (by decide +kernel) (by decide +kernel)
theorem iX10_isChanged_30 : zSnd zZM zmX10_isChanged 30 (o_iload 1 31) := s_iload_n (k := 1) (by decide +kernel) rfl
theorem iX10_isChanged_31 : zSnd zZM zmX10_isChanged 31 (o_iload 2 32) := s_iload_n (k := 2) (by decide +kernel) rfl
theorem iX10_isChanged_32 : zSnd zZM zmX10_isChanged 32 (o_ibin (fun x y => x - y) 33) := s_isub (by decide +kernel)
theorem iX10_isChanged_33 : zSnd zZM zmX10_isChanged 33 (o_ald zYM .boolean 34) := s_zald (by decide +kernel)
theorem iX10_isChanged_34 : zSnd zZM zmX10_isChanged 34 (o_zret) := s_zret rfl (by decide +kernel)
def kX10_isChanged : List (Nat × zOp) := [(0, o_aload 0 1),
  (1, o_getf zYM 1 55 4),
  (4, o_ic 3 5),
  (5, o_ald zYM .int 6),
  (6, o_istore 2 7),
  (7, o_iload 1 8),
  (8, o_iload 2 9),
  (9, o_icmp (fun x y => y ≤ x) 26 12),
  (12, o_aload 0 13),
  (13, o_getf zYM 1 28 16),
  (16, o_aload 0 17),
  (17, o_ic 3 18),
  (18, o_iload 1 19),
  (19, o_callS zZM zmX10_importOf 3 1 22),
  (22, o_ald zYM .boolean 23),
  (23, o_goto 34),
  (26, o_aload 0 27),
  (27, o_getf zYM 1 34 30),
  (30, o_iload 1 31),
  (31, o_iload 2 32),
  (32, o_ibin (fun x y => x - y) 33),
  (33, o_ald zYM .boolean 34),
  (34, o_zret)]
set_option maxRecDepth 100000 in
theorem ksX10_isChanged : ∀ q ∈ kX10_isChanged, zSnd zZM zmX10_isChanged q.1 q.2 := zcc iX10_isChanged_0 (zcc iX10_isChanged_1 (zcc iX10_isChanged_4 (zcc iX10_isChanged_5 (zcc iX10_isChanged_6 (zcc iX10_isChanged_7 (zcc iX10_isChanged_8 (zcc iX10_isChanged_9 (zcc iX10_isChanged_12 (zcc iX10_isChanged_13 (zcc iX10_isChanged_16 (zcc iX10_isChanged_17 (zcc iX10_isChanged_18 (zcc iX10_isChanged_19 (zcc iX10_isChanged_22 (zcc iX10_isChanged_23 (zcc iX10_isChanged_26 (zcc iX10_isChanged_27 (zcc iX10_isChanged_30 (zcc iX10_isChanged_31 (zcc iX10_isChanged_32 (zcc iX10_isChanged_33 (zcc iX10_isChanged_34 zcn))))))))))))))))))))))
theorem iX10_label_0 : zSnd zZM zmX10_label 0 (o_aload 0 1) := s_aload_n (k := 0) (by decide +kernel) rfl
theorem iX10_label_1 : zSnd zZM zmX10_label 1 (o_lload 1 2) := s_lload_n (k := 1) (by decide +kernel) rfl
theorem iX10_label_2 : zSnd zZM zmX10_label 2 (o_aload 0 3) := s_aload_n (k := 0) (by decide +kernel) rfl
theorem iX10_label_3 : zSnd zZM zmX10_label 3 (o_getf zYM 0 28 6) := s_getf zcX10 fX10_504 (by decide +kernel) (by decide +kernel)
theorem iX10_label_6 : zSnd zZM zmX10_label 6 (o_i2l 7) := s_i2l (by decide +kernel)
theorem iX10_label_7 : zSnd zZM zmX10_label 7 (o_lif (fun x y => y ≤ x) 15 11) := s_lge (off := 7) (by decide +kernel) (by decide +kernel) (by decide +kernel)
theorem iX10_label_11 : zSnd zZM zmX10_label 11 (o_ic 1 12) := s_iconst (i := 1) (by decide +kernel) (by decide +kernel)
theorem iX10_label_12 : zSnd zZM zmX10_label 12 (o_goto 16) := s_goto (off := 4) (by decide +kernel) (by decide +kernel)
theorem iX10_label_15 : zSnd zZM zmX10_label 15 (o_ic 0 16) := s_iconst (i := 0) (by decide +kernel) (by decide +kernel)
set_option maxRecDepth 20000 in
theorem iX10_label_16 : zSnd zZM zmX10_label 16 (o_callV zZM 0 zmX10_need 1 0 19) := s_callV (idx := 526) zcX10 calX10_need virX10_need dscX10_need (by decide +kernel) (zWS7 52 rfl rfl) (by decide +kernel)
theorem iX10_label_19 : zSnd zZM zmX10_label 19 (o_lload 1 20) := s_lload_n (k := 1) (by decide +kernel) rfl
theorem iX10_label_20 : zSnd zZM zmX10_label 20 (o_aload 0 21) := s_aload_n (k := 0) (by decide +kernel) rfl
theorem iX10_label_21 : zSnd zZM zmX10_label 21 (o_getf zYM 0 28 24) := s_getf zcX10 fX10_504 (by decide +kernel) (by decide +kernel)
theorem iX10_label_24 : zSnd zZM zmX10_label 24 (o_i2l 25) := s_i2l (by decide +kernel)
theorem iX10_label_25 : zSnd zZM zmX10_label 25 (o_lif (fun x y => y ≤ x) 46 29) := s_lge (off := 20) (by decide +kernel) (by decide +kernel) (by decide +kernel)
theorem iX10_label_29 : zSnd zZM zmX10_label 29 (o_aload 0 30) := s_aload_n (k := 0) (by decide +kernel) rfl
theorem iX10_label_30 : zSnd zZM zmX10_label 30 (o_getf zYM 0 23 33) := s_getf zcX10 fX10_44 (by decide +kernel) (by decide +kernel)
theorem iX10_label_33 : zSnd zZM zmX10_label 33 (o_aload 0 34) := s_aload_n (k := 0) (by decide +kernel) rfl
theorem iX10_label_34 : zSnd zZM zmX10_label 34 (o_getf zYM 0 28 37) := s_getf zcX10 fX10_504 (by decide +kernel) (by decide +kernel)
theorem iX10_label_37 : zSnd zZM zmX10_label 37 (o_ic 1 38) := s_iconst (i := 1) (by decide +kernel) (by decide +kernel)
theorem iX10_label_38 : zSnd zZM zmX10_label 38 (o_ibin (fun x y => x - y) 39) := s_isub (by decide +kernel)
theorem iX10_label_39 : zSnd zZM zmX10_label 39 (o_lload 1 40) := s_lload_n (k := 1) (by decide +kernel) rfl
theorem iX10_label_40 : zSnd zZM zmX10_label 40 (o_l2i 41) := s_l2i (by decide +kernel)
theorem iX10_label_41 : zSnd zZM zmX10_label 41 (o_ibin (fun x y => x - y) 42) := s_isub (by decide +kernel)
theorem iX10_label_42 : zSnd zZM zmX10_label 42 (o_ald zYM .int 43) := s_iald (by decide +kernel)
theorem iX10_label_43 : zSnd zZM zmX10_label 43 (o_goto 47) := s_goto (off := 4) (by decide +kernel) (by decide +kernel)
theorem iX10_label_46 : zSnd zZM zmX10_label 46 (o_ic 2 47) := s_iconst (i := 2) (by decide +kernel) (by decide +kernel)
theorem iX10_label_47 : zSnd zZM zmX10_label 47 (o_iret) := s_iret rfl (by decide +kernel)
def kX10_label : List (Nat × zOp) := [(0, o_aload 0 1),
  (1, o_lload 1 2),
  (2, o_aload 0 3),
  (3, o_getf zYM 0 28 6),
  (6, o_i2l 7),
  (7, o_lif (fun x y => y ≤ x) 15 11),
  (11, o_ic 1 12),
  (12, o_goto 16),
  (15, o_ic 0 16),
  (16, o_callV zZM 0 zmX10_need 1 0 19),
  (19, o_lload 1 20),
  (20, o_aload 0 21),
  (21, o_getf zYM 0 28 24),
  (24, o_i2l 25),
  (25, o_lif (fun x y => y ≤ x) 46 29),
  (29, o_aload 0 30),
  (30, o_getf zYM 0 23 33),
  (33, o_aload 0 34),
  (34, o_getf zYM 0 28 37),
  (37, o_ic 1 38),
  (38, o_ibin (fun x y => x - y) 39),
  (39, o_lload 1 40),
  (40, o_l2i 41),
  (41, o_ibin (fun x y => x - y) 42),
  (42, o_ald zYM .int 43),
  (43, o_goto 47),
  (46, o_ic 2 47),
  (47, o_iret)]
set_option maxRecDepth 100000 in
theorem ksX10_label : ∀ q ∈ kX10_label, zSnd zZM zmX10_label q.1 q.2 := zcc iX10_label_0 (zcc iX10_label_1 (zcc iX10_label_2 (zcc iX10_label_3 (zcc iX10_label_6 (zcc iX10_label_7 (zcc iX10_label_11 (zcc iX10_label_12 (zcc iX10_label_15 (zcc iX10_label_16 (zcc iX10_label_19 (zcc iX10_label_20 (zcc iX10_label_21 (zcc iX10_label_24 (zcc iX10_label_25 (zcc iX10_label_29 (zcc iX10_label_30 (zcc iX10_label_33 (zcc iX10_label_34 (zcc iX10_label_37 (zcc iX10_label_38 (zcc iX10_label_39 (zcc iX10_label_40 (zcc iX10_label_41 (zcc iX10_label_42 (zcc iX10_label_43 (zcc iX10_label_46 (zcc iX10_label_47 zcn)))))))))))))))))))))))))))
theorem iX10_must_0 : zSnd zZM zmX10_must 0 (o_iload 1 1) := s_iload_n (k := 1) (by decide +kernel) rfl
theorem iX10_must_1 : zSnd zZM zmX10_must 1 (o_if0 (fun x => x = 0) 4 11) := s_if_ne (off := 10) (by decide +kernel) (by decide +kernel)
theorem iX10_must_4 : zSnd zZM zmX10_must 4 (o_aload 0 5) := s_aload_n (k := 0) (by decide +kernel) rfl
theorem iX10_must_5 : zSnd zZM zmX10_must 5 (o_ic 2 6) := s_iconst (i := 2) (by decide +kernel) (by decide +kernel)
theorem iX10_must_6 : zSnd zZM zmX10_must 6 (o_iload 2 7) := s_iload_n (k := 2) (by decide +kernel) rfl
set_option maxRecDepth 20000 in
theorem iX10_must_7 : zSnd zZM zmX10_must 7 (o_callV zZM 0 zmX10_wrong 2 3 10) := s_callV (idx := 176) zcX10 calX10_wrong virX10_wrong dscX10_wrong (by decide +kernel) (zWS6 49 rfl rfl) (by decide +kernel)
theorem iX10_must_10 : zSnd zZM zmX10_must 10 (o_athrow zYM 2) := s_athrow (T := TIse) (N := 0) rfl (by decide +kernel)
theorem iX10_must_11 : zSnd zZM zmX10_must 11 (o_vret) := s_vret rfl (by decide +kernel)
def kX10_must : List (Nat × zOp) := [(0, o_iload 1 1),
  (1, o_if0 (fun x => x = 0) 4 11),
  (4, o_aload 0 5),
  (5, o_ic 2 6),
  (6, o_iload 2 7),
  (7, o_callV zZM 0 zmX10_wrong 2 3 10),
  (10, o_athrow zYM 2),
  (11, o_vret)]
set_option maxRecDepth 100000 in
theorem ksX10_must : ∀ q ∈ kX10_must, zSnd zZM zmX10_must q.1 q.2 := zcc iX10_must_0 (zcc iX10_must_1 (zcc iX10_must_4 (zcc iX10_must_5 (zcc iX10_must_6 (zcc iX10_must_7 (zcc iX10_must_10 (zcc iX10_must_11 zcn)))))))
