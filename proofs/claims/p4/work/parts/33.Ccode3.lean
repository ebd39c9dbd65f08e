theorem iX6_addMemory_0 : zSnd zZC zmX6_addMemory 0 (o_aload 0 1) := s_aload_n (k := 0) (by decide +kernel) rfl
theorem iX6_addMemory_1 : zSnd zZC zmX6_addMemory 1 (o_getf zYC 3 1 4) := s_getf zcX6 fX6_22 (by decide +kernel) (by decide +kernel)
theorem iX6_addMemory_4 : zSnd zZC zmX6_addMemory 4 (o_dup 5) := s_dup (by decide +kernel)
theorem iX6_addMemory_5 : zSnd zZC zmX6_addMemory 5 (o_getf zYC 2 11 8) := s_getf zcX2 fX6_198 (by decide +kernel) (by decide +kernel)
theorem iX6_addMemory_8 : zSnd zZC zmX6_addMemory 8 (o_ic 1 9) := s_iconst (i := 1) (by decide +kernel) (by decide +kernel)
theorem iX6_addMemory_9 : zSnd zZC zmX6_addMemory 9 (o_ibin (fun x y => x + y) 10) := s_iadd (by decide +kernel)
theorem iX6_addMemory_10 : zSnd zZC zmX6_addMemory 10 (o_putI zYC 2 11 13) := s_putI zcX2 fX6_198 (by decide +kernel) rfl rfl (by decide +kernel)
theorem iX6_addMemory_13 : zSnd zZC zmX6_addMemory 13 (o_aload 0 14) := s_aload_n (k := 0) (by decide +kernel) rfl
theorem iX6_addMemory_14 : zSnd zZC zmX6_addMemory 14 (o_getf zYC 3 1 17) := s_getf zcX6 fX6_22 (by decide +kernel) (by decide +kernel)
theorem iX6_addMemory_17 : zSnd zZC zmX6_addMemory 17 (o_getf zYC 2 11 20) := s_getf zcX2 fX6_198 (by decide +kernel) (by decide +kernel)
theorem iX6_addMemory_20 : zSnd zZC zmX6_addMemory 20 (o_ic 1 21) := s_iconst (i := 1) (by decide +kernel) (by decide +kernel)
theorem iX6_addMemory_21 : zSnd zZC zmX6_addMemory 21 (o_icmp (fun x y => x ≤ y) 33 24) := s_icmp_le (off := 12) (by decide +kernel) (by decide +kernel)
theorem iX6_addMemory_24 : zSnd zZC zmX6_addMemory 24 (o_aload 0 25) := s_aload_n (k := 0) (by decide +kernel) rfl
theorem iX6_addMemory_25 : zSnd zZC zmX6_addMemory 25 (o_getf zYC 3 1 28) := s_getf zcX6 fX6_22 (by decide +kernel) (by decide +kernel)
theorem iX6_addMemory_28 : zSnd zZC zmX6_addMemory 28 (o_ic 4 29) := s_iconst (i := 4) (by decide +kernel) (by decide +kernel)
theorem iX6_addMemory_29 : zSnd zZC zmX6_addMemory 29 (o_iload 1 30) := s_iload_n (k := 1) (by decide +kernel) rfl
set_option maxRecDepth 20000 in
theorem iX6_addMemory_30 : zSnd zZC zmX6_addMemory 30 (o_callV zZC 2 zmX2_noteWrong 2 0 33) := s_callVN (idx := 186) zcX2 calX2_noteWrong virX2_noteWrong dscX2_noteWrong (by decide +kernel) (zNW2 213 rfl rfl) (by decide +kernel)
theorem iX6_addMemory_33 : zSnd zZC zmX6_addMemory 33 (o_vret) := s_vret rfl (by decide +kernel)
def kX6_addMemory : List (Nat × zOp) := [(0, o_aload 0 1),
  (1, o_getf zYC 3 1 4),
  (4, o_dup 5),
  (5, o_getf zYC 2 11 8),
  (8, o_ic 1 9),
  (9, o_ibin (fun x y => x + y) 10),
  (10, o_putI zYC 2 11 13),
  (13, o_aload 0 14),
  (14, o_getf zYC 3 1 17),
  (17, o_getf zYC 2 11 20),
  (20, o_ic 1 21),
  (21, o_icmp (fun x y => x ≤ y) 33 24),
  (24, o_aload 0 25),
  (25, o_getf zYC 3 1 28),
  (28, o_ic 4 29),
  (29, o_iload 1 30),
  (30, o_callV zZC 2 zmX2_noteWrong 2 0 33),
  (33, o_vret)]
set_option maxRecDepth 100000 in
theorem ksX6_addMemory : ∀ q ∈ kX6_addMemory, zSnd zZC zmX6_addMemory q.1 q.2 := zcc iX6_addMemory_0 (zcc iX6_addMemory_1 (zcc iX6_addMemory_4 (zcc iX6_addMemory_5 (zcc iX6_addMemory_8 (zcc iX6_addMemory_9 (zcc iX6_addMemory_10 (zcc iX6_addMemory_13 (zcc iX6_addMemory_14 (zcc iX6_addMemory_17 (zcc iX6_addMemory_20 (zcc iX6_addMemory_21 (zcc iX6_addMemory_24 (zcc iX6_addMemory_25 (zcc iX6_addMemory_28 (zcc iX6_addMemory_29 (zcc iX6_addMemory_30 (zcc iX6_addMemory_33 zcn)))))))))))))))))
theorem iX6_addTable_0 : zSnd zZC zmX6_addTable 0 (o_aload 0 1) := s_aload_n (k := 0) (by decide +kernel) rfl
theorem iX6_addTable_1 : zSnd zZC zmX6_addTable 1 (o_getf zYC 3 1 4) := s_getf zcX6 fX6_22 (by decide +kernel) (by decide +kernel)
theorem iX6_addTable_4 : zSnd zZC zmX6_addTable 4 (o_dup 5) := s_dup (by decide +kernel)
theorem iX6_addTable_5 : zSnd zZC zmX6_addTable 5 (o_getf zYC 2 10 8) := s_getf zcX2 fX6_195 (by decide +kernel) (by decide +kernel)
theorem iX6_addTable_8 : zSnd zZC zmX6_addTable 8 (o_ic 1 9) := s_iconst (i := 1) (by decide +kernel) (by decide +kernel)
theorem iX6_addTable_9 : zSnd zZC zmX6_addTable 9 (o_ibin (fun x y => x + y) 10) := s_iadd (by decide +kernel)
theorem iX6_addTable_10 : zSnd zZC zmX6_addTable 10 (o_putI zYC 2 10 13) := s_putI zcX2 fX6_195 (by decide +kernel) rfl rfl (by decide +kernel)
theorem iX6_addTable_13 : zSnd zZC zmX6_addTable 13 (o_aload 0 14) := s_aload_n (k := 0) (by decide +kernel) rfl
theorem iX6_addTable_14 : zSnd zZC zmX6_addTable 14 (o_getf zYC 3 1 17) := s_getf zcX6 fX6_22 (by decide +kernel) (by decide +kernel)
theorem iX6_addTable_17 : zSnd zZC zmX6_addTable 17 (o_getf zYC 2 10 20) := s_getf zcX2 fX6_195 (by decide +kernel) (by decide +kernel)
theorem iX6_addTable_20 : zSnd zZC zmX6_addTable 20 (o_ic 1 21) := s_iconst (i := 1) (by decide +kernel) (by decide +kernel)
theorem iX6_addTable_21 : zSnd zZC zmX6_addTable 21 (o_icmp (fun x y => x ≤ y) 33 24) := s_icmp_le (off := 12) (by decide +kernel) (by decide +kernel)
theorem iX6_addTable_24 : zSnd zZC zmX6_addTable 24 (o_aload 0 25) := s_aload_n (k := 0) (by decide +kernel) rfl
theorem iX6_addTable_25 : zSnd zZC zmX6_addTable 25 (o_getf zYC 3 1 28) := s_getf zcX6 fX6_22 (by decide +kernel) (by decide +kernel)
theorem iX6_addTable_28 : zSnd zZC zmX6_addTable 28 (o_ic 2 29) := s_iconst (i := 2) (by decide +kernel) (by decide +kernel)
theorem iX6_addTable_29 : zSnd zZC zmX6_addTable 29 (o_iload 1 30) := s_iload_n (k := 1) (by decide +kernel) rfl
set_option maxRecDepth 20000 in
theorem iX6_addTable_30 : zSnd zZC zmX6_addTable 30 (o_callV zZC 2 zmX2_noteWrong 2 0 33) := s_callVN (idx := 186) zcX2 calX2_noteWrong virX2_noteWrong dscX2_noteWrong (by decide +kernel) (zNW2 213 rfl rfl) (by decide +kernel)
theorem iX6_addTable_33 : zSnd zZC zmX6_addTable 33 (o_vret) := s_vret rfl (by decide +kernel)
def kX6_addTable : List (Nat × zOp) := [(0, o_aload 0 1),
  (1, o_getf zYC 3 1 4),
  (4, o_dup 5),
  (5, o_getf zYC 2 10 8),
  (8, o_ic 1 9),
  (9, o_ibin (fun x y => x + y) 10),
  (10, o_putI zYC 2 10 13),
  (13, o_aload 0 14),
  (14, o_getf zYC 3 1 17),
  (17, o_getf zYC 2 10 20),
  (20, o_ic 1 21),
  (21, o_icmp (fun x y => x ≤ y) 33 24),
  (24, o_aload 0 25),
  (25, o_getf zYC 3 1 28),
  (28, o_ic 2 29),
  (29, o_iload 1 30),
  (30, o_callV zZC 2 zmX2_noteWrong 2 0 33),
  (33, o_vret)]
set_option maxRecDepth 100000 in
theorem ksX6_addTable : ∀ q ∈ kX6_addTable, zSnd zZC zmX6_addTable q.1 q.2 := zcc iX6_addTable_0 (zcc iX6_addTable_1 (zcc iX6_addTable_4 (zcc iX6_addTable_5 (zcc iX6_addTable_8 (zcc iX6_addTable_9 (zcc iX6_addTable_10 (zcc iX6_addTable_13 (zcc iX6_addTable_14 (zcc iX6_addTable_17 (zcc iX6_addTable_20 (zcc iX6_addTable_21 (zcc iX6_addTable_24 (zcc iX6_addTable_25 (zcc iX6_addTable_28 (zcc iX6_addTable_29 (zcc iX6_addTable_30 (zcc iX6_addTable_33 zcn)))))))))))))))))
theorem iX6_fit_0 : zSnd zZC zmX6_fit 0 (o_iload 1 1) := s_iload_n (k := 1) (by decide +kernel) rfl
theorem iX6_fit_1 : zSnd zZC zmX6_fit 1 (o_ic 10 3) := s_bipush (i := 10) (by decide +kernel) (by decide +kernel)
theorem iX6_fit_3 : zSnd zZC zmX6_fit 3 (o_icmp (fun x y => x = y) 6 43) := s_icmp_ne (off := 40) (by decide +kernel) (by decide +kernel)
theorem iX6_fit_6 : zSnd zZC zmX6_fit 6 (o_aload 0 7) := s_aload_n (k := 0) (by decide +kernel) rfl
theorem iX6_fit_7 : zSnd zZC zmX6_fit 7 (o_getf zYC 3 1 10) := s_getf zcX6 fX6_22 (by decide +kernel) (by decide +kernel)
theorem iX6_fit_10 : zSnd zZC zmX6_fit 10 (o_getf zYC 2 7 13) := s_getf zcX2 fX6_140 (by decide +kernel) (by decide +kernel)
theorem iX6_fit_13 : zSnd zZC zmX6_fit 13 (o_ic 10 15) := s_bipush (i := 10) (by decide +kernel) (by decide +kernel)
theorem iX6_fit_15 : zSnd zZC zmX6_fit 15 (o_ald zYC .int 16) := s_iald (by decide +kernel)
theorem iX6_fit_16 : zSnd zZC zmX6_fit 16 (o_aload 0 17) := s_aload_n (k := 0) (by decide +kernel) rfl
theorem iX6_fit_17 : zSnd zZC zmX6_fit 17 (o_getf zYC 3 1 20) := s_getf zcX6 fX6_22 (by decide +kernel) (by decide +kernel)
theorem iX6_fit_20 : zSnd zZC zmX6_fit 20 (o_getf zYC 2 7 23) := s_getf zcX2 fX6_140 (by decide +kernel) (by decide +kernel)
theorem iX6_fit_23 : zSnd zZC zmX6_fit 23 (o_ic 3 24) := s_iconst (i := 3) (by decide +kernel) (by decide +kernel)
theorem iX6_fit_24 : zSnd zZC zmX6_fit 24 (o_ald zYC .int 25) := s_iald (by decide +kernel)
theorem iX6_fit_25 : zSnd zZC zmX6_fit 25 (o_icmp (fun x y => x = y) 43 28) := s_icmp_eq (off := 18) (by decide +kernel) (by decide +kernel)
theorem iX6_fit_28 : zSnd zZC zmX6_fit 28 (o_aload 0 29) := s_aload_n (k := 0) (by decide +kernel) rfl
theorem iX6_fit_29 : zSnd zZC zmX6_fit 29 (o_getf zYC 3 0 32) := s_getf zcX6 fX6_18 (by decide +kernel) (by decide +kernel)
theorem iX6_fit_32 : zSnd zZC zmX6_fit 32 (o_ic 1 33) := s_iconst (i := 1) (by decide +kernel) (by decide +kernel)
theorem iX6_fit_33 : zSnd zZC zmX6_fit 33 (o_aload 0 34) := s_aload_n (k := 0) (by decide +kernel) rfl
theorem iX6_fit_34 : zSnd zZC zmX6_fit 34 (o_getf zYC 3 0 37) := s_getf zcX6 fX6_18 (by decide +kernel) (by decide +kernel)
theorem iX6_fit_37 : zSnd zZC zmX6_fit 37 (o_getf zYC 1 2 40) := s_getf zcX4 fX6_62 (by decide +kernel) (by decide +kernel)
set_option maxRecDepth 20000 in
theorem iX6_fit_40 : zSnd zZC zmX6_fit 40 (o_callV zZC 1 zmX4_fail 2 0 43) := s_callVN (idx := 149) zcX4 calX4_fail virX4_fail dscX4_fail (by decide +kernel) (zNW2 152 rfl rfl) (by decide +kernel)
theorem iX6_fit_43 : zSnd zZC zmX6_fit 43 (o_iload 1 44) := s_iload_n (k := 1) (by decide +kernel) rfl
theorem iX6_fit_44 : zSnd zZC zmX6_fit 44 (o_ic 11 46) := s_bipush (i := 11) (by decide +kernel) (by decide +kernel)
theorem iX6_fit_46 : zSnd zZC zmX6_fit 46 (o_icmp (fun x y => x = y) 49 98) := s_icmp_ne (off := 52) (by decide +kernel) (by decide +kernel)
theorem iX6_fit_49 : zSnd zZC zmX6_fit 49 (o_aload 0 50) := s_aload_n (k := 0) (by decide +kernel) rfl
theorem iX6_fit_50 : zSnd zZC zmX6_fit 50 (o_getf zYC 3 1 53) := s_getf zcX6 fX6_22 (by decide +kernel) (by decide +kernel)
theorem iX6_fit_53 : zSnd zZC zmX6_fit 53 (o_getf zYC 2 14 56) := s_getf zcX2 fX6_130 (by decide +kernel) (by decide +kernel)
theorem iX6_fit_56 : zSnd zZC zmX6_fit 56 (o_lc 0 57) := s_lconst (i := 0) (by decide +kernel) (by decide +kernel)
theorem iX6_fit_57 : zSnd zZC zmX6_fit 57 (o_lif (fun x y => x < y) 98 61) := s_llt (off := 40) (by decide +kernel) (by decide +kernel) (by decide +kernel)
theorem iX6_fit_61 : zSnd zZC zmX6_fit 61 (o_aload 0 62) := s_aload_n (k := 0) (by decide +kernel) rfl
theorem iX6_fit_62 : zSnd zZC zmX6_fit 62 (o_getf zYC 3 1 65) := s_getf zcX6 fX6_22 (by decide +kernel) (by decide +kernel)
theorem iX6_fit_65 : zSnd zZC zmX6_fit 65 (o_getf zYC 2 7 68) := s_getf zcX2 fX6_140 (by decide +kernel) (by decide +kernel)
theorem iX6_fit_68 : zSnd zZC zmX6_fit 68 (o_ic 11 70) := s_bipush (i := 11) (by decide +kernel) (by decide +kernel)
theorem iX6_fit_70 : zSnd zZC zmX6_fit 70 (o_ald zYC .int 71) := s_iald (by decide +kernel)
theorem iX6_fit_71 : zSnd zZC zmX6_fit 71 (o_i2l 72) := s_i2l (by decide +kernel)
theorem iX6_fit_72 : zSnd zZC zmX6_fit 72 (o_aload 0 73) := s_aload_n (k := 0) (by decide +kernel) rfl
theorem iX6_fit_73 : zSnd zZC zmX6_fit 73 (o_getf zYC 3 1 76) := s_getf zcX6 fX6_22 (by decide +kernel) (by decide +kernel)
theorem iX6_fit_76 : zSnd zZC zmX6_fit 76 (o_getf zYC 2 14 79) := s_getf zcX2 fX6_130 (by decide +kernel) (by decide +kernel)
theorem iX6_fit_79 : zSnd zZC zmX6_fit 79 (o_lif (fun x y => x = y) 98 83) := s_leq (off := 18) (by decide +kernel) (by decide +kernel) (by decide +kernel)
theorem iX6_fit_83 : zSnd zZC zmX6_fit 83 (o_aload 0 84) := s_aload_n (k := 0) (by decide +kernel) rfl
theorem iX6_fit_84 : zSnd zZC zmX6_fit 84 (o_getf zYC 3 0 87) := s_getf zcX6 fX6_18 (by decide +kernel) (by decide +kernel)
theorem iX6_fit_87 : zSnd zZC zmX6_fit 87 (o_ic 1 88) := s_iconst (i := 1) (by decide +kernel) (by decide +kernel)
theorem iX6_fit_88 : zSnd zZC zmX6_fit 88 (o_aload 0 89) := s_aload_n (k := 0) (by decide +kernel) rfl
theorem iX6_fit_89 : zSnd zZC zmX6_fit 89 (o_getf zYC 3 0 92) := s_getf zcX6 fX6_18 (by decide +kernel) (by decide +kernel)
theorem iX6_fit_92 : zSnd zZC zmX6_fit 92 (o_getf zYC 1 2 95) := s_getf zcX4 fX6_62 (by decide +kernel) (by decide +kernel)
set_option maxRecDepth 20000 in
theorem iX6_fit_95 : zSnd zZC zmX6_fit 95 (o_callV zZC 1 zmX4_fail 2 0 98) := s_callVN (idx := 149) zcX4 calX4_fail virX4_fail dscX4_fail (by decide +kernel) (zNW2 152 rfl rfl) (by decide +kernel)
theorem iX6_fit_98 : zSnd zZC zmX6_fit 98 (o_vret) := s_vret rfl (by decide +kernel)
def kX6_fit : List (Nat × zOp) := [(0, o_iload 1 1),
  (1, o_ic 10 3),
  (3, o_icmp (fun x y => x = y) 6 43),
  (6, o_aload 0 7),
  (7, o_getf zYC 3 1 10),
  (10, o_getf zYC 2 7 13),
  (13, o_ic 10 15),
  (15, o_ald zYC .int 16),
  (16, o_aload 0 17),
  (17, o_getf zYC 3 1 20),
  (20, o_getf zYC 2 7 23),
  (23, o_ic 3 24),
  (24, o_ald zYC .int 25),
  (25, o_icmp (fun x y => x = y) 43 28),
  (28, o_aload 0 29),
  (29, o_getf zYC 3 0 32),
  (32, o_ic 1 33),
  (33, o_aload 0 34),
  (34, o_getf zYC 3 0 37),
  (37, o_getf zYC 1 2 40),
  (40, o_callV zZC 1 zmX4_fail 2 0 43),
  (43, o_iload 1 44),
  (44, o_ic 11 46),
  (46, o_icmp (fun x y => x = y) 49 98),
  (49, o_aload 0 50),
  (50, o_getf zYC 3 1 53),
  (53, o_getf zYC 2 14 56),
  (56, o_lc 0 57),
  (57, o_lif (fun x y => x < y) 98 61),
  (61, o_aload 0 62),
  (62, o_getf zYC 3 1 65),
  (65, o_getf zYC 2 7 68),
  (68, o_ic 11 70),
  (70, o_ald zYC .int 71),
  (71, o_i2l 72),
  (72, o_aload 0 73),
  (73, o_getf zYC 3 1 76),
  (76, o_getf zYC 2 14 79),
  (79, o_lif (fun x y => x = y) 98 83),
  (83, o_aload 0 84),
  (84, o_getf zYC 3 0 87),
  (87, o_ic 1 88),
  (88, o_aload 0 89),
  (89, o_getf zYC 3 0 92),
  (92, o_getf zYC 1 2 95),
  (95, o_callV zZC 1 zmX4_fail 2 0 98),
  (98, o_vret)]
set_option maxRecDepth 100000 in
theorem ksX6_fit : ∀ q ∈ kX6_fit, zSnd zZC zmX6_fit q.1 q.2 := zcc iX6_fit_0 (zcc iX6_fit_1 (zcc iX6_fit_3 (zcc iX6_fit_6 (zcc iX6_fit_7 (zcc iX6_fit_10 (zcc iX6_fit_13 (zcc iX6_fit_15 (zcc iX6_fit_16 (zcc iX6_fit_17 (zcc iX6_fit_20 (zcc iX6_fit_23 (zcc iX6_fit_24 (zcc iX6_fit_25 (zcc iX6_fit_28 (zcc iX6_fit_29 (zcc iX6_fit_32 (zcc iX6_fit_33 (zcc iX6_fit_34 (zcc iX6_fit_37 (zcc iX6_fit_40 (zcc iX6_fit_43 (zcc iX6_fit_44 (zcc iX6_fit_46 (zcc iX6_fit_49 (zcc iX6_fit_50 (zcc iX6_fit_53 (zcc iX6_fit_56 (zcc iX6_fit_57 (zcc iX6_fit_61 (zcc iX6_fit_62 (zcc iX6_fit_65 (zcc iX6_fit_68 (zcc iX6_fit_70 (zcc iX6_fit_71 (zcc iX6_fit_72 (zcc iX6_fit_73 (zcc iX6_fit_76 (zcc iX6_fit_79 (zcc iX6_fit_83 (zcc iX6_fit_84 (zcc iX6_fit_87 (zcc iX6_fit_88 (zcc iX6_fit_89 (zcc iX6_fit_92 (zcc iX6_fit_95 (zcc iX6_fit_98 zcn))))))))))))))))))))))))))))))))))))))))))))))
theorem iX6_isExported_0 : zSnd zZC zmX6_isExported 0 (o_ic 0 1) := s_iconst (i := 0) (by decide +kernel) (by decide +kernel)
theorem iX6_isExported_1 : zSnd zZC zmX6_isExported 1 (o_istore 3 2) := s_istore_n (k := 3) (by decide +kernel) rfl (by decide +kernel)
theorem iX6_isExported_2 : zSnd zZC zmX6_isExported 2 (o_iload 3 3) := s_iload_n (k := 3) (by decide +kernel) rfl
theorem iX6_isExported_3 : zSnd zZC zmX6_isExported 3 (o_aload 0 4) := s_aload_n (k := 0) (by decide +kernel) rfl
theorem iX6_isExported_4 : zSnd zZC zmX6_isExported 4 (o_getf zYC 3 1 7) := s_getf zcX6 fX6_22 (by decide +kernel) (by decide +kernel)
theorem iX6_isExported_7 : zSnd zZC zmX6_isExported 7 (o_getf zYC 2 7 10) := s_getf zcX2 fX6_140 (by decide +kernel) (by decide +kernel)
theorem iX6_isExported_10 : zSnd zZC zmX6_isExported 10 (o_ic 7 12) := s_bipush (i := 7) (by decide +kernel) (by decide +kernel)
theorem iX6_isExported_12 : zSnd zZC zmX6_isExported 12 (o_ald zYC .int 13) := s_iald (by decide +kernel)
theorem iX6_isExported_13 : zSnd zZC zmX6_isExported 13 (o_icmp (fun x y => y ≤ x) 61 16) := s_icmp_ge (off := 48) (by decide +kernel) (by decide +kernel)
theorem iX6_isExported_16 : zSnd zZC zmX6_isExported 16 (o_iload 3 17) := s_iload_n (k := 3) (by decide +kernel) rfl
theorem iX6_isExported_17 : zSnd zZC zmX6_isExported 17 (o_aload 0 18) := s_aload_n (k := 0) (by decide +kernel) rfl
theorem iX6_isExported_18 : zSnd zZC zmX6_isExported 18 (o_getf zYC 3 3 21) := s_getf zcX6 fX6_9 (by decide +kernel) (by decide +kernel)
theorem iX6_isExported_21 : zSnd zZC zmX6_isExported 21 (o_alen zYC 22) := s_alen zYC_arr (by decide +kernel)
theorem iX6_isExported_22 : zSnd zZC zmX6_isExported 22 (o_icmp (fun x y => y ≤ x) 61 25) := s_icmp_ge (off := 39) (by decide +kernel) (by decide +kernel)
theorem iX6_isExported_25 : zSnd zZC zmX6_isExported 25 (o_aload 0 26) := s_aload_n (k := 0) (by decide +kernel) rfl
theorem iX6_isExported_26 : zSnd zZC zmX6_isExported 26 (o_getf zYC 3 4 29) := s_getf zcX6 fX6_15 (by decide +kernel) (by decide +kernel)
theorem iX6_isExported_29 : zSnd zZC zmX6_isExported 29 (o_iload 3 30) := s_iload_n (k := 3) (by decide +kernel) rfl
theorem iX6_isExported_30 : zSnd zZC zmX6_isExported 30 (o_ald zYC .int 31) := s_iald (by decide +kernel)
theorem iX6_isExported_31 : zSnd zZC zmX6_isExported 31 (o_iload 2 32) := s_iload_n (k := 2) (by decide +kernel) rfl
theorem iX6_isExported_32 : zSnd zZC zmX6_isExported 32 (o_icmp (fun x y => x = y) 35 55) := s_icmp_ne (off := 23) (by decide +kernel) (by decide +kernel)
theorem iX6_isExported_35 : zSnd zZC zmX6_isExported 35 (o_aload 0 36) := s_aload_n (k := 0) (by decide +kernel) rfl
theorem iX6_isExported_36 : zSnd zZC zmX6_isExported 36 (o_getf zYC 3 0 39) := s_getf zcX6 fX6_18 (by decide +kernel) (by decide +kernel)
theorem iX6_isExported_39 : zSnd zZC zmX6_isExported 39 (o_aload 0 40) := s_aload_n (k := 0) (by decide +kernel) rfl
theorem iX6_isExported_40 : zSnd zZC zmX6_isExported 40 (o_getf zYC 3 3 43) := s_getf zcX6 fX6_9 (by decide +kernel) (by decide +kernel)
theorem iX6_isExported_43 : zSnd zZC zmX6_isExported 43 (o_iload 3 44) := s_iload_n (k := 3) (by decide +kernel) rfl
theorem iX6_isExported_44 : zSnd zZC zmX6_isExported 44 (o_ald zYC .int 45) := s_iald (by decide +kernel)
theorem iX6_isExported_45 : zSnd zZC zmX6_isExported 45 (o_iload 1 46) := s_iload_n (k := 1) (by decide +kernel) rfl
theorem iX6_isExported_46 : zSnd zZC zmX6_isExported 46 (o_iload 2 47) := s_iload_n (k := 2) (by decide +kernel) rfl
set_option maxRecDepth 20000 in
theorem iX6_isExported_47 : zSnd zZC zmX6_isExported 47 (o_callV zZC 1 zmX4_sameBytes 3 1 50) := s_callVN (idx := 225) zcX4 calX4_sameBytes virX4_sameBytes dscX4_sameBytes (by decide +kernel) (zNW3 43 rfl rfl) (by decide +kernel)
theorem iX6_isExported_50 : zSnd zZC zmX6_isExported 50 (o_if0 (fun x => x = 0) 55 53) := s_if_eq (off := 5) (by decide +kernel) (by decide +kernel)
theorem iX6_isExported_53 : zSnd zZC zmX6_isExported 53 (o_ic 1 54) := s_iconst (i := 1) (by decide +kernel) (by decide +kernel)
theorem iX6_isExported_54 : zSnd zZC zmX6_isExported 54 (o_zret) := s_zret rfl (by decide +kernel)
theorem iX6_isExported_55 : zSnd zZC zmX6_isExported 55 (o_iinc 3 1 58) := s_iinc (a := 1) (by decide +kernel) (by decide +kernel) (by decide +kernel)
theorem iX6_isExported_58 : zSnd zZC zmX6_isExported 58 (o_goto 2) := s_goto (off := (-56)) (by decide +kernel) (by decide +kernel)
theorem iX6_isExported_61 : zSnd zZC zmX6_isExported 61 (o_ic 0 62) := s_iconst (i := 0) (by decide +kernel) (by decide +kernel)
theorem iX6_isExported_62 : zSnd zZC zmX6_isExported 62 (o_zret) := s_zret rfl (by decide +kernel)
def kX6_isExported : List (Nat × zOp) := [(0, o_ic 0 1),
  (1, o_istore 3 2),
  (2, o_iload 3 3),
  (3, o_aload 0 4),
  (4, o_getf zYC 3 1 7),
  (7, o_getf zYC 2 7 10),
  (10, o_ic 7 12),
  (12, o_ald zYC .int 13),
  (13, o_icmp (fun x y => y ≤ x) 61 16),
  (16, o_iload 3 17),
  (17, o_aload 0 18),
  (18, o_getf zYC 3 3 21),
  (21, o_alen zYC 22),
  (22, o_icmp (fun x y => y ≤ x) 61 25),
  (25, o_aload 0 26),
  (26, o_getf zYC 3 4 29),
  (29, o_iload 3 30),
  (30, o_ald zYC .int 31),
  (31, o_iload 2 32),
  (32, o_icmp (fun x y => x = y) 35 55),
  (35, o_aload 0 36),
  (36, o_getf zYC 3 0 39),
  (39, o_aload 0 40),
  (40, o_getf zYC 3 3 43),
  (43, o_iload 3 44),
  (44, o_ald zYC .int 45),
  (45, o_iload 1 46),
  (46, o_iload 2 47),
  (47, o_callV zZC 1 zmX4_sameBytes 3 1 50),
  (50, o_if0 (fun x => x = 0) 55 53),
  (53, o_ic 1 54),
  (54, o_zret),
  (55, o_iinc 3 1 58),
  (58, o_goto 2),
  (61, o_ic 0 62),
  (62, o_zret)]
set_option maxRecDepth 100000 in
theorem ksX6_isExported : ∀ q ∈ kX6_isExported, zSnd zZC zmX6_isExported q.1 q.2 := zcc iX6_isExported_0 (zcc iX6_isExported_1 (zcc iX6_isExported_2 (zcc iX6_isExported_3 (zcc iX6_isExported_4 (zcc iX6_isExported_7 (zcc iX6_isExported_10 (zcc iX6_isExported_12 (zcc iX6_isExported_13 (zcc iX6_isExported_16 (zcc iX6_isExported_17 (zcc iX6_isExported_18 (zcc iX6_isExported_21 (zcc iX6_isExported_22 (zcc iX6_isExported_25 (zcc iX6_isExported_26 (zcc iX6_isExported_29 (zcc iX6_isExported_30 (zcc iX6_isExported_31 (zcc iX6_isExported_32 (zcc iX6_isExported_35 (zcc iX6_isExported_36 (zcc iX6_isExported_39 (zcc iX6_isExported_40 (zcc iX6_isExported_43 (zcc iX6_isExported_44 (zcc iX6_isExported_45 (zcc iX6_isExported_46 (zcc iX6_isExported_47 (zcc iX6_isExported_50 (zcc iX6_isExported_53 (zcc iX6_isExported_54 (zcc iX6_isExported_55 (zcc iX6_isExported_58 (zcc iX6_isExported_61 (zcc iX6_isExported_62 zcn)))))))))))))))))))))))))))))))))))
theorem iX6_refuseBeyond_0 : zSnd zZC zmX6_refuseBeyond 0 (o_iload 1 1) := s_iload_n (k := 1) (by decide +kernel) rfl
theorem iX6_refuseBeyond_1 : zSnd zZC zmX6_refuseBeyond 1 (o_iload 2 2) := s_iload_n (k := 2) (by decide +kernel) rfl
theorem iX6_refuseBeyond_2 : zSnd zZC zmX6_refuseBeyond 2 (o_icmp (fun x y => x < y) 20 5) := s_icmp_lt (off := 18) (by decide +kernel) (by decide +kernel)
theorem iX6_refuseBeyond_5 : zSnd zZC zmX6_refuseBeyond 5 (o_aload 0 6) := s_aload_n (k := 0) (by decide +kernel) rfl
theorem iX6_refuseBeyond_6 : zSnd zZC zmX6_refuseBeyond 6 (o_getf zYC 3 0 9) := s_getf zcX6 fX6_18 (by decide +kernel) (by decide +kernel)
theorem iX6_refuseBeyond_9 : zSnd zZC zmX6_refuseBeyond 9 (o_ic 4 10) := s_iconst (i := 4) (by decide +kernel) (by decide +kernel)
theorem iX6_refuseBeyond_10 : zSnd zZC zmX6_refuseBeyond 10 (o_aload 0 11) := s_aload_n (k := 0) (by decide +kernel) rfl
theorem iX6_refuseBeyond_11 : zSnd zZC zmX6_refuseBeyond 11 (o_getf zYC 3 0 14) := s_getf zcX6 fX6_18 (by decide +kernel) (by decide +kernel)
theorem iX6_refuseBeyond_14 : zSnd zZC zmX6_refuseBeyond 14 (o_getf zYC 1 2 17) := s_getf zcX4 fX6_62 (by decide +kernel) (by decide +kernel)
set_option maxRecDepth 20000 in
theorem iX6_refuseBeyond_17 : zSnd zZC zmX6_refuseBeyond 17 (o_callV zZC 1 zmX4_fail 2 0 20) := s_callVN (idx := 149) zcX4 calX4_fail virX4_fail dscX4_fail (by decide +kernel) (zNW2 152 rfl rfl) (by decide +kernel)
theorem iX6_refuseBeyond_20 : zSnd zZC zmX6_refuseBeyond 20 (o_vret) := s_vret rfl (by decide +kernel)
def kX6_refuseBeyond : List (Nat × zOp) := [(0, o_iload 1 1),
  (1, o_iload 2 2),
  (2, o_icmp (fun x y => x < y) 20 5),
  (5, o_aload 0 6),
  (6, o_getf zYC 3 0 9),
  (9, o_ic 4 10),
  (10, o_aload 0 11),
  (11, o_getf zYC 3 0 14),
  (14, o_getf zYC 1 2 17),
  (17, o_callV zZC 1 zmX4_fail 2 0 20),
  (20, o_vret)]
set_option maxRecDepth 100000 in
theorem ksX6_refuseBeyond : ∀ q ∈ kX6_refuseBeyond, zSnd zZC zmX6_refuseBeyond q.1 q.2 := zcc iX6_refuseBeyond_0 (zcc iX6_refuseBeyond_1 (zcc iX6_refuseBeyond_2 (zcc iX6_refuseBeyond_5 (zcc iX6_refuseBeyond_6 (zcc iX6_refuseBeyond_9 (zcc iX6_refuseBeyond_10 (zcc iX6_refuseBeyond_11 (zcc iX6_refuseBeyond_14 (zcc iX6_refuseBeyond_17 (zcc iX6_refuseBeyond_20 zcn))))))))))
theorem iX7_followAccess_0 : zSnd zZC zmX7_followAccess 0 (o_iload 1 1) := s_iload_n (k := 1) (by decide +kernel) rfl
theorem iX7_followAccess_1 : zSnd zZC zmX7_followAccess 1 (o_ic 40 3) := s_bipush (i := 40) (by decide +kernel) (by decide +kernel)
theorem iX7_followAccess_3 : zSnd zZC zmX7_followAccess 3 (o_ibin (fun x y => x - y) 4) := s_isub (by decide +kernel)
theorem iX7_followAccess_4 : zSnd zZC zmX7_followAccess 4 (o_istore 4 6) := s_istore (by decide +kernel) (by decide +kernel)
theorem iX7_followAccess_6 : zSnd zZC zmX7_followAccess 6 (o_aload 0 7) := s_aload_n (k := 0) (by decide +kernel) rfl
theorem iX7_followAccess_7 : zSnd zZC zmX7_followAccess 7 (o_getf zYC 7 1 10) := s_getf zcX7 fX7_19 (by decide +kernel) (by decide +kernel)
theorem iX7_followAccess_10 : zSnd zZC zmX7_followAccess 10 (o_aload 0 11) := s_aload_n (k := 0) (by decide +kernel) rfl
theorem iX7_followAccess_11 : zSnd zZC zmX7_followAccess 11 (o_getf zYC 7 0 14) := s_getf zcX7 fX7_15 (by decide +kernel) (by decide +kernel)
theorem iX7_followAccess_14 : zSnd zZC zmX7_followAccess 14 (o_getf zYC 2 11 17) := s_getf zcX2 fX7_155 (by decide +kernel) (by decide +kernel)
theorem iX7_followAccess_17 : zSnd zZC zmX7_followAccess 17 (o_if0 (fun x => x ≤ 0) 24 20) := s_if_le (off := 7) (by decide +kernel) (by decide +kernel)
theorem iX7_followAccess_20 : zSnd zZC zmX7_followAccess 20 (o_ic 1 21) := s_iconst (i := 1) (by decide +kernel) (by decide +kernel)
theorem iX7_followAccess_21 : zSnd zZC zmX7_followAccess 21 (o_goto 25) := s_goto (off := 4) (by decide +kernel) (by decide +kernel)
theorem iX7_followAccess_24 : zSnd zZC zmX7_followAccess 24 (o_ic 0 25) := s_iconst (i := 0) (by decide +kernel) (by decide +kernel)
set_option maxRecDepth 20000 in
theorem iX7_followAccess_25 : zSnd zZC zmX7_followAccess 25 (o_callV zZC 5 zmX3_demand 1 0 28) := s_callVN (idx := 111) zcX3 calX3_demand virX3_demand dscX3_demand (by decide +kernel) (zNW3 179 rfl rfl) (by decide +kernel)
theorem iX7_followAccess_28 : zSnd zZC zmX7_followAccess 28 (o_aload 0 29) := s_aload_n (k := 0) (by decide +kernel) rfl
theorem iX7_followAccess_29 : zSnd zZC zmX7_followAccess 29 (o_getf zYC 7 1 32) := s_getf zcX7 fX7_19 (by decide +kernel) (by decide +kernel)
theorem iX7_followAccess_32 : zSnd zZC zmX7_followAccess 32 (o_iload 4 34) := s_iload (by decide +kernel)
theorem iX7_followAccess_34 : zSnd zZC zmX7_followAccess 34 (o_if0 (fun x => x < 0) 62 37) := s_if_lt (off := 28) (by decide +kernel) (by decide +kernel)
theorem iX7_followAccess_37 : zSnd zZC zmX7_followAccess 37 (o_iload 4 39) := s_iload (by decide +kernel)
set_option maxRecDepth 20000 in
theorem iX7_followAccess_39 : zSnd zZC zmX7_followAccess 39 (o_gets zt_ACCESS_WIDTHS_k 42) := s_getsN zt_ACCESS_WIDTHS_Z (zNW3 230 rfl rfl) (by decide +kernel)
theorem iX7_followAccess_42 : zSnd zZC zmX7_followAccess 42 (o_tlen zt_ACCESS_WIDTHS_n zt_ACCESS_WIDTHS_k 43) := s_tlen zt_ACCESS_WIDTHS_T (by decide +kernel)
theorem iX7_followAccess_43 : zSnd zZC zmX7_followAccess 43 (o_icmp (fun x y => y ≤ x) 62 46) := s_icmp_ge (off := 19) (by decide +kernel) (by decide +kernel)
theorem iX7_followAccess_46 : zSnd zZC zmX7_followAccess 46 (o_lload 2 47) := s_lload_n (k := 2) (by decide +kernel) rfl
set_option maxRecDepth 20000 in
theorem iX7_followAccess_47 : zSnd zZC zmX7_followAccess 47 (o_gets zt_ACCESS_WIDTHS_k 50) := s_getsN zt_ACCESS_WIDTHS_Z (zNW3 230 rfl rfl) (by decide +kernel)
theorem iX7_followAccess_50 : zSnd zZC zmX7_followAccess 50 (o_iload 4 52) := s_iload (by decide +kernel)
theorem iX7_followAccess_52 : zSnd zZC zmX7_followAccess 52 (o_tald zt_ACCESS_WIDTHS_f zt_ACCESS_WIDTHS_n zt_ACCESS_WIDTHS_k 53) := s_tald zt_ACCESS_WIDTHS_T (by decide +kernel)
theorem iX7_followAccess_53 : zSnd zZC zmX7_followAccess 53 (o_i2l 54) := s_i2l (by decide +kernel)
theorem iX7_followAccess_54 : zSnd zZC zmX7_followAccess 54 (o_lif (fun x y => y < x) 62 58) := s_lgt (off := 7) (by decide +kernel) (by decide +kernel) (by decide +kernel)
theorem iX7_followAccess_58 : zSnd zZC zmX7_followAccess 58 (o_ic 1 59) := s_iconst (i := 1) (by decide +kernel) (by decide +kernel)
theorem iX7_followAccess_59 : zSnd zZC zmX7_followAccess 59 (o_goto 63) := s_goto (off := 4) (by decide +kernel) (by decide +kernel)
theorem iX7_followAccess_62 : zSnd zZC zmX7_followAccess 62 (o_ic 0 63) := s_iconst (i := 0) (by decide +kernel) (by decide +kernel)
set_option maxRecDepth 20000 in
theorem iX7_followAccess_63 : zSnd zZC zmX7_followAccess 63 (o_callV zZC 5 zmX3_demand 1 0 66) := s_callVN (idx := 111) zcX3 calX3_demand virX3_demand dscX3_demand (by decide +kernel) (zNW3 179 rfl rfl) (by decide +kernel)
theorem iX7_followAccess_66 : zSnd zZC zmX7_followAccess 66 (o_iload 1 67) := s_iload_n (k := 1) (by decide +kernel) rfl
theorem iX7_followAccess_67 : zSnd zZC zmX7_followAccess 67 (o_ic 41 69) := s_bipush (i := 41) (by decide +kernel) (by decide +kernel)
theorem iX7_followAccess_69 : zSnd zZC zmX7_followAccess 69 (o_icmp (fun x y => x = y) 96 72) := s_icmp_eq (off := 27) (by decide +kernel) (by decide +kernel)
theorem iX7_followAccess_72 : zSnd zZC zmX7_followAccess 72 (o_iload 1 73) := s_iload_n (k := 1) (by decide +kernel) rfl
theorem iX7_followAccess_73 : zSnd zZC zmX7_followAccess 73 (o_ic 48 75) := s_bipush (i := 48) (by decide +kernel) (by decide +kernel)
theorem iX7_followAccess_75 : zSnd zZC zmX7_followAccess 75 (o_icmp (fun x y => x < y) 84 78) := s_icmp_lt (off := 9) (by decide +kernel) (by decide +kernel)
theorem iX7_followAccess_78 : zSnd zZC zmX7_followAccess 78 (o_iload 1 79) := s_iload_n (k := 1) (by decide +kernel) rfl
theorem iX7_followAccess_79 : zSnd zZC zmX7_followAccess 79 (o_ic 53 81) := s_bipush (i := 53) (by decide +kernel) (by decide +kernel)
theorem iX7_followAccess_81 : zSnd zZC zmX7_followAccess 81 (o_icmp (fun x y => x ≤ y) 96 84) := s_icmp_le (off := 15) (by decide +kernel) (by decide +kernel)
theorem iX7_followAccess_84 : zSnd zZC zmX7_followAccess 84 (o_iload 1 85) := s_iload_n (k := 1) (by decide +kernel) rfl
theorem iX7_followAccess_85 : zSnd zZC zmX7_followAccess 85 (o_ic 55 87) := s_bipush (i := 55) (by decide +kernel) (by decide +kernel)
theorem iX7_followAccess_87 : zSnd zZC zmX7_followAccess 87 (o_icmp (fun x y => x = y) 96 90) := s_icmp_eq (off := 9) (by decide +kernel) (by decide +kernel)
theorem iX7_followAccess_90 : zSnd zZC zmX7_followAccess 90 (o_iload 1 91) := s_iload_n (k := 1) (by decide +kernel) rfl
theorem iX7_followAccess_91 : zSnd zZC zmX7_followAccess 91 (o_ic 60 93) := s_bipush (i := 60) (by decide +kernel) (by decide +kernel)
theorem iX7_followAccess_93 : zSnd zZC zmX7_followAccess 93 (o_icmp (fun x y => x < y) 100 96) := s_icmp_lt (off := 7) (by decide +kernel) (by decide +kernel)
theorem iX7_followAccess_96 : zSnd zZC zmX7_followAccess 96 (o_ic 1 97) := s_iconst (i := 1) (by decide +kernel) (by decide +kernel)
theorem iX7_followAccess_97 : zSnd zZC zmX7_followAccess 97 (o_goto 101) := s_goto (off := 4) (by decide +kernel) (by decide +kernel)
theorem iX7_followAccess_100 : zSnd zZC zmX7_followAccess 100 (o_ic 0 101) := s_iconst (i := 0) (by decide +kernel) (by decide +kernel)
theorem iX7_followAccess_101 : zSnd zZC zmX7_followAccess 101 (o_istore 5 103) := s_istore (by decide +kernel) (by decide +kernel)
theorem iX7_followAccess_103 : zSnd zZC zmX7_followAccess 103 (o_iload 5 105) := s_iload (by decide +kernel)
theorem iX7_followAccess_105 : zSnd zZC zmX7_followAccess 105 (o_if0 (fun x => x = 0) 113 108) := s_if_eq (off := 8) (by decide +kernel) (by decide +kernel)
theorem iX7_followAccess_108 : zSnd zZC zmX7_followAccess 108 (o_ic 126 110) := s_bipush (i := 126) (by decide +kernel) (by decide +kernel)
theorem iX7_followAccess_110 : zSnd zZC zmX7_followAccess 110 (o_goto 115) := s_goto (off := 5) (by decide +kernel) (by decide +kernel)
theorem iX7_followAccess_113 : zSnd zZC zmX7_followAccess 113 (o_ic 127 115) := s_bipush (i := 127) (by decide +kernel) (by decide +kernel)
theorem iX7_followAccess_115 : zSnd zZC zmX7_followAccess 115 (o_istore 6 117) := s_istore (by decide +kernel) (by decide +kernel)
theorem iX7_followAccess_117 : zSnd zZC zmX7_followAccess 117 (o_iload 1 118) := s_iload_n (k := 1) (by decide +kernel) rfl
theorem iX7_followAccess_118 : zSnd zZC zmX7_followAccess 118 (o_ic 54 120) := s_bipush (i := 54) (by decide +kernel) (by decide +kernel)
theorem iX7_followAccess_120 : zSnd zZC zmX7_followAccess 120 (o_icmp (fun x y => x < y) 146 123) := s_icmp_lt (off := 26) (by decide +kernel) (by decide +kernel)
theorem iX7_followAccess_123 : zSnd zZC zmX7_followAccess 123 (o_aload 0 124) := s_aload_n (k := 0) (by decide +kernel) rfl
theorem iX7_followAccess_124 : zSnd zZC zmX7_followAccess 124 (o_getf zYC 7 1 127) := s_getf zcX7 fX7_19 (by decide +kernel) (by decide +kernel)
theorem iX7_followAccess_127 : zSnd zZC zmX7_followAccess 127 (o_iload 6 129) := s_iload (by decide +kernel)
set_option maxRecDepth 20000 in
theorem iX7_followAccess_129 : zSnd zZC zmX7_followAccess 129 (o_callV zZC 5 zmX3_take 1 1 132) := s_callVN (idx := 101) zcX3 calX3_take virX3_take dscX3_take (by decide +kernel) (zNW3 170 rfl rfl) (by decide +kernel)
theorem iX7_followAccess_132 : zSnd zZC zmX7_followAccess 132 (o_pop 133) := s_pop (by decide +kernel)
theorem iX7_followAccess_133 : zSnd zZC zmX7_followAccess 133 (o_aload 0 134) := s_aload_n (k := 0) (by decide +kernel) rfl
theorem iX7_followAccess_134 : zSnd zZC zmX7_followAccess 134 (o_getf zYC 7 1 137) := s_getf zcX7 fX7_19 (by decide +kernel) (by decide +kernel)
theorem iX7_followAccess_137 : zSnd zZC zmX7_followAccess 137 (o_ic 127 139) := s_bipush (i := 127) (by decide +kernel) (by decide +kernel)
set_option maxRecDepth 20000 in
theorem iX7_followAccess_139 : zSnd zZC zmX7_followAccess 139 (o_callV zZC 5 zmX3_take 1 1 142) := s_callVN (idx := 101) zcX3 calX3_take virX3_take dscX3_take (by decide +kernel) (zNW3 170 rfl rfl) (by decide +kernel)
theorem iX7_followAccess_142 : zSnd zZC zmX7_followAccess 142 (o_pop 143) := s_pop (by decide +kernel)
theorem iX7_followAccess_143 : zSnd zZC zmX7_followAccess 143 (o_goto 165) := s_goto (off := 22) (by decide +kernel) (by decide +kernel)
theorem iX7_followAccess_146 : zSnd zZC zmX7_followAccess 146 (o_aload 0 147) := s_aload_n (k := 0) (by decide +kernel) rfl
theorem iX7_followAccess_147 : zSnd zZC zmX7_followAccess 147 (o_getf zYC 7 1 150) := s_getf zcX7 fX7_19 (by decide +kernel) (by decide +kernel)
theorem iX7_followAccess_150 : zSnd zZC zmX7_followAccess 150 (o_ic 127 152) := s_bipush (i := 127) (by decide +kernel) (by decide +kernel)
set_option maxRecDepth 20000 in
theorem iX7_followAccess_152 : zSnd zZC zmX7_followAccess 152 (o_callV zZC 5 zmX3_take 1 1 155) := s_callVN (idx := 101) zcX3 calX3_take virX3_take dscX3_take (by decide +kernel) (zNW3 170 rfl rfl) (by decide +kernel)
theorem iX7_followAccess_155 : zSnd zZC zmX7_followAccess 155 (o_pop 156) := s_pop (by decide +kernel)
theorem iX7_followAccess_156 : zSnd zZC zmX7_followAccess 156 (o_aload 0 157) := s_aload_n (k := 0) (by decide +kernel) rfl
theorem iX7_followAccess_157 : zSnd zZC zmX7_followAccess 157 (o_getf zYC 7 1 160) := s_getf zcX7 fX7_19 (by decide +kernel) (by decide +kernel)
theorem iX7_followAccess_160 : zSnd zZC zmX7_followAccess 160 (o_iload 6 162) := s_iload (by decide +kernel)
set_option maxRecDepth 20000 in
theorem iX7_followAccess_162 : zSnd zZC zmX7_followAccess 162 (o_callV zZC 5 zmX3_leave 1 0 165) := s_callVN (idx := 133) zcX3 calX3_leave virX3_leave dscX3_leave (by decide +kernel) (zNW3 203 rfl rfl) (by decide +kernel)
theorem iX7_followAccess_165 : zSnd zZC zmX7_followAccess 165 (o_vret) := s_vret rfl (by decide +kernel)
def kX7_followAccess : List (Nat × zOp) := [(0, o_iload 1 1),
  (1, o_ic 40 3),
  (3, o_ibin (fun x y => x - y) 4),
  (4, o_istore 4 6),
  (6, o_aload 0 7),
  (7, o_getf zYC 7 1 10),
  (10, o_aload 0 11),
  (11, o_getf zYC 7 0 14),
  (14, o_getf zYC 2 11 17),
  (17, o_if0 (fun x => x ≤ 0) 24 20),
  (20, o_ic 1 21),
  (21, o_goto 25),
  (24, o_ic 0 25),
  (25, o_callV zZC 5 zmX3_demand 1 0 28),
  (28, o_aload 0 29),
  (29, o_getf zYC 7 1 32),
  (32, o_iload 4 34),
  (34, o_if0 (fun x => x < 0) 62 37),
  (37, o_iload 4 39),
  (39, o_gets zt_ACCESS_WIDTHS_k 42),
  (42, o_tlen zt_ACCESS_WIDTHS_n zt_ACCESS_WIDTHS_k 43),
  (43, o_icmp (fun x y => y ≤ x) 62 46),
  (46, o_lload 2 47),
  (47, o_gets zt_ACCESS_WIDTHS_k 50),
  (50, o_iload 4 52),
  (52, o_tald zt_ACCESS_WIDTHS_f zt_ACCESS_WIDTHS_n zt_ACCESS_WIDTHS_k 53),
  (53, o_i2l 54),
  (54, o_lif (fun x y => y < x) 62 58),
  (58, o_ic 1 59),
  (59, o_goto 63),
  (62, o_ic 0 63),
  (63, o_callV zZC 5 zmX3_demand 1 0 66),
  (66, o_iload 1 67),
  (67, o_ic 41 69),
  (69, o_icmp (fun x y => x = y) 96 72),
  (72, o_iload 1 73),
  (73, o_ic 48 75),
  (75, o_icmp (fun x y => x < y) 84 78),
  (78, o_iload 1 79),
  (79, o_ic 53 81),
  (81, o_icmp (fun x y => x ≤ y) 96 84),
  (84, o_iload 1 85),
  (85, o_ic 55 87),
  (87, o_icmp (fun x y => x = y) 96 90),
  (90, o_iload 1 91),
  (91, o_ic 60 93),
  (93, o_icmp (fun x y => x < y) 100 96),
  (96, o_ic 1 97),
  (97, o_goto 101),
  (100, o_ic 0 101),
  (101, o_istore 5 103),
  (103, o_iload 5 105),
  (105, o_if0 (fun x => x = 0) 113 108),
  (108, o_ic 126 110),
  (110, o_goto 115),
  (113, o_ic 127 115),
  (115, o_istore 6 117),
  (117, o_iload 1 118),
  (118, o_ic 54 120),
  (120, o_icmp (fun x y => x < y) 146 123),
  (123, o_aload 0 124),
  (124, o_getf zYC 7 1 127),
  (127, o_iload 6 129),
  (129, o_callV zZC 5 zmX3_take 1 1 132),
  (132, o_pop 133),
  (133, o_aload 0 134),
  (134, o_getf zYC 7 1 137),
  (137, o_ic 127 139),
  (139, o_callV zZC 5 zmX3_take 1 1 142),
  (142, o_pop 143),
  (143, o_goto 165),
  (146, o_aload 0 147),
  (147, o_getf zYC 7 1 150),
  (150, o_ic 127 152),
  (152, o_callV zZC 5 zmX3_take 1 1 155),
  (155, o_pop 156),
  (156, o_aload 0 157),
  (157, o_getf zYC 7 1 160),
  (160, o_iload 6 162),
  (162, o_callV zZC 5 zmX3_leave 1 0 165),
  (165, o_vret)]
set_option maxRecDepth 100000 in
theorem ksX7_followAccess : ∀ q ∈ kX7_followAccess, zSnd zZC zmX7_followAccess q.1 q.2 := zcc iX7_followAccess_0 (zcc iX7_followAccess_1 (zcc iX7_followAccess_3 (zcc iX7_followAccess_4 (zcc iX7_followAccess_6 (zcc iX7_followAccess_7 (zcc iX7_followAccess_10 (zcc iX7_followAccess_11 (zcc iX7_followAccess_14 (zcc iX7_followAccess_17 (zcc iX7_followAccess_20 (zcc iX7_followAccess_21 (zcc iX7_followAccess_24 (zcc iX7_followAccess_25 (zcc iX7_followAccess_28 (zcc iX7_followAccess_29 (zcc iX7_followAccess_32 (zcc iX7_followAccess_34 (zcc iX7_followAccess_37 (zcc iX7_followAccess_39 (zcc iX7_followAccess_42 (zcc iX7_followAccess_43 (zcc iX7_followAccess_46 (zcc iX7_followAccess_47 (zcc iX7_followAccess_50 (zcc iX7_followAccess_52 (zcc iX7_followAccess_53 (zcc iX7_followAccess_54 (zcc iX7_followAccess_58 (zcc iX7_followAccess_59 (zcc iX7_followAccess_62 (zcc iX7_followAccess_63 (zcc iX7_followAccess_66 (zcc iX7_followAccess_67 (zcc iX7_followAccess_69 (zcc iX7_followAccess_72 (zcc iX7_followAccess_73 (zcc iX7_followAccess_75 (zcc iX7_followAccess_78 (zcc iX7_followAccess_79 (zcc iX7_followAccess_81 (zcc iX7_followAccess_84 (zcc iX7_followAccess_85 (zcc iX7_followAccess_87 (zcc iX7_followAccess_90 (zcc iX7_followAccess_91 (zcc iX7_followAccess_93 (zcc iX7_followAccess_96 (zcc iX7_followAccess_97 (zcc iX7_followAccess_100 (zcc iX7_followAccess_101 (zcc iX7_followAccess_103 (zcc iX7_followAccess_105 (zcc iX7_followAccess_108 (zcc iX7_followAccess_110 (zcc iX7_followAccess_113 (zcc iX7_followAccess_115 (zcc iX7_followAccess_117 (zcc iX7_followAccess_118 (zcc iX7_followAccess_120 (zcc iX7_followAccess_123 (zcc iX7_followAccess_124 (zcc iX7_followAccess_127 (zcc iX7_followAccess_129 (zcc iX7_followAccess_132 (zcc iX7_followAccess_133 (zcc iX7_followAccess_134 (zcc iX7_followAccess_137 (zcc iX7_followAccess_139 (zcc iX7_followAccess_142 (zcc iX7_followAccess_143 (zcc iX7_followAccess_146 (zcc iX7_followAccess_147 (zcc iX7_followAccess_150 (zcc iX7_followAccess_152 (zcc iX7_followAccess_155 (zcc iX7_followAccess_156 (zcc iX7_followAccess_157 (zcc iX7_followAccess_160 (zcc iX7_followAccess_162 (zcc iX7_followAccess_165 zcn))))))))))))))))))))))))))))))))))))))))))))))))))))))))))))))))))))))))))))))))
theorem iX7_followCall_0 : zSnd zZC zmX7_followCall 0 (o_ic (-1) 1) := s_iconst (i := (-1)) (by decide +kernel) (by decide +kernel)
theorem iX7_followCall_1 : zSnd zZC zmX7_followCall 1 (o_istore 4 3) := s_istore (by decide +kernel) (by decide +kernel)
theorem iX7_followCall_3 : zSnd zZC zmX7_followCall 3 (o_iload 1 4) := s_iload_n (k := 1) (by decide +kernel) rfl
theorem iX7_followCall_4 : zSnd zZC zmX7_followCall 4 (o_ic 16 6) := s_bipush (i := 16) (by decide +kernel) (by decide +kernel)
theorem iX7_followCall_6 : zSnd zZC zmX7_followCall 6 (o_icmp (fun x y => x = y) 9 22) := s_icmp_ne (off := 16) (by decide +kernel) (by decide +kernel)
theorem iX7_followCall_9 : zSnd zZC zmX7_followCall 9 (o_aload 0 10) := s_aload_n (k := 0) (by decide +kernel) rfl
theorem iX7_followCall_10 : zSnd zZC zmX7_followCall 10 (o_getf zYC 7 0 13) := s_getf zcX7 fX7_15 (by decide +kernel) (by decide +kernel)
theorem iX7_followCall_13 : zSnd zZC zmX7_followCall 13 (o_lload 2 14) := s_lload_n (k := 2) (by decide +kernel) rfl
set_option maxRecDepth 20000 in
theorem iX7_followCall_14 : zSnd zZC zmX7_followCall 14 (o_callV zZC 2 zmX2_signatureOf 1 1 17) := s_callVN (idx := 136) zcX2 calX2_signatureOf virX2_signatureOf dscX2_signatureOf (by decide +kernel) (zNW3 211 rfl rfl) (by decide +kernel)
theorem iX7_followCall_17 : zSnd zZC zmX7_followCall 17 (o_istore 4 19) := s_istore (by decide +kernel) (by decide +kernel)
theorem iX7_followCall_19 : zSnd zZC zmX7_followCall 19 (o_goto 77) := s_goto (off := 58) (by decide +kernel) (by decide +kernel)
theorem iX7_followCall_22 : zSnd zZC zmX7_followCall 22 (o_aload 0 23) := s_aload_n (k := 0) (by decide +kernel) rfl
theorem iX7_followCall_23 : zSnd zZC zmX7_followCall 23 (o_getf zYC 7 1 26) := s_getf zcX7 fX7_19 (by decide +kernel) (by decide +kernel)
theorem iX7_followCall_26 : zSnd zZC zmX7_followCall 26 (o_aload 0 27) := s_aload_n (k := 0) (by decide +kernel) rfl
theorem iX7_followCall_27 : zSnd zZC zmX7_followCall 27 (o_getf zYC 7 0 30) := s_getf zcX7 fX7_15 (by decide +kernel) (by decide +kernel)
theorem iX7_followCall_30 : zSnd zZC zmX7_followCall 30 (o_getf zYC 2 10 33) := s_getf zcX2 fX7_139 (by decide +kernel) (by decide +kernel)
theorem iX7_followCall_33 : zSnd zZC zmX7_followCall 33 (o_if0 (fun x => x ≤ 0) 40 36) := s_if_le (off := 7) (by decide +kernel) (by decide +kernel)
theorem iX7_followCall_36 : zSnd zZC zmX7_followCall 36 (o_ic 1 37) := s_iconst (i := 1) (by decide +kernel) (by decide +kernel)
theorem iX7_followCall_37 : zSnd zZC zmX7_followCall 37 (o_goto 41) := s_goto (off := 4) (by decide +kernel) (by decide +kernel)
theorem iX7_followCall_40 : zSnd zZC zmX7_followCall 40 (o_ic 0 41) := s_iconst (i := 0) (by decide +kernel) (by decide +kernel)
set_option maxRecDepth 20000 in
theorem iX7_followCall_41 : zSnd zZC zmX7_followCall 41 (o_callV zZC 5 zmX3_demand 1 0 44) := s_callVN (idx := 111) zcX3 calX3_demand virX3_demand dscX3_demand (by decide +kernel) (zNW3 179 rfl rfl) (by decide +kernel)
theorem iX7_followCall_44 : zSnd zZC zmX7_followCall 44 (o_aload 0 45) := s_aload_n (k := 0) (by decide +kernel) rfl
theorem iX7_followCall_45 : zSnd zZC zmX7_followCall 45 (o_getf zYC 7 1 48) := s_getf zcX7 fX7_19 (by decide +kernel) (by decide +kernel)
theorem iX7_followCall_48 : zSnd zZC zmX7_followCall 48 (o_ic 127 50) := s_bipush (i := 127) (by decide +kernel) (by decide +kernel)
set_option maxRecDepth 20000 in
theorem iX7_followCall_50 : zSnd zZC zmX7_followCall 50 (o_callV zZC 5 zmX3_take 1 1 53) := s_callVN (idx := 101) zcX3 calX3_take virX3_take dscX3_take (by decide +kernel) (zNW3 170 rfl rfl) (by decide +kernel)
theorem iX7_followCall_53 : zSnd zZC zmX7_followCall 53 (o_pop 54) := s_pop (by decide +kernel)
theorem iX7_followCall_54 : zSnd zZC zmX7_followCall 54 (o_lload 2 55) := s_lload_n (k := 2) (by decide +kernel) rfl
theorem iX7_followCall_55 : zSnd zZC zmX7_followCall 55 (o_aload 0 56) := s_aload_n (k := 0) (by decide +kernel) rfl
theorem iX7_followCall_56 : zSnd zZC zmX7_followCall 56 (o_getf zYC 7 0 59) := s_getf zcX7 fX7_15 (by decide +kernel) (by decide +kernel)
theorem iX7_followCall_59 : zSnd zZC zmX7_followCall 59 (o_getf zYC 2 7 62) := s_getf zcX2 fX7_142 (by decide +kernel) (by decide +kernel)
theorem iX7_followCall_62 : zSnd zZC zmX7_followCall 62 (o_ic 1 63) := s_iconst (i := 1) (by decide +kernel) (by decide +kernel)
theorem iX7_followCall_63 : zSnd zZC zmX7_followCall 63 (o_ald zYC .int 64) := s_iald (by decide +kernel)
theorem iX7_followCall_64 : zSnd zZC zmX7_followCall 64 (o_i2l 65) := s_i2l (by decide +kernel)
theorem iX7_followCall_65 : zSnd zZC zmX7_followCall 65 (o_lif (fun x y => y ≤ x) 74 69) := s_lge (off := 8) (by decide +kernel) (by decide +kernel) (by decide +kernel)
theorem iX7_followCall_69 : zSnd zZC zmX7_followCall 69 (o_lload 2 70) := s_lload_n (k := 2) (by decide +kernel) rfl
theorem iX7_followCall_70 : zSnd zZC zmX7_followCall 70 (o_l2i 71) := s_l2i (by decide +kernel)
theorem iX7_followCall_71 : zSnd zZC zmX7_followCall 71 (o_goto 75) := s_goto (off := 4) (by decide +kernel) (by decide +kernel)
theorem iX7_followCall_74 : zSnd zZC zmX7_followCall 74 (o_ic (-1) 75) := s_iconst (i := (-1)) (by decide +kernel) (by decide +kernel)
theorem iX7_followCall_75 : zSnd zZC zmX7_followCall 75 (o_istore 4 77) := s_istore (by decide +kernel) (by decide +kernel)
theorem iX7_followCall_77 : zSnd zZC zmX7_followCall 77 (o_aload 0 78) := s_aload_n (k := 0) (by decide +kernel) rfl
theorem iX7_followCall_78 : zSnd zZC zmX7_followCall 78 (o_getf zYC 7 1 81) := s_getf zcX7 fX7_19 (by decide +kernel) (by decide +kernel)
theorem iX7_followCall_81 : zSnd zZC zmX7_followCall 81 (o_iload 4 83) := s_iload (by decide +kernel)
theorem iX7_followCall_83 : zSnd zZC zmX7_followCall 83 (o_if0 (fun x => x < 0) 90 86) := s_if_lt (off := 7) (by decide +kernel) (by decide +kernel)
theorem iX7_followCall_86 : zSnd zZC zmX7_followCall 86 (o_ic 1 87) := s_iconst (i := 1) (by decide +kernel) (by decide +kernel)
theorem iX7_followCall_87 : zSnd zZC zmX7_followCall 87 (o_goto 91) := s_goto (off := 4) (by decide +kernel) (by decide +kernel)
theorem iX7_followCall_90 : zSnd zZC zmX7_followCall 90 (o_ic 0 91) := s_iconst (i := 0) (by decide +kernel) (by decide +kernel)
set_option maxRecDepth 20000 in
theorem iX7_followCall_91 : zSnd zZC zmX7_followCall 91 (o_callV zZC 5 zmX3_demand 1 0 94) := s_callVN (idx := 111) zcX3 calX3_demand virX3_demand dscX3_demand (by decide +kernel) (zNW3 179 rfl rfl) (by decide +kernel)
theorem iX7_followCall_94 : zSnd zZC zmX7_followCall 94 (o_aload 0 95) := s_aload_n (k := 0) (by decide +kernel) rfl
theorem iX7_followCall_95 : zSnd zZC zmX7_followCall 95 (o_getf zYC 7 0 98) := s_getf zcX7 fX7_15 (by decide +kernel) (by decide +kernel)
theorem iX7_followCall_98 : zSnd zZC zmX7_followCall 98 (o_iload 4 100) := s_iload (by decide +kernel)
set_option maxRecDepth 20000 in
theorem iX7_followCall_100 : zSnd zZC zmX7_followCall 100 (o_callV zZC 2 zmX2_parameterCount 1 1 103) := s_callVN (idx := 39) zcX2 calX2_parameterCount virX2_parameterCount dscX2_parameterCount (by decide +kernel) (zNW3 90 rfl rfl) (by decide +kernel)
theorem iX7_followCall_103 : zSnd zZC zmX7_followCall 103 (o_ic 1 104) := s_iconst (i := 1) (by decide +kernel) (by decide +kernel)
theorem iX7_followCall_104 : zSnd zZC zmX7_followCall 104 (o_ibin (fun x y => x - y) 105) := s_isub (by decide +kernel)
theorem iX7_followCall_105 : zSnd zZC zmX7_followCall 105 (o_istore 5 107) := s_istore (by decide +kernel) (by decide +kernel)
theorem iX7_followCall_107 : zSnd zZC zmX7_followCall 107 (o_iload 5 109) := s_iload (by decide +kernel)
theorem iX7_followCall_109 : zSnd zZC zmX7_followCall 109 (o_if0 (fun x => x < 0) 137 112) := s_if_lt (off := 28) (by decide +kernel) (by decide +kernel)
theorem iX7_followCall_112 : zSnd zZC zmX7_followCall 112 (o_aload 0 113) := s_aload_n (k := 0) (by decide +kernel) rfl
theorem iX7_followCall_113 : zSnd zZC zmX7_followCall 113 (o_getf zYC 7 1 116) := s_getf zcX7 fX7_19 (by decide +kernel) (by decide +kernel)
theorem iX7_followCall_116 : zSnd zZC zmX7_followCall 116 (o_aload 0 117) := s_aload_n (k := 0) (by decide +kernel) rfl
theorem iX7_followCall_117 : zSnd zZC zmX7_followCall 117 (o_getf zYC 7 0 120) := s_getf zcX7 fX7_15 (by decide +kernel) (by decide +kernel)
theorem iX7_followCall_120 : zSnd zZC zmX7_followCall 120 (o_iload 4 122) := s_iload (by decide +kernel)
theorem iX7_followCall_122 : zSnd zZC zmX7_followCall 122 (o_iload 5 124) := s_iload (by decide +kernel)
set_option maxRecDepth 20000 in
theorem iX7_followCall_124 : zSnd zZC zmX7_followCall 124 (o_callV zZC 2 zmX2_parameter 2 1 127) := s_callVN (idx := 42) zcX2 calX2_parameter virX2_parameter dscX2_parameter (by decide +kernel) (zNW3 91 rfl rfl) (by decide +kernel)
set_option maxRecDepth 20000 in
theorem iX7_followCall_127 : zSnd zZC zmX7_followCall 127 (o_callV zZC 5 zmX3_take 1 1 130) := s_callVN (idx := 101) zcX3 calX3_take virX3_take dscX3_take (by decide +kernel) (zNW3 170 rfl rfl) (by decide +kernel)
theorem iX7_followCall_130 : zSnd zZC zmX7_followCall 130 (o_pop 131) := s_pop (by decide +kernel)
theorem iX7_followCall_131 : zSnd zZC zmX7_followCall 131 (o_iinc 5 (-1) 134) := s_iinc (a := (-1)) (by decide +kernel) (by decide +kernel) (by decide +kernel)
theorem iX7_followCall_134 : zSnd zZC zmX7_followCall 134 (o_goto 107) := s_goto (off := (-27)) (by decide +kernel) (by decide +kernel)
theorem iX7_followCall_137 : zSnd zZC zmX7_followCall 137 (o_aload 0 138) := s_aload_n (k := 0) (by decide +kernel) rfl
theorem iX7_followCall_138 : zSnd zZC zmX7_followCall 138 (o_getf zYC 7 1 141) := s_getf zcX7 fX7_19 (by decide +kernel) (by decide +kernel)
theorem iX7_followCall_141 : zSnd zZC zmX7_followCall 141 (o_aload 0 142) := s_aload_n (k := 0) (by decide +kernel) rfl
theorem iX7_followCall_142 : zSnd zZC zmX7_followCall 142 (o_getf zYC 7 0 145) := s_getf zcX7 fX7_15 (by decide +kernel) (by decide +kernel)
theorem iX7_followCall_145 : zSnd zZC zmX7_followCall 145 (o_iload 4 147) := s_iload (by decide +kernel)
set_option maxRecDepth 20000 in
theorem iX7_followCall_147 : zSnd zZC zmX7_followCall 147 (o_callV zZC 2 zmX2_resultOf 1 1 150) := s_callVN (idx := 23) zcX2 calX2_resultOf virX2_resultOf dscX2_resultOf (by decide +kernel) (zNW3 81 rfl rfl) (by decide +kernel)
set_option maxRecDepth 20000 in
theorem iX7_followCall_150 : zSnd zZC zmX7_followCall 150 (o_callV zZC 5 zmX3_leave 1 0 153) := s_callVN (idx := 133) zcX3 calX3_leave virX3_leave dscX3_leave (by decide +kernel) (zNW3 203 rfl rfl) (by decide +kernel)
theorem iX7_followCall_153 : zSnd zZC zmX7_followCall 153 (o_vret) := s_vret rfl (by decide +kernel)
def kX7_followCall : List (Nat × zOp) := [(0, o_ic (-1) 1),
  (1, o_istore 4 3),
  (3, o_iload 1 4),
  (4, o_ic 16 6),
  (6, o_icmp (fun x y => x = y) 9 22),
  (9, o_aload 0 10),
  (10, o_getf zYC 7 0 13),
  (13, o_lload 2 14),
  (14, o_callV zZC 2 zmX2_signatureOf 1 1 17),
  (17, o_istore 4 19),
  (19, o_goto 77),
  (22, o_aload 0 23),
  (23, o_getf zYC 7 1 26),
  (26, o_aload 0 27),
  (27, o_getf zYC 7 0 30),
  (30, o_getf zYC 2 10 33),
  (33, o_if0 (fun x => x ≤ 0) 40 36),
  (36, o_ic 1 37),
  (37, o_goto 41),
  (40, o_ic 0 41),
  (41, o_callV zZC 5 zmX3_demand 1 0 44),
  (44, o_aload 0 45),
  (45, o_getf zYC 7 1 48),
  (48, o_ic 127 50),
  (50, o_callV zZC 5 zmX3_take 1 1 53),
  (53, o_pop 54),
  (54, o_lload 2 55),
  (55, o_aload 0 56),
  (56, o_getf zYC 7 0 59),
  (59, o_getf zYC 2 7 62),
  (62, o_ic 1 63),
  (63, o_ald zYC .int 64),
  (64, o_i2l 65),
  (65, o_lif (fun x y => y ≤ x) 74 69),
  (69, o_lload 2 70),
  (70, o_l2i 71),
  (71, o_goto 75),
  (74, o_ic (-1) 75),
  (75, o_istore 4 77),
  (77, o_aload 0 78),
  (78, o_getf zYC 7 1 81),
  (81, o_iload 4 83),
  (83, o_if0 (fun x => x < 0) 90 86),
  (86, o_ic 1 87),
  (87, o_goto 91),
  (90, o_ic 0 91),
  (91, o_callV zZC 5 zmX3_demand 1 0 94),
  (94, o_aload 0 95),
  (95, o_getf zYC 7 0 98),
  (98, o_iload 4 100),
  (100, o_callV zZC 2 zmX2_parameterCount 1 1 103),
  (103, o_ic 1 104),
  (104, o_ibin (fun x y => x - y) 105),
  (105, o_istore 5 107),
  (107, o_iload 5 109),
  (109, o_if0 (fun x => x < 0) 137 112),
  (112, o_aload 0 113),
  (113, o_getf zYC 7 1 116),
  (116, o_aload 0 117),
  (117, o_getf zYC 7 0 120),
  (120, o_iload 4 122),
  (122, o_iload 5 124),
  (124, o_callV zZC 2 zmX2_parameter 2 1 127),
  (127, o_callV zZC 5 zmX3_take 1 1 130),
  (130, o_pop 131),
  (131, o_iinc 5 (-1) 134),
  (134, o_goto 107),
  (137, o_aload 0 138),
  (138, o_getf zYC 7 1 141),
  (141, o_aload 0 142),
  (142, o_getf zYC 7 0 145),
  (145, o_iload 4 147),
  (147, o_callV zZC 2 zmX2_resultOf 1 1 150),
  (150, o_callV zZC 5 zmX3_leave 1 0 153),
  (153, o_vret)]
set_option maxRecDepth 100000 in
theorem ksX7_followCall : ∀ q ∈ kX7_followCall, zSnd zZC zmX7_followCall q.1 q.2 := zcc iX7_followCall_0 (zcc iX7_followCall_1 (zcc iX7_followCall_3 (zcc iX7_followCall_4 (zcc iX7_followCall_6 (zcc iX7_followCall_9 (zcc iX7_followCall_10 (zcc iX7_followCall_13 (zcc iX7_followCall_14 (zcc iX7_followCall_17 (zcc iX7_followCall_19 (zcc iX7_followCall_22 (zcc iX7_followCall_23 (zcc iX7_followCall_26 (zcc iX7_followCall_27 (zcc iX7_followCall_30 (zcc iX7_followCall_33 (zcc iX7_followCall_36 (zcc iX7_followCall_37 (zcc iX7_followCall_40 (zcc iX7_followCall_41 (zcc iX7_followCall_44 (zcc iX7_followCall_45 (zcc iX7_followCall_48 (zcc iX7_followCall_50 (zcc iX7_followCall_53 (zcc iX7_followCall_54 (zcc iX7_followCall_55 (zcc iX7_followCall_56 (zcc iX7_followCall_59 (zcc iX7_followCall_62 (zcc iX7_followCall_63 (zcc iX7_followCall_64 (zcc iX7_followCall_65 (zcc iX7_followCall_69 (zcc iX7_followCall_70 (zcc iX7_followCall_71 (zcc iX7_followCall_74 (zcc iX7_followCall_75 (zcc iX7_followCall_77 (zcc iX7_followCall_78 (zcc iX7_followCall_81 (zcc iX7_followCall_83 (zcc iX7_followCall_86 (zcc iX7_followCall_87 (zcc iX7_followCall_90 (zcc iX7_followCall_91 (zcc iX7_followCall_94 (zcc iX7_followCall_95 (zcc iX7_followCall_98 (zcc iX7_followCall_100 (zcc iX7_followCall_103 (zcc iX7_followCall_104 (zcc iX7_followCall_105 (zcc iX7_followCall_107 (zcc iX7_followCall_109 (zcc iX7_followCall_112 (zcc iX7_followCall_113 (zcc iX7_followCall_116 (zcc iX7_followCall_117 (zcc iX7_followCall_120 (zcc iX7_followCall_122 (zcc iX7_followCall_124 (zcc iX7_followCall_127 (zcc iX7_followCall_130 (zcc iX7_followCall_131 (zcc iX7_followCall_134 (zcc iX7_followCall_137 (zcc iX7_followCall_138 (zcc iX7_followCall_141 (zcc iX7_followCall_142 (zcc iX7_followCall_145 (zcc iX7_followCall_147 (zcc iX7_followCall_150 (zcc iX7_followCall_153 zcn))))))))))))))))))))))))))))))))))))))))))))))))))))))))))))))))))))))))))
theorem iX7_followChoice_0 : zSnd zZC zmX7_followChoice 0 (o_iload 1 1) := s_iload_n (k := 1) (by decide +kernel) rfl
theorem iX7_followChoice_1 : zSnd zZC zmX7_followChoice 1 (o_ic 26 3) := s_bipush (i := 26) (by decide +kernel) (by decide +kernel)
theorem iX7_followChoice_3 : zSnd zZC zmX7_followChoice 3 (o_icmp (fun x y => x = y) 6 16) := s_icmp_ne (off := 13) (by decide +kernel) (by decide +kernel)
theorem iX7_followChoice_6 : zSnd zZC zmX7_followChoice 6 (o_aload 0 7) := s_aload_n (k := 0) (by decide +kernel) rfl
theorem iX7_followChoice_7 : zSnd zZC zmX7_followChoice 7 (o_getf zYC 7 1 10) := s_getf zcX7 fX7_19 (by decide +kernel) (by decide +kernel)
theorem iX7_followChoice_10 : zSnd zZC zmX7_followChoice 10 (o_ic 0 11) := s_iconst (i := 0) (by decide +kernel) (by decide +kernel)
set_option maxRecDepth 20000 in
theorem iX7_followChoice_11 : zSnd zZC zmX7_followChoice 11 (o_callV zZC 5 zmX3_take 1 1 14) := s_callVN (idx := 101) zcX3 calX3_take virX3_take dscX3_take (by decide +kernel) (zNW3 170 rfl rfl) (by decide +kernel)
theorem iX7_followChoice_14 : zSnd zZC zmX7_followChoice 14 (o_pop 15) := s_pop (by decide +kernel)
theorem iX7_followChoice_15 : zSnd zZC zmX7_followChoice 15 (o_vret) := s_vret rfl (by decide +kernel)
theorem iX7_followChoice_16 : zSnd zZC zmX7_followChoice 16 (o_aload 0 17) := s_aload_n (k := 0) (by decide +kernel) rfl
theorem iX7_followChoice_17 : zSnd zZC zmX7_followChoice 17 (o_getf zYC 7 1 20) := s_getf zcX7 fX7_19 (by decide +kernel) (by decide +kernel)
theorem iX7_followChoice_20 : zSnd zZC zmX7_followChoice 20 (o_ic 127 22) := s_bipush (i := 127) (by decide +kernel) (by decide +kernel)
set_option maxRecDepth 20000 in
theorem iX7_followChoice_22 : zSnd zZC zmX7_followChoice 22 (o_callV zZC 5 zmX3_take 1 1 25) := s_callVN (idx := 101) zcX3 calX3_take virX3_take dscX3_take (by decide +kernel) (zNW3 170 rfl rfl) (by decide +kernel)
theorem iX7_followChoice_25 : zSnd zZC zmX7_followChoice 25 (o_pop 26) := s_pop (by decide +kernel)
theorem iX7_followChoice_26 : zSnd zZC zmX7_followChoice 26 (o_aload 0 27) := s_aload_n (k := 0) (by decide +kernel) rfl
theorem iX7_followChoice_27 : zSnd zZC zmX7_followChoice 27 (o_getf zYC 7 1 30) := s_getf zcX7 fX7_19 (by decide +kernel) (by decide +kernel)
theorem iX7_followChoice_30 : zSnd zZC zmX7_followChoice 30 (o_ic 0 31) := s_iconst (i := 0) (by decide +kernel) (by decide +kernel)
set_option maxRecDepth 20000 in
theorem iX7_followChoice_31 : zSnd zZC zmX7_followChoice 31 (o_callV zZC 5 zmX3_take 1 1 34) := s_callVN (idx := 101) zcX3 calX3_take virX3_take dscX3_take (by decide +kernel) (zNW3 170 rfl rfl) (by decide +kernel)
theorem iX7_followChoice_34 : zSnd zZC zmX7_followChoice 34 (o_istore 2 35) := s_istore_n (k := 2) (by decide +kernel) rfl (by decide +kernel)
theorem iX7_followChoice_35 : zSnd zZC zmX7_followChoice 35 (o_aload 0 36) := s_aload_n (k := 0) (by decide +kernel) rfl
theorem iX7_followChoice_36 : zSnd zZC zmX7_followChoice 36 (o_getf zYC 7 1 39) := s_getf zcX7 fX7_19 (by decide +kernel) (by decide +kernel)
theorem iX7_followChoice_39 : zSnd zZC zmX7_followChoice 39 (o_ic 0 40) := s_iconst (i := 0) (by decide +kernel) (by decide +kernel)
set_option maxRecDepth 20000 in
theorem iX7_followChoice_40 : zSnd zZC zmX7_followChoice 40 (o_callV zZC 5 zmX3_take 1 1 43) := s_callVN (idx := 101) zcX3 calX3_take virX3_take dscX3_take (by decide +kernel) (zNW3 170 rfl rfl) (by decide +kernel)
theorem iX7_followChoice_43 : zSnd zZC zmX7_followChoice 43 (o_istore 3 44) := s_istore_n (k := 3) (by decide +kernel) rfl (by decide +kernel)
theorem iX7_followChoice_44 : zSnd zZC zmX7_followChoice 44 (o_aload 0 45) := s_aload_n (k := 0) (by decide +kernel) rfl
theorem iX7_followChoice_45 : zSnd zZC zmX7_followChoice 45 (o_getf zYC 7 1 48) := s_getf zcX7 fX7_19 (by decide +kernel) (by decide +kernel)
theorem iX7_followChoice_48 : zSnd zZC zmX7_followChoice 48 (o_iload 3 49) := s_iload_n (k := 3) (by decide +kernel) rfl
theorem iX7_followChoice_49 : zSnd zZC zmX7_followChoice 49 (o_iload 2 50) := s_iload_n (k := 2) (by decide +kernel) rfl
theorem iX7_followChoice_50 : zSnd zZC zmX7_followChoice 50 (o_icmp (fun x y => x = y) 61 53) := s_icmp_eq (off := 11) (by decide +kernel) (by decide +kernel)
theorem iX7_followChoice_53 : zSnd zZC zmX7_followChoice 53 (o_iload 3 54) := s_iload_n (k := 3) (by decide +kernel) rfl
theorem iX7_followChoice_54 : zSnd zZC zmX7_followChoice 54 (o_if0 (fun x => x = 0) 61 57) := s_if_eq (off := 7) (by decide +kernel) (by decide +kernel)
theorem iX7_followChoice_57 : zSnd zZC zmX7_followChoice 57 (o_iload 2 58) := s_iload_n (k := 2) (by decide +kernel) rfl
theorem iX7_followChoice_58 : zSnd zZC zmX7_followChoice 58 (o_if0 (fun x => x = 0) 61 65) := s_if_ne (off := 7) (by decide +kernel) (by decide +kernel)
theorem iX7_followChoice_61 : zSnd zZC zmX7_followChoice 61 (o_ic 1 62) := s_iconst (i := 1) (by decide +kernel) (by decide +kernel)
theorem iX7_followChoice_62 : zSnd zZC zmX7_followChoice 62 (o_goto 66) := s_goto (off := 4) (by decide +kernel) (by decide +kernel)
theorem iX7_followChoice_65 : zSnd zZC zmX7_followChoice 65 (o_ic 0 66) := s_iconst (i := 0) (by decide +kernel) (by decide +kernel)
set_option maxRecDepth 20000 in
theorem iX7_followChoice_66 : zSnd zZC zmX7_followChoice 66 (o_callV zZC 5 zmX3_demand 1 0 69) := s_callVN (idx := 111) zcX3 calX3_demand virX3_demand dscX3_demand (by decide +kernel) (zNW3 179 rfl rfl) (by decide +kernel)
theorem iX7_followChoice_69 : zSnd zZC zmX7_followChoice 69 (o_aload 0 70) := s_aload_n (k := 0) (by decide +kernel) rfl
theorem iX7_followChoice_70 : zSnd zZC zmX7_followChoice 70 (o_getf zYC 7 1 73) := s_getf zcX7 fX7_19 (by decide +kernel) (by decide +kernel)
theorem iX7_followChoice_73 : zSnd zZC zmX7_followChoice 73 (o_iload 3 74) := s_iload_n (k := 3) (by decide +kernel) rfl
theorem iX7_followChoice_74 : zSnd zZC zmX7_followChoice 74 (o_if0 (fun x => x = 0) 77 81) := s_if_ne (off := 7) (by decide +kernel) (by decide +kernel)
theorem iX7_followChoice_77 : zSnd zZC zmX7_followChoice 77 (o_iload 2 78) := s_iload_n (k := 2) (by decide +kernel) rfl
theorem iX7_followChoice_78 : zSnd zZC zmX7_followChoice 78 (o_goto 82) := s_goto (off := 4) (by decide +kernel) (by decide +kernel)
theorem iX7_followChoice_81 : zSnd zZC zmX7_followChoice 81 (o_iload 3 82) := s_iload_n (k := 3) (by decide +kernel) rfl
set_option maxRecDepth 20000 in
theorem iX7_followChoice_82 : zSnd zZC zmX7_followChoice 82 (o_callV zZC 5 zmX3_leave 1 0 85) := s_callVN (idx := 133) zcX3 calX3_leave virX3_leave dscX3_leave (by decide +kernel) (zNW3 203 rfl rfl) (by decide +kernel)
theorem iX7_followChoice_85 : zSnd zZC zmX7_followChoice 85 (o_vret) := s_vret rfl (by decide +kernel)
def kX7_followChoice : List (Nat × zOp) := [(0, o_iload 1 1),
  (1, o_ic 26 3),
  (3, o_icmp (fun x y => x = y) 6 16),
  (6, o_aload 0 7),
  (7, o_getf zYC 7 1 10),
  (10, o_ic 0 11),
  (11, o_callV zZC 5 zmX3_take 1 1 14),
  (14, o_pop 15),
  (15, o_vret),
  (16, o_aload 0 17),
  (17, o_getf zYC 7 1 20),
  (20, o_ic 127 22),
  (22, o_callV zZC 5 zmX3_take 1 1 25),
  (25, o_pop 26),
  (26, o_aload 0 27),
  (27, o_getf zYC 7 1 30),
  (30, o_ic 0 31),
  (31, o_callV zZC 5 zmX3_take 1 1 34),
  (34, o_istore 2 35),
  (35, o_aload 0 36),
  (36, o_getf zYC 7 1 39),
  (39, o_ic 0 40),
  (40, o_callV zZC 5 zmX3_take 1 1 43),
  (43, o_istore 3 44),
  (44, o_aload 0 45),
  (45, o_getf zYC 7 1 48),
  (48, o_iload 3 49),
  (49, o_iload 2 50),
  (50, o_icmp (fun x y => x = y) 61 53),
  (53, o_iload 3 54),
  (54, o_if0 (fun x => x = 0) 61 57),
  (57, o_iload 2 58),
  (58, o_if0 (fun x => x = 0) 61 65),
  (61, o_ic 1 62),
  (62, o_goto 66),
  (65, o_ic 0 66),
  (66, o_callV zZC 5 zmX3_demand 1 0 69),
  (69, o_aload 0 70),
  (70, o_getf zYC 7 1 73),
  (73, o_iload 3 74),
  (74, o_if0 (fun x => x = 0) 77 81),
  (77, o_iload 2 78),
  (78, o_goto 82),
  (81, o_iload 3 82),
  (82, o_callV zZC 5 zmX3_leave 1 0 85),
  (85, o_vret)]
set_option maxRecDepth 100000 in
theorem ksX7_followChoice : ∀ q ∈ kX7_followChoice, zSnd zZC zmX7_followChoice q.1 q.2 := zcc iX7_followChoice_0 (zcc iX7_followChoice_1 (zcc iX7_followChoice_3 (zcc iX7_followChoice_6 (zcc iX7_followChoice_7 (zcc iX7_followChoice_10 (zcc iX7_followChoice_11 (zcc iX7_followChoice_14 (zcc iX7_followChoice_15 (zcc iX7_followChoice_16 (zcc iX7_followChoice_17 (zcc iX7_followChoice_20 (zcc iX7_followChoice_22 (zcc iX7_followChoice_25 (zcc iX7_followChoice_26 (zcc iX7_followChoice_27 (zcc iX7_followChoice_30 (zcc iX7_followChoice_31 (zcc iX7_followChoice_34 (zcc iX7_followChoice_35 (zcc iX7_followChoice_36 (zcc iX7_followChoice_39 (zcc iX7_followChoice_40 (zcc iX7_followChoice_43 (zcc iX7_followChoice_44 (zcc iX7_followChoice_45 (zcc iX7_followChoice_48 (zcc iX7_followChoice_49 (zcc iX7_followChoice_50 (zcc iX7_followChoice_53 (zcc iX7_followChoice_54 (zcc iX7_followChoice_57 (zcc iX7_followChoice_58 (zcc iX7_followChoice_61 (zcc iX7_followChoice_62 (zcc iX7_followChoice_65 (zcc iX7_followChoice_66 (zcc iX7_followChoice_69 (zcc iX7_followChoice_70 (zcc iX7_followChoice_73 (zcc iX7_followChoice_74 (zcc iX7_followChoice_77 (zcc iX7_followChoice_78 (zcc iX7_followChoice_81 (zcc iX7_followChoice_82 (zcc iX7_followChoice_85 zcn)))))))))))))))))))))))))))))))))))))))))))))
theorem iX7_followFrame_0 : zSnd zZC zmX7_followFrame 0 (o_iload 1 1) := s_iload_n (k := 1) (by decide +kernel) rfl
theorem iX7_followFrame_1 : zSnd zZC zmX7_followFrame 1 (o_if0 (fun x => x = 0) 4 14) := s_if_ne (off := 13) (by decide +kernel) (by decide +kernel)
theorem iX7_followFrame_4 : zSnd zZC zmX7_followFrame 4 (o_aload 0 5) := s_aload_n (k := 0) (by decide +kernel) rfl
theorem iX7_followFrame_5 : zSnd zZC zmX7_followFrame 5 (o_getf zYC 7 1 8) := s_getf zcX7 fX7_19 (by decide +kernel) (by decide +kernel)
set_option maxRecDepth 20000 in
theorem iX7_followFrame_8 : zSnd zZC zmX7_followFrame 8 (o_callV zZC 5 zmX3_forget 0 0 11) := s_callVN (idx := 98) zcX3 calX3_forget virX3_forget dscX3_forget (by decide +kernel) (zNW3 166 rfl rfl) (by decide +kernel)
theorem iX7_followFrame_11 : zSnd zZC zmX7_followFrame 11 (o_goto 123) := s_goto (off := 112) (by decide +kernel) (by decide +kernel)
theorem iX7_followFrame_14 : zSnd zZC zmX7_followFrame 14 (o_iload 1 15) := s_iload_n (k := 1) (by decide +kernel) rfl
theorem iX7_followFrame_15 : zSnd zZC zmX7_followFrame 15 (o_ic 4 16) := s_iconst (i := 4) (by decide +kernel) (by decide +kernel)
theorem iX7_followFrame_16 : zSnd zZC zmX7_followFrame 16 (o_icmp (fun x y => x = y) 19 32) := s_icmp_ne (off := 16) (by decide +kernel) (by decide +kernel)
theorem iX7_followFrame_19 : zSnd zZC zmX7_followFrame 19 (o_aload 0 20) := s_aload_n (k := 0) (by decide +kernel) rfl
theorem iX7_followFrame_20 : zSnd zZC zmX7_followFrame 20 (o_getf zYC 7 1 23) := s_getf zcX7 fX7_19 (by decide +kernel) (by decide +kernel)
theorem iX7_followFrame_23 : zSnd zZC zmX7_followFrame 23 (o_ic 127 25) := s_bipush (i := 127) (by decide +kernel) (by decide +kernel)
set_option maxRecDepth 20000 in
theorem iX7_followFrame_25 : zSnd zZC zmX7_followFrame 25 (o_callV zZC 5 zmX3_take 1 1 28) := s_callVN (idx := 101) zcX3 calX3_take virX3_take dscX3_take (by decide +kernel) (zNW3 170 rfl rfl) (by decide +kernel)
theorem iX7_followFrame_28 : zSnd zZC zmX7_followFrame 28 (o_pop 29) := s_pop (by decide +kernel)
theorem iX7_followFrame_29 : zSnd zZC zmX7_followFrame 29 (o_goto 123) := s_goto (off := 94) (by decide +kernel) (by decide +kernel)
theorem iX7_followFrame_32 : zSnd zZC zmX7_followFrame 32 (o_iload 1 33) := s_iload_n (k := 1) (by decide +kernel) rfl
theorem iX7_followFrame_33 : zSnd zZC zmX7_followFrame 33 (o_ic 5 34) := s_iconst (i := 5) (by decide +kernel) (by decide +kernel)
theorem iX7_followFrame_34 : zSnd zZC zmX7_followFrame 34 (o_icmp (fun x y => x = y) 43 37) := s_icmp_eq (off := 9) (by decide +kernel) (by decide +kernel)
theorem iX7_followFrame_37 : zSnd zZC zmX7_followFrame 37 (o_iload 1 38) := s_iload_n (k := 1) (by decide +kernel) rfl
theorem iX7_followFrame_38 : zSnd zZC zmX7_followFrame 38 (o_ic 11 40) := s_bipush (i := 11) (by decide +kernel) (by decide +kernel)
theorem iX7_followFrame_40 : zSnd zZC zmX7_followFrame 40 (o_icmp (fun x y => x = y) 43 123) := s_icmp_ne (off := 83) (by decide +kernel) (by decide +kernel)
theorem iX7_followFrame_43 : zSnd zZC zmX7_followFrame 43 (o_iload 1 44) := s_iload_n (k := 1) (by decide +kernel) rfl
theorem iX7_followFrame_44 : zSnd zZC zmX7_followFrame 44 (o_ic 11 46) := s_bipush (i := 11) (by decide +kernel) (by decide +kernel)
theorem iX7_followFrame_46 : zSnd zZC zmX7_followFrame 46 (o_icmp (fun x y => x = y) 49 64) := s_icmp_ne (off := 18) (by decide +kernel) (by decide +kernel)
theorem iX7_followFrame_49 : zSnd zZC zmX7_followFrame 49 (o_aload 0 50) := s_aload_n (k := 0) (by decide +kernel) rfl
theorem iX7_followFrame_50 : zSnd zZC zmX7_followFrame 50 (o_getf zYC 7 1 53) := s_getf zcX7 fX7_19 (by decide +kernel) (by decide +kernel)
set_option maxRecDepth 20000 in
theorem iX7_followFrame_53 : zSnd zZC zmX7_followFrame 53 (o_callV zZC 5 zmX3_openedBy 0 1 56) := s_callVN (idx := 104) zcX3 calX3_openedBy virX3_openedBy dscX3_openedBy (by decide +kernel) (zNW3 174 rfl rfl) (by decide +kernel)
theorem iX7_followFrame_56 : zSnd zZC zmX7_followFrame 56 (o_ic 4 57) := s_iconst (i := 4) (by decide +kernel) (by decide +kernel)
theorem iX7_followFrame_57 : zSnd zZC zmX7_followFrame 57 (o_icmp (fun x y => x = y) 60 64) := s_icmp_ne (off := 7) (by decide +kernel) (by decide +kernel)
theorem iX7_followFrame_60 : zSnd zZC zmX7_followFrame 60 (o_ic 1 61) := s_iconst (i := 1) (by decide +kernel) (by decide +kernel)
theorem iX7_followFrame_61 : zSnd zZC zmX7_followFrame 61 (o_goto 65) := s_goto (off := 4) (by decide +kernel) (by decide +kernel)
theorem iX7_followFrame_64 : zSnd zZC zmX7_followFrame 64 (o_ic 0 65) := s_iconst (i := 0) (by decide +kernel) (by decide +kernel)
theorem iX7_followFrame_65 : zSnd zZC zmX7_followFrame 65 (o_istore 2 66) := s_istore_n (k := 2) (by decide +kernel) rfl (by decide +kernel)
theorem iX7_followFrame_66 : zSnd zZC zmX7_followFrame 66 (o_aload 0 67) := s_aload_n (k := 0) (by decide +kernel) rfl
theorem iX7_followFrame_67 : zSnd zZC zmX7_followFrame 67 (o_getf zYC 7 1 70) := s_getf zcX7 fX7_19 (by decide +kernel) (by decide +kernel)
theorem iX7_followFrame_70 : zSnd zZC zmX7_followFrame 70 (o_iload 2 71) := s_iload_n (k := 2) (by decide +kernel) rfl
theorem iX7_followFrame_71 : zSnd zZC zmX7_followFrame 71 (o_if0 (fun x => x = 0) 86 74) := s_if_eq (off := 15) (by decide +kernel) (by decide +kernel)
theorem iX7_followFrame_74 : zSnd zZC zmX7_followFrame 74 (o_aload 0 75) := s_aload_n (k := 0) (by decide +kernel) rfl
theorem iX7_followFrame_75 : zSnd zZC zmX7_followFrame 75 (o_getf zYC 7 1 78) := s_getf zcX7 fX7_19 (by decide +kernel) (by decide +kernel)
set_option maxRecDepth 20000 in
theorem iX7_followFrame_78 : zSnd zZC zmX7_followFrame 78 (o_callV zZC 5 zmX3_result 0 1 81) := s_callVN (idx := 108) zcX3 calX3_result virX3_result dscX3_result (by decide +kernel) (zNW3 175 rfl rfl) (by decide +kernel)
theorem iX7_followFrame_81 : zSnd zZC zmX7_followFrame 81 (o_ic 64 83) := s_bipush (i := 64) (by decide +kernel) (by decide +kernel)
theorem iX7_followFrame_83 : zSnd zZC zmX7_followFrame 83 (o_icmp (fun x y => x = y) 86 90) := s_icmp_ne (off := 7) (by decide +kernel) (by decide +kernel)
theorem iX7_followFrame_86 : zSnd zZC zmX7_followFrame 86 (o_ic 1 87) := s_iconst (i := 1) (by decide +kernel) (by decide +kernel)
theorem iX7_followFrame_87 : zSnd zZC zmX7_followFrame 87 (o_goto 91) := s_goto (off := 4) (by decide +kernel) (by decide +kernel)
theorem iX7_followFrame_90 : zSnd zZC zmX7_followFrame 90 (o_ic 0 91) := s_iconst (i := 0) (by decide +kernel) (by decide +kernel)
set_option maxRecDepth 20000 in
theorem iX7_followFrame_91 : zSnd zZC zmX7_followFrame 91 (o_callV zZC 5 zmX3_demand 1 0 94) := s_callVN (idx := 111) zcX3 calX3_demand virX3_demand dscX3_demand (by decide +kernel) (zNW3 179 rfl rfl) (by decide +kernel)
theorem iX7_followFrame_94 : zSnd zZC zmX7_followFrame 94 (o_aload 0 95) := s_aload_n (k := 0) (by decide +kernel) rfl
theorem iX7_followFrame_95 : zSnd zZC zmX7_followFrame 95 (o_getf zYC 7 1 98) := s_getf zcX7 fX7_19 (by decide +kernel) (by decide +kernel)
theorem iX7_followFrame_98 : zSnd zZC zmX7_followFrame 98 (o_aload 0 99) := s_aload_n (k := 0) (by decide +kernel) rfl
theorem iX7_followFrame_99 : zSnd zZC zmX7_followFrame 99 (o_getf zYC 7 1 102) := s_getf zcX7 fX7_19 (by decide +kernel) (by decide +kernel)
set_option maxRecDepth 20000 in
theorem iX7_followFrame_102 : zSnd zZC zmX7_followFrame 102 (o_callV zZC 5 zmX3_result 0 1 105) := s_callVN (idx := 108) zcX3 calX3_result virX3_result dscX3_result (by decide +kernel) (zNW3 175 rfl rfl) (by decide +kernel)
set_option maxRecDepth 20000 in
theorem iX7_followFrame_105 : zSnd zZC zmX7_followFrame 105 (o_callV zZC 5 zmX3_take 1 1 108) := s_callVN (idx := 101) zcX3 calX3_take virX3_take dscX3_take (by decide +kernel) (zNW3 170 rfl rfl) (by decide +kernel)
theorem iX7_followFrame_108 : zSnd zZC zmX7_followFrame 108 (o_pop 109) := s_pop (by decide +kernel)
theorem iX7_followFrame_109 : zSnd zZC zmX7_followFrame 109 (o_aload 0 110) := s_aload_n (k := 0) (by decide +kernel) rfl
theorem iX7_followFrame_110 : zSnd zZC zmX7_followFrame 110 (o_getf zYC 7 1 113) := s_getf zcX7 fX7_19 (by decide +kernel) (by decide +kernel)
theorem iX7_followFrame_113 : zSnd zZC zmX7_followFrame 113 (o_aload 0 114) := s_aload_n (k := 0) (by decide +kernel) rfl
theorem iX7_followFrame_114 : zSnd zZC zmX7_followFrame 114 (o_getf zYC 7 1 117) := s_getf zcX7 fX7_19 (by decide +kernel) (by decide +kernel)
set_option maxRecDepth 20000 in
theorem iX7_followFrame_117 : zSnd zZC zmX7_followFrame 117 (o_callV zZC 5 zmX3_isEmpty 0 1 120) := s_callVN (idx := 115) zcX3 calX3_isEmpty virX3_isEmpty dscX3_isEmpty (by decide +kernel) (zNW3 183 rfl rfl) (by decide +kernel)
set_option maxRecDepth 20000 in
theorem iX7_followFrame_120 : zSnd zZC zmX7_followFrame 120 (o_callV zZC 5 zmX3_demand 1 0 123) := s_callVN (idx := 111) zcX3 calX3_demand virX3_demand dscX3_demand (by decide +kernel) (zNW3 179 rfl rfl) (by decide +kernel)
theorem iX7_followFrame_123 : zSnd zZC zmX7_followFrame 123 (o_vret) := s_vret rfl (by decide +kernel)
def kX7_followFrame : List (Nat × zOp) := [(0, o_iload 1 1),
  (1, o_if0 (fun x => x = 0) 4 14),
  (4, o_aload 0 5),
  (5, o_getf zYC 7 1 8),
  (8, o_callV zZC 5 zmX3_forget 0 0 11),
  (11, o_goto 123),
  (14, o_iload 1 15),
  (15, o_ic 4 16),
  (16, o_icmp (fun x y => x = y) 19 32),
  (19, o_aload 0 20),
  (20, o_getf zYC 7 1 23),
  (23, o_ic 127 25),
  (25, o_callV zZC 5 zmX3_take 1 1 28),
  (28, o_pop 29),
  (29, o_goto 123),
  (32, o_iload 1 33),
  (33, o_ic 5 34),
  (34, o_icmp (fun x y => x = y) 43 37),
  (37, o_iload 1 38),
  (38, o_ic 11 40),
  (40, o_icmp (fun x y => x = y) 43 123),
  (43, o_iload 1 44),
  (44, o_ic 11 46),
  (46, o_icmp (fun x y => x = y) 49 64),
  (49, o_aload 0 50),
  (50, o_getf zYC 7 1 53),
  (53, o_callV zZC 5 zmX3_openedBy 0 1 56),
  (56, o_ic 4 57),
  (57, o_icmp (fun x y => x = y) 60 64),
  (60, o_ic 1 61),
  (61, o_goto 65),
  (64, o_ic 0 65),
  (65, o_istore 2 66),
  (66, o_aload 0 67),
  (67, o_getf zYC 7 1 70),
  (70, o_iload 2 71),
  (71, o_if0 (fun x => x = 0) 86 74),
  (74, o_aload 0 75),
  (75, o_getf zYC 7 1 78),
  (78, o_callV zZC 5 zmX3_result 0 1 81),
  (81, o_ic 64 83),
  (83, o_icmp (fun x y => x = y) 86 90),
  (86, o_ic 1 87),
  (87, o_goto 91),
  (90, o_ic 0 91),
  (91, o_callV zZC 5 zmX3_demand 1 0 94),
  (94, o_aload 0 95),
  (95, o_getf zYC 7 1 98),
  (98, o_aload 0 99),
  (99, o_getf zYC 7 1 102),
  (102, o_callV zZC 5 zmX3_result 0 1 105),
  (105, o_callV zZC 5 zmX3_take 1 1 108),
  (108, o_pop 109),
  (109, o_aload 0 110),
  (110, o_getf zYC 7 1 113),
  (113, o_aload 0 114),
  (114, o_getf zYC 7 1 117),
  (117, o_callV zZC 5 zmX3_isEmpty 0 1 120),
  (120, o_callV zZC 5 zmX3_demand 1 0 123),
  (123, o_vret)]
set_option maxRecDepth 100000 in
theorem ksX7_followFrame : ∀ q ∈ kX7_followFrame, zSnd zZC zmX7_followFrame q.1 q.2 := zcc iX7_followFrame_0 (zcc iX7_followFrame_1 (zcc iX7_followFrame_4 (zcc iX7_followFrame_5 (zcc iX7_followFrame_8 (zcc iX7_followFrame_11 (zcc iX7_followFrame_14 (zcc iX7_followFrame_15 (zcc iX7_followFrame_16 (zcc iX7_followFrame_19 (zcc iX7_followFrame_20 (zcc iX7_followFrame_23 (zcc iX7_followFrame_25 (zcc iX7_followFrame_28 (zcc iX7_followFrame_29 (zcc iX7_followFrame_32 (zcc iX7_followFrame_33 (zcc iX7_followFrame_34 (zcc iX7_followFrame_37 (zcc iX7_followFrame_38 (zcc iX7_followFrame_40 (zcc iX7_followFrame_43 (zcc iX7_followFrame_44 (zcc iX7_followFrame_46 (zcc iX7_followFrame_49 (zcc iX7_followFrame_50 (zcc iX7_followFrame_53 (zcc iX7_followFrame_56 (zcc iX7_followFrame_57 (zcc iX7_followFrame_60 (zcc iX7_followFrame_61 (zcc iX7_followFrame_64 (zcc iX7_followFrame_65 (zcc iX7_followFrame_66 (zcc iX7_followFrame_67 (zcc iX7_followFrame_70 (zcc iX7_followFrame_71 (zcc iX7_followFrame_74 (zcc iX7_followFrame_75 (zcc iX7_followFrame_78 (zcc iX7_followFrame_81 (zcc iX7_followFrame_83 (zcc iX7_followFrame_86 (zcc iX7_followFrame_87 (zcc iX7_followFrame_90 (zcc iX7_followFrame_91 (zcc iX7_followFrame_94 (zcc iX7_followFrame_95 (zcc iX7_followFrame_98 (zcc iX7_followFrame_99 (zcc iX7_followFrame_102 (zcc iX7_followFrame_105 (zcc iX7_followFrame_108 (zcc iX7_followFrame_109 (zcc iX7_followFrame_110 (zcc iX7_followFrame_113 (zcc iX7_followFrame_114 (zcc iX7_followFrame_117 (zcc iX7_followFrame_120 (zcc iX7_followFrame_123 zcn)))))))))))))))))))))))))))))))))))))))))))))))))))))))))))
theorem iX7_followGlobal_0 : zSnd zZC zmX7_followGlobal 0 (o_lload 2 1) := s_lload_n (k := 2) (by decide +kernel) rfl
theorem iX7_followGlobal_1 : zSnd zZC zmX7_followGlobal 1 (o_lc 0 2) := s_lconst (i := 0) (by decide +kernel) (by decide +kernel)
theorem iX7_followGlobal_2 : zSnd zZC zmX7_followGlobal 2 (o_lif (fun x y => x < y) 19 6) := s_llt (off := 16) (by decide +kernel) (by decide +kernel) (by decide +kernel)
theorem iX7_followGlobal_6 : zSnd zZC zmX7_followGlobal 6 (o_lload 2 7) := s_lload_n (k := 2) (by decide +kernel) rfl
theorem iX7_followGlobal_7 : zSnd zZC zmX7_followGlobal 7 (o_aload 0 8) := s_aload_n (k := 0) (by decide +kernel) rfl
theorem iX7_followGlobal_8 : zSnd zZC zmX7_followGlobal 8 (o_getf zYC 7 0 11) := s_getf zcX7 fX7_15 (by decide +kernel) (by decide +kernel)
theorem iX7_followGlobal_11 : zSnd zZC zmX7_followGlobal 11 (o_getf zYC 2 12 14) := s_getf zcX2 fX7_145 (by decide +kernel) (by decide +kernel)
theorem iX7_followGlobal_14 : zSnd zZC zmX7_followGlobal 14 (o_i2l 15) := s_i2l (by decide +kernel)
theorem iX7_followGlobal_15 : zSnd zZC zmX7_followGlobal 15 (o_lif (fun x y => x < y) 28 19) := s_llt (off := 12) (by decide +kernel) (by decide +kernel) (by decide +kernel)
theorem iX7_followGlobal_19 : zSnd zZC zmX7_followGlobal 19 (o_aload 0 20) := s_aload_n (k := 0) (by decide +kernel) rfl
theorem iX7_followGlobal_20 : zSnd zZC zmX7_followGlobal 20 (o_getf zYC 7 1 23) := s_getf zcX7 fX7_19 (by decide +kernel) (by decide +kernel)
theorem iX7_followGlobal_23 : zSnd zZC zmX7_followGlobal 23 (o_ic 0 24) := s_iconst (i := 0) (by decide +kernel) (by decide +kernel)
set_option maxRecDepth 20000 in
theorem iX7_followGlobal_24 : zSnd zZC zmX7_followGlobal 24 (o_callV zZC 5 zmX3_demand 1 0 27) := s_callVN (idx := 111) zcX3 calX3_demand virX3_demand dscX3_demand (by decide +kernel) (zNW3 179 rfl rfl) (by decide +kernel)
theorem iX7_followGlobal_27 : zSnd zZC zmX7_followGlobal 27 (o_vret) := s_vret rfl (by decide +kernel)
theorem iX7_followGlobal_28 : zSnd zZC zmX7_followGlobal 28 (o_aload 0 29) := s_aload_n (k := 0) (by decide +kernel) rfl
theorem iX7_followGlobal_29 : zSnd zZC zmX7_followGlobal 29 (o_getf zYC 7 0 32) := s_getf zcX7 fX7_15 (by decide +kernel) (by decide +kernel)
theorem iX7_followGlobal_32 : zSnd zZC zmX7_followGlobal 32 (o_lload 2 33) := s_lload_n (k := 2) (by decide +kernel) rfl
theorem iX7_followGlobal_33 : zSnd zZC zmX7_followGlobal 33 (o_l2i 34) := s_l2i (by decide +kernel)
set_option maxRecDepth 20000 in
theorem iX7_followGlobal_34 : zSnd zZC zmX7_followGlobal 34 (o_callV zZC 2 zmX2_typeOfGlobal 1 1 37) := s_callVN (idx := 148) zcX2 calX2_typeOfGlobal virX2_typeOfGlobal dscX2_typeOfGlobal (by decide +kernel) (zNW3 224 rfl rfl) (by decide +kernel)
theorem iX7_followGlobal_37 : zSnd zZC zmX7_followGlobal 37 (o_istore 4 39) := s_istore (by decide +kernel) (by decide +kernel)
theorem iX7_followGlobal_39 : zSnd zZC zmX7_followGlobal 39 (o_iload 1 40) := s_iload_n (k := 1) (by decide +kernel) rfl
theorem iX7_followGlobal_40 : zSnd zZC zmX7_followGlobal 40 (o_ic 35 42) := s_bipush (i := 35) (by decide +kernel) (by decide +kernel)
theorem iX7_followGlobal_42 : zSnd zZC zmX7_followGlobal 42 (o_icmp (fun x y => x = y) 45 57) := s_icmp_ne (off := 15) (by decide +kernel) (by decide +kernel)
theorem iX7_followGlobal_45 : zSnd zZC zmX7_followGlobal 45 (o_aload 0 46) := s_aload_n (k := 0) (by decide +kernel) rfl
theorem iX7_followGlobal_46 : zSnd zZC zmX7_followGlobal 46 (o_getf zYC 7 1 49) := s_getf zcX7 fX7_19 (by decide +kernel) (by decide +kernel)
theorem iX7_followGlobal_49 : zSnd zZC zmX7_followGlobal 49 (o_iload 4 51) := s_iload (by decide +kernel)
set_option maxRecDepth 20000 in
theorem iX7_followGlobal_51 : zSnd zZC zmX7_followGlobal 51 (o_callV zZC 5 zmX3_leave 1 0 54) := s_callVN (idx := 133) zcX3 calX3_leave virX3_leave dscX3_leave (by decide +kernel) (zNW3 203 rfl rfl) (by decide +kernel)
theorem iX7_followGlobal_54 : zSnd zZC zmX7_followGlobal 54 (o_goto 83) := s_goto (off := 29) (by decide +kernel) (by decide +kernel)
theorem iX7_followGlobal_57 : zSnd zZC zmX7_followGlobal 57 (o_aload 0 58) := s_aload_n (k := 0) (by decide +kernel) rfl
theorem iX7_followGlobal_58 : zSnd zZC zmX7_followGlobal 58 (o_getf zYC 7 1 61) := s_getf zcX7 fX7_19 (by decide +kernel) (by decide +kernel)
theorem iX7_followGlobal_61 : zSnd zZC zmX7_followGlobal 61 (o_aload 0 62) := s_aload_n (k := 0) (by decide +kernel) rfl
theorem iX7_followGlobal_62 : zSnd zZC zmX7_followGlobal 62 (o_getf zYC 7 0 65) := s_getf zcX7 fX7_15 (by decide +kernel) (by decide +kernel)
theorem iX7_followGlobal_65 : zSnd zZC zmX7_followGlobal 65 (o_lload 2 66) := s_lload_n (k := 2) (by decide +kernel) rfl
theorem iX7_followGlobal_66 : zSnd zZC zmX7_followGlobal 66 (o_l2i 67) := s_l2i (by decide +kernel)
set_option maxRecDepth 20000 in
theorem iX7_followGlobal_67 : zSnd zZC zmX7_followGlobal 67 (o_callV zZC 2 zmX2_changesGlobal 1 1 70) := s_callVN (idx := 151) zcX2 calX2_changesGlobal virX2_changesGlobal dscX2_changesGlobal (by decide +kernel) (zNW3 225 rfl rfl) (by decide +kernel)
set_option maxRecDepth 20000 in
theorem iX7_followGlobal_70 : zSnd zZC zmX7_followGlobal 70 (o_callV zZC 5 zmX3_demand 1 0 73) := s_callVN (idx := 111) zcX3 calX3_demand virX3_demand dscX3_demand (by decide +kernel) (zNW3 179 rfl rfl) (by decide +kernel)
theorem iX7_followGlobal_73 : zSnd zZC zmX7_followGlobal 73 (o_aload 0 74) := s_aload_n (k := 0) (by decide +kernel) rfl
theorem iX7_followGlobal_74 : zSnd zZC zmX7_followGlobal 74 (o_getf zYC 7 1 77) := s_getf zcX7 fX7_19 (by decide +kernel) (by decide +kernel)
theorem iX7_followGlobal_77 : zSnd zZC zmX7_followGlobal 77 (o_iload 4 79) := s_iload (by decide +kernel)
set_option maxRecDepth 20000 in
theorem iX7_followGlobal_79 : zSnd zZC zmX7_followGlobal 79 (o_callV zZC 5 zmX3_take 1 1 82) := s_callVN (idx := 101) zcX3 calX3_take virX3_take dscX3_take (by decide +kernel) (zNW3 170 rfl rfl) (by decide +kernel)
theorem iX7_followGlobal_82 : zSnd zZC zmX7_followGlobal 82 (o_pop 83) := s_pop (by decide +kernel)
theorem iX7_followGlobal_83 : zSnd zZC zmX7_followGlobal 83 (o_vret) := s_vret rfl (by decide +kernel)
def kX7_followGlobal : List (Nat × zOp) := [(0, o_lload 2 1),
  (1, o_lc 0 2),
  (2, o_lif (fun x y => x < y) 19 6),
  (6, o_lload 2 7),
  (7, o_aload 0 8),
  (8, o_getf zYC 7 0 11),
  (11, o_getf zYC 2 12 14),
  (14, o_i2l 15),
  (15, o_lif (fun x y => x < y) 28 19),
  (19, o_aload 0 20),
  (20, o_getf zYC 7 1 23),
  (23, o_ic 0 24),
  (24, o_callV zZC 5 zmX3_demand 1 0 27),
  (27, o_vret),
  (28, o_aload 0 29),
  (29, o_getf zYC 7 0 32),
  (32, o_lload 2 33),
  (33, o_l2i 34),
  (34, o_callV zZC 2 zmX2_typeOfGlobal 1 1 37),
  (37, o_istore 4 39),
  (39, o_iload 1 40),
  (40, o_ic 35 42),
  (42, o_icmp (fun x y => x = y) 45 57),
  (45, o_aload 0 46),
  (46, o_getf zYC 7 1 49),
  (49, o_iload 4 51),
  (51, o_callV zZC 5 zmX3_leave 1 0 54),
  (54, o_goto 83),
  (57, o_aload 0 58),
  (58, o_getf zYC 7 1 61),
  (61, o_aload 0 62),
  (62, o_getf zYC 7 0 65),
  (65, o_lload 2 66),
  (66, o_l2i 67),
  (67, o_callV zZC 2 zmX2_changesGlobal 1 1 70),
  (70, o_callV zZC 5 zmX3_demand 1 0 73),
  (73, o_aload 0 74),
  (74, o_getf zYC 7 1 77),
  (77, o_iload 4 79),
  (79, o_callV zZC 5 zmX3_take 1 1 82),
  (82, o_pop 83),
  (83, o_vret)]
set_option maxRecDepth 100000 in
theorem ksX7_followGlobal : ∀ q ∈ kX7_followGlobal, zSnd zZC zmX7_followGlobal q.1 q.2 := zcc iX7_followGlobal_0 (zcc iX7_followGlobal_1 (zcc iX7_followGlobal_2 (zcc iX7_followGlobal_6 (zcc iX7_followGlobal_7 (zcc iX7_followGlobal_8 (zcc iX7_followGlobal_11 (zcc iX7_followGlobal_14 (zcc iX7_followGlobal_15 (zcc iX7_followGlobal_19 (zcc iX7_followGlobal_20 (zcc iX7_followGlobal_23 (zcc iX7_followGlobal_24 (zcc iX7_followGlobal_27 (zcc iX7_followGlobal_28 (zcc iX7_followGlobal_29 (zcc iX7_followGlobal_32 (zcc iX7_followGlobal_33 (zcc iX7_followGlobal_34 (zcc iX7_followGlobal_37 (zcc iX7_followGlobal_39 (zcc iX7_followGlobal_40 (zcc iX7_followGlobal_42 (zcc iX7_followGlobal_45 (zcc iX7_followGlobal_46 (zcc iX7_followGlobal_49 (zcc iX7_followGlobal_51 (zcc iX7_followGlobal_54 (zcc iX7_followGlobal_57 (zcc iX7_followGlobal_58 (zcc iX7_followGlobal_61 (zcc iX7_followGlobal_62 (zcc iX7_followGlobal_65 (zcc iX7_followGlobal_66 (zcc iX7_followGlobal_67 (zcc iX7_followGlobal_70 (zcc iX7_followGlobal_73 (zcc iX7_followGlobal_74 (zcc iX7_followGlobal_77 (zcc iX7_followGlobal_79 (zcc iX7_followGlobal_82 (zcc iX7_followGlobal_83 zcn)))))))))))))))))))))))))))))))))))))))))
theorem iX7_followLeap_0 : zSnd zZC zmX7_followLeap 0 (o_iload 1 1) := s_iload_n (k := 1) (by decide +kernel) rfl
theorem iX7_followLeap_1 : zSnd zZC zmX7_followLeap 1 (o_ic 15 3) := s_bipush (i := 15) (by decide +kernel) (by decide +kernel)
theorem iX7_followLeap_3 : zSnd zZC zmX7_followLeap 3 (o_icmp (fun x y => x = y) 6 29) := s_icmp_ne (off := 26) (by decide +kernel) (by decide +kernel)
theorem iX7_followLeap_6 : zSnd zZC zmX7_followLeap 6 (o_aload 0 7) := s_aload_n (k := 0) (by decide +kernel) rfl
theorem iX7_followLeap_7 : zSnd zZC zmX7_followLeap 7 (o_getf zYC 7 1 10) := s_getf zcX7 fX7_19 (by decide +kernel) (by decide +kernel)
theorem iX7_followLeap_10 : zSnd zZC zmX7_followLeap 10 (o_aload 0 11) := s_aload_n (k := 0) (by decide +kernel) rfl
theorem iX7_followLeap_11 : zSnd zZC zmX7_followLeap 11 (o_getf zYC 7 1 14) := s_getf zcX7 fX7_19 (by decide +kernel) (by decide +kernel)
set_option maxRecDepth 20000 in
theorem iX7_followLeap_14 : zSnd zZC zmX7_followLeap 14 (o_callV zZC 5 zmX3_bodyResult 0 1 17) := s_callVN (idx := 130) zcX3 calX3_bodyResult virX3_bodyResult dscX3_bodyResult (by decide +kernel) (zNW3 199 rfl rfl) (by decide +kernel)
set_option maxRecDepth 20000 in
theorem iX7_followLeap_17 : zSnd zZC zmX7_followLeap 17 (o_callV zZC 5 zmX3_take 1 1 20) := s_callVN (idx := 101) zcX3 calX3_take virX3_take dscX3_take (by decide +kernel) (zNW3 170 rfl rfl) (by decide +kernel)
theorem iX7_followLeap_20 : zSnd zZC zmX7_followLeap 20 (o_pop 21) := s_pop (by decide +kernel)
theorem iX7_followLeap_21 : zSnd zZC zmX7_followLeap 21 (o_aload 0 22) := s_aload_n (k := 0) (by decide +kernel) rfl
theorem iX7_followLeap_22 : zSnd zZC zmX7_followLeap 22 (o_getf zYC 7 1 25) := s_getf zcX7 fX7_19 (by decide +kernel) (by decide +kernel)
set_option maxRecDepth 20000 in
theorem iX7_followLeap_25 : zSnd zZC zmX7_followLeap 25 (o_callV zZC 5 zmX3_forget 0 0 28) := s_callVN (idx := 98) zcX3 calX3_forget virX3_forget dscX3_forget (by decide +kernel) (zNW3 166 rfl rfl) (by decide +kernel)
theorem iX7_followLeap_28 : zSnd zZC zmX7_followLeap 28 (o_vret) := s_vret rfl (by decide +kernel)
theorem iX7_followLeap_29 : zSnd zZC zmX7_followLeap 29 (o_aload 0 30) := s_aload_n (k := 0) (by decide +kernel) rfl
theorem iX7_followLeap_30 : zSnd zZC zmX7_followLeap 30 (o_getf zYC 7 1 33) := s_getf zcX7 fX7_19 (by decide +kernel) (by decide +kernel)
theorem iX7_followLeap_33 : zSnd zZC zmX7_followLeap 33 (o_lload 2 34) := s_lload_n (k := 2) (by decide +kernel) rfl
set_option maxRecDepth 20000 in
theorem iX7_followLeap_34 : zSnd zZC zmX7_followLeap 34 (o_callV zZC 5 zmX3_labelType 1 1 37) := s_callVN (idx := 126) zcX3 calX3_labelType virX3_labelType dscX3_labelType (by decide +kernel) (zNW3 191 rfl rfl) (by decide +kernel)
theorem iX7_followLeap_37 : zSnd zZC zmX7_followLeap 37 (o_istore 4 39) := s_istore (by decide +kernel) (by decide +kernel)
theorem iX7_followLeap_39 : zSnd zZC zmX7_followLeap 39 (o_iload 1 40) := s_iload_n (k := 1) (by decide +kernel) rfl
theorem iX7_followLeap_40 : zSnd zZC zmX7_followLeap 40 (o_ic 13 42) := s_bipush (i := 13) (by decide +kernel) (by decide +kernel)
theorem iX7_followLeap_42 : zSnd zZC zmX7_followLeap 42 (o_icmp (fun x y => x = y) 45 77) := s_icmp_ne (off := 35) (by decide +kernel) (by decide +kernel)
theorem iX7_followLeap_45 : zSnd zZC zmX7_followLeap 45 (o_aload 0 46) := s_aload_n (k := 0) (by decide +kernel) rfl
theorem iX7_followLeap_46 : zSnd zZC zmX7_followLeap 46 (o_getf zYC 7 1 49) := s_getf zcX7 fX7_19 (by decide +kernel) (by decide +kernel)
theorem iX7_followLeap_49 : zSnd zZC zmX7_followLeap 49 (o_ic 127 51) := s_bipush (i := 127) (by decide +kernel) (by decide +kernel)
set_option maxRecDepth 20000 in
theorem iX7_followLeap_51 : zSnd zZC zmX7_followLeap 51 (o_callV zZC 5 zmX3_take 1 1 54) := s_callVN (idx := 101) zcX3 calX3_take virX3_take dscX3_take (by decide +kernel) (zNW3 170 rfl rfl) (by decide +kernel)
theorem iX7_followLeap_54 : zSnd zZC zmX7_followLeap 54 (o_pop 55) := s_pop (by decide +kernel)
theorem iX7_followLeap_55 : zSnd zZC zmX7_followLeap 55 (o_aload 0 56) := s_aload_n (k := 0) (by decide +kernel) rfl
theorem iX7_followLeap_56 : zSnd zZC zmX7_followLeap 56 (o_getf zYC 7 1 59) := s_getf zcX7 fX7_19 (by decide +kernel) (by decide +kernel)
theorem iX7_followLeap_59 : zSnd zZC zmX7_followLeap 59 (o_iload 4 61) := s_iload (by decide +kernel)
set_option maxRecDepth 20000 in
theorem iX7_followLeap_61 : zSnd zZC zmX7_followLeap 61 (o_callV zZC 5 zmX3_take 1 1 64) := s_callVN (idx := 101) zcX3 calX3_take virX3_take dscX3_take (by decide +kernel) (zNW3 170 rfl rfl) (by decide +kernel)
theorem iX7_followLeap_64 : zSnd zZC zmX7_followLeap 64 (o_pop 65) := s_pop (by decide +kernel)
theorem iX7_followLeap_65 : zSnd zZC zmX7_followLeap 65 (o_aload 0 66) := s_aload_n (k := 0) (by decide +kernel) rfl
theorem iX7_followLeap_66 : zSnd zZC zmX7_followLeap 66 (o_getf zYC 7 1 69) := s_getf zcX7 fX7_19 (by decide +kernel) (by decide +kernel)
theorem iX7_followLeap_69 : zSnd zZC zmX7_followLeap 69 (o_iload 4 71) := s_iload (by decide +kernel)
set_option maxRecDepth 20000 in
theorem iX7_followLeap_71 : zSnd zZC zmX7_followLeap 71 (o_callV zZC 5 zmX3_leave 1 0 74) := s_callVN (idx := 133) zcX3 calX3_leave virX3_leave dscX3_leave (by decide +kernel) (zNW3 203 rfl rfl) (by decide +kernel)
theorem iX7_followLeap_74 : zSnd zZC zmX7_followLeap 74 (o_goto 94) := s_goto (off := 20) (by decide +kernel) (by decide +kernel)
theorem iX7_followLeap_77 : zSnd zZC zmX7_followLeap 77 (o_aload 0 78) := s_aload_n (k := 0) (by decide +kernel) rfl
theorem iX7_followLeap_78 : zSnd zZC zmX7_followLeap 78 (o_getf zYC 7 1 81) := s_getf zcX7 fX7_19 (by decide +kernel) (by decide +kernel)
theorem iX7_followLeap_81 : zSnd zZC zmX7_followLeap 81 (o_iload 4 83) := s_iload (by decide +kernel)
set_option maxRecDepth 20000 in
theorem iX7_followLeap_83 : zSnd zZC zmX7_followLeap 83 (o_callV zZC 5 zmX3_take 1 1 86) := s_callVN (idx := 101) zcX3 calX3_take virX3_take dscX3_take (by decide +kernel) (zNW3 170 rfl rfl) (by decide +kernel)
theorem iX7_followLeap_86 : zSnd zZC zmX7_followLeap 86 (o_pop 87) := s_pop (by decide +kernel)
theorem iX7_followLeap_87 : zSnd zZC zmX7_followLeap 87 (o_aload 0 88) := s_aload_n (k := 0) (by decide +kernel) rfl
theorem iX7_followLeap_88 : zSnd zZC zmX7_followLeap 88 (o_getf zYC 7 1 91) := s_getf zcX7 fX7_19 (by decide +kernel) (by decide +kernel)
set_option maxRecDepth 20000 in
theorem iX7_followLeap_91 : zSnd zZC zmX7_followLeap 91 (o_callV zZC 5 zmX3_forget 0 0 94) := s_callVN (idx := 98) zcX3 calX3_forget virX3_forget dscX3_forget (by decide +kernel) (zNW3 166 rfl rfl) (by decide +kernel)
theorem iX7_followLeap_94 : zSnd zZC zmX7_followLeap 94 (o_vret) := s_vret rfl (by decide +kernel)
def kX7_followLeap : List (Nat × zOp) := [(0, o_iload 1 1),
  (1, o_ic 15 3),
  (3, o_icmp (fun x y => x = y) 6 29),
  (6, o_aload 0 7),
  (7, o_getf zYC 7 1 10),
  (10, o_aload 0 11),
  (11, o_getf zYC 7 1 14),
  (14, o_callV zZC 5 zmX3_bodyResult 0 1 17),
  (17, o_callV zZC 5 zmX3_take 1 1 20),
  (20, o_pop 21),
  (21, o_aload 0 22),
  (22, o_getf zYC 7 1 25),
  (25, o_callV zZC 5 zmX3_forget 0 0 28),
  (28, o_vret),
  (29, o_aload 0 30),
  (30, o_getf zYC 7 1 33),
  (33, o_lload 2 34),
  (34, o_callV zZC 5 zmX3_labelType 1 1 37),
  (37, o_istore 4 39),
  (39, o_iload 1 40),
  (40, o_ic 13 42),
  (42, o_icmp (fun x y => x = y) 45 77),
  (45, o_aload 0 46),
  (46, o_getf zYC 7 1 49),
  (49, o_ic 127 51),
  (51, o_callV zZC 5 zmX3_take 1 1 54),
  (54, o_pop 55),
  (55, o_aload 0 56),
  (56, o_getf zYC 7 1 59),
  (59, o_iload 4 61),
  (61, o_callV zZC 5 zmX3_take 1 1 64),
  (64, o_pop 65),
  (65, o_aload 0 66),
  (66, o_getf zYC 7 1 69),
  (69, o_iload 4 71),
  (71, o_callV zZC 5 zmX3_leave 1 0 74),
  (74, o_goto 94),
  (77, o_aload 0 78),
  (78, o_getf zYC 7 1 81),
  (81, o_iload 4 83),
  (83, o_callV zZC 5 zmX3_take 1 1 86),
  (86, o_pop 87),
  (87, o_aload 0 88),
  (88, o_getf zYC 7 1 91),
  (91, o_callV zZC 5 zmX3_forget 0 0 94),
  (94, o_vret)]
set_option maxRecDepth 100000 in
theorem ksX7_followLeap : ∀ q ∈ kX7_followLeap, zSnd zZC zmX7_followLeap q.1 q.2 := zcc iX7_followLeap_0 (zcc iX7_followLeap_1 (zcc iX7_followLeap_3 (zcc iX7_followLeap_6 (zcc iX7_followLeap_7 (zcc iX7_followLeap_10 (zcc iX7_followLeap_11 (zcc iX7_followLeap_14 (zcc iX7_followLeap_17 (zcc iX7_followLeap_20 (zcc iX7_followLeap_21 (zcc iX7_followLeap_22 (zcc iX7_followLeap_25 (zcc iX7_followLeap_28 (zcc iX7_followLeap_29 (zcc iX7_followLeap_30 (zcc iX7_followLeap_33 (zcc iX7_followLeap_34 (zcc iX7_followLeap_37 (zcc iX7_followLeap_39 (zcc iX7_followLeap_40 (zcc iX7_followLeap_42 (zcc iX7_followLeap_45 (zcc iX7_followLeap_46 (zcc iX7_followLeap_49 (zcc iX7_followLeap_51 (zcc iX7_followLeap_54 (zcc iX7_followLeap_55 (zcc iX7_followLeap_56 (zcc iX7_followLeap_59 (zcc iX7_followLeap_61 (zcc iX7_followLeap_64 (zcc iX7_followLeap_65 (zcc iX7_followLeap_66 (zcc iX7_followLeap_69 (zcc iX7_followLeap_71 (zcc iX7_followLeap_74 (zcc iX7_followLeap_77 (zcc iX7_followLeap_78 (zcc iX7_followLeap_81 (zcc iX7_followLeap_83 (zcc iX7_followLeap_86 (zcc iX7_followLeap_87 (zcc iX7_followLeap_88 (zcc iX7_followLeap_91 (zcc iX7_followLeap_94 zcn)))))))))))))))))))))))))))))))))))))))))))))
theorem iX7_followLocal_0 : zSnd zZC zmX7_followLocal 0 (o_lload 2 1) := s_lload_n (k := 2) (by decide +kernel) rfl
theorem iX7_followLocal_1 : zSnd zZC zmX7_followLocal 1 (o_lc 0 2) := s_lconst (i := 0) (by decide +kernel) (by decide +kernel)
theorem iX7_followLocal_2 : zSnd zZC zmX7_followLocal 2 (o_lif (fun x y => x < y) 27 6) := s_llt (off := 24) (by decide +kernel) (by decide +kernel) (by decide +kernel)
theorem iX7_followLocal_6 : zSnd zZC zmX7_followLocal 6 (o_lload 2 7) := s_lload_n (k := 2) (by decide +kernel) rfl
theorem iX7_followLocal_7 : zSnd zZC zmX7_followLocal 7 (o_aload 0 8) := s_aload_n (k := 0) (by decide +kernel) rfl
theorem iX7_followLocal_8 : zSnd zZC zmX7_followLocal 8 (o_getf zYC 7 3 11) := s_getf zcX7 fX7_35 (by decide +kernel) (by decide +kernel)
theorem iX7_followLocal_11 : zSnd zZC zmX7_followLocal 11 (o_i2l 12) := s_i2l (by decide +kernel)
theorem iX7_followLocal_12 : zSnd zZC zmX7_followLocal 12 (o_lif (fun x y => y ≤ x) 27 16) := s_lge (off := 14) (by decide +kernel) (by decide +kernel) (by decide +kernel)
theorem iX7_followLocal_16 : zSnd zZC zmX7_followLocal 16 (o_lload 2 17) := s_lload_n (k := 2) (by decide +kernel) rfl
theorem iX7_followLocal_17 : zSnd zZC zmX7_followLocal 17 (o_aload 0 18) := s_aload_n (k := 0) (by decide +kernel) rfl
theorem iX7_followLocal_18 : zSnd zZC zmX7_followLocal 18 (o_getf zYC 7 2 21) := s_getf zcX7 fX7_9 (by decide +kernel) (by decide +kernel)
theorem iX7_followLocal_21 : zSnd zZC zmX7_followLocal 21 (o_alen zYC 22) := s_alen zYC_arr (by decide +kernel)
theorem iX7_followLocal_22 : zSnd zZC zmX7_followLocal 22 (o_i2l 23) := s_i2l (by decide +kernel)
theorem iX7_followLocal_23 : zSnd zZC zmX7_followLocal 23 (o_lif (fun x y => x < y) 36 27) := s_llt (off := 12) (by decide +kernel) (by decide +kernel) (by decide +kernel)
theorem iX7_followLocal_27 : zSnd zZC zmX7_followLocal 27 (o_aload 0 28) := s_aload_n (k := 0) (by decide +kernel) rfl
theorem iX7_followLocal_28 : zSnd zZC zmX7_followLocal 28 (o_getf zYC 7 1 31) := s_getf zcX7 fX7_19 (by decide +kernel) (by decide +kernel)
theorem iX7_followLocal_31 : zSnd zZC zmX7_followLocal 31 (o_ic 0 32) := s_iconst (i := 0) (by decide +kernel) (by decide +kernel)
set_option maxRecDepth 20000 in
theorem iX7_followLocal_32 : zSnd zZC zmX7_followLocal 32 (o_callV zZC 5 zmX3_demand 1 0 35) := s_callVN (idx := 111) zcX3 calX3_demand virX3_demand dscX3_demand (by decide +kernel) (zNW3 179 rfl rfl) (by decide +kernel)
theorem iX7_followLocal_35 : zSnd zZC zmX7_followLocal 35 (o_vret) := s_vret rfl (by decide +kernel)
theorem iX7_followLocal_36 : zSnd zZC zmX7_followLocal 36 (o_aload 0 37) := s_aload_n (k := 0) (by decide +kernel) rfl
theorem iX7_followLocal_37 : zSnd zZC zmX7_followLocal 37 (o_getf zYC 7 2 40) := s_getf zcX7 fX7_9 (by decide +kernel) (by decide +kernel)
theorem iX7_followLocal_40 : zSnd zZC zmX7_followLocal 40 (o_lload 2 41) := s_lload_n (k := 2) (by decide +kernel) rfl
theorem iX7_followLocal_41 : zSnd zZC zmX7_followLocal 41 (o_l2i 42) := s_l2i (by decide +kernel)
theorem iX7_followLocal_42 : zSnd zZC zmX7_followLocal 42 (o_ald zYC .int 43) := s_iald (by decide +kernel)
theorem iX7_followLocal_43 : zSnd zZC zmX7_followLocal 43 (o_istore 4 45) := s_istore (by decide +kernel) (by decide +kernel)
theorem iX7_followLocal_45 : zSnd zZC zmX7_followLocal 45 (o_iload 1 46) := s_iload_n (k := 1) (by decide +kernel) rfl
theorem iX7_followLocal_46 : zSnd zZC zmX7_followLocal 46 (o_ic 32 48) := s_bipush (i := 32) (by decide +kernel) (by decide +kernel)
theorem iX7_followLocal_48 : zSnd zZC zmX7_followLocal 48 (o_icmp (fun x y => x = y) 61 51) := s_icmp_eq (off := 13) (by decide +kernel) (by decide +kernel)
theorem iX7_followLocal_51 : zSnd zZC zmX7_followLocal 51 (o_aload 0 52) := s_aload_n (k := 0) (by decide +kernel) rfl
theorem iX7_followLocal_52 : zSnd zZC zmX7_followLocal 52 (o_getf zYC 7 1 55) := s_getf zcX7 fX7_19 (by decide +kernel) (by decide +kernel)
theorem iX7_followLocal_55 : zSnd zZC zmX7_followLocal 55 (o_iload 4 57) := s_iload (by decide +kernel)
set_option maxRecDepth 20000 in
theorem iX7_followLocal_57 : zSnd zZC zmX7_followLocal 57 (o_callV zZC 5 zmX3_take 1 1 60) := s_callVN (idx := 101) zcX3 calX3_take virX3_take dscX3_take (by decide +kernel) (zNW3 170 rfl rfl) (by decide +kernel)
theorem iX7_followLocal_60 : zSnd zZC zmX7_followLocal 60 (o_pop 61) := s_pop (by decide +kernel)
theorem iX7_followLocal_61 : zSnd zZC zmX7_followLocal 61 (o_iload 1 62) := s_iload_n (k := 1) (by decide +kernel) rfl
theorem iX7_followLocal_62 : zSnd zZC zmX7_followLocal 62 (o_ic 33 64) := s_bipush (i := 33) (by decide +kernel) (by decide +kernel)
theorem iX7_followLocal_64 : zSnd zZC zmX7_followLocal 64 (o_icmp (fun x y => x = y) 76 67) := s_icmp_eq (off := 12) (by decide +kernel) (by decide +kernel)
theorem iX7_followLocal_67 : zSnd zZC zmX7_followLocal 67 (o_aload 0 68) := s_aload_n (k := 0) (by decide +kernel) rfl
theorem iX7_followLocal_68 : zSnd zZC zmX7_followLocal 68 (o_getf zYC 7 1 71) := s_getf zcX7 fX7_19 (by decide +kernel) (by decide +kernel)
theorem iX7_followLocal_71 : zSnd zZC zmX7_followLocal 71 (o_iload 4 73) := s_iload (by decide +kernel)
set_option maxRecDepth 20000 in
theorem iX7_followLocal_73 : zSnd zZC zmX7_followLocal 73 (o_callV zZC 5 zmX3_leave 1 0 76) := s_callVN (idx := 133) zcX3 calX3_leave virX3_leave dscX3_leave (by decide +kernel) (zNW3 203 rfl rfl) (by decide +kernel)
theorem iX7_followLocal_76 : zSnd zZC zmX7_followLocal 76 (o_vret) := s_vret rfl (by decide +kernel)
def kX7_followLocal : List (Nat × zOp) := [(0, o_lload 2 1),
  (1, o_lc 0 2),
  (2, o_lif (fun x y => x < y) 27 6),
  (6, o_lload 2 7),
  (7, o_aload 0 8),
  (8, o_getf zYC 7 3 11),
  (11, o_i2l 12),
  (12, o_lif (fun x y => y ≤ x) 27 16),
  (16, o_lload 2 17),
  (17, o_aload 0 18),
  (18, o_getf zYC 7 2 21),
  (21, o_alen zYC 22),
  (22, o_i2l 23),
  (23, o_lif (fun x y => x < y) 36 27),
  (27, o_aload 0 28),
  (28, o_getf zYC 7 1 31),
  (31, o_ic 0 32),
  (32, o_callV zZC 5 zmX3_demand 1 0 35),
  (35, o_vret),
  (36, o_aload 0 37),
  (37, o_getf zYC 7 2 40),
  (40, o_lload 2 41),
  (41, o_l2i 42),
  (42, o_ald zYC .int 43),
  (43, o_istore 4 45),
  (45, o_iload 1 46),
  (46, o_ic 32 48),
  (48, o_icmp (fun x y => x = y) 61 51),
  (51, o_aload 0 52),
  (52, o_getf zYC 7 1 55),
  (55, o_iload 4 57),
  (57, o_callV zZC 5 zmX3_take 1 1 60),
  (60, o_pop 61),
  (61, o_iload 1 62),
  (62, o_ic 33 64),
  (64, o_icmp (fun x y => x = y) 76 67),
  (67, o_aload 0 68),
  (68, o_getf zYC 7 1 71),
  (71, o_iload 4 73),
  (73, o_callV zZC 5 zmX3_leave 1 0 76),
  (76, o_vret)]
set_option maxRecDepth 100000 in
theorem ksX7_followLocal : ∀ q ∈ kX7_followLocal, zSnd zZC zmX7_followLocal q.1 q.2 := zcc iX7_followLocal_0 (zcc iX7_followLocal_1 (zcc iX7_followLocal_2 (zcc iX7_followLocal_6 (zcc iX7_followLocal_7 (zcc iX7_followLocal_8 (zcc iX7_followLocal_11 (zcc iX7_followLocal_12 (zcc iX7_followLocal_16 (zcc iX7_followLocal_17 (zcc iX7_followLocal_18 (zcc iX7_followLocal_21 (zcc iX7_followLocal_22 (zcc iX7_followLocal_23 (zcc iX7_followLocal_27 (zcc iX7_followLocal_28 (zcc iX7_followLocal_31 (zcc iX7_followLocal_32 (zcc iX7_followLocal_35 (zcc iX7_followLocal_36 (zcc iX7_followLocal_37 (zcc iX7_followLocal_40 (zcc iX7_followLocal_41 (zcc iX7_followLocal_42 (zcc iX7_followLocal_43 (zcc iX7_followLocal_45 (zcc iX7_followLocal_46 (zcc iX7_followLocal_48 (zcc iX7_followLocal_51 (zcc iX7_followLocal_52 (zcc iX7_followLocal_55 (zcc iX7_followLocal_57 (zcc iX7_followLocal_60 (zcc iX7_followLocal_61 (zcc iX7_followLocal_62 (zcc iX7_followLocal_64 (zcc iX7_followLocal_67 (zcc iX7_followLocal_68 (zcc iX7_followLocal_71 (zcc iX7_followLocal_73 (zcc iX7_followLocal_76 zcn))))))))))))))))))))))))))))))))))))))))
theorem iX7_followLonger_0 : zSnd zZC zmX7_followLonger 0 (o_iload 1 1) := s_iload_n (k := 1) (by decide +kernel) rfl
theorem iX7_followLonger_1 : zSnd zZC zmX7_followLonger 1 (o_ic 264 4) := s_sipush (i := 264) (by decide +kernel) (by decide +kernel)
theorem iX7_followLonger_4 : zSnd zZC zmX7_followLonger 4 (o_icmp (fun x y => x = y) 14 7) := s_icmp_eq (off := 10) (by decide +kernel) (by decide +kernel)
theorem iX7_followLonger_7 : zSnd zZC zmX7_followLonger 7 (o_iload 1 8) := s_iload_n (k := 1) (by decide +kernel) rfl
theorem iX7_followLonger_8 : zSnd zZC zmX7_followLonger 8 (o_ic 265 11) := s_sipush (i := 265) (by decide +kernel) (by decide +kernel)
theorem iX7_followLonger_11 : zSnd zZC zmX7_followLonger 11 (o_icmp (fun x y => x = y) 14 38) := s_icmp_ne (off := 27) (by decide +kernel) (by decide +kernel)
theorem iX7_followLonger_14 : zSnd zZC zmX7_followLonger 14 (o_aload 0 15) := s_aload_n (k := 0) (by decide +kernel) rfl
theorem iX7_followLonger_15 : zSnd zZC zmX7_followLonger 15 (o_getf zYC 7 1 18) := s_getf zcX7 fX7_19 (by decide +kernel) (by decide +kernel)
theorem iX7_followLonger_18 : zSnd zZC zmX7_followLonger 18 (o_lload 2 19) := s_lload_n (k := 2) (by decide +kernel) rfl
theorem iX7_followLonger_19 : zSnd zZC zmX7_followLonger 19 (o_aload 0 20) := s_aload_n (k := 0) (by decide +kernel) rfl
theorem iX7_followLonger_20 : zSnd zZC zmX7_followLonger 20 (o_getf zYC 7 0 23) := s_getf zcX7 fX7_15 (by decide +kernel) (by decide +kernel)
theorem iX7_followLonger_23 : zSnd zZC zmX7_followLonger 23 (o_getf zYC 2 14 26) := s_getf zcX2 fX7_170 (by decide +kernel) (by decide +kernel)
theorem iX7_followLonger_26 : zSnd zZC zmX7_followLonger 26 (o_lif (fun x y => y ≤ x) 34 30) := s_lge (off := 7) (by decide +kernel) (by decide +kernel) (by decide +kernel)
theorem iX7_followLonger_30 : zSnd zZC zmX7_followLonger 30 (o_ic 1 31) := s_iconst (i := 1) (by decide +kernel) (by decide +kernel)
theorem iX7_followLonger_31 : zSnd zZC zmX7_followLonger 31 (o_goto 35) := s_goto (off := 4) (by decide +kernel) (by decide +kernel)
theorem iX7_followLonger_34 : zSnd zZC zmX7_followLonger 34 (o_ic 0 35) := s_iconst (i := 0) (by decide +kernel) (by decide +kernel)
set_option maxRecDepth 20000 in
theorem iX7_followLonger_35 : zSnd zZC zmX7_followLonger 35 (o_callV zZC 5 zmX3_demand 1 0 38) := s_callVN (idx := 111) zcX3 calX3_demand virX3_demand dscX3_demand (by decide +kernel) (zNW3 179 rfl rfl) (by decide +kernel)
theorem iX7_followLonger_38 : zSnd zZC zmX7_followLonger 38 (o_iload 1 39) := s_iload_n (k := 1) (by decide +kernel) rfl
theorem iX7_followLonger_39 : zSnd zZC zmX7_followLonger 39 (o_ic 268 42) := s_sipush (i := 268) (by decide +kernel) (by decide +kernel)
theorem iX7_followLonger_42 : zSnd zZC zmX7_followLonger 42 (o_icmp (fun x y => x = y) 52 45) := s_icmp_eq (off := 10) (by decide +kernel) (by decide +kernel)
theorem iX7_followLonger_45 : zSnd zZC zmX7_followLonger 45 (o_iload 1 46) := s_iload_n (k := 1) (by decide +kernel) rfl
theorem iX7_followLonger_46 : zSnd zZC zmX7_followLonger 46 (o_ic 269 49) := s_sipush (i := 269) (by decide +kernel) (by decide +kernel)
theorem iX7_followLonger_49 : zSnd zZC zmX7_followLonger 49 (o_icmp (fun x y => x = y) 52 80) := s_icmp_ne (off := 31) (by decide +kernel) (by decide +kernel)
theorem iX7_followLonger_52 : zSnd zZC zmX7_followLonger 52 (o_aload 0 53) := s_aload_n (k := 0) (by decide +kernel) rfl
theorem iX7_followLonger_53 : zSnd zZC zmX7_followLonger 53 (o_getf zYC 7 1 56) := s_getf zcX7 fX7_19 (by decide +kernel) (by decide +kernel)
theorem iX7_followLonger_56 : zSnd zZC zmX7_followLonger 56 (o_lload 2 57) := s_lload_n (k := 2) (by decide +kernel) rfl
theorem iX7_followLonger_57 : zSnd zZC zmX7_followLonger 57 (o_aload 0 58) := s_aload_n (k := 0) (by decide +kernel) rfl
theorem iX7_followLonger_58 : zSnd zZC zmX7_followLonger 58 (o_getf zYC 7 0 61) := s_getf zcX7 fX7_15 (by decide +kernel) (by decide +kernel)
theorem iX7_followLonger_61 : zSnd zZC zmX7_followLonger 61 (o_getf zYC 2 7 64) := s_getf zcX2 fX7_142 (by decide +kernel) (by decide +kernel)
theorem iX7_followLonger_64 : zSnd zZC zmX7_followLonger 64 (o_ic 9 66) := s_bipush (i := 9) (by decide +kernel) (by decide +kernel)
theorem iX7_followLonger_66 : zSnd zZC zmX7_followLonger 66 (o_ald zYC .int 67) := s_iald (by decide +kernel)
theorem iX7_followLonger_67 : zSnd zZC zmX7_followLonger 67 (o_i2l 68) := s_i2l (by decide +kernel)
theorem iX7_followLonger_68 : zSnd zZC zmX7_followLonger 68 (o_lif (fun x y => y ≤ x) 76 72) := s_lge (off := 7) (by decide +kernel) (by decide +kernel) (by decide +kernel)
theorem iX7_followLonger_72 : zSnd zZC zmX7_followLonger 72 (o_ic 1 73) := s_iconst (i := 1) (by decide +kernel) (by decide +kernel)
theorem iX7_followLonger_73 : zSnd zZC zmX7_followLonger 73 (o_goto 77) := s_goto (off := 4) (by decide +kernel) (by decide +kernel)
theorem iX7_followLonger_76 : zSnd zZC zmX7_followLonger 76 (o_ic 0 77) := s_iconst (i := 0) (by decide +kernel) (by decide +kernel)
set_option maxRecDepth 20000 in
theorem iX7_followLonger_77 : zSnd zZC zmX7_followLonger 77 (o_callV zZC 5 zmX3_demand 1 0 80) := s_callVN (idx := 111) zcX3 calX3_demand virX3_demand dscX3_demand (by decide +kernel) (zNW3 179 rfl rfl) (by decide +kernel)
theorem iX7_followLonger_80 : zSnd zZC zmX7_followLonger 80 (o_iload 1 81) := s_iload_n (k := 1) (by decide +kernel) rfl
theorem iX7_followLonger_81 : zSnd zZC zmX7_followLonger 81 (o_ic 264 84) := s_sipush (i := 264) (by decide +kernel) (by decide +kernel)
theorem iX7_followLonger_84 : zSnd zZC zmX7_followLonger 84 (o_icmp (fun x y => x = y) 101 87) := s_icmp_eq (off := 17) (by decide +kernel) (by decide +kernel)
theorem iX7_followLonger_87 : zSnd zZC zmX7_followLonger 87 (o_iload 1 88) := s_iload_n (k := 1) (by decide +kernel) rfl
theorem iX7_followLonger_88 : zSnd zZC zmX7_followLonger 88 (o_ic 266 91) := s_sipush (i := 266) (by decide +kernel) (by decide +kernel)
theorem iX7_followLonger_91 : zSnd zZC zmX7_followLonger 91 (o_icmp (fun x y => x = y) 101 94) := s_icmp_eq (off := 10) (by decide +kernel) (by decide +kernel)
theorem iX7_followLonger_94 : zSnd zZC zmX7_followLonger 94 (o_iload 1 95) := s_iload_n (k := 1) (by decide +kernel) rfl
theorem iX7_followLonger_95 : zSnd zZC zmX7_followLonger 95 (o_ic 267 98) := s_sipush (i := 267) (by decide +kernel) (by decide +kernel)
theorem iX7_followLonger_98 : zSnd zZC zmX7_followLonger 98 (o_icmp (fun x y => x = y) 101 123) := s_icmp_ne (off := 25) (by decide +kernel) (by decide +kernel)
theorem iX7_followLonger_101 : zSnd zZC zmX7_followLonger 101 (o_aload 0 102) := s_aload_n (k := 0) (by decide +kernel) rfl
theorem iX7_followLonger_102 : zSnd zZC zmX7_followLonger 102 (o_getf zYC 7 1 105) := s_getf zcX7 fX7_19 (by decide +kernel) (by decide +kernel)
theorem iX7_followLonger_105 : zSnd zZC zmX7_followLonger 105 (o_aload 0 106) := s_aload_n (k := 0) (by decide +kernel) rfl
theorem iX7_followLonger_106 : zSnd zZC zmX7_followLonger 106 (o_getf zYC 7 0 109) := s_getf zcX7 fX7_15 (by decide +kernel) (by decide +kernel)
theorem iX7_followLonger_109 : zSnd zZC zmX7_followLonger 109 (o_getf zYC 2 11 112) := s_getf zcX2 fX7_155 (by decide +kernel) (by decide +kernel)
theorem iX7_followLonger_112 : zSnd zZC zmX7_followLonger 112 (o_if0 (fun x => x ≤ 0) 119 115) := s_if_le (off := 7) (by decide +kernel) (by decide +kernel)
theorem iX7_followLonger_115 : zSnd zZC zmX7_followLonger 115 (o_ic 1 116) := s_iconst (i := 1) (by decide +kernel) (by decide +kernel)
theorem iX7_followLonger_116 : zSnd zZC zmX7_followLonger 116 (o_goto 120) := s_goto (off := 4) (by decide +kernel) (by decide +kernel)
theorem iX7_followLonger_119 : zSnd zZC zmX7_followLonger 119 (o_ic 0 120) := s_iconst (i := 0) (by decide +kernel) (by decide +kernel)
set_option maxRecDepth 20000 in
theorem iX7_followLonger_120 : zSnd zZC zmX7_followLonger 120 (o_callV zZC 5 zmX3_demand 1 0 123) := s_callVN (idx := 111) zcX3 calX3_demand virX3_demand dscX3_demand (by decide +kernel) (zNW3 179 rfl rfl) (by decide +kernel)
theorem iX7_followLonger_123 : zSnd zZC zmX7_followLonger 123 (o_iload 1 124) := s_iload_n (k := 1) (by decide +kernel) rfl
theorem iX7_followLonger_124 : zSnd zZC zmX7_followLonger 124 (o_ic 268 127) := s_sipush (i := 268) (by decide +kernel) (by decide +kernel)
theorem iX7_followLonger_127 : zSnd zZC zmX7_followLonger 127 (o_icmp (fun x y => x = y) 137 130) := s_icmp_eq (off := 10) (by decide +kernel) (by decide +kernel)
theorem iX7_followLonger_130 : zSnd zZC zmX7_followLonger 130 (o_iload 1 131) := s_iload_n (k := 1) (by decide +kernel) rfl
theorem iX7_followLonger_131 : zSnd zZC zmX7_followLonger 131 (o_ic 270 134) := s_sipush (i := 270) (by decide +kernel) (by decide +kernel)
theorem iX7_followLonger_134 : zSnd zZC zmX7_followLonger 134 (o_icmp (fun x y => x = y) 137 159) := s_icmp_ne (off := 25) (by decide +kernel) (by decide +kernel)
theorem iX7_followLonger_137 : zSnd zZC zmX7_followLonger 137 (o_aload 0 138) := s_aload_n (k := 0) (by decide +kernel) rfl
theorem iX7_followLonger_138 : zSnd zZC zmX7_followLonger 138 (o_getf zYC 7 1 141) := s_getf zcX7 fX7_19 (by decide +kernel) (by decide +kernel)
theorem iX7_followLonger_141 : zSnd zZC zmX7_followLonger 141 (o_aload 0 142) := s_aload_n (k := 0) (by decide +kernel) rfl
theorem iX7_followLonger_142 : zSnd zZC zmX7_followLonger 142 (o_getf zYC 7 0 145) := s_getf zcX7 fX7_15 (by decide +kernel) (by decide +kernel)
theorem iX7_followLonger_145 : zSnd zZC zmX7_followLonger 145 (o_getf zYC 2 10 148) := s_getf zcX2 fX7_139 (by decide +kernel) (by decide +kernel)
theorem iX7_followLonger_148 : zSnd zZC zmX7_followLonger 148 (o_if0 (fun x => x ≤ 0) 155 151) := s_if_le (off := 7) (by decide +kernel) (by decide +kernel)
theorem iX7_followLonger_151 : zSnd zZC zmX7_followLonger 151 (o_ic 1 152) := s_iconst (i := 1) (by decide +kernel) (by decide +kernel)
theorem iX7_followLonger_152 : zSnd zZC zmX7_followLonger 152 (o_goto 156) := s_goto (off := 4) (by decide +kernel) (by decide +kernel)
theorem iX7_followLonger_155 : zSnd zZC zmX7_followLonger 155 (o_ic 0 156) := s_iconst (i := 0) (by decide +kernel) (by decide +kernel)
set_option maxRecDepth 20000 in
theorem iX7_followLonger_156 : zSnd zZC zmX7_followLonger 156 (o_callV zZC 5 zmX3_demand 1 0 159) := s_callVN (idx := 111) zcX3 calX3_demand virX3_demand dscX3_demand (by decide +kernel) (zNW3 179 rfl rfl) (by decide +kernel)
theorem iX7_followLonger_159 : zSnd zZC zmX7_followLonger 159 (o_iload 1 160) := s_iload_n (k := 1) (by decide +kernel) rfl
theorem iX7_followLonger_160 : zSnd zZC zmX7_followLonger 160 (o_ic 265 163) := s_sipush (i := 265) (by decide +kernel) (by decide +kernel)
theorem iX7_followLonger_163 : zSnd zZC zmX7_followLonger 163 (o_icmp (fun x y => x = y) 203 166) := s_icmp_eq (off := 40) (by decide +kernel) (by decide +kernel)
theorem iX7_followLonger_166 : zSnd zZC zmX7_followLonger 166 (o_iload 1 167) := s_iload_n (k := 1) (by decide +kernel) rfl
theorem iX7_followLonger_167 : zSnd zZC zmX7_followLonger 167 (o_ic 269 170) := s_sipush (i := 269) (by decide +kernel) (by decide +kernel)
theorem iX7_followLonger_170 : zSnd zZC zmX7_followLonger 170 (o_icmp (fun x y => x = y) 203 173) := s_icmp_eq (off := 33) (by decide +kernel) (by decide +kernel)
theorem iX7_followLonger_173 : zSnd zZC zmX7_followLonger 173 (o_aload 0 174) := s_aload_n (k := 0) (by decide +kernel) rfl
theorem iX7_followLonger_174 : zSnd zZC zmX7_followLonger 174 (o_getf zYC 7 1 177) := s_getf zcX7 fX7_19 (by decide +kernel) (by decide +kernel)
theorem iX7_followLonger_177 : zSnd zZC zmX7_followLonger 177 (o_ic 127 179) := s_bipush (i := 127) (by decide +kernel) (by decide +kernel)
set_option maxRecDepth 20000 in
theorem iX7_followLonger_179 : zSnd zZC zmX7_followLonger 179 (o_callV zZC 5 zmX3_take 1 1 182) := s_callVN (idx := 101) zcX3 calX3_take virX3_take dscX3_take (by decide +kernel) (zNW3 170 rfl rfl) (by decide +kernel)
theorem iX7_followLonger_182 : zSnd zZC zmX7_followLonger 182 (o_pop 183) := s_pop (by decide +kernel)
theorem iX7_followLonger_183 : zSnd zZC zmX7_followLonger 183 (o_aload 0 184) := s_aload_n (k := 0) (by decide +kernel) rfl
theorem iX7_followLonger_184 : zSnd zZC zmX7_followLonger 184 (o_getf zYC 7 1 187) := s_getf zcX7 fX7_19 (by decide +kernel) (by decide +kernel)
theorem iX7_followLonger_187 : zSnd zZC zmX7_followLonger 187 (o_ic 127 189) := s_bipush (i := 127) (by decide +kernel) (by decide +kernel)
set_option maxRecDepth 20000 in
theorem iX7_followLonger_189 : zSnd zZC zmX7_followLonger 189 (o_callV zZC 5 zmX3_take 1 1 192) := s_callVN (idx := 101) zcX3 calX3_take virX3_take dscX3_take (by decide +kernel) (zNW3 170 rfl rfl) (by decide +kernel)
theorem iX7_followLonger_192 : zSnd zZC zmX7_followLonger 192 (o_pop 193) := s_pop (by decide +kernel)
theorem iX7_followLonger_193 : zSnd zZC zmX7_followLonger 193 (o_aload 0 194) := s_aload_n (k := 0) (by decide +kernel) rfl
theorem iX7_followLonger_194 : zSnd zZC zmX7_followLonger 194 (o_getf zYC 7 1 197) := s_getf zcX7 fX7_19 (by decide +kernel) (by decide +kernel)
theorem iX7_followLonger_197 : zSnd zZC zmX7_followLonger 197 (o_ic 127 199) := s_bipush (i := 127) (by decide +kernel) (by decide +kernel)
set_option maxRecDepth 20000 in
theorem iX7_followLonger_199 : zSnd zZC zmX7_followLonger 199 (o_callV zZC 5 zmX3_take 1 1 202) := s_callVN (idx := 101) zcX3 calX3_take virX3_take dscX3_take (by decide +kernel) (zNW3 170 rfl rfl) (by decide +kernel)
theorem iX7_followLonger_202 : zSnd zZC zmX7_followLonger 202 (o_pop 203) := s_pop (by decide +kernel)
theorem iX7_followLonger_203 : zSnd zZC zmX7_followLonger 203 (o_vret) := s_vret rfl (by decide +kernel)
def kX7_followLonger : List (Nat × zOp) := [(0, o_iload 1 1),
  (1, o_ic 264 4),
  (4, o_icmp (fun x y => x = y) 14 7),
  (7, o_iload 1 8),
  (8, o_ic 265 11),
  (11, o_icmp (fun x y => x = y) 14 38),
  (14, o_aload 0 15),
  (15, o_getf zYC 7 1 18),
  (18, o_lload 2 19),
  (19, o_aload 0 20),
  (20, o_getf zYC 7 0 23),
  (23, o_getf zYC 2 14 26),
  (26, o_lif (fun x y => y ≤ x) 34 30),
  (30, o_ic 1 31),
  (31, o_goto 35),
  (34, o_ic 0 35),
  (35, o_callV zZC 5 zmX3_demand 1 0 38),
  (38, o_iload 1 39),
  (39, o_ic 268 42),
  (42, o_icmp (fun x y => x = y) 52 45),
  (45, o_iload 1 46),
  (46, o_ic 269 49),
  (49, o_icmp (fun x y => x = y) 52 80),
  (52, o_aload 0 53),
  (53, o_getf zYC 7 1 56),
  (56, o_lload 2 57),
  (57, o_aload 0 58),
  (58, o_getf zYC 7 0 61),
  (61, o_getf zYC 2 7 64),
  (64, o_ic 9 66),
  (66, o_ald zYC .int 67),
  (67, o_i2l 68),
  (68, o_lif (fun x y => y ≤ x) 76 72),
  (72, o_ic 1 73),
  (73, o_goto 77),
  (76, o_ic 0 77),
  (77, o_callV zZC 5 zmX3_demand 1 0 80),
  (80, o_iload 1 81),
  (81, o_ic 264 84),
  (84, o_icmp (fun x y => x = y) 101 87),
  (87, o_iload 1 88),
  (88, o_ic 266 91),
  (91, o_icmp (fun x y => x = y) 101 94),
  (94, o_iload 1 95),
  (95, o_ic 267 98),
  (98, o_icmp (fun x y => x = y) 101 123),
  (101, o_aload 0 102),
  (102, o_getf zYC 7 1 105),
  (105, o_aload 0 106),
  (106, o_getf zYC 7 0 109),
  (109, o_getf zYC 2 11 112),
  (112, o_if0 (fun x => x ≤ 0) 119 115),
  (115, o_ic 1 116),
  (116, o_goto 120),
  (119, o_ic 0 120),
  (120, o_callV zZC 5 zmX3_demand 1 0 123),
  (123, o_iload 1 124),
  (124, o_ic 268 127),
  (127, o_icmp (fun x y => x = y) 137 130),
  (130, o_iload 1 131),
  (131, o_ic 270 134),
  (134, o_icmp (fun x y => x = y) 137 159),
  (137, o_aload 0 138),
  (138, o_getf zYC 7 1 141),
  (141, o_aload 0 142),
  (142, o_getf zYC 7 0 145),
  (145, o_getf zYC 2 10 148),
  (148, o_if0 (fun x => x ≤ 0) 155 151),
  (151, o_ic 1 152),
  (152, o_goto 156),
  (155, o_ic 0 156),
  (156, o_callV zZC 5 zmX3_demand 1 0 159),
  (159, o_iload 1 160),
  (160, o_ic 265 163),
  (163, o_icmp (fun x y => x = y) 203 166),
  (166, o_iload 1 167),
  (167, o_ic 269 170),
  (170, o_icmp (fun x y => x = y) 203 173),
  (173, o_aload 0 174),
  (174, o_getf zYC 7 1 177),
  (177, o_ic 127 179),
  (179, o_callV zZC 5 zmX3_take 1 1 182),
  (182, o_pop 183),
  (183, o_aload 0 184),
  (184, o_getf zYC 7 1 187),
  (187, o_ic 127 189),
  (189, o_callV zZC 5 zmX3_take 1 1 192),
  (192, o_pop 193),
  (193, o_aload 0 194),
  (194, o_getf zYC 7 1 197),
  (197, o_ic 127 199),
  (199, o_callV zZC 5 zmX3_take 1 1 202),
  (202, o_pop 203),
  (203, o_vret)]
set_option maxRecDepth 100000 in
theorem ksX7_followLonger : ∀ q ∈ kX7_followLonger, zSnd zZC zmX7_followLonger q.1 q.2 := zcc iX7_followLonger_0 (zcc iX7_followLonger_1 (zcc iX7_followLonger_4 (zcc iX7_followLonger_7 (zcc iX7_followLonger_8 (zcc iX7_followLonger_11 (zcc iX7_followLonger_14 (zcc iX7_followLonger_15 (zcc iX7_followLonger_18 (zcc iX7_followLonger_19 (zcc iX7_followLonger_20 (zcc iX7_followLonger_23 (zcc iX7_followLonger_26 (zcc iX7_followLonger_30 (zcc iX7_followLonger_31 (zcc iX7_followLonger_34 (zcc iX7_followLonger_35 (zcc iX7_followLonger_38 (zcc iX7_followLonger_39 (zcc iX7_followLonger_42 (zcc iX7_followLonger_45 (zcc iX7_followLonger_46 (zcc iX7_followLonger_49 (zcc iX7_followLonger_52 (zcc iX7_followLonger_53 (zcc iX7_followLonger_56 (zcc iX7_followLonger_57 (zcc iX7_followLonger_58 (zcc iX7_followLonger_61 (zcc iX7_followLonger_64 (zcc iX7_followLonger_66 (zcc iX7_followLonger_67 (zcc iX7_followLonger_68 (zcc iX7_followLonger_72 (zcc iX7_followLonger_73 (zcc iX7_followLonger_76 (zcc iX7_followLonger_77 (zcc iX7_followLonger_80 (zcc iX7_followLonger_81 (zcc iX7_followLonger_84 (zcc iX7_followLonger_87 (zcc iX7_followLonger_88 (zcc iX7_followLonger_91 (zcc iX7_followLonger_94 (zcc iX7_followLonger_95 (zcc iX7_followLonger_98 (zcc iX7_followLonger_101 (zcc iX7_followLonger_102 (zcc iX7_followLonger_105 (zcc iX7_followLonger_106 (zcc iX7_followLonger_109 (zcc iX7_followLonger_112 (zcc iX7_followLonger_115 (zcc iX7_followLonger_116 (zcc iX7_followLonger_119 (zcc iX7_followLonger_120 (zcc iX7_followLonger_123 (zcc iX7_followLonger_124 (zcc iX7_followLonger_127 (zcc iX7_followLonger_130 (zcc iX7_followLonger_131 (zcc iX7_followLonger_134 (zcc iX7_followLonger_137 (zcc iX7_followLonger_138 (zcc iX7_followLonger_141 (zcc iX7_followLonger_142 (zcc iX7_followLonger_145 (zcc iX7_followLonger_148 (zcc iX7_followLonger_151 (zcc iX7_followLonger_152 (zcc iX7_followLonger_155 (zcc iX7_followLonger_156 (zcc iX7_followLonger_159 (zcc iX7_followLonger_160 (zcc iX7_followLonger_163 (zcc iX7_followLonger_166 (zcc iX7_followLonger_167 (zcc iX7_followLonger_170 (zcc iX7_followLonger_173 (zcc iX7_followLonger_174 (zcc iX7_followLonger_177 (zcc iX7_followLonger_179 (zcc iX7_followLonger_182 (zcc iX7_followLonger_183 (zcc iX7_followLonger_184 (zcc iX7_followLonger_187 (zcc iX7_followLonger_189 (zcc iX7_followLonger_192 (zcc iX7_followLonger_193 (zcc iX7_followLonger_194 (zcc iX7_followLonger_197 (zcc iX7_followLonger_199 (zcc iX7_followLonger_202 (zcc iX7_followLonger_203 zcn)))))))))))))))))))))))))))))))))))))))))))))))))))))))))))))))))))))))))))))))))))))))))))))
theorem iX7_followPlain_0 : zSnd zZC zmX7_followPlain 0 (o_iload 1 1) := s_iload_n (k := 1) (by decide +kernel) rfl
theorem iX7_followPlain_1 : zSnd zZC zmX7_followPlain 1 (o_ic 65 3) := s_bipush (i := 65) (by decide +kernel) (by decide +kernel)
theorem iX7_followPlain_3 : zSnd zZC zmX7_followPlain 3 (o_icmp (fun x y => x = y) 6 18) := s_icmp_ne (off := 15) (by decide +kernel) (by decide +kernel)
theorem iX7_followPlain_6 : zSnd zZC zmX7_followPlain 6 (o_aload 0 7) := s_aload_n (k := 0) (by decide +kernel) rfl
theorem iX7_followPlain_7 : zSnd zZC zmX7_followPlain 7 (o_getf zYC 7 1 10) := s_getf zcX7 fX7_19 (by decide +kernel) (by decide +kernel)
theorem iX7_followPlain_10 : zSnd zZC zmX7_followPlain 10 (o_ic 127 12) := s_bipush (i := 127) (by decide +kernel) (by decide +kernel)
set_option maxRecDepth 20000 in
theorem iX7_followPlain_12 : zSnd zZC zmX7_followPlain 12 (o_callV zZC 5 zmX3_leave 1 0 15) := s_callVN (idx := 133) zcX3 calX3_leave virX3_leave dscX3_leave (by decide +kernel) (zNW3 203 rfl rfl) (by decide +kernel)
theorem iX7_followPlain_15 : zSnd zZC zmX7_followPlain 15 (o_goto 97) := s_goto (off := 82) (by decide +kernel) (by decide +kernel)
theorem iX7_followPlain_18 : zSnd zZC zmX7_followPlain 18 (o_iload 1 19) := s_iload_n (k := 1) (by decide +kernel) rfl
theorem iX7_followPlain_19 : zSnd zZC zmX7_followPlain 19 (o_ic 66 21) := s_bipush (i := 66) (by decide +kernel) (by decide +kernel)
theorem iX7_followPlain_21 : zSnd zZC zmX7_followPlain 21 (o_icmp (fun x y => x = y) 24 36) := s_icmp_ne (off := 15) (by decide +kernel) (by decide +kernel)
theorem iX7_followPlain_24 : zSnd zZC zmX7_followPlain 24 (o_aload 0 25) := s_aload_n (k := 0) (by decide +kernel) rfl
theorem iX7_followPlain_25 : zSnd zZC zmX7_followPlain 25 (o_getf zYC 7 1 28) := s_getf zcX7 fX7_19 (by decide +kernel) (by decide +kernel)
theorem iX7_followPlain_28 : zSnd zZC zmX7_followPlain 28 (o_ic 126 30) := s_bipush (i := 126) (by decide +kernel) (by decide +kernel)
set_option maxRecDepth 20000 in
theorem iX7_followPlain_30 : zSnd zZC zmX7_followPlain 30 (o_callV zZC 5 zmX3_leave 1 0 33) := s_callVN (idx := 133) zcX3 calX3_leave virX3_leave dscX3_leave (by decide +kernel) (zNW3 203 rfl rfl) (by decide +kernel)
theorem iX7_followPlain_33 : zSnd zZC zmX7_followPlain 33 (o_goto 97) := s_goto (off := 64) (by decide +kernel) (by decide +kernel)
theorem iX7_followPlain_36 : zSnd zZC zmX7_followPlain 36 (o_iload 1 37) := s_iload_n (k := 1) (by decide +kernel) rfl
set_option maxRecDepth 20000 in
theorem iX7_followPlain_37 : zSnd zZC zmX7_followPlain 37 (o_callS zZC zmX7_takesLong 1 1 40) := s_callS (idx := 161) calX7_takesLong virX7_takesLong dscX7_takesLong (by decide +kernel) (zWS4 0 rfl rfl) (by decide +kernel)
theorem iX7_followPlain_40 : zSnd zZC zmX7_followPlain 40 (o_if0 (fun x => x = 0) 48 43) := s_if_eq (off := 8) (by decide +kernel) (by decide +kernel)
theorem iX7_followPlain_43 : zSnd zZC zmX7_followPlain 43 (o_ic 126 45) := s_bipush (i := 126) (by decide +kernel) (by decide +kernel)
theorem iX7_followPlain_45 : zSnd zZC zmX7_followPlain 45 (o_goto 50) := s_goto (off := 5) (by decide +kernel) (by decide +kernel)
theorem iX7_followPlain_48 : zSnd zZC zmX7_followPlain 48 (o_ic 127 50) := s_bipush (i := 127) (by decide +kernel) (by decide +kernel)
theorem iX7_followPlain_50 : zSnd zZC zmX7_followPlain 50 (o_istore 2 51) := s_istore_n (k := 2) (by decide +kernel) rfl (by decide +kernel)
theorem iX7_followPlain_51 : zSnd zZC zmX7_followPlain 51 (o_aload 0 52) := s_aload_n (k := 0) (by decide +kernel) rfl
theorem iX7_followPlain_52 : zSnd zZC zmX7_followPlain 52 (o_getf zYC 7 1 55) := s_getf zcX7 fX7_19 (by decide +kernel) (by decide +kernel)
theorem iX7_followPlain_55 : zSnd zZC zmX7_followPlain 55 (o_iload 2 56) := s_iload_n (k := 2) (by decide +kernel) rfl
set_option maxRecDepth 20000 in
theorem iX7_followPlain_56 : zSnd zZC zmX7_followPlain 56 (o_callV zZC 5 zmX3_take 1 1 59) := s_callVN (idx := 101) zcX3 calX3_take virX3_take dscX3_take (by decide +kernel) (zNW3 170 rfl rfl) (by decide +kernel)
theorem iX7_followPlain_59 : zSnd zZC zmX7_followPlain 59 (o_pop 60) := s_pop (by decide +kernel)
theorem iX7_followPlain_60 : zSnd zZC zmX7_followPlain 60 (o_iload 1 61) := s_iload_n (k := 1) (by decide +kernel) rfl
set_option maxRecDepth 20000 in
theorem iX7_followPlain_61 : zSnd zZC zmX7_followPlain 61 (o_callS zZC zmX7_takesTwo 1 1 64) := s_callS (idx := 164) calX7_takesTwo virX7_takesTwo dscX7_takesTwo (by decide +kernel) (zWS4 3 rfl rfl) (by decide +kernel)
theorem iX7_followPlain_64 : zSnd zZC zmX7_followPlain 64 (o_if0 (fun x => x = 0) 76 67) := s_if_eq (off := 12) (by decide +kernel) (by decide +kernel)
theorem iX7_followPlain_67 : zSnd zZC zmX7_followPlain 67 (o_aload 0 68) := s_aload_n (k := 0) (by decide +kernel) rfl
theorem iX7_followPlain_68 : zSnd zZC zmX7_followPlain 68 (o_getf zYC 7 1 71) := s_getf zcX7 fX7_19 (by decide +kernel) (by decide +kernel)
theorem iX7_followPlain_71 : zSnd zZC zmX7_followPlain 71 (o_iload 2 72) := s_iload_n (k := 2) (by decide +kernel) rfl
set_option maxRecDepth 20000 in
theorem iX7_followPlain_72 : zSnd zZC zmX7_followPlain 72 (o_callV zZC 5 zmX3_take 1 1 75) := s_callVN (idx := 101) zcX3 calX3_take virX3_take dscX3_take (by decide +kernel) (zNW3 170 rfl rfl) (by decide +kernel)
theorem iX7_followPlain_75 : zSnd zZC zmX7_followPlain 75 (o_pop 76) := s_pop (by decide +kernel)
theorem iX7_followPlain_76 : zSnd zZC zmX7_followPlain 76 (o_aload 0 77) := s_aload_n (k := 0) (by decide +kernel) rfl
theorem iX7_followPlain_77 : zSnd zZC zmX7_followPlain 77 (o_getf zYC 7 1 80) := s_getf zcX7 fX7_19 (by decide +kernel) (by decide +kernel)
theorem iX7_followPlain_80 : zSnd zZC zmX7_followPlain 80 (o_iload 1 81) := s_iload_n (k := 1) (by decide +kernel) rfl
set_option maxRecDepth 20000 in
theorem iX7_followPlain_81 : zSnd zZC zmX7_followPlain 81 (o_callS zZC zmX7_leavesLong 1 1 84) := s_callS (idx := 167) calX7_leavesLong virX7_leavesLong dscX7_leavesLong (by decide +kernel) (zWS4 6 rfl rfl) (by decide +kernel)
theorem iX7_followPlain_84 : zSnd zZC zmX7_followPlain 84 (o_if0 (fun x => x = 0) 92 87) := s_if_eq (off := 8) (by decide +kernel) (by decide +kernel)
theorem iX7_followPlain_87 : zSnd zZC zmX7_followPlain 87 (o_ic 126 89) := s_bipush (i := 126) (by decide +kernel) (by decide +kernel)
theorem iX7_followPlain_89 : zSnd zZC zmX7_followPlain 89 (o_goto 94) := s_goto (off := 5) (by decide +kernel) (by decide +kernel)
theorem iX7_followPlain_92 : zSnd zZC zmX7_followPlain 92 (o_ic 127 94) := s_bipush (i := 127) (by decide +kernel) (by decide +kernel)
set_option maxRecDepth 20000 in
theorem iX7_followPlain_94 : zSnd zZC zmX7_followPlain 94 (o_callV zZC 5 zmX3_leave 1 0 97) := s_callVN (idx := 133) zcX3 calX3_leave virX3_leave dscX3_leave (by decide +kernel) (zNW3 203 rfl rfl) (by decide +kernel)
theorem iX7_followPlain_97 : zSnd zZC zmX7_followPlain 97 (o_vret) := s_vret rfl (by decide +kernel)
def kX7_followPlain : List (Nat × zOp) := [(0, o_iload 1 1),
  (1, o_ic 65 3),
  (3, o_icmp (fun x y => x = y) 6 18),
  (6, o_aload 0 7),
  (7, o_getf zYC 7 1 10),
  (10, o_ic 127 12),
  (12, o_callV zZC 5 zmX3_leave 1 0 15),
  (15, o_goto 97),
  (18, o_iload 1 19),
  (19, o_ic 66 21),
  (21, o_icmp (fun x y => x = y) 24 36),
  (24, o_aload 0 25),
  (25, o_getf zYC 7 1 28),
  (28, o_ic 126 30),
  (30, o_callV zZC 5 zmX3_leave 1 0 33),
  (33, o_goto 97),
  (36, o_iload 1 37),
  (37, o_callS zZC zmX7_takesLong 1 1 40),
  (40, o_if0 (fun x => x = 0) 48 43),
  (43, o_ic 126 45),
  (45, o_goto 50),
  (48, o_ic 127 50),
  (50, o_istore 2 51),
  (51, o_aload 0 52),
  (52, o_getf zYC 7 1 55),
  (55, o_iload 2 56),
  (56, o_callV zZC 5 zmX3_take 1 1 59),
  (59, o_pop 60),
  (60, o_iload 1 61),
  (61, o_callS zZC zmX7_takesTwo 1 1 64),
  (64, o_if0 (fun x => x = 0) 76 67),
  (67, o_aload 0 68),
  (68, o_getf zYC 7 1 71),
  (71, o_iload 2 72),
  (72, o_callV zZC 5 zmX3_take 1 1 75),
  (75, o_pop 76),
  (76, o_aload 0 77),
  (77, o_getf zYC 7 1 80),
  (80, o_iload 1 81),
  (81, o_callS zZC zmX7_leavesLong 1 1 84),
  (84, o_if0 (fun x => x = 0) 92 87),
  (87, o_ic 126 89),
  (89, o_goto 94),
  (92, o_ic 127 94),
  (94, o_callV zZC 5 zmX3_leave 1 0 97),
  (97, o_vret)]
set_option maxRecDepth 100000 in
theorem ksX7_followPlain : ∀ q ∈ kX7_followPlain, zSnd zZC zmX7_followPlain q.1 q.2 := zcc iX7_followPlain_0 (zcc iX7_followPlain_1 (zcc iX7_followPlain_3 (zcc iX7_followPlain_6 (zcc iX7_followPlain_7 (zcc iX7_followPlain_10 (zcc iX7_followPlain_12 (zcc iX7_followPlain_15 (zcc iX7_followPlain_18 (zcc iX7_followPlain_19 (zcc iX7_followPlain_21 (zcc iX7_followPlain_24 (zcc iX7_followPlain_25 (zcc iX7_followPlain_28 (zcc iX7_followPlain_30 (zcc iX7_followPlain_33 (zcc iX7_followPlain_36 (zcc iX7_followPlain_37 (zcc iX7_followPlain_40 (zcc iX7_followPlain_43 (zcc iX7_followPlain_45 (zcc iX7_followPlain_48 (zcc iX7_followPlain_50 (zcc iX7_followPlain_51 (zcc iX7_followPlain_52 (zcc iX7_followPlain_55 (zcc iX7_followPlain_56 (zcc iX7_followPlain_59 (zcc iX7_followPlain_60 (zcc iX7_followPlain_61 (zcc iX7_followPlain_64 (zcc iX7_followPlain_67 (zcc iX7_followPlain_68 (zcc iX7_followPlain_71 (zcc iX7_followPlain_72 (zcc iX7_followPlain_75 (zcc iX7_followPlain_76 (zcc iX7_followPlain_77 (zcc iX7_followPlain_80 (zcc iX7_followPlain_81 (zcc iX7_followPlain_84 (zcc iX7_followPlain_87 (zcc iX7_followPlain_89 (zcc iX7_followPlain_92 (zcc iX7_followPlain_94 (zcc iX7_followPlain_97 zcn)))))))))))))))))))))))))))))))))))))))))))))
theorem iX7_followSize_0 : zSnd zZC zmX7_followSize 0 (o_aload 0 1) := s_aload_n (k := 0) (by decide +kernel) rfl
theorem iX7_followSize_1 : zSnd zZC zmX7_followSize 1 (o_getf zYC 7 1 4) := s_getf zcX7 fX7_19 (by decide +kernel) (by decide +kernel)
theorem iX7_followSize_4 : zSnd zZC zmX7_followSize 4 (o_aload 0 5) := s_aload_n (k := 0) (by decide +kernel) rfl
theorem iX7_followSize_5 : zSnd zZC zmX7_followSize 5 (o_getf zYC 7 0 8) := s_getf zcX7 fX7_15 (by decide +kernel) (by decide +kernel)
theorem iX7_followSize_8 : zSnd zZC zmX7_followSize 8 (o_getf zYC 2 11 11) := s_getf zcX2 fX7_155 (by decide +kernel) (by decide +kernel)
theorem iX7_followSize_11 : zSnd zZC zmX7_followSize 11 (o_if0 (fun x => x ≤ 0) 18 14) := s_if_le (off := 7) (by decide +kernel) (by decide +kernel)
theorem iX7_followSize_14 : zSnd zZC zmX7_followSize 14 (o_ic 1 15) := s_iconst (i := 1) (by decide +kernel) (by decide +kernel)
theorem iX7_followSize_15 : zSnd zZC zmX7_followSize 15 (o_goto 19) := s_goto (off := 4) (by decide +kernel) (by decide +kernel)
theorem iX7_followSize_18 : zSnd zZC zmX7_followSize 18 (o_ic 0 19) := s_iconst (i := 0) (by decide +kernel) (by decide +kernel)
set_option maxRecDepth 20000 in
theorem iX7_followSize_19 : zSnd zZC zmX7_followSize 19 (o_callV zZC 5 zmX3_demand 1 0 22) := s_callVN (idx := 111) zcX3 calX3_demand virX3_demand dscX3_demand (by decide +kernel) (zNW3 179 rfl rfl) (by decide +kernel)
theorem iX7_followSize_22 : zSnd zZC zmX7_followSize 22 (o_iload 1 23) := s_iload_n (k := 1) (by decide +kernel) rfl
theorem iX7_followSize_23 : zSnd zZC zmX7_followSize 23 (o_ic 64 25) := s_bipush (i := 64) (by decide +kernel) (by decide +kernel)
theorem iX7_followSize_25 : zSnd zZC zmX7_followSize 25 (o_icmp (fun x y => x = y) 28 38) := s_icmp_ne (off := 13) (by decide +kernel) (by decide +kernel)
theorem iX7_followSize_28 : zSnd zZC zmX7_followSize 28 (o_aload 0 29) := s_aload_n (k := 0) (by decide +kernel) rfl
theorem iX7_followSize_29 : zSnd zZC zmX7_followSize 29 (o_getf zYC 7 1 32) := s_getf zcX7 fX7_19 (by decide +kernel) (by decide +kernel)
theorem iX7_followSize_32 : zSnd zZC zmX7_followSize 32 (o_ic 127 34) := s_bipush (i := 127) (by decide +kernel) (by decide +kernel)
set_option maxRecDepth 20000 in
theorem iX7_followSize_34 : zSnd zZC zmX7_followSize 34 (o_callV zZC 5 zmX3_take 1 1 37) := s_callVN (idx := 101) zcX3 calX3_take virX3_take dscX3_take (by decide +kernel) (zNW3 170 rfl rfl) (by decide +kernel)
theorem iX7_followSize_37 : zSnd zZC zmX7_followSize 37 (o_pop 38) := s_pop (by decide +kernel)
theorem iX7_followSize_38 : zSnd zZC zmX7_followSize 38 (o_aload 0 39) := s_aload_n (k := 0) (by decide +kernel) rfl
theorem iX7_followSize_39 : zSnd zZC zmX7_followSize 39 (o_getf zYC 7 1 42) := s_getf zcX7 fX7_19 (by decide +kernel) (by decide +kernel)
theorem iX7_followSize_42 : zSnd zZC zmX7_followSize 42 (o_ic 127 44) := s_bipush (i := 127) (by decide +kernel) (by decide +kernel)
set_option maxRecDepth 20000 in
theorem iX7_followSize_44 : zSnd zZC zmX7_followSize 44 (o_callV zZC 5 zmX3_leave 1 0 47) := s_callVN (idx := 133) zcX3 calX3_leave virX3_leave dscX3_leave (by decide +kernel) (zNW3 203 rfl rfl) (by decide +kernel)
theorem iX7_followSize_47 : zSnd zZC zmX7_followSize 47 (o_vret) := s_vret rfl (by decide +kernel)
def kX7_followSize : List (Nat × zOp) := [(0, o_aload 0 1),
  (1, o_getf zYC 7 1 4),
  (4, o_aload 0 5),
  (5, o_getf zYC 7 0 8),
  (8, o_getf zYC 2 11 11),
  (11, o_if0 (fun x => x ≤ 0) 18 14),
  (14, o_ic 1 15),
  (15, o_goto 19),
  (18, o_ic 0 19),
  (19, o_callV zZC 5 zmX3_demand 1 0 22),
  (22, o_iload 1 23),
  (23, o_ic 64 25),
  (25, o_icmp (fun x y => x = y) 28 38),
  (28, o_aload 0 29),
  (29, o_getf zYC 7 1 32),
  (32, o_ic 127 34),
  (34, o_callV zZC 5 zmX3_take 1 1 37),
  (37, o_pop 38),
  (38, o_aload 0 39),
  (39, o_getf zYC 7 1 42),
  (42, o_ic 127 44),
  (44, o_callV zZC 5 zmX3_leave 1 0 47),
  (47, o_vret)]
set_option maxRecDepth 100000 in
theorem ksX7_followSize : ∀ q ∈ kX7_followSize, zSnd zZC zmX7_followSize q.1 q.2 := zcc iX7_followSize_0 (zcc iX7_followSize_1 (zcc iX7_followSize_4 (zcc iX7_followSize_5 (zcc iX7_followSize_8 (zcc iX7_followSize_11 (zcc iX7_followSize_14 (zcc iX7_followSize_15 (zcc iX7_followSize_18 (zcc iX7_followSize_19 (zcc iX7_followSize_22 (zcc iX7_followSize_23 (zcc iX7_followSize_25 (zcc iX7_followSize_28 (zcc iX7_followSize_29 (zcc iX7_followSize_32 (zcc iX7_followSize_34 (zcc iX7_followSize_37 (zcc iX7_followSize_38 (zcc iX7_followSize_39 (zcc iX7_followSize_42 (zcc iX7_followSize_44 (zcc iX7_followSize_47 zcn))))))))))))))))))))))
theorem iX7_followTable_0 : zSnd zZC zmX7_followTable 0 (o_aload 0 1) := s_aload_n (k := 0) (by decide +kernel) rfl
theorem iX7_followTable_1 : zSnd zZC zmX7_followTable 1 (o_getf zYC 7 1 4) := s_getf zcX7 fX7_19 (by decide +kernel) (by decide +kernel)
theorem iX7_followTable_4 : zSnd zZC zmX7_followTable 4 (o_ic 127 6) := s_bipush (i := 127) (by decide +kernel) (by decide +kernel)
set_option maxRecDepth 20000 in
theorem iX7_followTable_6 : zSnd zZC zmX7_followTable 6 (o_callV zZC 5 zmX3_take 1 1 9) := s_callVN (idx := 101) zcX3 calX3_take virX3_take dscX3_take (by decide +kernel) (zNW3 170 rfl rfl) (by decide +kernel)
theorem iX7_followTable_9 : zSnd zZC zmX7_followTable 9 (o_pop 10) := s_pop (by decide +kernel)
theorem iX7_followTable_10 : zSnd zZC zmX7_followTable 10 (o_ic 64 12) := s_bipush (i := 64) (by decide +kernel) (by decide +kernel)
theorem iX7_followTable_12 : zSnd zZC zmX7_followTable 12 (o_istore 2 13) := s_istore_n (k := 2) (by decide +kernel) rfl (by decide +kernel)
theorem iX7_followTable_13 : zSnd zZC zmX7_followTable 13 (o_ic 0 14) := s_iconst (i := 0) (by decide +kernel) (by decide +kernel)
theorem iX7_followTable_14 : zSnd zZC zmX7_followTable 14 (o_istore 3 15) := s_istore_n (k := 3) (by decide +kernel) rfl (by decide +kernel)
theorem iX7_followTable_15 : zSnd zZC zmX7_followTable 15 (o_iload 3 16) := s_iload_n (k := 3) (by decide +kernel) rfl
theorem iX7_followTable_16 : zSnd zZC zmX7_followTable 16 (o_aload 1 17) := s_aload_n (k := 1) (by decide +kernel) rfl
theorem iX7_followTable_17 : zSnd zZC zmX7_followTable 17 (o_getf zYC 6 1 20) := s_getf zcX5 fX7_119 (by decide +kernel) (by decide +kernel)
theorem iX7_followTable_20 : zSnd zZC zmX7_followTable 20 (o_icmp (fun x y => y ≤ x) 78 23) := s_icmp_ge (off := 58) (by decide +kernel) (by decide +kernel)
theorem iX7_followTable_23 : zSnd zZC zmX7_followTable 23 (o_iload 3 24) := s_iload_n (k := 3) (by decide +kernel) rfl
theorem iX7_followTable_24 : zSnd zZC zmX7_followTable 24 (o_aload 1 25) := s_aload_n (k := 1) (by decide +kernel) rfl
theorem iX7_followTable_25 : zSnd zZC zmX7_followTable 25 (o_getf zYC 6 0 28) := s_getf zcX5 fX7_122 (by decide +kernel) (by decide +kernel)
theorem iX7_followTable_28 : zSnd zZC zmX7_followTable 28 (o_alen zYC 29) := s_alen zYC_arr (by decide +kernel)
theorem iX7_followTable_29 : zSnd zZC zmX7_followTable 29 (o_icmp (fun x y => y ≤ x) 78 32) := s_icmp_ge (off := 49) (by decide +kernel) (by decide +kernel)
theorem iX7_followTable_32 : zSnd zZC zmX7_followTable 32 (o_aload 0 33) := s_aload_n (k := 0) (by decide +kernel) rfl
theorem iX7_followTable_33 : zSnd zZC zmX7_followTable 33 (o_getf zYC 7 1 36) := s_getf zcX7 fX7_19 (by decide +kernel) (by decide +kernel)
theorem iX7_followTable_36 : zSnd zZC zmX7_followTable 36 (o_aload 1 37) := s_aload_n (k := 1) (by decide +kernel) rfl
theorem iX7_followTable_37 : zSnd zZC zmX7_followTable 37 (o_getf zYC 6 0 40) := s_getf zcX5 fX7_122 (by decide +kernel) (by decide +kernel)
theorem iX7_followTable_40 : zSnd zZC zmX7_followTable 40 (o_iload 3 41) := s_iload_n (k := 3) (by decide +kernel) rfl
theorem iX7_followTable_41 : zSnd zZC zmX7_followTable 41 (o_lald zYC 42) := s_lald (by decide +kernel)
set_option maxRecDepth 20000 in
theorem iX7_followTable_42 : zSnd zZC zmX7_followTable 42 (o_callV zZC 5 zmX3_labelType 1 1 45) := s_callVN (idx := 126) zcX3 calX3_labelType virX3_labelType dscX3_labelType (by decide +kernel) (zNW3 191 rfl rfl) (by decide +kernel)
theorem iX7_followTable_45 : zSnd zZC zmX7_followTable 45 (o_istore 4 47) := s_istore (by decide +kernel) (by decide +kernel)
theorem iX7_followTable_47 : zSnd zZC zmX7_followTable 47 (o_aload 0 48) := s_aload_n (k := 0) (by decide +kernel) rfl
theorem iX7_followTable_48 : zSnd zZC zmX7_followTable 48 (o_getf zYC 7 1 51) := s_getf zcX7 fX7_19 (by decide +kernel) (by decide +kernel)
theorem iX7_followTable_51 : zSnd zZC zmX7_followTable 51 (o_iload 3 52) := s_iload_n (k := 3) (by decide +kernel) rfl
theorem iX7_followTable_52 : zSnd zZC zmX7_followTable 52 (o_if0 (fun x => x = 0) 61 55) := s_if_eq (off := 9) (by decide +kernel) (by decide +kernel)
theorem iX7_followTable_55 : zSnd zZC zmX7_followTable 55 (o_iload 4 57) := s_iload (by decide +kernel)
theorem iX7_followTable_57 : zSnd zZC zmX7_followTable 57 (o_iload 2 58) := s_iload_n (k := 2) (by decide +kernel) rfl
theorem iX7_followTable_58 : zSnd zZC zmX7_followTable 58 (o_icmp (fun x y => x = y) 61 65) := s_icmp_ne (off := 7) (by decide +kernel) (by decide +kernel)
theorem iX7_followTable_61 : zSnd zZC zmX7_followTable 61 (o_ic 1 62) := s_iconst (i := 1) (by decide +kernel) (by decide +kernel)
theorem iX7_followTable_62 : zSnd zZC zmX7_followTable 62 (o_goto 66) := s_goto (off := 4) (by decide +kernel) (by decide +kernel)
theorem iX7_followTable_65 : zSnd zZC zmX7_followTable 65 (o_ic 0 66) := s_iconst (i := 0) (by decide +kernel) (by decide +kernel)
set_option maxRecDepth 20000 in
theorem iX7_followTable_66 : zSnd zZC zmX7_followTable 66 (o_callV zZC 5 zmX3_demand 1 0 69) := s_callVN (idx := 111) zcX3 calX3_demand virX3_demand dscX3_demand (by decide +kernel) (zNW3 179 rfl rfl) (by decide +kernel)
theorem iX7_followTable_69 : zSnd zZC zmX7_followTable 69 (o_iload 4 71) := s_iload (by decide +kernel)
theorem iX7_followTable_71 : zSnd zZC zmX7_followTable 71 (o_istore 2 72) := s_istore_n (k := 2) (by decide +kernel) rfl (by decide +kernel)
theorem iX7_followTable_72 : zSnd zZC zmX7_followTable 72 (o_iinc 3 1 75) := s_iinc (a := 1) (by decide +kernel) (by decide +kernel) (by decide +kernel)
theorem iX7_followTable_75 : zSnd zZC zmX7_followTable 75 (o_goto 15) := s_goto (off := (-60)) (by decide +kernel) (by decide +kernel)
theorem iX7_followTable_78 : zSnd zZC zmX7_followTable 78 (o_aload 0 79) := s_aload_n (k := 0) (by decide +kernel) rfl
theorem iX7_followTable_79 : zSnd zZC zmX7_followTable 79 (o_getf zYC 7 1 82) := s_getf zcX7 fX7_19 (by decide +kernel) (by decide +kernel)
theorem iX7_followTable_82 : zSnd zZC zmX7_followTable 82 (o_iload 2 83) := s_iload_n (k := 2) (by decide +kernel) rfl
set_option maxRecDepth 20000 in
theorem iX7_followTable_83 : zSnd zZC zmX7_followTable 83 (o_callV zZC 5 zmX3_take 1 1 86) := s_callVN (idx := 101) zcX3 calX3_take virX3_take dscX3_take (by decide +kernel) (zNW3 170 rfl rfl) (by decide +kernel)
theorem iX7_followTable_86 : zSnd zZC zmX7_followTable 86 (o_pop 87) := s_pop (by decide +kernel)
theorem iX7_followTable_87 : zSnd zZC zmX7_followTable 87 (o_aload 0 88) := s_aload_n (k := 0) (by decide +kernel) rfl
theorem iX7_followTable_88 : zSnd zZC zmX7_followTable 88 (o_getf zYC 7 1 91) := s_getf zcX7 fX7_19 (by decide +kernel) (by decide +kernel)
set_option maxRecDepth 20000 in
theorem iX7_followTable_91 : zSnd zZC zmX7_followTable 91 (o_callV zZC 5 zmX3_forget 0 0 94) := s_callVN (idx := 98) zcX3 calX3_forget virX3_forget dscX3_forget (by decide +kernel) (zNW3 166 rfl rfl) (by decide +kernel)
theorem iX7_followTable_94 : zSnd zZC zmX7_followTable 94 (o_vret) := s_vret rfl (by decide +kernel)
def kX7_followTable : List (Nat × zOp) := [(0, o_aload 0 1),
  (1, o_getf zYC 7 1 4),
  (4, o_ic 127 6),
  (6, o_callV zZC 5 zmX3_take 1 1 9),
  (9, o_pop 10),
  (10, o_ic 64 12),
  (12, o_istore 2 13),
  (13, o_ic 0 14),
  (14, o_istore 3 15),
  (15, o_iload 3 16),
  (16, o_aload 1 17),
  (17, o_getf zYC 6 1 20),
  (20, o_icmp (fun x y => y ≤ x) 78 23),
  (23, o_iload 3 24),
  (24, o_aload 1 25),
  (25, o_getf zYC 6 0 28),
  (28, o_alen zYC 29),
  (29, o_icmp (fun x y => y ≤ x) 78 32),
  (32, o_aload 0 33),
  (33, o_getf zYC 7 1 36),
  (36, o_aload 1 37),
  (37, o_getf zYC 6 0 40),
  (40, o_iload 3 41),
  (41, o_lald zYC 42),
  (42, o_callV zZC 5 zmX3_labelType 1 1 45),
  (45, o_istore 4 47),
  (47, o_aload 0 48),
  (48, o_getf zYC 7 1 51),
  (51, o_iload 3 52),
  (52, o_if0 (fun x => x = 0) 61 55),
  (55, o_iload 4 57),
  (57, o_iload 2 58),
  (58, o_icmp (fun x y => x = y) 61 65),
  (61, o_ic 1 62),
  (62, o_goto 66),
  (65, o_ic 0 66),
  (66, o_callV zZC 5 zmX3_demand 1 0 69),
  (69, o_iload 4 71),
  (71, o_istore 2 72),
  (72, o_iinc 3 1 75),
  (75, o_goto 15),
  (78, o_aload 0 79),
  (79, o_getf zYC 7 1 82),
  (82, o_iload 2 83),
  (83, o_callV zZC 5 zmX3_take 1 1 86),
  (86, o_pop 87),
  (87, o_aload 0 88),
  (88, o_getf zYC 7 1 91),
  (91, o_callV zZC 5 zmX3_forget 0 0 94),
  (94, o_vret)]
set_option maxRecDepth 100000 in
theorem ksX7_followTable : ∀ q ∈ kX7_followTable, zSnd zZC zmX7_followTable q.1 q.2 := zcc iX7_followTable_0 (zcc iX7_followTable_1 (zcc iX7_followTable_4 (zcc iX7_followTable_6 (zcc iX7_followTable_9 (zcc iX7_followTable_10 (zcc iX7_followTable_12 (zcc iX7_followTable_13 (zcc iX7_followTable_14 (zcc iX7_followTable_15 (zcc iX7_followTable_16 (zcc iX7_followTable_17 (zcc iX7_followTable_20 (zcc iX7_followTable_23 (zcc iX7_followTable_24 (zcc iX7_followTable_25 (zcc iX7_followTable_28 (zcc iX7_followTable_29 (zcc iX7_followTable_32 (zcc iX7_followTable_33 (zcc iX7_followTable_36 (zcc iX7_followTable_37 (zcc iX7_followTable_40 (zcc iX7_followTable_41 (zcc iX7_followTable_42 (zcc iX7_followTable_45 (zcc iX7_followTable_47 (zcc iX7_followTable_48 (zcc iX7_followTable_51 (zcc iX7_followTable_52 (zcc iX7_followTable_55 (zcc iX7_followTable_57 (zcc iX7_followTable_58 (zcc iX7_followTable_61 (zcc iX7_followTable_62 (zcc iX7_followTable_65 (zcc iX7_followTable_66 (zcc iX7_followTable_69 (zcc iX7_followTable_71 (zcc iX7_followTable_72 (zcc iX7_followTable_75 (zcc iX7_followTable_78 (zcc iX7_followTable_79 (zcc iX7_followTable_82 (zcc iX7_followTable_83 (zcc iX7_followTable_86 (zcc iX7_followTable_87 (zcc iX7_followTable_88 (zcc iX7_followTable_91 (zcc iX7_followTable_94 zcn)))))))))))))))))))))))))))))))))))))))))))))))))
