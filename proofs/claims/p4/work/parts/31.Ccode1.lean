theorem iX0_addCode_0 : zSnd zZC zmX0_addCode 0 (o_aload 0 1) := s_aload_n (k := 0) (by decide +kernel) rfl
theorem iX0_addCode_1 : zSnd zZC zmX0_addCode 1 (o_getf zYC 8 5 4) := s_getf zcX0 fX0_28 (by decide +kernel) (by decide +kernel)
theorem iX0_addCode_4 : zSnd zZC zmX0_addCode 4 (o_if0 (fun x => x < 0) 40 7) := s_if_lt (off := 36) (by decide +kernel) (by decide +kernel)
theorem iX0_addCode_7 : zSnd zZC zmX0_addCode 7 (o_aload 0 8) := s_aload_n (k := 0) (by decide +kernel) rfl
theorem iX0_addCode_8 : zSnd zZC zmX0_addCode 8 (o_getf zYC 8 5 11) := s_getf zcX0 fX0_28 (by decide +kernel) (by decide +kernel)
theorem iX0_addCode_11 : zSnd zZC zmX0_addCode 11 (o_aload 0 12) := s_aload_n (k := 0) (by decide +kernel) rfl
theorem iX0_addCode_12 : zSnd zZC zmX0_addCode 12 (o_getf zYC 8 4 15) := s_getf zcX0 fX0_24 (by decide +kernel) (by decide +kernel)
theorem iX0_addCode_15 : zSnd zZC zmX0_addCode 15 (o_alen zYC 16) := s_alen zYC_arr (by decide +kernel)
theorem iX0_addCode_16 : zSnd zZC zmX0_addCode 16 (o_icmp (fun x y => y ≤ x) 40 19) := s_icmp_ge (off := 24) (by decide +kernel) (by decide +kernel)
theorem iX0_addCode_19 : zSnd zZC zmX0_addCode 19 (o_aload 0 20) := s_aload_n (k := 0) (by decide +kernel) rfl
theorem iX0_addCode_20 : zSnd zZC zmX0_addCode 20 (o_getf zYC 8 4 23) := s_getf zcX0 fX0_24 (by decide +kernel) (by decide +kernel)
theorem iX0_addCode_23 : zSnd zZC zmX0_addCode 23 (o_aload 0 24) := s_aload_n (k := 0) (by decide +kernel) rfl
theorem iX0_addCode_24 : zSnd zZC zmX0_addCode 24 (o_getf zYC 8 5 27) := s_getf zcX0 fX0_28 (by decide +kernel) (by decide +kernel)
theorem iX0_addCode_27 : zSnd zZC zmX0_addCode 27 (o_iload 1 28) := s_iload_n (k := 1) (by decide +kernel) rfl
theorem iX0_addCode_28 : zSnd zZC zmX0_addCode 28 (o_iun (fun x => x.toInt16.toInt32) 29) := s_i2s (by decide +kernel)
theorem iX0_addCode_29 : zSnd zZC zmX0_addCode 29 (o_ast zYC .short (fun x => vp_nar .short x) 30) := s_sast (by decide +kernel)
theorem iX0_addCode_30 : zSnd zZC zmX0_addCode 30 (o_aload 0 31) := s_aload_n (k := 0) (by decide +kernel) rfl
theorem iX0_addCode_31 : zSnd zZC zmX0_addCode 31 (o_dup 32) := s_dup (by decide +kernel)
theorem iX0_addCode_32 : zSnd zZC zmX0_addCode 32 (o_getf zYC 8 5 35) := s_getf zcX0 fX0_28 (by decide +kernel) (by decide +kernel)
theorem iX0_addCode_35 : zSnd zZC zmX0_addCode 35 (o_ic 1 36) := s_iconst (i := 1) (by decide +kernel) (by decide +kernel)
theorem iX0_addCode_36 : zSnd zZC zmX0_addCode 36 (o_ibin (fun x y => x + y) 37) := s_iadd (by decide +kernel)
theorem iX0_addCode_37 : zSnd zZC zmX0_addCode 37 (o_putI zYC 8 5 40) := s_putI zcX0 fX0_28 (by decide +kernel) rfl rfl (by decide +kernel)
theorem iX0_addCode_40 : zSnd zZC zmX0_addCode 40 (o_vret) := s_vret rfl (by decide +kernel)
def kX0_addCode : List (Nat × zOp) := [(0, o_aload 0 1),
  (1, o_getf zYC 8 5 4),
  (4, o_if0 (fun x => x < 0) 40 7),
  (7, o_aload 0 8),
  (8, o_getf zYC 8 5 11),
  (11, o_aload 0 12),
  (12, o_getf zYC 8 4 15),
  (15, o_alen zYC 16),
  (16, o_icmp (fun x y => y ≤ x) 40 19),
  (19, o_aload 0 20),
  (20, o_getf zYC 8 4 23),
  (23, o_aload 0 24),
  (24, o_getf zYC 8 5 27),
  (27, o_iload 1 28),
  (28, o_iun (fun x => x.toInt16.toInt32) 29),
  (29, o_ast zYC .short (fun x => vp_nar .short x) 30),
  (30, o_aload 0 31),
  (31, o_dup 32),
  (32, o_getf zYC 8 5 35),
  (35, o_ic 1 36),
  (36, o_ibin (fun x y => x + y) 37),
  (37, o_putI zYC 8 5 40),
  (40, o_vret)]
set_option maxRecDepth 100000 in
theorem ksX0_addCode : ∀ q ∈ kX0_addCode, zSnd zZC zmX0_addCode q.1 q.2 := zcc iX0_addCode_0 (zcc iX0_addCode_1 (zcc iX0_addCode_4 (zcc iX0_addCode_7 (zcc iX0_addCode_8 (zcc iX0_addCode_11 (zcc iX0_addCode_12 (zcc iX0_addCode_15 (zcc iX0_addCode_16 (zcc iX0_addCode_19 (zcc iX0_addCode_20 (zcc iX0_addCode_23 (zcc iX0_addCode_24 (zcc iX0_addCode_27 (zcc iX0_addCode_28 (zcc iX0_addCode_29 (zcc iX0_addCode_30 (zcc iX0_addCode_31 (zcc iX0_addCode_32 (zcc iX0_addCode_35 (zcc iX0_addCode_36 (zcc iX0_addCode_37 (zcc iX0_addCode_40 zcn))))))))))))))))))))))
theorem iX0_beginBody_0 : zSnd zZC zmX0_beginBody 0 (o_iload 1 1) := s_iload_n (k := 1) (by decide +kernel) rfl
theorem iX0_beginBody_1 : zSnd zZC zmX0_beginBody 1 (o_if0 (fun x => x < 0) 30 4) := s_if_lt (off := 29) (by decide +kernel) (by decide +kernel)
theorem iX0_beginBody_4 : zSnd zZC zmX0_beginBody 4 (o_iload 1 5) := s_iload_n (k := 1) (by decide +kernel) rfl
theorem iX0_beginBody_5 : zSnd zZC zmX0_beginBody 5 (o_aload 0 6) := s_aload_n (k := 0) (by decide +kernel) rfl
theorem iX0_beginBody_6 : zSnd zZC zmX0_beginBody 6 (o_getf zYC 8 1 9) := s_getf zcX0 fX0_15 (by decide +kernel) (by decide +kernel)
theorem iX0_beginBody_9 : zSnd zZC zmX0_beginBody 9 (o_alen zYC 10) := s_alen zYC_arr (by decide +kernel)
theorem iX0_beginBody_10 : zSnd zZC zmX0_beginBody 10 (o_icmp (fun x y => y ≤ x) 30 13) := s_icmp_ge (off := 20) (by decide +kernel) (by decide +kernel)
theorem iX0_beginBody_13 : zSnd zZC zmX0_beginBody 13 (o_aload 0 14) := s_aload_n (k := 0) (by decide +kernel) rfl
theorem iX0_beginBody_14 : zSnd zZC zmX0_beginBody 14 (o_getf zYC 8 1 17) := s_getf zcX0 fX0_15 (by decide +kernel) (by decide +kernel)
theorem iX0_beginBody_17 : zSnd zZC zmX0_beginBody 17 (o_iload 1 18) := s_iload_n (k := 1) (by decide +kernel) rfl
theorem iX0_beginBody_18 : zSnd zZC zmX0_beginBody 18 (o_aload 0 19) := s_aload_n (k := 0) (by decide +kernel) rfl
theorem iX0_beginBody_19 : zSnd zZC zmX0_beginBody 19 (o_getf zYC 8 5 22) := s_getf zcX0 fX0_28 (by decide +kernel) (by decide +kernel)
theorem iX0_beginBody_22 : zSnd zZC zmX0_beginBody 22 (o_ast zYC .int (fun x => x) 23) := s_iast (by decide +kernel)
theorem iX0_beginBody_23 : zSnd zZC zmX0_beginBody 23 (o_aload 0 24) := s_aload_n (k := 0) (by decide +kernel) rfl
theorem iX0_beginBody_24 : zSnd zZC zmX0_beginBody 24 (o_getf zYC 8 3 27) := s_getf zcX0 fX0_21 (by decide +kernel) (by decide +kernel)
theorem iX0_beginBody_27 : zSnd zZC zmX0_beginBody 27 (o_iload 1 28) := s_iload_n (k := 1) (by decide +kernel) rfl
theorem iX0_beginBody_28 : zSnd zZC zmX0_beginBody 28 (o_iload 2 29) := s_iload_n (k := 2) (by decide +kernel) rfl
theorem iX0_beginBody_29 : zSnd zZC zmX0_beginBody 29 (o_ast zYC .int (fun x => x) 30) := s_iast (by decide +kernel)
theorem iX0_beginBody_30 : zSnd zZC zmX0_beginBody 30 (o_vret) := s_vret rfl (by decide +kernel)
def kX0_beginBody : List (Nat × zOp) := [(0, o_iload 1 1),
  (1, o_if0 (fun x => x < 0) 30 4),
  (4, o_iload 1 5),
  (5, o_aload 0 6),
  (6, o_getf zYC 8 1 9),
  (9, o_alen zYC 10),
  (10, o_icmp (fun x y => y ≤ x) 30 13),
  (13, o_aload 0 14),
  (14, o_getf zYC 8 1 17),
  (17, o_iload 1 18),
  (18, o_aload 0 19),
  (19, o_getf zYC 8 5 22),
  (22, o_ast zYC .int (fun x => x) 23),
  (23, o_aload 0 24),
  (24, o_getf zYC 8 3 27),
  (27, o_iload 1 28),
  (28, o_iload 2 29),
  (29, o_ast zYC .int (fun x => x) 30),
  (30, o_vret)]
set_option maxRecDepth 100000 in
theorem ksX0_beginBody : ∀ q ∈ kX0_beginBody, zSnd zZC zmX0_beginBody q.1 q.2 := zcc iX0_beginBody_0 (zcc iX0_beginBody_1 (zcc iX0_beginBody_4 (zcc iX0_beginBody_5 (zcc iX0_beginBody_6 (zcc iX0_beginBody_9 (zcc iX0_beginBody_10 (zcc iX0_beginBody_13 (zcc iX0_beginBody_14 (zcc iX0_beginBody_17 (zcc iX0_beginBody_18 (zcc iX0_beginBody_19 (zcc iX0_beginBody_22 (zcc iX0_beginBody_23 (zcc iX0_beginBody_24 (zcc iX0_beginBody_27 (zcc iX0_beginBody_28 (zcc iX0_beginBody_29 (zcc iX0_beginBody_30 zcn))))))))))))))))))
theorem iX0_copy_0 : zSnd zZC zmX0_copy 0 (o_aload 1 1) := s_aload_n (k := 1) (by decide +kernel) rfl
theorem iX0_copy_1 : zSnd zZC zmX0_copy 1 (o_getf zYC 8 0 4) := s_getf zcX0 fX0_9 (by decide +kernel) (by decide +kernel)
theorem iX0_copy_4 : zSnd zZC zmX0_copy 4 (o_ic 0 5) := s_iconst (i := 0) (by decide +kernel) (by decide +kernel)
theorem iX0_copy_5 : zSnd zZC zmX0_copy 5 (o_aload 0 6) := s_aload_n (k := 0) (by decide +kernel) rfl
theorem iX0_copy_6 : zSnd zZC zmX0_copy 6 (o_getf zYC 8 0 9) := s_getf zcX0 fX0_9 (by decide +kernel) (by decide +kernel)
theorem iX0_copy_9 : zSnd zZC zmX0_copy 9 (o_ic 0 10) := s_iconst (i := 0) (by decide +kernel) (by decide +kernel)
theorem iX0_copy_10 : zSnd zZC zmX0_copy 10 (o_aload 0 11) := s_aload_n (k := 0) (by decide +kernel) rfl
theorem iX0_copy_11 : zSnd zZC zmX0_copy 11 (o_getf zYC 8 0 14) := s_getf zcX0 fX0_9 (by decide +kernel) (by decide +kernel)
theorem iX0_copy_14 : zSnd zZC zmX0_copy 14 (o_alen zYC 15) := s_alen zYC_arr (by decide +kernel)
set_option maxRecDepth 20000 in
theorem iX0_copy_15 : zSnd zZC zmX0_copy 15 (o_acopy zYC 18) := s_acopy (zWS4 70 rfl rfl) (zWS4 72 rfl rfl) (zWS4 71 rfl rfl) (zWS1 17 rfl rfl) (by decide +kernel) (by decide +kernel)
theorem iX0_copy_18 : zSnd zZC zmX0_copy 18 (o_aload 1 19) := s_aload_n (k := 1) (by decide +kernel) rfl
theorem iX0_copy_19 : zSnd zZC zmX0_copy 19 (o_getf zYC 8 1 22) := s_getf zcX0 fX0_15 (by decide +kernel) (by decide +kernel)
theorem iX0_copy_22 : zSnd zZC zmX0_copy 22 (o_ic 0 23) := s_iconst (i := 0) (by decide +kernel) (by decide +kernel)
theorem iX0_copy_23 : zSnd zZC zmX0_copy 23 (o_aload 0 24) := s_aload_n (k := 0) (by decide +kernel) rfl
theorem iX0_copy_24 : zSnd zZC zmX0_copy 24 (o_getf zYC 8 1 27) := s_getf zcX0 fX0_15 (by decide +kernel) (by decide +kernel)
theorem iX0_copy_27 : zSnd zZC zmX0_copy 27 (o_ic 0 28) := s_iconst (i := 0) (by decide +kernel) (by decide +kernel)
theorem iX0_copy_28 : zSnd zZC zmX0_copy 28 (o_aload 0 29) := s_aload_n (k := 0) (by decide +kernel) rfl
theorem iX0_copy_29 : zSnd zZC zmX0_copy 29 (o_getf zYC 8 1 32) := s_getf zcX0 fX0_15 (by decide +kernel) (by decide +kernel)
theorem iX0_copy_32 : zSnd zZC zmX0_copy 32 (o_alen zYC 33) := s_alen zYC_arr (by decide +kernel)
set_option maxRecDepth 20000 in
theorem iX0_copy_33 : zSnd zZC zmX0_copy 33 (o_acopy zYC 36) := s_acopy (zWS4 70 rfl rfl) (zWS4 72 rfl rfl) (zWS4 71 rfl rfl) (zWS1 17 rfl rfl) (by decide +kernel) (by decide +kernel)
theorem iX0_copy_36 : zSnd zZC zmX0_copy 36 (o_aload 1 37) := s_aload_n (k := 1) (by decide +kernel) rfl
theorem iX0_copy_37 : zSnd zZC zmX0_copy 37 (o_getf zYC 8 2 40) := s_getf zcX0 fX0_18 (by decide +kernel) (by decide +kernel)
theorem iX0_copy_40 : zSnd zZC zmX0_copy 40 (o_ic 0 41) := s_iconst (i := 0) (by decide +kernel) (by decide +kernel)
theorem iX0_copy_41 : zSnd zZC zmX0_copy 41 (o_aload 0 42) := s_aload_n (k := 0) (by decide +kernel) rfl
theorem iX0_copy_42 : zSnd zZC zmX0_copy 42 (o_getf zYC 8 2 45) := s_getf zcX0 fX0_18 (by decide +kernel) (by decide +kernel)
theorem iX0_copy_45 : zSnd zZC zmX0_copy 45 (o_ic 0 46) := s_iconst (i := 0) (by decide +kernel) (by decide +kernel)
theorem iX0_copy_46 : zSnd zZC zmX0_copy 46 (o_aload 0 47) := s_aload_n (k := 0) (by decide +kernel) rfl
theorem iX0_copy_47 : zSnd zZC zmX0_copy 47 (o_getf zYC 8 2 50) := s_getf zcX0 fX0_18 (by decide +kernel) (by decide +kernel)
theorem iX0_copy_50 : zSnd zZC zmX0_copy 50 (o_alen zYC 51) := s_alen zYC_arr (by decide +kernel)
set_option maxRecDepth 20000 in
theorem iX0_copy_51 : zSnd zZC zmX0_copy 51 (o_acopy zYC 54) := s_acopy (zWS4 70 rfl rfl) (zWS4 72 rfl rfl) (zWS4 71 rfl rfl) (zWS1 17 rfl rfl) (by decide +kernel) (by decide +kernel)
theorem iX0_copy_54 : zSnd zZC zmX0_copy 54 (o_aload 1 55) := s_aload_n (k := 1) (by decide +kernel) rfl
theorem iX0_copy_55 : zSnd zZC zmX0_copy 55 (o_getf zYC 8 3 58) := s_getf zcX0 fX0_21 (by decide +kernel) (by decide +kernel)
theorem iX0_copy_58 : zSnd zZC zmX0_copy 58 (o_ic 0 59) := s_iconst (i := 0) (by decide +kernel) (by decide +kernel)
theorem iX0_copy_59 : zSnd zZC zmX0_copy 59 (o_aload 0 60) := s_aload_n (k := 0) (by decide +kernel) rfl
theorem iX0_copy_60 : zSnd zZC zmX0_copy 60 (o_getf zYC 8 3 63) := s_getf zcX0 fX0_21 (by decide +kernel) (by decide +kernel)
theorem iX0_copy_63 : zSnd zZC zmX0_copy 63 (o_ic 0 64) := s_iconst (i := 0) (by decide +kernel) (by decide +kernel)
theorem iX0_copy_64 : zSnd zZC zmX0_copy 64 (o_aload 0 65) := s_aload_n (k := 0) (by decide +kernel) rfl
theorem iX0_copy_65 : zSnd zZC zmX0_copy 65 (o_getf zYC 8 3 68) := s_getf zcX0 fX0_21 (by decide +kernel) (by decide +kernel)
theorem iX0_copy_68 : zSnd zZC zmX0_copy 68 (o_alen zYC 69) := s_alen zYC_arr (by decide +kernel)
set_option maxRecDepth 20000 in
theorem iX0_copy_69 : zSnd zZC zmX0_copy 69 (o_acopy zYC 72) := s_acopy (zWS4 70 rfl rfl) (zWS4 72 rfl rfl) (zWS4 71 rfl rfl) (zWS1 17 rfl rfl) (by decide +kernel) (by decide +kernel)
theorem iX0_copy_72 : zSnd zZC zmX0_copy 72 (o_aload 0 73) := s_aload_n (k := 0) (by decide +kernel) rfl
theorem iX0_copy_73 : zSnd zZC zmX0_copy 73 (o_ic 0 74) := s_iconst (i := 0) (by decide +kernel) (by decide +kernel)
theorem iX0_copy_74 : zSnd zZC zmX0_copy 74 (o_aload 1 75) := s_aload_n (k := 1) (by decide +kernel) rfl
theorem iX0_copy_75 : zSnd zZC zmX0_copy 75 (o_getf zYC 8 5 78) := s_getf zcX0 fX0_28 (by decide +kernel) (by decide +kernel)
theorem iX0_copy_78 : zSnd zZC zmX0_copy 78 (o_aload 0 79) := s_aload_n (k := 0) (by decide +kernel) rfl
theorem iX0_copy_79 : zSnd zZC zmX0_copy 79 (o_getf zYC 8 4 82) := s_getf zcX0 fX0_24 (by decide +kernel) (by decide +kernel)
theorem iX0_copy_82 : zSnd zZC zmX0_copy 82 (o_alen zYC 83) := s_alen zYC_arr (by decide +kernel)
set_option maxRecDepth 20000 in
theorem iX0_copy_83 : zSnd zZC zmX0_copy 83 (o_imin 86) := s_imin iminwC_1 iminwC_2 iminwC_3 (zWS4 73 rfl rfl) (by decide +kernel) (by decide +kernel)
set_option maxRecDepth 20000 in
theorem iX0_copy_86 : zSnd zZC zmX0_copy 86 (o_imax 89) := s_imax imaxwC_1 imaxwC_2 imaxwC_3 (zWS4 76 rfl rfl) (by decide +kernel) (by decide +kernel)
theorem iX0_copy_89 : zSnd zZC zmX0_copy 89 (o_putI zYC 8 5 92) := s_putI zcX0 fX0_28 (by decide +kernel) rfl rfl (by decide +kernel)
theorem iX0_copy_92 : zSnd zZC zmX0_copy 92 (o_aload 1 93) := s_aload_n (k := 1) (by decide +kernel) rfl
theorem iX0_copy_93 : zSnd zZC zmX0_copy 93 (o_getf zYC 8 4 96) := s_getf zcX0 fX0_24 (by decide +kernel) (by decide +kernel)
theorem iX0_copy_96 : zSnd zZC zmX0_copy 96 (o_ic 0 97) := s_iconst (i := 0) (by decide +kernel) (by decide +kernel)
theorem iX0_copy_97 : zSnd zZC zmX0_copy 97 (o_aload 0 98) := s_aload_n (k := 0) (by decide +kernel) rfl
theorem iX0_copy_98 : zSnd zZC zmX0_copy 98 (o_getf zYC 8 4 101) := s_getf zcX0 fX0_24 (by decide +kernel) (by decide +kernel)
theorem iX0_copy_101 : zSnd zZC zmX0_copy 101 (o_ic 0 102) := s_iconst (i := 0) (by decide +kernel) (by decide +kernel)
theorem iX0_copy_102 : zSnd zZC zmX0_copy 102 (o_aload 0 103) := s_aload_n (k := 0) (by decide +kernel) rfl
theorem iX0_copy_103 : zSnd zZC zmX0_copy 103 (o_getf zYC 8 5 106) := s_getf zcX0 fX0_28 (by decide +kernel) (by decide +kernel)
set_option maxRecDepth 20000 in
theorem iX0_copy_106 : zSnd zZC zmX0_copy 106 (o_acopy zYC 109) := s_acopy (zWS4 70 rfl rfl) (zWS4 72 rfl rfl) (zWS4 71 rfl rfl) (zWS1 17 rfl rfl) (by decide +kernel) (by decide +kernel)
theorem iX0_copy_109 : zSnd zZC zmX0_copy 109 (o_aload 0 110) := s_aload_n (k := 0) (by decide +kernel) rfl
theorem iX0_copy_110 : zSnd zZC zmX0_copy 110 (o_aload 1 111) := s_aload_n (k := 1) (by decide +kernel) rfl
theorem iX0_copy_111 : zSnd zZC zmX0_copy 111 (o_getf zYC 8 6 114) := s_getf zcX0 fX0_37 (by decide +kernel) (by decide +kernel)
theorem iX0_copy_114 : zSnd zZC zmX0_copy 114 (o_putI zYC 8 6 117) := s_putI zcX0 fX0_37 (by decide +kernel) rfl rfl (by decide +kernel)
theorem iX0_copy_117 : zSnd zZC zmX0_copy 117 (o_aload 0 118) := s_aload_n (k := 0) (by decide +kernel) rfl
theorem iX0_copy_118 : zSnd zZC zmX0_copy 118 (o_ic 1 119) := s_iconst (i := 1) (by decide +kernel) (by decide +kernel)
theorem iX0_copy_119 : zSnd zZC zmX0_copy 119 (o_putZ zYC 8 7 122) := s_putZ zcX0 fX0_55 (by decide +kernel) rfl rfl (by decide +kernel)
theorem iX0_copy_122 : zSnd zZC zmX0_copy 122 (o_vret) := s_vret rfl (by decide +kernel)
def kX0_copy : List (Nat × zOp) := [(0, o_aload 1 1),
  (1, o_getf zYC 8 0 4),
  (4, o_ic 0 5),
  (5, o_aload 0 6),
  (6, o_getf zYC 8 0 9),
  (9, o_ic 0 10),
  (10, o_aload 0 11),
  (11, o_getf zYC 8 0 14),
  (14, o_alen zYC 15),
  (15, o_acopy zYC 18),
  (18, o_aload 1 19),
  (19, o_getf zYC 8 1 22),
  (22, o_ic 0 23),
  (23, o_aload 0 24),
  (24, o_getf zYC 8 1 27),
  (27, o_ic 0 28),
  (28, o_aload 0 29),
  (29, o_getf zYC 8 1 32),
  (32, o_alen zYC 33),
  (33, o_acopy zYC 36),
  (36, o_aload 1 37),
  (37, o_getf zYC 8 2 40),
  (40, o_ic 0 41),
  (41, o_aload 0 42),
  (42, o_getf zYC 8 2 45),
  (45, o_ic 0 46),
  (46, o_aload 0 47),
  (47, o_getf zYC 8 2 50),
  (50, o_alen zYC 51),
  (51, o_acopy zYC 54),
  (54, o_aload 1 55),
  (55, o_getf zYC 8 3 58),
  (58, o_ic 0 59),
  (59, o_aload 0 60),
  (60, o_getf zYC 8 3 63),
  (63, o_ic 0 64),
  (64, o_aload 0 65),
  (65, o_getf zYC 8 3 68),
  (68, o_alen zYC 69),
  (69, o_acopy zYC 72),
  (72, o_aload 0 73),
  (73, o_ic 0 74),
  (74, o_aload 1 75),
  (75, o_getf zYC 8 5 78),
  (78, o_aload 0 79),
  (79, o_getf zYC 8 4 82),
  (82, o_alen zYC 83),
  (83, o_imin 86),
  (86, o_imax 89),
  (89, o_putI zYC 8 5 92),
  (92, o_aload 1 93),
  (93, o_getf zYC 8 4 96),
  (96, o_ic 0 97),
  (97, o_aload 0 98),
  (98, o_getf zYC 8 4 101),
  (101, o_ic 0 102),
  (102, o_aload 0 103),
  (103, o_getf zYC 8 5 106),
  (106, o_acopy zYC 109),
  (109, o_aload 0 110),
  (110, o_aload 1 111),
  (111, o_getf zYC 8 6 114),
  (114, o_putI zYC 8 6 117),
  (117, o_aload 0 118),
  (118, o_ic 1 119),
  (119, o_putZ zYC 8 7 122),
  (122, o_vret)]
set_option maxRecDepth 100000 in
theorem ksX0_copy : ∀ q ∈ kX0_copy, zSnd zZC zmX0_copy q.1 q.2 := zcc iX0_copy_0 (zcc iX0_copy_1 (zcc iX0_copy_4 (zcc iX0_copy_5 (zcc iX0_copy_6 (zcc iX0_copy_9 (zcc iX0_copy_10 (zcc iX0_copy_11 (zcc iX0_copy_14 (zcc iX0_copy_15 (zcc iX0_copy_18 (zcc iX0_copy_19 (zcc iX0_copy_22 (zcc iX0_copy_23 (zcc iX0_copy_24 (zcc iX0_copy_27 (zcc iX0_copy_28 (zcc iX0_copy_29 (zcc iX0_copy_32 (zcc iX0_copy_33 (zcc iX0_copy_36 (zcc iX0_copy_37 (zcc iX0_copy_40 (zcc iX0_copy_41 (zcc iX0_copy_42 (zcc iX0_copy_45 (zcc iX0_copy_46 (zcc iX0_copy_47 (zcc iX0_copy_50 (zcc iX0_copy_51 (zcc iX0_copy_54 (zcc iX0_copy_55 (zcc iX0_copy_58 (zcc iX0_copy_59 (zcc iX0_copy_60 (zcc iX0_copy_63 (zcc iX0_copy_64 (zcc iX0_copy_65 (zcc iX0_copy_68 (zcc iX0_copy_69 (zcc iX0_copy_72 (zcc iX0_copy_73 (zcc iX0_copy_74 (zcc iX0_copy_75 (zcc iX0_copy_78 (zcc iX0_copy_79 (zcc iX0_copy_82 (zcc iX0_copy_83 (zcc iX0_copy_86 (zcc iX0_copy_89 (zcc iX0_copy_92 (zcc iX0_copy_93 (zcc iX0_copy_96 (zcc iX0_copy_97 (zcc iX0_copy_98 (zcc iX0_copy_101 (zcc iX0_copy_102 (zcc iX0_copy_103 (zcc iX0_copy_106 (zcc iX0_copy_109 (zcc iX0_copy_110 (zcc iX0_copy_111 (zcc iX0_copy_114 (zcc iX0_copy_117 (zcc iX0_copy_118 (zcc iX0_copy_119 (zcc iX0_copy_122 zcn))))))))))))))))))))))))))))))))))))))))))))))))))))))))))))))))))
theorem iX0_countOf_0 : zSnd zZC zmX0_countOf 0 (o_aload 0 1) := s_aload_n (k := 0) (by decide +kernel) rfl
theorem iX0_countOf_1 : zSnd zZC zmX0_countOf 1 (o_getf zYC 8 7 4) := s_getf zcX0 fX0_55 (by decide +kernel) (by decide +kernel)
theorem iX0_countOf_4 : zSnd zZC zmX0_countOf 4 (o_if0 (fun x => x = 0) 29 7) := s_if_eq (off := 25) (by decide +kernel) (by decide +kernel)
theorem iX0_countOf_7 : zSnd zZC zmX0_countOf 7 (o_iload 1 8) := s_iload_n (k := 1) (by decide +kernel) rfl
theorem iX0_countOf_8 : zSnd zZC zmX0_countOf 8 (o_if0 (fun x => x < 0) 29 11) := s_if_lt (off := 21) (by decide +kernel) (by decide +kernel)
theorem iX0_countOf_11 : zSnd zZC zmX0_countOf 11 (o_iload 1 12) := s_iload_n (k := 1) (by decide +kernel) rfl
theorem iX0_countOf_12 : zSnd zZC zmX0_countOf 12 (o_aload 0 13) := s_aload_n (k := 0) (by decide +kernel) rfl
theorem iX0_countOf_13 : zSnd zZC zmX0_countOf 13 (o_getf zYC 8 0 16) := s_getf zcX0 fX0_9 (by decide +kernel) (by decide +kernel)
theorem iX0_countOf_16 : zSnd zZC zmX0_countOf 16 (o_alen zYC 17) := s_alen zYC_arr (by decide +kernel)
theorem iX0_countOf_17 : zSnd zZC zmX0_countOf 17 (o_icmp (fun x y => y ≤ x) 29 20) := s_icmp_ge (off := 12) (by decide +kernel) (by decide +kernel)
theorem iX0_countOf_20 : zSnd zZC zmX0_countOf 20 (o_aload 0 21) := s_aload_n (k := 0) (by decide +kernel) rfl
theorem iX0_countOf_21 : zSnd zZC zmX0_countOf 21 (o_getf zYC 8 0 24) := s_getf zcX0 fX0_9 (by decide +kernel) (by decide +kernel)
theorem iX0_countOf_24 : zSnd zZC zmX0_countOf 24 (o_iload 1 25) := s_iload_n (k := 1) (by decide +kernel) rfl
theorem iX0_countOf_25 : zSnd zZC zmX0_countOf 25 (o_ald zYC .int 26) := s_iald (by decide +kernel)
theorem iX0_countOf_26 : zSnd zZC zmX0_countOf 26 (o_goto 30) := s_goto (off := 4) (by decide +kernel) (by decide +kernel)
theorem iX0_countOf_29 : zSnd zZC zmX0_countOf 29 (o_ic (-1) 30) := s_iconst (i := (-1)) (by decide +kernel) (by decide +kernel)
theorem iX0_countOf_30 : zSnd zZC zmX0_countOf 30 (o_iret) := s_iret rfl (by decide +kernel)
def kX0_countOf : List (Nat × zOp) := [(0, o_aload 0 1),
  (1, o_getf zYC 8 7 4),
  (4, o_if0 (fun x => x = 0) 29 7),
  (7, o_iload 1 8),
  (8, o_if0 (fun x => x < 0) 29 11),
  (11, o_iload 1 12),
  (12, o_aload 0 13),
  (13, o_getf zYC 8 0 16),
  (16, o_alen zYC 17),
  (17, o_icmp (fun x y => y ≤ x) 29 20),
  (20, o_aload 0 21),
  (21, o_getf zYC 8 0 24),
  (24, o_iload 1 25),
  (25, o_ald zYC .int 26),
  (26, o_goto 30),
  (29, o_ic (-1) 30),
  (30, o_iret)]
set_option maxRecDepth 100000 in
theorem ksX0_countOf : ∀ q ∈ kX0_countOf, zSnd zZC zmX0_countOf q.1 q.2 := zcc iX0_countOf_0 (zcc iX0_countOf_1 (zcc iX0_countOf_4 (zcc iX0_countOf_7 (zcc iX0_countOf_8 (zcc iX0_countOf_11 (zcc iX0_countOf_12 (zcc iX0_countOf_13 (zcc iX0_countOf_16 (zcc iX0_countOf_17 (zcc iX0_countOf_20 (zcc iX0_countOf_21 (zcc iX0_countOf_24 (zcc iX0_countOf_25 (zcc iX0_countOf_26 (zcc iX0_countOf_29 (zcc iX0_countOf_30 zcn))))))))))))))))
theorem iX0_endBody_0 : zSnd zZC zmX0_endBody 0 (o_iload 1 1) := s_iload_n (k := 1) (by decide +kernel) rfl
theorem iX0_endBody_1 : zSnd zZC zmX0_endBody 1 (o_if0 (fun x => x < 0) 30 4) := s_if_lt (off := 29) (by decide +kernel) (by decide +kernel)
theorem iX0_endBody_4 : zSnd zZC zmX0_endBody 4 (o_iload 1 5) := s_iload_n (k := 1) (by decide +kernel) rfl
theorem iX0_endBody_5 : zSnd zZC zmX0_endBody 5 (o_aload 0 6) := s_aload_n (k := 0) (by decide +kernel) rfl
theorem iX0_endBody_6 : zSnd zZC zmX0_endBody 6 (o_getf zYC 8 1 9) := s_getf zcX0 fX0_15 (by decide +kernel) (by decide +kernel)
theorem iX0_endBody_9 : zSnd zZC zmX0_endBody 9 (o_alen zYC 10) := s_alen zYC_arr (by decide +kernel)
theorem iX0_endBody_10 : zSnd zZC zmX0_endBody 10 (o_icmp (fun x y => y ≤ x) 30 13) := s_icmp_ge (off := 20) (by decide +kernel) (by decide +kernel)
theorem iX0_endBody_13 : zSnd zZC zmX0_endBody 13 (o_aload 0 14) := s_aload_n (k := 0) (by decide +kernel) rfl
theorem iX0_endBody_14 : zSnd zZC zmX0_endBody 14 (o_getf zYC 8 2 17) := s_getf zcX0 fX0_18 (by decide +kernel) (by decide +kernel)
theorem iX0_endBody_17 : zSnd zZC zmX0_endBody 17 (o_iload 1 18) := s_iload_n (k := 1) (by decide +kernel) rfl
theorem iX0_endBody_18 : zSnd zZC zmX0_endBody 18 (o_aload 0 19) := s_aload_n (k := 0) (by decide +kernel) rfl
theorem iX0_endBody_19 : zSnd zZC zmX0_endBody 19 (o_getf zYC 8 5 22) := s_getf zcX0 fX0_28 (by decide +kernel) (by decide +kernel)
theorem iX0_endBody_22 : zSnd zZC zmX0_endBody 22 (o_aload 0 23) := s_aload_n (k := 0) (by decide +kernel) rfl
theorem iX0_endBody_23 : zSnd zZC zmX0_endBody 23 (o_getf zYC 8 1 26) := s_getf zcX0 fX0_15 (by decide +kernel) (by decide +kernel)
theorem iX0_endBody_26 : zSnd zZC zmX0_endBody 26 (o_iload 1 27) := s_iload_n (k := 1) (by decide +kernel) rfl
theorem iX0_endBody_27 : zSnd zZC zmX0_endBody 27 (o_ald zYC .int 28) := s_iald (by decide +kernel)
theorem iX0_endBody_28 : zSnd zZC zmX0_endBody 28 (o_ibin (fun x y => x - y) 29) := s_isub (by decide +kernel)
theorem iX0_endBody_29 : zSnd zZC zmX0_endBody 29 (o_ast zYC .int (fun x => x) 30) := s_iast (by decide +kernel)
theorem iX0_endBody_30 : zSnd zZC zmX0_endBody 30 (o_vret) := s_vret rfl (by decide +kernel)
def kX0_endBody : List (Nat × zOp) := [(0, o_iload 1 1),
  (1, o_if0 (fun x => x < 0) 30 4),
  (4, o_iload 1 5),
  (5, o_aload 0 6),
  (6, o_getf zYC 8 1 9),
  (9, o_alen zYC 10),
  (10, o_icmp (fun x y => y ≤ x) 30 13),
  (13, o_aload 0 14),
  (14, o_getf zYC 8 2 17),
  (17, o_iload 1 18),
  (18, o_aload 0 19),
  (19, o_getf zYC 8 5 22),
  (22, o_aload 0 23),
  (23, o_getf zYC 8 1 26),
  (26, o_iload 1 27),
  (27, o_ald zYC .int 28),
  (28, o_ibin (fun x y => x - y) 29),
  (29, o_ast zYC .int (fun x => x) 30),
  (30, o_vret)]
set_option maxRecDepth 100000 in
theorem ksX0_endBody : ∀ q ∈ kX0_endBody, zSnd zZC zmX0_endBody q.1 q.2 := zcc iX0_endBody_0 (zcc iX0_endBody_1 (zcc iX0_endBody_4 (zcc iX0_endBody_5 (zcc iX0_endBody_6 (zcc iX0_endBody_9 (zcc iX0_endBody_10 (zcc iX0_endBody_13 (zcc iX0_endBody_14 (zcc iX0_endBody_17 (zcc iX0_endBody_18 (zcc iX0_endBody_19 (zcc iX0_endBody_22 (zcc iX0_endBody_23 (zcc iX0_endBody_26 (zcc iX0_endBody_27 (zcc iX0_endBody_28 (zcc iX0_endBody_29 (zcc iX0_endBody_30 zcn))))))))))))))))))
theorem iX0_fillCounts_0 : zSnd zZC zmX0_fillCounts 0 (o_ic 0 1) := s_iconst (i := 0) (by decide +kernel) (by decide +kernel)
theorem iX0_fillCounts_1 : zSnd zZC zmX0_fillCounts 1 (o_istore 2 2) := s_istore_n (k := 2) (by decide +kernel) rfl (by decide +kernel)
theorem iX0_fillCounts_2 : zSnd zZC zmX0_fillCounts 2 (o_iload 2 3) := s_iload_n (k := 2) (by decide +kernel) rfl
theorem iX0_fillCounts_3 : zSnd zZC zmX0_fillCounts 3 (o_aload 0 4) := s_aload_n (k := 0) (by decide +kernel) rfl
theorem iX0_fillCounts_4 : zSnd zZC zmX0_fillCounts 4 (o_getf zYC 8 0 7) := s_getf zcX0 fX0_9 (by decide +kernel) (by decide +kernel)
theorem iX0_fillCounts_7 : zSnd zZC zmX0_fillCounts 7 (o_alen zYC 8) := s_alen zYC_arr (by decide +kernel)
theorem iX0_fillCounts_8 : zSnd zZC zmX0_fillCounts 8 (o_icmp (fun x y => y ≤ x) 66 11) := s_icmp_ge (off := 58) (by decide +kernel) (by decide +kernel)
theorem iX0_fillCounts_11 : zSnd zZC zmX0_fillCounts 11 (o_iload 2 12) := s_iload_n (k := 2) (by decide +kernel) rfl
theorem iX0_fillCounts_12 : zSnd zZC zmX0_fillCounts 12 (o_ic 1 13) := s_iconst (i := 1) (by decide +kernel) (by decide +kernel)
theorem iX0_fillCounts_13 : zSnd zZC zmX0_fillCounts 13 (o_icmp (fun x y => x < y) 38 16) := s_icmp_lt (off := 25) (by decide +kernel) (by decide +kernel)
theorem iX0_fillCounts_16 : zSnd zZC zmX0_fillCounts 16 (o_iload 2 17) := s_iload_n (k := 2) (by decide +kernel) rfl
theorem iX0_fillCounts_17 : zSnd zZC zmX0_fillCounts 17 (o_ic 11 19) := s_bipush (i := 11) (by decide +kernel) (by decide +kernel)
theorem iX0_fillCounts_19 : zSnd zZC zmX0_fillCounts 19 (o_icmp (fun x y => y < x) 38 22) := s_icmp_gt (off := 19) (by decide +kernel) (by decide +kernel)
theorem iX0_fillCounts_22 : zSnd zZC zmX0_fillCounts 22 (o_iload 2 23) := s_iload_n (k := 2) (by decide +kernel) rfl
theorem iX0_fillCounts_23 : zSnd zZC zmX0_fillCounts 23 (o_ic 8 25) := s_bipush (i := 8) (by decide +kernel) (by decide +kernel)
theorem iX0_fillCounts_25 : zSnd zZC zmX0_fillCounts 25 (o_icmp (fun x y => x = y) 38 28) := s_icmp_eq (off := 13) (by decide +kernel) (by decide +kernel)
theorem iX0_fillCounts_28 : zSnd zZC zmX0_fillCounts 28 (o_iload 2 29) := s_iload_n (k := 2) (by decide +kernel) rfl
theorem iX0_fillCounts_29 : zSnd zZC zmX0_fillCounts 29 (o_ic 10 31) := s_bipush (i := 10) (by decide +kernel) (by decide +kernel)
theorem iX0_fillCounts_31 : zSnd zZC zmX0_fillCounts 31 (o_icmp (fun x y => x = y) 38 34) := s_icmp_eq (off := 7) (by decide +kernel) (by decide +kernel)
theorem iX0_fillCounts_34 : zSnd zZC zmX0_fillCounts 34 (o_ic 1 35) := s_iconst (i := 1) (by decide +kernel) (by decide +kernel)
theorem iX0_fillCounts_35 : zSnd zZC zmX0_fillCounts 35 (o_goto 39) := s_goto (off := 4) (by decide +kernel) (by decide +kernel)
theorem iX0_fillCounts_38 : zSnd zZC zmX0_fillCounts 38 (o_ic 0 39) := s_iconst (i := 0) (by decide +kernel) (by decide +kernel)
theorem iX0_fillCounts_39 : zSnd zZC zmX0_fillCounts 39 (o_istore 3 40) := s_istore_n (k := 3) (by decide +kernel) rfl (by decide +kernel)
theorem iX0_fillCounts_40 : zSnd zZC zmX0_fillCounts 40 (o_aload 0 41) := s_aload_n (k := 0) (by decide +kernel) rfl
theorem iX0_fillCounts_41 : zSnd zZC zmX0_fillCounts 41 (o_getf zYC 8 0 44) := s_getf zcX0 fX0_9 (by decide +kernel) (by decide +kernel)
theorem iX0_fillCounts_44 : zSnd zZC zmX0_fillCounts 44 (o_iload 2 45) := s_iload_n (k := 2) (by decide +kernel) rfl
theorem iX0_fillCounts_45 : zSnd zZC zmX0_fillCounts 45 (o_iload 3 46) := s_iload_n (k := 3) (by decide +kernel) rfl
theorem iX0_fillCounts_46 : zSnd zZC zmX0_fillCounts 46 (o_if0 (fun x => x = 0) 58 49) := s_if_eq (off := 12) (by decide +kernel) (by decide +kernel)
theorem iX0_fillCounts_49 : zSnd zZC zmX0_fillCounts 49 (o_aload 1 50) := s_aload_n (k := 1) (by decide +kernel) rfl
theorem iX0_fillCounts_50 : zSnd zZC zmX0_fillCounts 50 (o_getf zYC 2 7 53) := s_getf zcX2 fX0_32 (by decide +kernel) (by decide +kernel)
theorem iX0_fillCounts_53 : zSnd zZC zmX0_fillCounts 53 (o_iload 2 54) := s_iload_n (k := 2) (by decide +kernel) rfl
theorem iX0_fillCounts_54 : zSnd zZC zmX0_fillCounts 54 (o_ald zYC .int 55) := s_iald (by decide +kernel)
theorem iX0_fillCounts_55 : zSnd zZC zmX0_fillCounts 55 (o_goto 59) := s_goto (off := 4) (by decide +kernel) (by decide +kernel)
theorem iX0_fillCounts_58 : zSnd zZC zmX0_fillCounts 58 (o_ic (-1) 59) := s_iconst (i := (-1)) (by decide +kernel) (by decide +kernel)
theorem iX0_fillCounts_59 : zSnd zZC zmX0_fillCounts 59 (o_ast zYC .int (fun x => x) 60) := s_iast (by decide +kernel)
theorem iX0_fillCounts_60 : zSnd zZC zmX0_fillCounts 60 (o_iinc 2 1 63) := s_iinc (a := 1) (by decide +kernel) (by decide +kernel) (by decide +kernel)
theorem iX0_fillCounts_63 : zSnd zZC zmX0_fillCounts 63 (o_goto 2) := s_goto (off := (-61)) (by decide +kernel) (by decide +kernel)
theorem iX0_fillCounts_66 : zSnd zZC zmX0_fillCounts 66 (o_aload 0 67) := s_aload_n (k := 0) (by decide +kernel) rfl
theorem iX0_fillCounts_67 : zSnd zZC zmX0_fillCounts 67 (o_aload 1 68) := s_aload_n (k := 1) (by decide +kernel) rfl
theorem iX0_fillCounts_68 : zSnd zZC zmX0_fillCounts 68 (o_getf zYC 2 7 71) := s_getf zcX2 fX0_32 (by decide +kernel) (by decide +kernel)
theorem iX0_fillCounts_71 : zSnd zZC zmX0_fillCounts 71 (o_ic 3 72) := s_iconst (i := 3) (by decide +kernel) (by decide +kernel)
theorem iX0_fillCounts_72 : zSnd zZC zmX0_fillCounts 72 (o_ald zYC .int 73) := s_iald (by decide +kernel)
theorem iX0_fillCounts_73 : zSnd zZC zmX0_fillCounts 73 (o_putI zYC 8 6 76) := s_putI zcX0 fX0_37 (by decide +kernel) rfl rfl (by decide +kernel)
theorem iX0_fillCounts_76 : zSnd zZC zmX0_fillCounts 76 (o_vret) := s_vret rfl (by decide +kernel)
def kX0_fillCounts : List (Nat × zOp) := [(0, o_ic 0 1),
  (1, o_istore 2 2),
  (2, o_iload 2 3),
  (3, o_aload 0 4),
  (4, o_getf zYC 8 0 7),
  (7, o_alen zYC 8),
  (8, o_icmp (fun x y => y ≤ x) 66 11),
  (11, o_iload 2 12),
  (12, o_ic 1 13),
  (13, o_icmp (fun x y => x < y) 38 16),
  (16, o_iload 2 17),
  (17, o_ic 11 19),
  (19, o_icmp (fun x y => y < x) 38 22),
  (22, o_iload 2 23),
  (23, o_ic 8 25),
  (25, o_icmp (fun x y => x = y) 38 28),
  (28, o_iload 2 29),
  (29, o_ic 10 31),
  (31, o_icmp (fun x y => x = y) 38 34),
  (34, o_ic 1 35),
  (35, o_goto 39),
  (38, o_ic 0 39),
  (39, o_istore 3 40),
  (40, o_aload 0 41),
  (41, o_getf zYC 8 0 44),
  (44, o_iload 2 45),
  (45, o_iload 3 46),
  (46, o_if0 (fun x => x = 0) 58 49),
  (49, o_aload 1 50),
  (50, o_getf zYC 2 7 53),
  (53, o_iload 2 54),
  (54, o_ald zYC .int 55),
  (55, o_goto 59),
  (58, o_ic (-1) 59),
  (59, o_ast zYC .int (fun x => x) 60),
  (60, o_iinc 2 1 63),
  (63, o_goto 2),
  (66, o_aload 0 67),
  (67, o_aload 1 68),
  (68, o_getf zYC 2 7 71),
  (71, o_ic 3 72),
  (72, o_ald zYC .int 73),
  (73, o_putI zYC 8 6 76),
  (76, o_vret)]
set_option maxRecDepth 100000 in
theorem ksX0_fillCounts : ∀ q ∈ kX0_fillCounts, zSnd zZC zmX0_fillCounts q.1 q.2 := zcc iX0_fillCounts_0 (zcc iX0_fillCounts_1 (zcc iX0_fillCounts_2 (zcc iX0_fillCounts_3 (zcc iX0_fillCounts_4 (zcc iX0_fillCounts_7 (zcc iX0_fillCounts_8 (zcc iX0_fillCounts_11 (zcc iX0_fillCounts_12 (zcc iX0_fillCounts_13 (zcc iX0_fillCounts_16 (zcc iX0_fillCounts_17 (zcc iX0_fillCounts_19 (zcc iX0_fillCounts_22 (zcc iX0_fillCounts_23 (zcc iX0_fillCounts_25 (zcc iX0_fillCounts_28 (zcc iX0_fillCounts_29 (zcc iX0_fillCounts_31 (zcc iX0_fillCounts_34 (zcc iX0_fillCounts_35 (zcc iX0_fillCounts_38 (zcc iX0_fillCounts_39 (zcc iX0_fillCounts_40 (zcc iX0_fillCounts_41 (zcc iX0_fillCounts_44 (zcc iX0_fillCounts_45 (zcc iX0_fillCounts_46 (zcc iX0_fillCounts_49 (zcc iX0_fillCounts_50 (zcc iX0_fillCounts_53 (zcc iX0_fillCounts_54 (zcc iX0_fillCounts_55 (zcc iX0_fillCounts_58 (zcc iX0_fillCounts_59 (zcc iX0_fillCounts_60 (zcc iX0_fillCounts_63 (zcc iX0_fillCounts_66 (zcc iX0_fillCounts_67 (zcc iX0_fillCounts_68 (zcc iX0_fillCounts_71 (zcc iX0_fillCounts_72 (zcc iX0_fillCounts_73 (zcc iX0_fillCounts_76 zcn)))))))))))))))))))))))))))))))))))))))))))
theorem iX0_has_0 : zSnd zZC zmX0_has 0 (o_iload 1 1) := s_iload_n (k := 1) (by decide +kernel) rfl
theorem iX0_has_1 : zSnd zZC zmX0_has 1 (o_if0 (fun x => x < 0) 25 4) := s_if_lt (off := 24) (by decide +kernel) (by decide +kernel)
theorem iX0_has_4 : zSnd zZC zmX0_has 4 (o_iload 1 5) := s_iload_n (k := 1) (by decide +kernel) rfl
theorem iX0_has_5 : zSnd zZC zmX0_has 5 (o_aload 0 6) := s_aload_n (k := 0) (by decide +kernel) rfl
theorem iX0_has_6 : zSnd zZC zmX0_has 6 (o_getf zYC 8 6 9) := s_getf zcX0 fX0_37 (by decide +kernel) (by decide +kernel)
theorem iX0_has_9 : zSnd zZC zmX0_has 9 (o_icmp (fun x y => y ≤ x) 25 12) := s_icmp_ge (off := 16) (by decide +kernel) (by decide +kernel)
theorem iX0_has_12 : zSnd zZC zmX0_has 12 (o_iload 1 13) := s_iload_n (k := 1) (by decide +kernel) rfl
theorem iX0_has_13 : zSnd zZC zmX0_has 13 (o_aload 0 14) := s_aload_n (k := 0) (by decide +kernel) rfl
theorem iX0_has_14 : zSnd zZC zmX0_has 14 (o_getf zYC 8 1 17) := s_getf zcX0 fX0_15 (by decide +kernel) (by decide +kernel)
theorem iX0_has_17 : zSnd zZC zmX0_has 17 (o_alen zYC 18) := s_alen zYC_arr (by decide +kernel)
theorem iX0_has_18 : zSnd zZC zmX0_has 18 (o_icmp (fun x y => y ≤ x) 25 21) := s_icmp_ge (off := 7) (by decide +kernel) (by decide +kernel)
theorem iX0_has_21 : zSnd zZC zmX0_has 21 (o_ic 1 22) := s_iconst (i := 1) (by decide +kernel) (by decide +kernel)
theorem iX0_has_22 : zSnd zZC zmX0_has 22 (o_goto 26) := s_goto (off := 4) (by decide +kernel) (by decide +kernel)
theorem iX0_has_25 : zSnd zZC zmX0_has 25 (o_ic 0 26) := s_iconst (i := 0) (by decide +kernel) (by decide +kernel)
theorem iX0_has_26 : zSnd zZC zmX0_has 26 (o_zret) := s_zret rfl (by decide +kernel)
def kX0_has : List (Nat × zOp) := [(0, o_iload 1 1),
  (1, o_if0 (fun x => x < 0) 25 4),
  (4, o_iload 1 5),
  (5, o_aload 0 6),
  (6, o_getf zYC 8 6 9),
  (9, o_icmp (fun x y => y ≤ x) 25 12),
  (12, o_iload 1 13),
  (13, o_aload 0 14),
  (14, o_getf zYC 8 1 17),
  (17, o_alen zYC 18),
  (18, o_icmp (fun x y => y ≤ x) 25 21),
  (21, o_ic 1 22),
  (22, o_goto 26),
  (25, o_ic 0 26),
  (26, o_zret)]
set_option maxRecDepth 100000 in
theorem ksX0_has : ∀ q ∈ kX0_has, zSnd zZC zmX0_has q.1 q.2 := zcc iX0_has_0 (zcc iX0_has_1 (zcc iX0_has_4 (zcc iX0_has_5 (zcc iX0_has_6 (zcc iX0_has_9 (zcc iX0_has_12 (zcc iX0_has_13 (zcc iX0_has_14 (zcc iX0_has_17 (zcc iX0_has_18 (zcc iX0_has_21 (zcc iX0_has_22 (zcc iX0_has_25 (zcc iX0_has_26 zcn))))))))))))))
theorem iX1_begin_0 : zSnd zZC zmX1_begin 0 (o_aload 0 1) := s_aload_n (k := 0) (by decide +kernel) rfl
theorem iX1_begin_1 : zSnd zZC zmX1_begin 1 (o_getf zYC 4 5 4) := s_getf zcX1 fX1_33 (by decide +kernel) (by decide +kernel)
theorem iX1_begin_4 : zSnd zZC zmX1_begin 4 (o_ic 0 5) := s_iconst (i := 0) (by decide +kernel) (by decide +kernel)
theorem iX1_begin_5 : zSnd zZC zmX1_begin 5 (o_putI zYC 8 5 8) := s_putI zcX0 fX1_46 (by decide +kernel) rfl rfl (by decide +kernel)
theorem iX1_begin_8 : zSnd zZC zmX1_begin 8 (o_aload 0 9) := s_aload_n (k := 0) (by decide +kernel) rfl
theorem iX1_begin_9 : zSnd zZC zmX1_begin 9 (o_ic 1 10) := s_iconst (i := 1) (by decide +kernel) (by decide +kernel)
theorem iX1_begin_10 : zSnd zZC zmX1_begin 10 (o_putZ zYC 4 6 13) := s_putZ zcX1 fX1_52 (by decide +kernel) rfl rfl (by decide +kernel)
theorem iX1_begin_13 : zSnd zZC zmX1_begin 13 (o_vret) := s_vret rfl (by decide +kernel)
def kX1_begin : List (Nat × zOp) := [(0, o_aload 0 1),
  (1, o_getf zYC 4 5 4),
  (4, o_ic 0 5),
  (5, o_putI zYC 8 5 8),
  (8, o_aload 0 9),
  (9, o_ic 1 10),
  (10, o_putZ zYC 4 6 13),
  (13, o_vret)]
set_option maxRecDepth 100000 in
theorem ksX1_begin : ∀ q ∈ kX1_begin, zSnd zZC zmX1_begin q.1 q.2 := zcc iX1_begin_0 (zcc iX1_begin_1 (zcc iX1_begin_4 (zcc iX1_begin_5 (zcc iX1_begin_8 (zcc iX1_begin_9 (zcc iX1_begin_10 (zcc iX1_begin_13 zcn)))))))
theorem iX2_addFunction_0 : zSnd zZC zmX2_addFunction 0 (o_aload 0 1) := s_aload_n (k := 0) (by decide +kernel) rfl
theorem iX2_addFunction_1 : zSnd zZC zmX2_addFunction 1 (o_getf zYC 2 8 4) := s_getf zcX2 fX2_37 (by decide +kernel) (by decide +kernel)
theorem iX2_addFunction_4 : zSnd zZC zmX2_addFunction 4 (o_aload 0 5) := s_aload_n (k := 0) (by decide +kernel) rfl
theorem iX2_addFunction_5 : zSnd zZC zmX2_addFunction 5 (o_getf zYC 2 3 8) := s_getf zcX2 fX2_21 (by decide +kernel) (by decide +kernel)
theorem iX2_addFunction_8 : zSnd zZC zmX2_addFunction 8 (o_alen zYC 9) := s_alen zYC_arr (by decide +kernel)
theorem iX2_addFunction_9 : zSnd zZC zmX2_addFunction 9 (o_icmp (fun x y => y ≤ x) 49 12) := s_icmp_ge (off := 40) (by decide +kernel) (by decide +kernel)
theorem iX2_addFunction_12 : zSnd zZC zmX2_addFunction 12 (o_aload 0 13) := s_aload_n (k := 0) (by decide +kernel) rfl
theorem iX2_addFunction_13 : zSnd zZC zmX2_addFunction 13 (o_getf zYC 2 3 16) := s_getf zcX2 fX2_21 (by decide +kernel) (by decide +kernel)
theorem iX2_addFunction_16 : zSnd zZC zmX2_addFunction 16 (o_aload 0 17) := s_aload_n (k := 0) (by decide +kernel) rfl
theorem iX2_addFunction_17 : zSnd zZC zmX2_addFunction 17 (o_getf zYC 2 8 20) := s_getf zcX2 fX2_37 (by decide +kernel) (by decide +kernel)
theorem iX2_addFunction_20 : zSnd zZC zmX2_addFunction 20 (o_lload 1 21) := s_lload_n (k := 1) (by decide +kernel) rfl
theorem iX2_addFunction_21 : zSnd zZC zmX2_addFunction 21 (o_aload 0 22) := s_aload_n (k := 0) (by decide +kernel) rfl
theorem iX2_addFunction_22 : zSnd zZC zmX2_addFunction 22 (o_getf zYC 2 7 25) := s_getf zcX2 fX2_34 (by decide +kernel) (by decide +kernel)
theorem iX2_addFunction_25 : zSnd zZC zmX2_addFunction 25 (o_ic 1 26) := s_iconst (i := 1) (by decide +kernel) (by decide +kernel)
theorem iX2_addFunction_26 : zSnd zZC zmX2_addFunction 26 (o_ald zYC .int 27) := s_iald (by decide +kernel)
theorem iX2_addFunction_27 : zSnd zZC zmX2_addFunction 27 (o_i2l 28) := s_i2l (by decide +kernel)
theorem iX2_addFunction_28 : zSnd zZC zmX2_addFunction 28 (o_lif (fun x y => y ≤ x) 37 32) := s_lge (off := 8) (by decide +kernel) (by decide +kernel) (by decide +kernel)
theorem iX2_addFunction_32 : zSnd zZC zmX2_addFunction 32 (o_lload 1 33) := s_lload_n (k := 1) (by decide +kernel) rfl
theorem iX2_addFunction_33 : zSnd zZC zmX2_addFunction 33 (o_l2i 34) := s_l2i (by decide +kernel)
theorem iX2_addFunction_34 : zSnd zZC zmX2_addFunction 34 (o_goto 38) := s_goto (off := 4) (by decide +kernel) (by decide +kernel)
theorem iX2_addFunction_37 : zSnd zZC zmX2_addFunction 37 (o_ic (-1) 38) := s_iconst (i := (-1)) (by decide +kernel) (by decide +kernel)
theorem iX2_addFunction_38 : zSnd zZC zmX2_addFunction 38 (o_ast zYC .int (fun x => x) 39) := s_iast (by decide +kernel)
theorem iX2_addFunction_39 : zSnd zZC zmX2_addFunction 39 (o_aload 0 40) := s_aload_n (k := 0) (by decide +kernel) rfl
theorem iX2_addFunction_40 : zSnd zZC zmX2_addFunction 40 (o_dup 41) := s_dup (by decide +kernel)
theorem iX2_addFunction_41 : zSnd zZC zmX2_addFunction 41 (o_getf zYC 2 8 44) := s_getf zcX2 fX2_37 (by decide +kernel) (by decide +kernel)
theorem iX2_addFunction_44 : zSnd zZC zmX2_addFunction 44 (o_ic 1 45) := s_iconst (i := 1) (by decide +kernel) (by decide +kernel)
theorem iX2_addFunction_45 : zSnd zZC zmX2_addFunction 45 (o_ibin (fun x y => x + y) 46) := s_iadd (by decide +kernel)
theorem iX2_addFunction_46 : zSnd zZC zmX2_addFunction 46 (o_putI zYC 2 8 49) := s_putI zcX2 fX2_37 (by decide +kernel) rfl rfl (by decide +kernel)
theorem iX2_addFunction_49 : zSnd zZC zmX2_addFunction 49 (o_vret) := s_vret rfl (by decide +kernel)
def kX2_addFunction : List (Nat × zOp) := [(0, o_aload 0 1),
  (1, o_getf zYC 2 8 4),
  (4, o_aload 0 5),
  (5, o_getf zYC 2 3 8),
  (8, o_alen zYC 9),
  (9, o_icmp (fun x y => y ≤ x) 49 12),
  (12, o_aload 0 13),
  (13, o_getf zYC 2 3 16),
  (16, o_aload 0 17),
  (17, o_getf zYC 2 8 20),
  (20, o_lload 1 21),
  (21, o_aload 0 22),
  (22, o_getf zYC 2 7 25),
  (25, o_ic 1 26),
  (26, o_ald zYC .int 27),
  (27, o_i2l 28),
  (28, o_lif (fun x y => y ≤ x) 37 32),
  (32, o_lload 1 33),
  (33, o_l2i 34),
  (34, o_goto 38),
  (37, o_ic (-1) 38),
  (38, o_ast zYC .int (fun x => x) 39),
  (39, o_aload 0 40),
  (40, o_dup 41),
  (41, o_getf zYC 2 8 44),
  (44, o_ic 1 45),
  (45, o_ibin (fun x y => x + y) 46),
  (46, o_putI zYC 2 8 49),
  (49, o_vret)]
set_option maxRecDepth 100000 in
theorem ksX2_addFunction : ∀ q ∈ kX2_addFunction, zSnd zZC zmX2_addFunction q.1 q.2 := zcc iX2_addFunction_0 (zcc iX2_addFunction_1 (zcc iX2_addFunction_4 (zcc iX2_addFunction_5 (zcc iX2_addFunction_8 (zcc iX2_addFunction_9 (zcc iX2_addFunction_12 (zcc iX2_addFunction_13 (zcc iX2_addFunction_16 (zcc iX2_addFunction_17 (zcc iX2_addFunction_20 (zcc iX2_addFunction_21 (zcc iX2_addFunction_22 (zcc iX2_addFunction_25 (zcc iX2_addFunction_26 (zcc iX2_addFunction_27 (zcc iX2_addFunction_28 (zcc iX2_addFunction_32 (zcc iX2_addFunction_33 (zcc iX2_addFunction_34 (zcc iX2_addFunction_37 (zcc iX2_addFunction_38 (zcc iX2_addFunction_39 (zcc iX2_addFunction_40 (zcc iX2_addFunction_41 (zcc iX2_addFunction_44 (zcc iX2_addFunction_45 (zcc iX2_addFunction_46 (zcc iX2_addFunction_49 zcn))))))))))))))))))))))))))))
theorem iX2_addGlobal_0 : zSnd zZC zmX2_addGlobal 0 (o_aload 0 1) := s_aload_n (k := 0) (by decide +kernel) rfl
theorem iX2_addGlobal_1 : zSnd zZC zmX2_addGlobal 1 (o_getf zYC 2 12 4) := s_getf zcX2 fX2_50 (by decide +kernel) (by decide +kernel)
theorem iX2_addGlobal_4 : zSnd zZC zmX2_addGlobal 4 (o_aload 0 5) := s_aload_n (k := 0) (by decide +kernel) rfl
theorem iX2_addGlobal_5 : zSnd zZC zmX2_addGlobal 5 (o_getf zYC 2 4 8) := s_getf zcX2 fX2_24 (by decide +kernel) (by decide +kernel)
theorem iX2_addGlobal_8 : zSnd zZC zmX2_addGlobal 8 (o_alen zYC 9) := s_alen zYC_arr (by decide +kernel)
theorem iX2_addGlobal_9 : zSnd zZC zmX2_addGlobal 9 (o_icmp (fun x y => y ≤ x) 42 12) := s_icmp_ge (off := 33) (by decide +kernel) (by decide +kernel)
theorem iX2_addGlobal_12 : zSnd zZC zmX2_addGlobal 12 (o_aload 0 13) := s_aload_n (k := 0) (by decide +kernel) rfl
theorem iX2_addGlobal_13 : zSnd zZC zmX2_addGlobal 13 (o_getf zYC 2 4 16) := s_getf zcX2 fX2_24 (by decide +kernel) (by decide +kernel)
theorem iX2_addGlobal_16 : zSnd zZC zmX2_addGlobal 16 (o_aload 0 17) := s_aload_n (k := 0) (by decide +kernel) rfl
theorem iX2_addGlobal_17 : zSnd zZC zmX2_addGlobal 17 (o_getf zYC 2 12 20) := s_getf zcX2 fX2_50 (by decide +kernel) (by decide +kernel)
theorem iX2_addGlobal_20 : zSnd zZC zmX2_addGlobal 20 (o_iload 1 21) := s_iload_n (k := 1) (by decide +kernel) rfl
theorem iX2_addGlobal_21 : zSnd zZC zmX2_addGlobal 21 (o_ast zYC .int (fun x => x) 22) := s_iast (by decide +kernel)
theorem iX2_addGlobal_22 : zSnd zZC zmX2_addGlobal 22 (o_aload 0 23) := s_aload_n (k := 0) (by decide +kernel) rfl
theorem iX2_addGlobal_23 : zSnd zZC zmX2_addGlobal 23 (o_getf zYC 2 5 26) := s_getf zcX2 fX2_27 (by decide +kernel) (by decide +kernel)
theorem iX2_addGlobal_26 : zSnd zZC zmX2_addGlobal 26 (o_aload 0 27) := s_aload_n (k := 0) (by decide +kernel) rfl
theorem iX2_addGlobal_27 : zSnd zZC zmX2_addGlobal 27 (o_getf zYC 2 12 30) := s_getf zcX2 fX2_50 (by decide +kernel) (by decide +kernel)
theorem iX2_addGlobal_30 : zSnd zZC zmX2_addGlobal 30 (o_iload 2 31) := s_iload_n (k := 2) (by decide +kernel) rfl
theorem iX2_addGlobal_31 : zSnd zZC zmX2_addGlobal 31 (o_ast zYC .boolean (fun x => vp_nar .boolean x) 32) := s_zast (by decide +kernel)
theorem iX2_addGlobal_32 : zSnd zZC zmX2_addGlobal 32 (o_aload 0 33) := s_aload_n (k := 0) (by decide +kernel) rfl
theorem iX2_addGlobal_33 : zSnd zZC zmX2_addGlobal 33 (o_dup 34) := s_dup (by decide +kernel)
theorem iX2_addGlobal_34 : zSnd zZC zmX2_addGlobal 34 (o_getf zYC 2 12 37) := s_getf zcX2 fX2_50 (by decide +kernel) (by decide +kernel)
theorem iX2_addGlobal_37 : zSnd zZC zmX2_addGlobal 37 (o_ic 1 38) := s_iconst (i := 1) (by decide +kernel) (by decide +kernel)
theorem iX2_addGlobal_38 : zSnd zZC zmX2_addGlobal 38 (o_ibin (fun x y => x + y) 39) := s_iadd (by decide +kernel)
theorem iX2_addGlobal_39 : zSnd zZC zmX2_addGlobal 39 (o_putI zYC 2 12 42) := s_putI zcX2 fX2_50 (by decide +kernel) rfl rfl (by decide +kernel)
theorem iX2_addGlobal_42 : zSnd zZC zmX2_addGlobal 42 (o_vret) := s_vret rfl (by decide +kernel)
def kX2_addGlobal : List (Nat × zOp) := [(0, o_aload 0 1),
  (1, o_getf zYC 2 12 4),
  (4, o_aload 0 5),
  (5, o_getf zYC 2 4 8),
  (8, o_alen zYC 9),
  (9, o_icmp (fun x y => y ≤ x) 42 12),
  (12, o_aload 0 13),
  (13, o_getf zYC 2 4 16),
  (16, o_aload 0 17),
  (17, o_getf zYC 2 12 20),
  (20, o_iload 1 21),
  (21, o_ast zYC .int (fun x => x) 22),
  (22, o_aload 0 23),
  (23, o_getf zYC 2 5 26),
  (26, o_aload 0 27),
  (27, o_getf zYC 2 12 30),
  (30, o_iload 2 31),
  (31, o_ast zYC .boolean (fun x => vp_nar .boolean x) 32),
  (32, o_aload 0 33),
  (33, o_dup 34),
  (34, o_getf zYC 2 12 37),
  (37, o_ic 1 38),
  (38, o_ibin (fun x y => x + y) 39),
  (39, o_putI zYC 2 12 42),
  (42, o_vret)]
set_option maxRecDepth 100000 in
theorem ksX2_addGlobal : ∀ q ∈ kX2_addGlobal, zSnd zZC zmX2_addGlobal q.1 q.2 := zcc iX2_addGlobal_0 (zcc iX2_addGlobal_1 (zcc iX2_addGlobal_4 (zcc iX2_addGlobal_5 (zcc iX2_addGlobal_8 (zcc iX2_addGlobal_9 (zcc iX2_addGlobal_12 (zcc iX2_addGlobal_13 (zcc iX2_addGlobal_16 (zcc iX2_addGlobal_17 (zcc iX2_addGlobal_20 (zcc iX2_addGlobal_21 (zcc iX2_addGlobal_22 (zcc iX2_addGlobal_23 (zcc iX2_addGlobal_26 (zcc iX2_addGlobal_27 (zcc iX2_addGlobal_30 (zcc iX2_addGlobal_31 (zcc iX2_addGlobal_32 (zcc iX2_addGlobal_33 (zcc iX2_addGlobal_34 (zcc iX2_addGlobal_37 (zcc iX2_addGlobal_38 (zcc iX2_addGlobal_39 (zcc iX2_addGlobal_42 zcn))))))))))))))))))))))))
theorem iX2_addParameter_0 : zSnd zZC zmX2_addParameter 0 (o_aload 0 1) := s_aload_n (k := 0) (by decide +kernel) rfl
theorem iX2_addParameter_1 : zSnd zZC zmX2_addParameter 1 (o_getf zYC 2 7 4) := s_getf zcX2 fX2_34 (by decide +kernel) (by decide +kernel)
theorem iX2_addParameter_4 : zSnd zZC zmX2_addParameter 4 (o_ic 1 5) := s_iconst (i := 1) (by decide +kernel) (by decide +kernel)
theorem iX2_addParameter_5 : zSnd zZC zmX2_addParameter 5 (o_ald zYC .int 6) := s_iald (by decide +kernel)
theorem iX2_addParameter_6 : zSnd zZC zmX2_addParameter 6 (o_istore 3 7) := s_istore_n (k := 3) (by decide +kernel) rfl (by decide +kernel)
theorem iX2_addParameter_7 : zSnd zZC zmX2_addParameter 7 (o_iload 3 8) := s_iload_n (k := 3) (by decide +kernel) rfl
theorem iX2_addParameter_8 : zSnd zZC zmX2_addParameter 8 (o_ic 16 10) := s_bipush (i := 16) (by decide +kernel) (by decide +kernel)
theorem iX2_addParameter_10 : zSnd zZC zmX2_addParameter 10 (o_ibin (fun x y => x * y) 11) := s_imul (by decide +kernel)
theorem iX2_addParameter_11 : zSnd zZC zmX2_addParameter 11 (o_iload 1 12) := s_iload_n (k := 1) (by decide +kernel) rfl
theorem iX2_addParameter_12 : zSnd zZC zmX2_addParameter 12 (o_ibin (fun x y => x + y) 13) := s_iadd (by decide +kernel)
theorem iX2_addParameter_13 : zSnd zZC zmX2_addParameter 13 (o_istore 4 15) := s_istore (by decide +kernel) (by decide +kernel)
theorem iX2_addParameter_15 : zSnd zZC zmX2_addParameter 15 (o_iload 3 16) := s_iload_n (k := 3) (by decide +kernel) rfl
theorem iX2_addParameter_16 : zSnd zZC zmX2_addParameter 16 (o_aload 0 17) := s_aload_n (k := 0) (by decide +kernel) rfl
theorem iX2_addParameter_17 : zSnd zZC zmX2_addParameter 17 (o_getf zYC 2 0 20) := s_getf zcX2 fX2_9 (by decide +kernel) (by decide +kernel)
theorem iX2_addParameter_20 : zSnd zZC zmX2_addParameter 20 (o_alen zYC 21) := s_alen zYC_arr (by decide +kernel)
theorem iX2_addParameter_21 : zSnd zZC zmX2_addParameter 21 (o_icmp (fun x y => y ≤ x) 57 24) := s_icmp_ge (off := 36) (by decide +kernel) (by decide +kernel)
theorem iX2_addParameter_24 : zSnd zZC zmX2_addParameter 24 (o_iload 1 25) := s_iload_n (k := 1) (by decide +kernel) rfl
theorem iX2_addParameter_25 : zSnd zZC zmX2_addParameter 25 (o_ic 16 27) := s_bipush (i := 16) (by decide +kernel) (by decide +kernel)
theorem iX2_addParameter_27 : zSnd zZC zmX2_addParameter 27 (o_icmp (fun x y => y ≤ x) 57 30) := s_icmp_ge (off := 30) (by decide +kernel) (by decide +kernel)
theorem iX2_addParameter_30 : zSnd zZC zmX2_addParameter 30 (o_iload 4 32) := s_iload (by decide +kernel)
theorem iX2_addParameter_32 : zSnd zZC zmX2_addParameter 32 (o_aload 0 33) := s_aload_n (k := 0) (by decide +kernel) rfl
theorem iX2_addParameter_33 : zSnd zZC zmX2_addParameter 33 (o_getf zYC 2 1 36) := s_getf zcX2 fX2_15 (by decide +kernel) (by decide +kernel)
theorem iX2_addParameter_36 : zSnd zZC zmX2_addParameter 36 (o_alen zYC 37) := s_alen zYC_arr (by decide +kernel)
theorem iX2_addParameter_37 : zSnd zZC zmX2_addParameter 37 (o_icmp (fun x y => y ≤ x) 57 40) := s_icmp_ge (off := 20) (by decide +kernel) (by decide +kernel)
theorem iX2_addParameter_40 : zSnd zZC zmX2_addParameter 40 (o_aload 0 41) := s_aload_n (k := 0) (by decide +kernel) rfl
theorem iX2_addParameter_41 : zSnd zZC zmX2_addParameter 41 (o_getf zYC 2 1 44) := s_getf zcX2 fX2_15 (by decide +kernel) (by decide +kernel)
theorem iX2_addParameter_44 : zSnd zZC zmX2_addParameter 44 (o_iload 4 46) := s_iload (by decide +kernel)
theorem iX2_addParameter_46 : zSnd zZC zmX2_addParameter 46 (o_iload 2 47) := s_iload_n (k := 2) (by decide +kernel) rfl
theorem iX2_addParameter_47 : zSnd zZC zmX2_addParameter 47 (o_ast zYC .int (fun x => x) 48) := s_iast (by decide +kernel)
theorem iX2_addParameter_48 : zSnd zZC zmX2_addParameter 48 (o_aload 0 49) := s_aload_n (k := 0) (by decide +kernel) rfl
theorem iX2_addParameter_49 : zSnd zZC zmX2_addParameter 49 (o_getf zYC 2 0 52) := s_getf zcX2 fX2_9 (by decide +kernel) (by decide +kernel)
theorem iX2_addParameter_52 : zSnd zZC zmX2_addParameter 52 (o_iload 3 53) := s_iload_n (k := 3) (by decide +kernel) rfl
theorem iX2_addParameter_53 : zSnd zZC zmX2_addParameter 53 (o_iload 1 54) := s_iload_n (k := 1) (by decide +kernel) rfl
theorem iX2_addParameter_54 : zSnd zZC zmX2_addParameter 54 (o_ic 1 55) := s_iconst (i := 1) (by decide +kernel) (by decide +kernel)
theorem iX2_addParameter_55 : zSnd zZC zmX2_addParameter 55 (o_ibin (fun x y => x + y) 56) := s_iadd (by decide +kernel)
theorem iX2_addParameter_56 : zSnd zZC zmX2_addParameter 56 (o_ast zYC .int (fun x => x) 57) := s_iast (by decide +kernel)
theorem iX2_addParameter_57 : zSnd zZC zmX2_addParameter 57 (o_vret) := s_vret rfl (by decide +kernel)
def kX2_addParameter : List (Nat × zOp) := [(0, o_aload 0 1),
  (1, o_getf zYC 2 7 4),
  (4, o_ic 1 5),
  (5, o_ald zYC .int 6),
  (6, o_istore 3 7),
  (7, o_iload 3 8),
  (8, o_ic 16 10),
  (10, o_ibin (fun x y => x * y) 11),
  (11, o_iload 1 12),
  (12, o_ibin (fun x y => x + y) 13),
  (13, o_istore 4 15),
  (15, o_iload 3 16),
  (16, o_aload 0 17),
  (17, o_getf zYC 2 0 20),
  (20, o_alen zYC 21),
  (21, o_icmp (fun x y => y ≤ x) 57 24),
  (24, o_iload 1 25),
  (25, o_ic 16 27),
  (27, o_icmp (fun x y => y ≤ x) 57 30),
  (30, o_iload 4 32),
  (32, o_aload 0 33),
  (33, o_getf zYC 2 1 36),
  (36, o_alen zYC 37),
  (37, o_icmp (fun x y => y ≤ x) 57 40),
  (40, o_aload 0 41),
  (41, o_getf zYC 2 1 44),
  (44, o_iload 4 46),
  (46, o_iload 2 47),
  (47, o_ast zYC .int (fun x => x) 48),
  (48, o_aload 0 49),
  (49, o_getf zYC 2 0 52),
  (52, o_iload 3 53),
  (53, o_iload 1 54),
  (54, o_ic 1 55),
  (55, o_ibin (fun x y => x + y) 56),
  (56, o_ast zYC .int (fun x => x) 57),
  (57, o_vret)]
set_option maxRecDepth 100000 in
theorem ksX2_addParameter : ∀ q ∈ kX2_addParameter, zSnd zZC zmX2_addParameter q.1 q.2 := zcc iX2_addParameter_0 (zcc iX2_addParameter_1 (zcc iX2_addParameter_4 (zcc iX2_addParameter_5 (zcc iX2_addParameter_6 (zcc iX2_addParameter_7 (zcc iX2_addParameter_8 (zcc iX2_addParameter_10 (zcc iX2_addParameter_11 (zcc iX2_addParameter_12 (zcc iX2_addParameter_13 (zcc iX2_addParameter_15 (zcc iX2_addParameter_16 (zcc iX2_addParameter_17 (zcc iX2_addParameter_20 (zcc iX2_addParameter_21 (zcc iX2_addParameter_24 (zcc iX2_addParameter_25 (zcc iX2_addParameter_27 (zcc iX2_addParameter_30 (zcc iX2_addParameter_32 (zcc iX2_addParameter_33 (zcc iX2_addParameter_36 (zcc iX2_addParameter_37 (zcc iX2_addParameter_40 (zcc iX2_addParameter_41 (zcc iX2_addParameter_44 (zcc iX2_addParameter_46 (zcc iX2_addParameter_47 (zcc iX2_addParameter_48 (zcc iX2_addParameter_49 (zcc iX2_addParameter_52 (zcc iX2_addParameter_53 (zcc iX2_addParameter_54 (zcc iX2_addParameter_55 (zcc iX2_addParameter_56 (zcc iX2_addParameter_57 zcn))))))))))))))))))))))))))))))))))))
theorem iX2_changesGlobal_0 : zSnd zZC zmX2_changesGlobal 0 (o_iload 1 1) := s_iload_n (k := 1) (by decide +kernel) rfl
theorem iX2_changesGlobal_1 : zSnd zZC zmX2_changesGlobal 1 (o_if0 (fun x => x < 0) 26 4) := s_if_lt (off := 25) (by decide +kernel) (by decide +kernel)
theorem iX2_changesGlobal_4 : zSnd zZC zmX2_changesGlobal 4 (o_iload 1 5) := s_iload_n (k := 1) (by decide +kernel) rfl
theorem iX2_changesGlobal_5 : zSnd zZC zmX2_changesGlobal 5 (o_aload 0 6) := s_aload_n (k := 0) (by decide +kernel) rfl
theorem iX2_changesGlobal_6 : zSnd zZC zmX2_changesGlobal 6 (o_getf zYC 2 5 9) := s_getf zcX2 fX2_27 (by decide +kernel) (by decide +kernel)
theorem iX2_changesGlobal_9 : zSnd zZC zmX2_changesGlobal 9 (o_alen zYC 10) := s_alen zYC_arr (by decide +kernel)
theorem iX2_changesGlobal_10 : zSnd zZC zmX2_changesGlobal 10 (o_icmp (fun x y => y ≤ x) 26 13) := s_icmp_ge (off := 16) (by decide +kernel) (by decide +kernel)
theorem iX2_changesGlobal_13 : zSnd zZC zmX2_changesGlobal 13 (o_aload 0 14) := s_aload_n (k := 0) (by decide +kernel) rfl
theorem iX2_changesGlobal_14 : zSnd zZC zmX2_changesGlobal 14 (o_getf zYC 2 5 17) := s_getf zcX2 fX2_27 (by decide +kernel) (by decide +kernel)
theorem iX2_changesGlobal_17 : zSnd zZC zmX2_changesGlobal 17 (o_iload 1 18) := s_iload_n (k := 1) (by decide +kernel) rfl
theorem iX2_changesGlobal_18 : zSnd zZC zmX2_changesGlobal 18 (o_ald zYC .boolean 19) := s_zald (by decide +kernel)
theorem iX2_changesGlobal_19 : zSnd zZC zmX2_changesGlobal 19 (o_if0 (fun x => x = 0) 26 22) := s_if_eq (off := 7) (by decide +kernel) (by decide +kernel)
theorem iX2_changesGlobal_22 : zSnd zZC zmX2_changesGlobal 22 (o_ic 1 23) := s_iconst (i := 1) (by decide +kernel) (by decide +kernel)
theorem iX2_changesGlobal_23 : zSnd zZC zmX2_changesGlobal 23 (o_goto 27) := s_goto (off := 4) (by decide +kernel) (by decide +kernel)
theorem iX2_changesGlobal_26 : zSnd zZC zmX2_changesGlobal 26 (o_ic 0 27) := s_iconst (i := 0) (by decide +kernel) (by decide +kernel)
theorem iX2_changesGlobal_27 : zSnd zZC zmX2_changesGlobal 27 (o_zret) := s_zret rfl (by decide +kernel)
def kX2_changesGlobal : List (Nat × zOp) := [(0, o_iload 1 1),
  (1, o_if0 (fun x => x < 0) 26 4),
  (4, o_iload 1 5),
  (5, o_aload 0 6),
  (6, o_getf zYC 2 5 9),
  (9, o_alen zYC 10),
  (10, o_icmp (fun x y => y ≤ x) 26 13),
  (13, o_aload 0 14),
  (14, o_getf zYC 2 5 17),
  (17, o_iload 1 18),
  (18, o_ald zYC .boolean 19),
  (19, o_if0 (fun x => x = 0) 26 22),
  (22, o_ic 1 23),
  (23, o_goto 27),
  (26, o_ic 0 27),
  (27, o_zret)]
set_option maxRecDepth 100000 in
theorem ksX2_changesGlobal : ∀ q ∈ kX2_changesGlobal, zSnd zZC zmX2_changesGlobal q.1 q.2 := zcc iX2_changesGlobal_0 (zcc iX2_changesGlobal_1 (zcc iX2_changesGlobal_4 (zcc iX2_changesGlobal_5 (zcc iX2_changesGlobal_6 (zcc iX2_changesGlobal_9 (zcc iX2_changesGlobal_10 (zcc iX2_changesGlobal_13 (zcc iX2_changesGlobal_14 (zcc iX2_changesGlobal_17 (zcc iX2_changesGlobal_18 (zcc iX2_changesGlobal_19 (zcc iX2_changesGlobal_22 (zcc iX2_changesGlobal_23 (zcc iX2_changesGlobal_26 (zcc iX2_changesGlobal_27 zcn)))))))))))))))
theorem iX2_clear_0 : zSnd zZC zmX2_clear 0 (o_ic 0 1) := s_iconst (i := 0) (by decide +kernel) (by decide +kernel)
theorem iX2_clear_1 : zSnd zZC zmX2_clear 1 (o_istore 1 2) := s_istore_n (k := 1) (by decide +kernel) rfl (by decide +kernel)
theorem iX2_clear_2 : zSnd zZC zmX2_clear 2 (o_iload 1 3) := s_iload_n (k := 1) (by decide +kernel) rfl
theorem iX2_clear_3 : zSnd zZC zmX2_clear 3 (o_aload 0 4) := s_aload_n (k := 0) (by decide +kernel) rfl
theorem iX2_clear_4 : zSnd zZC zmX2_clear 4 (o_getf zYC 2 6 7) := s_getf zcX2 fX2_31 (by decide +kernel) (by decide +kernel)
theorem iX2_clear_7 : zSnd zZC zmX2_clear 7 (o_alen zYC 8) := s_alen zYC_arr (by decide +kernel)
theorem iX2_clear_8 : zSnd zZC zmX2_clear 8 (o_icmp (fun x y => y ≤ x) 24 11) := s_icmp_ge (off := 16) (by decide +kernel) (by decide +kernel)
theorem iX2_clear_11 : zSnd zZC zmX2_clear 11 (o_aload 0 12) := s_aload_n (k := 0) (by decide +kernel) rfl
theorem iX2_clear_12 : zSnd zZC zmX2_clear 12 (o_getf zYC 2 6 15) := s_getf zcX2 fX2_31 (by decide +kernel) (by decide +kernel)
theorem iX2_clear_15 : zSnd zZC zmX2_clear 15 (o_iload 1 16) := s_iload_n (k := 1) (by decide +kernel) rfl
theorem iX2_clear_16 : zSnd zZC zmX2_clear 16 (o_ic (-1) 17) := s_iconst (i := (-1)) (by decide +kernel) (by decide +kernel)
theorem iX2_clear_17 : zSnd zZC zmX2_clear 17 (o_ast zYC .int (fun x => x) 18) := s_iast (by decide +kernel)
theorem iX2_clear_18 : zSnd zZC zmX2_clear 18 (o_iinc 1 1 21) := s_iinc (a := 1) (by decide +kernel) (by decide +kernel) (by decide +kernel)
theorem iX2_clear_21 : zSnd zZC zmX2_clear 21 (o_goto 2) := s_goto (off := (-19)) (by decide +kernel) (by decide +kernel)
theorem iX2_clear_24 : zSnd zZC zmX2_clear 24 (o_ic 0 25) := s_iconst (i := 0) (by decide +kernel) (by decide +kernel)
theorem iX2_clear_25 : zSnd zZC zmX2_clear 25 (o_istore 1 26) := s_istore_n (k := 1) (by decide +kernel) rfl (by decide +kernel)
theorem iX2_clear_26 : zSnd zZC zmX2_clear 26 (o_iload 1 27) := s_iload_n (k := 1) (by decide +kernel) rfl
theorem iX2_clear_27 : zSnd zZC zmX2_clear 27 (o_aload 0 28) := s_aload_n (k := 0) (by decide +kernel) rfl
theorem iX2_clear_28 : zSnd zZC zmX2_clear 28 (o_getf zYC 2 7 31) := s_getf zcX2 fX2_34 (by decide +kernel) (by decide +kernel)
theorem iX2_clear_31 : zSnd zZC zmX2_clear 31 (o_alen zYC 32) := s_alen zYC_arr (by decide +kernel)
theorem iX2_clear_32 : zSnd zZC zmX2_clear 32 (o_icmp (fun x y => y ≤ x) 48 35) := s_icmp_ge (off := 16) (by decide +kernel) (by decide +kernel)
theorem iX2_clear_35 : zSnd zZC zmX2_clear 35 (o_aload 0 36) := s_aload_n (k := 0) (by decide +kernel) rfl
theorem iX2_clear_36 : zSnd zZC zmX2_clear 36 (o_getf zYC 2 7 39) := s_getf zcX2 fX2_34 (by decide +kernel) (by decide +kernel)
theorem iX2_clear_39 : zSnd zZC zmX2_clear 39 (o_iload 1 40) := s_iload_n (k := 1) (by decide +kernel) rfl
theorem iX2_clear_40 : zSnd zZC zmX2_clear 40 (o_ic 0 41) := s_iconst (i := 0) (by decide +kernel) (by decide +kernel)
theorem iX2_clear_41 : zSnd zZC zmX2_clear 41 (o_ast zYC .int (fun x => x) 42) := s_iast (by decide +kernel)
theorem iX2_clear_42 : zSnd zZC zmX2_clear 42 (o_iinc 1 1 45) := s_iinc (a := 1) (by decide +kernel) (by decide +kernel) (by decide +kernel)
theorem iX2_clear_45 : zSnd zZC zmX2_clear 45 (o_goto 26) := s_goto (off := (-19)) (by decide +kernel) (by decide +kernel)
theorem iX2_clear_48 : zSnd zZC zmX2_clear 48 (o_aload 0 49) := s_aload_n (k := 0) (by decide +kernel) rfl
theorem iX2_clear_49 : zSnd zZC zmX2_clear 49 (o_ic 0 50) := s_iconst (i := 0) (by decide +kernel) (by decide +kernel)
theorem iX2_clear_50 : zSnd zZC zmX2_clear 50 (o_putI zYC 2 8 53) := s_putI zcX2 fX2_37 (by decide +kernel) rfl rfl (by decide +kernel)
theorem iX2_clear_53 : zSnd zZC zmX2_clear 53 (o_aload 0 54) := s_aload_n (k := 0) (by decide +kernel) rfl
theorem iX2_clear_54 : zSnd zZC zmX2_clear 54 (o_ic 0 55) := s_iconst (i := 0) (by decide +kernel) (by decide +kernel)
theorem iX2_clear_55 : zSnd zZC zmX2_clear 55 (o_putI zYC 2 9 58) := s_putI zcX2 fX2_41 (by decide +kernel) rfl rfl (by decide +kernel)
theorem iX2_clear_58 : zSnd zZC zmX2_clear 58 (o_aload 0 59) := s_aload_n (k := 0) (by decide +kernel) rfl
theorem iX2_clear_59 : zSnd zZC zmX2_clear 59 (o_ic 0 60) := s_iconst (i := 0) (by decide +kernel) (by decide +kernel)
theorem iX2_clear_60 : zSnd zZC zmX2_clear 60 (o_putI zYC 2 10 63) := s_putI zcX2 fX2_44 (by decide +kernel) rfl rfl (by decide +kernel)
theorem iX2_clear_63 : zSnd zZC zmX2_clear 63 (o_aload 0 64) := s_aload_n (k := 0) (by decide +kernel) rfl
theorem iX2_clear_64 : zSnd zZC zmX2_clear 64 (o_ic 0 65) := s_iconst (i := 0) (by decide +kernel) (by decide +kernel)
theorem iX2_clear_65 : zSnd zZC zmX2_clear 65 (o_putI zYC 2 11 68) := s_putI zcX2 fX2_47 (by decide +kernel) rfl rfl (by decide +kernel)
theorem iX2_clear_68 : zSnd zZC zmX2_clear 68 (o_aload 0 69) := s_aload_n (k := 0) (by decide +kernel) rfl
theorem iX2_clear_69 : zSnd zZC zmX2_clear 69 (o_ic 0 70) := s_iconst (i := 0) (by decide +kernel) (by decide +kernel)
theorem iX2_clear_70 : zSnd zZC zmX2_clear 70 (o_putI zYC 2 12 73) := s_putI zcX2 fX2_50 (by decide +kernel) rfl rfl (by decide +kernel)
theorem iX2_clear_73 : zSnd zZC zmX2_clear 73 (o_aload 0 74) := s_aload_n (k := 0) (by decide +kernel) rfl
theorem iX2_clear_74 : zSnd zZC zmX2_clear 74 (o_ic 0 75) := s_iconst (i := 0) (by decide +kernel) (by decide +kernel)
theorem iX2_clear_75 : zSnd zZC zmX2_clear 75 (o_putI zYC 2 13 78) := s_putI zcX2 fX2_53 (by decide +kernel) rfl rfl (by decide +kernel)
theorem iX2_clear_78 : zSnd zZC zmX2_clear 78 (o_aload 0 79) := s_aload_n (k := 0) (by decide +kernel) rfl
set_option maxRecDepth 20000 in
theorem iX2_clear_79 : zSnd zZC zmX2_clear 79 (o_lc (-1) 82) := s_ldc2 (i := 56) (by decide +kernel) (zWS2 119 rfl rfl)
theorem iX2_clear_82 : zSnd zZC zmX2_clear 82 (o_putL zYC 2 14 85) := s_putL zcX2 fX2_58 (by decide +kernel) rfl rfl (by decide +kernel)
theorem iX2_clear_85 : zSnd zZC zmX2_clear 85 (o_vret) := s_vret rfl (by decide +kernel)
def kX2_clear : List (Nat × zOp) := [(0, o_ic 0 1),
  (1, o_istore 1 2),
  (2, o_iload 1 3),
  (3, o_aload 0 4),
  (4, o_getf zYC 2 6 7),
  (7, o_alen zYC 8),
  (8, o_icmp (fun x y => y ≤ x) 24 11),
  (11, o_aload 0 12),
  (12, o_getf zYC 2 6 15),
  (15, o_iload 1 16),
  (16, o_ic (-1) 17),
  (17, o_ast zYC .int (fun x => x) 18),
  (18, o_iinc 1 1 21),
  (21, o_goto 2),
  (24, o_ic 0 25),
  (25, o_istore 1 26),
  (26, o_iload 1 27),
  (27, o_aload 0 28),
  (28, o_getf zYC 2 7 31),
  (31, o_alen zYC 32),
  (32, o_icmp (fun x y => y ≤ x) 48 35),
  (35, o_aload 0 36),
  (36, o_getf zYC 2 7 39),
  (39, o_iload 1 40),
  (40, o_ic 0 41),
  (41, o_ast zYC .int (fun x => x) 42),
  (42, o_iinc 1 1 45),
  (45, o_goto 26),
  (48, o_aload 0 49),
  (49, o_ic 0 50),
  (50, o_putI zYC 2 8 53),
  (53, o_aload 0 54),
  (54, o_ic 0 55),
  (55, o_putI zYC 2 9 58),
  (58, o_aload 0 59),
  (59, o_ic 0 60),
  (60, o_putI zYC 2 10 63),
  (63, o_aload 0 64),
  (64, o_ic 0 65),
  (65, o_putI zYC 2 11 68),
  (68, o_aload 0 69),
  (69, o_ic 0 70),
  (70, o_putI zYC 2 12 73),
  (73, o_aload 0 74),
  (74, o_ic 0 75),
  (75, o_putI zYC 2 13 78),
  (78, o_aload 0 79),
  (79, o_lc (-1) 82),
  (82, o_putL zYC 2 14 85),
  (85, o_vret)]
set_option maxRecDepth 100000 in
theorem ksX2_clear : ∀ q ∈ kX2_clear, zSnd zZC zmX2_clear q.1 q.2 := zcc iX2_clear_0 (zcc iX2_clear_1 (zcc iX2_clear_2 (zcc iX2_clear_3 (zcc iX2_clear_4 (zcc iX2_clear_7 (zcc iX2_clear_8 (zcc iX2_clear_11 (zcc iX2_clear_12 (zcc iX2_clear_15 (zcc iX2_clear_16 (zcc iX2_clear_17 (zcc iX2_clear_18 (zcc iX2_clear_21 (zcc iX2_clear_24 (zcc iX2_clear_25 (zcc iX2_clear_26 (zcc iX2_clear_27 (zcc iX2_clear_28 (zcc iX2_clear_31 (zcc iX2_clear_32 (zcc iX2_clear_35 (zcc iX2_clear_36 (zcc iX2_clear_39 (zcc iX2_clear_40 (zcc iX2_clear_41 (zcc iX2_clear_42 (zcc iX2_clear_45 (zcc iX2_clear_48 (zcc iX2_clear_49 (zcc iX2_clear_50 (zcc iX2_clear_53 (zcc iX2_clear_54 (zcc iX2_clear_55 (zcc iX2_clear_58 (zcc iX2_clear_59 (zcc iX2_clear_60 (zcc iX2_clear_63 (zcc iX2_clear_64 (zcc iX2_clear_65 (zcc iX2_clear_68 (zcc iX2_clear_69 (zcc iX2_clear_70 (zcc iX2_clear_73 (zcc iX2_clear_74 (zcc iX2_clear_75 (zcc iX2_clear_78 (zcc iX2_clear_79 (zcc iX2_clear_82 (zcc iX2_clear_85 zcn)))))))))))))))))))))))))))))))))))))))))))))))))
theorem iX2_countOfKind_0 : zSnd zZC zmX2_countOfKind 0 (o_iload 1 1) := s_iload_n (k := 1) (by decide +kernel) rfl
theorem iX2_countOfKind_1 : zSnd zZC zmX2_countOfKind 1 (o_sw [([0], 28), ([1], 33), ([2], 38)] 43) := s_tsw (dflt := 42) (lo := 0) (hi := 2) (offs := #[27, 32, 37]) (len := 27) (by decide +kernel) (by decide +kernel) (by decide +kernel) (by decide +kernel)
theorem iX2_countOfKind_28 : zSnd zZC zmX2_countOfKind 28 (o_aload 0 29) := s_aload_n (k := 0) (by decide +kernel) rfl
theorem iX2_countOfKind_29 : zSnd zZC zmX2_countOfKind 29 (o_getf zYC 2 8 32) := s_getf zcX2 fX2_37 (by decide +kernel) (by decide +kernel)
theorem iX2_countOfKind_32 : zSnd zZC zmX2_countOfKind 32 (o_iret) := s_iret rfl (by decide +kernel)
theorem iX2_countOfKind_33 : zSnd zZC zmX2_countOfKind 33 (o_aload 0 34) := s_aload_n (k := 0) (by decide +kernel) rfl
theorem iX2_countOfKind_34 : zSnd zZC zmX2_countOfKind 34 (o_getf zYC 2 10 37) := s_getf zcX2 fX2_44 (by decide +kernel) (by decide +kernel)
theorem iX2_countOfKind_37 : zSnd zZC zmX2_countOfKind 37 (o_iret) := s_iret rfl (by decide +kernel)
theorem iX2_countOfKind_38 : zSnd zZC zmX2_countOfKind 38 (o_aload 0 39) := s_aload_n (k := 0) (by decide +kernel) rfl
theorem iX2_countOfKind_39 : zSnd zZC zmX2_countOfKind 39 (o_getf zYC 2 11 42) := s_getf zcX2 fX2_47 (by decide +kernel) (by decide +kernel)
theorem iX2_countOfKind_42 : zSnd zZC zmX2_countOfKind 42 (o_iret) := s_iret rfl (by decide +kernel)
theorem iX2_countOfKind_43 : zSnd zZC zmX2_countOfKind 43 (o_aload 0 44) := s_aload_n (k := 0) (by decide +kernel) rfl
theorem iX2_countOfKind_44 : zSnd zZC zmX2_countOfKind 44 (o_getf zYC 2 12 47) := s_getf zcX2 fX2_50 (by decide +kernel) (by decide +kernel)
theorem iX2_countOfKind_47 : zSnd zZC zmX2_countOfKind 47 (o_iret) := s_iret rfl (by decide +kernel)
def kX2_countOfKind : List (Nat × zOp) := [(0, o_iload 1 1),
  (1, o_sw [([0], 28), ([1], 33), ([2], 38)] 43),
  (28, o_aload 0 29),
  (29, o_getf zYC 2 8 32),
  (32, o_iret),
  (33, o_aload 0 34),
  (34, o_getf zYC 2 10 37),
  (37, o_iret),
  (38, o_aload 0 39),
  (39, o_getf zYC 2 11 42),
  (42, o_iret),
  (43, o_aload 0 44),
  (44, o_getf zYC 2 12 47),
  (47, o_iret)]
set_option maxRecDepth 100000 in
theorem ksX2_countOfKind : ∀ q ∈ kX2_countOfKind, zSnd zZC zmX2_countOfKind q.1 q.2 := zcc iX2_countOfKind_0 (zcc iX2_countOfKind_1 (zcc iX2_countOfKind_28 (zcc iX2_countOfKind_29 (zcc iX2_countOfKind_32 (zcc iX2_countOfKind_33 (zcc iX2_countOfKind_34 (zcc iX2_countOfKind_37 (zcc iX2_countOfKind_38 (zcc iX2_countOfKind_39 (zcc iX2_countOfKind_42 (zcc iX2_countOfKind_43 (zcc iX2_countOfKind_44 (zcc iX2_countOfKind_47 zcn)))))))))))))
theorem iX2_firstWrong_0 : zSnd zZC zmX2_firstWrong 0 (o_ic 0 1) := s_iconst (i := 0) (by decide +kernel) (by decide +kernel)
theorem iX2_firstWrong_1 : zSnd zZC zmX2_firstWrong 1 (o_istore 1 2) := s_istore_n (k := 1) (by decide +kernel) rfl (by decide +kernel)
theorem iX2_firstWrong_2 : zSnd zZC zmX2_firstWrong 2 (o_iload 1 3) := s_iload_n (k := 1) (by decide +kernel) rfl
theorem iX2_firstWrong_3 : zSnd zZC zmX2_firstWrong 3 (o_aload 0 4) := s_aload_n (k := 0) (by decide +kernel) rfl
theorem iX2_firstWrong_4 : zSnd zZC zmX2_firstWrong 4 (o_getf zYC 2 6 7) := s_getf zcX2 fX2_31 (by decide +kernel) (by decide +kernel)
theorem iX2_firstWrong_7 : zSnd zZC zmX2_firstWrong 7 (o_alen zYC 8) := s_alen zYC_arr (by decide +kernel)
theorem iX2_firstWrong_8 : zSnd zZC zmX2_firstWrong 8 (o_icmp (fun x y => y ≤ x) 33 11) := s_icmp_ge (off := 25) (by decide +kernel) (by decide +kernel)
theorem iX2_firstWrong_11 : zSnd zZC zmX2_firstWrong 11 (o_aload 0 12) := s_aload_n (k := 0) (by decide +kernel) rfl
theorem iX2_firstWrong_12 : zSnd zZC zmX2_firstWrong 12 (o_getf zYC 2 6 15) := s_getf zcX2 fX2_31 (by decide +kernel) (by decide +kernel)
theorem iX2_firstWrong_15 : zSnd zZC zmX2_firstWrong 15 (o_iload 1 16) := s_iload_n (k := 1) (by decide +kernel) rfl
theorem iX2_firstWrong_16 : zSnd zZC zmX2_firstWrong 16 (o_ald zYC .int 17) := s_iald (by decide +kernel)
theorem iX2_firstWrong_17 : zSnd zZC zmX2_firstWrong 17 (o_if0 (fun x => x < 0) 27 20) := s_if_lt (off := 10) (by decide +kernel) (by decide +kernel)
theorem iX2_firstWrong_20 : zSnd zZC zmX2_firstWrong 20 (o_aload 0 21) := s_aload_n (k := 0) (by decide +kernel) rfl
theorem iX2_firstWrong_21 : zSnd zZC zmX2_firstWrong 21 (o_getf zYC 2 6 24) := s_getf zcX2 fX2_31 (by decide +kernel) (by decide +kernel)
theorem iX2_firstWrong_24 : zSnd zZC zmX2_firstWrong 24 (o_iload 1 25) := s_iload_n (k := 1) (by decide +kernel) rfl
theorem iX2_firstWrong_25 : zSnd zZC zmX2_firstWrong 25 (o_ald zYC .int 26) := s_iald (by decide +kernel)
theorem iX2_firstWrong_26 : zSnd zZC zmX2_firstWrong 26 (o_iret) := s_iret rfl (by decide +kernel)
theorem iX2_firstWrong_27 : zSnd zZC zmX2_firstWrong 27 (o_iinc 1 1 30) := s_iinc (a := 1) (by decide +kernel) (by decide +kernel) (by decide +kernel)
theorem iX2_firstWrong_30 : zSnd zZC zmX2_firstWrong 30 (o_goto 2) := s_goto (off := (-28)) (by decide +kernel) (by decide +kernel)
theorem iX2_firstWrong_33 : zSnd zZC zmX2_firstWrong 33 (o_ic (-1) 34) := s_iconst (i := (-1)) (by decide +kernel) (by decide +kernel)
theorem iX2_firstWrong_34 : zSnd zZC zmX2_firstWrong 34 (o_iret) := s_iret rfl (by decide +kernel)
def kX2_firstWrong : List (Nat × zOp) := [(0, o_ic 0 1),
  (1, o_istore 1 2),
  (2, o_iload 1 3),
  (3, o_aload 0 4),
  (4, o_getf zYC 2 6 7),
  (7, o_alen zYC 8),
  (8, o_icmp (fun x y => y ≤ x) 33 11),
  (11, o_aload 0 12),
  (12, o_getf zYC 2 6 15),
  (15, o_iload 1 16),
  (16, o_ald zYC .int 17),
  (17, o_if0 (fun x => x < 0) 27 20),
  (20, o_aload 0 21),
  (21, o_getf zYC 2 6 24),
  (24, o_iload 1 25),
  (25, o_ald zYC .int 26),
  (26, o_iret),
  (27, o_iinc 1 1 30),
  (30, o_goto 2),
  (33, o_ic (-1) 34),
  (34, o_iret)]
set_option maxRecDepth 100000 in
theorem ksX2_firstWrong : ∀ q ∈ kX2_firstWrong, zSnd zZC zmX2_firstWrong q.1 q.2 := zcc iX2_firstWrong_0 (zcc iX2_firstWrong_1 (zcc iX2_firstWrong_2 (zcc iX2_firstWrong_3 (zcc iX2_firstWrong_4 (zcc iX2_firstWrong_7 (zcc iX2_firstWrong_8 (zcc iX2_firstWrong_11 (zcc iX2_firstWrong_12 (zcc iX2_firstWrong_15 (zcc iX2_firstWrong_16 (zcc iX2_firstWrong_17 (zcc iX2_firstWrong_20 (zcc iX2_firstWrong_21 (zcc iX2_firstWrong_24 (zcc iX2_firstWrong_25 (zcc iX2_firstWrong_26 (zcc iX2_firstWrong_27 (zcc iX2_firstWrong_30 (zcc iX2_firstWrong_33 (zcc iX2_firstWrong_34 zcn))))))))))))))))))))
theorem iX2_noteWrong_0 : zSnd zZC zmX2_noteWrong 0 (o_iload 1 1) := s_iload_n (k := 1) (by decide +kernel) rfl
theorem iX2_noteWrong_1 : zSnd zZC zmX2_noteWrong 1 (o_if0 (fun x => x < 0) 29 4) := s_if_lt (off := 28) (by decide +kernel) (by decide +kernel)
theorem iX2_noteWrong_4 : zSnd zZC zmX2_noteWrong 4 (o_iload 1 5) := s_iload_n (k := 1) (by decide +kernel) rfl
theorem iX2_noteWrong_5 : zSnd zZC zmX2_noteWrong 5 (o_aload 0 6) := s_aload_n (k := 0) (by decide +kernel) rfl
theorem iX2_noteWrong_6 : zSnd zZC zmX2_noteWrong 6 (o_getf zYC 2 6 9) := s_getf zcX2 fX2_31 (by decide +kernel) (by decide +kernel)
theorem iX2_noteWrong_9 : zSnd zZC zmX2_noteWrong 9 (o_alen zYC 10) := s_alen zYC_arr (by decide +kernel)
theorem iX2_noteWrong_10 : zSnd zZC zmX2_noteWrong 10 (o_icmp (fun x y => y ≤ x) 29 13) := s_icmp_ge (off := 19) (by decide +kernel) (by decide +kernel)
theorem iX2_noteWrong_13 : zSnd zZC zmX2_noteWrong 13 (o_aload 0 14) := s_aload_n (k := 0) (by decide +kernel) rfl
theorem iX2_noteWrong_14 : zSnd zZC zmX2_noteWrong 14 (o_getf zYC 2 6 17) := s_getf zcX2 fX2_31 (by decide +kernel) (by decide +kernel)
theorem iX2_noteWrong_17 : zSnd zZC zmX2_noteWrong 17 (o_iload 1 18) := s_iload_n (k := 1) (by decide +kernel) rfl
theorem iX2_noteWrong_18 : zSnd zZC zmX2_noteWrong 18 (o_ald zYC .int 19) := s_iald (by decide +kernel)
theorem iX2_noteWrong_19 : zSnd zZC zmX2_noteWrong 19 (o_if0 (fun x => 0 ≤ x) 29 22) := s_if_ge (off := 10) (by decide +kernel) (by decide +kernel)
theorem iX2_noteWrong_22 : zSnd zZC zmX2_noteWrong 22 (o_aload 0 23) := s_aload_n (k := 0) (by decide +kernel) rfl
theorem iX2_noteWrong_23 : zSnd zZC zmX2_noteWrong 23 (o_getf zYC 2 6 26) := s_getf zcX2 fX2_31 (by decide +kernel) (by decide +kernel)
theorem iX2_noteWrong_26 : zSnd zZC zmX2_noteWrong 26 (o_iload 1 27) := s_iload_n (k := 1) (by decide +kernel) rfl
theorem iX2_noteWrong_27 : zSnd zZC zmX2_noteWrong 27 (o_iload 2 28) := s_iload_n (k := 2) (by decide +kernel) rfl
theorem iX2_noteWrong_28 : zSnd zZC zmX2_noteWrong 28 (o_ast zYC .int (fun x => x) 29) := s_iast (by decide +kernel)
theorem iX2_noteWrong_29 : zSnd zZC zmX2_noteWrong 29 (o_vret) := s_vret rfl (by decide +kernel)
def kX2_noteWrong : List (Nat × zOp) := [(0, o_iload 1 1),
  (1, o_if0 (fun x => x < 0) 29 4),
  (4, o_iload 1 5),
  (5, o_aload 0 6),
  (6, o_getf zYC 2 6 9),
  (9, o_alen zYC 10),
  (10, o_icmp (fun x y => y ≤ x) 29 13),
  (13, o_aload 0 14),
  (14, o_getf zYC 2 6 17),
  (17, o_iload 1 18),
  (18, o_ald zYC .int 19),
  (19, o_if0 (fun x => 0 ≤ x) 29 22),
  (22, o_aload 0 23),
  (23, o_getf zYC 2 6 26),
  (26, o_iload 1 27),
  (27, o_iload 2 28),
  (28, o_ast zYC .int (fun x => x) 29),
  (29, o_vret)]
set_option maxRecDepth 100000 in
theorem ksX2_noteWrong : ∀ q ∈ kX2_noteWrong, zSnd zZC zmX2_noteWrong q.1 q.2 := zcc iX2_noteWrong_0 (zcc iX2_noteWrong_1 (zcc iX2_noteWrong_4 (zcc iX2_noteWrong_5 (zcc iX2_noteWrong_6 (zcc iX2_noteWrong_9 (zcc iX2_noteWrong_10 (zcc iX2_noteWrong_13 (zcc iX2_noteWrong_14 (zcc iX2_noteWrong_17 (zcc iX2_noteWrong_18 (zcc iX2_noteWrong_19 (zcc iX2_noteWrong_22 (zcc iX2_noteWrong_23 (zcc iX2_noteWrong_26 (zcc iX2_noteWrong_27 (zcc iX2_noteWrong_28 (zcc iX2_noteWrong_29 zcn)))))))))))))))))
theorem iX2_parameter_0 : zSnd zZC zmX2_parameter 0 (o_iload 1 1) := s_iload_n (k := 1) (by decide +kernel) rfl
theorem iX2_parameter_1 : zSnd zZC zmX2_parameter 1 (o_ic 16 3) := s_bipush (i := 16) (by decide +kernel) (by decide +kernel)
theorem iX2_parameter_3 : zSnd zZC zmX2_parameter 3 (o_ibin (fun x y => x * y) 4) := s_imul (by decide +kernel)
theorem iX2_parameter_4 : zSnd zZC zmX2_parameter 4 (o_iload 2 5) := s_iload_n (k := 2) (by decide +kernel) rfl
theorem iX2_parameter_5 : zSnd zZC zmX2_parameter 5 (o_ibin (fun x y => x + y) 6) := s_iadd (by decide +kernel)
theorem iX2_parameter_6 : zSnd zZC zmX2_parameter 6 (o_istore 3 7) := s_istore_n (k := 3) (by decide +kernel) rfl (by decide +kernel)
theorem iX2_parameter_7 : zSnd zZC zmX2_parameter 7 (o_iload 3 8) := s_iload_n (k := 3) (by decide +kernel) rfl
theorem iX2_parameter_8 : zSnd zZC zmX2_parameter 8 (o_if0 (fun x => x < 0) 29 11) := s_if_lt (off := 21) (by decide +kernel) (by decide +kernel)
theorem iX2_parameter_11 : zSnd zZC zmX2_parameter 11 (o_iload 3 12) := s_iload_n (k := 3) (by decide +kernel) rfl
theorem iX2_parameter_12 : zSnd zZC zmX2_parameter 12 (o_aload 0 13) := s_aload_n (k := 0) (by decide +kernel) rfl
theorem iX2_parameter_13 : zSnd zZC zmX2_parameter 13 (o_getf zYC 2 1 16) := s_getf zcX2 fX2_15 (by decide +kernel) (by decide +kernel)
theorem iX2_parameter_16 : zSnd zZC zmX2_parameter 16 (o_alen zYC 17) := s_alen zYC_arr (by decide +kernel)
theorem iX2_parameter_17 : zSnd zZC zmX2_parameter 17 (o_icmp (fun x y => y ≤ x) 29 20) := s_icmp_ge (off := 12) (by decide +kernel) (by decide +kernel)
theorem iX2_parameter_20 : zSnd zZC zmX2_parameter 20 (o_aload 0 21) := s_aload_n (k := 0) (by decide +kernel) rfl
theorem iX2_parameter_21 : zSnd zZC zmX2_parameter 21 (o_getf zYC 2 1 24) := s_getf zcX2 fX2_15 (by decide +kernel) (by decide +kernel)
theorem iX2_parameter_24 : zSnd zZC zmX2_parameter 24 (o_iload 3 25) := s_iload_n (k := 3) (by decide +kernel) rfl
theorem iX2_parameter_25 : zSnd zZC zmX2_parameter 25 (o_ald zYC .int 26) := s_iald (by decide +kernel)
theorem iX2_parameter_26 : zSnd zZC zmX2_parameter 26 (o_goto 30) := s_goto (off := 4) (by decide +kernel) (by decide +kernel)
theorem iX2_parameter_29 : zSnd zZC zmX2_parameter 29 (o_ic 0 30) := s_iconst (i := 0) (by decide +kernel) (by decide +kernel)
theorem iX2_parameter_30 : zSnd zZC zmX2_parameter 30 (o_iret) := s_iret rfl (by decide +kernel)
def kX2_parameter : List (Nat × zOp) := [(0, o_iload 1 1),
  (1, o_ic 16 3),
  (3, o_ibin (fun x y => x * y) 4),
  (4, o_iload 2 5),
  (5, o_ibin (fun x y => x + y) 6),
  (6, o_istore 3 7),
  (7, o_iload 3 8),
  (8, o_if0 (fun x => x < 0) 29 11),
  (11, o_iload 3 12),
  (12, o_aload 0 13),
  (13, o_getf zYC 2 1 16),
  (16, o_alen zYC 17),
  (17, o_icmp (fun x y => y ≤ x) 29 20),
  (20, o_aload 0 21),
  (21, o_getf zYC 2 1 24),
  (24, o_iload 3 25),
  (25, o_ald zYC .int 26),
  (26, o_goto 30),
  (29, o_ic 0 30),
  (30, o_iret)]
set_option maxRecDepth 100000 in
theorem ksX2_parameter : ∀ q ∈ kX2_parameter, zSnd zZC zmX2_parameter q.1 q.2 := zcc iX2_parameter_0 (zcc iX2_parameter_1 (zcc iX2_parameter_3 (zcc iX2_parameter_4 (zcc iX2_parameter_5 (zcc iX2_parameter_6 (zcc iX2_parameter_7 (zcc iX2_parameter_8 (zcc iX2_parameter_11 (zcc iX2_parameter_12 (zcc iX2_parameter_13 (zcc iX2_parameter_16 (zcc iX2_parameter_17 (zcc iX2_parameter_20 (zcc iX2_parameter_21 (zcc iX2_parameter_24 (zcc iX2_parameter_25 (zcc iX2_parameter_26 (zcc iX2_parameter_29 (zcc iX2_parameter_30 zcn)))))))))))))))))))
theorem iX2_parameterCount_0 : zSnd zZC zmX2_parameterCount 0 (o_iload 1 1) := s_iload_n (k := 1) (by decide +kernel) rfl
theorem iX2_parameterCount_1 : zSnd zZC zmX2_parameterCount 1 (o_if0 (fun x => x < 0) 22 4) := s_if_lt (off := 21) (by decide +kernel) (by decide +kernel)
theorem iX2_parameterCount_4 : zSnd zZC zmX2_parameterCount 4 (o_iload 1 5) := s_iload_n (k := 1) (by decide +kernel) rfl
theorem iX2_parameterCount_5 : zSnd zZC zmX2_parameterCount 5 (o_aload 0 6) := s_aload_n (k := 0) (by decide +kernel) rfl
theorem iX2_parameterCount_6 : zSnd zZC zmX2_parameterCount 6 (o_getf zYC 2 0 9) := s_getf zcX2 fX2_9 (by decide +kernel) (by decide +kernel)
theorem iX2_parameterCount_9 : zSnd zZC zmX2_parameterCount 9 (o_alen zYC 10) := s_alen zYC_arr (by decide +kernel)
theorem iX2_parameterCount_10 : zSnd zZC zmX2_parameterCount 10 (o_icmp (fun x y => y ≤ x) 22 13) := s_icmp_ge (off := 12) (by decide +kernel) (by decide +kernel)
theorem iX2_parameterCount_13 : zSnd zZC zmX2_parameterCount 13 (o_aload 0 14) := s_aload_n (k := 0) (by decide +kernel) rfl
theorem iX2_parameterCount_14 : zSnd zZC zmX2_parameterCount 14 (o_getf zYC 2 0 17) := s_getf zcX2 fX2_9 (by decide +kernel) (by decide +kernel)
theorem iX2_parameterCount_17 : zSnd zZC zmX2_parameterCount 17 (o_iload 1 18) := s_iload_n (k := 1) (by decide +kernel) rfl
theorem iX2_parameterCount_18 : zSnd zZC zmX2_parameterCount 18 (o_ald zYC .int 19) := s_iald (by decide +kernel)
theorem iX2_parameterCount_19 : zSnd zZC zmX2_parameterCount 19 (o_goto 23) := s_goto (off := 4) (by decide +kernel) (by decide +kernel)
theorem iX2_parameterCount_22 : zSnd zZC zmX2_parameterCount 22 (o_ic 0 23) := s_iconst (i := 0) (by decide +kernel) (by decide +kernel)
theorem iX2_parameterCount_23 : zSnd zZC zmX2_parameterCount 23 (o_iret) := s_iret rfl (by decide +kernel)
def kX2_parameterCount : List (Nat × zOp) := [(0, o_iload 1 1),
  (1, o_if0 (fun x => x < 0) 22 4),
  (4, o_iload 1 5),
  (5, o_aload 0 6),
  (6, o_getf zYC 2 0 9),
  (9, o_alen zYC 10),
  (10, o_icmp (fun x y => y ≤ x) 22 13),
  (13, o_aload 0 14),
  (14, o_getf zYC 2 0 17),
  (17, o_iload 1 18),
  (18, o_ald zYC .int 19),
  (19, o_goto 23),
  (22, o_ic 0 23),
  (23, o_iret)]
set_option maxRecDepth 100000 in
theorem ksX2_parameterCount : ∀ q ∈ kX2_parameterCount, zSnd zZC zmX2_parameterCount q.1 q.2 := zcc iX2_parameterCount_0 (zcc iX2_parameterCount_1 (zcc iX2_parameterCount_4 (zcc iX2_parameterCount_5 (zcc iX2_parameterCount_6 (zcc iX2_parameterCount_9 (zcc iX2_parameterCount_10 (zcc iX2_parameterCount_13 (zcc iX2_parameterCount_14 (zcc iX2_parameterCount_17 (zcc iX2_parameterCount_18 (zcc iX2_parameterCount_19 (zcc iX2_parameterCount_22 (zcc iX2_parameterCount_23 zcn)))))))))))))
theorem iX2_resultOf_0 : zSnd zZC zmX2_resultOf 0 (o_iload 1 1) := s_iload_n (k := 1) (by decide +kernel) rfl
theorem iX2_resultOf_1 : zSnd zZC zmX2_resultOf 1 (o_if0 (fun x => x < 0) 22 4) := s_if_lt (off := 21) (by decide +kernel) (by decide +kernel)
theorem iX2_resultOf_4 : zSnd zZC zmX2_resultOf 4 (o_iload 1 5) := s_iload_n (k := 1) (by decide +kernel) rfl
theorem iX2_resultOf_5 : zSnd zZC zmX2_resultOf 5 (o_aload 0 6) := s_aload_n (k := 0) (by decide +kernel) rfl
theorem iX2_resultOf_6 : zSnd zZC zmX2_resultOf 6 (o_getf zYC 2 2 9) := s_getf zcX2 fX2_18 (by decide +kernel) (by decide +kernel)
theorem iX2_resultOf_9 : zSnd zZC zmX2_resultOf 9 (o_alen zYC 10) := s_alen zYC_arr (by decide +kernel)
theorem iX2_resultOf_10 : zSnd zZC zmX2_resultOf 10 (o_icmp (fun x y => y ≤ x) 22 13) := s_icmp_ge (off := 12) (by decide +kernel) (by decide +kernel)
theorem iX2_resultOf_13 : zSnd zZC zmX2_resultOf 13 (o_aload 0 14) := s_aload_n (k := 0) (by decide +kernel) rfl
theorem iX2_resultOf_14 : zSnd zZC zmX2_resultOf 14 (o_getf zYC 2 2 17) := s_getf zcX2 fX2_18 (by decide +kernel) (by decide +kernel)
theorem iX2_resultOf_17 : zSnd zZC zmX2_resultOf 17 (o_iload 1 18) := s_iload_n (k := 1) (by decide +kernel) rfl
theorem iX2_resultOf_18 : zSnd zZC zmX2_resultOf 18 (o_ald zYC .int 19) := s_iald (by decide +kernel)
theorem iX2_resultOf_19 : zSnd zZC zmX2_resultOf 19 (o_goto 24) := s_goto (off := 5) (by decide +kernel) (by decide +kernel)
theorem iX2_resultOf_22 : zSnd zZC zmX2_resultOf 22 (o_ic 64 24) := s_bipush (i := 64) (by decide +kernel) (by decide +kernel)
theorem iX2_resultOf_24 : zSnd zZC zmX2_resultOf 24 (o_iret) := s_iret rfl (by decide +kernel)
def kX2_resultOf : List (Nat × zOp) := [(0, o_iload 1 1),
  (1, o_if0 (fun x => x < 0) 22 4),
  (4, o_iload 1 5),
  (5, o_aload 0 6),
  (6, o_getf zYC 2 2 9),
  (9, o_alen zYC 10),
  (10, o_icmp (fun x y => y ≤ x) 22 13),
  (13, o_aload 0 14),
  (14, o_getf zYC 2 2 17),
  (17, o_iload 1 18),
  (18, o_ald zYC .int 19),
  (19, o_goto 24),
  (22, o_ic 64 24),
  (24, o_iret)]
set_option maxRecDepth 100000 in
theorem ksX2_resultOf : ∀ q ∈ kX2_resultOf, zSnd zZC zmX2_resultOf q.1 q.2 := zcc iX2_resultOf_0 (zcc iX2_resultOf_1 (zcc iX2_resultOf_4 (zcc iX2_resultOf_5 (zcc iX2_resultOf_6 (zcc iX2_resultOf_9 (zcc iX2_resultOf_10 (zcc iX2_resultOf_13 (zcc iX2_resultOf_14 (zcc iX2_resultOf_17 (zcc iX2_resultOf_18 (zcc iX2_resultOf_19 (zcc iX2_resultOf_22 (zcc iX2_resultOf_24 zcn)))))))))))))
theorem iX2_signatureOf_0 : zSnd zZC zmX2_signatureOf 0 (o_lload 1 1) := s_lload_n (k := 1) (by decide +kernel) rfl
theorem iX2_signatureOf_1 : zSnd zZC zmX2_signatureOf 1 (o_lc 0 2) := s_lconst (i := 0) (by decide +kernel) (by decide +kernel)
theorem iX2_signatureOf_2 : zSnd zZC zmX2_signatureOf 2 (o_lif (fun x y => x < y) 27 6) := s_llt (off := 24) (by decide +kernel) (by decide +kernel) (by decide +kernel)
theorem iX2_signatureOf_6 : zSnd zZC zmX2_signatureOf 6 (o_lload 1 7) := s_lload_n (k := 1) (by decide +kernel) rfl
theorem iX2_signatureOf_7 : zSnd zZC zmX2_signatureOf 7 (o_aload 0 8) := s_aload_n (k := 0) (by decide +kernel) rfl
theorem iX2_signatureOf_8 : zSnd zZC zmX2_signatureOf 8 (o_getf zYC 2 8 11) := s_getf zcX2 fX2_37 (by decide +kernel) (by decide +kernel)
theorem iX2_signatureOf_11 : zSnd zZC zmX2_signatureOf 11 (o_i2l 12) := s_i2l (by decide +kernel)
theorem iX2_signatureOf_12 : zSnd zZC zmX2_signatureOf 12 (o_lif (fun x y => y ≤ x) 27 16) := s_lge (off := 14) (by decide +kernel) (by decide +kernel) (by decide +kernel)
theorem iX2_signatureOf_16 : zSnd zZC zmX2_signatureOf 16 (o_lload 1 17) := s_lload_n (k := 1) (by decide +kernel) rfl
theorem iX2_signatureOf_17 : zSnd zZC zmX2_signatureOf 17 (o_aload 0 18) := s_aload_n (k := 0) (by decide +kernel) rfl
theorem iX2_signatureOf_18 : zSnd zZC zmX2_signatureOf 18 (o_getf zYC 2 3 21) := s_getf zcX2 fX2_21 (by decide +kernel) (by decide +kernel)
theorem iX2_signatureOf_21 : zSnd zZC zmX2_signatureOf 21 (o_alen zYC 22) := s_alen zYC_arr (by decide +kernel)
theorem iX2_signatureOf_22 : zSnd zZC zmX2_signatureOf 22 (o_i2l 23) := s_i2l (by decide +kernel)
theorem iX2_signatureOf_23 : zSnd zZC zmX2_signatureOf 23 (o_lif (fun x y => x < y) 29 27) := s_llt (off := 5) (by decide +kernel) (by decide +kernel) (by decide +kernel)
theorem iX2_signatureOf_27 : zSnd zZC zmX2_signatureOf 27 (o_ic (-1) 28) := s_iconst (i := (-1)) (by decide +kernel) (by decide +kernel)
theorem iX2_signatureOf_28 : zSnd zZC zmX2_signatureOf 28 (o_iret) := s_iret rfl (by decide +kernel)
theorem iX2_signatureOf_29 : zSnd zZC zmX2_signatureOf 29 (o_aload 0 30) := s_aload_n (k := 0) (by decide +kernel) rfl
theorem iX2_signatureOf_30 : zSnd zZC zmX2_signatureOf 30 (o_getf zYC 2 3 33) := s_getf zcX2 fX2_21 (by decide +kernel) (by decide +kernel)
theorem iX2_signatureOf_33 : zSnd zZC zmX2_signatureOf 33 (o_lload 1 34) := s_lload_n (k := 1) (by decide +kernel) rfl
theorem iX2_signatureOf_34 : zSnd zZC zmX2_signatureOf 34 (o_l2i 35) := s_l2i (by decide +kernel)
theorem iX2_signatureOf_35 : zSnd zZC zmX2_signatureOf 35 (o_ald zYC .int 36) := s_iald (by decide +kernel)
theorem iX2_signatureOf_36 : zSnd zZC zmX2_signatureOf 36 (o_iret) := s_iret rfl (by decide +kernel)
def kX2_signatureOf : List (Nat × zOp) := [(0, o_lload 1 1),
  (1, o_lc 0 2),
  (2, o_lif (fun x y => x < y) 27 6),
  (6, o_lload 1 7),
  (7, o_aload 0 8),
  (8, o_getf zYC 2 8 11),
  (11, o_i2l 12),
  (12, o_lif (fun x y => y ≤ x) 27 16),
  (16, o_lload 1 17),
  (17, o_aload 0 18),
  (18, o_getf zYC 2 3 21),
  (21, o_alen zYC 22),
  (22, o_i2l 23),
  (23, o_lif (fun x y => x < y) 29 27),
  (27, o_ic (-1) 28),
  (28, o_iret),
  (29, o_aload 0 30),
  (30, o_getf zYC 2 3 33),
  (33, o_lload 1 34),
  (34, o_l2i 35),
  (35, o_ald zYC .int 36),
  (36, o_iret)]
set_option maxRecDepth 100000 in
theorem ksX2_signatureOf : ∀ q ∈ kX2_signatureOf, zSnd zZC zmX2_signatureOf q.1 q.2 := zcc iX2_signatureOf_0 (zcc iX2_signatureOf_1 (zcc iX2_signatureOf_2 (zcc iX2_signatureOf_6 (zcc iX2_signatureOf_7 (zcc iX2_signatureOf_8 (zcc iX2_signatureOf_11 (zcc iX2_signatureOf_12 (zcc iX2_signatureOf_16 (zcc iX2_signatureOf_17 (zcc iX2_signatureOf_18 (zcc iX2_signatureOf_21 (zcc iX2_signatureOf_22 (zcc iX2_signatureOf_23 (zcc iX2_signatureOf_27 (zcc iX2_signatureOf_28 (zcc iX2_signatureOf_29 (zcc iX2_signatureOf_30 (zcc iX2_signatureOf_33 (zcc iX2_signatureOf_34 (zcc iX2_signatureOf_35 (zcc iX2_signatureOf_36 zcn)))))))))))))))))))))
theorem iX2_typeOfGlobal_0 : zSnd zZC zmX2_typeOfGlobal 0 (o_iload 1 1) := s_iload_n (k := 1) (by decide +kernel) rfl
theorem iX2_typeOfGlobal_1 : zSnd zZC zmX2_typeOfGlobal 1 (o_if0 (fun x => x < 0) 22 4) := s_if_lt (off := 21) (by decide +kernel) (by decide +kernel)
theorem iX2_typeOfGlobal_4 : zSnd zZC zmX2_typeOfGlobal 4 (o_iload 1 5) := s_iload_n (k := 1) (by decide +kernel) rfl
theorem iX2_typeOfGlobal_5 : zSnd zZC zmX2_typeOfGlobal 5 (o_aload 0 6) := s_aload_n (k := 0) (by decide +kernel) rfl
theorem iX2_typeOfGlobal_6 : zSnd zZC zmX2_typeOfGlobal 6 (o_getf zYC 2 4 9) := s_getf zcX2 fX2_24 (by decide +kernel) (by decide +kernel)
theorem iX2_typeOfGlobal_9 : zSnd zZC zmX2_typeOfGlobal 9 (o_alen zYC 10) := s_alen zYC_arr (by decide +kernel)
theorem iX2_typeOfGlobal_10 : zSnd zZC zmX2_typeOfGlobal 10 (o_icmp (fun x y => y ≤ x) 22 13) := s_icmp_ge (off := 12) (by decide +kernel) (by decide +kernel)
theorem iX2_typeOfGlobal_13 : zSnd zZC zmX2_typeOfGlobal 13 (o_aload 0 14) := s_aload_n (k := 0) (by decide +kernel) rfl
theorem iX2_typeOfGlobal_14 : zSnd zZC zmX2_typeOfGlobal 14 (o_getf zYC 2 4 17) := s_getf zcX2 fX2_24 (by decide +kernel) (by decide +kernel)
theorem iX2_typeOfGlobal_17 : zSnd zZC zmX2_typeOfGlobal 17 (o_iload 1 18) := s_iload_n (k := 1) (by decide +kernel) rfl
theorem iX2_typeOfGlobal_18 : zSnd zZC zmX2_typeOfGlobal 18 (o_ald zYC .int 19) := s_iald (by decide +kernel)
theorem iX2_typeOfGlobal_19 : zSnd zZC zmX2_typeOfGlobal 19 (o_goto 23) := s_goto (off := 4) (by decide +kernel) (by decide +kernel)
theorem iX2_typeOfGlobal_22 : zSnd zZC zmX2_typeOfGlobal 22 (o_ic 0 23) := s_iconst (i := 0) (by decide +kernel) (by decide +kernel)
theorem iX2_typeOfGlobal_23 : zSnd zZC zmX2_typeOfGlobal 23 (o_iret) := s_iret rfl (by decide +kernel)
def kX2_typeOfGlobal : List (Nat × zOp) := [(0, o_iload 1 1),
  (1, o_if0 (fun x => x < 0) 22 4),
  (4, o_iload 1 5),
  (5, o_aload 0 6),
  (6, o_getf zYC 2 4 9),
  (9, o_alen zYC 10),
  (10, o_icmp (fun x y => y ≤ x) 22 13),
  (13, o_aload 0 14),
  (14, o_getf zYC 2 4 17),
  (17, o_iload 1 18),
  (18, o_ald zYC .int 19),
  (19, o_goto 23),
  (22, o_ic 0 23),
  (23, o_iret)]
set_option maxRecDepth 100000 in
theorem ksX2_typeOfGlobal : ∀ q ∈ kX2_typeOfGlobal, zSnd zZC zmX2_typeOfGlobal q.1 q.2 := zcc iX2_typeOfGlobal_0 (zcc iX2_typeOfGlobal_1 (zcc iX2_typeOfGlobal_4 (zcc iX2_typeOfGlobal_5 (zcc iX2_typeOfGlobal_6 (zcc iX2_typeOfGlobal_9 (zcc iX2_typeOfGlobal_10 (zcc iX2_typeOfGlobal_13 (zcc iX2_typeOfGlobal_14 (zcc iX2_typeOfGlobal_17 (zcc iX2_typeOfGlobal_18 (zcc iX2_typeOfGlobal_19 (zcc iX2_typeOfGlobal_22 (zcc iX2_typeOfGlobal_23 zcn)))))))))))))
theorem iX3_bodyResult_0 : zSnd zZC zmX3_bodyResult 0 (o_aload 0 1) := s_aload_n (k := 0) (by decide +kernel) rfl
theorem iX3_bodyResult_1 : zSnd zZC zmX3_bodyResult 1 (o_getf zYC 5 1 4) := s_getf zcX3 fX3_15 (by decide +kernel) (by decide +kernel)
theorem iX3_bodyResult_4 : zSnd zZC zmX3_bodyResult 4 (o_ic 0 5) := s_iconst (i := 0) (by decide +kernel) (by decide +kernel)
theorem iX3_bodyResult_5 : zSnd zZC zmX3_bodyResult 5 (o_ald zYC .int 6) := s_iald (by decide +kernel)
theorem iX3_bodyResult_6 : zSnd zZC zmX3_bodyResult 6 (o_iret) := s_iret rfl (by decide +kernel)
def kX3_bodyResult : List (Nat × zOp) := [(0, o_aload 0 1),
  (1, o_getf zYC 5 1 4),
  (4, o_ic 0 5),
  (5, o_ald zYC .int 6),
  (6, o_iret)]
set_option maxRecDepth 100000 in
theorem ksX3_bodyResult : ∀ q ∈ kX3_bodyResult, zSnd zZC zmX3_bodyResult q.1 q.2 := zcc iX3_bodyResult_0 (zcc iX3_bodyResult_1 (zcc iX3_bodyResult_4 (zcc iX3_bodyResult_5 (zcc iX3_bodyResult_6 zcn))))
theorem iX3_demand_0 : zSnd zZC zmX3_demand 0 (o_iload 1 1) := s_iload_n (k := 1) (by decide +kernel) rfl
theorem iX3_demand_1 : zSnd zZC zmX3_demand 1 (o_if0 (fun x => x = 0) 4 9) := s_if_ne (off := 8) (by decide +kernel) (by decide +kernel)
theorem iX3_demand_4 : zSnd zZC zmX3_demand 4 (o_aload 0 5) := s_aload_n (k := 0) (by decide +kernel) rfl
theorem iX3_demand_5 : zSnd zZC zmX3_demand 5 (o_ic 0 6) := s_iconst (i := 0) (by decide +kernel) (by decide +kernel)
theorem iX3_demand_6 : zSnd zZC zmX3_demand 6 (o_putZ zYC 5 7 9) := s_putZ zcX3 fX3_44 (by decide +kernel) rfl rfl (by decide +kernel)
theorem iX3_demand_9 : zSnd zZC zmX3_demand 9 (o_vret) := s_vret rfl (by decide +kernel)
def kX3_demand : List (Nat × zOp) := [(0, o_iload 1 1),
  (1, o_if0 (fun x => x = 0) 4 9),
  (4, o_aload 0 5),
  (5, o_ic 0 6),
  (6, o_putZ zYC 5 7 9),
  (9, o_vret)]
set_option maxRecDepth 100000 in
theorem ksX3_demand : ∀ q ∈ kX3_demand, zSnd zZC zmX3_demand q.1 q.2 := zcc iX3_demand_0 (zcc iX3_demand_1 (zcc iX3_demand_4 (zcc iX3_demand_5 (zcc iX3_demand_6 (zcc iX3_demand_9 zcn)))))
theorem iX3_forget_0 : zSnd zZC zmX3_forget 0 (o_aload 0 1) := s_aload_n (k := 0) (by decide +kernel) rfl
theorem iX3_forget_1 : zSnd zZC zmX3_forget 1 (o_getf zYC 5 5 4) := s_getf zcX3 fX3_29 (by decide +kernel) (by decide +kernel)
theorem iX3_forget_4 : zSnd zZC zmX3_forget 4 (o_if0 (fun x => x < 0) 42 7) := s_if_lt (off := 38) (by decide +kernel) (by decide +kernel)
theorem iX3_forget_7 : zSnd zZC zmX3_forget 7 (o_aload 0 8) := s_aload_n (k := 0) (by decide +kernel) rfl
theorem iX3_forget_8 : zSnd zZC zmX3_forget 8 (o_getf zYC 5 5 11) := s_getf zcX3 fX3_29 (by decide +kernel) (by decide +kernel)
theorem iX3_forget_11 : zSnd zZC zmX3_forget 11 (o_aload 0 12) := s_aload_n (k := 0) (by decide +kernel) rfl
theorem iX3_forget_12 : zSnd zZC zmX3_forget 12 (o_getf zYC 5 2 15) := s_getf zcX3 fX3_18 (by decide +kernel) (by decide +kernel)
theorem iX3_forget_15 : zSnd zZC zmX3_forget 15 (o_alen zYC 16) := s_alen zYC_arr (by decide +kernel)
theorem iX3_forget_16 : zSnd zZC zmX3_forget 16 (o_icmp (fun x y => y ≤ x) 42 19) := s_icmp_ge (off := 26) (by decide +kernel) (by decide +kernel)
theorem iX3_forget_19 : zSnd zZC zmX3_forget 19 (o_aload 0 20) := s_aload_n (k := 0) (by decide +kernel) rfl
theorem iX3_forget_20 : zSnd zZC zmX3_forget 20 (o_aload 0 21) := s_aload_n (k := 0) (by decide +kernel) rfl
theorem iX3_forget_21 : zSnd zZC zmX3_forget 21 (o_getf zYC 5 2 24) := s_getf zcX3 fX3_18 (by decide +kernel) (by decide +kernel)
theorem iX3_forget_24 : zSnd zZC zmX3_forget 24 (o_aload 0 25) := s_aload_n (k := 0) (by decide +kernel) rfl
theorem iX3_forget_25 : zSnd zZC zmX3_forget 25 (o_getf zYC 5 5 28) := s_getf zcX3 fX3_29 (by decide +kernel) (by decide +kernel)
theorem iX3_forget_28 : zSnd zZC zmX3_forget 28 (o_ald zYC .int 29) := s_iald (by decide +kernel)
theorem iX3_forget_29 : zSnd zZC zmX3_forget 29 (o_putI zYC 5 6 32) := s_putI zcX3 fX3_33 (by decide +kernel) rfl rfl (by decide +kernel)
theorem iX3_forget_32 : zSnd zZC zmX3_forget 32 (o_aload 0 33) := s_aload_n (k := 0) (by decide +kernel) rfl
theorem iX3_forget_33 : zSnd zZC zmX3_forget 33 (o_getf zYC 5 3 36) := s_getf zcX3 fX3_21 (by decide +kernel) (by decide +kernel)
theorem iX3_forget_36 : zSnd zZC zmX3_forget 36 (o_aload 0 37) := s_aload_n (k := 0) (by decide +kernel) rfl
theorem iX3_forget_37 : zSnd zZC zmX3_forget 37 (o_getf zYC 5 5 40) := s_getf zcX3 fX3_29 (by decide +kernel) (by decide +kernel)
theorem iX3_forget_40 : zSnd zZC zmX3_forget 40 (o_ic 1 41) := s_iconst (i := 1) (by decide +kernel) (by decide +kernel)
theorem iX3_forget_41 : zSnd zZC zmX3_forget 41 (o_ast zYC .boolean (fun x => vp_nar .boolean x) 42) := s_zast (by decide +kernel)
theorem iX3_forget_42 : zSnd zZC zmX3_forget 42 (o_vret) := s_vret rfl (by decide +kernel)
def kX3_forget : List (Nat × zOp) := [(0, o_aload 0 1),
  (1, o_getf zYC 5 5 4),
  (4, o_if0 (fun x => x < 0) 42 7),
  (7, o_aload 0 8),
  (8, o_getf zYC 5 5 11),
  (11, o_aload 0 12),
  (12, o_getf zYC 5 2 15),
  (15, o_alen zYC 16),
  (16, o_icmp (fun x y => y ≤ x) 42 19),
  (19, o_aload 0 20),
  (20, o_aload 0 21),
  (21, o_getf zYC 5 2 24),
  (24, o_aload 0 25),
  (25, o_getf zYC 5 5 28),
  (28, o_ald zYC .int 29),
  (29, o_putI zYC 5 6 32),
  (32, o_aload 0 33),
  (33, o_getf zYC 5 3 36),
  (36, o_aload 0 37),
  (37, o_getf zYC 5 5 40),
  (40, o_ic 1 41),
  (41, o_ast zYC .boolean (fun x => vp_nar .boolean x) 42),
  (42, o_vret)]
set_option maxRecDepth 100000 in
theorem ksX3_forget : ∀ q ∈ kX3_forget, zSnd zZC zmX3_forget q.1 q.2 := zcc iX3_forget_0 (zcc iX3_forget_1 (zcc iX3_forget_4 (zcc iX3_forget_7 (zcc iX3_forget_8 (zcc iX3_forget_11 (zcc iX3_forget_12 (zcc iX3_forget_15 (zcc iX3_forget_16 (zcc iX3_forget_19 (zcc iX3_forget_20 (zcc iX3_forget_21 (zcc iX3_forget_24 (zcc iX3_forget_25 (zcc iX3_forget_28 (zcc iX3_forget_29 (zcc iX3_forget_32 (zcc iX3_forget_33 (zcc iX3_forget_36 (zcc iX3_forget_37 (zcc iX3_forget_40 (zcc iX3_forget_41 (zcc iX3_forget_42 zcn))))))))))))))))))))))
theorem iX3_isEmpty_0 : zSnd zZC zmX3_isEmpty 0 (o_aload 0 1) := s_aload_n (k := 0) (by decide +kernel) rfl
theorem iX3_isEmpty_1 : zSnd zZC zmX3_isEmpty 1 (o_getf zYC 5 5 4) := s_getf zcX3 fX3_29 (by decide +kernel) (by decide +kernel)
theorem iX3_isEmpty_4 : zSnd zZC zmX3_isEmpty 4 (o_if0 (fun x => x < 0) 39 7) := s_if_lt (off := 35) (by decide +kernel) (by decide +kernel)
theorem iX3_isEmpty_7 : zSnd zZC zmX3_isEmpty 7 (o_aload 0 8) := s_aload_n (k := 0) (by decide +kernel) rfl
theorem iX3_isEmpty_8 : zSnd zZC zmX3_isEmpty 8 (o_getf zYC 5 5 11) := s_getf zcX3 fX3_29 (by decide +kernel) (by decide +kernel)
theorem iX3_isEmpty_11 : zSnd zZC zmX3_isEmpty 11 (o_aload 0 12) := s_aload_n (k := 0) (by decide +kernel) rfl
theorem iX3_isEmpty_12 : zSnd zZC zmX3_isEmpty 12 (o_getf zYC 5 2 15) := s_getf zcX3 fX3_18 (by decide +kernel) (by decide +kernel)
theorem iX3_isEmpty_15 : zSnd zZC zmX3_isEmpty 15 (o_alen zYC 16) := s_alen zYC_arr (by decide +kernel)
theorem iX3_isEmpty_16 : zSnd zZC zmX3_isEmpty 16 (o_icmp (fun x y => y ≤ x) 39 19) := s_icmp_ge (off := 23) (by decide +kernel) (by decide +kernel)
theorem iX3_isEmpty_19 : zSnd zZC zmX3_isEmpty 19 (o_aload 0 20) := s_aload_n (k := 0) (by decide +kernel) rfl
theorem iX3_isEmpty_20 : zSnd zZC zmX3_isEmpty 20 (o_getf zYC 5 6 23) := s_getf zcX3 fX3_33 (by decide +kernel) (by decide +kernel)
theorem iX3_isEmpty_23 : zSnd zZC zmX3_isEmpty 23 (o_aload 0 24) := s_aload_n (k := 0) (by decide +kernel) rfl
theorem iX3_isEmpty_24 : zSnd zZC zmX3_isEmpty 24 (o_getf zYC 5 2 27) := s_getf zcX3 fX3_18 (by decide +kernel) (by decide +kernel)
theorem iX3_isEmpty_27 : zSnd zZC zmX3_isEmpty 27 (o_aload 0 28) := s_aload_n (k := 0) (by decide +kernel) rfl
theorem iX3_isEmpty_28 : zSnd zZC zmX3_isEmpty 28 (o_getf zYC 5 5 31) := s_getf zcX3 fX3_29 (by decide +kernel) (by decide +kernel)
theorem iX3_isEmpty_31 : zSnd zZC zmX3_isEmpty 31 (o_ald zYC .int 32) := s_iald (by decide +kernel)
theorem iX3_isEmpty_32 : zSnd zZC zmX3_isEmpty 32 (o_icmp (fun x y => x = y) 35 39) := s_icmp_ne (off := 7) (by decide +kernel) (by decide +kernel)
theorem iX3_isEmpty_35 : zSnd zZC zmX3_isEmpty 35 (o_ic 1 36) := s_iconst (i := 1) (by decide +kernel) (by decide +kernel)
theorem iX3_isEmpty_36 : zSnd zZC zmX3_isEmpty 36 (o_goto 40) := s_goto (off := 4) (by decide +kernel) (by decide +kernel)
theorem iX3_isEmpty_39 : zSnd zZC zmX3_isEmpty 39 (o_ic 0 40) := s_iconst (i := 0) (by decide +kernel) (by decide +kernel)
theorem iX3_isEmpty_40 : zSnd zZC zmX3_isEmpty 40 (o_zret) := s_zret rfl (by decide +kernel)
def kX3_isEmpty : List (Nat × zOp) := [(0, o_aload 0 1),
  (1, o_getf zYC 5 5 4),
  (4, o_if0 (fun x => x < 0) 39 7),
  (7, o_aload 0 8),
  (8, o_getf zYC 5 5 11),
  (11, o_aload 0 12),
  (12, o_getf zYC 5 2 15),
  (15, o_alen zYC 16),
  (16, o_icmp (fun x y => y ≤ x) 39 19),
  (19, o_aload 0 20),
  (20, o_getf zYC 5 6 23),
  (23, o_aload 0 24),
  (24, o_getf zYC 5 2 27),
  (27, o_aload 0 28),
  (28, o_getf zYC 5 5 31),
  (31, o_ald zYC .int 32),
  (32, o_icmp (fun x y => x = y) 35 39),
  (35, o_ic 1 36),
  (36, o_goto 40),
  (39, o_ic 0 40),
  (40, o_zret)]
set_option maxRecDepth 100000 in
theorem ksX3_isEmpty : ∀ q ∈ kX3_isEmpty, zSnd zZC zmX3_isEmpty q.1 q.2 := zcc iX3_isEmpty_0 (zcc iX3_isEmpty_1 (zcc iX3_isEmpty_4 (zcc iX3_isEmpty_7 (zcc iX3_isEmpty_8 (zcc iX3_isEmpty_11 (zcc iX3_isEmpty_12 (zcc iX3_isEmpty_15 (zcc iX3_isEmpty_16 (zcc iX3_isEmpty_19 (zcc iX3_isEmpty_20 (zcc iX3_isEmpty_23 (zcc iX3_isEmpty_24 (zcc iX3_isEmpty_27 (zcc iX3_isEmpty_28 (zcc iX3_isEmpty_31 (zcc iX3_isEmpty_32 (zcc iX3_isEmpty_35 (zcc iX3_isEmpty_36 (zcc iX3_isEmpty_39 (zcc iX3_isEmpty_40 zcn))))))))))))))))))))
theorem iX3_labelType_0 : zSnd zZC zmX3_labelType 0 (o_lload 1 1) := s_lload_n (k := 1) (by decide +kernel) rfl
theorem iX3_labelType_1 : zSnd zZC zmX3_labelType 1 (o_lc 0 2) := s_lconst (i := 0) (by decide +kernel) (by decide +kernel)
theorem iX3_labelType_2 : zSnd zZC zmX3_labelType 2 (o_lif (fun x y => x < y) 26 6) := s_llt (off := 23) (by decide +kernel) (by decide +kernel) (by decide +kernel)
theorem iX3_labelType_6 : zSnd zZC zmX3_labelType 6 (o_lload 1 7) := s_lload_n (k := 1) (by decide +kernel) rfl
theorem iX3_labelType_7 : zSnd zZC zmX3_labelType 7 (o_aload 0 8) := s_aload_n (k := 0) (by decide +kernel) rfl
theorem iX3_labelType_8 : zSnd zZC zmX3_labelType 8 (o_getf zYC 5 5 11) := s_getf zcX3 fX3_29 (by decide +kernel) (by decide +kernel)
theorem iX3_labelType_11 : zSnd zZC zmX3_labelType 11 (o_i2l 12) := s_i2l (by decide +kernel)
theorem iX3_labelType_12 : zSnd zZC zmX3_labelType 12 (o_lif (fun x y => y < x) 26 16) := s_lgt (off := 13) (by decide +kernel) (by decide +kernel) (by decide +kernel)
theorem iX3_labelType_16 : zSnd zZC zmX3_labelType 16 (o_aload 0 17) := s_aload_n (k := 0) (by decide +kernel) rfl
theorem iX3_labelType_17 : zSnd zZC zmX3_labelType 17 (o_getf zYC 5 5 20) := s_getf zcX3 fX3_29 (by decide +kernel) (by decide +kernel)
theorem iX3_labelType_20 : zSnd zZC zmX3_labelType 20 (o_lload 1 21) := s_lload_n (k := 1) (by decide +kernel) rfl
theorem iX3_labelType_21 : zSnd zZC zmX3_labelType 21 (o_l2i 22) := s_l2i (by decide +kernel)
theorem iX3_labelType_22 : zSnd zZC zmX3_labelType 22 (o_ibin (fun x y => x - y) 23) := s_isub (by decide +kernel)
theorem iX3_labelType_23 : zSnd zZC zmX3_labelType 23 (o_goto 27) := s_goto (off := 4) (by decide +kernel) (by decide +kernel)
theorem iX3_labelType_26 : zSnd zZC zmX3_labelType 26 (o_ic (-1) 27) := s_iconst (i := (-1)) (by decide +kernel) (by decide +kernel)
theorem iX3_labelType_27 : zSnd zZC zmX3_labelType 27 (o_istore 3 28) := s_istore_n (k := 3) (by decide +kernel) rfl (by decide +kernel)
theorem iX3_labelType_28 : zSnd zZC zmX3_labelType 28 (o_iload 3 29) := s_iload_n (k := 3) (by decide +kernel) rfl
theorem iX3_labelType_29 : zSnd zZC zmX3_labelType 29 (o_if0 (fun x => x < 0) 41 32) := s_if_lt (off := 12) (by decide +kernel) (by decide +kernel)
theorem iX3_labelType_32 : zSnd zZC zmX3_labelType 32 (o_iload 3 33) := s_iload_n (k := 3) (by decide +kernel) rfl
theorem iX3_labelType_33 : zSnd zZC zmX3_labelType 33 (o_aload 0 34) := s_aload_n (k := 0) (by decide +kernel) rfl
theorem iX3_labelType_34 : zSnd zZC zmX3_labelType 34 (o_getf zYC 5 1 37) := s_getf zcX3 fX3_15 (by decide +kernel) (by decide +kernel)
theorem iX3_labelType_37 : zSnd zZC zmX3_labelType 37 (o_alen zYC 38) := s_alen zYC_arr (by decide +kernel)
theorem iX3_labelType_38 : zSnd zZC zmX3_labelType 38 (o_icmp (fun x y => x < y) 49 41) := s_icmp_lt (off := 11) (by decide +kernel) (by decide +kernel)
theorem iX3_labelType_41 : zSnd zZC zmX3_labelType 41 (o_aload 0 42) := s_aload_n (k := 0) (by decide +kernel) rfl
theorem iX3_labelType_42 : zSnd zZC zmX3_labelType 42 (o_ic 0 43) := s_iconst (i := 0) (by decide +kernel) (by decide +kernel)
theorem iX3_labelType_43 : zSnd zZC zmX3_labelType 43 (o_putZ zYC 5 7 46) := s_putZ zcX3 fX3_44 (by decide +kernel) rfl rfl (by decide +kernel)
theorem iX3_labelType_46 : zSnd zZC zmX3_labelType 46 (o_ic 64 48) := s_bipush (i := 64) (by decide +kernel) (by decide +kernel)
theorem iX3_labelType_48 : zSnd zZC zmX3_labelType 48 (o_iret) := s_iret rfl (by decide +kernel)
theorem iX3_labelType_49 : zSnd zZC zmX3_labelType 49 (o_aload 0 50) := s_aload_n (k := 0) (by decide +kernel) rfl
theorem iX3_labelType_50 : zSnd zZC zmX3_labelType 50 (o_getf zYC 5 0 53) := s_getf zcX3 fX3_9 (by decide +kernel) (by decide +kernel)
theorem iX3_labelType_53 : zSnd zZC zmX3_labelType 53 (o_iload 3 54) := s_iload_n (k := 3) (by decide +kernel) rfl
theorem iX3_labelType_54 : zSnd zZC zmX3_labelType 54 (o_ald zYC .int 55) := s_iald (by decide +kernel)
theorem iX3_labelType_55 : zSnd zZC zmX3_labelType 55 (o_ic 3 56) := s_iconst (i := 3) (by decide +kernel) (by decide +kernel)
theorem iX3_labelType_56 : zSnd zZC zmX3_labelType 56 (o_icmp (fun x y => x = y) 59 64) := s_icmp_ne (off := 8) (by decide +kernel) (by decide +kernel)
theorem iX3_labelType_59 : zSnd zZC zmX3_labelType 59 (o_ic 64 61) := s_bipush (i := 64) (by decide +kernel) (by decide +kernel)
theorem iX3_labelType_61 : zSnd zZC zmX3_labelType 61 (o_goto 70) := s_goto (off := 9) (by decide +kernel) (by decide +kernel)
theorem iX3_labelType_64 : zSnd zZC zmX3_labelType 64 (o_aload 0 65) := s_aload_n (k := 0) (by decide +kernel) rfl
theorem iX3_labelType_65 : zSnd zZC zmX3_labelType 65 (o_getf zYC 5 1 68) := s_getf zcX3 fX3_15 (by decide +kernel) (by decide +kernel)
theorem iX3_labelType_68 : zSnd zZC zmX3_labelType 68 (o_iload 3 69) := s_iload_n (k := 3) (by decide +kernel) rfl
theorem iX3_labelType_69 : zSnd zZC zmX3_labelType 69 (o_ald zYC .int 70) := s_iald (by decide +kernel)
theorem iX3_labelType_70 : zSnd zZC zmX3_labelType 70 (o_iret) := s_iret rfl (by decide +kernel)
def kX3_labelType : List (Nat × zOp) := [(0, o_lload 1 1),
  (1, o_lc 0 2),
  (2, o_lif (fun x y => x < y) 26 6),
  (6, o_lload 1 7),
  (7, o_aload 0 8),
  (8, o_getf zYC 5 5 11),
  (11, o_i2l 12),
  (12, o_lif (fun x y => y < x) 26 16),
  (16, o_aload 0 17),
  (17, o_getf zYC 5 5 20),
  (20, o_lload 1 21),
  (21, o_l2i 22),
  (22, o_ibin (fun x y => x - y) 23),
  (23, o_goto 27),
  (26, o_ic (-1) 27),
  (27, o_istore 3 28),
  (28, o_iload 3 29),
  (29, o_if0 (fun x => x < 0) 41 32),
  (32, o_iload 3 33),
  (33, o_aload 0 34),
  (34, o_getf zYC 5 1 37),
  (37, o_alen zYC 38),
  (38, o_icmp (fun x y => x < y) 49 41),
  (41, o_aload 0 42),
  (42, o_ic 0 43),
  (43, o_putZ zYC 5 7 46),
  (46, o_ic 64 48),
  (48, o_iret),
  (49, o_aload 0 50),
  (50, o_getf zYC 5 0 53),
  (53, o_iload 3 54),
  (54, o_ald zYC .int 55),
  (55, o_ic 3 56),
  (56, o_icmp (fun x y => x = y) 59 64),
  (59, o_ic 64 61),
  (61, o_goto 70),
  (64, o_aload 0 65),
  (65, o_getf zYC 5 1 68),
  (68, o_iload 3 69),
  (69, o_ald zYC .int 70),
  (70, o_iret)]
set_option maxRecDepth 100000 in
theorem ksX3_labelType : ∀ q ∈ kX3_labelType, zSnd zZC zmX3_labelType q.1 q.2 := zcc iX3_labelType_0 (zcc iX3_labelType_1 (zcc iX3_labelType_2 (zcc iX3_labelType_6 (zcc iX3_labelType_7 (zcc iX3_labelType_8 (zcc iX3_labelType_11 (zcc iX3_labelType_12 (zcc iX3_labelType_16 (zcc iX3_labelType_17 (zcc iX3_labelType_20 (zcc iX3_labelType_21 (zcc iX3_labelType_22 (zcc iX3_labelType_23 (zcc iX3_labelType_26 (zcc iX3_labelType_27 (zcc iX3_labelType_28 (zcc iX3_labelType_29 (zcc iX3_labelType_32 (zcc iX3_labelType_33 (zcc iX3_labelType_34 (zcc iX3_labelType_37 (zcc iX3_labelType_38 (zcc iX3_labelType_41 (zcc iX3_labelType_42 (zcc iX3_labelType_43 (zcc iX3_labelType_46 (zcc iX3_labelType_48 (zcc iX3_labelType_49 (zcc iX3_labelType_50 (zcc iX3_labelType_53 (zcc iX3_labelType_54 (zcc iX3_labelType_55 (zcc iX3_labelType_56 (zcc iX3_labelType_59 (zcc iX3_labelType_61 (zcc iX3_labelType_64 (zcc iX3_labelType_65 (zcc iX3_labelType_68 (zcc iX3_labelType_69 (zcc iX3_labelType_70 zcn))))))))))))))))))))))))))))))))))))))))
theorem iX3_leave_0 : zSnd zZC zmX3_leave 0 (o_iload 1 1) := s_iload_n (k := 1) (by decide +kernel) rfl
theorem iX3_leave_1 : zSnd zZC zmX3_leave 1 (o_ic 64 3) := s_bipush (i := 64) (by decide +kernel) (by decide +kernel)
theorem iX3_leave_3 : zSnd zZC zmX3_leave 3 (o_icmp (fun x y => x = y) 46 6) := s_icmp_eq (off := 43) (by decide +kernel) (by decide +kernel)
theorem iX3_leave_6 : zSnd zZC zmX3_leave 6 (o_aload 0 7) := s_aload_n (k := 0) (by decide +kernel) rfl
theorem iX3_leave_7 : zSnd zZC zmX3_leave 7 (o_getf zYC 5 6 10) := s_getf zcX3 fX3_33 (by decide +kernel) (by decide +kernel)
theorem iX3_leave_10 : zSnd zZC zmX3_leave 10 (o_if0 (fun x => x < 0) 46 13) := s_if_lt (off := 36) (by decide +kernel) (by decide +kernel)
theorem iX3_leave_13 : zSnd zZC zmX3_leave 13 (o_aload 0 14) := s_aload_n (k := 0) (by decide +kernel) rfl
theorem iX3_leave_14 : zSnd zZC zmX3_leave 14 (o_getf zYC 5 6 17) := s_getf zcX3 fX3_33 (by decide +kernel) (by decide +kernel)
theorem iX3_leave_17 : zSnd zZC zmX3_leave 17 (o_aload 0 18) := s_aload_n (k := 0) (by decide +kernel) rfl
theorem iX3_leave_18 : zSnd zZC zmX3_leave 18 (o_getf zYC 5 4 21) := s_getf zcX3 fX3_25 (by decide +kernel) (by decide +kernel)
theorem iX3_leave_21 : zSnd zZC zmX3_leave 21 (o_alen zYC 22) := s_alen zYC_arr (by decide +kernel)
theorem iX3_leave_22 : zSnd zZC zmX3_leave 22 (o_icmp (fun x y => y ≤ x) 46 25) := s_icmp_ge (off := 24) (by decide +kernel) (by decide +kernel)
theorem iX3_leave_25 : zSnd zZC zmX3_leave 25 (o_aload 0 26) := s_aload_n (k := 0) (by decide +kernel) rfl
theorem iX3_leave_26 : zSnd zZC zmX3_leave 26 (o_getf zYC 5 4 29) := s_getf zcX3 fX3_25 (by decide +kernel) (by decide +kernel)
theorem iX3_leave_29 : zSnd zZC zmX3_leave 29 (o_aload 0 30) := s_aload_n (k := 0) (by decide +kernel) rfl
theorem iX3_leave_30 : zSnd zZC zmX3_leave 30 (o_getf zYC 5 6 33) := s_getf zcX3 fX3_33 (by decide +kernel) (by decide +kernel)
theorem iX3_leave_33 : zSnd zZC zmX3_leave 33 (o_iload 1 34) := s_iload_n (k := 1) (by decide +kernel) rfl
theorem iX3_leave_34 : zSnd zZC zmX3_leave 34 (o_iun (fun x => x.toInt8.toInt32) 35) := s_i2b (by decide +kernel)
theorem iX3_leave_35 : zSnd zZC zmX3_leave 35 (o_ast zYC .byte (fun x => vp_nar .byte x) 36) := s_bast (by decide +kernel)
theorem iX3_leave_36 : zSnd zZC zmX3_leave 36 (o_aload 0 37) := s_aload_n (k := 0) (by decide +kernel) rfl
theorem iX3_leave_37 : zSnd zZC zmX3_leave 37 (o_dup 38) := s_dup (by decide +kernel)
theorem iX3_leave_38 : zSnd zZC zmX3_leave 38 (o_getf zYC 5 6 41) := s_getf zcX3 fX3_33 (by decide +kernel) (by decide +kernel)
theorem iX3_leave_41 : zSnd zZC zmX3_leave 41 (o_ic 1 42) := s_iconst (i := 1) (by decide +kernel) (by decide +kernel)
theorem iX3_leave_42 : zSnd zZC zmX3_leave 42 (o_ibin (fun x y => x + y) 43) := s_iadd (by decide +kernel)
theorem iX3_leave_43 : zSnd zZC zmX3_leave 43 (o_putI zYC 5 6 46) := s_putI zcX3 fX3_33 (by decide +kernel) rfl rfl (by decide +kernel)
theorem iX3_leave_46 : zSnd zZC zmX3_leave 46 (o_vret) := s_vret rfl (by decide +kernel)
def kX3_leave : List (Nat × zOp) := [(0, o_iload 1 1),
  (1, o_ic 64 3),
  (3, o_icmp (fun x y => x = y) 46 6),
  (6, o_aload 0 7),
  (7, o_getf zYC 5 6 10),
  (10, o_if0 (fun x => x < 0) 46 13),
  (13, o_aload 0 14),
  (14, o_getf zYC 5 6 17),
  (17, o_aload 0 18),
  (18, o_getf zYC 5 4 21),
  (21, o_alen zYC 22),
  (22, o_icmp (fun x y => y ≤ x) 46 25),
  (25, o_aload 0 26),
  (26, o_getf zYC 5 4 29),
  (29, o_aload 0 30),
  (30, o_getf zYC 5 6 33),
  (33, o_iload 1 34),
  (34, o_iun (fun x => x.toInt8.toInt32) 35),
  (35, o_ast zYC .byte (fun x => vp_nar .byte x) 36),
  (36, o_aload 0 37),
  (37, o_dup 38),
  (38, o_getf zYC 5 6 41),
  (41, o_ic 1 42),
  (42, o_ibin (fun x y => x + y) 43),
  (43, o_putI zYC 5 6 46),
  (46, o_vret)]
set_option maxRecDepth 100000 in
theorem ksX3_leave : ∀ q ∈ kX3_leave, zSnd zZC zmX3_leave q.1 q.2 := zcc iX3_leave_0 (zcc iX3_leave_1 (zcc iX3_leave_3 (zcc iX3_leave_6 (zcc iX3_leave_7 (zcc iX3_leave_10 (zcc iX3_leave_13 (zcc iX3_leave_14 (zcc iX3_leave_17 (zcc iX3_leave_18 (zcc iX3_leave_21 (zcc iX3_leave_22 (zcc iX3_leave_25 (zcc iX3_leave_26 (zcc iX3_leave_29 (zcc iX3_leave_30 (zcc iX3_leave_33 (zcc iX3_leave_34 (zcc iX3_leave_35 (zcc iX3_leave_36 (zcc iX3_leave_37 (zcc iX3_leave_38 (zcc iX3_leave_41 (zcc iX3_leave_42 (zcc iX3_leave_43 (zcc iX3_leave_46 zcn)))))))))))))))))))))))))
theorem iX3_open_0 : zSnd zZC zmX3_open 0 (o_aload 0 1) := s_aload_n (k := 0) (by decide +kernel) rfl
theorem iX3_open_1 : zSnd zZC zmX3_open 1 (o_getf zYC 5 5 4) := s_getf zcX3 fX3_29 (by decide +kernel) (by decide +kernel)
theorem iX3_open_4 : zSnd zZC zmX3_open 4 (o_ic (-1) 5) := s_iconst (i := (-1)) (by decide +kernel) (by decide +kernel)
theorem iX3_open_5 : zSnd zZC zmX3_open 5 (o_icmp (fun x y => x < y) 75 8) := s_icmp_lt (off := 70) (by decide +kernel) (by decide +kernel)
theorem iX3_open_8 : zSnd zZC zmX3_open 8 (o_aload 0 9) := s_aload_n (k := 0) (by decide +kernel) rfl
theorem iX3_open_9 : zSnd zZC zmX3_open 9 (o_getf zYC 5 5 12) := s_getf zcX3 fX3_29 (by decide +kernel) (by decide +kernel)
theorem iX3_open_12 : zSnd zZC zmX3_open 12 (o_ic 1 13) := s_iconst (i := 1) (by decide +kernel) (by decide +kernel)
theorem iX3_open_13 : zSnd zZC zmX3_open 13 (o_ibin (fun x y => x + y) 14) := s_iadd (by decide +kernel)
theorem iX3_open_14 : zSnd zZC zmX3_open 14 (o_aload 0 15) := s_aload_n (k := 0) (by decide +kernel) rfl
theorem iX3_open_15 : zSnd zZC zmX3_open 15 (o_getf zYC 5 0 18) := s_getf zcX3 fX3_9 (by decide +kernel) (by decide +kernel)
theorem iX3_open_18 : zSnd zZC zmX3_open 18 (o_alen zYC 19) := s_alen zYC_arr (by decide +kernel)
theorem iX3_open_19 : zSnd zZC zmX3_open 19 (o_icmp (fun x y => y ≤ x) 75 22) := s_icmp_ge (off := 56) (by decide +kernel) (by decide +kernel)
theorem iX3_open_22 : zSnd zZC zmX3_open 22 (o_aload 0 23) := s_aload_n (k := 0) (by decide +kernel) rfl
theorem iX3_open_23 : zSnd zZC zmX3_open 23 (o_dup 24) := s_dup (by decide +kernel)
theorem iX3_open_24 : zSnd zZC zmX3_open 24 (o_getf zYC 5 5 27) := s_getf zcX3 fX3_29 (by decide +kernel) (by decide +kernel)
theorem iX3_open_27 : zSnd zZC zmX3_open 27 (o_ic 1 28) := s_iconst (i := 1) (by decide +kernel) (by decide +kernel)
theorem iX3_open_28 : zSnd zZC zmX3_open 28 (o_ibin (fun x y => x + y) 29) := s_iadd (by decide +kernel)
theorem iX3_open_29 : zSnd zZC zmX3_open 29 (o_putI zYC 5 5 32) := s_putI zcX3 fX3_29 (by decide +kernel) rfl rfl (by decide +kernel)
theorem iX3_open_32 : zSnd zZC zmX3_open 32 (o_aload 0 33) := s_aload_n (k := 0) (by decide +kernel) rfl
theorem iX3_open_33 : zSnd zZC zmX3_open 33 (o_getf zYC 5 0 36) := s_getf zcX3 fX3_9 (by decide +kernel) (by decide +kernel)
theorem iX3_open_36 : zSnd zZC zmX3_open 36 (o_aload 0 37) := s_aload_n (k := 0) (by decide +kernel) rfl
theorem iX3_open_37 : zSnd zZC zmX3_open 37 (o_getf zYC 5 5 40) := s_getf zcX3 fX3_29 (by decide +kernel) (by decide +kernel)
theorem iX3_open_40 : zSnd zZC zmX3_open 40 (o_iload 1 41) := s_iload_n (k := 1) (by decide +kernel) rfl
theorem iX3_open_41 : zSnd zZC zmX3_open 41 (o_ast zYC .int (fun x => x) 42) := s_iast (by decide +kernel)
theorem iX3_open_42 : zSnd zZC zmX3_open 42 (o_aload 0 43) := s_aload_n (k := 0) (by decide +kernel) rfl
theorem iX3_open_43 : zSnd zZC zmX3_open 43 (o_getf zYC 5 1 46) := s_getf zcX3 fX3_15 (by decide +kernel) (by decide +kernel)
theorem iX3_open_46 : zSnd zZC zmX3_open 46 (o_aload 0 47) := s_aload_n (k := 0) (by decide +kernel) rfl
theorem iX3_open_47 : zSnd zZC zmX3_open 47 (o_getf zYC 5 5 50) := s_getf zcX3 fX3_29 (by decide +kernel) (by decide +kernel)
theorem iX3_open_50 : zSnd zZC zmX3_open 50 (o_iload 2 51) := s_iload_n (k := 2) (by decide +kernel) rfl
theorem iX3_open_51 : zSnd zZC zmX3_open 51 (o_ast zYC .int (fun x => x) 52) := s_iast (by decide +kernel)
theorem iX3_open_52 : zSnd zZC zmX3_open 52 (o_aload 0 53) := s_aload_n (k := 0) (by decide +kernel) rfl
theorem iX3_open_53 : zSnd zZC zmX3_open 53 (o_getf zYC 5 2 56) := s_getf zcX3 fX3_18 (by decide +kernel) (by decide +kernel)
theorem iX3_open_56 : zSnd zZC zmX3_open 56 (o_aload 0 57) := s_aload_n (k := 0) (by decide +kernel) rfl
theorem iX3_open_57 : zSnd zZC zmX3_open 57 (o_getf zYC 5 5 60) := s_getf zcX3 fX3_29 (by decide +kernel) (by decide +kernel)
theorem iX3_open_60 : zSnd zZC zmX3_open 60 (o_aload 0 61) := s_aload_n (k := 0) (by decide +kernel) rfl
theorem iX3_open_61 : zSnd zZC zmX3_open 61 (o_getf zYC 5 6 64) := s_getf zcX3 fX3_33 (by decide +kernel) (by decide +kernel)
theorem iX3_open_64 : zSnd zZC zmX3_open 64 (o_ast zYC .int (fun x => x) 65) := s_iast (by decide +kernel)
theorem iX3_open_65 : zSnd zZC zmX3_open 65 (o_aload 0 66) := s_aload_n (k := 0) (by decide +kernel) rfl
theorem iX3_open_66 : zSnd zZC zmX3_open 66 (o_getf zYC 5 3 69) := s_getf zcX3 fX3_21 (by decide +kernel) (by decide +kernel)
theorem iX3_open_69 : zSnd zZC zmX3_open 69 (o_aload 0 70) := s_aload_n (k := 0) (by decide +kernel) rfl
theorem iX3_open_70 : zSnd zZC zmX3_open 70 (o_getf zYC 5 5 73) := s_getf zcX3 fX3_29 (by decide +kernel) (by decide +kernel)
theorem iX3_open_73 : zSnd zZC zmX3_open 73 (o_ic 0 74) := s_iconst (i := 0) (by decide +kernel) (by decide +kernel)
theorem iX3_open_74 : zSnd zZC zmX3_open 74 (o_ast zYC .boolean (fun x => vp_nar .boolean x) 75) := s_zast (by decide +kernel)
theorem iX3_open_75 : zSnd zZC zmX3_open 75 (o_vret) := s_vret rfl (by decide +kernel)
def kX3_open : List (Nat × zOp) := [(0, o_aload 0 1),
  (1, o_getf zYC 5 5 4),
  (4, o_ic (-1) 5),
  (5, o_icmp (fun x y => x < y) 75 8),
  (8, o_aload 0 9),
  (9, o_getf zYC 5 5 12),
  (12, o_ic 1 13),
  (13, o_ibin (fun x y => x + y) 14),
  (14, o_aload 0 15),
  (15, o_getf zYC 5 0 18),
  (18, o_alen zYC 19),
  (19, o_icmp (fun x y => y ≤ x) 75 22),
  (22, o_aload 0 23),
  (23, o_dup 24),
  (24, o_getf zYC 5 5 27),
  (27, o_ic 1 28),
  (28, o_ibin (fun x y => x + y) 29),
  (29, o_putI zYC 5 5 32),
  (32, o_aload 0 33),
  (33, o_getf zYC 5 0 36),
  (36, o_aload 0 37),
  (37, o_getf zYC 5 5 40),
  (40, o_iload 1 41),
  (41, o_ast zYC .int (fun x => x) 42),
  (42, o_aload 0 43),
  (43, o_getf zYC 5 1 46),
  (46, o_aload 0 47),
  (47, o_getf zYC 5 5 50),
  (50, o_iload 2 51),
  (51, o_ast zYC .int (fun x => x) 52),
  (52, o_aload 0 53),
  (53, o_getf zYC 5 2 56),
  (56, o_aload 0 57),
  (57, o_getf zYC 5 5 60),
  (60, o_aload 0 61),
  (61, o_getf zYC 5 6 64),
  (64, o_ast zYC .int (fun x => x) 65),
  (65, o_aload 0 66),
  (66, o_getf zYC 5 3 69),
  (69, o_aload 0 70),
  (70, o_getf zYC 5 5 73),
  (73, o_ic 0 74),
  (74, o_ast zYC .boolean (fun x => vp_nar .boolean x) 75),
  (75, o_vret)]
set_option maxRecDepth 100000 in
theorem ksX3_open : ∀ q ∈ kX3_open, zSnd zZC zmX3_open q.1 q.2 := zcc iX3_open_0 (zcc iX3_open_1 (zcc iX3_open_4 (zcc iX3_open_5 (zcc iX3_open_8 (zcc iX3_open_9 (zcc iX3_open_12 (zcc iX3_open_13 (zcc iX3_open_14 (zcc iX3_open_15 (zcc iX3_open_18 (zcc iX3_open_19 (zcc iX3_open_22 (zcc iX3_open_23 (zcc iX3_open_24 (zcc iX3_open_27 (zcc iX3_open_28 (zcc iX3_open_29 (zcc iX3_open_32 (zcc iX3_open_33 (zcc iX3_open_36 (zcc iX3_open_37 (zcc iX3_open_40 (zcc iX3_open_41 (zcc iX3_open_42 (zcc iX3_open_43 (zcc iX3_open_46 (zcc iX3_open_47 (zcc iX3_open_50 (zcc iX3_open_51 (zcc iX3_open_52 (zcc iX3_open_53 (zcc iX3_open_56 (zcc iX3_open_57 (zcc iX3_open_60 (zcc iX3_open_61 (zcc iX3_open_64 (zcc iX3_open_65 (zcc iX3_open_66 (zcc iX3_open_69 (zcc iX3_open_70 (zcc iX3_open_73 (zcc iX3_open_74 (zcc iX3_open_75 zcn)))))))))))))))))))))))))))))))))))))))))))
theorem iX3_openedBy_0 : zSnd zZC zmX3_openedBy 0 (o_aload 0 1) := s_aload_n (k := 0) (by decide +kernel) rfl
theorem iX3_openedBy_1 : zSnd zZC zmX3_openedBy 1 (o_getf zYC 5 5 4) := s_getf zcX3 fX3_29 (by decide +kernel) (by decide +kernel)
theorem iX3_openedBy_4 : zSnd zZC zmX3_openedBy 4 (o_if0 (fun x => x < 0) 31 7) := s_if_lt (off := 27) (by decide +kernel) (by decide +kernel)
theorem iX3_openedBy_7 : zSnd zZC zmX3_openedBy 7 (o_aload 0 8) := s_aload_n (k := 0) (by decide +kernel) rfl
theorem iX3_openedBy_8 : zSnd zZC zmX3_openedBy 8 (o_getf zYC 5 5 11) := s_getf zcX3 fX3_29 (by decide +kernel) (by decide +kernel)
theorem iX3_openedBy_11 : zSnd zZC zmX3_openedBy 11 (o_aload 0 12) := s_aload_n (k := 0) (by decide +kernel) rfl
theorem iX3_openedBy_12 : zSnd zZC zmX3_openedBy 12 (o_getf zYC 5 0 15) := s_getf zcX3 fX3_9 (by decide +kernel) (by decide +kernel)
theorem iX3_openedBy_15 : zSnd zZC zmX3_openedBy 15 (o_alen zYC 16) := s_alen zYC_arr (by decide +kernel)
theorem iX3_openedBy_16 : zSnd zZC zmX3_openedBy 16 (o_icmp (fun x y => y ≤ x) 31 19) := s_icmp_ge (off := 15) (by decide +kernel) (by decide +kernel)
theorem iX3_openedBy_19 : zSnd zZC zmX3_openedBy 19 (o_aload 0 20) := s_aload_n (k := 0) (by decide +kernel) rfl
theorem iX3_openedBy_20 : zSnd zZC zmX3_openedBy 20 (o_getf zYC 5 0 23) := s_getf zcX3 fX3_9 (by decide +kernel) (by decide +kernel)
theorem iX3_openedBy_23 : zSnd zZC zmX3_openedBy 23 (o_aload 0 24) := s_aload_n (k := 0) (by decide +kernel) rfl
theorem iX3_openedBy_24 : zSnd zZC zmX3_openedBy 24 (o_getf zYC 5 5 27) := s_getf zcX3 fX3_29 (by decide +kernel) (by decide +kernel)
theorem iX3_openedBy_27 : zSnd zZC zmX3_openedBy 27 (o_ald zYC .int 28) := s_iald (by decide +kernel)
theorem iX3_openedBy_28 : zSnd zZC zmX3_openedBy 28 (o_goto 32) := s_goto (off := 4) (by decide +kernel) (by decide +kernel)
theorem iX3_openedBy_31 : zSnd zZC zmX3_openedBy 31 (o_ic 0 32) := s_iconst (i := 0) (by decide +kernel) (by decide +kernel)
theorem iX3_openedBy_32 : zSnd zZC zmX3_openedBy 32 (o_iret) := s_iret rfl (by decide +kernel)
def kX3_openedBy : List (Nat × zOp) := [(0, o_aload 0 1),
  (1, o_getf zYC 5 5 4),
  (4, o_if0 (fun x => x < 0) 31 7),
  (7, o_aload 0 8),
  (8, o_getf zYC 5 5 11),
  (11, o_aload 0 12),
  (12, o_getf zYC 5 0 15),
  (15, o_alen zYC 16),
  (16, o_icmp (fun x y => y ≤ x) 31 19),
  (19, o_aload 0 20),
  (20, o_getf zYC 5 0 23),
  (23, o_aload 0 24),
  (24, o_getf zYC 5 5 27),
  (27, o_ald zYC .int 28),
  (28, o_goto 32),
  (31, o_ic 0 32),
  (32, o_iret)]
set_option maxRecDepth 100000 in
theorem ksX3_openedBy : ∀ q ∈ kX3_openedBy, zSnd zZC zmX3_openedBy q.1 q.2 := zcc iX3_openedBy_0 (zcc iX3_openedBy_1 (zcc iX3_openedBy_4 (zcc iX3_openedBy_7 (zcc iX3_openedBy_8 (zcc iX3_openedBy_11 (zcc iX3_openedBy_12 (zcc iX3_openedBy_15 (zcc iX3_openedBy_16 (zcc iX3_openedBy_19 (zcc iX3_openedBy_20 (zcc iX3_openedBy_23 (zcc iX3_openedBy_24 (zcc iX3_openedBy_27 (zcc iX3_openedBy_28 (zcc iX3_openedBy_31 (zcc iX3_openedBy_32 zcn))))))))))))))))
theorem iX3_result_0 : zSnd zZC zmX3_result 0 (o_aload 0 1) := s_aload_n (k := 0) (by decide +kernel) rfl
theorem iX3_result_1 : zSnd zZC zmX3_result 1 (o_getf zYC 5 5 4) := s_getf zcX3 fX3_29 (by decide +kernel) (by decide +kernel)
theorem iX3_result_4 : zSnd zZC zmX3_result 4 (o_if0 (fun x => x < 0) 31 7) := s_if_lt (off := 27) (by decide +kernel) (by decide +kernel)
theorem iX3_result_7 : zSnd zZC zmX3_result 7 (o_aload 0 8) := s_aload_n (k := 0) (by decide +kernel) rfl
theorem iX3_result_8 : zSnd zZC zmX3_result 8 (o_getf zYC 5 5 11) := s_getf zcX3 fX3_29 (by decide +kernel) (by decide +kernel)
theorem iX3_result_11 : zSnd zZC zmX3_result 11 (o_aload 0 12) := s_aload_n (k := 0) (by decide +kernel) rfl
theorem iX3_result_12 : zSnd zZC zmX3_result 12 (o_getf zYC 5 1 15) := s_getf zcX3 fX3_15 (by decide +kernel) (by decide +kernel)
theorem iX3_result_15 : zSnd zZC zmX3_result 15 (o_alen zYC 16) := s_alen zYC_arr (by decide +kernel)
theorem iX3_result_16 : zSnd zZC zmX3_result 16 (o_icmp (fun x y => y ≤ x) 31 19) := s_icmp_ge (off := 15) (by decide +kernel) (by decide +kernel)
theorem iX3_result_19 : zSnd zZC zmX3_result 19 (o_aload 0 20) := s_aload_n (k := 0) (by decide +kernel) rfl
theorem iX3_result_20 : zSnd zZC zmX3_result 20 (o_getf zYC 5 1 23) := s_getf zcX3 fX3_15 (by decide +kernel) (by decide +kernel)
theorem iX3_result_23 : zSnd zZC zmX3_result 23 (o_aload 0 24) := s_aload_n (k := 0) (by decide +kernel) rfl
theorem iX3_result_24 : zSnd zZC zmX3_result 24 (o_getf zYC 5 5 27) := s_getf zcX3 fX3_29 (by decide +kernel) (by decide +kernel)
theorem iX3_result_27 : zSnd zZC zmX3_result 27 (o_ald zYC .int 28) := s_iald (by decide +kernel)
theorem iX3_result_28 : zSnd zZC zmX3_result 28 (o_goto 33) := s_goto (off := 5) (by decide +kernel) (by decide +kernel)
theorem iX3_result_31 : zSnd zZC zmX3_result 31 (o_ic 64 33) := s_bipush (i := 64) (by decide +kernel) (by decide +kernel)
theorem iX3_result_33 : zSnd zZC zmX3_result 33 (o_iret) := s_iret rfl (by decide +kernel)
def kX3_result : List (Nat × zOp) := [(0, o_aload 0 1),
  (1, o_getf zYC 5 5 4),
  (4, o_if0 (fun x => x < 0) 31 7),
  (7, o_aload 0 8),
  (8, o_getf zYC 5 5 11),
  (11, o_aload 0 12),
  (12, o_getf zYC 5 1 15),
  (15, o_alen zYC 16),
  (16, o_icmp (fun x y => y ≤ x) 31 19),
  (19, o_aload 0 20),
  (20, o_getf zYC 5 1 23),
  (23, o_aload 0 24),
  (24, o_getf zYC 5 5 27),
  (27, o_ald zYC .int 28),
  (28, o_goto 33),
  (31, o_ic 64 33),
  (33, o_iret)]
set_option maxRecDepth 100000 in
theorem ksX3_result : ∀ q ∈ kX3_result, zSnd zZC zmX3_result q.1 q.2 := zcc iX3_result_0 (zcc iX3_result_1 (zcc iX3_result_4 (zcc iX3_result_7 (zcc iX3_result_8 (zcc iX3_result_11 (zcc iX3_result_12 (zcc iX3_result_15 (zcc iX3_result_16 (zcc iX3_result_19 (zcc iX3_result_20 (zcc iX3_result_23 (zcc iX3_result_24 (zcc iX3_result_27 (zcc iX3_result_28 (zcc iX3_result_31 (zcc iX3_result_33 zcn))))))))))))))))
