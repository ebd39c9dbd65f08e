theorem iX4_enter_0 : zSnd zZC zmX4_enter 0 (o_aload 0 1) := s_aload_n (k := 0) (by decide +kernel) rfl
theorem iX4_enter_1 : zSnd zZC zmX4_enter 1 (o_getf zYC 1 3 4) := s_getf zcX4 fX4_22 (by decide +kernel) (by decide +kernel)
theorem iX4_enter_4 : zSnd zZC zmX4_enter 4 (o_istore 1 5) := s_istore_n (k := 1) (by decide +kernel) rfl (by decide +kernel)
theorem iX4_enter_5 : zSnd zZC zmX4_enter 5 (o_aload 0 6) := s_aload_n (k := 0) (by decide +kernel) rfl
set_option maxRecDepth 20000 in
theorem iX4_enter_6 : zSnd zZC zmX4_enter 6 (o_callV zZC 1 zmX4_length 0 1 9) := s_callV (idx := 60) zcX4 calX4_length virX4_length dscX4_length (by decide +kernel) (zWS2 157 rfl rfl) (by decide +kernel)
theorem iX4_enter_9 : zSnd zZC zmX4_enter 9 (o_istore 2 10) := s_istore_n (k := 2) (by decide +kernel) rfl (by decide +kernel)
theorem iX4_enter_10 : zSnd zZC zmX4_enter 10 (o_aload 0 11) := s_aload_n (k := 0) (by decide +kernel) rfl
theorem iX4_enter_11 : zSnd zZC zmX4_enter 11 (o_getf zYC 1 4 14) := s_getf zcX4 fX4_25 (by decide +kernel) (by decide +kernel)
theorem iX4_enter_14 : zSnd zZC zmX4_enter 14 (o_if0 (fun x => x = 0) 17 27) := s_if_ne (off := 13) (by decide +kernel) (by decide +kernel)
theorem iX4_enter_17 : zSnd zZC zmX4_enter 17 (o_aload 0 18) := s_aload_n (k := 0) (by decide +kernel) rfl
theorem iX4_enter_18 : zSnd zZC zmX4_enter 18 (o_aload 0 19) := s_aload_n (k := 0) (by decide +kernel) rfl
theorem iX4_enter_19 : zSnd zZC zmX4_enter 19 (o_getf zYC 1 2 22) := s_getf zcX4 fX4_19 (by decide +kernel) (by decide +kernel)
theorem iX4_enter_22 : zSnd zZC zmX4_enter 22 (o_iload 2 23) := s_iload_n (k := 2) (by decide +kernel) rfl
theorem iX4_enter_23 : zSnd zZC zmX4_enter 23 (o_ibin (fun x y => x + y) 24) := s_iadd (by decide +kernel)
theorem iX4_enter_24 : zSnd zZC zmX4_enter 24 (o_putI zYC 1 3 27) := s_putI zcX4 fX4_22 (by decide +kernel) rfl rfl (by decide +kernel)
theorem iX4_enter_27 : zSnd zZC zmX4_enter 27 (o_iload 1 28) := s_iload_n (k := 1) (by decide +kernel) rfl
theorem iX4_enter_28 : zSnd zZC zmX4_enter 28 (o_iret) := s_iret rfl (by decide +kernel)
def kX4_enter : List (Nat × zOp) := [(0, o_aload 0 1),
  (1, o_getf zYC 1 3 4),
  (4, o_istore 1 5),
  (5, o_aload 0 6),
  (6, o_callV zZC 1 zmX4_length 0 1 9),
  (9, o_istore 2 10),
  (10, o_aload 0 11),
  (11, o_getf zYC 1 4 14),
  (14, o_if0 (fun x => x = 0) 17 27),
  (17, o_aload 0 18),
  (18, o_aload 0 19),
  (19, o_getf zYC 1 2 22),
  (22, o_iload 2 23),
  (23, o_ibin (fun x y => x + y) 24),
  (24, o_putI zYC 1 3 27),
  (27, o_iload 1 28),
  (28, o_iret)]
set_option maxRecDepth 100000 in
theorem ksX4_enter : ∀ q ∈ kX4_enter, zSnd zZC zmX4_enter q.1 q.2 := zcc iX4_enter_0 (zcc iX4_enter_1 (zcc iX4_enter_4 (zcc iX4_enter_5 (zcc iX4_enter_6 (zcc iX4_enter_9 (zcc iX4_enter_10 (zcc iX4_enter_11 (zcc iX4_enter_14 (zcc iX4_enter_17 (zcc iX4_enter_18 (zcc iX4_enter_19 (zcc iX4_enter_22 (zcc iX4_enter_23 (zcc iX4_enter_24 (zcc iX4_enter_27 (zcc iX4_enter_28 zcn))))))))))))))))
theorem iX4_outerName_0 : zSnd zZC zmX4_outerName 0 (o_aload 0 1) := s_aload_n (k := 0) (by decide +kernel) rfl
theorem iX4_outerName_1 : zSnd zZC zmX4_outerName 1 (o_getf zYC 1 2 4) := s_getf zcX4 fX4_19 (by decide +kernel) (by decide +kernel)
theorem iX4_outerName_4 : zSnd zZC zmX4_outerName 4 (o_istore 1 5) := s_istore_n (k := 1) (by decide +kernel) rfl (by decide +kernel)
theorem iX4_outerName_5 : zSnd zZC zmX4_outerName 5 (o_aload 0 6) := s_aload_n (k := 0) (by decide +kernel) rfl
set_option maxRecDepth 20000 in
theorem iX4_outerName_6 : zSnd zZC zmX4_outerName 6 (o_callV zZC 1 zmX4_name 0 1 9) := s_callV (idx := 57) zcX4 calX4_name virX4_name dscX4_name (by decide +kernel) (zWS2 203 rfl rfl) (by decide +kernel)
theorem iX4_outerName_9 : zSnd zZC zmX4_outerName 9 (o_istore 2 10) := s_istore_n (k := 2) (by decide +kernel) rfl (by decide +kernel)
theorem iX4_outerName_10 : zSnd zZC zmX4_outerName 10 (o_iload 2 11) := s_iload_n (k := 2) (by decide +kernel) rfl
theorem iX4_outerName_11 : zSnd zZC zmX4_outerName 11 (o_ic 40 13) := s_bipush (i := 40) (by decide +kernel) (by decide +kernel)
theorem iX4_outerName_13 : zSnd zZC zmX4_outerName 13 (o_icmp (fun x y => x ≤ y) 22 16) := s_icmp_le (off := 9) (by decide +kernel) (by decide +kernel)
theorem iX4_outerName_16 : zSnd zZC zmX4_outerName 16 (o_aload 0 17) := s_aload_n (k := 0) (by decide +kernel) rfl
theorem iX4_outerName_17 : zSnd zZC zmX4_outerName 17 (o_ic 4 18) := s_iconst (i := 4) (by decide +kernel) (by decide +kernel)
theorem iX4_outerName_18 : zSnd zZC zmX4_outerName 18 (o_iload 1 19) := s_iload_n (k := 1) (by decide +kernel) rfl
set_option maxRecDepth 20000 in
theorem iX4_outerName_19 : zSnd zZC zmX4_outerName 19 (o_callV zZC 1 zmX4_fail 2 0 22) := s_callV (idx := 35) zcX4 calX4_fail virX4_fail dscX4_fail (by decide +kernel) (zWS2 134 rfl rfl) (by decide +kernel)
theorem iX4_outerName_22 : zSnd zZC zmX4_outerName 22 (o_iload 2 23) := s_iload_n (k := 2) (by decide +kernel) rfl
theorem iX4_outerName_23 : zSnd zZC zmX4_outerName 23 (o_iret) := s_iret rfl (by decide +kernel)
def kX4_outerName : List (Nat × zOp) := [(0, o_aload 0 1),
  (1, o_getf zYC 1 2 4),
  (4, o_istore 1 5),
  (5, o_aload 0 6),
  (6, o_callV zZC 1 zmX4_name 0 1 9),
  (9, o_istore 2 10),
  (10, o_iload 2 11),
  (11, o_ic 40 13),
  (13, o_icmp (fun x y => x ≤ y) 22 16),
  (16, o_aload 0 17),
  (17, o_ic 4 18),
  (18, o_iload 1 19),
  (19, o_callV zZC 1 zmX4_fail 2 0 22),
  (22, o_iload 2 23),
  (23, o_iret)]
set_option maxRecDepth 100000 in
theorem ksX4_outerName : ∀ q ∈ kX4_outerName, zSnd zZC zmX4_outerName q.1 q.2 := zcc iX4_outerName_0 (zcc iX4_outerName_1 (zcc iX4_outerName_4 (zcc iX4_outerName_5 (zcc iX4_outerName_6 (zcc iX4_outerName_9 (zcc iX4_outerName_10 (zcc iX4_outerName_11 (zcc iX4_outerName_13 (zcc iX4_outerName_16 (zcc iX4_outerName_17 (zcc iX4_outerName_18 (zcc iX4_outerName_19 (zcc iX4_outerName_22 (zcc iX4_outerName_23 zcn))))))))))))))
theorem iX5_readLabels_0 : zSnd zZC zmX5_readLabels 0 (o_aload 1 1) := s_aload_n (k := 1) (by decide +kernel) rfl
theorem iX5_readLabels_1 : zSnd zZC zmX5_readLabels 1 (o_getf zYC 1 2 4) := s_getf zcX4 fX5_15 (by decide +kernel) (by decide +kernel)
theorem iX5_readLabels_4 : zSnd zZC zmX5_readLabels 4 (o_istore 2 5) := s_istore_n (k := 2) (by decide +kernel) rfl (by decide +kernel)
theorem iX5_readLabels_5 : zSnd zZC zmX5_readLabels 5 (o_aload 1 6) := s_aload_n (k := 1) (by decide +kernel) rfl
set_option maxRecDepth 20000 in
theorem iX5_readLabels_6 : zSnd zZC zmX5_readLabels 6 (o_callV zZC 1 zmX4_rowLength 0 1 9) := s_callVN (idx := 64) zcX4 calX4_rowLength virX4_rowLength dscX4_rowLength (by decide +kernel) (zNW3 143 rfl rfl) (by decide +kernel)
theorem iX5_readLabels_9 : zSnd zZC zmX5_readLabels 9 (o_istore 3 10) := s_istore_n (k := 3) (by decide +kernel) rfl (by decide +kernel)
theorem iX5_readLabels_10 : zSnd zZC zmX5_readLabels 10 (o_iload 3 11) := s_iload_n (k := 3) (by decide +kernel) rfl
theorem iX5_readLabels_11 : zSnd zZC zmX5_readLabels 11 (o_ic 256 14) := s_sipush (i := 256) (by decide +kernel) (by decide +kernel)
theorem iX5_readLabels_14 : zSnd zZC zmX5_readLabels 14 (o_icmp (fun x y => x ≤ y) 23 17) := s_icmp_le (off := 9) (by decide +kernel) (by decide +kernel)
theorem iX5_readLabels_17 : zSnd zZC zmX5_readLabels 17 (o_aload 1 18) := s_aload_n (k := 1) (by decide +kernel) rfl
theorem iX5_readLabels_18 : zSnd zZC zmX5_readLabels 18 (o_ic 4 19) := s_iconst (i := 4) (by decide +kernel) (by decide +kernel)
theorem iX5_readLabels_19 : zSnd zZC zmX5_readLabels 19 (o_iload 2 20) := s_iload_n (k := 2) (by decide +kernel) rfl
set_option maxRecDepth 20000 in
theorem iX5_readLabels_20 : zSnd zZC zmX5_readLabels 20 (o_callV zZC 1 zmX4_fail 2 0 23) := s_callVN (idx := 38) zcX4 calX4_fail virX4_fail dscX4_fail (by decide +kernel) (zNW3 125 rfl rfl) (by decide +kernel)
theorem iX5_readLabels_23 : zSnd zZC zmX5_readLabels 23 (o_aload 0 24) := s_aload_n (k := 0) (by decide +kernel) rfl
theorem iX5_readLabels_24 : zSnd zZC zmX5_readLabels 24 (o_ic 0 25) := s_iconst (i := 0) (by decide +kernel) (by decide +kernel)
theorem iX5_readLabels_25 : zSnd zZC zmX5_readLabels 25 (o_putI zYC 6 1 28) := s_putI zcX5 fX5_67 (by decide +kernel) rfl rfl (by decide +kernel)
theorem iX5_readLabels_28 : zSnd zZC zmX5_readLabels 28 (o_ic 0 29) := s_iconst (i := 0) (by decide +kernel) (by decide +kernel)
theorem iX5_readLabels_29 : zSnd zZC zmX5_readLabels 29 (o_istore 4 31) := s_istore (by decide +kernel) (by decide +kernel)
theorem iX5_readLabels_31 : zSnd zZC zmX5_readLabels 31 (o_iload 4 33) := s_iload (by decide +kernel)
theorem iX5_readLabels_33 : zSnd zZC zmX5_readLabels 33 (o_iload 3 34) := s_iload_n (k := 3) (by decide +kernel) rfl
theorem iX5_readLabels_34 : zSnd zZC zmX5_readLabels 34 (o_icmp (fun x y => y < x) 81 37) := s_icmp_gt (off := 47) (by decide +kernel) (by decide +kernel)
theorem iX5_readLabels_37 : zSnd zZC zmX5_readLabels 37 (o_aload 1 38) := s_aload_n (k := 1) (by decide +kernel) rfl
theorem iX5_readLabels_38 : zSnd zZC zmX5_readLabels 38 (o_getf zYC 1 4 41) := s_getf zcX4 fX5_70 (by decide +kernel) (by decide +kernel)
theorem iX5_readLabels_41 : zSnd zZC zmX5_readLabels 41 (o_if0 (fun x => x = 0) 44 81) := s_if_ne (off := 40) (by decide +kernel) (by decide +kernel)
theorem iX5_readLabels_44 : zSnd zZC zmX5_readLabels 44 (o_iload 4 46) := s_iload (by decide +kernel)
theorem iX5_readLabels_46 : zSnd zZC zmX5_readLabels 46 (o_aload 0 47) := s_aload_n (k := 0) (by decide +kernel) rfl
theorem iX5_readLabels_47 : zSnd zZC zmX5_readLabels 47 (o_getf zYC 6 0 50) := s_getf zcX5 fX5_9 (by decide +kernel) (by decide +kernel)
theorem iX5_readLabels_50 : zSnd zZC zmX5_readLabels 50 (o_alen zYC 51) := s_alen zYC_arr (by decide +kernel)
theorem iX5_readLabels_51 : zSnd zZC zmX5_readLabels 51 (o_icmp (fun x y => y ≤ x) 81 54) := s_icmp_ge (off := 30) (by decide +kernel) (by decide +kernel)
theorem iX5_readLabels_54 : zSnd zZC zmX5_readLabels 54 (o_aload 0 55) := s_aload_n (k := 0) (by decide +kernel) rfl
theorem iX5_readLabels_55 : zSnd zZC zmX5_readLabels 55 (o_getf zYC 6 0 58) := s_getf zcX5 fX5_9 (by decide +kernel) (by decide +kernel)
theorem iX5_readLabels_58 : zSnd zZC zmX5_readLabels 58 (o_iload 4 60) := s_iload (by decide +kernel)
theorem iX5_readLabels_60 : zSnd zZC zmX5_readLabels 60 (o_aload 1 61) := s_aload_n (k := 1) (by decide +kernel) rfl
set_option maxRecDepth 20000 in
theorem iX5_readLabels_61 : zSnd zZC zmX5_readLabels 61 (o_callV zZC 1 zmX4_number 0 2 64) := s_callVN (idx := 31) zcX4 calX4_number virX4_number dscX4_number (by decide +kernel) (zNW3 122 rfl rfl) (by decide +kernel)
theorem iX5_readLabels_64 : zSnd zZC zmX5_readLabels 64 (o_last zYC 65) := s_last (by decide +kernel)
theorem iX5_readLabels_65 : zSnd zZC zmX5_readLabels 65 (o_aload 0 66) := s_aload_n (k := 0) (by decide +kernel) rfl
theorem iX5_readLabels_66 : zSnd zZC zmX5_readLabels 66 (o_dup 67) := s_dup (by decide +kernel)
theorem iX5_readLabels_67 : zSnd zZC zmX5_readLabels 67 (o_getf zYC 6 1 70) := s_getf zcX5 fX5_67 (by decide +kernel) (by decide +kernel)
theorem iX5_readLabels_70 : zSnd zZC zmX5_readLabels 70 (o_ic 1 71) := s_iconst (i := 1) (by decide +kernel) (by decide +kernel)
theorem iX5_readLabels_71 : zSnd zZC zmX5_readLabels 71 (o_ibin (fun x y => x + y) 72) := s_iadd (by decide +kernel)
theorem iX5_readLabels_72 : zSnd zZC zmX5_readLabels 72 (o_putI zYC 6 1 75) := s_putI zcX5 fX5_67 (by decide +kernel) rfl rfl (by decide +kernel)
theorem iX5_readLabels_75 : zSnd zZC zmX5_readLabels 75 (o_iinc 4 1 78) := s_iinc (a := 1) (by decide +kernel) (by decide +kernel) (by decide +kernel)
theorem iX5_readLabels_78 : zSnd zZC zmX5_readLabels 78 (o_goto 31) := s_goto (off := (-47)) (by decide +kernel) (by decide +kernel)
theorem iX5_readLabels_81 : zSnd zZC zmX5_readLabels 81 (o_vret) := s_vret rfl (by decide +kernel)
def kX5_readLabels : List (Nat × zOp) := [(0, o_aload 1 1),
  (1, o_getf zYC 1 2 4),
  (4, o_istore 2 5),
  (5, o_aload 1 6),
  (6, o_callV zZC 1 zmX4_rowLength 0 1 9),
  (9, o_istore 3 10),
  (10, o_iload 3 11),
  (11, o_ic 256 14),
  (14, o_icmp (fun x y => x ≤ y) 23 17),
  (17, o_aload 1 18),
  (18, o_ic 4 19),
  (19, o_iload 2 20),
  (20, o_callV zZC 1 zmX4_fail 2 0 23),
  (23, o_aload 0 24),
  (24, o_ic 0 25),
  (25, o_putI zYC 6 1 28),
  (28, o_ic 0 29),
  (29, o_istore 4 31),
  (31, o_iload 4 33),
  (33, o_iload 3 34),
  (34, o_icmp (fun x y => y < x) 81 37),
  (37, o_aload 1 38),
  (38, o_getf zYC 1 4 41),
  (41, o_if0 (fun x => x = 0) 44 81),
  (44, o_iload 4 46),
  (46, o_aload 0 47),
  (47, o_getf zYC 6 0 50),
  (50, o_alen zYC 51),
  (51, o_icmp (fun x y => y ≤ x) 81 54),
  (54, o_aload 0 55),
  (55, o_getf zYC 6 0 58),
  (58, o_iload 4 60),
  (60, o_aload 1 61),
  (61, o_callV zZC 1 zmX4_number 0 2 64),
  (64, o_last zYC 65),
  (65, o_aload 0 66),
  (66, o_dup 67),
  (67, o_getf zYC 6 1 70),
  (70, o_ic 1 71),
  (71, o_ibin (fun x y => x + y) 72),
  (72, o_putI zYC 6 1 75),
  (75, o_iinc 4 1 78),
  (78, o_goto 31),
  (81, o_vret)]
set_option maxRecDepth 100000 in
theorem ksX5_readLabels : ∀ q ∈ kX5_readLabels, zSnd zZC zmX5_readLabels q.1 q.2 := zcc iX5_readLabels_0 (zcc iX5_readLabels_1 (zcc iX5_readLabels_4 (zcc iX5_readLabels_5 (zcc iX5_readLabels_6 (zcc iX5_readLabels_9 (zcc iX5_readLabels_10 (zcc iX5_readLabels_11 (zcc iX5_readLabels_14 (zcc iX5_readLabels_17 (zcc iX5_readLabels_18 (zcc iX5_readLabels_19 (zcc iX5_readLabels_20 (zcc iX5_readLabels_23 (zcc iX5_readLabels_24 (zcc iX5_readLabels_25 (zcc iX5_readLabels_28 (zcc iX5_readLabels_29 (zcc iX5_readLabels_31 (zcc iX5_readLabels_33 (zcc iX5_readLabels_34 (zcc iX5_readLabels_37 (zcc iX5_readLabels_38 (zcc iX5_readLabels_41 (zcc iX5_readLabels_44 (zcc iX5_readLabels_46 (zcc iX5_readLabels_47 (zcc iX5_readLabels_50 (zcc iX5_readLabels_51 (zcc iX5_readLabels_54 (zcc iX5_readLabels_55 (zcc iX5_readLabels_58 (zcc iX5_readLabels_60 (zcc iX5_readLabels_61 (zcc iX5_readLabels_64 (zcc iX5_readLabels_65 (zcc iX5_readLabels_66 (zcc iX5_readLabels_67 (zcc iX5_readLabels_70 (zcc iX5_readLabels_71 (zcc iX5_readLabels_72 (zcc iX5_readLabels_75 (zcc iX5_readLabels_78 (zcc iX5_readLabels_81 zcn)))))))))))))))))))))))))))))))))))))))))))
theorem iX6_readData_0 : zSnd zZC zmX6_readData 0 (o_aload 0 1) := s_aload_n (k := 0) (by decide +kernel) rfl
theorem iX6_readData_1 : zSnd zZC zmX6_readData 1 (o_getf zYC 3 0 4) := s_getf zcX6 fX6_18 (by decide +kernel) (by decide +kernel)
theorem iX6_readData_4 : zSnd zZC zmX6_readData 4 (o_getf zYC 1 2 7) := s_getf zcX4 fX6_62 (by decide +kernel) (by decide +kernel)
theorem iX6_readData_7 : zSnd zZC zmX6_readData 7 (o_istore 1 8) := s_istore_n (k := 1) (by decide +kernel) rfl (by decide +kernel)
theorem iX6_readData_8 : zSnd zZC zmX6_readData 8 (o_aload 0 9) := s_aload_n (k := 0) (by decide +kernel) rfl
theorem iX6_readData_9 : zSnd zZC zmX6_readData 9 (o_getf zYC 3 0 12) := s_getf zcX6 fX6_18 (by decide +kernel) (by decide +kernel)
theorem iX6_readData_12 : zSnd zZC zmX6_readData 12 (o_ic 0 13) := s_iconst (i := 0) (by decide +kernel) (by decide +kernel)
theorem iX6_readData_13 : zSnd zZC zmX6_readData 13 (o_ic 1 14) := s_iconst (i := 1) (by decide +kernel) (by decide +kernel)
set_option maxRecDepth 20000 in
theorem iX6_readData_14 : zSnd zZC zmX6_readData 14 (o_callV zZC 1 zmX4_octetWithin 2 1 17) := s_callVN (idx := 55) zcX4 calX4_octetWithin virX4_octetWithin dscX4_octetWithin (by decide +kernel) (zNW2 126 rfl rfl) (by decide +kernel)
theorem iX6_readData_17 : zSnd zZC zmX6_readData 17 (o_if0 (fun x => x = 0) 20 48) := s_if_ne (off := 31) (by decide +kernel) (by decide +kernel)
theorem iX6_readData_20 : zSnd zZC zmX6_readData 20 (o_aload 0 21) := s_aload_n (k := 0) (by decide +kernel) rfl
theorem iX6_readData_21 : zSnd zZC zmX6_readData 21 (o_getf zYC 3 1 24) := s_getf zcX6 fX6_22 (by decide +kernel) (by decide +kernel)
theorem iX6_readData_24 : zSnd zZC zmX6_readData 24 (o_getf zYC 2 11 27) := s_getf zcX2 fX6_198 (by decide +kernel) (by decide +kernel)
theorem iX6_readData_27 : zSnd zZC zmX6_readData 27 (o_if0 (fun x => x = 0) 30 40) := s_if_ne (off := 13) (by decide +kernel) (by decide +kernel)
theorem iX6_readData_30 : zSnd zZC zmX6_readData 30 (o_aload 0 31) := s_aload_n (k := 0) (by decide +kernel) rfl
theorem iX6_readData_31 : zSnd zZC zmX6_readData 31 (o_getf zYC 3 1 34) := s_getf zcX6 fX6_22 (by decide +kernel) (by decide +kernel)
theorem iX6_readData_34 : zSnd zZC zmX6_readData 34 (o_ic 13 36) := s_bipush (i := 13) (by decide +kernel) (by decide +kernel)
theorem iX6_readData_36 : zSnd zZC zmX6_readData 36 (o_iload 1 37) := s_iload_n (k := 1) (by decide +kernel) rfl
set_option maxRecDepth 20000 in
theorem iX6_readData_37 : zSnd zZC zmX6_readData 37 (o_callV zZC 2 zmX2_noteWrong 2 0 40) := s_callVN (idx := 186) zcX2 calX2_noteWrong virX2_noteWrong dscX2_noteWrong (by decide +kernel) (zNW2 213 rfl rfl) (by decide +kernel)
theorem iX6_readData_40 : zSnd zZC zmX6_readData 40 (o_aload 0 41) := s_aload_n (k := 0) (by decide +kernel) rfl
theorem iX6_readData_41 : zSnd zZC zmX6_readData 41 (o_ic 14 43) := s_bipush (i := 14) (by decide +kernel) (by decide +kernel)
theorem iX6_readData_43 : zSnd zZC zmX6_readData 43 (o_ic 127 45) := s_bipush (i := 127) (by decide +kernel) (by decide +kernel)
set_option maxRecDepth 20000 in
theorem iX6_readData_45 : zSnd zZC zmX6_readData 45 (o_callV zZC 3 zmX6_readConstant 2 0 48) := s_callV (idx := 201) zcX6 calX6_readConstant virX6_readConstant dscX6_readConstant (by decide +kernel) (zWS3 10 rfl rfl) (by decide +kernel)
theorem iX6_readData_48 : zSnd zZC zmX6_readData 48 (o_aload 0 49) := s_aload_n (k := 0) (by decide +kernel) rfl
theorem iX6_readData_49 : zSnd zZC zmX6_readData 49 (o_getf zYC 3 0 52) := s_getf zcX6 fX6_18 (by decide +kernel) (by decide +kernel)
set_option maxRecDepth 20000 in
theorem iX6_readData_52 : zSnd zZC zmX6_readData 52 (o_callV zZC 1 zmX4_length 0 1 55) := s_callVN (idx := 245) zcX4 calX4_length virX4_length dscX4_length (by decide +kernel) (zNW4 40 rfl rfl) (by decide +kernel)
theorem iX6_readData_55 : zSnd zZC zmX6_readData 55 (o_istore 2 56) := s_istore_n (k := 2) (by decide +kernel) rfl (by decide +kernel)
theorem iX6_readData_56 : zSnd zZC zmX6_readData 56 (o_aload 0 57) := s_aload_n (k := 0) (by decide +kernel) rfl
theorem iX6_readData_57 : zSnd zZC zmX6_readData 57 (o_getf zYC 3 0 60) := s_getf zcX6 fX6_18 (by decide +kernel) (by decide +kernel)
theorem iX6_readData_60 : zSnd zZC zmX6_readData 60 (o_dup 61) := s_dup (by decide +kernel)
theorem iX6_readData_61 : zSnd zZC zmX6_readData 61 (o_getf zYC 1 2 64) := s_getf zcX4 fX6_62 (by decide +kernel) (by decide +kernel)
theorem iX6_readData_64 : zSnd zZC zmX6_readData 64 (o_iload 2 65) := s_iload_n (k := 2) (by decide +kernel) rfl
theorem iX6_readData_65 : zSnd zZC zmX6_readData 65 (o_ibin (fun x y => x + y) 66) := s_iadd (by decide +kernel)
theorem iX6_readData_66 : zSnd zZC zmX6_readData 66 (o_putI zYC 1 2 69) := s_putI zcX4 fX6_62 (by decide +kernel) rfl rfl (by decide +kernel)
theorem iX6_readData_69 : zSnd zZC zmX6_readData 69 (o_vret) := s_vret rfl (by decide +kernel)
def kX6_readData : List (Nat × zOp) := [(0, o_aload 0 1),
  (1, o_getf zYC 3 0 4),
  (4, o_getf zYC 1 2 7),
  (7, o_istore 1 8),
  (8, o_aload 0 9),
  (9, o_getf zYC 3 0 12),
  (12, o_ic 0 13),
  (13, o_ic 1 14),
  (14, o_callV zZC 1 zmX4_octetWithin 2 1 17),
  (17, o_if0 (fun x => x = 0) 20 48),
  (20, o_aload 0 21),
  (21, o_getf zYC 3 1 24),
  (24, o_getf zYC 2 11 27),
  (27, o_if0 (fun x => x = 0) 30 40),
  (30, o_aload 0 31),
  (31, o_getf zYC 3 1 34),
  (34, o_ic 13 36),
  (36, o_iload 1 37),
  (37, o_callV zZC 2 zmX2_noteWrong 2 0 40),
  (40, o_aload 0 41),
  (41, o_ic 14 43),
  (43, o_ic 127 45),
  (45, o_callV zZC 3 zmX6_readConstant 2 0 48),
  (48, o_aload 0 49),
  (49, o_getf zYC 3 0 52),
  (52, o_callV zZC 1 zmX4_length 0 1 55),
  (55, o_istore 2 56),
  (56, o_aload 0 57),
  (57, o_getf zYC 3 0 60),
  (60, o_dup 61),
  (61, o_getf zYC 1 2 64),
  (64, o_iload 2 65),
  (65, o_ibin (fun x y => x + y) 66),
  (66, o_putI zYC 1 2 69),
  (69, o_vret)]
set_option maxRecDepth 100000 in
theorem ksX6_readData : ∀ q ∈ kX6_readData, zSnd zZC zmX6_readData q.1 q.2 := zcc iX6_readData_0 (zcc iX6_readData_1 (zcc iX6_readData_4 (zcc iX6_readData_7 (zcc iX6_readData_8 (zcc iX6_readData_9 (zcc iX6_readData_12 (zcc iX6_readData_13 (zcc iX6_readData_14 (zcc iX6_readData_17 (zcc iX6_readData_20 (zcc iX6_readData_21 (zcc iX6_readData_24 (zcc iX6_readData_27 (zcc iX6_readData_30 (zcc iX6_readData_31 (zcc iX6_readData_34 (zcc iX6_readData_36 (zcc iX6_readData_37 (zcc iX6_readData_40 (zcc iX6_readData_41 (zcc iX6_readData_43 (zcc iX6_readData_45 (zcc iX6_readData_48 (zcc iX6_readData_49 (zcc iX6_readData_52 (zcc iX6_readData_55 (zcc iX6_readData_56 (zcc iX6_readData_57 (zcc iX6_readData_60 (zcc iX6_readData_61 (zcc iX6_readData_64 (zcc iX6_readData_65 (zcc iX6_readData_66 (zcc iX6_readData_69 zcn))))))))))))))))))))))))))))))))))
theorem iX6_readGlobal_0 : zSnd zZC zmX6_readGlobal 0 (o_aload 0 1) := s_aload_n (k := 0) (by decide +kernel) rfl
theorem iX6_readGlobal_1 : zSnd zZC zmX6_readGlobal 1 (o_getf zYC 3 0 4) := s_getf zcX6 fX6_18 (by decide +kernel) (by decide +kernel)
set_option maxRecDepth 20000 in
theorem iX6_readGlobal_4 : zSnd zZC zmX6_readGlobal 4 (o_callV zZC 1 zmX4_type 0 1 7) := s_callVN (idx := 158) zcX4 calX4_type virX4_type dscX4_type (by decide +kernel) (zNW2 186 rfl rfl) (by decide +kernel)
theorem iX6_readGlobal_7 : zSnd zZC zmX6_readGlobal 7 (o_istore 1 8) := s_istore_n (k := 1) (by decide +kernel) rfl (by decide +kernel)
theorem iX6_readGlobal_8 : zSnd zZC zmX6_readGlobal 8 (o_aload 0 9) := s_aload_n (k := 0) (by decide +kernel) rfl
theorem iX6_readGlobal_9 : zSnd zZC zmX6_readGlobal 9 (o_getf zYC 3 0 12) := s_getf zcX6 fX6_18 (by decide +kernel) (by decide +kernel)
theorem iX6_readGlobal_12 : zSnd zZC zmX6_readGlobal 12 (o_ic 0 13) := s_iconst (i := 0) (by decide +kernel) (by decide +kernel)
theorem iX6_readGlobal_13 : zSnd zZC zmX6_readGlobal 13 (o_ic 1 14) := s_iconst (i := 1) (by decide +kernel) (by decide +kernel)
set_option maxRecDepth 20000 in
theorem iX6_readGlobal_14 : zSnd zZC zmX6_readGlobal 14 (o_callV zZC 1 zmX4_octetWithin 2 1 17) := s_callVN (idx := 55) zcX4 calX4_octetWithin virX4_octetWithin dscX4_octetWithin (by decide +kernel) (zNW2 126 rfl rfl) (by decide +kernel)
theorem iX6_readGlobal_17 : zSnd zZC zmX6_readGlobal 17 (o_ic 1 18) := s_iconst (i := 1) (by decide +kernel) (by decide +kernel)
theorem iX6_readGlobal_18 : zSnd zZC zmX6_readGlobal 18 (o_icmp (fun x y => x = y) 21 25) := s_icmp_ne (off := 7) (by decide +kernel) (by decide +kernel)
theorem iX6_readGlobal_21 : zSnd zZC zmX6_readGlobal 21 (o_ic 1 22) := s_iconst (i := 1) (by decide +kernel) (by decide +kernel)
theorem iX6_readGlobal_22 : zSnd zZC zmX6_readGlobal 22 (o_goto 26) := s_goto (off := 4) (by decide +kernel) (by decide +kernel)
theorem iX6_readGlobal_25 : zSnd zZC zmX6_readGlobal 25 (o_ic 0 26) := s_iconst (i := 0) (by decide +kernel) (by decide +kernel)
theorem iX6_readGlobal_26 : zSnd zZC zmX6_readGlobal 26 (o_istore 2 27) := s_istore_n (k := 2) (by decide +kernel) rfl (by decide +kernel)
theorem iX6_readGlobal_27 : zSnd zZC zmX6_readGlobal 27 (o_aload 0 28) := s_aload_n (k := 0) (by decide +kernel) rfl
theorem iX6_readGlobal_28 : zSnd zZC zmX6_readGlobal 28 (o_ic 6 30) := s_bipush (i := 6) (by decide +kernel) (by decide +kernel)
theorem iX6_readGlobal_30 : zSnd zZC zmX6_readGlobal 30 (o_iload 1 31) := s_iload_n (k := 1) (by decide +kernel) rfl
set_option maxRecDepth 20000 in
theorem iX6_readGlobal_31 : zSnd zZC zmX6_readGlobal 31 (o_callV zZC 3 zmX6_readConstant 2 0 34) := s_callV (idx := 201) zcX6 calX6_readConstant virX6_readConstant dscX6_readConstant (by decide +kernel) (zWS3 10 rfl rfl) (by decide +kernel)
theorem iX6_readGlobal_34 : zSnd zZC zmX6_readGlobal 34 (o_aload 0 35) := s_aload_n (k := 0) (by decide +kernel) rfl
theorem iX6_readGlobal_35 : zSnd zZC zmX6_readGlobal 35 (o_getf zYC 3 1 38) := s_getf zcX6 fX6_22 (by decide +kernel) (by decide +kernel)
theorem iX6_readGlobal_38 : zSnd zZC zmX6_readGlobal 38 (o_iload 1 39) := s_iload_n (k := 1) (by decide +kernel) rfl
theorem iX6_readGlobal_39 : zSnd zZC zmX6_readGlobal 39 (o_iload 2 40) := s_iload_n (k := 2) (by decide +kernel) rfl
set_option maxRecDepth 20000 in
theorem iX6_readGlobal_40 : zSnd zZC zmX6_readGlobal 40 (o_callV zZC 2 zmX2_addGlobal 2 0 43) := s_callVN (idx := 180) zcX2 calX2_addGlobal virX2_addGlobal dscX2_addGlobal (by decide +kernel) (zNW2 234 rfl rfl) (by decide +kernel)
theorem iX6_readGlobal_43 : zSnd zZC zmX6_readGlobal 43 (o_vret) := s_vret rfl (by decide +kernel)
def kX6_readGlobal : List (Nat × zOp) := [(0, o_aload 0 1),
  (1, o_getf zYC 3 0 4),
  (4, o_callV zZC 1 zmX4_type 0 1 7),
  (7, o_istore 1 8),
  (8, o_aload 0 9),
  (9, o_getf zYC 3 0 12),
  (12, o_ic 0 13),
  (13, o_ic 1 14),
  (14, o_callV zZC 1 zmX4_octetWithin 2 1 17),
  (17, o_ic 1 18),
  (18, o_icmp (fun x y => x = y) 21 25),
  (21, o_ic 1 22),
  (22, o_goto 26),
  (25, o_ic 0 26),
  (26, o_istore 2 27),
  (27, o_aload 0 28),
  (28, o_ic 6 30),
  (30, o_iload 1 31),
  (31, o_callV zZC 3 zmX6_readConstant 2 0 34),
  (34, o_aload 0 35),
  (35, o_getf zYC 3 1 38),
  (38, o_iload 1 39),
  (39, o_iload 2 40),
  (40, o_callV zZC 2 zmX2_addGlobal 2 0 43),
  (43, o_vret)]
set_option maxRecDepth 100000 in
theorem ksX6_readGlobal : ∀ q ∈ kX6_readGlobal, zSnd zZC zmX6_readGlobal q.1 q.2 := zcc iX6_readGlobal_0 (zcc iX6_readGlobal_1 (zcc iX6_readGlobal_4 (zcc iX6_readGlobal_7 (zcc iX6_readGlobal_8 (zcc iX6_readGlobal_9 (zcc iX6_readGlobal_12 (zcc iX6_readGlobal_13 (zcc iX6_readGlobal_14 (zcc iX6_readGlobal_17 (zcc iX6_readGlobal_18 (zcc iX6_readGlobal_21 (zcc iX6_readGlobal_22 (zcc iX6_readGlobal_25 (zcc iX6_readGlobal_26 (zcc iX6_readGlobal_27 (zcc iX6_readGlobal_28 (zcc iX6_readGlobal_30 (zcc iX6_readGlobal_31 (zcc iX6_readGlobal_34 (zcc iX6_readGlobal_35 (zcc iX6_readGlobal_38 (zcc iX6_readGlobal_39 (zcc iX6_readGlobal_40 (zcc iX6_readGlobal_43 zcn))))))))))))))))))))))))
theorem iX6_readMemory_0 : zSnd zZC zmX6_readMemory 0 (o_aload 0 1) := s_aload_n (k := 0) (by decide +kernel) rfl
theorem iX6_readMemory_1 : zSnd zZC zmX6_readMemory 1 (o_aload 0 2) := s_aload_n (k := 0) (by decide +kernel) rfl
theorem iX6_readMemory_2 : zSnd zZC zmX6_readMemory 2 (o_getf zYC 3 0 5) := s_getf zcX6 fX6_18 (by decide +kernel) (by decide +kernel)
theorem iX6_readMemory_5 : zSnd zZC zmX6_readMemory 5 (o_getf zYC 1 2 8) := s_getf zcX4 fX6_62 (by decide +kernel) (by decide +kernel)
set_option maxRecDepth 20000 in
theorem iX6_readMemory_8 : zSnd zZC zmX6_readMemory 8 (o_callV zZC 3 zmX6_addMemory 1 0 11) := s_callV (idx := 177) zcX6 calX6_addMemory virX6_addMemory dscX6_addMemory (by decide +kernel) (zWS2 230 rfl rfl) (by decide +kernel)
theorem iX6_readMemory_11 : zSnd zZC zmX6_readMemory 11 (o_aload 0 12) := s_aload_n (k := 0) (by decide +kernel) rfl
theorem iX6_readMemory_12 : zSnd zZC zmX6_readMemory 12 (o_ic 5 13) := s_iconst (i := 5) (by decide +kernel) (by decide +kernel)
theorem iX6_readMemory_13 : zSnd zZC zmX6_readMemory 13 (o_ic 1 14) := s_iconst (i := 1) (by decide +kernel) (by decide +kernel)
set_option maxRecDepth 20000 in
theorem iX6_readMemory_14 : zSnd zZC zmX6_readMemory 14 (o_callV zZC 3 zmX6_readLimits 2 0 17) := s_callV (idx := 170) zcX6 calX6_readLimits virX6_readLimits dscX6_readLimits (by decide +kernel) (zWS2 221 rfl rfl) (by decide +kernel)
theorem iX6_readMemory_17 : zSnd zZC zmX6_readMemory 17 (o_vret) := s_vret rfl (by decide +kernel)
def kX6_readMemory : List (Nat × zOp) := [(0, o_aload 0 1),
  (1, o_aload 0 2),
  (2, o_getf zYC 3 0 5),
  (5, o_getf zYC 1 2 8),
  (8, o_callV zZC 3 zmX6_addMemory 1 0 11),
  (11, o_aload 0 12),
  (12, o_ic 5 13),
  (13, o_ic 1 14),
  (14, o_callV zZC 3 zmX6_readLimits 2 0 17),
  (17, o_vret)]
set_option maxRecDepth 100000 in
theorem ksX6_readMemory : ∀ q ∈ kX6_readMemory, zSnd zZC zmX6_readMemory q.1 q.2 := zcc iX6_readMemory_0 (zcc iX6_readMemory_1 (zcc iX6_readMemory_2 (zcc iX6_readMemory_5 (zcc iX6_readMemory_8 (zcc iX6_readMemory_11 (zcc iX6_readMemory_12 (zcc iX6_readMemory_13 (zcc iX6_readMemory_14 (zcc iX6_readMemory_17 zcn)))))))))
theorem iX6_readRowOfFunctions_0 : zSnd zZC zmX6_readRowOfFunctions 0 (o_aload 0 1) := s_aload_n (k := 0) (by decide +kernel) rfl
theorem iX6_readRowOfFunctions_1 : zSnd zZC zmX6_readRowOfFunctions 1 (o_getf zYC 3 0 4) := s_getf zcX6 fX6_18 (by decide +kernel) (by decide +kernel)
theorem iX6_readRowOfFunctions_4 : zSnd zZC zmX6_readRowOfFunctions 4 (o_getf zYC 1 2 7) := s_getf zcX4 fX6_62 (by decide +kernel) (by decide +kernel)
theorem iX6_readRowOfFunctions_7 : zSnd zZC zmX6_readRowOfFunctions 7 (o_istore 1 8) := s_istore_n (k := 1) (by decide +kernel) rfl (by decide +kernel)
theorem iX6_readRowOfFunctions_8 : zSnd zZC zmX6_readRowOfFunctions 8 (o_aload 0 9) := s_aload_n (k := 0) (by decide +kernel) rfl
theorem iX6_readRowOfFunctions_9 : zSnd zZC zmX6_readRowOfFunctions 9 (o_getf zYC 3 0 12) := s_getf zcX6 fX6_18 (by decide +kernel) (by decide +kernel)
set_option maxRecDepth 20000 in
theorem iX6_readRowOfFunctions_12 : zSnd zZC zmX6_readRowOfFunctions 12 (o_callV zZC 1 zmX4_rowLength 0 1 15) := s_callVN (idx := 83) zcX4 calX4_rowLength virX4_rowLength dscX4_rowLength (by decide +kernel) (zNW2 168 rfl rfl) (by decide +kernel)
theorem iX6_readRowOfFunctions_15 : zSnd zZC zmX6_readRowOfFunctions 15 (o_istore 2 16) := s_istore_n (k := 2) (by decide +kernel) rfl (by decide +kernel)
theorem iX6_readRowOfFunctions_16 : zSnd zZC zmX6_readRowOfFunctions 16 (o_iload 2 17) := s_iload_n (k := 2) (by decide +kernel) rfl
theorem iX6_readRowOfFunctions_17 : zSnd zZC zmX6_readRowOfFunctions 17 (o_ic 256 20) := s_sipush (i := 256) (by decide +kernel) (by decide +kernel)
theorem iX6_readRowOfFunctions_20 : zSnd zZC zmX6_readRowOfFunctions 20 (o_icmp (fun x y => x ≤ y) 32 23) := s_icmp_le (off := 12) (by decide +kernel) (by decide +kernel)
theorem iX6_readRowOfFunctions_23 : zSnd zZC zmX6_readRowOfFunctions 23 (o_aload 0 24) := s_aload_n (k := 0) (by decide +kernel) rfl
theorem iX6_readRowOfFunctions_24 : zSnd zZC zmX6_readRowOfFunctions 24 (o_getf zYC 3 0 27) := s_getf zcX6 fX6_18 (by decide +kernel) (by decide +kernel)
theorem iX6_readRowOfFunctions_27 : zSnd zZC zmX6_readRowOfFunctions 27 (o_ic 4 28) := s_iconst (i := 4) (by decide +kernel) (by decide +kernel)
theorem iX6_readRowOfFunctions_28 : zSnd zZC zmX6_readRowOfFunctions 28 (o_iload 1 29) := s_iload_n (k := 1) (by decide +kernel) rfl
set_option maxRecDepth 20000 in
theorem iX6_readRowOfFunctions_29 : zSnd zZC zmX6_readRowOfFunctions 29 (o_callV zZC 1 zmX4_fail 2 0 32) := s_callVN (idx := 149) zcX4 calX4_fail virX4_fail dscX4_fail (by decide +kernel) (zNW2 152 rfl rfl) (by decide +kernel)
theorem iX6_readRowOfFunctions_32 : zSnd zZC zmX6_readRowOfFunctions 32 (o_ic 0 33) := s_iconst (i := 0) (by decide +kernel) (by decide +kernel)
theorem iX6_readRowOfFunctions_33 : zSnd zZC zmX6_readRowOfFunctions 33 (o_istore 3 34) := s_istore_n (k := 3) (by decide +kernel) rfl (by decide +kernel)
theorem iX6_readRowOfFunctions_34 : zSnd zZC zmX6_readRowOfFunctions 34 (o_iload 3 35) := s_iload_n (k := 3) (by decide +kernel) rfl
theorem iX6_readRowOfFunctions_35 : zSnd zZC zmX6_readRowOfFunctions 35 (o_iload 2 36) := s_iload_n (k := 2) (by decide +kernel) rfl
theorem iX6_readRowOfFunctions_36 : zSnd zZC zmX6_readRowOfFunctions 36 (o_icmp (fun x y => y ≤ x) 94 39) := s_icmp_ge (off := 58) (by decide +kernel) (by decide +kernel)
theorem iX6_readRowOfFunctions_39 : zSnd zZC zmX6_readRowOfFunctions 39 (o_aload 0 40) := s_aload_n (k := 0) (by decide +kernel) rfl
theorem iX6_readRowOfFunctions_40 : zSnd zZC zmX6_readRowOfFunctions 40 (o_getf zYC 3 0 43) := s_getf zcX6 fX6_18 (by decide +kernel) (by decide +kernel)
theorem iX6_readRowOfFunctions_43 : zSnd zZC zmX6_readRowOfFunctions 43 (o_getf zYC 1 4 46) := s_getf zcX4 fX6_59 (by decide +kernel) (by decide +kernel)
theorem iX6_readRowOfFunctions_46 : zSnd zZC zmX6_readRowOfFunctions 46 (o_if0 (fun x => x = 0) 49 94) := s_if_ne (off := 48) (by decide +kernel) (by decide +kernel)
theorem iX6_readRowOfFunctions_49 : zSnd zZC zmX6_readRowOfFunctions 49 (o_aload 0 50) := s_aload_n (k := 0) (by decide +kernel) rfl
theorem iX6_readRowOfFunctions_50 : zSnd zZC zmX6_readRowOfFunctions 50 (o_getf zYC 3 0 53) := s_getf zcX6 fX6_18 (by decide +kernel) (by decide +kernel)
theorem iX6_readRowOfFunctions_53 : zSnd zZC zmX6_readRowOfFunctions 53 (o_getf zYC 1 2 56) := s_getf zcX4 fX6_62 (by decide +kernel) (by decide +kernel)
theorem iX6_readRowOfFunctions_56 : zSnd zZC zmX6_readRowOfFunctions 56 (o_istore 4 58) := s_istore (by decide +kernel) (by decide +kernel)
theorem iX6_readRowOfFunctions_58 : zSnd zZC zmX6_readRowOfFunctions 58 (o_aload 0 59) := s_aload_n (k := 0) (by decide +kernel) rfl
theorem iX6_readRowOfFunctions_59 : zSnd zZC zmX6_readRowOfFunctions 59 (o_getf zYC 3 0 62) := s_getf zcX6 fX6_18 (by decide +kernel) (by decide +kernel)
set_option maxRecDepth 20000 in
theorem iX6_readRowOfFunctions_62 : zSnd zZC zmX6_readRowOfFunctions 62 (o_callV zZC 1 zmX4_number 0 2 65) := s_callVN (idx := 126) zcX4 calX4_number virX4_number dscX4_number (by decide +kernel) (zNW2 212 rfl rfl) (by decide +kernel)
theorem iX6_readRowOfFunctions_65 : zSnd zZC zmX6_readRowOfFunctions 65 (o_aload 0 66) := s_aload_n (k := 0) (by decide +kernel) rfl
theorem iX6_readRowOfFunctions_66 : zSnd zZC zmX6_readRowOfFunctions 66 (o_getf zYC 3 1 69) := s_getf zcX6 fX6_22 (by decide +kernel) (by decide +kernel)
theorem iX6_readRowOfFunctions_69 : zSnd zZC zmX6_readRowOfFunctions 69 (o_getf zYC 2 8 72) := s_getf zcX2 fX6_242 (by decide +kernel) (by decide +kernel)
theorem iX6_readRowOfFunctions_72 : zSnd zZC zmX6_readRowOfFunctions 72 (o_i2l 73) := s_i2l (by decide +kernel)
theorem iX6_readRowOfFunctions_73 : zSnd zZC zmX6_readRowOfFunctions 73 (o_lif (fun x y => x < y) 88 77) := s_llt (off := 14) (by decide +kernel) (by decide +kernel) (by decide +kernel)
theorem iX6_readRowOfFunctions_77 : zSnd zZC zmX6_readRowOfFunctions 77 (o_aload 0 78) := s_aload_n (k := 0) (by decide +kernel) rfl
theorem iX6_readRowOfFunctions_78 : zSnd zZC zmX6_readRowOfFunctions 78 (o_getf zYC 3 1 81) := s_getf zcX6 fX6_22 (by decide +kernel) (by decide +kernel)
theorem iX6_readRowOfFunctions_81 : zSnd zZC zmX6_readRowOfFunctions 81 (o_ic 12 83) := s_bipush (i := 12) (by decide +kernel) (by decide +kernel)
theorem iX6_readRowOfFunctions_83 : zSnd zZC zmX6_readRowOfFunctions 83 (o_iload 4 85) := s_iload (by decide +kernel)
set_option maxRecDepth 20000 in
theorem iX6_readRowOfFunctions_85 : zSnd zZC zmX6_readRowOfFunctions 85 (o_callV zZC 2 zmX2_noteWrong 2 0 88) := s_callVN (idx := 186) zcX2 calX2_noteWrong virX2_noteWrong dscX2_noteWrong (by decide +kernel) (zNW2 213 rfl rfl) (by decide +kernel)
theorem iX6_readRowOfFunctions_88 : zSnd zZC zmX6_readRowOfFunctions 88 (o_iinc 3 1 91) := s_iinc (a := 1) (by decide +kernel) (by decide +kernel) (by decide +kernel)
theorem iX6_readRowOfFunctions_91 : zSnd zZC zmX6_readRowOfFunctions 91 (o_goto 34) := s_goto (off := (-57)) (by decide +kernel) (by decide +kernel)
theorem iX6_readRowOfFunctions_94 : zSnd zZC zmX6_readRowOfFunctions 94 (o_vret) := s_vret rfl (by decide +kernel)
def kX6_readRowOfFunctions : List (Nat × zOp) := [(0, o_aload 0 1),
  (1, o_getf zYC 3 0 4),
  (4, o_getf zYC 1 2 7),
  (7, o_istore 1 8),
  (8, o_aload 0 9),
  (9, o_getf zYC 3 0 12),
  (12, o_callV zZC 1 zmX4_rowLength 0 1 15),
  (15, o_istore 2 16),
  (16, o_iload 2 17),
  (17, o_ic 256 20),
  (20, o_icmp (fun x y => x ≤ y) 32 23),
  (23, o_aload 0 24),
  (24, o_getf zYC 3 0 27),
  (27, o_ic 4 28),
  (28, o_iload 1 29),
  (29, o_callV zZC 1 zmX4_fail 2 0 32),
  (32, o_ic 0 33),
  (33, o_istore 3 34),
  (34, o_iload 3 35),
  (35, o_iload 2 36),
  (36, o_icmp (fun x y => y ≤ x) 94 39),
  (39, o_aload 0 40),
  (40, o_getf zYC 3 0 43),
  (43, o_getf zYC 1 4 46),
  (46, o_if0 (fun x => x = 0) 49 94),
  (49, o_aload 0 50),
  (50, o_getf zYC 3 0 53),
  (53, o_getf zYC 1 2 56),
  (56, o_istore 4 58),
  (58, o_aload 0 59),
  (59, o_getf zYC 3 0 62),
  (62, o_callV zZC 1 zmX4_number 0 2 65),
  (65, o_aload 0 66),
  (66, o_getf zYC 3 1 69),
  (69, o_getf zYC 2 8 72),
  (72, o_i2l 73),
  (73, o_lif (fun x y => x < y) 88 77),
  (77, o_aload 0 78),
  (78, o_getf zYC 3 1 81),
  (81, o_ic 12 83),
  (83, o_iload 4 85),
  (85, o_callV zZC 2 zmX2_noteWrong 2 0 88),
  (88, o_iinc 3 1 91),
  (91, o_goto 34),
  (94, o_vret)]
set_option maxRecDepth 100000 in
theorem ksX6_readRowOfFunctions : ∀ q ∈ kX6_readRowOfFunctions, zSnd zZC zmX6_readRowOfFunctions q.1 q.2 := zcc iX6_readRowOfFunctions_0 (zcc iX6_readRowOfFunctions_1 (zcc iX6_readRowOfFunctions_4 (zcc iX6_readRowOfFunctions_7 (zcc iX6_readRowOfFunctions_8 (zcc iX6_readRowOfFunctions_9 (zcc iX6_readRowOfFunctions_12 (zcc iX6_readRowOfFunctions_15 (zcc iX6_readRowOfFunctions_16 (zcc iX6_readRowOfFunctions_17 (zcc iX6_readRowOfFunctions_20 (zcc iX6_readRowOfFunctions_23 (zcc iX6_readRowOfFunctions_24 (zcc iX6_readRowOfFunctions_27 (zcc iX6_readRowOfFunctions_28 (zcc iX6_readRowOfFunctions_29 (zcc iX6_readRowOfFunctions_32 (zcc iX6_readRowOfFunctions_33 (zcc iX6_readRowOfFunctions_34 (zcc iX6_readRowOfFunctions_35 (zcc iX6_readRowOfFunctions_36 (zcc iX6_readRowOfFunctions_39 (zcc iX6_readRowOfFunctions_40 (zcc iX6_readRowOfFunctions_43 (zcc iX6_readRowOfFunctions_46 (zcc iX6_readRowOfFunctions_49 (zcc iX6_readRowOfFunctions_50 (zcc iX6_readRowOfFunctions_53 (zcc iX6_readRowOfFunctions_56 (zcc iX6_readRowOfFunctions_58 (zcc iX6_readRowOfFunctions_59 (zcc iX6_readRowOfFunctions_62 (zcc iX6_readRowOfFunctions_65 (zcc iX6_readRowOfFunctions_66 (zcc iX6_readRowOfFunctions_69 (zcc iX6_readRowOfFunctions_72 (zcc iX6_readRowOfFunctions_73 (zcc iX6_readRowOfFunctions_77 (zcc iX6_readRowOfFunctions_78 (zcc iX6_readRowOfFunctions_81 (zcc iX6_readRowOfFunctions_83 (zcc iX6_readRowOfFunctions_85 (zcc iX6_readRowOfFunctions_88 (zcc iX6_readRowOfFunctions_91 (zcc iX6_readRowOfFunctions_94 zcn))))))))))))))))))))))))))))))))))))))))))))
theorem iX6_readSignature_0 : zSnd zZC zmX6_readSignature 0 (o_aload 0 1) := s_aload_n (k := 0) (by decide +kernel) rfl
theorem iX6_readSignature_1 : zSnd zZC zmX6_readSignature 1 (o_getf zYC 3 0 4) := s_getf zcX6 fX6_18 (by decide +kernel) (by decide +kernel)
theorem iX6_readSignature_4 : zSnd zZC zmX6_readSignature 4 (o_ic 96 6) := s_bipush (i := 96) (by decide +kernel) (by decide +kernel)
theorem iX6_readSignature_6 : zSnd zZC zmX6_readSignature 6 (o_ic 96 8) := s_bipush (i := 96) (by decide +kernel) (by decide +kernel)
set_option maxRecDepth 20000 in
theorem iX6_readSignature_8 : zSnd zZC zmX6_readSignature 8 (o_callV zZC 1 zmX4_octetWithin 2 1 11) := s_callVN (idx := 55) zcX4 calX4_octetWithin virX4_octetWithin dscX4_octetWithin (by decide +kernel) (zNW2 126 rfl rfl) (by decide +kernel)
theorem iX6_readSignature_11 : zSnd zZC zmX6_readSignature 11 (o_pop 12) := s_pop (by decide +kernel)
theorem iX6_readSignature_12 : zSnd zZC zmX6_readSignature 12 (o_aload 0 13) := s_aload_n (k := 0) (by decide +kernel) rfl
theorem iX6_readSignature_13 : zSnd zZC zmX6_readSignature 13 (o_getf zYC 3 1 16) := s_getf zcX6 fX6_22 (by decide +kernel) (by decide +kernel)
theorem iX6_readSignature_16 : zSnd zZC zmX6_readSignature 16 (o_getf zYC 2 7 19) := s_getf zcX2 fX6_140 (by decide +kernel) (by decide +kernel)
theorem iX6_readSignature_19 : zSnd zZC zmX6_readSignature 19 (o_ic 1 20) := s_iconst (i := 1) (by decide +kernel) (by decide +kernel)
theorem iX6_readSignature_20 : zSnd zZC zmX6_readSignature 20 (o_ald zYC .int 21) := s_iald (by decide +kernel)
theorem iX6_readSignature_21 : zSnd zZC zmX6_readSignature 21 (o_istore 1 22) := s_istore_n (k := 1) (by decide +kernel) rfl (by decide +kernel)
theorem iX6_readSignature_22 : zSnd zZC zmX6_readSignature 22 (o_aload 0 23) := s_aload_n (k := 0) (by decide +kernel) rfl
theorem iX6_readSignature_23 : zSnd zZC zmX6_readSignature 23 (o_getf zYC 3 0 26) := s_getf zcX6 fX6_18 (by decide +kernel) (by decide +kernel)
theorem iX6_readSignature_26 : zSnd zZC zmX6_readSignature 26 (o_getf zYC 1 4 29) := s_getf zcX4 fX6_59 (by decide +kernel) (by decide +kernel)
theorem iX6_readSignature_29 : zSnd zZC zmX6_readSignature 29 (o_if0 (fun x => x = 0) 32 44) := s_if_ne (off := 15) (by decide +kernel) (by decide +kernel)
theorem iX6_readSignature_32 : zSnd zZC zmX6_readSignature 32 (o_iload 1 33) := s_iload_n (k := 1) (by decide +kernel) rfl
theorem iX6_readSignature_33 : zSnd zZC zmX6_readSignature 33 (o_aload 0 34) := s_aload_n (k := 0) (by decide +kernel) rfl
theorem iX6_readSignature_34 : zSnd zZC zmX6_readSignature 34 (o_getf zYC 3 1 37) := s_getf zcX6 fX6_22 (by decide +kernel) (by decide +kernel)
theorem iX6_readSignature_37 : zSnd zZC zmX6_readSignature 37 (o_getf zYC 2 2 40) := s_getf zcX2 fX6_152 (by decide +kernel) (by decide +kernel)
theorem iX6_readSignature_40 : zSnd zZC zmX6_readSignature 40 (o_alen zYC 41) := s_alen zYC_arr (by decide +kernel)
theorem iX6_readSignature_41 : zSnd zZC zmX6_readSignature 41 (o_icmp (fun x y => x < y) 45 44) := s_icmp_lt (off := 4) (by decide +kernel) (by decide +kernel)
theorem iX6_readSignature_44 : zSnd zZC zmX6_readSignature 44 (o_vret) := s_vret rfl (by decide +kernel)
theorem iX6_readSignature_45 : zSnd zZC zmX6_readSignature 45 (o_aload 0 46) := s_aload_n (k := 0) (by decide +kernel) rfl
theorem iX6_readSignature_46 : zSnd zZC zmX6_readSignature 46 (o_getf zYC 3 1 49) := s_getf zcX6 fX6_22 (by decide +kernel) (by decide +kernel)
theorem iX6_readSignature_49 : zSnd zZC zmX6_readSignature 49 (o_getf zYC 2 0 52) := s_getf zcX2 fX6_155 (by decide +kernel) (by decide +kernel)
theorem iX6_readSignature_52 : zSnd zZC zmX6_readSignature 52 (o_iload 1 53) := s_iload_n (k := 1) (by decide +kernel) rfl
theorem iX6_readSignature_53 : zSnd zZC zmX6_readSignature 53 (o_ic 0 54) := s_iconst (i := 0) (by decide +kernel) (by decide +kernel)
theorem iX6_readSignature_54 : zSnd zZC zmX6_readSignature 54 (o_ast zYC .int (fun x => x) 55) := s_iast (by decide +kernel)
theorem iX6_readSignature_55 : zSnd zZC zmX6_readSignature 55 (o_aload 0 56) := s_aload_n (k := 0) (by decide +kernel) rfl
theorem iX6_readSignature_56 : zSnd zZC zmX6_readSignature 56 (o_getf zYC 3 1 59) := s_getf zcX6 fX6_22 (by decide +kernel) (by decide +kernel)
theorem iX6_readSignature_59 : zSnd zZC zmX6_readSignature 59 (o_getf zYC 2 2 62) := s_getf zcX2 fX6_152 (by decide +kernel) (by decide +kernel)
theorem iX6_readSignature_62 : zSnd zZC zmX6_readSignature 62 (o_iload 1 63) := s_iload_n (k := 1) (by decide +kernel) rfl
theorem iX6_readSignature_63 : zSnd zZC zmX6_readSignature 63 (o_ic 64 65) := s_bipush (i := 64) (by decide +kernel) (by decide +kernel)
theorem iX6_readSignature_65 : zSnd zZC zmX6_readSignature 65 (o_ast zYC .int (fun x => x) 66) := s_iast (by decide +kernel)
theorem iX6_readSignature_66 : zSnd zZC zmX6_readSignature 66 (o_aload 0 67) := s_aload_n (k := 0) (by decide +kernel) rfl
theorem iX6_readSignature_67 : zSnd zZC zmX6_readSignature 67 (o_getf zYC 3 0 70) := s_getf zcX6 fX6_18 (by decide +kernel) (by decide +kernel)
set_option maxRecDepth 20000 in
theorem iX6_readSignature_70 : zSnd zZC zmX6_readSignature 70 (o_callV zZC 1 zmX4_rowLength 0 1 73) := s_callVN (idx := 83) zcX4 calX4_rowLength virX4_rowLength dscX4_rowLength (by decide +kernel) (zNW2 168 rfl rfl) (by decide +kernel)
theorem iX6_readSignature_73 : zSnd zZC zmX6_readSignature 73 (o_istore 2 74) := s_istore_n (k := 2) (by decide +kernel) rfl (by decide +kernel)
theorem iX6_readSignature_74 : zSnd zZC zmX6_readSignature 74 (o_ic 0 75) := s_iconst (i := 0) (by decide +kernel) (by decide +kernel)
theorem iX6_readSignature_75 : zSnd zZC zmX6_readSignature 75 (o_istore 3 76) := s_istore_n (k := 3) (by decide +kernel) rfl (by decide +kernel)
theorem iX6_readSignature_76 : zSnd zZC zmX6_readSignature 76 (o_iload 3 77) := s_iload_n (k := 3) (by decide +kernel) rfl
theorem iX6_readSignature_77 : zSnd zZC zmX6_readSignature 77 (o_iload 2 78) := s_iload_n (k := 2) (by decide +kernel) rfl
theorem iX6_readSignature_78 : zSnd zZC zmX6_readSignature 78 (o_icmp (fun x y => y ≤ x) 119 81) := s_icmp_ge (off := 41) (by decide +kernel) (by decide +kernel)
theorem iX6_readSignature_81 : zSnd zZC zmX6_readSignature 81 (o_aload 0 82) := s_aload_n (k := 0) (by decide +kernel) rfl
theorem iX6_readSignature_82 : zSnd zZC zmX6_readSignature 82 (o_getf zYC 3 0 85) := s_getf zcX6 fX6_18 (by decide +kernel) (by decide +kernel)
theorem iX6_readSignature_85 : zSnd zZC zmX6_readSignature 85 (o_getf zYC 1 4 88) := s_getf zcX4 fX6_59 (by decide +kernel) (by decide +kernel)
theorem iX6_readSignature_88 : zSnd zZC zmX6_readSignature 88 (o_if0 (fun x => x = 0) 91 119) := s_if_ne (off := 31) (by decide +kernel) (by decide +kernel)
theorem iX6_readSignature_91 : zSnd zZC zmX6_readSignature 91 (o_aload 0 92) := s_aload_n (k := 0) (by decide +kernel) rfl
theorem iX6_readSignature_92 : zSnd zZC zmX6_readSignature 92 (o_iload 3 93) := s_iload_n (k := 3) (by decide +kernel) rfl
theorem iX6_readSignature_93 : zSnd zZC zmX6_readSignature 93 (o_ic 16 95) := s_bipush (i := 16) (by decide +kernel) (by decide +kernel)
set_option maxRecDepth 20000 in
theorem iX6_readSignature_95 : zSnd zZC zmX6_readSignature 95 (o_callV zZC 3 zmX6_refuseBeyond 2 0 98) := s_callV (idx := 89) zcX6 calX6_refuseBeyond virX6_refuseBeyond dscX6_refuseBeyond (by decide +kernel) (zWS2 178 rfl rfl) (by decide +kernel)
theorem iX6_readSignature_98 : zSnd zZC zmX6_readSignature 98 (o_aload 0 99) := s_aload_n (k := 0) (by decide +kernel) rfl
theorem iX6_readSignature_99 : zSnd zZC zmX6_readSignature 99 (o_getf zYC 3 1 102) := s_getf zcX6 fX6_22 (by decide +kernel) (by decide +kernel)
theorem iX6_readSignature_102 : zSnd zZC zmX6_readSignature 102 (o_iload 3 103) := s_iload_n (k := 3) (by decide +kernel) rfl
theorem iX6_readSignature_103 : zSnd zZC zmX6_readSignature 103 (o_aload 0 104) := s_aload_n (k := 0) (by decide +kernel) rfl
theorem iX6_readSignature_104 : zSnd zZC zmX6_readSignature 104 (o_getf zYC 3 0 107) := s_getf zcX6 fX6_18 (by decide +kernel) (by decide +kernel)
set_option maxRecDepth 20000 in
theorem iX6_readSignature_107 : zSnd zZC zmX6_readSignature 107 (o_callV zZC 1 zmX4_type 0 1 110) := s_callVN (idx := 158) zcX4 calX4_type virX4_type dscX4_type (by decide +kernel) (zNW2 186 rfl rfl) (by decide +kernel)
set_option maxRecDepth 20000 in
theorem iX6_readSignature_110 : zSnd zZC zmX6_readSignature 110 (o_callV zZC 2 zmX2_addParameter 2 0 113) := s_callVN (idx := 161) zcX2 calX2_addParameter virX2_addParameter dscX2_addParameter (by decide +kernel) (zNW2 191 rfl rfl) (by decide +kernel)
theorem iX6_readSignature_113 : zSnd zZC zmX6_readSignature 113 (o_iinc 3 1 116) := s_iinc (a := 1) (by decide +kernel) (by decide +kernel) (by decide +kernel)
theorem iX6_readSignature_116 : zSnd zZC zmX6_readSignature 116 (o_goto 76) := s_goto (off := (-40)) (by decide +kernel) (by decide +kernel)
theorem iX6_readSignature_119 : zSnd zZC zmX6_readSignature 119 (o_aload 0 120) := s_aload_n (k := 0) (by decide +kernel) rfl
theorem iX6_readSignature_120 : zSnd zZC zmX6_readSignature 120 (o_getf zYC 3 0 123) := s_getf zcX6 fX6_18 (by decide +kernel) (by decide +kernel)
set_option maxRecDepth 20000 in
theorem iX6_readSignature_123 : zSnd zZC zmX6_readSignature 123 (o_callV zZC 1 zmX4_rowLength 0 1 126) := s_callVN (idx := 83) zcX4 calX4_rowLength virX4_rowLength dscX4_rowLength (by decide +kernel) (zNW2 168 rfl rfl) (by decide +kernel)
theorem iX6_readSignature_126 : zSnd zZC zmX6_readSignature 126 (o_istore 3 127) := s_istore_n (k := 3) (by decide +kernel) rfl (by decide +kernel)
theorem iX6_readSignature_127 : zSnd zZC zmX6_readSignature 127 (o_ic 0 128) := s_iconst (i := 0) (by decide +kernel) (by decide +kernel)
theorem iX6_readSignature_128 : zSnd zZC zmX6_readSignature 128 (o_istore 4 130) := s_istore (by decide +kernel) (by decide +kernel)
theorem iX6_readSignature_130 : zSnd zZC zmX6_readSignature 130 (o_iload 4 132) := s_iload (by decide +kernel)
theorem iX6_readSignature_132 : zSnd zZC zmX6_readSignature 132 (o_iload 3 133) := s_iload_n (k := 3) (by decide +kernel) rfl
theorem iX6_readSignature_133 : zSnd zZC zmX6_readSignature 133 (o_icmp (fun x y => y ≤ x) 175 136) := s_icmp_ge (off := 42) (by decide +kernel) (by decide +kernel)
theorem iX6_readSignature_136 : zSnd zZC zmX6_readSignature 136 (o_aload 0 137) := s_aload_n (k := 0) (by decide +kernel) rfl
theorem iX6_readSignature_137 : zSnd zZC zmX6_readSignature 137 (o_getf zYC 3 0 140) := s_getf zcX6 fX6_18 (by decide +kernel) (by decide +kernel)
theorem iX6_readSignature_140 : zSnd zZC zmX6_readSignature 140 (o_getf zYC 1 4 143) := s_getf zcX4 fX6_59 (by decide +kernel) (by decide +kernel)
theorem iX6_readSignature_143 : zSnd zZC zmX6_readSignature 143 (o_if0 (fun x => x = 0) 146 175) := s_if_ne (off := 32) (by decide +kernel) (by decide +kernel)
theorem iX6_readSignature_146 : zSnd zZC zmX6_readSignature 146 (o_aload 0 147) := s_aload_n (k := 0) (by decide +kernel) rfl
theorem iX6_readSignature_147 : zSnd zZC zmX6_readSignature 147 (o_iload 4 149) := s_iload (by decide +kernel)
theorem iX6_readSignature_149 : zSnd zZC zmX6_readSignature 149 (o_ic 1 150) := s_iconst (i := 1) (by decide +kernel) (by decide +kernel)
set_option maxRecDepth 20000 in
theorem iX6_readSignature_150 : zSnd zZC zmX6_readSignature 150 (o_callV zZC 3 zmX6_refuseBeyond 2 0 153) := s_callV (idx := 89) zcX6 calX6_refuseBeyond virX6_refuseBeyond dscX6_refuseBeyond (by decide +kernel) (zWS2 178 rfl rfl) (by decide +kernel)
theorem iX6_readSignature_153 : zSnd zZC zmX6_readSignature 153 (o_aload 0 154) := s_aload_n (k := 0) (by decide +kernel) rfl
theorem iX6_readSignature_154 : zSnd zZC zmX6_readSignature 154 (o_getf zYC 3 1 157) := s_getf zcX6 fX6_22 (by decide +kernel) (by decide +kernel)
theorem iX6_readSignature_157 : zSnd zZC zmX6_readSignature 157 (o_getf zYC 2 2 160) := s_getf zcX2 fX6_152 (by decide +kernel) (by decide +kernel)
theorem iX6_readSignature_160 : zSnd zZC zmX6_readSignature 160 (o_iload 1 161) := s_iload_n (k := 1) (by decide +kernel) rfl
theorem iX6_readSignature_161 : zSnd zZC zmX6_readSignature 161 (o_aload 0 162) := s_aload_n (k := 0) (by decide +kernel) rfl
theorem iX6_readSignature_162 : zSnd zZC zmX6_readSignature 162 (o_getf zYC 3 0 165) := s_getf zcX6 fX6_18 (by decide +kernel) (by decide +kernel)
set_option maxRecDepth 20000 in
theorem iX6_readSignature_165 : zSnd zZC zmX6_readSignature 165 (o_callV zZC 1 zmX4_type 0 1 168) := s_callVN (idx := 158) zcX4 calX4_type virX4_type dscX4_type (by decide +kernel) (zNW2 186 rfl rfl) (by decide +kernel)
theorem iX6_readSignature_168 : zSnd zZC zmX6_readSignature 168 (o_ast zYC .int (fun x => x) 169) := s_iast (by decide +kernel)
theorem iX6_readSignature_169 : zSnd zZC zmX6_readSignature 169 (o_iinc 4 1 172) := s_iinc (a := 1) (by decide +kernel) (by decide +kernel) (by decide +kernel)
theorem iX6_readSignature_172 : zSnd zZC zmX6_readSignature 172 (o_goto 130) := s_goto (off := (-42)) (by decide +kernel) (by decide +kernel)
theorem iX6_readSignature_175 : zSnd zZC zmX6_readSignature 175 (o_vret) := s_vret rfl (by decide +kernel)
def kX6_readSignature : List (Nat × zOp) := [(0, o_aload 0 1),
  (1, o_getf zYC 3 0 4),
  (4, o_ic 96 6),
  (6, o_ic 96 8),
  (8, o_callV zZC 1 zmX4_octetWithin 2 1 11),
  (11, o_pop 12),
  (12, o_aload 0 13),
  (13, o_getf zYC 3 1 16),
  (16, o_getf zYC 2 7 19),
  (19, o_ic 1 20),
  (20, o_ald zYC .int 21),
  (21, o_istore 1 22),
  (22, o_aload 0 23),
  (23, o_getf zYC 3 0 26),
  (26, o_getf zYC 1 4 29),
  (29, o_if0 (fun x => x = 0) 32 44),
  (32, o_iload 1 33),
  (33, o_aload 0 34),
  (34, o_getf zYC 3 1 37),
  (37, o_getf zYC 2 2 40),
  (40, o_alen zYC 41),
  (41, o_icmp (fun x y => x < y) 45 44),
  (44, o_vret),
  (45, o_aload 0 46),
  (46, o_getf zYC 3 1 49),
  (49, o_getf zYC 2 0 52),
  (52, o_iload 1 53),
  (53, o_ic 0 54),
  (54, o_ast zYC .int (fun x => x) 55),
  (55, o_aload 0 56),
  (56, o_getf zYC 3 1 59),
  (59, o_getf zYC 2 2 62),
  (62, o_iload 1 63),
  (63, o_ic 64 65),
  (65, o_ast zYC .int (fun x => x) 66),
  (66, o_aload 0 67),
  (67, o_getf zYC 3 0 70),
  (70, o_callV zZC 1 zmX4_rowLength 0 1 73),
  (73, o_istore 2 74),
  (74, o_ic 0 75),
  (75, o_istore 3 76),
  (76, o_iload 3 77),
  (77, o_iload 2 78),
  (78, o_icmp (fun x y => y ≤ x) 119 81),
  (81, o_aload 0 82),
  (82, o_getf zYC 3 0 85),
  (85, o_getf zYC 1 4 88),
  (88, o_if0 (fun x => x = 0) 91 119),
  (91, o_aload 0 92),
  (92, o_iload 3 93),
  (93, o_ic 16 95),
  (95, o_callV zZC 3 zmX6_refuseBeyond 2 0 98),
  (98, o_aload 0 99),
  (99, o_getf zYC 3 1 102),
  (102, o_iload 3 103),
  (103, o_aload 0 104),
  (104, o_getf zYC 3 0 107),
  (107, o_callV zZC 1 zmX4_type 0 1 110),
  (110, o_callV zZC 2 zmX2_addParameter 2 0 113),
  (113, o_iinc 3 1 116),
  (116, o_goto 76),
  (119, o_aload 0 120),
  (120, o_getf zYC 3 0 123),
  (123, o_callV zZC 1 zmX4_rowLength 0 1 126),
  (126, o_istore 3 127),
  (127, o_ic 0 128),
  (128, o_istore 4 130),
  (130, o_iload 4 132),
  (132, o_iload 3 133),
  (133, o_icmp (fun x y => y ≤ x) 175 136),
  (136, o_aload 0 137),
  (137, o_getf zYC 3 0 140),
  (140, o_getf zYC 1 4 143),
  (143, o_if0 (fun x => x = 0) 146 175),
  (146, o_aload 0 147),
  (147, o_iload 4 149),
  (149, o_ic 1 150),
  (150, o_callV zZC 3 zmX6_refuseBeyond 2 0 153),
  (153, o_aload 0 154),
  (154, o_getf zYC 3 1 157),
  (157, o_getf zYC 2 2 160),
  (160, o_iload 1 161),
  (161, o_aload 0 162),
  (162, o_getf zYC 3 0 165),
  (165, o_callV zZC 1 zmX4_type 0 1 168),
  (168, o_ast zYC .int (fun x => x) 169),
  (169, o_iinc 4 1 172),
  (172, o_goto 130),
  (175, o_vret)]
set_option maxRecDepth 100000 in
theorem ksX6_readSignature : ∀ q ∈ kX6_readSignature, zSnd zZC zmX6_readSignature q.1 q.2 := zcc iX6_readSignature_0 (zcc iX6_readSignature_1 (zcc iX6_readSignature_4 (zcc iX6_readSignature_6 (zcc iX6_readSignature_8 (zcc iX6_readSignature_11 (zcc iX6_readSignature_12 (zcc iX6_readSignature_13 (zcc iX6_readSignature_16 (zcc iX6_readSignature_19 (zcc iX6_readSignature_20 (zcc iX6_readSignature_21 (zcc iX6_readSignature_22 (zcc iX6_readSignature_23 (zcc iX6_readSignature_26 (zcc iX6_readSignature_29 (zcc iX6_readSignature_32 (zcc iX6_readSignature_33 (zcc iX6_readSignature_34 (zcc iX6_readSignature_37 (zcc iX6_readSignature_40 (zcc iX6_readSignature_41 (zcc iX6_readSignature_44 (zcc iX6_readSignature_45 (zcc iX6_readSignature_46 (zcc iX6_readSignature_49 (zcc iX6_readSignature_52 (zcc iX6_readSignature_53 (zcc iX6_readSignature_54 (zcc iX6_readSignature_55 (zcc iX6_readSignature_56 (zcc iX6_readSignature_59 (zcc iX6_readSignature_62 (zcc iX6_readSignature_63 (zcc iX6_readSignature_65 (zcc iX6_readSignature_66 (zcc iX6_readSignature_67 (zcc iX6_readSignature_70 (zcc iX6_readSignature_73 (zcc iX6_readSignature_74 (zcc iX6_readSignature_75 (zcc iX6_readSignature_76 (zcc iX6_readSignature_77 (zcc iX6_readSignature_78 (zcc iX6_readSignature_81 (zcc iX6_readSignature_82 (zcc iX6_readSignature_85 (zcc iX6_readSignature_88 (zcc iX6_readSignature_91 (zcc iX6_readSignature_92 (zcc iX6_readSignature_93 (zcc iX6_readSignature_95 (zcc iX6_readSignature_98 (zcc iX6_readSignature_99 (zcc iX6_readSignature_102 (zcc iX6_readSignature_103 (zcc iX6_readSignature_104 (zcc iX6_readSignature_107 (zcc iX6_readSignature_110 (zcc iX6_readSignature_113 (zcc iX6_readSignature_116 (zcc iX6_readSignature_119 (zcc iX6_readSignature_120 (zcc iX6_readSignature_123 (zcc iX6_readSignature_126 (zcc iX6_readSignature_127 (zcc iX6_readSignature_128 (zcc iX6_readSignature_130 (zcc iX6_readSignature_132 (zcc iX6_readSignature_133 (zcc iX6_readSignature_136 (zcc iX6_readSignature_137 (zcc iX6_readSignature_140 (zcc iX6_readSignature_143 (zcc iX6_readSignature_146 (zcc iX6_readSignature_147 (zcc iX6_readSignature_149 (zcc iX6_readSignature_150 (zcc iX6_readSignature_153 (zcc iX6_readSignature_154 (zcc iX6_readSignature_157 (zcc iX6_readSignature_160 (zcc iX6_readSignature_161 (zcc iX6_readSignature_162 (zcc iX6_readSignature_165 (zcc iX6_readSignature_168 (zcc iX6_readSignature_169 (zcc iX6_readSignature_172 (zcc iX6_readSignature_175 zcn))))))))))))))))))))))))))))))))))))))))))))))))))))))))))))))))))))))))))))))))))))))))
theorem iX6_readTable_0 : zSnd zZC zmX6_readTable 0 (o_aload 0 1) := s_aload_n (k := 0) (by decide +kernel) rfl
theorem iX6_readTable_1 : zSnd zZC zmX6_readTable 1 (o_aload 0 2) := s_aload_n (k := 0) (by decide +kernel) rfl
theorem iX6_readTable_2 : zSnd zZC zmX6_readTable 2 (o_getf zYC 3 0 5) := s_getf zcX6 fX6_18 (by decide +kernel) (by decide +kernel)
theorem iX6_readTable_5 : zSnd zZC zmX6_readTable 5 (o_getf zYC 1 2 8) := s_getf zcX4 fX6_62 (by decide +kernel) (by decide +kernel)
set_option maxRecDepth 20000 in
theorem iX6_readTable_8 : zSnd zZC zmX6_readTable 8 (o_callV zZC 3 zmX6_addTable 1 0 11) := s_callV (idx := 174) zcX6 calX6_addTable virX6_addTable dscX6_addTable (by decide +kernel) (zWS2 226 rfl rfl) (by decide +kernel)
theorem iX6_readTable_11 : zSnd zZC zmX6_readTable 11 (o_aload 0 12) := s_aload_n (k := 0) (by decide +kernel) rfl
theorem iX6_readTable_12 : zSnd zZC zmX6_readTable 12 (o_getf zYC 3 0 15) := s_getf zcX6 fX6_18 (by decide +kernel) (by decide +kernel)
theorem iX6_readTable_15 : zSnd zZC zmX6_readTable 15 (o_ic 112 17) := s_bipush (i := 112) (by decide +kernel) (by decide +kernel)
theorem iX6_readTable_17 : zSnd zZC zmX6_readTable 17 (o_ic 112 19) := s_bipush (i := 112) (by decide +kernel) (by decide +kernel)
set_option maxRecDepth 20000 in
theorem iX6_readTable_19 : zSnd zZC zmX6_readTable 19 (o_callV zZC 1 zmX4_octetWithin 2 1 22) := s_callVN (idx := 55) zcX4 calX4_octetWithin virX4_octetWithin dscX4_octetWithin (by decide +kernel) (zNW2 126 rfl rfl) (by decide +kernel)
theorem iX6_readTable_22 : zSnd zZC zmX6_readTable 22 (o_pop 23) := s_pop (by decide +kernel)
theorem iX6_readTable_23 : zSnd zZC zmX6_readTable 23 (o_aload 0 24) := s_aload_n (k := 0) (by decide +kernel) rfl
theorem iX6_readTable_24 : zSnd zZC zmX6_readTable 24 (o_ic 3 25) := s_iconst (i := 3) (by decide +kernel) (by decide +kernel)
theorem iX6_readTable_25 : zSnd zZC zmX6_readTable 25 (o_ic 0 26) := s_iconst (i := 0) (by decide +kernel) (by decide +kernel)
set_option maxRecDepth 20000 in
theorem iX6_readTable_26 : zSnd zZC zmX6_readTable 26 (o_callV zZC 3 zmX6_readLimits 2 0 29) := s_callV (idx := 170) zcX6 calX6_readLimits virX6_readLimits dscX6_readLimits (by decide +kernel) (zWS2 221 rfl rfl) (by decide +kernel)
theorem iX6_readTable_29 : zSnd zZC zmX6_readTable 29 (o_vret) := s_vret rfl (by decide +kernel)
def kX6_readTable : List (Nat × zOp) := [(0, o_aload 0 1),
  (1, o_aload 0 2),
  (2, o_getf zYC 3 0 5),
  (5, o_getf zYC 1 2 8),
  (8, o_callV zZC 3 zmX6_addTable 1 0 11),
  (11, o_aload 0 12),
  (12, o_getf zYC 3 0 15),
  (15, o_ic 112 17),
  (17, o_ic 112 19),
  (19, o_callV zZC 1 zmX4_octetWithin 2 1 22),
  (22, o_pop 23),
  (23, o_aload 0 24),
  (24, o_ic 3 25),
  (25, o_ic 0 26),
  (26, o_callV zZC 3 zmX6_readLimits 2 0 29),
  (29, o_vret)]
set_option maxRecDepth 100000 in
theorem ksX6_readTable : ∀ q ∈ kX6_readTable, zSnd zZC zmX6_readTable q.1 q.2 := zcc iX6_readTable_0 (zcc iX6_readTable_1 (zcc iX6_readTable_2 (zcc iX6_readTable_5 (zcc iX6_readTable_8 (zcc iX6_readTable_11 (zcc iX6_readTable_12 (zcc iX6_readTable_15 (zcc iX6_readTable_17 (zcc iX6_readTable_19 (zcc iX6_readTable_22 (zcc iX6_readTable_23 (zcc iX6_readTable_24 (zcc iX6_readTable_25 (zcc iX6_readTable_26 (zcc iX6_readTable_29 zcn)))))))))))))))
theorem iX1_readInstruction_0 : zSnd zZC zmX1_readInstruction 0 (o_aload 0 1) := s_aload_n (k := 0) (by decide +kernel) rfl
theorem iX1_readInstruction_1 : zSnd zZC zmX1_readInstruction 1 (o_getf zYC 4 3 4) := s_getf zcX1 fX1_21 (by decide +kernel) (by decide +kernel)
theorem iX1_readInstruction_4 : zSnd zZC zmX1_readInstruction 4 (o_aload 0 5) := s_aload_n (k := 0) (by decide +kernel) rfl
theorem iX1_readInstruction_5 : zSnd zZC zmX1_readInstruction 5 (o_getf zYC 4 0 8) := s_getf zcX1 fX1_25 (by decide +kernel) (by decide +kernel)
set_option maxRecDepth 20000 in
theorem iX1_readInstruction_8 : zSnd zZC zmX1_readInstruction 8 (o_callV zZC 6 zmX5_readNumber 1 0 11) := s_callVN (idx := 121) zcX5 calX5_readNumber virX5_readNumber dscX5_readNumber (by decide +kernel) (zNW3 117 rfl rfl) (by decide +kernel)
theorem iX1_readInstruction_11 : zSnd zZC zmX1_readInstruction 11 (o_aload 0 12) := s_aload_n (k := 0) (by decide +kernel) rfl
set_option maxRecDepth 20000 in
theorem iX1_readInstruction_12 : zSnd zZC zmX1_readInstruction 12 (o_callV zZC 4 zmX1_lookWhereItStands 0 0 15) := s_callV (idx := 125) zcX1 calX1_lookWhereItStands virX1_lookWhereItStands dscX1_lookWhereItStands (by decide +kernel) (zWS3 131 rfl rfl) (by decide +kernel)
theorem iX1_readInstruction_15 : zSnd zZC zmX1_readInstruction 15 (o_aload 0 16) := s_aload_n (k := 0) (by decide +kernel) rfl
theorem iX1_readInstruction_16 : zSnd zZC zmX1_readInstruction 16 (o_getf zYC 4 3 19) := s_getf zcX1 fX1_21 (by decide +kernel) (by decide +kernel)
theorem iX1_readInstruction_19 : zSnd zZC zmX1_readInstruction 19 (o_getf zYC 6 3 22) := s_getf zcX5 fX1_128 (by decide +kernel) (by decide +kernel)
theorem iX1_readInstruction_22 : zSnd zZC zmX1_readInstruction 22 (o_ic 14 24) := s_bipush (i := 14) (by decide +kernel) (by decide +kernel)
theorem iX1_readInstruction_24 : zSnd zZC zmX1_readInstruction 24 (o_icmp (fun x y => x = y) 27 41) := s_icmp_ne (off := 17) (by decide +kernel) (by decide +kernel)
theorem iX1_readInstruction_27 : zSnd zZC zmX1_readInstruction 27 (o_aload 0 28) := s_aload_n (k := 0) (by decide +kernel) rfl
theorem iX1_readInstruction_28 : zSnd zZC zmX1_readInstruction 28 (o_getf zYC 4 3 31) := s_getf zcX1 fX1_21 (by decide +kernel) (by decide +kernel)
theorem iX1_readInstruction_31 : zSnd zZC zmX1_readInstruction 31 (o_aload 0 32) := s_aload_n (k := 0) (by decide +kernel) rfl
theorem iX1_readInstruction_32 : zSnd zZC zmX1_readInstruction 32 (o_getf zYC 4 0 35) := s_getf zcX1 fX1_25 (by decide +kernel) (by decide +kernel)
set_option maxRecDepth 20000 in
theorem iX1_readInstruction_35 : zSnd zZC zmX1_readInstruction 35 (o_callV zZC 6 zmX5_readLabels 1 0 38) := s_callVN (idx := 130) zcX5 calX5_readLabels virX5_readLabels dscX5_readLabels (by decide +kernel) (zNW3 139 rfl rfl) (by decide +kernel)
theorem iX1_readInstruction_38 : zSnd zZC zmX1_readInstruction 38 (o_goto 52) := s_goto (off := 14) (by decide +kernel) (by decide +kernel)
theorem iX1_readInstruction_41 : zSnd zZC zmX1_readInstruction 41 (o_aload 0 42) := s_aload_n (k := 0) (by decide +kernel) rfl
theorem iX1_readInstruction_42 : zSnd zZC zmX1_readInstruction 42 (o_getf zYC 4 3 45) := s_getf zcX1 fX1_21 (by decide +kernel) (by decide +kernel)
theorem iX1_readInstruction_45 : zSnd zZC zmX1_readInstruction 45 (o_aload 0 46) := s_aload_n (k := 0) (by decide +kernel) rfl
theorem iX1_readInstruction_46 : zSnd zZC zmX1_readInstruction 46 (o_getf zYC 4 0 49) := s_getf zcX1 fX1_25 (by decide +kernel) (by decide +kernel)
set_option maxRecDepth 20000 in
theorem iX1_readInstruction_49 : zSnd zZC zmX1_readInstruction 49 (o_callV zZC 6 zmX5_readArguments 1 0 52) := s_callVN (idx := 133) zcX5 calX5_readArguments virX5_readArguments dscX5_readArguments (by decide +kernel) (zNW3 144 rfl rfl) (by decide +kernel)
theorem iX1_readInstruction_52 : zSnd zZC zmX1_readInstruction 52 (o_aload 0 53) := s_aload_n (k := 0) (by decide +kernel) rfl
theorem iX1_readInstruction_53 : zSnd zZC zmX1_readInstruction 53 (o_getf zYC 4 0 56) := s_getf zcX1 fX1_25 (by decide +kernel) (by decide +kernel)
theorem iX1_readInstruction_56 : zSnd zZC zmX1_readInstruction 56 (o_getf zYC 1 4 59) := s_getf zcX4 fX1_88 (by decide +kernel) (by decide +kernel)
theorem iX1_readInstruction_59 : zSnd zZC zmX1_readInstruction 59 (o_if0 (fun x => x = 0) 63 62) := s_if_eq (off := 4) (by decide +kernel) (by decide +kernel)
theorem iX1_readInstruction_62 : zSnd zZC zmX1_readInstruction 62 (o_vret) := s_vret rfl (by decide +kernel)
theorem iX1_readInstruction_63 : zSnd zZC zmX1_readInstruction 63 (o_aload 0 64) := s_aload_n (k := 0) (by decide +kernel) rfl
theorem iX1_readInstruction_64 : zSnd zZC zmX1_readInstruction 64 (o_getf zYC 4 5 67) := s_getf zcX1 fX1_33 (by decide +kernel) (by decide +kernel)
theorem iX1_readInstruction_67 : zSnd zZC zmX1_readInstruction 67 (o_aload 0 68) := s_aload_n (k := 0) (by decide +kernel) rfl
theorem iX1_readInstruction_68 : zSnd zZC zmX1_readInstruction 68 (o_getf zYC 4 3 71) := s_getf zcX1 fX1_21 (by decide +kernel) (by decide +kernel)
theorem iX1_readInstruction_71 : zSnd zZC zmX1_readInstruction 71 (o_getf zYC 6 3 74) := s_getf zcX5 fX1_128 (by decide +kernel) (by decide +kernel)
set_option maxRecDepth 20000 in
theorem iX1_readInstruction_74 : zSnd zZC zmX1_readInstruction 74 (o_callV zZC 8 zmX0_addCode 1 0 77) := s_callVN (idx := 136) zcX0 calX0_addCode virX0_addCode dscX0_addCode (by decide +kernel) (zNW3 154 rfl rfl) (by decide +kernel)
theorem iX1_readInstruction_77 : zSnd zZC zmX1_readInstruction 77 (o_aload 0 78) := s_aload_n (k := 0) (by decide +kernel) rfl
theorem iX1_readInstruction_78 : zSnd zZC zmX1_readInstruction 78 (o_getf zYC 4 6 81) := s_getf zcX1 fX1_52 (by decide +kernel) (by decide +kernel)
theorem iX1_readInstruction_81 : zSnd zZC zmX1_readInstruction 81 (o_if0 (fun x => x = 0) 119 84) := s_if_eq (off := 38) (by decide +kernel) (by decide +kernel)
theorem iX1_readInstruction_84 : zSnd zZC zmX1_readInstruction 84 (o_aload 0 85) := s_aload_n (k := 0) (by decide +kernel) rfl
theorem iX1_readInstruction_85 : zSnd zZC zmX1_readInstruction 85 (o_getf zYC 4 4 88) := s_getf zcX1 fX1_42 (by decide +kernel) (by decide +kernel)
theorem iX1_readInstruction_88 : zSnd zZC zmX1_readInstruction 88 (o_aload 0 89) := s_aload_n (k := 0) (by decide +kernel) rfl
theorem iX1_readInstruction_89 : zSnd zZC zmX1_readInstruction 89 (o_getf zYC 4 3 92) := s_getf zcX1 fX1_21 (by decide +kernel) (by decide +kernel)
set_option maxRecDepth 20000 in
theorem iX1_readInstruction_92 : zSnd zZC zmX1_readInstruction 92 (o_callV zZC 7 zmX7_isRight 1 1 95) := s_callVN (idx := 139) zcX7 calX7_isRight virX7_isRight dscX7_isRight (by decide +kernel) (zNW3 158 rfl rfl) (by decide +kernel)
theorem iX1_readInstruction_95 : zSnd zZC zmX1_readInstruction 95 (o_if0 (fun x => x = 0) 98 119) := s_if_ne (off := 24) (by decide +kernel) (by decide +kernel)
theorem iX1_readInstruction_98 : zSnd zZC zmX1_readInstruction 98 (o_aload 0 99) := s_aload_n (k := 0) (by decide +kernel) rfl
theorem iX1_readInstruction_99 : zSnd zZC zmX1_readInstruction 99 (o_getf zYC 4 1 102) := s_getf zcX1 fX1_29 (by decide +kernel) (by decide +kernel)
theorem iX1_readInstruction_102 : zSnd zZC zmX1_readInstruction 102 (o_ic 15 104) := s_bipush (i := 15) (by decide +kernel) (by decide +kernel)
theorem iX1_readInstruction_104 : zSnd zZC zmX1_readInstruction 104 (o_aload 0 105) := s_aload_n (k := 0) (by decide +kernel) rfl
theorem iX1_readInstruction_105 : zSnd zZC zmX1_readInstruction 105 (o_getf zYC 4 3 108) := s_getf zcX1 fX1_21 (by decide +kernel) (by decide +kernel)
theorem iX1_readInstruction_108 : zSnd zZC zmX1_readInstruction 108 (o_getf zYC 6 2 111) := s_getf zcX5 fX1_143 (by decide +kernel) (by decide +kernel)
set_option maxRecDepth 20000 in
theorem iX1_readInstruction_111 : zSnd zZC zmX1_readInstruction 111 (o_callV zZC 2 zmX2_noteWrong 2 0 114) := s_callVN (idx := 146) zcX2 calX2_noteWrong virX2_noteWrong dscX2_noteWrong (by decide +kernel) (zNW4 13 rfl rfl) (by decide +kernel)
theorem iX1_readInstruction_114 : zSnd zZC zmX1_readInstruction 114 (o_aload 0 115) := s_aload_n (k := 0) (by decide +kernel) rfl
theorem iX1_readInstruction_115 : zSnd zZC zmX1_readInstruction 115 (o_ic 0 116) := s_iconst (i := 0) (by decide +kernel) (by decide +kernel)
theorem iX1_readInstruction_116 : zSnd zZC zmX1_readInstruction 116 (o_putZ zYC 4 6 119) := s_putZ zcX1 fX1_52 (by decide +kernel) rfl rfl (by decide +kernel)
theorem iX1_readInstruction_119 : zSnd zZC zmX1_readInstruction 119 (o_aload 0 120) := s_aload_n (k := 0) (by decide +kernel) rfl
set_option maxRecDepth 20000 in
theorem iX1_readInstruction_120 : zSnd zZC zmX1_readInstruction 120 (o_callV zZC 4 zmX1_turnFrames 0 0 123) := s_callV (idx := 149) zcX1 calX1_turnFrames virX1_turnFrames dscX1_turnFrames (by decide +kernel) (zWS4 14 rfl rfl) (by decide +kernel)
theorem iX1_readInstruction_123 : zSnd zZC zmX1_readInstruction 123 (o_vret) := s_vret rfl (by decide +kernel)
def kX1_readInstruction : List (Nat × zOp) := [(0, o_aload 0 1),
  (1, o_getf zYC 4 3 4),
  (4, o_aload 0 5),
  (5, o_getf zYC 4 0 8),
  (8, o_callV zZC 6 zmX5_readNumber 1 0 11),
  (11, o_aload 0 12),
  (12, o_callV zZC 4 zmX1_lookWhereItStands 0 0 15),
  (15, o_aload 0 16),
  (16, o_getf zYC 4 3 19),
  (19, o_getf zYC 6 3 22),
  (22, o_ic 14 24),
  (24, o_icmp (fun x y => x = y) 27 41),
  (27, o_aload 0 28),
  (28, o_getf zYC 4 3 31),
  (31, o_aload 0 32),
  (32, o_getf zYC 4 0 35),
  (35, o_callV zZC 6 zmX5_readLabels 1 0 38),
  (38, o_goto 52),
  (41, o_aload 0 42),
  (42, o_getf zYC 4 3 45),
  (45, o_aload 0 46),
  (46, o_getf zYC 4 0 49),
  (49, o_callV zZC 6 zmX5_readArguments 1 0 52),
  (52, o_aload 0 53),
  (53, o_getf zYC 4 0 56),
  (56, o_getf zYC 1 4 59),
  (59, o_if0 (fun x => x = 0) 63 62),
  (62, o_vret),
  (63, o_aload 0 64),
  (64, o_getf zYC 4 5 67),
  (67, o_aload 0 68),
  (68, o_getf zYC 4 3 71),
  (71, o_getf zYC 6 3 74),
  (74, o_callV zZC 8 zmX0_addCode 1 0 77),
  (77, o_aload 0 78),
  (78, o_getf zYC 4 6 81),
  (81, o_if0 (fun x => x = 0) 119 84),
  (84, o_aload 0 85),
  (85, o_getf zYC 4 4 88),
  (88, o_aload 0 89),
  (89, o_getf zYC 4 3 92),
  (92, o_callV zZC 7 zmX7_isRight 1 1 95),
  (95, o_if0 (fun x => x = 0) 98 119),
  (98, o_aload 0 99),
  (99, o_getf zYC 4 1 102),
  (102, o_ic 15 104),
  (104, o_aload 0 105),
  (105, o_getf zYC 4 3 108),
  (108, o_getf zYC 6 2 111),
  (111, o_callV zZC 2 zmX2_noteWrong 2 0 114),
  (114, o_aload 0 115),
  (115, o_ic 0 116),
  (116, o_putZ zYC 4 6 119),
  (119, o_aload 0 120),
  (120, o_callV zZC 4 zmX1_turnFrames 0 0 123),
  (123, o_vret)]
set_option maxRecDepth 100000 in
theorem ksX1_readInstruction : ∀ q ∈ kX1_readInstruction, zSnd zZC zmX1_readInstruction q.1 q.2 := zcc iX1_readInstruction_0 (zcc iX1_readInstruction_1 (zcc iX1_readInstruction_4 (zcc iX1_readInstruction_5 (zcc iX1_readInstruction_8 (zcc iX1_readInstruction_11 (zcc iX1_readInstruction_12 (zcc iX1_readInstruction_15 (zcc iX1_readInstruction_16 (zcc iX1_readInstruction_19 (zcc iX1_readInstruction_22 (zcc iX1_readInstruction_24 (zcc iX1_readInstruction_27 (zcc iX1_readInstruction_28 (zcc iX1_readInstruction_31 (zcc iX1_readInstruction_32 (zcc iX1_readInstruction_35 (zcc iX1_readInstruction_38 (zcc iX1_readInstruction_41 (zcc iX1_readInstruction_42 (zcc iX1_readInstruction_45 (zcc iX1_readInstruction_46 (zcc iX1_readInstruction_49 (zcc iX1_readInstruction_52 (zcc iX1_readInstruction_53 (zcc iX1_readInstruction_56 (zcc iX1_readInstruction_59 (zcc iX1_readInstruction_62 (zcc iX1_readInstruction_63 (zcc iX1_readInstruction_64 (zcc iX1_readInstruction_67 (zcc iX1_readInstruction_68 (zcc iX1_readInstruction_71 (zcc iX1_readInstruction_74 (zcc iX1_readInstruction_77 (zcc iX1_readInstruction_78 (zcc iX1_readInstruction_81 (zcc iX1_readInstruction_84 (zcc iX1_readInstruction_85 (zcc iX1_readInstruction_88 (zcc iX1_readInstruction_89 (zcc iX1_readInstruction_92 (zcc iX1_readInstruction_95 (zcc iX1_readInstruction_98 (zcc iX1_readInstruction_99 (zcc iX1_readInstruction_102 (zcc iX1_readInstruction_104 (zcc iX1_readInstruction_105 (zcc iX1_readInstruction_108 (zcc iX1_readInstruction_111 (zcc iX1_readInstruction_114 (zcc iX1_readInstruction_115 (zcc iX1_readInstruction_116 (zcc iX1_readInstruction_119 (zcc iX1_readInstruction_120 (zcc iX1_readInstruction_123 zcn)))))))))))))))))))))))))))))))))))))))))))))))))))))))
theorem iX6_readElement_0 : zSnd zZC zmX6_readElement 0 (o_aload 0 1) := s_aload_n (k := 0) (by decide +kernel) rfl
theorem iX6_readElement_1 : zSnd zZC zmX6_readElement 1 (o_getf zYC 3 0 4) := s_getf zcX6 fX6_18 (by decide +kernel) (by decide +kernel)
theorem iX6_readElement_4 : zSnd zZC zmX6_readElement 4 (o_getf zYC 1 2 7) := s_getf zcX4 fX6_62 (by decide +kernel) (by decide +kernel)
theorem iX6_readElement_7 : zSnd zZC zmX6_readElement 7 (o_istore 1 8) := s_istore_n (k := 1) (by decide +kernel) rfl (by decide +kernel)
theorem iX6_readElement_8 : zSnd zZC zmX6_readElement 8 (o_aload 0 9) := s_aload_n (k := 0) (by decide +kernel) rfl
theorem iX6_readElement_9 : zSnd zZC zmX6_readElement 9 (o_getf zYC 3 0 12) := s_getf zcX6 fX6_18 (by decide +kernel) (by decide +kernel)
set_option maxRecDepth 20000 in
theorem iX6_readElement_12 : zSnd zZC zmX6_readElement 12 (o_callV zZC 1 zmX4_octet 0 1 15) := s_callVN (idx := 204) zcX4 calX4_octet virX4_octet dscX4_octet (by decide +kernel) (zNW3 14 rfl rfl) (by decide +kernel)
theorem iX6_readElement_15 : zSnd zZC zmX6_readElement 15 (o_sw [([0], 44), ([1, 3], 75)] 88) := s_tsw (dflt := 73) (lo := 0) (hi := 3) (offs := #[29, 60, 73, 60]) (len := 29) (by decide +kernel) (by decide +kernel) (by decide +kernel) (by decide +kernel)
theorem iX6_readElement_44 : zSnd zZC zmX6_readElement 44 (o_aload 0 45) := s_aload_n (k := 0) (by decide +kernel) rfl
theorem iX6_readElement_45 : zSnd zZC zmX6_readElement 45 (o_getf zYC 3 1 48) := s_getf zcX6 fX6_22 (by decide +kernel) (by decide +kernel)
theorem iX6_readElement_48 : zSnd zZC zmX6_readElement 48 (o_getf zYC 2 10 51) := s_getf zcX2 fX6_195 (by decide +kernel) (by decide +kernel)
theorem iX6_readElement_51 : zSnd zZC zmX6_readElement 51 (o_if0 (fun x => x = 0) 54 64) := s_if_ne (off := 13) (by decide +kernel) (by decide +kernel)
theorem iX6_readElement_54 : zSnd zZC zmX6_readElement 54 (o_aload 0 55) := s_aload_n (k := 0) (by decide +kernel) rfl
theorem iX6_readElement_55 : zSnd zZC zmX6_readElement 55 (o_getf zYC 3 1 58) := s_getf zcX6 fX6_22 (by decide +kernel) (by decide +kernel)
theorem iX6_readElement_58 : zSnd zZC zmX6_readElement 58 (o_ic 10 60) := s_bipush (i := 10) (by decide +kernel) (by decide +kernel)
theorem iX6_readElement_60 : zSnd zZC zmX6_readElement 60 (o_iload 1 61) := s_iload_n (k := 1) (by decide +kernel) rfl
set_option maxRecDepth 20000 in
theorem iX6_readElement_61 : zSnd zZC zmX6_readElement 61 (o_callV zZC 2 zmX2_noteWrong 2 0 64) := s_callVN (idx := 186) zcX2 calX2_noteWrong virX2_noteWrong dscX2_noteWrong (by decide +kernel) (zNW2 213 rfl rfl) (by decide +kernel)
theorem iX6_readElement_64 : zSnd zZC zmX6_readElement 64 (o_aload 0 65) := s_aload_n (k := 0) (by decide +kernel) rfl
theorem iX6_readElement_65 : zSnd zZC zmX6_readElement 65 (o_ic 11 67) := s_bipush (i := 11) (by decide +kernel) (by decide +kernel)
theorem iX6_readElement_67 : zSnd zZC zmX6_readElement 67 (o_ic 127 69) := s_bipush (i := 127) (by decide +kernel) (by decide +kernel)
set_option maxRecDepth 20000 in
theorem iX6_readElement_69 : zSnd zZC zmX6_readElement 69 (o_callV zZC 3 zmX6_readConstant 2 0 72) := s_callV (idx := 201) zcX6 calX6_readConstant virX6_readConstant dscX6_readConstant (by decide +kernel) (zWS3 10 rfl rfl) (by decide +kernel)
theorem iX6_readElement_72 : zSnd zZC zmX6_readElement 72 (o_goto 97) := s_goto (off := 25) (by decide +kernel) (by decide +kernel)
theorem iX6_readElement_75 : zSnd zZC zmX6_readElement 75 (o_aload 0 76) := s_aload_n (k := 0) (by decide +kernel) rfl
theorem iX6_readElement_76 : zSnd zZC zmX6_readElement 76 (o_getf zYC 3 0 79) := s_getf zcX6 fX6_18 (by decide +kernel) (by decide +kernel)
theorem iX6_readElement_79 : zSnd zZC zmX6_readElement 79 (o_ic 0 80) := s_iconst (i := 0) (by decide +kernel) (by decide +kernel)
theorem iX6_readElement_80 : zSnd zZC zmX6_readElement 80 (o_ic 0 81) := s_iconst (i := 0) (by decide +kernel) (by decide +kernel)
set_option maxRecDepth 20000 in
theorem iX6_readElement_81 : zSnd zZC zmX6_readElement 81 (o_callV zZC 1 zmX4_octetWithin 2 1 84) := s_callVN (idx := 55) zcX4 calX4_octetWithin virX4_octetWithin dscX4_octetWithin (by decide +kernel) (zNW2 126 rfl rfl) (by decide +kernel)
theorem iX6_readElement_84 : zSnd zZC zmX6_readElement 84 (o_pop 85) := s_pop (by decide +kernel)
theorem iX6_readElement_85 : zSnd zZC zmX6_readElement 85 (o_goto 97) := s_goto (off := 12) (by decide +kernel) (by decide +kernel)
theorem iX6_readElement_88 : zSnd zZC zmX6_readElement 88 (o_aload 0 89) := s_aload_n (k := 0) (by decide +kernel) rfl
theorem iX6_readElement_89 : zSnd zZC zmX6_readElement 89 (o_getf zYC 3 0 92) := s_getf zcX6 fX6_18 (by decide +kernel) (by decide +kernel)
theorem iX6_readElement_92 : zSnd zZC zmX6_readElement 92 (o_ic 1 93) := s_iconst (i := 1) (by decide +kernel) (by decide +kernel)
theorem iX6_readElement_93 : zSnd zZC zmX6_readElement 93 (o_iload 1 94) := s_iload_n (k := 1) (by decide +kernel) rfl
set_option maxRecDepth 20000 in
theorem iX6_readElement_94 : zSnd zZC zmX6_readElement 94 (o_callV zZC 1 zmX4_fail 2 0 97) := s_callVN (idx := 149) zcX4 calX4_fail virX4_fail dscX4_fail (by decide +kernel) (zNW2 152 rfl rfl) (by decide +kernel)
theorem iX6_readElement_97 : zSnd zZC zmX6_readElement 97 (o_aload 0 98) := s_aload_n (k := 0) (by decide +kernel) rfl
set_option maxRecDepth 20000 in
theorem iX6_readElement_98 : zSnd zZC zmX6_readElement 98 (o_callV zZC 3 zmX6_readRowOfFunctions 0 0 101) := s_callV (idx := 239) zcX6 calX6_readRowOfFunctions virX6_readRowOfFunctions dscX6_readRowOfFunctions (by decide +kernel) (zWS3 67 rfl rfl) (by decide +kernel)
theorem iX6_readElement_101 : zSnd zZC zmX6_readElement 101 (o_vret) := s_vret rfl (by decide +kernel)
def kX6_readElement : List (Nat × zOp) := [(0, o_aload 0 1),
  (1, o_getf zYC 3 0 4),
  (4, o_getf zYC 1 2 7),
  (7, o_istore 1 8),
  (8, o_aload 0 9),
  (9, o_getf zYC 3 0 12),
  (12, o_callV zZC 1 zmX4_octet 0 1 15),
  (15, o_sw [([0], 44), ([1, 3], 75)] 88),
  (44, o_aload 0 45),
  (45, o_getf zYC 3 1 48),
  (48, o_getf zYC 2 10 51),
  (51, o_if0 (fun x => x = 0) 54 64),
  (54, o_aload 0 55),
  (55, o_getf zYC 3 1 58),
  (58, o_ic 10 60),
  (60, o_iload 1 61),
  (61, o_callV zZC 2 zmX2_noteWrong 2 0 64),
  (64, o_aload 0 65),
  (65, o_ic 11 67),
  (67, o_ic 127 69),
  (69, o_callV zZC 3 zmX6_readConstant 2 0 72),
  (72, o_goto 97),
  (75, o_aload 0 76),
  (76, o_getf zYC 3 0 79),
  (79, o_ic 0 80),
  (80, o_ic 0 81),
  (81, o_callV zZC 1 zmX4_octetWithin 2 1 84),
  (84, o_pop 85),
  (85, o_goto 97),
  (88, o_aload 0 89),
  (89, o_getf zYC 3 0 92),
  (92, o_ic 1 93),
  (93, o_iload 1 94),
  (94, o_callV zZC 1 zmX4_fail 2 0 97),
  (97, o_aload 0 98),
  (98, o_callV zZC 3 zmX6_readRowOfFunctions 0 0 101),
  (101, o_vret)]
set_option maxRecDepth 100000 in
theorem ksX6_readElement : ∀ q ∈ kX6_readElement, zSnd zZC zmX6_readElement q.1 q.2 := zcc iX6_readElement_0 (zcc iX6_readElement_1 (zcc iX6_readElement_4 (zcc iX6_readElement_7 (zcc iX6_readElement_8 (zcc iX6_readElement_9 (zcc iX6_readElement_12 (zcc iX6_readElement_15 (zcc iX6_readElement_44 (zcc iX6_readElement_45 (zcc iX6_readElement_48 (zcc iX6_readElement_51 (zcc iX6_readElement_54 (zcc iX6_readElement_55 (zcc iX6_readElement_58 (zcc iX6_readElement_60 (zcc iX6_readElement_61 (zcc iX6_readElement_64 (zcc iX6_readElement_65 (zcc iX6_readElement_67 (zcc iX6_readElement_69 (zcc iX6_readElement_72 (zcc iX6_readElement_75 (zcc iX6_readElement_76 (zcc iX6_readElement_79 (zcc iX6_readElement_80 (zcc iX6_readElement_81 (zcc iX6_readElement_84 (zcc iX6_readElement_85 (zcc iX6_readElement_88 (zcc iX6_readElement_89 (zcc iX6_readElement_92 (zcc iX6_readElement_93 (zcc iX6_readElement_94 (zcc iX6_readElement_97 (zcc iX6_readElement_98 (zcc iX6_readElement_101 zcn))))))))))))))))))))))))))))))))))))
theorem iX6_readExport_0 : zSnd zZC zmX6_readExport 0 (o_aload 0 1) := s_aload_n (k := 0) (by decide +kernel) rfl
theorem iX6_readExport_1 : zSnd zZC zmX6_readExport 1 (o_getf zYC 3 0 4) := s_getf zcX6 fX6_18 (by decide +kernel) (by decide +kernel)
theorem iX6_readExport_4 : zSnd zZC zmX6_readExport 4 (o_getf zYC 1 2 7) := s_getf zcX4 fX6_62 (by decide +kernel) (by decide +kernel)
theorem iX6_readExport_7 : zSnd zZC zmX6_readExport 7 (o_istore 1 8) := s_istore_n (k := 1) (by decide +kernel) rfl (by decide +kernel)
theorem iX6_readExport_8 : zSnd zZC zmX6_readExport 8 (o_aload 0 9) := s_aload_n (k := 0) (by decide +kernel) rfl
theorem iX6_readExport_9 : zSnd zZC zmX6_readExport 9 (o_getf zYC 3 0 12) := s_getf zcX6 fX6_18 (by decide +kernel) (by decide +kernel)
set_option maxRecDepth 20000 in
theorem iX6_readExport_12 : zSnd zZC zmX6_readExport 12 (o_callV zZC 1 zmX4_outerName 0 1 15) := s_callVN (idx := 164) zcX4 calX4_outerName virX4_outerName dscX4_outerName (by decide +kernel) (zNW2 199 rfl rfl) (by decide +kernel)
theorem iX6_readExport_15 : zSnd zZC zmX6_readExport 15 (o_istore 2 16) := s_istore_n (k := 2) (by decide +kernel) rfl (by decide +kernel)
theorem iX6_readExport_16 : zSnd zZC zmX6_readExport 16 (o_aload 0 17) := s_aload_n (k := 0) (by decide +kernel) rfl
theorem iX6_readExport_17 : zSnd zZC zmX6_readExport 17 (o_getf zYC 3 0 20) := s_getf zcX6 fX6_18 (by decide +kernel) (by decide +kernel)
theorem iX6_readExport_20 : zSnd zZC zmX6_readExport 20 (o_getf zYC 1 2 23) := s_getf zcX4 fX6_62 (by decide +kernel) (by decide +kernel)
theorem iX6_readExport_23 : zSnd zZC zmX6_readExport 23 (o_iload 2 24) := s_iload_n (k := 2) (by decide +kernel) rfl
theorem iX6_readExport_24 : zSnd zZC zmX6_readExport 24 (o_ibin (fun x y => x - y) 25) := s_isub (by decide +kernel)
theorem iX6_readExport_25 : zSnd zZC zmX6_readExport 25 (o_istore 3 26) := s_istore_n (k := 3) (by decide +kernel) rfl (by decide +kernel)
theorem iX6_readExport_26 : zSnd zZC zmX6_readExport 26 (o_aload 0 27) := s_aload_n (k := 0) (by decide +kernel) rfl
theorem iX6_readExport_27 : zSnd zZC zmX6_readExport 27 (o_getf zYC 3 0 30) := s_getf zcX6 fX6_18 (by decide +kernel) (by decide +kernel)
theorem iX6_readExport_30 : zSnd zZC zmX6_readExport 30 (o_ic 0 31) := s_iconst (i := 0) (by decide +kernel) (by decide +kernel)
theorem iX6_readExport_31 : zSnd zZC zmX6_readExport 31 (o_ic 3 32) := s_iconst (i := 3) (by decide +kernel) (by decide +kernel)
set_option maxRecDepth 20000 in
theorem iX6_readExport_32 : zSnd zZC zmX6_readExport 32 (o_callV zZC 1 zmX4_octetWithin 2 1 35) := s_callVN (idx := 55) zcX4 calX4_octetWithin virX4_octetWithin dscX4_octetWithin (by decide +kernel) (zNW2 126 rfl rfl) (by decide +kernel)
theorem iX6_readExport_35 : zSnd zZC zmX6_readExport 35 (o_istore 4 37) := s_istore (by decide +kernel) (by decide +kernel)
theorem iX6_readExport_37 : zSnd zZC zmX6_readExport 37 (o_aload 0 38) := s_aload_n (k := 0) (by decide +kernel) rfl
theorem iX6_readExport_38 : zSnd zZC zmX6_readExport 38 (o_getf zYC 3 0 41) := s_getf zcX6 fX6_18 (by decide +kernel) (by decide +kernel)
theorem iX6_readExport_41 : zSnd zZC zmX6_readExport 41 (o_getf zYC 1 2 44) := s_getf zcX4 fX6_62 (by decide +kernel) (by decide +kernel)
theorem iX6_readExport_44 : zSnd zZC zmX6_readExport 44 (o_istore 5 46) := s_istore (by decide +kernel) (by decide +kernel)
theorem iX6_readExport_46 : zSnd zZC zmX6_readExport 46 (o_aload 0 47) := s_aload_n (k := 0) (by decide +kernel) rfl
theorem iX6_readExport_47 : zSnd zZC zmX6_readExport 47 (o_getf zYC 3 0 50) := s_getf zcX6 fX6_18 (by decide +kernel) (by decide +kernel)
set_option maxRecDepth 20000 in
theorem iX6_readExport_50 : zSnd zZC zmX6_readExport 50 (o_callV zZC 1 zmX4_number 0 2 53) := s_callVN (idx := 126) zcX4 calX4_number virX4_number dscX4_number (by decide +kernel) (zNW2 212 rfl rfl) (by decide +kernel)
theorem iX6_readExport_53 : zSnd zZC zmX6_readExport 53 (o_lstore 6 55) := s_lstore (by decide +kernel) (by decide +kernel)
theorem iX6_readExport_55 : zSnd zZC zmX6_readExport 55 (o_lload 6 57) := s_lload (by decide +kernel)
theorem iX6_readExport_57 : zSnd zZC zmX6_readExport 57 (o_aload 0 58) := s_aload_n (k := 0) (by decide +kernel) rfl
theorem iX6_readExport_58 : zSnd zZC zmX6_readExport 58 (o_getf zYC 3 1 61) := s_getf zcX6 fX6_22 (by decide +kernel) (by decide +kernel)
theorem iX6_readExport_61 : zSnd zZC zmX6_readExport 61 (o_iload 4 63) := s_iload (by decide +kernel)
set_option maxRecDepth 20000 in
theorem iX6_readExport_63 : zSnd zZC zmX6_readExport 63 (o_callV zZC 2 zmX2_countOfKind 1 1 66) := s_callVN (idx := 218) zcX2 calX2_countOfKind virX2_countOfKind dscX2_countOfKind (by decide +kernel) (zNW3 35 rfl rfl) (by decide +kernel)
theorem iX6_readExport_66 : zSnd zZC zmX6_readExport 66 (o_i2l 67) := s_i2l (by decide +kernel)
theorem iX6_readExport_67 : zSnd zZC zmX6_readExport 67 (o_lif (fun x y => x < y) 82 71) := s_llt (off := 14) (by decide +kernel) (by decide +kernel) (by decide +kernel)
theorem iX6_readExport_71 : zSnd zZC zmX6_readExport 71 (o_aload 0 72) := s_aload_n (k := 0) (by decide +kernel) rfl
theorem iX6_readExport_72 : zSnd zZC zmX6_readExport 72 (o_getf zYC 3 1 75) := s_getf zcX6 fX6_22 (by decide +kernel) (by decide +kernel)
theorem iX6_readExport_75 : zSnd zZC zmX6_readExport 75 (o_ic 7 77) := s_bipush (i := 7) (by decide +kernel) (by decide +kernel)
theorem iX6_readExport_77 : zSnd zZC zmX6_readExport 77 (o_iload 5 79) := s_iload (by decide +kernel)
set_option maxRecDepth 20000 in
theorem iX6_readExport_79 : zSnd zZC zmX6_readExport 79 (o_callV zZC 2 zmX2_noteWrong 2 0 82) := s_callVN (idx := 186) zcX2 calX2_noteWrong virX2_noteWrong dscX2_noteWrong (by decide +kernel) (zNW2 213 rfl rfl) (by decide +kernel)
theorem iX6_readExport_82 : zSnd zZC zmX6_readExport 82 (o_aload 0 83) := s_aload_n (k := 0) (by decide +kernel) rfl
theorem iX6_readExport_83 : zSnd zZC zmX6_readExport 83 (o_iload 3 84) := s_iload_n (k := 3) (by decide +kernel) rfl
theorem iX6_readExport_84 : zSnd zZC zmX6_readExport 84 (o_iload 2 85) := s_iload_n (k := 2) (by decide +kernel) rfl
set_option maxRecDepth 20000 in
theorem iX6_readExport_85 : zSnd zZC zmX6_readExport 85 (o_callV zZC 3 zmX6_isExported 2 1 88) := s_callV (idx := 221) zcX6 calX6_isExported virX6_isExported dscX6_isExported (by decide +kernel) (zWS3 39 rfl rfl) (by decide +kernel)
theorem iX6_readExport_88 : zSnd zZC zmX6_readExport 88 (o_if0 (fun x => x = 0) 101 91) := s_if_eq (off := 13) (by decide +kernel) (by decide +kernel)
theorem iX6_readExport_91 : zSnd zZC zmX6_readExport 91 (o_aload 0 92) := s_aload_n (k := 0) (by decide +kernel) rfl
theorem iX6_readExport_92 : zSnd zZC zmX6_readExport 92 (o_getf zYC 3 1 95) := s_getf zcX6 fX6_22 (by decide +kernel) (by decide +kernel)
theorem iX6_readExport_95 : zSnd zZC zmX6_readExport 95 (o_ic 8 97) := s_bipush (i := 8) (by decide +kernel) (by decide +kernel)
theorem iX6_readExport_97 : zSnd zZC zmX6_readExport 97 (o_iload 1 98) := s_iload_n (k := 1) (by decide +kernel) rfl
set_option maxRecDepth 20000 in
theorem iX6_readExport_98 : zSnd zZC zmX6_readExport 98 (o_callV zZC 2 zmX2_noteWrong 2 0 101) := s_callVN (idx := 186) zcX2 calX2_noteWrong virX2_noteWrong dscX2_noteWrong (by decide +kernel) (zNW2 213 rfl rfl) (by decide +kernel)
theorem iX6_readExport_101 : zSnd zZC zmX6_readExport 101 (o_aload 0 102) := s_aload_n (k := 0) (by decide +kernel) rfl
theorem iX6_readExport_102 : zSnd zZC zmX6_readExport 102 (o_getf zYC 3 1 105) := s_getf zcX6 fX6_22 (by decide +kernel) (by decide +kernel)
theorem iX6_readExport_105 : zSnd zZC zmX6_readExport 105 (o_getf zYC 2 7 108) := s_getf zcX2 fX6_140 (by decide +kernel) (by decide +kernel)
theorem iX6_readExport_108 : zSnd zZC zmX6_readExport 108 (o_ic 7 110) := s_bipush (i := 7) (by decide +kernel) (by decide +kernel)
theorem iX6_readExport_110 : zSnd zZC zmX6_readExport 110 (o_ald zYC .int 111) := s_iald (by decide +kernel)
theorem iX6_readExport_111 : zSnd zZC zmX6_readExport 111 (o_istore 8 113) := s_istore (by decide +kernel) (by decide +kernel)
theorem iX6_readExport_113 : zSnd zZC zmX6_readExport 113 (o_iload 8 115) := s_iload (by decide +kernel)
theorem iX6_readExport_115 : zSnd zZC zmX6_readExport 115 (o_aload 0 116) := s_aload_n (k := 0) (by decide +kernel) rfl
theorem iX6_readExport_116 : zSnd zZC zmX6_readExport 116 (o_getf zYC 3 3 119) := s_getf zcX6 fX6_9 (by decide +kernel) (by decide +kernel)
theorem iX6_readExport_119 : zSnd zZC zmX6_readExport 119 (o_alen zYC 120) := s_alen zYC_arr (by decide +kernel)
theorem iX6_readExport_120 : zSnd zZC zmX6_readExport 120 (o_icmp (fun x y => y ≤ x) 139 123) := s_icmp_ge (off := 19) (by decide +kernel) (by decide +kernel)
theorem iX6_readExport_123 : zSnd zZC zmX6_readExport 123 (o_aload 0 124) := s_aload_n (k := 0) (by decide +kernel) rfl
theorem iX6_readExport_124 : zSnd zZC zmX6_readExport 124 (o_getf zYC 3 3 127) := s_getf zcX6 fX6_9 (by decide +kernel) (by decide +kernel)
theorem iX6_readExport_127 : zSnd zZC zmX6_readExport 127 (o_iload 8 129) := s_iload (by decide +kernel)
theorem iX6_readExport_129 : zSnd zZC zmX6_readExport 129 (o_iload 3 130) := s_iload_n (k := 3) (by decide +kernel) rfl
theorem iX6_readExport_130 : zSnd zZC zmX6_readExport 130 (o_ast zYC .int (fun x => x) 131) := s_iast (by decide +kernel)
theorem iX6_readExport_131 : zSnd zZC zmX6_readExport 131 (o_aload 0 132) := s_aload_n (k := 0) (by decide +kernel) rfl
theorem iX6_readExport_132 : zSnd zZC zmX6_readExport 132 (o_getf zYC 3 4 135) := s_getf zcX6 fX6_15 (by decide +kernel) (by decide +kernel)
theorem iX6_readExport_135 : zSnd zZC zmX6_readExport 135 (o_iload 8 137) := s_iload (by decide +kernel)
theorem iX6_readExport_137 : zSnd zZC zmX6_readExport 137 (o_iload 2 138) := s_iload_n (k := 2) (by decide +kernel) rfl
theorem iX6_readExport_138 : zSnd zZC zmX6_readExport 138 (o_ast zYC .int (fun x => x) 139) := s_iast (by decide +kernel)
theorem iX6_readExport_139 : zSnd zZC zmX6_readExport 139 (o_vret) := s_vret rfl (by decide +kernel)
def kX6_readExport : List (Nat × zOp) := [(0, o_aload 0 1),
  (1, o_getf zYC 3 0 4),
  (4, o_getf zYC 1 2 7),
  (7, o_istore 1 8),
  (8, o_aload 0 9),
  (9, o_getf zYC 3 0 12),
  (12, o_callV zZC 1 zmX4_outerName 0 1 15),
  (15, o_istore 2 16),
  (16, o_aload 0 17),
  (17, o_getf zYC 3 0 20),
  (20, o_getf zYC 1 2 23),
  (23, o_iload 2 24),
  (24, o_ibin (fun x y => x - y) 25),
  (25, o_istore 3 26),
  (26, o_aload 0 27),
  (27, o_getf zYC 3 0 30),
  (30, o_ic 0 31),
  (31, o_ic 3 32),
  (32, o_callV zZC 1 zmX4_octetWithin 2 1 35),
  (35, o_istore 4 37),
  (37, o_aload 0 38),
  (38, o_getf zYC 3 0 41),
  (41, o_getf zYC 1 2 44),
  (44, o_istore 5 46),
  (46, o_aload 0 47),
  (47, o_getf zYC 3 0 50),
  (50, o_callV zZC 1 zmX4_number 0 2 53),
  (53, o_lstore 6 55),
  (55, o_lload 6 57),
  (57, o_aload 0 58),
  (58, o_getf zYC 3 1 61),
  (61, o_iload 4 63),
  (63, o_callV zZC 2 zmX2_countOfKind 1 1 66),
  (66, o_i2l 67),
  (67, o_lif (fun x y => x < y) 82 71),
  (71, o_aload 0 72),
  (72, o_getf zYC 3 1 75),
  (75, o_ic 7 77),
  (77, o_iload 5 79),
  (79, o_callV zZC 2 zmX2_noteWrong 2 0 82),
  (82, o_aload 0 83),
  (83, o_iload 3 84),
  (84, o_iload 2 85),
  (85, o_callV zZC 3 zmX6_isExported 2 1 88),
  (88, o_if0 (fun x => x = 0) 101 91),
  (91, o_aload 0 92),
  (92, o_getf zYC 3 1 95),
  (95, o_ic 8 97),
  (97, o_iload 1 98),
  (98, o_callV zZC 2 zmX2_noteWrong 2 0 101),
  (101, o_aload 0 102),
  (102, o_getf zYC 3 1 105),
  (105, o_getf zYC 2 7 108),
  (108, o_ic 7 110),
  (110, o_ald zYC .int 111),
  (111, o_istore 8 113),
  (113, o_iload 8 115),
  (115, o_aload 0 116),
  (116, o_getf zYC 3 3 119),
  (119, o_alen zYC 120),
  (120, o_icmp (fun x y => y ≤ x) 139 123),
  (123, o_aload 0 124),
  (124, o_getf zYC 3 3 127),
  (127, o_iload 8 129),
  (129, o_iload 3 130),
  (130, o_ast zYC .int (fun x => x) 131),
  (131, o_aload 0 132),
  (132, o_getf zYC 3 4 135),
  (135, o_iload 8 137),
  (137, o_iload 2 138),
  (138, o_ast zYC .int (fun x => x) 139),
  (139, o_vret)]
set_option maxRecDepth 100000 in
theorem ksX6_readExport : ∀ q ∈ kX6_readExport, zSnd zZC zmX6_readExport q.1 q.2 := zcc iX6_readExport_0 (zcc iX6_readExport_1 (zcc iX6_readExport_4 (zcc iX6_readExport_7 (zcc iX6_readExport_8 (zcc iX6_readExport_9 (zcc iX6_readExport_12 (zcc iX6_readExport_15 (zcc iX6_readExport_16 (zcc iX6_readExport_17 (zcc iX6_readExport_20 (zcc iX6_readExport_23 (zcc iX6_readExport_24 (zcc iX6_readExport_25 (zcc iX6_readExport_26 (zcc iX6_readExport_27 (zcc iX6_readExport_30 (zcc iX6_readExport_31 (zcc iX6_readExport_32 (zcc iX6_readExport_35 (zcc iX6_readExport_37 (zcc iX6_readExport_38 (zcc iX6_readExport_41 (zcc iX6_readExport_44 (zcc iX6_readExport_46 (zcc iX6_readExport_47 (zcc iX6_readExport_50 (zcc iX6_readExport_53 (zcc iX6_readExport_55 (zcc iX6_readExport_57 (zcc iX6_readExport_58 (zcc iX6_readExport_61 (zcc iX6_readExport_63 (zcc iX6_readExport_66 (zcc iX6_readExport_67 (zcc iX6_readExport_71 (zcc iX6_readExport_72 (zcc iX6_readExport_75 (zcc iX6_readExport_77 (zcc iX6_readExport_79 (zcc iX6_readExport_82 (zcc iX6_readExport_83 (zcc iX6_readExport_84 (zcc iX6_readExport_85 (zcc iX6_readExport_88 (zcc iX6_readExport_91 (zcc iX6_readExport_92 (zcc iX6_readExport_95 (zcc iX6_readExport_97 (zcc iX6_readExport_98 (zcc iX6_readExport_101 (zcc iX6_readExport_102 (zcc iX6_readExport_105 (zcc iX6_readExport_108 (zcc iX6_readExport_110 (zcc iX6_readExport_111 (zcc iX6_readExport_113 (zcc iX6_readExport_115 (zcc iX6_readExport_116 (zcc iX6_readExport_119 (zcc iX6_readExport_120 (zcc iX6_readExport_123 (zcc iX6_readExport_124 (zcc iX6_readExport_127 (zcc iX6_readExport_129 (zcc iX6_readExport_130 (zcc iX6_readExport_131 (zcc iX6_readExport_132 (zcc iX6_readExport_135 (zcc iX6_readExport_137 (zcc iX6_readExport_138 (zcc iX6_readExport_139 zcn)))))))))))))))))))))))))))))))))))))))))))))))))))))))))))))))))))))))
theorem iX6_readImport_0 : zSnd zZC zmX6_readImport 0 (o_aload 0 1) := s_aload_n (k := 0) (by decide +kernel) rfl
theorem iX6_readImport_1 : zSnd zZC zmX6_readImport 1 (o_getf zYC 3 0 4) := s_getf zcX6 fX6_18 (by decide +kernel) (by decide +kernel)
theorem iX6_readImport_4 : zSnd zZC zmX6_readImport 4 (o_getf zYC 1 2 7) := s_getf zcX4 fX6_62 (by decide +kernel) (by decide +kernel)
theorem iX6_readImport_7 : zSnd zZC zmX6_readImport 7 (o_istore 1 8) := s_istore_n (k := 1) (by decide +kernel) rfl (by decide +kernel)
theorem iX6_readImport_8 : zSnd zZC zmX6_readImport 8 (o_aload 0 9) := s_aload_n (k := 0) (by decide +kernel) rfl
theorem iX6_readImport_9 : zSnd zZC zmX6_readImport 9 (o_getf zYC 3 0 12) := s_getf zcX6 fX6_18 (by decide +kernel) (by decide +kernel)
set_option maxRecDepth 20000 in
theorem iX6_readImport_12 : zSnd zZC zmX6_readImport 12 (o_callV zZC 1 zmX4_outerName 0 1 15) := s_callVN (idx := 164) zcX4 calX4_outerName virX4_outerName dscX4_outerName (by decide +kernel) (zNW2 199 rfl rfl) (by decide +kernel)
theorem iX6_readImport_15 : zSnd zZC zmX6_readImport 15 (o_pop 16) := s_pop (by decide +kernel)
theorem iX6_readImport_16 : zSnd zZC zmX6_readImport 16 (o_aload 0 17) := s_aload_n (k := 0) (by decide +kernel) rfl
theorem iX6_readImport_17 : zSnd zZC zmX6_readImport 17 (o_getf zYC 3 0 20) := s_getf zcX6 fX6_18 (by decide +kernel) (by decide +kernel)
set_option maxRecDepth 20000 in
theorem iX6_readImport_20 : zSnd zZC zmX6_readImport 20 (o_callV zZC 1 zmX4_outerName 0 1 23) := s_callVN (idx := 164) zcX4 calX4_outerName virX4_outerName dscX4_outerName (by decide +kernel) (zNW2 199 rfl rfl) (by decide +kernel)
theorem iX6_readImport_23 : zSnd zZC zmX6_readImport 23 (o_pop 24) := s_pop (by decide +kernel)
theorem iX6_readImport_24 : zSnd zZC zmX6_readImport 24 (o_aload 0 25) := s_aload_n (k := 0) (by decide +kernel) rfl
theorem iX6_readImport_25 : zSnd zZC zmX6_readImport 25 (o_getf zYC 3 0 28) := s_getf zcX6 fX6_18 (by decide +kernel) (by decide +kernel)
theorem iX6_readImport_28 : zSnd zZC zmX6_readImport 28 (o_ic 0 29) := s_iconst (i := 0) (by decide +kernel) (by decide +kernel)
theorem iX6_readImport_29 : zSnd zZC zmX6_readImport 29 (o_ic 3 30) := s_iconst (i := 3) (by decide +kernel) (by decide +kernel)
set_option maxRecDepth 20000 in
theorem iX6_readImport_30 : zSnd zZC zmX6_readImport 30 (o_callV zZC 1 zmX4_octetWithin 2 1 33) := s_callVN (idx := 55) zcX4 calX4_octetWithin virX4_octetWithin dscX4_octetWithin (by decide +kernel) (zNW2 126 rfl rfl) (by decide +kernel)
theorem iX6_readImport_33 : zSnd zZC zmX6_readImport 33 (o_sw [([0], 60), ([1], 81), ([2], 107)] 121) := s_tsw (dflt := 88) (lo := 0) (hi := 2) (offs := #[27, 48, 74]) (len := 27) (by decide +kernel) (by decide +kernel) (by decide +kernel) (by decide +kernel)
theorem iX6_readImport_60 : zSnd zZC zmX6_readImport 60 (o_aload 0 61) := s_aload_n (k := 0) (by decide +kernel) rfl
theorem iX6_readImport_61 : zSnd zZC zmX6_readImport 61 (o_ic 0 62) := s_iconst (i := 0) (by decide +kernel) (by decide +kernel)
set_option maxRecDepth 20000 in
theorem iX6_readImport_62 : zSnd zZC zmX6_readImport 62 (o_callV zZC 3 zmX6_readSignatureOfFunction 1 0 65) := s_callV (idx := 99) zcX6 calX6_readSignatureOfFunction virX6_readSignatureOfFunction dscX6_readSignatureOfFunction (by decide +kernel) (zWS2 208 rfl rfl) (by decide +kernel)
theorem iX6_readImport_65 : zSnd zZC zmX6_readImport 65 (o_aload 0 66) := s_aload_n (k := 0) (by decide +kernel) rfl
theorem iX6_readImport_66 : zSnd zZC zmX6_readImport 66 (o_getf zYC 3 1 69) := s_getf zcX6 fX6_22 (by decide +kernel) (by decide +kernel)
theorem iX6_readImport_69 : zSnd zZC zmX6_readImport 69 (o_dup 70) := s_dup (by decide +kernel)
theorem iX6_readImport_70 : zSnd zZC zmX6_readImport 70 (o_getf zYC 2 9 73) := s_getf zcX2 fX6_167 (by decide +kernel) (by decide +kernel)
theorem iX6_readImport_73 : zSnd zZC zmX6_readImport 73 (o_ic 1 74) := s_iconst (i := 1) (by decide +kernel) (by decide +kernel)
theorem iX6_readImport_74 : zSnd zZC zmX6_readImport 74 (o_ibin (fun x y => x + y) 75) := s_iadd (by decide +kernel)
theorem iX6_readImport_75 : zSnd zZC zmX6_readImport 75 (o_putI zYC 2 9 78) := s_putI zcX2 fX6_167 (by decide +kernel) rfl rfl (by decide +kernel)
theorem iX6_readImport_78 : zSnd zZC zmX6_readImport 78 (o_goto 168) := s_goto (off := 90) (by decide +kernel) (by decide +kernel)
theorem iX6_readImport_81 : zSnd zZC zmX6_readImport 81 (o_aload 0 82) := s_aload_n (k := 0) (by decide +kernel) rfl
theorem iX6_readImport_82 : zSnd zZC zmX6_readImport 82 (o_getf zYC 3 0 85) := s_getf zcX6 fX6_18 (by decide +kernel) (by decide +kernel)
theorem iX6_readImport_85 : zSnd zZC zmX6_readImport 85 (o_ic 112 87) := s_bipush (i := 112) (by decide +kernel) (by decide +kernel)
theorem iX6_readImport_87 : zSnd zZC zmX6_readImport 87 (o_ic 112 89) := s_bipush (i := 112) (by decide +kernel) (by decide +kernel)
set_option maxRecDepth 20000 in
theorem iX6_readImport_89 : zSnd zZC zmX6_readImport 89 (o_callV zZC 1 zmX4_octetWithin 2 1 92) := s_callVN (idx := 55) zcX4 calX4_octetWithin virX4_octetWithin dscX4_octetWithin (by decide +kernel) (zNW2 126 rfl rfl) (by decide +kernel)
theorem iX6_readImport_92 : zSnd zZC zmX6_readImport 92 (o_pop 93) := s_pop (by decide +kernel)
theorem iX6_readImport_93 : zSnd zZC zmX6_readImport 93 (o_aload 0 94) := s_aload_n (k := 0) (by decide +kernel) rfl
theorem iX6_readImport_94 : zSnd zZC zmX6_readImport 94 (o_ic 0 95) := s_iconst (i := 0) (by decide +kernel) (by decide +kernel)
theorem iX6_readImport_95 : zSnd zZC zmX6_readImport 95 (o_ic 0 96) := s_iconst (i := 0) (by decide +kernel) (by decide +kernel)
set_option maxRecDepth 20000 in
theorem iX6_readImport_96 : zSnd zZC zmX6_readImport 96 (o_callV zZC 3 zmX6_readLimits 2 0 99) := s_callV (idx := 170) zcX6 calX6_readLimits virX6_readLimits dscX6_readLimits (by decide +kernel) (zWS2 221 rfl rfl) (by decide +kernel)
theorem iX6_readImport_99 : zSnd zZC zmX6_readImport 99 (o_aload 0 100) := s_aload_n (k := 0) (by decide +kernel) rfl
theorem iX6_readImport_100 : zSnd zZC zmX6_readImport 100 (o_iload 1 101) := s_iload_n (k := 1) (by decide +kernel) rfl
set_option maxRecDepth 20000 in
theorem iX6_readImport_101 : zSnd zZC zmX6_readImport 101 (o_callV zZC 3 zmX6_addTable 1 0 104) := s_callV (idx := 174) zcX6 calX6_addTable virX6_addTable dscX6_addTable (by decide +kernel) (zWS2 226 rfl rfl) (by decide +kernel)
theorem iX6_readImport_104 : zSnd zZC zmX6_readImport 104 (o_goto 168) := s_goto (off := 64) (by decide +kernel) (by decide +kernel)
theorem iX6_readImport_107 : zSnd zZC zmX6_readImport 107 (o_aload 0 108) := s_aload_n (k := 0) (by decide +kernel) rfl
theorem iX6_readImport_108 : zSnd zZC zmX6_readImport 108 (o_ic 0 109) := s_iconst (i := 0) (by decide +kernel) (by decide +kernel)
theorem iX6_readImport_109 : zSnd zZC zmX6_readImport 109 (o_ic 1 110) := s_iconst (i := 1) (by decide +kernel) (by decide +kernel)
set_option maxRecDepth 20000 in
theorem iX6_readImport_110 : zSnd zZC zmX6_readImport 110 (o_callV zZC 3 zmX6_readLimits 2 0 113) := s_callV (idx := 170) zcX6 calX6_readLimits virX6_readLimits dscX6_readLimits (by decide +kernel) (zWS2 221 rfl rfl) (by decide +kernel)
theorem iX6_readImport_113 : zSnd zZC zmX6_readImport 113 (o_aload 0 114) := s_aload_n (k := 0) (by decide +kernel) rfl
theorem iX6_readImport_114 : zSnd zZC zmX6_readImport 114 (o_iload 1 115) := s_iload_n (k := 1) (by decide +kernel) rfl
set_option maxRecDepth 20000 in
theorem iX6_readImport_115 : zSnd zZC zmX6_readImport 115 (o_callV zZC 3 zmX6_addMemory 1 0 118) := s_callV (idx := 177) zcX6 calX6_addMemory virX6_addMemory dscX6_addMemory (by decide +kernel) (zWS2 230 rfl rfl) (by decide +kernel)
theorem iX6_readImport_118 : zSnd zZC zmX6_readImport 118 (o_goto 168) := s_goto (off := 50) (by decide +kernel) (by decide +kernel)
theorem iX6_readImport_121 : zSnd zZC zmX6_readImport 121 (o_aload 0 122) := s_aload_n (k := 0) (by decide +kernel) rfl
theorem iX6_readImport_122 : zSnd zZC zmX6_readImport 122 (o_getf zYC 3 0 125) := s_getf zcX6 fX6_18 (by decide +kernel) (by decide +kernel)
set_option maxRecDepth 20000 in
theorem iX6_readImport_125 : zSnd zZC zmX6_readImport 125 (o_callV zZC 1 zmX4_type 0 1 128) := s_callVN (idx := 158) zcX4 calX4_type virX4_type dscX4_type (by decide +kernel) (zNW2 186 rfl rfl) (by decide +kernel)
theorem iX6_readImport_128 : zSnd zZC zmX6_readImport 128 (o_istore 2 129) := s_istore_n (k := 2) (by decide +kernel) rfl (by decide +kernel)
theorem iX6_readImport_129 : zSnd zZC zmX6_readImport 129 (o_aload 0 130) := s_aload_n (k := 0) (by decide +kernel) rfl
theorem iX6_readImport_130 : zSnd zZC zmX6_readImport 130 (o_getf zYC 3 1 133) := s_getf zcX6 fX6_22 (by decide +kernel) (by decide +kernel)
theorem iX6_readImport_133 : zSnd zZC zmX6_readImport 133 (o_iload 2 134) := s_iload_n (k := 2) (by decide +kernel) rfl
theorem iX6_readImport_134 : zSnd zZC zmX6_readImport 134 (o_aload 0 135) := s_aload_n (k := 0) (by decide +kernel) rfl
theorem iX6_readImport_135 : zSnd zZC zmX6_readImport 135 (o_getf zYC 3 0 138) := s_getf zcX6 fX6_18 (by decide +kernel) (by decide +kernel)
theorem iX6_readImport_138 : zSnd zZC zmX6_readImport 138 (o_ic 0 139) := s_iconst (i := 0) (by decide +kernel) (by decide +kernel)
theorem iX6_readImport_139 : zSnd zZC zmX6_readImport 139 (o_ic 1 140) := s_iconst (i := 1) (by decide +kernel) (by decide +kernel)
set_option maxRecDepth 20000 in
theorem iX6_readImport_140 : zSnd zZC zmX6_readImport 140 (o_callV zZC 1 zmX4_octetWithin 2 1 143) := s_callVN (idx := 55) zcX4 calX4_octetWithin virX4_octetWithin dscX4_octetWithin (by decide +kernel) (zNW2 126 rfl rfl) (by decide +kernel)
theorem iX6_readImport_143 : zSnd zZC zmX6_readImport 143 (o_ic 1 144) := s_iconst (i := 1) (by decide +kernel) (by decide +kernel)
theorem iX6_readImport_144 : zSnd zZC zmX6_readImport 144 (o_icmp (fun x y => x = y) 147 151) := s_icmp_ne (off := 7) (by decide +kernel) (by decide +kernel)
theorem iX6_readImport_147 : zSnd zZC zmX6_readImport 147 (o_ic 1 148) := s_iconst (i := 1) (by decide +kernel) (by decide +kernel)
theorem iX6_readImport_148 : zSnd zZC zmX6_readImport 148 (o_goto 152) := s_goto (off := 4) (by decide +kernel) (by decide +kernel)
theorem iX6_readImport_151 : zSnd zZC zmX6_readImport 151 (o_ic 0 152) := s_iconst (i := 0) (by decide +kernel) (by decide +kernel)
set_option maxRecDepth 20000 in
theorem iX6_readImport_152 : zSnd zZC zmX6_readImport 152 (o_callV zZC 2 zmX2_addGlobal 2 0 155) := s_callVN (idx := 180) zcX2 calX2_addGlobal virX2_addGlobal dscX2_addGlobal (by decide +kernel) (zNW2 234 rfl rfl) (by decide +kernel)
theorem iX6_readImport_155 : zSnd zZC zmX6_readImport 155 (o_aload 0 156) := s_aload_n (k := 0) (by decide +kernel) rfl
theorem iX6_readImport_156 : zSnd zZC zmX6_readImport 156 (o_getf zYC 3 1 159) := s_getf zcX6 fX6_22 (by decide +kernel) (by decide +kernel)
theorem iX6_readImport_159 : zSnd zZC zmX6_readImport 159 (o_dup 160) := s_dup (by decide +kernel)
theorem iX6_readImport_160 : zSnd zZC zmX6_readImport 160 (o_getf zYC 2 13 163) := s_getf zcX2 fX6_183 (by decide +kernel) (by decide +kernel)
theorem iX6_readImport_163 : zSnd zZC zmX6_readImport 163 (o_ic 1 164) := s_iconst (i := 1) (by decide +kernel) (by decide +kernel)
theorem iX6_readImport_164 : zSnd zZC zmX6_readImport 164 (o_ibin (fun x y => x + y) 165) := s_iadd (by decide +kernel)
theorem iX6_readImport_165 : zSnd zZC zmX6_readImport 165 (o_putI zYC 2 13 168) := s_putI zcX2 fX6_183 (by decide +kernel) rfl rfl (by decide +kernel)
theorem iX6_readImport_168 : zSnd zZC zmX6_readImport 168 (o_vret) := s_vret rfl (by decide +kernel)
def kX6_readImport : List (Nat × zOp) := [(0, o_aload 0 1),
  (1, o_getf zYC 3 0 4),
  (4, o_getf zYC 1 2 7),
  (7, o_istore 1 8),
  (8, o_aload 0 9),
  (9, o_getf zYC 3 0 12),
  (12, o_callV zZC 1 zmX4_outerName 0 1 15),
  (15, o_pop 16),
  (16, o_aload 0 17),
  (17, o_getf zYC 3 0 20),
  (20, o_callV zZC 1 zmX4_outerName 0 1 23),
  (23, o_pop 24),
  (24, o_aload 0 25),
  (25, o_getf zYC 3 0 28),
  (28, o_ic 0 29),
  (29, o_ic 3 30),
  (30, o_callV zZC 1 zmX4_octetWithin 2 1 33),
  (33, o_sw [([0], 60), ([1], 81), ([2], 107)] 121),
  (60, o_aload 0 61),
  (61, o_ic 0 62),
  (62, o_callV zZC 3 zmX6_readSignatureOfFunction 1 0 65),
  (65, o_aload 0 66),
  (66, o_getf zYC 3 1 69),
  (69, o_dup 70),
  (70, o_getf zYC 2 9 73),
  (73, o_ic 1 74),
  (74, o_ibin (fun x y => x + y) 75),
  (75, o_putI zYC 2 9 78),
  (78, o_goto 168),
  (81, o_aload 0 82),
  (82, o_getf zYC 3 0 85),
  (85, o_ic 112 87),
  (87, o_ic 112 89),
  (89, o_callV zZC 1 zmX4_octetWithin 2 1 92),
  (92, o_pop 93),
  (93, o_aload 0 94),
  (94, o_ic 0 95),
  (95, o_ic 0 96),
  (96, o_callV zZC 3 zmX6_readLimits 2 0 99),
  (99, o_aload 0 100),
  (100, o_iload 1 101),
  (101, o_callV zZC 3 zmX6_addTable 1 0 104),
  (104, o_goto 168),
  (107, o_aload 0 108),
  (108, o_ic 0 109),
  (109, o_ic 1 110),
  (110, o_callV zZC 3 zmX6_readLimits 2 0 113),
  (113, o_aload 0 114),
  (114, o_iload 1 115),
  (115, o_callV zZC 3 zmX6_addMemory 1 0 118),
  (118, o_goto 168),
  (121, o_aload 0 122),
  (122, o_getf zYC 3 0 125),
  (125, o_callV zZC 1 zmX4_type 0 1 128),
  (128, o_istore 2 129),
  (129, o_aload 0 130),
  (130, o_getf zYC 3 1 133),
  (133, o_iload 2 134),
  (134, o_aload 0 135),
  (135, o_getf zYC 3 0 138),
  (138, o_ic 0 139),
  (139, o_ic 1 140),
  (140, o_callV zZC 1 zmX4_octetWithin 2 1 143),
  (143, o_ic 1 144),
  (144, o_icmp (fun x y => x = y) 147 151),
  (147, o_ic 1 148),
  (148, o_goto 152),
  (151, o_ic 0 152),
  (152, o_callV zZC 2 zmX2_addGlobal 2 0 155),
  (155, o_aload 0 156),
  (156, o_getf zYC 3 1 159),
  (159, o_dup 160),
  (160, o_getf zYC 2 13 163),
  (163, o_ic 1 164),
  (164, o_ibin (fun x y => x + y) 165),
  (165, o_putI zYC 2 13 168),
  (168, o_vret)]
set_option maxRecDepth 100000 in
theorem ksX6_readImport : ∀ q ∈ kX6_readImport, zSnd zZC zmX6_readImport q.1 q.2 := zcc iX6_readImport_0 (zcc iX6_readImport_1 (zcc iX6_readImport_4 (zcc iX6_readImport_7 (zcc iX6_readImport_8 (zcc iX6_readImport_9 (zcc iX6_readImport_12 (zcc iX6_readImport_15 (zcc iX6_readImport_16 (zcc iX6_readImport_17 (zcc iX6_readImport_20 (zcc iX6_readImport_23 (zcc iX6_readImport_24 (zcc iX6_readImport_25 (zcc iX6_readImport_28 (zcc iX6_readImport_29 (zcc iX6_readImport_30 (zcc iX6_readImport_33 (zcc iX6_readImport_60 (zcc iX6_readImport_61 (zcc iX6_readImport_62 (zcc iX6_readImport_65 (zcc iX6_readImport_66 (zcc iX6_readImport_69 (zcc iX6_readImport_70 (zcc iX6_readImport_73 (zcc iX6_readImport_74 (zcc iX6_readImport_75 (zcc iX6_readImport_78 (zcc iX6_readImport_81 (zcc iX6_readImport_82 (zcc iX6_readImport_85 (zcc iX6_readImport_87 (zcc iX6_readImport_89 (zcc iX6_readImport_92 (zcc iX6_readImport_93 (zcc iX6_readImport_94 (zcc iX6_readImport_95 (zcc iX6_readImport_96 (zcc iX6_readImport_99 (zcc iX6_readImport_100 (zcc iX6_readImport_101 (zcc iX6_readImport_104 (zcc iX6_readImport_107 (zcc iX6_readImport_108 (zcc iX6_readImport_109 (zcc iX6_readImport_110 (zcc iX6_readImport_113 (zcc iX6_readImport_114 (zcc iX6_readImport_115 (zcc iX6_readImport_118 (zcc iX6_readImport_121 (zcc iX6_readImport_122 (zcc iX6_readImport_125 (zcc iX6_readImport_128 (zcc iX6_readImport_129 (zcc iX6_readImport_130 (zcc iX6_readImport_133 (zcc iX6_readImport_134 (zcc iX6_readImport_135 (zcc iX6_readImport_138 (zcc iX6_readImport_139 (zcc iX6_readImport_140 (zcc iX6_readImport_143 (zcc iX6_readImport_144 (zcc iX6_readImport_147 (zcc iX6_readImport_148 (zcc iX6_readImport_151 (zcc iX6_readImport_152 (zcc iX6_readImport_155 (zcc iX6_readImport_156 (zcc iX6_readImport_159 (zcc iX6_readImport_160 (zcc iX6_readImport_163 (zcc iX6_readImport_164 (zcc iX6_readImport_165 (zcc iX6_readImport_168 zcn))))))))))))))))))))))))))))))))))))))))))))))))))))))))))))))))))))))))))))
theorem iX1_readBody_0 : zSnd zZC zmX1_readBody 0 (o_aload 0 1) := s_aload_n (k := 0) (by decide +kernel) rfl
theorem iX1_readBody_1 : zSnd zZC zmX1_readBody 1 (o_getf zYC 4 0 4) := s_getf zcX1 fX1_25 (by decide +kernel) (by decide +kernel)
set_option maxRecDepth 20000 in
theorem iX1_readBody_4 : zSnd zZC zmX1_readBody 4 (o_callV zZC 1 zmX4_enter 0 1 7) := s_callVN (idx := 56) zcX4 calX4_enter virX4_enter dscX4_enter (by decide +kernel) (zNW3 75 rfl rfl) (by decide +kernel)
theorem iX1_readBody_7 : zSnd zZC zmX1_readBody 7 (o_istore 2 8) := s_istore_n (k := 2) (by decide +kernel) rfl (by decide +kernel)
theorem iX1_readBody_8 : zSnd zZC zmX1_readBody 8 (o_aload 0 9) := s_aload_n (k := 0) (by decide +kernel) rfl
theorem iX1_readBody_9 : zSnd zZC zmX1_readBody 9 (o_getf zYC 4 1 12) := s_getf zcX1 fX1_29 (by decide +kernel) (by decide +kernel)
theorem iX1_readBody_12 : zSnd zZC zmX1_readBody 12 (o_aload 0 13) := s_aload_n (k := 0) (by decide +kernel) rfl
theorem iX1_readBody_13 : zSnd zZC zmX1_readBody 13 (o_getf zYC 4 1 16) := s_getf zcX1 fX1_29 (by decide +kernel) (by decide +kernel)
theorem iX1_readBody_16 : zSnd zZC zmX1_readBody 16 (o_getf zYC 2 9 19) := s_getf zcX2 fX1_62 (by decide +kernel) (by decide +kernel)
theorem iX1_readBody_19 : zSnd zZC zmX1_readBody 19 (o_iload 1 20) := s_iload_n (k := 1) (by decide +kernel) rfl
theorem iX1_readBody_20 : zSnd zZC zmX1_readBody 20 (o_ibin (fun x y => x + y) 21) := s_iadd (by decide +kernel)
theorem iX1_readBody_21 : zSnd zZC zmX1_readBody 21 (o_i2l 22) := s_i2l (by decide +kernel)
set_option maxRecDepth 20000 in
theorem iX1_readBody_22 : zSnd zZC zmX1_readBody 22 (o_callV zZC 2 zmX2_signatureOf 1 1 25) := s_callVN (idx := 67) zcX2 calX2_signatureOf virX2_signatureOf dscX2_signatureOf (by decide +kernel) (zNW3 76 rfl rfl) (by decide +kernel)
theorem iX1_readBody_25 : zSnd zZC zmX1_readBody 25 (o_istore 3 26) := s_istore_n (k := 3) (by decide +kernel) rfl (by decide +kernel)
theorem iX1_readBody_26 : zSnd zZC zmX1_readBody 26 (o_iload 3 27) := s_iload_n (k := 3) (by decide +kernel) rfl
theorem iX1_readBody_27 : zSnd zZC zmX1_readBody 27 (o_if0 (fun x => 0 ≤ x) 35 30) := s_if_ge (off := 8) (by decide +kernel) (by decide +kernel)
theorem iX1_readBody_30 : zSnd zZC zmX1_readBody 30 (o_aload 0 31) := s_aload_n (k := 0) (by decide +kernel) rfl
theorem iX1_readBody_31 : zSnd zZC zmX1_readBody 31 (o_ic 0 32) := s_iconst (i := 0) (by decide +kernel) (by decide +kernel)
theorem iX1_readBody_32 : zSnd zZC zmX1_readBody 32 (o_putZ zYC 4 6 35) := s_putZ zcX1 fX1_52 (by decide +kernel) rfl rfl (by decide +kernel)
theorem iX1_readBody_35 : zSnd zZC zmX1_readBody 35 (o_aload 0 36) := s_aload_n (k := 0) (by decide +kernel) rfl
theorem iX1_readBody_36 : zSnd zZC zmX1_readBody 36 (o_getf zYC 4 4 39) := s_getf zcX1 fX1_42 (by decide +kernel) (by decide +kernel)
theorem iX1_readBody_39 : zSnd zZC zmX1_readBody 39 (o_iload 3 40) := s_iload_n (k := 3) (by decide +kernel) rfl
set_option maxRecDepth 20000 in
theorem iX1_readBody_40 : zSnd zZC zmX1_readBody 40 (o_callV zZC 7 zmX7_begin 1 0 43) := s_callVN (idx := 71) zcX7 calX7_begin virX7_begin dscX7_begin (by decide +kernel) (zNW3 77 rfl rfl) (by decide +kernel)
theorem iX1_readBody_43 : zSnd zZC zmX1_readBody 43 (o_aload 0 44) := s_aload_n (k := 0) (by decide +kernel) rfl
set_option maxRecDepth 20000 in
theorem iX1_readBody_44 : zSnd zZC zmX1_readBody 44 (o_callV zZC 4 zmX1_readGroups 0 0 47) := s_callV (idx := 75) zcX1 calX1_readGroups virX1_readGroups dscX1_readGroups (by decide +kernel) (zWS3 99 rfl rfl) (by decide +kernel)
theorem iX1_readBody_47 : zSnd zZC zmX1_readBody 47 (o_aload 0 48) := s_aload_n (k := 0) (by decide +kernel) rfl
theorem iX1_readBody_48 : zSnd zZC zmX1_readBody 48 (o_getf zYC 4 5 51) := s_getf zcX1 fX1_33 (by decide +kernel) (by decide +kernel)
theorem iX1_readBody_51 : zSnd zZC zmX1_readBody 51 (o_iload 1 52) := s_iload_n (k := 1) (by decide +kernel) rfl
theorem iX1_readBody_52 : zSnd zZC zmX1_readBody 52 (o_aload 0 53) := s_aload_n (k := 0) (by decide +kernel) rfl
theorem iX1_readBody_53 : zSnd zZC zmX1_readBody 53 (o_getf zYC 4 4 56) := s_getf zcX1 fX1_42 (by decide +kernel) (by decide +kernel)
theorem iX1_readBody_56 : zSnd zZC zmX1_readBody 56 (o_getf zYC 7 3 59) := s_getf zcX7 fX1_78 (by decide +kernel) (by decide +kernel)
set_option maxRecDepth 20000 in
theorem iX1_readBody_59 : zSnd zZC zmX1_readBody 59 (o_callV zZC 8 zmX0_beginBody 2 0 62) := s_callVN (idx := 81) zcX0 calX0_beginBody virX0_beginBody dscX0_beginBody (by decide +kernel) (zNW3 109 rfl rfl) (by decide +kernel)
theorem iX1_readBody_62 : zSnd zZC zmX1_readBody 62 (o_ic 0 63) := s_iconst (i := 0) (by decide +kernel) (by decide +kernel)
theorem iX1_readBody_63 : zSnd zZC zmX1_readBody 63 (o_istore 4 65) := s_istore (by decide +kernel) (by decide +kernel)
theorem iX1_readBody_65 : zSnd zZC zmX1_readBody 65 (o_iload 4 67) := s_iload (by decide +kernel)
theorem iX1_readBody_67 : zSnd zZC zmX1_readBody 67 (o_ic 16000 70) := s_sipush (i := 16000) (by decide +kernel) (by decide +kernel)
theorem iX1_readBody_70 : zSnd zZC zmX1_readBody 70 (o_icmp (fun x y => y ≤ x) 103 73) := s_icmp_ge (off := 33) (by decide +kernel) (by decide +kernel)
theorem iX1_readBody_73 : zSnd zZC zmX1_readBody 73 (o_aload 0 74) := s_aload_n (k := 0) (by decide +kernel) rfl
theorem iX1_readBody_74 : zSnd zZC zmX1_readBody 74 (o_getf zYC 4 2 77) := s_getf zcX1 fX1_12 (by decide +kernel) (by decide +kernel)
theorem iX1_readBody_77 : zSnd zZC zmX1_readBody 77 (o_getf zYC 5 5 80) := s_getf zcX3 fX1_85 (by decide +kernel) (by decide +kernel)
theorem iX1_readBody_80 : zSnd zZC zmX1_readBody 80 (o_if0 (fun x => x < 0) 103 83) := s_if_lt (off := 23) (by decide +kernel) (by decide +kernel)
theorem iX1_readBody_83 : zSnd zZC zmX1_readBody 83 (o_aload 0 84) := s_aload_n (k := 0) (by decide +kernel) rfl
theorem iX1_readBody_84 : zSnd zZC zmX1_readBody 84 (o_getf zYC 4 0 87) := s_getf zcX1 fX1_25 (by decide +kernel) (by decide +kernel)
theorem iX1_readBody_87 : zSnd zZC zmX1_readBody 87 (o_getf zYC 1 4 90) := s_getf zcX4 fX1_88 (by decide +kernel) (by decide +kernel)
theorem iX1_readBody_90 : zSnd zZC zmX1_readBody 90 (o_if0 (fun x => x = 0) 93 103) := s_if_ne (off := 13) (by decide +kernel) (by decide +kernel)
theorem iX1_readBody_93 : zSnd zZC zmX1_readBody 93 (o_aload 0 94) := s_aload_n (k := 0) (by decide +kernel) rfl
set_option maxRecDepth 20000 in
theorem iX1_readBody_94 : zSnd zZC zmX1_readBody 94 (o_callV zZC 4 zmX1_readInstruction 0 0 97) := s_callV (idx := 91) zcX1 calX1_readInstruction virX1_readInstruction dscX1_readInstruction (by decide +kernel) (zWS3 113 rfl rfl) (by decide +kernel)
theorem iX1_readBody_97 : zSnd zZC zmX1_readBody 97 (o_iinc 4 1 100) := s_iinc (a := 1) (by decide +kernel) (by decide +kernel) (by decide +kernel)
theorem iX1_readBody_100 : zSnd zZC zmX1_readBody 100 (o_goto 65) := s_goto (off := (-35)) (by decide +kernel) (by decide +kernel)
theorem iX1_readBody_103 : zSnd zZC zmX1_readBody 103 (o_aload 0 104) := s_aload_n (k := 0) (by decide +kernel) rfl
theorem iX1_readBody_104 : zSnd zZC zmX1_readBody 104 (o_getf zYC 4 5 107) := s_getf zcX1 fX1_33 (by decide +kernel) (by decide +kernel)
theorem iX1_readBody_107 : zSnd zZC zmX1_readBody 107 (o_iload 1 108) := s_iload_n (k := 1) (by decide +kernel) rfl
set_option maxRecDepth 20000 in
theorem iX1_readBody_108 : zSnd zZC zmX1_readBody 108 (o_callV zZC 8 zmX0_endBody 1 0 111) := s_callVN (idx := 94) zcX0 calX0_endBody virX0_endBody dscX0_endBody (by decide +kernel) (zNW4 28 rfl rfl) (by decide +kernel)
theorem iX1_readBody_111 : zSnd zZC zmX1_readBody 111 (o_aload 0 112) := s_aload_n (k := 0) (by decide +kernel) rfl
theorem iX1_readBody_112 : zSnd zZC zmX1_readBody 112 (o_getf zYC 4 0 115) := s_getf zcX1 fX1_25 (by decide +kernel) (by decide +kernel)
theorem iX1_readBody_115 : zSnd zZC zmX1_readBody 115 (o_iload 2 116) := s_iload_n (k := 2) (by decide +kernel) rfl
set_option maxRecDepth 20000 in
theorem iX1_readBody_116 : zSnd zZC zmX1_readBody 116 (o_callV zZC 1 zmX4_leave 1 0 119) := s_callVN (idx := 97) zcX4 calX4_leave virX4_leave dscX4_leave (by decide +kernel) (zNW4 32 rfl rfl) (by decide +kernel)
theorem iX1_readBody_119 : zSnd zZC zmX1_readBody 119 (o_vret) := s_vret rfl (by decide +kernel)
def kX1_readBody : List (Nat × zOp) := [(0, o_aload 0 1),
  (1, o_getf zYC 4 0 4),
  (4, o_callV zZC 1 zmX4_enter 0 1 7),
  (7, o_istore 2 8),
  (8, o_aload 0 9),
  (9, o_getf zYC 4 1 12),
  (12, o_aload 0 13),
  (13, o_getf zYC 4 1 16),
  (16, o_getf zYC 2 9 19),
  (19, o_iload 1 20),
  (20, o_ibin (fun x y => x + y) 21),
  (21, o_i2l 22),
  (22, o_callV zZC 2 zmX2_signatureOf 1 1 25),
  (25, o_istore 3 26),
  (26, o_iload 3 27),
  (27, o_if0 (fun x => 0 ≤ x) 35 30),
  (30, o_aload 0 31),
  (31, o_ic 0 32),
  (32, o_putZ zYC 4 6 35),
  (35, o_aload 0 36),
  (36, o_getf zYC 4 4 39),
  (39, o_iload 3 40),
  (40, o_callV zZC 7 zmX7_begin 1 0 43),
  (43, o_aload 0 44),
  (44, o_callV zZC 4 zmX1_readGroups 0 0 47),
  (47, o_aload 0 48),
  (48, o_getf zYC 4 5 51),
  (51, o_iload 1 52),
  (52, o_aload 0 53),
  (53, o_getf zYC 4 4 56),
  (56, o_getf zYC 7 3 59),
  (59, o_callV zZC 8 zmX0_beginBody 2 0 62),
  (62, o_ic 0 63),
  (63, o_istore 4 65),
  (65, o_iload 4 67),
  (67, o_ic 16000 70),
  (70, o_icmp (fun x y => y ≤ x) 103 73),
  (73, o_aload 0 74),
  (74, o_getf zYC 4 2 77),
  (77, o_getf zYC 5 5 80),
  (80, o_if0 (fun x => x < 0) 103 83),
  (83, o_aload 0 84),
  (84, o_getf zYC 4 0 87),
  (87, o_getf zYC 1 4 90),
  (90, o_if0 (fun x => x = 0) 93 103),
  (93, o_aload 0 94),
  (94, o_callV zZC 4 zmX1_readInstruction 0 0 97),
  (97, o_iinc 4 1 100),
  (100, o_goto 65),
  (103, o_aload 0 104),
  (104, o_getf zYC 4 5 107),
  (107, o_iload 1 108),
  (108, o_callV zZC 8 zmX0_endBody 1 0 111),
  (111, o_aload 0 112),
  (112, o_getf zYC 4 0 115),
  (115, o_iload 2 116),
  (116, o_callV zZC 1 zmX4_leave 1 0 119),
  (119, o_vret)]
set_option maxRecDepth 100000 in
theorem ksX1_readBody : ∀ q ∈ kX1_readBody, zSnd zZC zmX1_readBody q.1 q.2 := zcc iX1_readBody_0 (zcc iX1_readBody_1 (zcc iX1_readBody_4 (zcc iX1_readBody_7 (zcc iX1_readBody_8 (zcc iX1_readBody_9 (zcc iX1_readBody_12 (zcc iX1_readBody_13 (zcc iX1_readBody_16 (zcc iX1_readBody_19 (zcc iX1_readBody_20 (zcc iX1_readBody_21 (zcc iX1_readBody_22 (zcc iX1_readBody_25 (zcc iX1_readBody_26 (zcc iX1_readBody_27 (zcc iX1_readBody_30 (zcc iX1_readBody_31 (zcc iX1_readBody_32 (zcc iX1_readBody_35 (zcc iX1_readBody_36 (zcc iX1_readBody_39 (zcc iX1_readBody_40 (zcc iX1_readBody_43 (zcc iX1_readBody_44 (zcc iX1_readBody_47 (zcc iX1_readBody_48 (zcc iX1_readBody_51 (zcc iX1_readBody_52 (zcc iX1_readBody_53 (zcc iX1_readBody_56 (zcc iX1_readBody_59 (zcc iX1_readBody_62 (zcc iX1_readBody_63 (zcc iX1_readBody_65 (zcc iX1_readBody_67 (zcc iX1_readBody_70 (zcc iX1_readBody_73 (zcc iX1_readBody_74 (zcc iX1_readBody_77 (zcc iX1_readBody_80 (zcc iX1_readBody_83 (zcc iX1_readBody_84 (zcc iX1_readBody_87 (zcc iX1_readBody_90 (zcc iX1_readBody_93 (zcc iX1_readBody_94 (zcc iX1_readBody_97 (zcc iX1_readBody_100 (zcc iX1_readBody_103 (zcc iX1_readBody_104 (zcc iX1_readBody_107 (zcc iX1_readBody_108 (zcc iX1_readBody_111 (zcc iX1_readBody_112 (zcc iX1_readBody_115 (zcc iX1_readBody_116 (zcc iX1_readBody_119 zcn)))))))))))))))))))))))))))))))))))))))))))))))))))))))))
theorem iX6_readSection_0 : zSnd zZC zmX6_readSection 0 (o_aload 0 1) := s_aload_n (k := 0) (by decide +kernel) rfl
set_option maxRecDepth 20000 in
theorem iX6_readSection_1 : zSnd zZC zmX6_readSection 1 (o_callV zZC 3 zmX6_readSectionNumber 0 1 4) := s_callV (idx := 72) zcX6 calX6_readSectionNumber virX6_readSectionNumber dscX6_readSectionNumber (by decide +kernel) (zWS2 146 rfl rfl) (by decide +kernel)
theorem iX6_readSection_4 : zSnd zZC zmX6_readSection 4 (o_istore 1 5) := s_istore_n (k := 1) (by decide +kernel) rfl (by decide +kernel)
theorem iX6_readSection_5 : zSnd zZC zmX6_readSection 5 (o_aload 0 6) := s_aload_n (k := 0) (by decide +kernel) rfl
theorem iX6_readSection_6 : zSnd zZC zmX6_readSection 6 (o_getf zYC 3 0 9) := s_getf zcX6 fX6_18 (by decide +kernel) (by decide +kernel)
set_option maxRecDepth 20000 in
theorem iX6_readSection_9 : zSnd zZC zmX6_readSection 9 (o_callV zZC 1 zmX4_enter 0 1 12) := s_callVN (idx := 76) zcX4 calX4_enter virX4_enter dscX4_enter (by decide +kernel) (zNW2 153 rfl rfl) (by decide +kernel)
theorem iX6_readSection_12 : zSnd zZC zmX6_readSection 12 (o_istore 2 13) := s_istore_n (k := 2) (by decide +kernel) rfl (by decide +kernel)
theorem iX6_readSection_13 : zSnd zZC zmX6_readSection 13 (o_iload 1 14) := s_iload_n (k := 1) (by decide +kernel) rfl
set_option maxRecDepth 20000 in
theorem iX6_readSection_14 : zSnd zZC zmX6_readSection 14 (o_callS zZC zmX6_isRow 1 1 17) := s_callS (idx := 79) calX6_isRow virX6_isRow dscX6_isRow (by decide +kernel) (zWS2 165 rfl rfl) (by decide +kernel)
theorem iX6_readSection_17 : zSnd zZC zmX6_readSection 17 (o_if0 (fun x => x = 0) 30 20) := s_if_eq (off := 13) (by decide +kernel) (by decide +kernel)
theorem iX6_readSection_20 : zSnd zZC zmX6_readSection 20 (o_aload 0 21) := s_aload_n (k := 0) (by decide +kernel) rfl
theorem iX6_readSection_21 : zSnd zZC zmX6_readSection 21 (o_getf zYC 3 0 24) := s_getf zcX6 fX6_18 (by decide +kernel) (by decide +kernel)
set_option maxRecDepth 20000 in
theorem iX6_readSection_24 : zSnd zZC zmX6_readSection 24 (o_callV zZC 1 zmX4_rowLength 0 1 27) := s_callVN (idx := 83) zcX4 calX4_rowLength virX4_rowLength dscX4_rowLength (by decide +kernel) (zNW2 168 rfl rfl) (by decide +kernel)
theorem iX6_readSection_27 : zSnd zZC zmX6_readSection 27 (o_goto 31) := s_goto (off := 4) (by decide +kernel) (by decide +kernel)
theorem iX6_readSection_30 : zSnd zZC zmX6_readSection 30 (o_ic 1 31) := s_iconst (i := 1) (by decide +kernel) (by decide +kernel)
theorem iX6_readSection_31 : zSnd zZC zmX6_readSection 31 (o_istore 3 32) := s_istore_n (k := 3) (by decide +kernel) rfl (by decide +kernel)
theorem iX6_readSection_32 : zSnd zZC zmX6_readSection 32 (o_ic 0 33) := s_iconst (i := 0) (by decide +kernel) (by decide +kernel)
theorem iX6_readSection_33 : zSnd zZC zmX6_readSection 33 (o_istore 4 35) := s_istore (by decide +kernel) (by decide +kernel)
theorem iX6_readSection_35 : zSnd zZC zmX6_readSection 35 (o_iload 4 37) := s_iload (by decide +kernel)
theorem iX6_readSection_37 : zSnd zZC zmX6_readSection 37 (o_iload 3 38) := s_iload_n (k := 3) (by decide +kernel) rfl
theorem iX6_readSection_38 : zSnd zZC zmX6_readSection 38 (o_icmp (fun x y => y ≤ x) 258 41) := s_icmp_ge (off := 220) (by decide +kernel) (by decide +kernel)
theorem iX6_readSection_41 : zSnd zZC zmX6_readSection 41 (o_aload 0 42) := s_aload_n (k := 0) (by decide +kernel) rfl
theorem iX6_readSection_42 : zSnd zZC zmX6_readSection 42 (o_getf zYC 3 0 45) := s_getf zcX6 fX6_18 (by decide +kernel) (by decide +kernel)
theorem iX6_readSection_45 : zSnd zZC zmX6_readSection 45 (o_getf zYC 1 4 48) := s_getf zcX4 fX6_59 (by decide +kernel) (by decide +kernel)
theorem iX6_readSection_48 : zSnd zZC zmX6_readSection 48 (o_if0 (fun x => x = 0) 51 258) := s_if_ne (off := 210) (by decide +kernel) (by decide +kernel)
theorem iX6_readSection_51 : zSnd zZC zmX6_readSection 51 (o_aload 0 52) := s_aload_n (k := 0) (by decide +kernel) rfl
theorem iX6_readSection_52 : zSnd zZC zmX6_readSection 52 (o_iload 4 54) := s_iload (by decide +kernel)
set_option maxRecDepth 20000 in
theorem iX6_readSection_54 : zSnd zZC zmX6_readSection 54 (o_gets zt_MOST_ITEMS_k 57) := s_getsN zt_MOST_ITEMS_Z (zNW2 176 rfl rfl) (by decide +kernel)
theorem iX6_readSection_57 : zSnd zZC zmX6_readSection 57 (o_iload 1 58) := s_iload_n (k := 1) (by decide +kernel) rfl
theorem iX6_readSection_58 : zSnd zZC zmX6_readSection 58 (o_tald zt_MOST_ITEMS_f zt_MOST_ITEMS_n zt_MOST_ITEMS_k 59) := s_tald zt_MOST_ITEMS_T (by decide +kernel)
set_option maxRecDepth 20000 in
theorem iX6_readSection_59 : zSnd zZC zmX6_readSection 59 (o_callV zZC 3 zmX6_refuseBeyond 2 0 62) := s_callV (idx := 89) zcX6 calX6_refuseBeyond virX6_refuseBeyond dscX6_refuseBeyond (by decide +kernel) (zWS2 178 rfl rfl) (by decide +kernel)
theorem iX6_readSection_62 : zSnd zZC zmX6_readSection 62 (o_iload 1 63) := s_iload_n (k := 1) (by decide +kernel) rfl
theorem iX6_readSection_63 : zSnd zZC zmX6_readSection 63 (o_sw [([1], 124), ([2], 131), ([3], 138), ([4], 146), ([5], 153), ([6], 160), ([7], 167), ([8], 174), ([9], 181), ([10], 188), ([11], 200), ([12], 207)] 224) := s_tsw (dflt := 161) (lo := 1) (hi := 12) (offs := #[61, 68, 75, 83, 90, 97, 104, 111, 118, 125, 137, 144]) (len := 61) (by decide +kernel) (by decide +kernel) (by decide +kernel) (by decide +kernel)
theorem iX6_readSection_124 : zSnd zZC zmX6_readSection 124 (o_aload 0 125) := s_aload_n (k := 0) (by decide +kernel) rfl
set_option maxRecDepth 20000 in
theorem iX6_readSection_125 : zSnd zZC zmX6_readSection 125 (o_callV zZC 3 zmX6_readSignature 0 0 128) := s_callV (idx := 93) zcX6 calX6_readSignature virX6_readSignature dscX6_readSignature (by decide +kernel) (zWS2 182 rfl rfl) (by decide +kernel)
theorem iX6_readSection_128 : zSnd zZC zmX6_readSection 128 (o_goto 239) := s_goto (off := 111) (by decide +kernel) (by decide +kernel)
theorem iX6_readSection_131 : zSnd zZC zmX6_readSection 131 (o_aload 0 132) := s_aload_n (k := 0) (by decide +kernel) rfl
set_option maxRecDepth 20000 in
theorem iX6_readSection_132 : zSnd zZC zmX6_readSection 132 (o_callV zZC 3 zmX6_readImport 0 0 135) := s_callV (idx := 96) zcX6 calX6_readImport virX6_readImport dscX6_readImport (by decide +kernel) (zWS2 195 rfl rfl) (by decide +kernel)
theorem iX6_readSection_135 : zSnd zZC zmX6_readSection 135 (o_goto 239) := s_goto (off := 104) (by decide +kernel) (by decide +kernel)
theorem iX6_readSection_138 : zSnd zZC zmX6_readSection 138 (o_aload 0 139) := s_aload_n (k := 0) (by decide +kernel) rfl
theorem iX6_readSection_139 : zSnd zZC zmX6_readSection 139 (o_ic 1 140) := s_iconst (i := 1) (by decide +kernel) (by decide +kernel)
set_option maxRecDepth 20000 in
theorem iX6_readSection_140 : zSnd zZC zmX6_readSection 140 (o_callV zZC 3 zmX6_readSignatureOfFunction 1 0 143) := s_callV (idx := 99) zcX6 calX6_readSignatureOfFunction virX6_readSignatureOfFunction dscX6_readSignatureOfFunction (by decide +kernel) (zWS2 208 rfl rfl) (by decide +kernel)
theorem iX6_readSection_143 : zSnd zZC zmX6_readSection 143 (o_goto 239) := s_goto (off := 96) (by decide +kernel) (by decide +kernel)
theorem iX6_readSection_146 : zSnd zZC zmX6_readSection 146 (o_aload 0 147) := s_aload_n (k := 0) (by decide +kernel) rfl
set_option maxRecDepth 20000 in
theorem iX6_readSection_147 : zSnd zZC zmX6_readSection 147 (o_callV zZC 3 zmX6_readTable 0 0 150) := s_callV (idx := 102) zcX6 calX6_readTable virX6_readTable dscX6_readTable (by decide +kernel) (zWS2 238 rfl rfl) (by decide +kernel)
theorem iX6_readSection_150 : zSnd zZC zmX6_readSection 150 (o_goto 239) := s_goto (off := 89) (by decide +kernel) (by decide +kernel)
theorem iX6_readSection_153 : zSnd zZC zmX6_readSection 153 (o_aload 0 154) := s_aload_n (k := 0) (by decide +kernel) rfl
set_option maxRecDepth 20000 in
theorem iX6_readSection_154 : zSnd zZC zmX6_readSection 154 (o_callV zZC 3 zmX6_readMemory 0 0 157) := s_callV (idx := 105) zcX6 calX6_readMemory virX6_readMemory dscX6_readMemory (by decide +kernel) (zWS3 2 rfl rfl) (by decide +kernel)
theorem iX6_readSection_157 : zSnd zZC zmX6_readSection 157 (o_goto 239) := s_goto (off := 82) (by decide +kernel) (by decide +kernel)
theorem iX6_readSection_160 : zSnd zZC zmX6_readSection 160 (o_aload 0 161) := s_aload_n (k := 0) (by decide +kernel) rfl
set_option maxRecDepth 20000 in
theorem iX6_readSection_161 : zSnd zZC zmX6_readSection 161 (o_callV zZC 3 zmX6_readGlobal 0 0 164) := s_callV (idx := 108) zcX6 calX6_readGlobal virX6_readGlobal dscX6_readGlobal (by decide +kernel) (zWS3 6 rfl rfl) (by decide +kernel)
theorem iX6_readSection_164 : zSnd zZC zmX6_readSection 164 (o_goto 239) := s_goto (off := 75) (by decide +kernel) (by decide +kernel)
theorem iX6_readSection_167 : zSnd zZC zmX6_readSection 167 (o_aload 0 168) := s_aload_n (k := 0) (by decide +kernel) rfl
set_option maxRecDepth 20000 in
theorem iX6_readSection_168 : zSnd zZC zmX6_readSection 168 (o_callV zZC 3 zmX6_readExport 0 0 171) := s_callV (idx := 111) zcX6 calX6_readExport virX6_readExport dscX6_readExport (by decide +kernel) (zWS3 31 rfl rfl) (by decide +kernel)
theorem iX6_readSection_171 : zSnd zZC zmX6_readSection 171 (o_goto 239) := s_goto (off := 68) (by decide +kernel) (by decide +kernel)
theorem iX6_readSection_174 : zSnd zZC zmX6_readSection 174 (o_aload 0 175) := s_aload_n (k := 0) (by decide +kernel) rfl
set_option maxRecDepth 20000 in
theorem iX6_readSection_175 : zSnd zZC zmX6_readSection 175 (o_callV zZC 3 zmX6_readStart 0 0 178) := s_callV (idx := 114) zcX6 calX6_readStart virX6_readStart dscX6_readStart (by decide +kernel) (zWS3 47 rfl rfl) (by decide +kernel)
theorem iX6_readSection_178 : zSnd zZC zmX6_readSection 178 (o_goto 239) := s_goto (off := 61) (by decide +kernel) (by decide +kernel)
theorem iX6_readSection_181 : zSnd zZC zmX6_readSection 181 (o_aload 0 182) := s_aload_n (k := 0) (by decide +kernel) rfl
set_option maxRecDepth 20000 in
theorem iX6_readSection_182 : zSnd zZC zmX6_readSection 182 (o_callV zZC 3 zmX6_readElement 0 0 185) := s_callV (idx := 117) zcX6 calX6_readElement virX6_readElement dscX6_readElement (by decide +kernel) (zWS3 63 rfl rfl) (by decide +kernel)
theorem iX6_readSection_185 : zSnd zZC zmX6_readSection 185 (o_goto 239) := s_goto (off := 54) (by decide +kernel) (by decide +kernel)
theorem iX6_readSection_188 : zSnd zZC zmX6_readSection 188 (o_aload 0 189) := s_aload_n (k := 0) (by decide +kernel) rfl
theorem iX6_readSection_189 : zSnd zZC zmX6_readSection 189 (o_getf zYC 3 2 192) := s_getf zcX6 fX6_31 (by decide +kernel) (by decide +kernel)
theorem iX6_readSection_192 : zSnd zZC zmX6_readSection 192 (o_iload 4 194) := s_iload (by decide +kernel)
set_option maxRecDepth 20000 in
theorem iX6_readSection_194 : zSnd zZC zmX6_readSection 194 (o_callV zZC 4 zmX1_readBody 1 0 197) := s_callVN (idx := 120) zcX1 calX1_readBody virX1_readBody dscX1_readBody (by decide +kernel) (zNW3 71 rfl rfl) (by decide +kernel)
theorem iX6_readSection_197 : zSnd zZC zmX6_readSection 197 (o_goto 239) := s_goto (off := 42) (by decide +kernel) (by decide +kernel)
theorem iX6_readSection_200 : zSnd zZC zmX6_readSection 200 (o_aload 0 201) := s_aload_n (k := 0) (by decide +kernel) rfl
set_option maxRecDepth 20000 in
theorem iX6_readSection_201 : zSnd zZC zmX6_readSection 201 (o_callV zZC 3 zmX6_readData 0 0 204) := s_callV (idx := 123) zcX6 calX6_readData virX6_readData dscX6_readData (by decide +kernel) (zWS4 36 rfl rfl) (by decide +kernel)
theorem iX6_readSection_204 : zSnd zZC zmX6_readSection 204 (o_goto 239) := s_goto (off := 35) (by decide +kernel) (by decide +kernel)
theorem iX6_readSection_207 : zSnd zZC zmX6_readSection 207 (o_aload 0 208) := s_aload_n (k := 0) (by decide +kernel) rfl
theorem iX6_readSection_208 : zSnd zZC zmX6_readSection 208 (o_getf zYC 3 1 211) := s_getf zcX6 fX6_22 (by decide +kernel) (by decide +kernel)
theorem iX6_readSection_211 : zSnd zZC zmX6_readSection 211 (o_aload 0 212) := s_aload_n (k := 0) (by decide +kernel) rfl
theorem iX6_readSection_212 : zSnd zZC zmX6_readSection 212 (o_getf zYC 3 0 215) := s_getf zcX6 fX6_18 (by decide +kernel) (by decide +kernel)
set_option maxRecDepth 20000 in
theorem iX6_readSection_215 : zSnd zZC zmX6_readSection 215 (o_callV zZC 1 zmX4_number 0 2 218) := s_callVN (idx := 126) zcX4 calX4_number virX4_number dscX4_number (by decide +kernel) (zNW2 212 rfl rfl) (by decide +kernel)
theorem iX6_readSection_218 : zSnd zZC zmX6_readSection 218 (o_putL zYC 2 14 221) := s_putL zcX2 fX6_130 (by decide +kernel) rfl rfl (by decide +kernel)
theorem iX6_readSection_221 : zSnd zZC zmX6_readSection 221 (o_goto 239) := s_goto (off := 18) (by decide +kernel) (by decide +kernel)
theorem iX6_readSection_224 : zSnd zZC zmX6_readSection 224 (o_aload 0 225) := s_aload_n (k := 0) (by decide +kernel) rfl
theorem iX6_readSection_225 : zSnd zZC zmX6_readSection 225 (o_getf zYC 3 0 228) := s_getf zcX6 fX6_18 (by decide +kernel) (by decide +kernel)
set_option maxRecDepth 20000 in
theorem iX6_readSection_228 : zSnd zZC zmX6_readSection 228 (o_callV zZC 1 zmX4_name 0 1 231) := s_callVN (idx := 134) zcX4 calX4_name virX4_name dscX4_name (by decide +kernel) (zNW4 41 rfl rfl) (by decide +kernel)
theorem iX6_readSection_231 : zSnd zZC zmX6_readSection 231 (o_pop 232) := s_pop (by decide +kernel)
theorem iX6_readSection_232 : zSnd zZC zmX6_readSection 232 (o_aload 0 233) := s_aload_n (k := 0) (by decide +kernel) rfl
theorem iX6_readSection_233 : zSnd zZC zmX6_readSection 233 (o_getf zYC 3 0 236) := s_getf zcX6 fX6_18 (by decide +kernel) (by decide +kernel)
set_option maxRecDepth 20000 in
theorem iX6_readSection_236 : zSnd zZC zmX6_readSection 236 (o_callV zZC 1 zmX4_skipRest 0 0 239) := s_callVN (idx := 137) zcX4 calX4_skipRest virX4_skipRest dscX4_skipRest (by decide +kernel) (zNW4 42 rfl rfl) (by decide +kernel)
theorem iX6_readSection_239 : zSnd zZC zmX6_readSection 239 (o_aload 0 240) := s_aload_n (k := 0) (by decide +kernel) rfl
theorem iX6_readSection_240 : zSnd zZC zmX6_readSection 240 (o_getf zYC 3 1 243) := s_getf zcX6 fX6_22 (by decide +kernel) (by decide +kernel)
theorem iX6_readSection_243 : zSnd zZC zmX6_readSection 243 (o_getf zYC 2 7 246) := s_getf zcX2 fX6_140 (by decide +kernel) (by decide +kernel)
theorem iX6_readSection_246 : zSnd zZC zmX6_readSection 246 (o_iload 1 247) := s_iload_n (k := 1) (by decide +kernel) rfl
theorem iX6_readSection_247 : zSnd zZC zmX6_readSection 247 (o_dup2 248) := s_dup2 (by decide +kernel)
theorem iX6_readSection_248 : zSnd zZC zmX6_readSection 248 (o_ald zYC .int 249) := s_iald (by decide +kernel)
theorem iX6_readSection_249 : zSnd zZC zmX6_readSection 249 (o_ic 1 250) := s_iconst (i := 1) (by decide +kernel) (by decide +kernel)
theorem iX6_readSection_250 : zSnd zZC zmX6_readSection 250 (o_ibin (fun x y => x + y) 251) := s_iadd (by decide +kernel)
theorem iX6_readSection_251 : zSnd zZC zmX6_readSection 251 (o_ast zYC .int (fun x => x) 252) := s_iast (by decide +kernel)
theorem iX6_readSection_252 : zSnd zZC zmX6_readSection 252 (o_iinc 4 1 255) := s_iinc (a := 1) (by decide +kernel) (by decide +kernel) (by decide +kernel)
theorem iX6_readSection_255 : zSnd zZC zmX6_readSection 255 (o_goto 35) := s_goto (off := (-220)) (by decide +kernel) (by decide +kernel)
theorem iX6_readSection_258 : zSnd zZC zmX6_readSection 258 (o_aload 0 259) := s_aload_n (k := 0) (by decide +kernel) rfl
theorem iX6_readSection_259 : zSnd zZC zmX6_readSection 259 (o_getf zYC 3 0 262) := s_getf zcX6 fX6_18 (by decide +kernel) (by decide +kernel)
theorem iX6_readSection_262 : zSnd zZC zmX6_readSection 262 (o_iload 2 263) := s_iload_n (k := 2) (by decide +kernel) rfl
set_option maxRecDepth 20000 in
theorem iX6_readSection_263 : zSnd zZC zmX6_readSection 263 (o_callV zZC 1 zmX4_leave 1 0 266) := s_callVN (idx := 143) zcX4 calX4_leave virX4_leave dscX4_leave (by decide +kernel) (zNW4 49 rfl rfl) (by decide +kernel)
theorem iX6_readSection_266 : zSnd zZC zmX6_readSection 266 (o_aload 0 267) := s_aload_n (k := 0) (by decide +kernel) rfl
theorem iX6_readSection_267 : zSnd zZC zmX6_readSection 267 (o_iload 1 268) := s_iload_n (k := 1) (by decide +kernel) rfl
set_option maxRecDepth 20000 in
theorem iX6_readSection_268 : zSnd zZC zmX6_readSection 268 (o_callV zZC 3 zmX6_fit 1 0 271) := s_callV (idx := 68) zcX6 calX6_fit virX6_fit dscX6_fit (by decide +kernel) (zWS4 50 rfl rfl) (by decide +kernel)
theorem iX6_readSection_271 : zSnd zZC zmX6_readSection 271 (o_vret) := s_vret rfl (by decide +kernel)
def kX6_readSection : List (Nat × zOp) := [(0, o_aload 0 1),
  (1, o_callV zZC 3 zmX6_readSectionNumber 0 1 4),
  (4, o_istore 1 5),
  (5, o_aload 0 6),
  (6, o_getf zYC 3 0 9),
  (9, o_callV zZC 1 zmX4_enter 0 1 12),
  (12, o_istore 2 13),
  (13, o_iload 1 14),
  (14, o_callS zZC zmX6_isRow 1 1 17),
  (17, o_if0 (fun x => x = 0) 30 20),
  (20, o_aload 0 21),
  (21, o_getf zYC 3 0 24),
  (24, o_callV zZC 1 zmX4_rowLength 0 1 27),
  (27, o_goto 31),
  (30, o_ic 1 31),
  (31, o_istore 3 32),
  (32, o_ic 0 33),
  (33, o_istore 4 35),
  (35, o_iload 4 37),
  (37, o_iload 3 38),
  (38, o_icmp (fun x y => y ≤ x) 258 41),
  (41, o_aload 0 42),
  (42, o_getf zYC 3 0 45),
  (45, o_getf zYC 1 4 48),
  (48, o_if0 (fun x => x = 0) 51 258),
  (51, o_aload 0 52),
  (52, o_iload 4 54),
  (54, o_gets zt_MOST_ITEMS_k 57),
  (57, o_iload 1 58),
  (58, o_tald zt_MOST_ITEMS_f zt_MOST_ITEMS_n zt_MOST_ITEMS_k 59),
  (59, o_callV zZC 3 zmX6_refuseBeyond 2 0 62),
  (62, o_iload 1 63),
  (63, o_sw [([1], 124), ([2], 131), ([3], 138), ([4], 146), ([5], 153), ([6], 160), ([7], 167), ([8], 174), ([9], 181), ([10], 188), ([11], 200), ([12], 207)] 224),
  (124, o_aload 0 125),
  (125, o_callV zZC 3 zmX6_readSignature 0 0 128),
  (128, o_goto 239),
  (131, o_aload 0 132),
  (132, o_callV zZC 3 zmX6_readImport 0 0 135),
  (135, o_goto 239),
  (138, o_aload 0 139),
  (139, o_ic 1 140),
  (140, o_callV zZC 3 zmX6_readSignatureOfFunction 1 0 143),
  (143, o_goto 239),
  (146, o_aload 0 147),
  (147, o_callV zZC 3 zmX6_readTable 0 0 150),
  (150, o_goto 239),
  (153, o_aload 0 154),
  (154, o_callV zZC 3 zmX6_readMemory 0 0 157),
  (157, o_goto 239),
  (160, o_aload 0 161),
  (161, o_callV zZC 3 zmX6_readGlobal 0 0 164),
  (164, o_goto 239),
  (167, o_aload 0 168),
  (168, o_callV zZC 3 zmX6_readExport 0 0 171),
  (171, o_goto 239),
  (174, o_aload 0 175),
  (175, o_callV zZC 3 zmX6_readStart 0 0 178),
  (178, o_goto 239),
  (181, o_aload 0 182),
  (182, o_callV zZC 3 zmX6_readElement 0 0 185),
  (185, o_goto 239),
  (188, o_aload 0 189),
  (189, o_getf zYC 3 2 192),
  (192, o_iload 4 194),
  (194, o_callV zZC 4 zmX1_readBody 1 0 197),
  (197, o_goto 239),
  (200, o_aload 0 201),
  (201, o_callV zZC 3 zmX6_readData 0 0 204),
  (204, o_goto 239),
  (207, o_aload 0 208),
  (208, o_getf zYC 3 1 211),
  (211, o_aload 0 212),
  (212, o_getf zYC 3 0 215),
  (215, o_callV zZC 1 zmX4_number 0 2 218),
  (218, o_putL zYC 2 14 221),
  (221, o_goto 239),
  (224, o_aload 0 225),
  (225, o_getf zYC 3 0 228),
  (228, o_callV zZC 1 zmX4_name 0 1 231),
  (231, o_pop 232),
  (232, o_aload 0 233),
  (233, o_getf zYC 3 0 236),
  (236, o_callV zZC 1 zmX4_skipRest 0 0 239),
  (239, o_aload 0 240),
  (240, o_getf zYC 3 1 243),
  (243, o_getf zYC 2 7 246),
  (246, o_iload 1 247),
  (247, o_dup2 248),
  (248, o_ald zYC .int 249),
  (249, o_ic 1 250),
  (250, o_ibin (fun x y => x + y) 251),
  (251, o_ast zYC .int (fun x => x) 252),
  (252, o_iinc 4 1 255),
  (255, o_goto 35),
  (258, o_aload 0 259),
  (259, o_getf zYC 3 0 262),
  (262, o_iload 2 263),
  (263, o_callV zZC 1 zmX4_leave 1 0 266),
  (266, o_aload 0 267),
  (267, o_iload 1 268),
  (268, o_callV zZC 3 zmX6_fit 1 0 271),
  (271, o_vret)]
set_option maxRecDepth 100000 in
theorem ksX6_readSection : ∀ q ∈ kX6_readSection, zSnd zZC zmX6_readSection q.1 q.2 := zcc iX6_readSection_0 (zcc iX6_readSection_1 (zcc iX6_readSection_4 (zcc iX6_readSection_5 (zcc iX6_readSection_6 (zcc iX6_readSection_9 (zcc iX6_readSection_12 (zcc iX6_readSection_13 (zcc iX6_readSection_14 (zcc iX6_readSection_17 (zcc iX6_readSection_20 (zcc iX6_readSection_21 (zcc iX6_readSection_24 (zcc iX6_readSection_27 (zcc iX6_readSection_30 (zcc iX6_readSection_31 (zcc iX6_readSection_32 (zcc iX6_readSection_33 (zcc iX6_readSection_35 (zcc iX6_readSection_37 (zcc iX6_readSection_38 (zcc iX6_readSection_41 (zcc iX6_readSection_42 (zcc iX6_readSection_45 (zcc iX6_readSection_48 (zcc iX6_readSection_51 (zcc iX6_readSection_52 (zcc iX6_readSection_54 (zcc iX6_readSection_57 (zcc iX6_readSection_58 (zcc iX6_readSection_59 (zcc iX6_readSection_62 (zcc iX6_readSection_63 (zcc iX6_readSection_124 (zcc iX6_readSection_125 (zcc iX6_readSection_128 (zcc iX6_readSection_131 (zcc iX6_readSection_132 (zcc iX6_readSection_135 (zcc iX6_readSection_138 (zcc iX6_readSection_139 (zcc iX6_readSection_140 (zcc iX6_readSection_143 (zcc iX6_readSection_146 (zcc iX6_readSection_147 (zcc iX6_readSection_150 (zcc iX6_readSection_153 (zcc iX6_readSection_154 (zcc iX6_readSection_157 (zcc iX6_readSection_160 (zcc iX6_readSection_161 (zcc iX6_readSection_164 (zcc iX6_readSection_167 (zcc iX6_readSection_168 (zcc iX6_readSection_171 (zcc iX6_readSection_174 (zcc iX6_readSection_175 (zcc iX6_readSection_178 (zcc iX6_readSection_181 (zcc iX6_readSection_182 (zcc iX6_readSection_185 (zcc iX6_readSection_188 (zcc iX6_readSection_189 (zcc iX6_readSection_192 (zcc iX6_readSection_194 (zcc iX6_readSection_197 (zcc iX6_readSection_200 (zcc iX6_readSection_201 (zcc iX6_readSection_204 (zcc iX6_readSection_207 (zcc iX6_readSection_208 (zcc iX6_readSection_211 (zcc iX6_readSection_212 (zcc iX6_readSection_215 (zcc iX6_readSection_218 (zcc iX6_readSection_221 (zcc iX6_readSection_224 (zcc iX6_readSection_225 (zcc iX6_readSection_228 (zcc iX6_readSection_231 (zcc iX6_readSection_232 (zcc iX6_readSection_233 (zcc iX6_readSection_236 (zcc iX6_readSection_239 (zcc iX6_readSection_240 (zcc iX6_readSection_243 (zcc iX6_readSection_246 (zcc iX6_readSection_247 (zcc iX6_readSection_248 (zcc iX6_readSection_249 (zcc iX6_readSection_250 (zcc iX6_readSection_251 (zcc iX6_readSection_252 (zcc iX6_readSection_255 (zcc iX6_readSection_258 (zcc iX6_readSection_259 (zcc iX6_readSection_262 (zcc iX6_readSection_263 (zcc iX6_readSection_266 (zcc iX6_readSection_267 (zcc iX6_readSection_268 (zcc iX6_readSection_271 zcn)))))))))))))))))))))))))))))))))))))))))))))))))))))))))))))))))))))))))))))))))))))))))))))))))))))
theorem iX8_check_0 : zSnd zZC zmX8_check 0 (o_aload 0 1) := s_aload_n (k := 0) (by decide +kernel) rfl
theorem iX8_check_1 : zSnd zZC zmX8_check 1 (o_getf zYC 0 2 4) := s_getf zcX8 fX8_38 (by decide +kernel) (by decide +kernel)
set_option maxRecDepth 20000 in
theorem iX8_check_4 : zSnd zZC zmX8_check 4 (o_callV zZC 3 zmX6_begin 0 0 7) := s_callVN (idx := 57) zcX6 calX6_begin virX6_begin dscX6_begin (by decide +kernel) (zNW2 107 rfl rfl) (by decide +kernel)
theorem iX8_check_7 : zSnd zZC zmX8_check 7 (o_ic 0 8) := s_iconst (i := 0) (by decide +kernel) (by decide +kernel)
theorem iX8_check_8 : zSnd zZC zmX8_check 8 (o_istore 1 9) := s_istore_n (k := 1) (by decide +kernel) rfl (by decide +kernel)
theorem iX8_check_9 : zSnd zZC zmX8_check 9 (o_iload 1 10) := s_iload_n (k := 1) (by decide +kernel) rfl
theorem iX8_check_10 : zSnd zZC zmX8_check 10 (o_ic 16000 13) := s_sipush (i := 16000) (by decide +kernel) (by decide +kernel)
theorem iX8_check_13 : zSnd zZC zmX8_check 13 (o_icmp (fun x y => y ≤ x) 39 16) := s_icmp_ge (off := 26) (by decide +kernel) (by decide +kernel)
theorem iX8_check_16 : zSnd zZC zmX8_check 16 (o_aload 0 17) := s_aload_n (k := 0) (by decide +kernel) rfl
theorem iX8_check_17 : zSnd zZC zmX8_check 17 (o_getf zYC 0 2 20) := s_getf zcX8 fX8_38 (by decide +kernel) (by decide +kernel)
set_option maxRecDepth 20000 in
theorem iX8_check_20 : zSnd zZC zmX8_check 20 (o_callV zZC 3 zmX6_areMore 0 1 23) := s_callVN (idx := 60) zcX6 calX6_areMore virX6_areMore dscX6_areMore (by decide +kernel) (zNW2 138 rfl rfl) (by decide +kernel)
theorem iX8_check_23 : zSnd zZC zmX8_check 23 (o_if0 (fun x => x = 0) 39 26) := s_if_eq (off := 16) (by decide +kernel) (by decide +kernel)
theorem iX8_check_26 : zSnd zZC zmX8_check 26 (o_aload 0 27) := s_aload_n (k := 0) (by decide +kernel) rfl
theorem iX8_check_27 : zSnd zZC zmX8_check 27 (o_getf zYC 0 2 30) := s_getf zcX8 fX8_38 (by decide +kernel) (by decide +kernel)
set_option maxRecDepth 20000 in
theorem iX8_check_30 : zSnd zZC zmX8_check 30 (o_callV zZC 3 zmX6_readSection 0 0 33) := s_callVN (idx := 64) zcX6 calX6_readSection virX6_readSection dscX6_readSection (by decide +kernel) (zNW2 142 rfl rfl) (by decide +kernel)
theorem iX8_check_33 : zSnd zZC zmX8_check 33 (o_iinc 1 1 36) := s_iinc (a := 1) (by decide +kernel) (by decide +kernel) (by decide +kernel)
theorem iX8_check_36 : zSnd zZC zmX8_check 36 (o_goto 9) := s_goto (off := (-27)) (by decide +kernel) (by decide +kernel)
theorem iX8_check_39 : zSnd zZC zmX8_check 39 (o_aload 0 40) := s_aload_n (k := 0) (by decide +kernel) rfl
theorem iX8_check_40 : zSnd zZC zmX8_check 40 (o_getf zYC 0 2 43) := s_getf zcX8 fX8_38 (by decide +kernel) (by decide +kernel)
set_option maxRecDepth 20000 in
theorem iX8_check_43 : zSnd zZC zmX8_check 43 (o_callV zZC 3 zmX6_finish 0 0 46) := s_callVN (idx := 67) zcX6 calX6_finish virX6_finish dscX6_finish (by decide +kernel) (zNW4 54 rfl rfl) (by decide +kernel)
theorem iX8_check_46 : zSnd zZC zmX8_check 46 (o_aload 0 47) := s_aload_n (k := 0) (by decide +kernel) rfl
theorem iX8_check_47 : zSnd zZC zmX8_check 47 (o_getf zYC 0 0 50) := s_getf zcX8 fX8_12 (by decide +kernel) (by decide +kernel)
theorem iX8_check_50 : zSnd zZC zmX8_check 50 (o_ic 0 51) := s_iconst (i := 0) (by decide +kernel) (by decide +kernel)
theorem iX8_check_51 : zSnd zZC zmX8_check 51 (o_putI zYC 1 1 54) := s_putI zcX4 fX8_49 (by decide +kernel) rfl rfl (by decide +kernel)
theorem iX8_check_54 : zSnd zZC zmX8_check 54 (o_aload 0 55) := s_aload_n (k := 0) (by decide +kernel) rfl
theorem iX8_check_55 : zSnd zZC zmX8_check 55 (o_getf zYC 0 0 58) := s_getf zcX8 fX8_12 (by decide +kernel) (by decide +kernel)
theorem iX8_check_58 : zSnd zZC zmX8_check 58 (o_getf zYC 1 4 61) := s_getf zcX4 fX8_70 (by decide +kernel) (by decide +kernel)
theorem iX8_check_61 : zSnd zZC zmX8_check 61 (o_istore 1 62) := s_istore_n (k := 1) (by decide +kernel) rfl (by decide +kernel)
theorem iX8_check_62 : zSnd zZC zmX8_check 62 (o_aload 0 63) := s_aload_n (k := 0) (by decide +kernel) rfl
theorem iX8_check_63 : zSnd zZC zmX8_check 63 (o_aload 0 64) := s_aload_n (k := 0) (by decide +kernel) rfl
theorem iX8_check_64 : zSnd zZC zmX8_check 64 (o_getf zYC 0 0 67) := s_getf zcX8 fX8_12 (by decide +kernel) (by decide +kernel)
theorem iX8_check_67 : zSnd zZC zmX8_check 67 (o_getf zYC 1 5 70) := s_getf zcX4 fX8_73 (by decide +kernel) (by decide +kernel)
theorem iX8_check_70 : zSnd zZC zmX8_check 70 (o_putI zYC 0 6 73) := s_putI zcX8 fX8_46 (by decide +kernel) rfl rfl (by decide +kernel)
theorem iX8_check_73 : zSnd zZC zmX8_check 73 (o_iload 1 74) := s_iload_n (k := 1) (by decide +kernel) rfl
theorem iX8_check_74 : zSnd zZC zmX8_check 74 (o_if0 (fun x => x = 0) 77 101) := s_if_ne (off := 27) (by decide +kernel) (by decide +kernel)
theorem iX8_check_77 : zSnd zZC zmX8_check 77 (o_aload 0 78) := s_aload_n (k := 0) (by decide +kernel) rfl
theorem iX8_check_78 : zSnd zZC zmX8_check 78 (o_aload 0 79) := s_aload_n (k := 0) (by decide +kernel) rfl
theorem iX8_check_79 : zSnd zZC zmX8_check 79 (o_getf zYC 0 1 82) := s_getf zcX8 fX8_19 (by decide +kernel) (by decide +kernel)
set_option maxRecDepth 20000 in
theorem iX8_check_82 : zSnd zZC zmX8_check 82 (o_callV zZC 2 zmX2_firstWrong 0 1 85) := s_callVN (idx := 76) zcX2 calX2_firstWrong virX2_firstWrong dscX2_firstWrong (by decide +kernel) (zNW4 58 rfl rfl) (by decide +kernel)
theorem iX8_check_85 : zSnd zZC zmX8_check 85 (o_putI zYC 0 6 88) := s_putI zcX8 fX8_46 (by decide +kernel) rfl rfl (by decide +kernel)
theorem iX8_check_88 : zSnd zZC zmX8_check 88 (o_aload 0 89) := s_aload_n (k := 0) (by decide +kernel) rfl
theorem iX8_check_89 : zSnd zZC zmX8_check 89 (o_getf zYC 0 6 92) := s_getf zcX8 fX8_46 (by decide +kernel) (by decide +kernel)
theorem iX8_check_92 : zSnd zZC zmX8_check 92 (o_if0 (fun x => 0 ≤ x) 99 95) := s_if_ge (off := 7) (by decide +kernel) (by decide +kernel)
theorem iX8_check_95 : zSnd zZC zmX8_check 95 (o_ic 0 96) := s_iconst (i := 0) (by decide +kernel) (by decide +kernel)
theorem iX8_check_96 : zSnd zZC zmX8_check 96 (o_goto 100) := s_goto (off := 4) (by decide +kernel) (by decide +kernel)
theorem iX8_check_99 : zSnd zZC zmX8_check 99 (o_ic 2 100) := s_iconst (i := 2) (by decide +kernel) (by decide +kernel)
theorem iX8_check_100 : zSnd zZC zmX8_check 100 (o_istore 1 101) := s_istore_n (k := 1) (by decide +kernel) rfl (by decide +kernel)
theorem iX8_check_101 : zSnd zZC zmX8_check 101 (o_iload 1 102) := s_iload_n (k := 1) (by decide +kernel) rfl
theorem iX8_check_102 : zSnd zZC zmX8_check 102 (o_if0 (fun x => x = 0) 105 127) := s_if_ne (off := 25) (by decide +kernel) (by decide +kernel)
theorem iX8_check_105 : zSnd zZC zmX8_check 105 (o_aload 0 106) := s_aload_n (k := 0) (by decide +kernel) rfl
theorem iX8_check_106 : zSnd zZC zmX8_check 106 (o_getf zYC 0 3 109) := s_getf zcX8 fX8_26 (by decide +kernel) (by decide +kernel)
theorem iX8_check_109 : zSnd zZC zmX8_check 109 (o_aload 0 110) := s_aload_n (k := 0) (by decide +kernel) rfl
theorem iX8_check_110 : zSnd zZC zmX8_check 110 (o_getf zYC 0 1 113) := s_getf zcX8 fX8_19 (by decide +kernel) (by decide +kernel)
set_option maxRecDepth 20000 in
theorem iX8_check_113 : zSnd zZC zmX8_check 113 (o_callV zZC 8 zmX0_fillCounts 1 0 116) := s_callVN (idx := 80) zcX0 calX0_fillCounts virX0_fillCounts dscX0_fillCounts (by decide +kernel) (zNW4 62 rfl rfl) (by decide +kernel)
theorem iX8_check_116 : zSnd zZC zmX8_check 116 (o_aload 0 117) := s_aload_n (k := 0) (by decide +kernel) rfl
theorem iX8_check_117 : zSnd zZC zmX8_check 117 (o_getf zYC 0 4 120) := s_getf zcX8 fX8_30 (by decide +kernel) (by decide +kernel)
theorem iX8_check_120 : zSnd zZC zmX8_check 120 (o_aload 0 121) := s_aload_n (k := 0) (by decide +kernel) rfl
theorem iX8_check_121 : zSnd zZC zmX8_check 121 (o_getf zYC 0 3 124) := s_getf zcX8 fX8_26 (by decide +kernel) (by decide +kernel)
set_option maxRecDepth 20000 in
theorem iX8_check_124 : zSnd zZC zmX8_check 124 (o_callV zZC 8 zmX0_copy 1 0 127) := s_callVN (idx := 84) zcX0 calX0_copy virX0_copy dscX0_copy (by decide +kernel) (zNW4 66 rfl rfl) (by decide +kernel)
theorem iX8_check_127 : zSnd zZC zmX8_check 127 (o_iload 1 128) := s_iload_n (k := 1) (by decide +kernel) rfl
theorem iX8_check_128 : zSnd zZC zmX8_check 128 (o_iret) := s_iret rfl (by decide +kernel)
def kX8_check : List (Nat × zOp) := [(0, o_aload 0 1),
  (1, o_getf zYC 0 2 4),
  (4, o_callV zZC 3 zmX6_begin 0 0 7),
  (7, o_ic 0 8),
  (8, o_istore 1 9),
  (9, o_iload 1 10),
  (10, o_ic 16000 13),
  (13, o_icmp (fun x y => y ≤ x) 39 16),
  (16, o_aload 0 17),
  (17, o_getf zYC 0 2 20),
  (20, o_callV zZC 3 zmX6_areMore 0 1 23),
  (23, o_if0 (fun x => x = 0) 39 26),
  (26, o_aload 0 27),
  (27, o_getf zYC 0 2 30),
  (30, o_callV zZC 3 zmX6_readSection 0 0 33),
  (33, o_iinc 1 1 36),
  (36, o_goto 9),
  (39, o_aload 0 40),
  (40, o_getf zYC 0 2 43),
  (43, o_callV zZC 3 zmX6_finish 0 0 46),
  (46, o_aload 0 47),
  (47, o_getf zYC 0 0 50),
  (50, o_ic 0 51),
  (51, o_putI zYC 1 1 54),
  (54, o_aload 0 55),
  (55, o_getf zYC 0 0 58),
  (58, o_getf zYC 1 4 61),
  (61, o_istore 1 62),
  (62, o_aload 0 63),
  (63, o_aload 0 64),
  (64, o_getf zYC 0 0 67),
  (67, o_getf zYC 1 5 70),
  (70, o_putI zYC 0 6 73),
  (73, o_iload 1 74),
  (74, o_if0 (fun x => x = 0) 77 101),
  (77, o_aload 0 78),
  (78, o_aload 0 79),
  (79, o_getf zYC 0 1 82),
  (82, o_callV zZC 2 zmX2_firstWrong 0 1 85),
  (85, o_putI zYC 0 6 88),
  (88, o_aload 0 89),
  (89, o_getf zYC 0 6 92),
  (92, o_if0 (fun x => 0 ≤ x) 99 95),
  (95, o_ic 0 96),
  (96, o_goto 100),
  (99, o_ic 2 100),
  (100, o_istore 1 101),
  (101, o_iload 1 102),
  (102, o_if0 (fun x => x = 0) 105 127),
  (105, o_aload 0 106),
  (106, o_getf zYC 0 3 109),
  (109, o_aload 0 110),
  (110, o_getf zYC 0 1 113),
  (113, o_callV zZC 8 zmX0_fillCounts 1 0 116),
  (116, o_aload 0 117),
  (117, o_getf zYC 0 4 120),
  (120, o_aload 0 121),
  (121, o_getf zYC 0 3 124),
  (124, o_callV zZC 8 zmX0_copy 1 0 127),
  (127, o_iload 1 128),
  (128, o_iret)]
set_option maxRecDepth 100000 in
theorem ksX8_check : ∀ q ∈ kX8_check, zSnd zZC zmX8_check q.1 q.2 := zcc iX8_check_0 (zcc iX8_check_1 (zcc iX8_check_4 (zcc iX8_check_7 (zcc iX8_check_8 (zcc iX8_check_9 (zcc iX8_check_10 (zcc iX8_check_13 (zcc iX8_check_16 (zcc iX8_check_17 (zcc iX8_check_20 (zcc iX8_check_23 (zcc iX8_check_26 (zcc iX8_check_27 (zcc iX8_check_30 (zcc iX8_check_33 (zcc iX8_check_36 (zcc iX8_check_39 (zcc iX8_check_40 (zcc iX8_check_43 (zcc iX8_check_46 (zcc iX8_check_47 (zcc iX8_check_50 (zcc iX8_check_51 (zcc iX8_check_54 (zcc iX8_check_55 (zcc iX8_check_58 (zcc iX8_check_61 (zcc iX8_check_62 (zcc iX8_check_63 (zcc iX8_check_64 (zcc iX8_check_67 (zcc iX8_check_70 (zcc iX8_check_73 (zcc iX8_check_74 (zcc iX8_check_77 (zcc iX8_check_78 (zcc iX8_check_79 (zcc iX8_check_82 (zcc iX8_check_85 (zcc iX8_check_88 (zcc iX8_check_89 (zcc iX8_check_92 (zcc iX8_check_95 (zcc iX8_check_96 (zcc iX8_check_99 (zcc iX8_check_100 (zcc iX8_check_101 (zcc iX8_check_102 (zcc iX8_check_105 (zcc iX8_check_106 (zcc iX8_check_109 (zcc iX8_check_110 (zcc iX8_check_113 (zcc iX8_check_116 (zcc iX8_check_117 (zcc iX8_check_120 (zcc iX8_check_121 (zcc iX8_check_124 (zcc iX8_check_127 (zcc iX8_check_128 zcn))))))))))))))))))))))))))))))))))))))))))))))))))))))))))))
