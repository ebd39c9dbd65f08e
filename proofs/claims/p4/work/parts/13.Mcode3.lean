theorem iX10_l_0 : zSnd zZM zmX10_l 0 (o_aload 0 1) := s_aload_n (k := 0) (by decide +kernel) rfl
theorem iX10_l_1 : zSnd zZM zmX10_l 1 (o_ic 10 3) := s_bipush (i := 10) (by decide +kernel) (by decide +kernel)
theorem iX10_l_3 : zSnd zZM zmX10_l 3 (o_ic 0 4) := s_iconst (i := 0) (by decide +kernel) (by decide +kernel)
theorem iX10_l_4 : zSnd zZM zmX10_l 4 (o_ic 127 6) := s_bipush (i := 127) (by decide +kernel) (by decide +kernel)
set_option maxRecDepth 20000 in
theorem iX10_l_6 : zSnd zZM zmX10_l 6 (o_callV zZM 0 zmX10_signed 3 2 9) := s_callV (idx := 182) zcX10 calX10_signed virX10_signed dscX10_signed (by decide +kernel) (zWS6 159 rfl rfl) (by decide +kernel)
theorem iX10_l_9 : zSnd zZM zmX10_l 9 (o_lret) := s_lret rfl (by decide +kernel)
def kX10_l : List (Nat × zOp) := [(0, o_aload 0 1),
  (1, o_ic 10 3),
  (3, o_ic 0 4),
  (4, o_ic 127 6),
  (6, o_callV zZM 0 zmX10_signed 3 2 9),
  (9, o_lret)]
set_option maxRecDepth 100000 in
theorem ksX10_l : ∀ q ∈ kX10_l, zSnd zZM zmX10_l q.1 q.2 := zcc iX10_l_0 (zcc iX10_l_1 (zcc iX10_l_3 (zcc iX10_l_4 (zcc iX10_l_6 (zcc iX10_l_9 zcn)))))
theorem iX10_labelRow_0 : zSnd zZM zmX10_labelRow 0 (o_aload 0 1) := s_aload_n (k := 0) (by decide +kernel) rfl
set_option maxRecDepth 20000 in
theorem iX10_labelRow_1 : zSnd zZM zmX10_labelRow 1 (o_callV zZM 0 zmX10_u 0 2 4) := s_callV (idx := 144) zcX10 calX10_u virX10_u dscX10_u (by decide +kernel) (zWS6 105 rfl rfl) (by decide +kernel)
theorem iX10_labelRow_4 : zSnd zZM zmX10_labelRow 4 (o_lstore 1 5) := s_lstore_n (k := 1) (by decide +kernel) rfl (by decide +kernel)
theorem iX10_labelRow_5 : zSnd zZM zmX10_labelRow 5 (o_ic (-1) 6) := s_iconst (i := (-1)) (by decide +kernel) (by decide +kernel)
theorem iX10_labelRow_6 : zSnd zZM zmX10_labelRow 6 (o_istore 3 7) := s_istore_n (k := 3) (by decide +kernel) rfl (by decide +kernel)
theorem iX10_labelRow_7 : zSnd zZM zmX10_labelRow 7 (o_lc 0 8) := s_lconst (i := 0) (by decide +kernel) (by decide +kernel)
theorem iX10_labelRow_8 : zSnd zZM zmX10_labelRow 8 (o_lstore 4 10) := s_lstore (by decide +kernel) (by decide +kernel)
theorem iX10_labelRow_10 : zSnd zZM zmX10_labelRow 10 (o_lload 4 12) := s_lload (by decide +kernel)
theorem iX10_labelRow_12 : zSnd zZM zmX10_labelRow 12 (o_lload 1 13) := s_lload_n (k := 1) (by decide +kernel) rfl
theorem iX10_labelRow_13 : zSnd zZM zmX10_labelRow 13 (o_lif (fun x y => y < x) 58 17) := s_lgt (off := 44) (by decide +kernel) (by decide +kernel) (by decide +kernel)
theorem iX10_labelRow_17 : zSnd zZM zmX10_labelRow 17 (o_aload 0 18) := s_aload_n (k := 0) (by decide +kernel) rfl
theorem iX10_labelRow_18 : zSnd zZM zmX10_labelRow 18 (o_aload 0 19) := s_aload_n (k := 0) (by decide +kernel) rfl
set_option maxRecDepth 20000 in
theorem iX10_labelRow_19 : zSnd zZM zmX10_labelRow 19 (o_callV zZM 0 zmX10_u 0 2 22) := s_callV (idx := 144) zcX10 calX10_u virX10_u dscX10_u (by decide +kernel) (zWS6 105 rfl rfl) (by decide +kernel)
set_option maxRecDepth 20000 in
theorem iX10_labelRow_22 : zSnd zZM zmX10_labelRow 22 (o_callV zZM 0 zmX10_label 1 1 25) := s_callV (idx := 541) zcX10 calX10_label virX10_label dscX10_label (by decide +kernel) (zWS7 80 rfl rfl) (by decide +kernel)
theorem iX10_labelRow_25 : zSnd zZM zmX10_labelRow 25 (o_istore 6 27) := s_istore (by decide +kernel) (by decide +kernel)
theorem iX10_labelRow_27 : zSnd zZM zmX10_labelRow 27 (o_aload 0 28) := s_aload_n (k := 0) (by decide +kernel) rfl
theorem iX10_labelRow_28 : zSnd zZM zmX10_labelRow 28 (o_iload 3 29) := s_iload_n (k := 3) (by decide +kernel) rfl
theorem iX10_labelRow_29 : zSnd zZM zmX10_labelRow 29 (o_if0 (fun x => x < 0) 38 32) := s_if_lt (off := 9) (by decide +kernel) (by decide +kernel)
theorem iX10_labelRow_32 : zSnd zZM zmX10_labelRow 32 (o_iload 6 34) := s_iload (by decide +kernel)
theorem iX10_labelRow_34 : zSnd zZM zmX10_labelRow 34 (o_iload 3 35) := s_iload_n (k := 3) (by decide +kernel) rfl
theorem iX10_labelRow_35 : zSnd zZM zmX10_labelRow 35 (o_icmp (fun x y => x = y) 38 42) := s_icmp_ne (off := 7) (by decide +kernel) (by decide +kernel)
theorem iX10_labelRow_38 : zSnd zZM zmX10_labelRow 38 (o_ic 1 39) := s_iconst (i := 1) (by decide +kernel) (by decide +kernel)
theorem iX10_labelRow_39 : zSnd zZM zmX10_labelRow 39 (o_goto 43) := s_goto (off := 4) (by decide +kernel) (by decide +kernel)
theorem iX10_labelRow_42 : zSnd zZM zmX10_labelRow 42 (o_ic 0 43) := s_iconst (i := 0) (by decide +kernel) (by decide +kernel)
set_option maxRecDepth 20000 in
theorem iX10_labelRow_43 : zSnd zZM zmX10_labelRow 43 (o_callV zZM 0 zmX10_need 1 0 46) := s_callV (idx := 526) zcX10 calX10_need virX10_need dscX10_need (by decide +kernel) (zWS7 52 rfl rfl) (by decide +kernel)
theorem iX10_labelRow_46 : zSnd zZM zmX10_labelRow 46 (o_iload 6 48) := s_iload (by decide +kernel)
theorem iX10_labelRow_48 : zSnd zZM zmX10_labelRow 48 (o_istore 3 49) := s_istore_n (k := 3) (by decide +kernel) rfl (by decide +kernel)
theorem iX10_labelRow_49 : zSnd zZM zmX10_labelRow 49 (o_lload 4 51) := s_lload (by decide +kernel)
theorem iX10_labelRow_51 : zSnd zZM zmX10_labelRow 51 (o_lc 1 52) := s_lconst (i := 1) (by decide +kernel) (by decide +kernel)
theorem iX10_labelRow_52 : zSnd zZM zmX10_labelRow 52 (o_lbin (fun x y => x + y) 53) := s_ladd (by decide +kernel)
theorem iX10_labelRow_53 : zSnd zZM zmX10_labelRow 53 (o_lstore 4 55) := s_lstore (by decide +kernel) (by decide +kernel)
theorem iX10_labelRow_55 : zSnd zZM zmX10_labelRow 55 (o_goto 10) := s_goto (off := (-45)) (by decide +kernel) (by decide +kernel)
theorem iX10_labelRow_58 : zSnd zZM zmX10_labelRow 58 (o_aload 0 59) := s_aload_n (k := 0) (by decide +kernel) rfl
theorem iX10_labelRow_59 : zSnd zZM zmX10_labelRow 59 (o_ic 0 60) := s_iconst (i := 0) (by decide +kernel) (by decide +kernel)
set_option maxRecDepth 20000 in
theorem iX10_labelRow_60 : zSnd zZM zmX10_labelRow 60 (o_callV zZM 0 zmX10_takes 1 1 63) := s_callV (idx := 529) zcX10 calX10_takes virX10_takes dscX10_takes (by decide +kernel) (zWS7 60 rfl rfl) (by decide +kernel)
theorem iX10_labelRow_63 : zSnd zZM zmX10_labelRow 63 (o_istore 4 65) := s_istore (by decide +kernel) (by decide +kernel)
theorem iX10_labelRow_65 : zSnd zZM zmX10_labelRow 65 (o_aload 0 66) := s_aload_n (k := 0) (by decide +kernel) rfl
theorem iX10_labelRow_66 : zSnd zZM zmX10_labelRow 66 (o_iload 3 67) := s_iload_n (k := 3) (by decide +kernel) rfl
set_option maxRecDepth 20000 in
theorem iX10_labelRow_67 : zSnd zZM zmX10_labelRow 67 (o_callV zZM 0 zmX10_takes 1 1 70) := s_callV (idx := 529) zcX10 calX10_takes virX10_takes dscX10_takes (by decide +kernel) (zWS7 60 rfl rfl) (by decide +kernel)
theorem iX10_labelRow_70 : zSnd zZM zmX10_labelRow 70 (o_istore 4 72) := s_istore (by decide +kernel) (by decide +kernel)
theorem iX10_labelRow_72 : zSnd zZM zmX10_labelRow 72 (o_aload 0 73) := s_aload_n (k := 0) (by decide +kernel) rfl
set_option maxRecDepth 20000 in
theorem iX10_labelRow_73 : zSnd zZM zmX10_labelRow 73 (o_callV zZM 0 zmX10_rest 0 0 76) := s_callV (idx := 535) zcX10 calX10_rest virX10_rest dscX10_rest (by decide +kernel) (zWS7 72 rfl rfl) (by decide +kernel)
theorem iX10_labelRow_76 : zSnd zZM zmX10_labelRow 76 (o_vret) := s_vret rfl (by decide +kernel)
def kX10_labelRow : List (Nat × zOp) := [(0, o_aload 0 1),
  (1, o_callV zZM 0 zmX10_u 0 2 4),
  (4, o_lstore 1 5),
  (5, o_ic (-1) 6),
  (6, o_istore 3 7),
  (7, o_lc 0 8),
  (8, o_lstore 4 10),
  (10, o_lload 4 12),
  (12, o_lload 1 13),
  (13, o_lif (fun x y => y < x) 58 17),
  (17, o_aload 0 18),
  (18, o_aload 0 19),
  (19, o_callV zZM 0 zmX10_u 0 2 22),
  (22, o_callV zZM 0 zmX10_label 1 1 25),
  (25, o_istore 6 27),
  (27, o_aload 0 28),
  (28, o_iload 3 29),
  (29, o_if0 (fun x => x < 0) 38 32),
  (32, o_iload 6 34),
  (34, o_iload 3 35),
  (35, o_icmp (fun x y => x = y) 38 42),
  (38, o_ic 1 39),
  (39, o_goto 43),
  (42, o_ic 0 43),
  (43, o_callV zZM 0 zmX10_need 1 0 46),
  (46, o_iload 6 48),
  (48, o_istore 3 49),
  (49, o_lload 4 51),
  (51, o_lc 1 52),
  (52, o_lbin (fun x y => x + y) 53),
  (53, o_lstore 4 55),
  (55, o_goto 10),
  (58, o_aload 0 59),
  (59, o_ic 0 60),
  (60, o_callV zZM 0 zmX10_takes 1 1 63),
  (63, o_istore 4 65),
  (65, o_aload 0 66),
  (66, o_iload 3 67),
  (67, o_callV zZM 0 zmX10_takes 1 1 70),
  (70, o_istore 4 72),
  (72, o_aload 0 73),
  (73, o_callV zZM 0 zmX10_rest 0 0 76),
  (76, o_vret)]
set_option maxRecDepth 100000 in
theorem ksX10_labelRow : ∀ q ∈ kX10_labelRow, zSnd zZM zmX10_labelRow q.1 q.2 := zcc iX10_labelRow_0 (zcc iX10_labelRow_1 (zcc iX10_labelRow_4 (zcc iX10_labelRow_5 (zcc iX10_labelRow_6 (zcc iX10_labelRow_7 (zcc iX10_labelRow_8 (zcc iX10_labelRow_10 (zcc iX10_labelRow_12 (zcc iX10_labelRow_13 (zcc iX10_labelRow_17 (zcc iX10_labelRow_18 (zcc iX10_labelRow_19 (zcc iX10_labelRow_22 (zcc iX10_labelRow_25 (zcc iX10_labelRow_27 (zcc iX10_labelRow_28 (zcc iX10_labelRow_29 (zcc iX10_labelRow_32 (zcc iX10_labelRow_34 (zcc iX10_labelRow_35 (zcc iX10_labelRow_38 (zcc iX10_labelRow_39 (zcc iX10_labelRow_42 (zcc iX10_labelRow_43 (zcc iX10_labelRow_46 (zcc iX10_labelRow_48 (zcc iX10_labelRow_49 (zcc iX10_labelRow_51 (zcc iX10_labelRow_52 (zcc iX10_labelRow_53 (zcc iX10_labelRow_55 (zcc iX10_labelRow_58 (zcc iX10_labelRow_59 (zcc iX10_labelRow_60 (zcc iX10_labelRow_63 (zcc iX10_labelRow_65 (zcc iX10_labelRow_66 (zcc iX10_labelRow_67 (zcc iX10_labelRow_70 (zcc iX10_labelRow_72 (zcc iX10_labelRow_73 (zcc iX10_labelRow_76 zcn))))))))))))))))))))))))))))))))))))))))))
theorem iX10_limits_0 : zSnd zZM zmX10_limits 0 (o_aload 0 1) := s_aload_n (k := 0) (by decide +kernel) rfl
theorem iX10_limits_1 : zSnd zZM zmX10_limits 1 (o_getf zYM 0 12 4) := s_getf zcX10 fX10_127 (by decide +kernel) (by decide +kernel)
theorem iX10_limits_4 : zSnd zZM zmX10_limits 4 (o_istore 1 5) := s_istore_n (k := 1) (by decide +kernel) rfl (by decide +kernel)
theorem iX10_limits_5 : zSnd zZM zmX10_limits 5 (o_aload 0 6) := s_aload_n (k := 0) (by decide +kernel) rfl
set_option maxRecDepth 20000 in
theorem iX10_limits_6 : zSnd zZM zmX10_limits 6 (o_callV zZM 0 zmX10_octet 0 1 9) := s_callV (idx := 140) zcX10 calX10_octet virX10_octet dscX10_octet (by decide +kernel) (zWS6 45 rfl rfl) (by decide +kernel)
theorem iX10_limits_9 : zSnd zZM zmX10_limits 9 (o_istore 2 10) := s_istore_n (k := 2) (by decide +kernel) rfl (by decide +kernel)
theorem iX10_limits_10 : zSnd zZM zmX10_limits 10 (o_iload 2 11) := s_iload_n (k := 2) (by decide +kernel) rfl
theorem iX10_limits_11 : zSnd zZM zmX10_limits 11 (o_ic 1 12) := s_iconst (i := 1) (by decide +kernel) (by decide +kernel)
theorem iX10_limits_12 : zSnd zZM zmX10_limits 12 (o_icmp (fun x y => x ≤ y) 22 15) := s_icmp_le (off := 10) (by decide +kernel) (by decide +kernel)
theorem iX10_limits_15 : zSnd zZM zmX10_limits 15 (o_aload 0 16) := s_aload_n (k := 0) (by decide +kernel) rfl
theorem iX10_limits_16 : zSnd zZM zmX10_limits 16 (o_ic 1 17) := s_iconst (i := 1) (by decide +kernel) (by decide +kernel)
theorem iX10_limits_17 : zSnd zZM zmX10_limits 17 (o_iload 1 18) := s_iload_n (k := 1) (by decide +kernel) rfl
set_option maxRecDepth 20000 in
theorem iX10_limits_18 : zSnd zZM zmX10_limits 18 (o_callV zZM 0 zmX10_wrong 2 3 21) := s_callV (idx := 176) zcX10 calX10_wrong virX10_wrong dscX10_wrong (by decide +kernel) (zWS6 49 rfl rfl) (by decide +kernel)
theorem iX10_limits_21 : zSnd zZM zmX10_limits 21 (o_athrow zYM 2) := s_athrow (T := TIse) (N := 0) rfl (by decide +kernel)
theorem iX10_limits_22 : zSnd zZM zmX10_limits 22 (o_aload 0 23) := s_aload_n (k := 0) (by decide +kernel) rfl
theorem iX10_limits_23 : zSnd zZM zmX10_limits 23 (o_aload 0 24) := s_aload_n (k := 0) (by decide +kernel) rfl
set_option maxRecDepth 20000 in
theorem iX10_limits_24 : zSnd zZM zmX10_limits 24 (o_callV zZM 0 zmX10_u 0 2 27) := s_callV (idx := 144) zcX10 calX10_u virX10_u dscX10_u (by decide +kernel) (zWS6 105 rfl rfl) (by decide +kernel)
theorem iX10_limits_27 : zSnd zZM zmX10_limits 27 (o_putL zYM 0 16 30) := s_putL zcX10 fX10_196 (by decide +kernel) rfl rfl (by decide +kernel)
theorem iX10_limits_30 : zSnd zZM zmX10_limits 30 (o_aload 0 31) := s_aload_n (k := 0) (by decide +kernel) rfl
theorem iX10_limits_31 : zSnd zZM zmX10_limits 31 (o_iload 2 32) := s_iload_n (k := 2) (by decide +kernel) rfl
theorem iX10_limits_32 : zSnd zZM zmX10_limits 32 (o_ic 1 33) := s_iconst (i := 1) (by decide +kernel) (by decide +kernel)
theorem iX10_limits_33 : zSnd zZM zmX10_limits 33 (o_icmp (fun x y => x = y) 36 43) := s_icmp_ne (off := 10) (by decide +kernel) (by decide +kernel)
theorem iX10_limits_36 : zSnd zZM zmX10_limits 36 (o_aload 0 37) := s_aload_n (k := 0) (by decide +kernel) rfl
set_option maxRecDepth 20000 in
theorem iX10_limits_37 : zSnd zZM zmX10_limits 37 (o_callV zZM 0 zmX10_u 0 2 40) := s_callV (idx := 144) zcX10 calX10_u virX10_u dscX10_u (by decide +kernel) (zWS6 105 rfl rfl) (by decide +kernel)
theorem iX10_limits_40 : zSnd zZM zmX10_limits 40 (o_goto 46) := s_goto (off := 6) (by decide +kernel) (by decide +kernel)
set_option maxRecDepth 20000 in
theorem iX10_limits_43 : zSnd zZM zmX10_limits 43 (o_lc (-1) 46) := s_ldc2 (i := 180) (by decide +kernel) (zWS6 142 rfl rfl)
theorem iX10_limits_46 : zSnd zZM zmX10_limits 46 (o_putL zYM 0 17 49) := s_putL zcX10 fX10_200 (by decide +kernel) rfl rfl (by decide +kernel)
theorem iX10_limits_49 : zSnd zZM zmX10_limits 49 (o_vret) := s_vret rfl (by decide +kernel)
def kX10_limits : List (Nat × zOp) := [(0, o_aload 0 1),
  (1, o_getf zYM 0 12 4),
  (4, o_istore 1 5),
  (5, o_aload 0 6),
  (6, o_callV zZM 0 zmX10_octet 0 1 9),
  (9, o_istore 2 10),
  (10, o_iload 2 11),
  (11, o_ic 1 12),
  (12, o_icmp (fun x y => x ≤ y) 22 15),
  (15, o_aload 0 16),
  (16, o_ic 1 17),
  (17, o_iload 1 18),
  (18, o_callV zZM 0 zmX10_wrong 2 3 21),
  (21, o_athrow zYM 2),
  (22, o_aload 0 23),
  (23, o_aload 0 24),
  (24, o_callV zZM 0 zmX10_u 0 2 27),
  (27, o_putL zYM 0 16 30),
  (30, o_aload 0 31),
  (31, o_iload 2 32),
  (32, o_ic 1 33),
  (33, o_icmp (fun x y => x = y) 36 43),
  (36, o_aload 0 37),
  (37, o_callV zZM 0 zmX10_u 0 2 40),
  (40, o_goto 46),
  (43, o_lc (-1) 46),
  (46, o_putL zYM 0 17 49),
  (49, o_vret)]
set_option maxRecDepth 100000 in
theorem ksX10_limits : ∀ q ∈ kX10_limits, zSnd zZM zmX10_limits q.1 q.2 := zcc iX10_limits_0 (zcc iX10_limits_1 (zcc iX10_limits_4 (zcc iX10_limits_5 (zcc iX10_limits_6 (zcc iX10_limits_9 (zcc iX10_limits_10 (zcc iX10_limits_11 (zcc iX10_limits_12 (zcc iX10_limits_15 (zcc iX10_limits_16 (zcc iX10_limits_17 (zcc iX10_limits_18 (zcc iX10_limits_21 (zcc iX10_limits_22 (zcc iX10_limits_23 (zcc iX10_limits_24 (zcc iX10_limits_27 (zcc iX10_limits_30 (zcc iX10_limits_31 (zcc iX10_limits_32 (zcc iX10_limits_33 (zcc iX10_limits_36 (zcc iX10_limits_37 (zcc iX10_limits_40 (zcc iX10_limits_43 (zcc iX10_limits_46 (zcc iX10_limits_49 zcn)))))))))))))))))))))))))))
theorem iX10_many_0 : zSnd zZM zmX10_many 0 (o_aload 0 1) := s_aload_n (k := 0) (by decide +kernel) rfl
theorem iX10_many_1 : zSnd zZM zmX10_many 1 (o_getf zYM 0 12 4) := s_getf zcX10 fX10_127 (by decide +kernel) (by decide +kernel)
theorem iX10_many_4 : zSnd zZM zmX10_many 4 (o_istore 2 5) := s_istore_n (k := 2) (by decide +kernel) rfl (by decide +kernel)
theorem iX10_many_5 : zSnd zZM zmX10_many 5 (o_aload 0 6) := s_aload_n (k := 0) (by decide +kernel) rfl
set_option maxRecDepth 20000 in
theorem iX10_many_6 : zSnd zZM zmX10_many 6 (o_callV zZM 0 zmX10_u 0 2 9) := s_callV (idx := 144) zcX10 calX10_u virX10_u dscX10_u (by decide +kernel) (zWS6 105 rfl rfl) (by decide +kernel)
theorem iX10_many_9 : zSnd zZM zmX10_many 9 (o_lstore 3 10) := s_lstore_n (k := 3) (by decide +kernel) rfl (by decide +kernel)
theorem iX10_many_10 : zSnd zZM zmX10_many 10 (o_lload 3 11) := s_lload_n (k := 3) (by decide +kernel) rfl
set_option maxRecDepth 20000 in
theorem iX10_many_11 : zSnd zZM zmX10_many 11 (o_lc 8 14) := s_ldc2 (i := 431) (by decide +kernel) (zWS6 206 rfl rfl)
theorem iX10_many_14 : zSnd zZM zmX10_many 14 (o_lif (fun x y => x < y) 26 18) := s_llt (off := 11) (by decide +kernel) (by decide +kernel) (by decide +kernel)
theorem iX10_many_18 : zSnd zZM zmX10_many 18 (o_lload 3 19) := s_lload_n (k := 3) (by decide +kernel) rfl
set_option maxRecDepth 20000 in
theorem iX10_many_19 : zSnd zZM zmX10_many 19 (o_lc 14 22) := s_ldc2 (i := 433) (by decide +kernel) (zWS6 207 rfl rfl)
theorem iX10_many_22 : zSnd zZM zmX10_many 22 (o_lif (fun x y => x ≤ y) 33 26) := s_lle (off := 10) (by decide +kernel) (by decide +kernel) (by decide +kernel)
theorem iX10_many_26 : zSnd zZM zmX10_many 26 (o_aload 0 27) := s_aload_n (k := 0) (by decide +kernel) rfl
theorem iX10_many_27 : zSnd zZM zmX10_many 27 (o_ic 1 28) := s_iconst (i := 1) (by decide +kernel) (by decide +kernel)
theorem iX10_many_28 : zSnd zZM zmX10_many 28 (o_iload 2 29) := s_iload_n (k := 2) (by decide +kernel) rfl
set_option maxRecDepth 20000 in
theorem iX10_many_29 : zSnd zZM zmX10_many 29 (o_callV zZM 0 zmX10_wrong 2 3 32) := s_callV (idx := 176) zcX10 calX10_wrong virX10_wrong dscX10_wrong (by decide +kernel) (zWS6 49 rfl rfl) (by decide +kernel)
theorem iX10_many_32 : zSnd zZM zmX10_many 32 (o_athrow zYM 2) := s_athrow (T := TIse) (N := 0) rfl (by decide +kernel)
theorem iX10_many_33 : zSnd zZM zmX10_many 33 (o_lload 3 34) := s_lload_n (k := 3) (by decide +kernel) rfl
set_option maxRecDepth 20000 in
theorem iX10_many_34 : zSnd zZM zmX10_many 34 (o_lc 8 37) := s_ldc2 (i := 431) (by decide +kernel) (zWS6 206 rfl rfl)
theorem iX10_many_37 : zSnd zZM zmX10_many 37 (o_lif (fun x y => x = y) 49 41) := s_leq (off := 11) (by decide +kernel) (by decide +kernel) (by decide +kernel)
theorem iX10_many_41 : zSnd zZM zmX10_many 41 (o_lload 3 42) := s_lload_n (k := 3) (by decide +kernel) rfl
set_option maxRecDepth 20000 in
theorem iX10_many_42 : zSnd zZM zmX10_many 42 (o_lc 9 45) := s_ldc2 (i := 435) (by decide +kernel) (zWS6 208 rfl rfl)
theorem iX10_many_45 : zSnd zZM zmX10_many 45 (o_lif (fun x y => x = y) 49 63) := s_lne (off := 17) (by decide +kernel) (by decide +kernel) (by decide +kernel)
theorem iX10_many_49 : zSnd zZM zmX10_many 49 (o_aload 0 50) := s_aload_n (k := 0) (by decide +kernel) rfl
theorem iX10_many_50 : zSnd zZM zmX10_many 50 (o_getf zYM 0 18 53) := s_getf zcX10 fX10_134 (by decide +kernel) (by decide +kernel)
theorem iX10_many_53 : zSnd zZM zmX10_many 53 (o_if0 (fun x => x = 0) 56 63) := s_if_ne (off := 10) (by decide +kernel) (by decide +kernel)
theorem iX10_many_56 : zSnd zZM zmX10_many 56 (o_aload 0 57) := s_aload_n (k := 0) (by decide +kernel) rfl
theorem iX10_many_57 : zSnd zZM zmX10_many 57 (o_ic 1 58) := s_iconst (i := 1) (by decide +kernel) (by decide +kernel)
theorem iX10_many_58 : zSnd zZM zmX10_many 58 (o_iload 1 59) := s_iload_n (k := 1) (by decide +kernel) rfl
set_option maxRecDepth 20000 in
theorem iX10_many_59 : zSnd zZM zmX10_many 59 (o_callV zZM 0 zmX10_wrong 2 3 62) := s_callV (idx := 176) zcX10 calX10_wrong virX10_wrong dscX10_wrong (by decide +kernel) (zWS6 49 rfl rfl) (by decide +kernel)
theorem iX10_many_62 : zSnd zZM zmX10_many 62 (o_athrow zYM 2) := s_athrow (T := TIse) (N := 0) rfl (by decide +kernel)
theorem iX10_many_63 : zSnd zZM zmX10_many 63 (o_lload 3 64) := s_lload_n (k := 3) (by decide +kernel) rfl
set_option maxRecDepth 20000 in
theorem iX10_many_64 : zSnd zZM zmX10_many 64 (o_lc 8 67) := s_ldc2 (i := 431) (by decide +kernel) (zWS6 206 rfl rfl)
theorem iX10_many_67 : zSnd zZM zmX10_many 67 (o_lif (fun x y => x = y) 95 71) := s_leq (off := 27) (by decide +kernel) (by decide +kernel) (by decide +kernel)
theorem iX10_many_71 : zSnd zZM zmX10_many 71 (o_lload 3 72) := s_lload_n (k := 3) (by decide +kernel) rfl
set_option maxRecDepth 20000 in
theorem iX10_many_72 : zSnd zZM zmX10_many 72 (o_lc 9 75) := s_ldc2 (i := 435) (by decide +kernel) (zWS6 208 rfl rfl)
theorem iX10_many_75 : zSnd zZM zmX10_many 75 (o_lif (fun x y => x = y) 95 79) := s_leq (off := 19) (by decide +kernel) (by decide +kernel) (by decide +kernel)
theorem iX10_many_79 : zSnd zZM zmX10_many 79 (o_lload 3 80) := s_lload_n (k := 3) (by decide +kernel) rfl
set_option maxRecDepth 20000 in
theorem iX10_many_80 : zSnd zZM zmX10_many 80 (o_lc 12 83) := s_ldc2 (i := 437) (by decide +kernel) (zWS6 209 rfl rfl)
theorem iX10_many_83 : zSnd zZM zmX10_many 83 (o_lif (fun x y => x = y) 95 87) := s_leq (off := 11) (by decide +kernel) (by decide +kernel) (by decide +kernel)
theorem iX10_many_87 : zSnd zZM zmX10_many 87 (o_lload 3 88) := s_lload_n (k := 3) (by decide +kernel) rfl
set_option maxRecDepth 20000 in
theorem iX10_many_88 : zSnd zZM zmX10_many 88 (o_lc 13 91) := s_ldc2 (i := 439) (by decide +kernel) (zWS6 210 rfl rfl)
theorem iX10_many_91 : zSnd zZM zmX10_many 91 (o_lif (fun x y => x = y) 95 101) := s_lne (off := 9) (by decide +kernel) (by decide +kernel) (by decide +kernel)
theorem iX10_many_95 : zSnd zZM zmX10_many 95 (o_aload 0 96) := s_aload_n (k := 0) (by decide +kernel) rfl
set_option maxRecDepth 20000 in
theorem iX10_many_96 : zSnd zZM zmX10_many 96 (o_callV zZM 0 zmX10_u 0 2 99) := s_callV (idx := 144) zcX10 calX10_u virX10_u dscX10_u (by decide +kernel) (zWS6 105 rfl rfl) (by decide +kernel)
theorem iX10_many_99 : zSnd zZM zmX10_many 99 (o_lstore 5 101) := s_lstore (by decide +kernel) (by decide +kernel)
theorem iX10_many_101 : zSnd zZM zmX10_many 101 (o_lload 3 102) := s_lload_n (k := 3) (by decide +kernel) rfl
set_option maxRecDepth 20000 in
theorem iX10_many_102 : zSnd zZM zmX10_many 102 (o_lc 8 105) := s_ldc2 (i := 431) (by decide +kernel) (zWS6 206 rfl rfl)
theorem iX10_many_105 : zSnd zZM zmX10_many 105 (o_lif (fun x y => x = y) 125 109) := s_leq (off := 19) (by decide +kernel) (by decide +kernel) (by decide +kernel)
theorem iX10_many_109 : zSnd zZM zmX10_many 109 (o_lload 3 110) := s_lload_n (k := 3) (by decide +kernel) rfl
set_option maxRecDepth 20000 in
theorem iX10_many_110 : zSnd zZM zmX10_many 110 (o_lc 11 113) := s_ldc2 (i := 441) (by decide +kernel) (zWS6 211 rfl rfl)
theorem iX10_many_113 : zSnd zZM zmX10_many 113 (o_lif (fun x y => x = y) 125 117) := s_leq (off := 11) (by decide +kernel) (by decide +kernel) (by decide +kernel)
theorem iX10_many_117 : zSnd zZM zmX10_many 117 (o_lload 3 118) := s_lload_n (k := 3) (by decide +kernel) rfl
set_option maxRecDepth 20000 in
theorem iX10_many_118 : zSnd zZM zmX10_many 118 (o_lc 12 121) := s_ldc2 (i := 437) (by decide +kernel) (zWS6 209 rfl rfl)
theorem iX10_many_121 : zSnd zZM zmX10_many 121 (o_lif (fun x y => x = y) 125 130) := s_lne (off := 8) (by decide +kernel) (by decide +kernel) (by decide +kernel)
theorem iX10_many_125 : zSnd zZM zmX10_many 125 (o_aload 0 126) := s_aload_n (k := 0) (by decide +kernel) rfl
theorem iX10_many_126 : zSnd zZM zmX10_many 126 (o_ic 0 127) := s_iconst (i := 0) (by decide +kernel) (by decide +kernel)
set_option maxRecDepth 20000 in
theorem iX10_many_127 : zSnd zZM zmX10_many 127 (o_callV zZM 0 zmX10_needOctet 1 0 130) := s_callV (idx := 209) zcX10 calX10_needOctet virX10_needOctet dscX10_needOctet (by decide +kernel) (zWS6 41 rfl rfl) (by decide +kernel)
theorem iX10_many_130 : zSnd zZM zmX10_many 130 (o_lload 3 131) := s_lload_n (k := 3) (by decide +kernel) rfl
set_option maxRecDepth 20000 in
theorem iX10_many_131 : zSnd zZM zmX10_many 131 (o_lc 10 134) := s_ldc2 (i := 443) (by decide +kernel) (zWS6 212 rfl rfl)
theorem iX10_many_134 : zSnd zZM zmX10_many 134 (o_lif (fun x y => x = y) 146 138) := s_leq (off := 11) (by decide +kernel) (by decide +kernel) (by decide +kernel)
theorem iX10_many_138 : zSnd zZM zmX10_many 138 (o_lload 3 139) := s_lload_n (k := 3) (by decide +kernel) rfl
set_option maxRecDepth 20000 in
theorem iX10_many_139 : zSnd zZM zmX10_many 139 (o_lc 14 142) := s_ldc2 (i := 433) (by decide +kernel) (zWS6 207 rfl rfl)
theorem iX10_many_142 : zSnd zZM zmX10_many 142 (o_lif (fun x y => x = y) 146 156) := s_lne (off := 13) (by decide +kernel) (by decide +kernel) (by decide +kernel)
theorem iX10_many_146 : zSnd zZM zmX10_many 146 (o_aload 0 147) := s_aload_n (k := 0) (by decide +kernel) rfl
theorem iX10_many_147 : zSnd zZM zmX10_many 147 (o_ic 0 148) := s_iconst (i := 0) (by decide +kernel) (by decide +kernel)
set_option maxRecDepth 20000 in
theorem iX10_many_148 : zSnd zZM zmX10_many 148 (o_callV zZM 0 zmX10_needOctet 1 0 151) := s_callV (idx := 209) zcX10 calX10_needOctet virX10_needOctet dscX10_needOctet (by decide +kernel) (zWS6 41 rfl rfl) (by decide +kernel)
theorem iX10_many_151 : zSnd zZM zmX10_many 151 (o_aload 0 152) := s_aload_n (k := 0) (by decide +kernel) rfl
theorem iX10_many_152 : zSnd zZM zmX10_many 152 (o_ic 0 153) := s_iconst (i := 0) (by decide +kernel) (by decide +kernel)
set_option maxRecDepth 20000 in
theorem iX10_many_153 : zSnd zZM zmX10_many 153 (o_callV zZM 0 zmX10_needOctet 1 0 156) := s_callV (idx := 209) zcX10 calX10_needOctet virX10_needOctet dscX10_needOctet (by decide +kernel) (zWS6 41 rfl rfl) (by decide +kernel)
theorem iX10_many_156 : zSnd zZM zmX10_many 156 (o_vret) := s_vret rfl (by decide +kernel)
def kX10_many : List (Nat × zOp) := [(0, o_aload 0 1),
  (1, o_getf zYM 0 12 4),
  (4, o_istore 2 5),
  (5, o_aload 0 6),
  (6, o_callV zZM 0 zmX10_u 0 2 9),
  (9, o_lstore 3 10),
  (10, o_lload 3 11),
  (11, o_lc 8 14),
  (14, o_lif (fun x y => x < y) 26 18),
  (18, o_lload 3 19),
  (19, o_lc 14 22),
  (22, o_lif (fun x y => x ≤ y) 33 26),
  (26, o_aload 0 27),
  (27, o_ic 1 28),
  (28, o_iload 2 29),
  (29, o_callV zZM 0 zmX10_wrong 2 3 32),
  (32, o_athrow zYM 2),
  (33, o_lload 3 34),
  (34, o_lc 8 37),
  (37, o_lif (fun x y => x = y) 49 41),
  (41, o_lload 3 42),
  (42, o_lc 9 45),
  (45, o_lif (fun x y => x = y) 49 63),
  (49, o_aload 0 50),
  (50, o_getf zYM 0 18 53),
  (53, o_if0 (fun x => x = 0) 56 63),
  (56, o_aload 0 57),
  (57, o_ic 1 58),
  (58, o_iload 1 59),
  (59, o_callV zZM 0 zmX10_wrong 2 3 62),
  (62, o_athrow zYM 2),
  (63, o_lload 3 64),
  (64, o_lc 8 67),
  (67, o_lif (fun x y => x = y) 95 71),
  (71, o_lload 3 72),
  (72, o_lc 9 75),
  (75, o_lif (fun x y => x = y) 95 79),
  (79, o_lload 3 80),
  (80, o_lc 12 83),
  (83, o_lif (fun x y => x = y) 95 87),
  (87, o_lload 3 88),
  (88, o_lc 13 91),
  (91, o_lif (fun x y => x = y) 95 101),
  (95, o_aload 0 96),
  (96, o_callV zZM 0 zmX10_u 0 2 99),
  (99, o_lstore 5 101),
  (101, o_lload 3 102),
  (102, o_lc 8 105),
  (105, o_lif (fun x y => x = y) 125 109),
  (109, o_lload 3 110),
  (110, o_lc 11 113),
  (113, o_lif (fun x y => x = y) 125 117),
  (117, o_lload 3 118),
  (118, o_lc 12 121),
  (121, o_lif (fun x y => x = y) 125 130),
  (125, o_aload 0 126),
  (126, o_ic 0 127),
  (127, o_callV zZM 0 zmX10_needOctet 1 0 130),
  (130, o_lload 3 131),
  (131, o_lc 10 134),
  (134, o_lif (fun x y => x = y) 146 138),
  (138, o_lload 3 139),
  (139, o_lc 14 142),
  (142, o_lif (fun x y => x = y) 146 156),
  (146, o_aload 0 147),
  (147, o_ic 0 148),
  (148, o_callV zZM 0 zmX10_needOctet 1 0 151),
  (151, o_aload 0 152),
  (152, o_ic 0 153),
  (153, o_callV zZM 0 zmX10_needOctet 1 0 156),
  (156, o_vret)]
set_option maxRecDepth 100000 in
theorem ksX10_many : ∀ q ∈ kX10_many, zSnd zZM zmX10_many q.1 q.2 := zcc iX10_many_0 (zcc iX10_many_1 (zcc iX10_many_4 (zcc iX10_many_5 (zcc iX10_many_6 (zcc iX10_many_9 (zcc iX10_many_10 (zcc iX10_many_11 (zcc iX10_many_14 (zcc iX10_many_18 (zcc iX10_many_19 (zcc iX10_many_22 (zcc iX10_many_26 (zcc iX10_many_27 (zcc iX10_many_28 (zcc iX10_many_29 (zcc iX10_many_32 (zcc iX10_many_33 (zcc iX10_many_34 (zcc iX10_many_37 (zcc iX10_many_41 (zcc iX10_many_42 (zcc iX10_many_45 (zcc iX10_many_49 (zcc iX10_many_50 (zcc iX10_many_53 (zcc iX10_many_56 (zcc iX10_many_57 (zcc iX10_many_58 (zcc iX10_many_59 (zcc iX10_many_62 (zcc iX10_many_63 (zcc iX10_many_64 (zcc iX10_many_67 (zcc iX10_many_71 (zcc iX10_many_72 (zcc iX10_many_75 (zcc iX10_many_79 (zcc iX10_many_80 (zcc iX10_many_83 (zcc iX10_many_87 (zcc iX10_many_88 (zcc iX10_many_91 (zcc iX10_many_95 (zcc iX10_many_96 (zcc iX10_many_99 (zcc iX10_many_101 (zcc iX10_many_102 (zcc iX10_many_105 (zcc iX10_many_109 (zcc iX10_many_110 (zcc iX10_many_113 (zcc iX10_many_117 (zcc iX10_many_118 (zcc iX10_many_121 (zcc iX10_many_125 (zcc iX10_many_126 (zcc iX10_many_127 (zcc iX10_many_130 (zcc iX10_many_131 (zcc iX10_many_134 (zcc iX10_many_138 (zcc iX10_many_139 (zcc iX10_many_142 (zcc iX10_many_146 (zcc iX10_many_147 (zcc iX10_many_148 (zcc iX10_many_151 (zcc iX10_many_152 (zcc iX10_many_153 (zcc iX10_many_156 zcn))))))))))))))))))))))))))))))))))))))))))))))))))))))))))))))))))))))
theorem iX10_nameItem_0 : zSnd zZM zmX10_nameItem 0 (o_aload 0 1) := s_aload_n (k := 0) (by decide +kernel) rfl
theorem iX10_nameItem_1 : zSnd zZM zmX10_nameItem 1 (o_getf zYM 0 12 4) := s_getf zcX10 fX10_127 (by decide +kernel) (by decide +kernel)
theorem iX10_nameItem_4 : zSnd zZM zmX10_nameItem 4 (o_istore 2 5) := s_istore_n (k := 2) (by decide +kernel) rfl (by decide +kernel)
theorem iX10_nameItem_5 : zSnd zZM zmX10_nameItem 5 (o_aload 0 6) := s_aload_n (k := 0) (by decide +kernel) rfl
set_option maxRecDepth 20000 in
theorem iX10_nameItem_6 : zSnd zZM zmX10_nameItem 6 (o_callV zZM 0 zmX10_u 0 2 9) := s_callV (idx := 144) zcX10 calX10_u virX10_u dscX10_u (by decide +kernel) (zWS6 105 rfl rfl) (by decide +kernel)
theorem iX10_nameItem_9 : zSnd zZM zmX10_nameItem 9 (o_lstore 3 10) := s_lstore_n (k := 3) (by decide +kernel) rfl (by decide +kernel)
theorem iX10_nameItem_10 : zSnd zZM zmX10_nameItem 10 (o_lload 3 11) := s_lload_n (k := 3) (by decide +kernel) rfl
theorem iX10_nameItem_11 : zSnd zZM zmX10_nameItem 11 (o_lc 1 12) := s_lconst (i := 1) (by decide +kernel) (by decide +kernel)
theorem iX10_nameItem_12 : zSnd zZM zmX10_nameItem 12 (o_lif (fun x y => x < y) 39 16) := s_llt (off := 26) (by decide +kernel) (by decide +kernel) (by decide +kernel)
theorem iX10_nameItem_16 : zSnd zZM zmX10_nameItem 16 (o_lload 3 17) := s_lload_n (k := 3) (by decide +kernel) rfl
set_option maxRecDepth 20000 in
theorem iX10_nameItem_17 : zSnd zZM zmX10_nameItem 17 (o_lc 100 20) := s_ldc2 (i := 186) (by decide +kernel) (zWS6 113 rfl rfl)
theorem iX10_nameItem_20 : zSnd zZM zmX10_nameItem 20 (o_lif (fun x y => y < x) 39 24) := s_lgt (off := 18) (by decide +kernel) (by decide +kernel) (by decide +kernel)
theorem iX10_nameItem_24 : zSnd zZM zmX10_nameItem 24 (o_lload 3 25) := s_lload_n (k := 3) (by decide +kernel) rfl
theorem iX10_nameItem_25 : zSnd zZM zmX10_nameItem 25 (o_aload 0 26) := s_aload_n (k := 0) (by decide +kernel) rfl
theorem iX10_nameItem_26 : zSnd zZM zmX10_nameItem 26 (o_getf zYM 0 13 29) := s_getf zcX10 fX10_133 (by decide +kernel) (by decide +kernel)
theorem iX10_nameItem_29 : zSnd zZM zmX10_nameItem 29 (o_aload 0 30) := s_aload_n (k := 0) (by decide +kernel) rfl
theorem iX10_nameItem_30 : zSnd zZM zmX10_nameItem 30 (o_getf zYM 0 12 33) := s_getf zcX10 fX10_127 (by decide +kernel) (by decide +kernel)
theorem iX10_nameItem_33 : zSnd zZM zmX10_nameItem 33 (o_ibin (fun x y => x - y) 34) := s_isub (by decide +kernel)
theorem iX10_nameItem_34 : zSnd zZM zmX10_nameItem 34 (o_i2l 35) := s_i2l (by decide +kernel)
theorem iX10_nameItem_35 : zSnd zZM zmX10_nameItem 35 (o_lif (fun x y => x ≤ y) 46 39) := s_lle (off := 10) (by decide +kernel) (by decide +kernel) (by decide +kernel)
theorem iX10_nameItem_39 : zSnd zZM zmX10_nameItem 39 (o_aload 0 40) := s_aload_n (k := 0) (by decide +kernel) rfl
theorem iX10_nameItem_40 : zSnd zZM zmX10_nameItem 40 (o_ic 1 41) := s_iconst (i := 1) (by decide +kernel) (by decide +kernel)
theorem iX10_nameItem_41 : zSnd zZM zmX10_nameItem 41 (o_iload 2 42) := s_iload_n (k := 2) (by decide +kernel) rfl
set_option maxRecDepth 20000 in
theorem iX10_nameItem_42 : zSnd zZM zmX10_nameItem 42 (o_callV zZM 0 zmX10_wrong 2 3 45) := s_callV (idx := 176) zcX10 calX10_wrong virX10_wrong dscX10_wrong (by decide +kernel) (zWS6 49 rfl rfl) (by decide +kernel)
theorem iX10_nameItem_45 : zSnd zZM zmX10_nameItem 45 (o_athrow zYM 2) := s_athrow (T := TIse) (N := 0) rfl (by decide +kernel)
theorem iX10_nameItem_46 : zSnd zZM zmX10_nameItem 46 (o_aload 0 47) := s_aload_n (k := 0) (by decide +kernel) rfl
theorem iX10_nameItem_47 : zSnd zZM zmX10_nameItem 47 (o_aload 0 48) := s_aload_n (k := 0) (by decide +kernel) rfl
theorem iX10_nameItem_48 : zSnd zZM zmX10_nameItem 48 (o_getf zYM 0 12 51) := s_getf zcX10 fX10_127 (by decide +kernel) (by decide +kernel)
theorem iX10_nameItem_51 : zSnd zZM zmX10_nameItem 51 (o_putI zYM 0 14 54) := s_putI zcX10 fX10_188 (by decide +kernel) rfl rfl (by decide +kernel)
theorem iX10_nameItem_54 : zSnd zZM zmX10_nameItem 54 (o_aload 0 55) := s_aload_n (k := 0) (by decide +kernel) rfl
theorem iX10_nameItem_55 : zSnd zZM zmX10_nameItem 55 (o_lload 3 56) := s_lload_n (k := 3) (by decide +kernel) rfl
theorem iX10_nameItem_56 : zSnd zZM zmX10_nameItem 56 (o_l2i 57) := s_l2i (by decide +kernel)
theorem iX10_nameItem_57 : zSnd zZM zmX10_nameItem 57 (o_putI zYM 0 15 60) := s_putI zcX10 fX10_191 (by decide +kernel) rfl rfl (by decide +kernel)
theorem iX10_nameItem_60 : zSnd zZM zmX10_nameItem 60 (o_ic 0 61) := s_iconst (i := 0) (by decide +kernel) (by decide +kernel)
theorem iX10_nameItem_61 : zSnd zZM zmX10_nameItem 61 (o_istore 5 63) := s_istore (by decide +kernel) (by decide +kernel)
theorem iX10_nameItem_63 : zSnd zZM zmX10_nameItem 63 (o_iload 5 65) := s_iload (by decide +kernel)
theorem iX10_nameItem_65 : zSnd zZM zmX10_nameItem 65 (o_i2l 66) := s_i2l (by decide +kernel)
theorem iX10_nameItem_66 : zSnd zZM zmX10_nameItem 66 (o_lload 3 67) := s_lload_n (k := 3) (by decide +kernel) rfl
theorem iX10_nameItem_67 : zSnd zZM zmX10_nameItem 67 (o_lif (fun x y => y ≤ x) 118 71) := s_lge (off := 50) (by decide +kernel) (by decide +kernel) (by decide +kernel)
theorem iX10_nameItem_71 : zSnd zZM zmX10_nameItem 71 (o_aload 0 72) := s_aload_n (k := 0) (by decide +kernel) rfl
theorem iX10_nameItem_72 : zSnd zZM zmX10_nameItem 72 (o_getf zYM 0 3 75) := s_getf zcX10 fX10_19 (by decide +kernel) (by decide +kernel)
theorem iX10_nameItem_75 : zSnd zZM zmX10_nameItem 75 (o_aload 0 76) := s_aload_n (k := 0) (by decide +kernel) rfl
theorem iX10_nameItem_76 : zSnd zZM zmX10_nameItem 76 (o_getf zYM 0 12 79) := s_getf zcX10 fX10_127 (by decide +kernel) (by decide +kernel)
theorem iX10_nameItem_79 : zSnd zZM zmX10_nameItem 79 (o_iload 5 81) := s_iload (by decide +kernel)
theorem iX10_nameItem_81 : zSnd zZM zmX10_nameItem 81 (o_ibin (fun x y => x + y) 82) := s_iadd (by decide +kernel)
theorem iX10_nameItem_82 : zSnd zZM zmX10_nameItem 82 (o_ald zYM .byte 83) := s_bald (by decide +kernel)
theorem iX10_nameItem_83 : zSnd zZM zmX10_nameItem 83 (o_ic 33 85) := s_bipush (i := 33) (by decide +kernel) (by decide +kernel)
theorem iX10_nameItem_85 : zSnd zZM zmX10_nameItem 85 (o_icmp (fun x y => x < y) 105 88) := s_icmp_lt (off := 20) (by decide +kernel) (by decide +kernel)
theorem iX10_nameItem_88 : zSnd zZM zmX10_nameItem 88 (o_aload 0 89) := s_aload_n (k := 0) (by decide +kernel) rfl
theorem iX10_nameItem_89 : zSnd zZM zmX10_nameItem 89 (o_getf zYM 0 3 92) := s_getf zcX10 fX10_19 (by decide +kernel) (by decide +kernel)
theorem iX10_nameItem_92 : zSnd zZM zmX10_nameItem 92 (o_aload 0 93) := s_aload_n (k := 0) (by decide +kernel) rfl
theorem iX10_nameItem_93 : zSnd zZM zmX10_nameItem 93 (o_getf zYM 0 12 96) := s_getf zcX10 fX10_127 (by decide +kernel) (by decide +kernel)
theorem iX10_nameItem_96 : zSnd zZM zmX10_nameItem 96 (o_iload 5 98) := s_iload (by decide +kernel)
theorem iX10_nameItem_98 : zSnd zZM zmX10_nameItem 98 (o_ibin (fun x y => x + y) 99) := s_iadd (by decide +kernel)
theorem iX10_nameItem_99 : zSnd zZM zmX10_nameItem 99 (o_ald zYM .byte 100) := s_bald (by decide +kernel)
theorem iX10_nameItem_100 : zSnd zZM zmX10_nameItem 100 (o_ic 126 102) := s_bipush (i := 126) (by decide +kernel) (by decide +kernel)
theorem iX10_nameItem_102 : zSnd zZM zmX10_nameItem 102 (o_icmp (fun x y => x ≤ y) 112 105) := s_icmp_le (off := 10) (by decide +kernel) (by decide +kernel)
theorem iX10_nameItem_105 : zSnd zZM zmX10_nameItem 105 (o_aload 0 106) := s_aload_n (k := 0) (by decide +kernel) rfl
theorem iX10_nameItem_106 : zSnd zZM zmX10_nameItem 106 (o_ic 1 107) := s_iconst (i := 1) (by decide +kernel) (by decide +kernel)
theorem iX10_nameItem_107 : zSnd zZM zmX10_nameItem 107 (o_iload 2 108) := s_iload_n (k := 2) (by decide +kernel) rfl
set_option maxRecDepth 20000 in
theorem iX10_nameItem_108 : zSnd zZM zmX10_nameItem 108 (o_callV zZM 0 zmX10_wrong 2 3 111) := s_callV (idx := 176) zcX10 calX10_wrong virX10_wrong dscX10_wrong (by decide +kernel) (zWS6 49 rfl rfl) (by decide +kernel)
theorem iX10_nameItem_111 : zSnd zZM zmX10_nameItem 111 (o_athrow zYM 2) := s_athrow (T := TIse) (N := 0) rfl (by decide +kernel)
theorem iX10_nameItem_112 : zSnd zZM zmX10_nameItem 112 (o_iinc 5 1 115) := s_iinc (a := 1) (by decide +kernel) (by decide +kernel) (by decide +kernel)
theorem iX10_nameItem_115 : zSnd zZM zmX10_nameItem 115 (o_goto 63) := s_goto (off := (-52)) (by decide +kernel) (by decide +kernel)
theorem iX10_nameItem_118 : zSnd zZM zmX10_nameItem 118 (o_aload 0 119) := s_aload_n (k := 0) (by decide +kernel) rfl
theorem iX10_nameItem_119 : zSnd zZM zmX10_nameItem 119 (o_dup 120) := s_dup (by decide +kernel)
theorem iX10_nameItem_120 : zSnd zZM zmX10_nameItem 120 (o_getf zYM 0 12 123) := s_getf zcX10 fX10_127 (by decide +kernel) (by decide +kernel)
theorem iX10_nameItem_123 : zSnd zZM zmX10_nameItem 123 (o_aload 0 124) := s_aload_n (k := 0) (by decide +kernel) rfl
theorem iX10_nameItem_124 : zSnd zZM zmX10_nameItem 124 (o_getf zYM 0 15 127) := s_getf zcX10 fX10_191 (by decide +kernel) (by decide +kernel)
theorem iX10_nameItem_127 : zSnd zZM zmX10_nameItem 127 (o_ibin (fun x y => x + y) 128) := s_iadd (by decide +kernel)
theorem iX10_nameItem_128 : zSnd zZM zmX10_nameItem 128 (o_putI zYM 0 12 131) := s_putI zcX10 fX10_127 (by decide +kernel) rfl rfl (by decide +kernel)
theorem iX10_nameItem_131 : zSnd zZM zmX10_nameItem 131 (o_iload 1 132) := s_iload_n (k := 1) (by decide +kernel) rfl
theorem iX10_nameItem_132 : zSnd zZM zmX10_nameItem 132 (o_if0 (fun x => x = 0) 150 135) := s_if_eq (off := 18) (by decide +kernel) (by decide +kernel)
theorem iX10_nameItem_135 : zSnd zZM zmX10_nameItem 135 (o_lload 3 136) := s_lload_n (k := 3) (by decide +kernel) rfl
set_option maxRecDepth 20000 in
theorem iX10_nameItem_136 : zSnd zZM zmX10_nameItem 136 (o_lc 40 139) := s_ldc2 (i := 194) (by decide +kernel) (zWS6 114 rfl rfl)
theorem iX10_nameItem_139 : zSnd zZM zmX10_nameItem 139 (o_lif (fun x y => x ≤ y) 150 143) := s_lle (off := 10) (by decide +kernel) (by decide +kernel) (by decide +kernel)
theorem iX10_nameItem_143 : zSnd zZM zmX10_nameItem 143 (o_aload 0 144) := s_aload_n (k := 0) (by decide +kernel) rfl
theorem iX10_nameItem_144 : zSnd zZM zmX10_nameItem 144 (o_ic 4 145) := s_iconst (i := 4) (by decide +kernel) (by decide +kernel)
theorem iX10_nameItem_145 : zSnd zZM zmX10_nameItem 145 (o_iload 2 146) := s_iload_n (k := 2) (by decide +kernel) rfl
set_option maxRecDepth 20000 in
theorem iX10_nameItem_146 : zSnd zZM zmX10_nameItem 146 (o_callV zZM 0 zmX10_wrong 2 3 149) := s_callV (idx := 176) zcX10 calX10_wrong virX10_wrong dscX10_wrong (by decide +kernel) (zWS6 49 rfl rfl) (by decide +kernel)
theorem iX10_nameItem_149 : zSnd zZM zmX10_nameItem 149 (o_athrow zYM 2) := s_athrow (T := TIse) (N := 0) rfl (by decide +kernel)
theorem iX10_nameItem_150 : zSnd zZM zmX10_nameItem 150 (o_vret) := s_vret rfl (by decide +kernel)
def kX10_nameItem : List (Nat × zOp) := [(0, o_aload 0 1),
  (1, o_getf zYM 0 12 4),
  (4, o_istore 2 5),
  (5, o_aload 0 6),
  (6, o_callV zZM 0 zmX10_u 0 2 9),
  (9, o_lstore 3 10),
  (10, o_lload 3 11),
  (11, o_lc 1 12),
  (12, o_lif (fun x y => x < y) 39 16),
  (16, o_lload 3 17),
  (17, o_lc 100 20),
  (20, o_lif (fun x y => y < x) 39 24),
  (24, o_lload 3 25),
  (25, o_aload 0 26),
  (26, o_getf zYM 0 13 29),
  (29, o_aload 0 30),
  (30, o_getf zYM 0 12 33),
  (33, o_ibin (fun x y => x - y) 34),
  (34, o_i2l 35),
  (35, o_lif (fun x y => x ≤ y) 46 39),
  (39, o_aload 0 40),
  (40, o_ic 1 41),
  (41, o_iload 2 42),
  (42, o_callV zZM 0 zmX10_wrong 2 3 45),
  (45, o_athrow zYM 2),
  (46, o_aload 0 47),
  (47, o_aload 0 48),
  (48, o_getf zYM 0 12 51),
  (51, o_putI zYM 0 14 54),
  (54, o_aload 0 55),
  (55, o_lload 3 56),
  (56, o_l2i 57),
  (57, o_putI zYM 0 15 60),
  (60, o_ic 0 61),
  (61, o_istore 5 63),
  (63, o_iload 5 65),
  (65, o_i2l 66),
  (66, o_lload 3 67),
  (67, o_lif (fun x y => y ≤ x) 118 71),
  (71, o_aload 0 72),
  (72, o_getf zYM 0 3 75),
  (75, o_aload 0 76),
  (76, o_getf zYM 0 12 79),
  (79, o_iload 5 81),
  (81, o_ibin (fun x y => x + y) 82),
  (82, o_ald zYM .byte 83),
  (83, o_ic 33 85),
  (85, o_icmp (fun x y => x < y) 105 88),
  (88, o_aload 0 89),
  (89, o_getf zYM 0 3 92),
  (92, o_aload 0 93),
  (93, o_getf zYM 0 12 96),
  (96, o_iload 5 98),
  (98, o_ibin (fun x y => x + y) 99),
  (99, o_ald zYM .byte 100),
  (100, o_ic 126 102),
  (102, o_icmp (fun x y => x ≤ y) 112 105),
  (105, o_aload 0 106),
  (106, o_ic 1 107),
  (107, o_iload 2 108),
  (108, o_callV zZM 0 zmX10_wrong 2 3 111),
  (111, o_athrow zYM 2),
  (112, o_iinc 5 1 115),
  (115, o_goto 63),
  (118, o_aload 0 119),
  (119, o_dup 120),
  (120, o_getf zYM 0 12 123),
  (123, o_aload 0 124),
  (124, o_getf zYM 0 15 127),
  (127, o_ibin (fun x y => x + y) 128),
  (128, o_putI zYM 0 12 131),
  (131, o_iload 1 132),
  (132, o_if0 (fun x => x = 0) 150 135),
  (135, o_lload 3 136),
  (136, o_lc 40 139),
  (139, o_lif (fun x y => x ≤ y) 150 143),
  (143, o_aload 0 144),
  (144, o_ic 4 145),
  (145, o_iload 2 146),
  (146, o_callV zZM 0 zmX10_wrong 2 3 149),
  (149, o_athrow zYM 2),
  (150, o_vret)]
set_option maxRecDepth 100000 in
theorem ksX10_nameItem : ∀ q ∈ kX10_nameItem, zSnd zZM zmX10_nameItem q.1 q.2 := zcc iX10_nameItem_0 (zcc iX10_nameItem_1 (zcc iX10_nameItem_4 (zcc iX10_nameItem_5 (zcc iX10_nameItem_6 (zcc iX10_nameItem_9 (zcc iX10_nameItem_10 (zcc iX10_nameItem_11 (zcc iX10_nameItem_12 (zcc iX10_nameItem_16 (zcc iX10_nameItem_17 (zcc iX10_nameItem_20 (zcc iX10_nameItem_24 (zcc iX10_nameItem_25 (zcc iX10_nameItem_26 (zcc iX10_nameItem_29 (zcc iX10_nameItem_30 (zcc iX10_nameItem_33 (zcc iX10_nameItem_34 (zcc iX10_nameItem_35 (zcc iX10_nameItem_39 (zcc iX10_nameItem_40 (zcc iX10_nameItem_41 (zcc iX10_nameItem_42 (zcc iX10_nameItem_45 (zcc iX10_nameItem_46 (zcc iX10_nameItem_47 (zcc iX10_nameItem_48 (zcc iX10_nameItem_51 (zcc iX10_nameItem_54 (zcc iX10_nameItem_55 (zcc iX10_nameItem_56 (zcc iX10_nameItem_57 (zcc iX10_nameItem_60 (zcc iX10_nameItem_61 (zcc iX10_nameItem_63 (zcc iX10_nameItem_65 (zcc iX10_nameItem_66 (zcc iX10_nameItem_67 (zcc iX10_nameItem_71 (zcc iX10_nameItem_72 (zcc iX10_nameItem_75 (zcc iX10_nameItem_76 (zcc iX10_nameItem_79 (zcc iX10_nameItem_81 (zcc iX10_nameItem_82 (zcc iX10_nameItem_83 (zcc iX10_nameItem_85 (zcc iX10_nameItem_88 (zcc iX10_nameItem_89 (zcc iX10_nameItem_92 (zcc iX10_nameItem_93 (zcc iX10_nameItem_96 (zcc iX10_nameItem_98 (zcc iX10_nameItem_99 (zcc iX10_nameItem_100 (zcc iX10_nameItem_102 (zcc iX10_nameItem_105 (zcc iX10_nameItem_106 (zcc iX10_nameItem_107 (zcc iX10_nameItem_108 (zcc iX10_nameItem_111 (zcc iX10_nameItem_112 (zcc iX10_nameItem_115 (zcc iX10_nameItem_118 (zcc iX10_nameItem_119 (zcc iX10_nameItem_120 (zcc iX10_nameItem_123 (zcc iX10_nameItem_124 (zcc iX10_nameItem_127 (zcc iX10_nameItem_128 (zcc iX10_nameItem_131 (zcc iX10_nameItem_132 (zcc iX10_nameItem_135 (zcc iX10_nameItem_136 (zcc iX10_nameItem_139 (zcc iX10_nameItem_143 (zcc iX10_nameItem_144 (zcc iX10_nameItem_145 (zcc iX10_nameItem_146 (zcc iX10_nameItem_149 (zcc iX10_nameItem_150 zcn)))))))))))))))))))))))))))))))))))))))))))))))))))))))))))))))))))))))))))))))))
theorem iX10_readLocals_0 : zSnd zZM zmX10_readLocals 0 (o_aload 0 1) := s_aload_n (k := 0) (by decide +kernel) rfl
theorem iX10_readLocals_1 : zSnd zZM zmX10_readLocals 1 (o_ic 0 2) := s_iconst (i := 0) (by decide +kernel) (by decide +kernel)
theorem iX10_readLocals_2 : zSnd zZM zmX10_readLocals 2 (o_putI zYM 0 30 5) := s_putI zcX10 fX10_173 (by decide +kernel) rfl rfl (by decide +kernel)
theorem iX10_readLocals_5 : zSnd zZM zmX10_readLocals 5 (o_ic 0 6) := s_iconst (i := 0) (by decide +kernel) (by decide +kernel)
theorem iX10_readLocals_6 : zSnd zZM zmX10_readLocals 6 (o_istore 3 7) := s_istore_n (k := 3) (by decide +kernel) rfl (by decide +kernel)
theorem iX10_readLocals_7 : zSnd zZM zmX10_readLocals 7 (o_iload 3 8) := s_iload_n (k := 3) (by decide +kernel) rfl
theorem iX10_readLocals_8 : zSnd zZM zmX10_readLocals 8 (o_iload 1 9) := s_iload_n (k := 1) (by decide +kernel) rfl
set_option maxRecDepth 20000 in
theorem iX10_readLocals_9 : zSnd zZM zmX10_readLocals 9 (o_callS zZM zmX10_parameters 1 1 12) := s_callS (idx := 478) calX10_parameters virX10_parameters dscX10_parameters (by decide +kernel) (zWS7 27 rfl rfl) (by decide +kernel)
theorem iX10_readLocals_12 : zSnd zZM zmX10_readLocals 12 (o_icmp (fun x y => y ≤ x) 45 15) := s_icmp_ge (off := 33) (by decide +kernel) (by decide +kernel)
theorem iX10_readLocals_15 : zSnd zZM zmX10_readLocals 15 (o_aload 0 16) := s_aload_n (k := 0) (by decide +kernel) rfl
theorem iX10_readLocals_16 : zSnd zZM zmX10_readLocals 16 (o_getf zYM 0 29 19) := s_getf zcX10 fX10_60 (by decide +kernel) (by decide +kernel)
theorem iX10_readLocals_19 : zSnd zZM zmX10_readLocals 19 (o_aload 0 20) := s_aload_n (k := 0) (by decide +kernel) rfl
theorem iX10_readLocals_20 : zSnd zZM zmX10_readLocals 20 (o_getf zYM 0 30 23) := s_getf zcX10 fX10_173 (by decide +kernel) (by decide +kernel)
theorem iX10_readLocals_23 : zSnd zZM zmX10_readLocals 23 (o_iload 1 24) := s_iload_n (k := 1) (by decide +kernel) rfl
theorem iX10_readLocals_24 : zSnd zZM zmX10_readLocals 24 (o_iload 3 25) := s_iload_n (k := 3) (by decide +kernel) rfl
set_option maxRecDepth 20000 in
theorem iX10_readLocals_25 : zSnd zZM zmX10_readLocals 25 (o_callS zZM zmX10_parameter 2 1 28) := s_callS (idx := 513) calX10_parameter virX10_parameter dscX10_parameter (by decide +kernel) (zWS7 41 rfl rfl) (by decide +kernel)
theorem iX10_readLocals_28 : zSnd zZM zmX10_readLocals 28 (o_ast zYM .int (fun x => x) 29) := s_iast (by decide +kernel)
theorem iX10_readLocals_29 : zSnd zZM zmX10_readLocals 29 (o_aload 0 30) := s_aload_n (k := 0) (by decide +kernel) rfl
theorem iX10_readLocals_30 : zSnd zZM zmX10_readLocals 30 (o_dup 31) := s_dup (by decide +kernel)
theorem iX10_readLocals_31 : zSnd zZM zmX10_readLocals 31 (o_getf zYM 0 30 34) := s_getf zcX10 fX10_173 (by decide +kernel) (by decide +kernel)
theorem iX10_readLocals_34 : zSnd zZM zmX10_readLocals 34 (o_ic 1 35) := s_iconst (i := 1) (by decide +kernel) (by decide +kernel)
theorem iX10_readLocals_35 : zSnd zZM zmX10_readLocals 35 (o_ibin (fun x y => x + y) 36) := s_iadd (by decide +kernel)
theorem iX10_readLocals_36 : zSnd zZM zmX10_readLocals 36 (o_putI zYM 0 30 39) := s_putI zcX10 fX10_173 (by decide +kernel) rfl rfl (by decide +kernel)
theorem iX10_readLocals_39 : zSnd zZM zmX10_readLocals 39 (o_iinc 3 1 42) := s_iinc (a := 1) (by decide +kernel) (by decide +kernel) (by decide +kernel)
theorem iX10_readLocals_42 : zSnd zZM zmX10_readLocals 42 (o_goto 7) := s_goto (off := (-35)) (by decide +kernel) (by decide +kernel)
theorem iX10_readLocals_45 : zSnd zZM zmX10_readLocals 45 (o_aload 0 46) := s_aload_n (k := 0) (by decide +kernel) rfl
theorem iX10_readLocals_46 : zSnd zZM zmX10_readLocals 46 (o_iload 2 47) := s_iload_n (k := 2) (by decide +kernel) rfl
theorem iX10_readLocals_47 : zSnd zZM zmX10_readLocals 47 (o_putI zYM 0 12 50) := s_putI zcX10 fX10_127 (by decide +kernel) rfl rfl (by decide +kernel)
theorem iX10_readLocals_50 : zSnd zZM zmX10_readLocals 50 (o_aload 0 51) := s_aload_n (k := 0) (by decide +kernel) rfl
set_option maxRecDepth 20000 in
theorem iX10_readLocals_51 : zSnd zZM zmX10_readLocals 51 (o_callV zZM 0 zmX10_u 0 2 54) := s_callV (idx := 144) zcX10 calX10_u virX10_u dscX10_u (by decide +kernel) (zWS6 105 rfl rfl) (by decide +kernel)
theorem iX10_readLocals_54 : zSnd zZM zmX10_readLocals 54 (o_lstore 3 55) := s_lstore_n (k := 3) (by decide +kernel) rfl (by decide +kernel)
theorem iX10_readLocals_55 : zSnd zZM zmX10_readLocals 55 (o_lc 0 56) := s_lconst (i := 0) (by decide +kernel) (by decide +kernel)
theorem iX10_readLocals_56 : zSnd zZM zmX10_readLocals 56 (o_lstore 5 58) := s_lstore (by decide +kernel) (by decide +kernel)
theorem iX10_readLocals_58 : zSnd zZM zmX10_readLocals 58 (o_lload 5 60) := s_lload (by decide +kernel)
theorem iX10_readLocals_60 : zSnd zZM zmX10_readLocals 60 (o_lload 3 61) := s_lload_n (k := 3) (by decide +kernel) rfl
theorem iX10_readLocals_61 : zSnd zZM zmX10_readLocals 61 (o_lif (fun x y => y ≤ x) 127 65) := s_lge (off := 65) (by decide +kernel) (by decide +kernel) (by decide +kernel)
theorem iX10_readLocals_65 : zSnd zZM zmX10_readLocals 65 (o_aload 0 66) := s_aload_n (k := 0) (by decide +kernel) rfl
set_option maxRecDepth 20000 in
theorem iX10_readLocals_66 : zSnd zZM zmX10_readLocals 66 (o_callV zZM 0 zmX10_u 0 2 69) := s_callV (idx := 144) zcX10 calX10_u virX10_u dscX10_u (by decide +kernel) (zWS6 105 rfl rfl) (by decide +kernel)
theorem iX10_readLocals_69 : zSnd zZM zmX10_readLocals 69 (o_lstore 7 71) := s_lstore (by decide +kernel) (by decide +kernel)
theorem iX10_readLocals_71 : zSnd zZM zmX10_readLocals 71 (o_aload 0 72) := s_aload_n (k := 0) (by decide +kernel) rfl
set_option maxRecDepth 20000 in
theorem iX10_readLocals_72 : zSnd zZM zmX10_readLocals 72 (o_callV zZM 0 zmX10_type 0 1 75) := s_callV (idx := 290) zcX10 calX10_type virX10_type dscX10_type (by decide +kernel) (zWS6 126 rfl rfl) (by decide +kernel)
theorem iX10_readLocals_75 : zSnd zZM zmX10_readLocals 75 (o_istore 9 77) := s_istore (by decide +kernel) (by decide +kernel)
theorem iX10_readLocals_77 : zSnd zZM zmX10_readLocals 77 (o_lc 0 78) := s_lconst (i := 0) (by decide +kernel) (by decide +kernel)
theorem iX10_readLocals_78 : zSnd zZM zmX10_readLocals 78 (o_lstore 10 80) := s_lstore (by decide +kernel) (by decide +kernel)
theorem iX10_readLocals_80 : zSnd zZM zmX10_readLocals 80 (o_lload 10 82) := s_lload (by decide +kernel)
theorem iX10_readLocals_82 : zSnd zZM zmX10_readLocals 82 (o_lload 7 84) := s_lload (by decide +kernel)
theorem iX10_readLocals_84 : zSnd zZM zmX10_readLocals 84 (o_lif (fun x y => y ≤ x) 118 88) := s_lge (off := 33) (by decide +kernel) (by decide +kernel) (by decide +kernel)
theorem iX10_readLocals_88 : zSnd zZM zmX10_readLocals 88 (o_aload 0 89) := s_aload_n (k := 0) (by decide +kernel) rfl
theorem iX10_readLocals_89 : zSnd zZM zmX10_readLocals 89 (o_getf zYM 0 29 92) := s_getf zcX10 fX10_60 (by decide +kernel) (by decide +kernel)
theorem iX10_readLocals_92 : zSnd zZM zmX10_readLocals 92 (o_aload 0 93) := s_aload_n (k := 0) (by decide +kernel) rfl
theorem iX10_readLocals_93 : zSnd zZM zmX10_readLocals 93 (o_getf zYM 0 30 96) := s_getf zcX10 fX10_173 (by decide +kernel) (by decide +kernel)
theorem iX10_readLocals_96 : zSnd zZM zmX10_readLocals 96 (o_iload 9 98) := s_iload (by decide +kernel)
theorem iX10_readLocals_98 : zSnd zZM zmX10_readLocals 98 (o_ast zYM .int (fun x => x) 99) := s_iast (by decide +kernel)
theorem iX10_readLocals_99 : zSnd zZM zmX10_readLocals 99 (o_aload 0 100) := s_aload_n (k := 0) (by decide +kernel) rfl
theorem iX10_readLocals_100 : zSnd zZM zmX10_readLocals 100 (o_dup 101) := s_dup (by decide +kernel)
theorem iX10_readLocals_101 : zSnd zZM zmX10_readLocals 101 (o_getf zYM 0 30 104) := s_getf zcX10 fX10_173 (by decide +kernel) (by decide +kernel)
theorem iX10_readLocals_104 : zSnd zZM zmX10_readLocals 104 (o_ic 1 105) := s_iconst (i := 1) (by decide +kernel) (by decide +kernel)
theorem iX10_readLocals_105 : zSnd zZM zmX10_readLocals 105 (o_ibin (fun x y => x + y) 106) := s_iadd (by decide +kernel)
theorem iX10_readLocals_106 : zSnd zZM zmX10_readLocals 106 (o_putI zYM 0 30 109) := s_putI zcX10 fX10_173 (by decide +kernel) rfl rfl (by decide +kernel)
theorem iX10_readLocals_109 : zSnd zZM zmX10_readLocals 109 (o_lload 10 111) := s_lload (by decide +kernel)
theorem iX10_readLocals_111 : zSnd zZM zmX10_readLocals 111 (o_lc 1 112) := s_lconst (i := 1) (by decide +kernel) (by decide +kernel)
theorem iX10_readLocals_112 : zSnd zZM zmX10_readLocals 112 (o_lbin (fun x y => x + y) 113) := s_ladd (by decide +kernel)
theorem iX10_readLocals_113 : zSnd zZM zmX10_readLocals 113 (o_lstore 10 115) := s_lstore (by decide +kernel) (by decide +kernel)
theorem iX10_readLocals_115 : zSnd zZM zmX10_readLocals 115 (o_goto 80) := s_goto (off := (-35)) (by decide +kernel) (by decide +kernel)
theorem iX10_readLocals_118 : zSnd zZM zmX10_readLocals 118 (o_lload 5 120) := s_lload (by decide +kernel)
theorem iX10_readLocals_120 : zSnd zZM zmX10_readLocals 120 (o_lc 1 121) := s_lconst (i := 1) (by decide +kernel) (by decide +kernel)
theorem iX10_readLocals_121 : zSnd zZM zmX10_readLocals 121 (o_lbin (fun x y => x + y) 122) := s_ladd (by decide +kernel)
theorem iX10_readLocals_122 : zSnd zZM zmX10_readLocals 122 (o_lstore 5 124) := s_lstore (by decide +kernel) (by decide +kernel)
theorem iX10_readLocals_124 : zSnd zZM zmX10_readLocals 124 (o_goto 58) := s_goto (off := (-66)) (by decide +kernel) (by decide +kernel)
theorem iX10_readLocals_127 : zSnd zZM zmX10_readLocals 127 (o_vret) := s_vret rfl (by decide +kernel)
def kX10_readLocals : List (Nat × zOp) := [(0, o_aload 0 1),
  (1, o_ic 0 2),
  (2, o_putI zYM 0 30 5),
  (5, o_ic 0 6),
  (6, o_istore 3 7),
  (7, o_iload 3 8),
  (8, o_iload 1 9),
  (9, o_callS zZM zmX10_parameters 1 1 12),
  (12, o_icmp (fun x y => y ≤ x) 45 15),
  (15, o_aload 0 16),
  (16, o_getf zYM 0 29 19),
  (19, o_aload 0 20),
  (20, o_getf zYM 0 30 23),
  (23, o_iload 1 24),
  (24, o_iload 3 25),
  (25, o_callS zZM zmX10_parameter 2 1 28),
  (28, o_ast zYM .int (fun x => x) 29),
  (29, o_aload 0 30),
  (30, o_dup 31),
  (31, o_getf zYM 0 30 34),
  (34, o_ic 1 35),
  (35, o_ibin (fun x y => x + y) 36),
  (36, o_putI zYM 0 30 39),
  (39, o_iinc 3 1 42),
  (42, o_goto 7),
  (45, o_aload 0 46),
  (46, o_iload 2 47),
  (47, o_putI zYM 0 12 50),
  (50, o_aload 0 51),
  (51, o_callV zZM 0 zmX10_u 0 2 54),
  (54, o_lstore 3 55),
  (55, o_lc 0 56),
  (56, o_lstore 5 58),
  (58, o_lload 5 60),
  (60, o_lload 3 61),
  (61, o_lif (fun x y => y ≤ x) 127 65),
  (65, o_aload 0 66),
  (66, o_callV zZM 0 zmX10_u 0 2 69),
  (69, o_lstore 7 71),
  (71, o_aload 0 72),
  (72, o_callV zZM 0 zmX10_type 0 1 75),
  (75, o_istore 9 77),
  (77, o_lc 0 78),
  (78, o_lstore 10 80),
  (80, o_lload 10 82),
  (82, o_lload 7 84),
  (84, o_lif (fun x y => y ≤ x) 118 88),
  (88, o_aload 0 89),
  (89, o_getf zYM 0 29 92),
  (92, o_aload 0 93),
  (93, o_getf zYM 0 30 96),
  (96, o_iload 9 98),
  (98, o_ast zYM .int (fun x => x) 99),
  (99, o_aload 0 100),
  (100, o_dup 101),
  (101, o_getf zYM 0 30 104),
  (104, o_ic 1 105),
  (105, o_ibin (fun x y => x + y) 106),
  (106, o_putI zYM 0 30 109),
  (109, o_lload 10 111),
  (111, o_lc 1 112),
  (112, o_lbin (fun x y => x + y) 113),
  (113, o_lstore 10 115),
  (115, o_goto 80),
  (118, o_lload 5 120),
  (120, o_lc 1 121),
  (121, o_lbin (fun x y => x + y) 122),
  (122, o_lstore 5 124),
  (124, o_goto 58),
  (127, o_vret)]
set_option maxRecDepth 100000 in
theorem ksX10_readLocals : ∀ q ∈ kX10_readLocals, zSnd zZM zmX10_readLocals q.1 q.2 := zcc iX10_readLocals_0 (zcc iX10_readLocals_1 (zcc iX10_readLocals_2 (zcc iX10_readLocals_5 (zcc iX10_readLocals_6 (zcc iX10_readLocals_7 (zcc iX10_readLocals_8 (zcc iX10_readLocals_9 (zcc iX10_readLocals_12 (zcc iX10_readLocals_15 (zcc iX10_readLocals_16 (zcc iX10_readLocals_19 (zcc iX10_readLocals_20 (zcc iX10_readLocals_23 (zcc iX10_readLocals_24 (zcc iX10_readLocals_25 (zcc iX10_readLocals_28 (zcc iX10_readLocals_29 (zcc iX10_readLocals_30 (zcc iX10_readLocals_31 (zcc iX10_readLocals_34 (zcc iX10_readLocals_35 (zcc iX10_readLocals_36 (zcc iX10_readLocals_39 (zcc iX10_readLocals_42 (zcc iX10_readLocals_45 (zcc iX10_readLocals_46 (zcc iX10_readLocals_47 (zcc iX10_readLocals_50 (zcc iX10_readLocals_51 (zcc iX10_readLocals_54 (zcc iX10_readLocals_55 (zcc iX10_readLocals_56 (zcc iX10_readLocals_58 (zcc iX10_readLocals_60 (zcc iX10_readLocals_61 (zcc iX10_readLocals_65 (zcc iX10_readLocals_66 (zcc iX10_readLocals_69 (zcc iX10_readLocals_71 (zcc iX10_readLocals_72 (zcc iX10_readLocals_75 (zcc iX10_readLocals_77 (zcc iX10_readLocals_78 (zcc iX10_readLocals_80 (zcc iX10_readLocals_82 (zcc iX10_readLocals_84 (zcc iX10_readLocals_88 (zcc iX10_readLocals_89 (zcc iX10_readLocals_92 (zcc iX10_readLocals_93 (zcc iX10_readLocals_96 (zcc iX10_readLocals_98 (zcc iX10_readLocals_99 (zcc iX10_readLocals_100 (zcc iX10_readLocals_101 (zcc iX10_readLocals_104 (zcc iX10_readLocals_105 (zcc iX10_readLocals_106 (zcc iX10_readLocals_109 (zcc iX10_readLocals_111 (zcc iX10_readLocals_112 (zcc iX10_readLocals_113 (zcc iX10_readLocals_115 (zcc iX10_readLocals_118 (zcc iX10_readLocals_120 (zcc iX10_readLocals_121 (zcc iX10_readLocals_122 (zcc iX10_readLocals_124 (zcc iX10_readLocals_127 zcn)))))))))))))))))))))))))))))))))))))))))))))))))))))))))))))))))))))
theorem iX10_s_0 : zSnd zZM zmX10_s 0 (o_aload 0 1) := s_aload_n (k := 0) (by decide +kernel) rfl
theorem iX10_s_1 : zSnd zZM zmX10_s 1 (o_ic 5 2) := s_iconst (i := 5) (by decide +kernel) (by decide +kernel)
theorem iX10_s_2 : zSnd zZM zmX10_s 2 (o_ic 7 4) := s_bipush (i := 7) (by decide +kernel) (by decide +kernel)
theorem iX10_s_4 : zSnd zZM zmX10_s 4 (o_ic 120 6) := s_bipush (i := 120) (by decide +kernel) (by decide +kernel)
set_option maxRecDepth 20000 in
theorem iX10_s_6 : zSnd zZM zmX10_s 6 (o_callV zZM 0 zmX10_signed 3 2 9) := s_callV (idx := 182) zcX10 calX10_signed virX10_signed dscX10_signed (by decide +kernel) (zWS6 159 rfl rfl) (by decide +kernel)
theorem iX10_s_9 : zSnd zZM zmX10_s 9 (o_l2i 10) := s_l2i (by decide +kernel)
theorem iX10_s_10 : zSnd zZM zmX10_s 10 (o_iret) := s_iret rfl (by decide +kernel)
def kX10_s : List (Nat × zOp) := [(0, o_aload 0 1),
  (1, o_ic 5 2),
  (2, o_ic 7 4),
  (4, o_ic 120 6),
  (6, o_callV zZM 0 zmX10_signed 3 2 9),
  (9, o_l2i 10),
  (10, o_iret)]
set_option maxRecDepth 100000 in
theorem ksX10_s : ∀ q ∈ kX10_s, zSnd zZM zmX10_s q.1 q.2 := zcc iX10_s_0 (zcc iX10_s_1 (zcc iX10_s_2 (zcc iX10_s_4 (zcc iX10_s_6 (zcc iX10_s_9 (zcc iX10_s_10 zcn))))))
theorem iX10_signature_0 : zSnd zZM zmX10_signature 0 (o_aload 1 1) := s_aload_n (k := 1) (by decide +kernel) rfl
theorem iX10_signature_1 : zSnd zZM zmX10_signature 1 (o_getf zYM 1 2 4) := s_getf zcX9 fX10_97 (by decide +kernel) (by decide +kernel)
theorem iX10_signature_4 : zSnd zZM zmX10_signature 4 (o_ic 64 6) := s_bipush (i := 64) (by decide +kernel) (by decide +kernel)
theorem iX10_signature_6 : zSnd zZM zmX10_signature 6 (o_icmp (fun x y => x = y) 9 19) := s_icmp_ne (off := 13) (by decide +kernel) (by decide +kernel)
theorem iX10_signature_9 : zSnd zZM zmX10_signature 9 (o_aload 0 10) := s_aload_n (k := 0) (by decide +kernel) rfl
theorem iX10_signature_10 : zSnd zZM zmX10_signature 10 (o_ic 4 11) := s_iconst (i := 4) (by decide +kernel) (by decide +kernel)
theorem iX10_signature_11 : zSnd zZM zmX10_signature 11 (o_aload 0 12) := s_aload_n (k := 0) (by decide +kernel) rfl
theorem iX10_signature_12 : zSnd zZM zmX10_signature 12 (o_getf zYM 0 12 15) := s_getf zcX10 fX10_127 (by decide +kernel) (by decide +kernel)
set_option maxRecDepth 20000 in
theorem iX10_signature_15 : zSnd zZM zmX10_signature 15 (o_callV zZM 0 zmX10_wrong 2 3 18) := s_callV (idx := 176) zcX10 calX10_wrong virX10_wrong dscX10_wrong (by decide +kernel) (zWS6 49 rfl rfl) (by decide +kernel)
theorem iX10_signature_18 : zSnd zZM zmX10_signature 18 (o_athrow zYM 2) := s_athrow (T := TIse) (N := 0) rfl (by decide +kernel)
theorem iX10_signature_19 : zSnd zZM zmX10_signature 19 (o_aload 0 20) := s_aload_n (k := 0) (by decide +kernel) rfl
theorem iX10_signature_20 : zSnd zZM zmX10_signature 20 (o_ic 96 22) := s_bipush (i := 96) (by decide +kernel) (by decide +kernel)
set_option maxRecDepth 20000 in
theorem iX10_signature_22 : zSnd zZM zmX10_signature 22 (o_callV zZM 0 zmX10_needOctet 1 0 25) := s_callV (idx := 209) zcX10 calX10_needOctet virX10_needOctet dscX10_needOctet (by decide +kernel) (zWS6 41 rfl rfl) (by decide +kernel)
theorem iX10_signature_25 : zSnd zZM zmX10_signature 25 (o_aload 0 26) := s_aload_n (k := 0) (by decide +kernel) rfl
set_option maxRecDepth 20000 in
theorem iX10_signature_26 : zSnd zZM zmX10_signature 26 (o_callV zZM 0 zmX10_u 0 2 29) := s_callV (idx := 144) zcX10 calX10_u virX10_u dscX10_u (by decide +kernel) (zWS6 105 rfl rfl) (by decide +kernel)
theorem iX10_signature_29 : zSnd zZM zmX10_signature 29 (o_lstore 2 30) := s_lstore_n (k := 2) (by decide +kernel) rfl (by decide +kernel)
theorem iX10_signature_30 : zSnd zZM zmX10_signature 30 (o_ic 0 31) := s_iconst (i := 0) (by decide +kernel) (by decide +kernel)
theorem iX10_signature_31 : zSnd zZM zmX10_signature 31 (o_istore 4 33) := s_istore (by decide +kernel) (by decide +kernel)
theorem iX10_signature_33 : zSnd zZM zmX10_signature 33 (o_lc 0 34) := s_lconst (i := 0) (by decide +kernel) (by decide +kernel)
theorem iX10_signature_34 : zSnd zZM zmX10_signature 34 (o_lstore 5 36) := s_lstore (by decide +kernel) (by decide +kernel)
theorem iX10_signature_36 : zSnd zZM zmX10_signature 36 (o_lload 5 38) := s_lload (by decide +kernel)
theorem iX10_signature_38 : zSnd zZM zmX10_signature 38 (o_lload 2 39) := s_lload_n (k := 2) (by decide +kernel) rfl
theorem iX10_signature_39 : zSnd zZM zmX10_signature 39 (o_lif (fun x y => y ≤ x) 86 43) := s_lge (off := 46) (by decide +kernel) (by decide +kernel) (by decide +kernel)
theorem iX10_signature_43 : zSnd zZM zmX10_signature 43 (o_lload 5 45) := s_lload (by decide +kernel)
set_option maxRecDepth 20000 in
theorem iX10_signature_45 : zSnd zZM zmX10_signature 45 (o_lc 16 48) := s_ldc2 (i := 288) (by decide +kernel) (zWS6 125 rfl rfl)
theorem iX10_signature_48 : zSnd zZM zmX10_signature 48 (o_lif (fun x y => x = y) 52 62) := s_lne (off := 13) (by decide +kernel) (by decide +kernel) (by decide +kernel)
theorem iX10_signature_52 : zSnd zZM zmX10_signature 52 (o_aload 0 53) := s_aload_n (k := 0) (by decide +kernel) rfl
theorem iX10_signature_53 : zSnd zZM zmX10_signature 53 (o_ic 4 54) := s_iconst (i := 4) (by decide +kernel) (by decide +kernel)
theorem iX10_signature_54 : zSnd zZM zmX10_signature 54 (o_aload 0 55) := s_aload_n (k := 0) (by decide +kernel) rfl
theorem iX10_signature_55 : zSnd zZM zmX10_signature 55 (o_getf zYM 0 12 58) := s_getf zcX10 fX10_127 (by decide +kernel) (by decide +kernel)
set_option maxRecDepth 20000 in
theorem iX10_signature_58 : zSnd zZM zmX10_signature 58 (o_callV zZM 0 zmX10_wrong 2 3 61) := s_callV (idx := 176) zcX10 calX10_wrong virX10_wrong dscX10_wrong (by decide +kernel) (zWS6 49 rfl rfl) (by decide +kernel)
theorem iX10_signature_61 : zSnd zZM zmX10_signature 61 (o_athrow zYM 2) := s_athrow (T := TIse) (N := 0) rfl (by decide +kernel)
theorem iX10_signature_62 : zSnd zZM zmX10_signature 62 (o_iload 4 64) := s_iload (by decide +kernel)
theorem iX10_signature_64 : zSnd zZM zmX10_signature 64 (o_aload 0 65) := s_aload_n (k := 0) (by decide +kernel) rfl
set_option maxRecDepth 20000 in
theorem iX10_signature_65 : zSnd zZM zmX10_signature 65 (o_callV zZM 0 zmX10_type 0 1 68) := s_callV (idx := 290) zcX10 calX10_type virX10_type dscX10_type (by decide +kernel) (zWS6 126 rfl rfl) (by decide +kernel)
theorem iX10_signature_68 : zSnd zZM zmX10_signature 68 (o_ic 5 69) := s_iconst (i := 5) (by decide +kernel) (by decide +kernel)
theorem iX10_signature_69 : zSnd zZM zmX10_signature 69 (o_lload 5 71) := s_lload (by decide +kernel)
theorem iX10_signature_71 : zSnd zZM zmX10_signature 71 (o_l2i 72) := s_l2i (by decide +kernel)
theorem iX10_signature_72 : zSnd zZM zmX10_signature 72 (o_ibin (fun x y => x + y) 73) := s_iadd (by decide +kernel)
theorem iX10_signature_73 : zSnd zZM zmX10_signature 73 (o_ibin (fun x y => x <<< (y &&& 31)) 74) := s_ishl (by decide +kernel)
theorem iX10_signature_74 : zSnd zZM zmX10_signature 74 (o_ibin (fun x y => x ||| y) 75) := s_ior (by decide +kernel)
theorem iX10_signature_75 : zSnd zZM zmX10_signature 75 (o_istore 4 77) := s_istore (by decide +kernel) (by decide +kernel)
theorem iX10_signature_77 : zSnd zZM zmX10_signature 77 (o_lload 5 79) := s_lload (by decide +kernel)
theorem iX10_signature_79 : zSnd zZM zmX10_signature 79 (o_lc 1 80) := s_lconst (i := 1) (by decide +kernel) (by decide +kernel)
theorem iX10_signature_80 : zSnd zZM zmX10_signature 80 (o_lbin (fun x y => x + y) 81) := s_ladd (by decide +kernel)
theorem iX10_signature_81 : zSnd zZM zmX10_signature 81 (o_lstore 5 83) := s_lstore (by decide +kernel) (by decide +kernel)
theorem iX10_signature_83 : zSnd zZM zmX10_signature 83 (o_goto 36) := s_goto (off := (-47)) (by decide +kernel) (by decide +kernel)
theorem iX10_signature_86 : zSnd zZM zmX10_signature 86 (o_iload 4 88) := s_iload (by decide +kernel)
theorem iX10_signature_88 : zSnd zZM zmX10_signature 88 (o_lload 2 89) := s_lload_n (k := 2) (by decide +kernel) rfl
theorem iX10_signature_89 : zSnd zZM zmX10_signature 89 (o_l2i 90) := s_l2i (by decide +kernel)
theorem iX10_signature_90 : zSnd zZM zmX10_signature 90 (o_ibin (fun x y => x ||| y) 91) := s_ior (by decide +kernel)
theorem iX10_signature_91 : zSnd zZM zmX10_signature 91 (o_istore 4 93) := s_istore (by decide +kernel) (by decide +kernel)
theorem iX10_signature_93 : zSnd zZM zmX10_signature 93 (o_aload 0 94) := s_aload_n (k := 0) (by decide +kernel) rfl
set_option maxRecDepth 20000 in
theorem iX10_signature_94 : zSnd zZM zmX10_signature 94 (o_callV zZM 0 zmX10_u 0 2 97) := s_callV (idx := 144) zcX10 calX10_u virX10_u dscX10_u (by decide +kernel) (zWS6 105 rfl rfl) (by decide +kernel)
theorem iX10_signature_97 : zSnd zZM zmX10_signature 97 (o_lstore 5 99) := s_lstore (by decide +kernel) (by decide +kernel)
theorem iX10_signature_99 : zSnd zZM zmX10_signature 99 (o_ic 2 100) := s_iconst (i := 2) (by decide +kernel) (by decide +kernel)
theorem iX10_signature_100 : zSnd zZM zmX10_signature 100 (o_istore 7 102) := s_istore (by decide +kernel) (by decide +kernel)
theorem iX10_signature_102 : zSnd zZM zmX10_signature 102 (o_lc 0 103) := s_lconst (i := 0) (by decide +kernel) (by decide +kernel)
theorem iX10_signature_103 : zSnd zZM zmX10_signature 103 (o_lstore 8 105) := s_lstore (by decide +kernel) (by decide +kernel)
theorem iX10_signature_105 : zSnd zZM zmX10_signature 105 (o_lload 8 107) := s_lload (by decide +kernel)
theorem iX10_signature_107 : zSnd zZM zmX10_signature 107 (o_lload 5 109) := s_lload (by decide +kernel)
theorem iX10_signature_109 : zSnd zZM zmX10_signature 109 (o_lif (fun x y => y ≤ x) 145 113) := s_lge (off := 35) (by decide +kernel) (by decide +kernel) (by decide +kernel)
theorem iX10_signature_113 : zSnd zZM zmX10_signature 113 (o_lload 8 115) := s_lload (by decide +kernel)
theorem iX10_signature_115 : zSnd zZM zmX10_signature 115 (o_lc 1 116) := s_lconst (i := 1) (by decide +kernel) (by decide +kernel)
theorem iX10_signature_116 : zSnd zZM zmX10_signature 116 (o_lif (fun x y => x = y) 120 130) := s_lne (off := 13) (by decide +kernel) (by decide +kernel) (by decide +kernel)
theorem iX10_signature_120 : zSnd zZM zmX10_signature 120 (o_aload 0 121) := s_aload_n (k := 0) (by decide +kernel) rfl
theorem iX10_signature_121 : zSnd zZM zmX10_signature 121 (o_ic 4 122) := s_iconst (i := 4) (by decide +kernel) (by decide +kernel)
theorem iX10_signature_122 : zSnd zZM zmX10_signature 122 (o_aload 0 123) := s_aload_n (k := 0) (by decide +kernel) rfl
theorem iX10_signature_123 : zSnd zZM zmX10_signature 123 (o_getf zYM 0 12 126) := s_getf zcX10 fX10_127 (by decide +kernel) (by decide +kernel)
set_option maxRecDepth 20000 in
theorem iX10_signature_126 : zSnd zZM zmX10_signature 126 (o_callV zZM 0 zmX10_wrong 2 3 129) := s_callV (idx := 176) zcX10 calX10_wrong virX10_wrong dscX10_wrong (by decide +kernel) (zWS6 49 rfl rfl) (by decide +kernel)
theorem iX10_signature_129 : zSnd zZM zmX10_signature 129 (o_athrow zYM 2) := s_athrow (T := TIse) (N := 0) rfl (by decide +kernel)
theorem iX10_signature_130 : zSnd zZM zmX10_signature 130 (o_aload 0 131) := s_aload_n (k := 0) (by decide +kernel) rfl
set_option maxRecDepth 20000 in
theorem iX10_signature_131 : zSnd zZM zmX10_signature 131 (o_callV zZM 0 zmX10_type 0 1 134) := s_callV (idx := 290) zcX10 calX10_type virX10_type dscX10_type (by decide +kernel) (zWS6 126 rfl rfl) (by decide +kernel)
theorem iX10_signature_134 : zSnd zZM zmX10_signature 134 (o_istore 7 136) := s_istore (by decide +kernel) (by decide +kernel)
theorem iX10_signature_136 : zSnd zZM zmX10_signature 136 (o_lload 8 138) := s_lload (by decide +kernel)
theorem iX10_signature_138 : zSnd zZM zmX10_signature 138 (o_lc 1 139) := s_lconst (i := 1) (by decide +kernel) (by decide +kernel)
theorem iX10_signature_139 : zSnd zZM zmX10_signature 139 (o_lbin (fun x y => x + y) 140) := s_ladd (by decide +kernel)
theorem iX10_signature_140 : zSnd zZM zmX10_signature 140 (o_lstore 8 142) := s_lstore (by decide +kernel) (by decide +kernel)
theorem iX10_signature_142 : zSnd zZM zmX10_signature 142 (o_goto 105) := s_goto (off := (-37)) (by decide +kernel) (by decide +kernel)
theorem iX10_signature_145 : zSnd zZM zmX10_signature 145 (o_aload 1 146) := s_aload_n (k := 1) (by decide +kernel) rfl
theorem iX10_signature_146 : zSnd zZM zmX10_signature 146 (o_getf zYM 1 19 149) := s_getf zcX9 fX10_160 (by decide +kernel) (by decide +kernel)
theorem iX10_signature_149 : zSnd zZM zmX10_signature 149 (o_aload 1 150) := s_aload_n (k := 1) (by decide +kernel) rfl
theorem iX10_signature_150 : zSnd zZM zmX10_signature 150 (o_getf zYM 1 2 153) := s_getf zcX9 fX10_97 (by decide +kernel) (by decide +kernel)
theorem iX10_signature_153 : zSnd zZM zmX10_signature 153 (o_iload 4 155) := s_iload (by decide +kernel)
theorem iX10_signature_155 : zSnd zZM zmX10_signature 155 (o_iload 7 157) := s_iload (by decide +kernel)
theorem iX10_signature_157 : zSnd zZM zmX10_signature 157 (o_ic 21 159) := s_bipush (i := 21) (by decide +kernel) (by decide +kernel)
theorem iX10_signature_159 : zSnd zZM zmX10_signature 159 (o_ibin (fun x y => x <<< (y &&& 31)) 160) := s_ishl (by decide +kernel)
theorem iX10_signature_160 : zSnd zZM zmX10_signature 160 (o_ibin (fun x y => x ||| y) 161) := s_ior (by decide +kernel)
theorem iX10_signature_161 : zSnd zZM zmX10_signature 161 (o_ast zYM .int (fun x => x) 162) := s_iast (by decide +kernel)
theorem iX10_signature_162 : zSnd zZM zmX10_signature 162 (o_aload 1 163) := s_aload_n (k := 1) (by decide +kernel) rfl
theorem iX10_signature_163 : zSnd zZM zmX10_signature 163 (o_dup 164) := s_dup (by decide +kernel)
theorem iX10_signature_164 : zSnd zZM zmX10_signature 164 (o_getf zYM 1 2 167) := s_getf zcX9 fX10_97 (by decide +kernel) (by decide +kernel)
theorem iX10_signature_167 : zSnd zZM zmX10_signature 167 (o_ic 1 168) := s_iconst (i := 1) (by decide +kernel) (by decide +kernel)
theorem iX10_signature_168 : zSnd zZM zmX10_signature 168 (o_ibin (fun x y => x + y) 169) := s_iadd (by decide +kernel)
theorem iX10_signature_169 : zSnd zZM zmX10_signature 169 (o_putI zYM 1 2 172) := s_putI zcX9 fX10_97 (by decide +kernel) rfl rfl (by decide +kernel)
theorem iX10_signature_172 : zSnd zZM zmX10_signature 172 (o_vret) := s_vret rfl (by decide +kernel)
def kX10_signature : List (Nat × zOp) := [(0, o_aload 1 1),
  (1, o_getf zYM 1 2 4),
  (4, o_ic 64 6),
  (6, o_icmp (fun x y => x = y) 9 19),
  (9, o_aload 0 10),
  (10, o_ic 4 11),
  (11, o_aload 0 12),
  (12, o_getf zYM 0 12 15),
  (15, o_callV zZM 0 zmX10_wrong 2 3 18),
  (18, o_athrow zYM 2),
  (19, o_aload 0 20),
  (20, o_ic 96 22),
  (22, o_callV zZM 0 zmX10_needOctet 1 0 25),
  (25, o_aload 0 26),
  (26, o_callV zZM 0 zmX10_u 0 2 29),
  (29, o_lstore 2 30),
  (30, o_ic 0 31),
  (31, o_istore 4 33),
  (33, o_lc 0 34),
  (34, o_lstore 5 36),
  (36, o_lload 5 38),
  (38, o_lload 2 39),
  (39, o_lif (fun x y => y ≤ x) 86 43),
  (43, o_lload 5 45),
  (45, o_lc 16 48),
  (48, o_lif (fun x y => x = y) 52 62),
  (52, o_aload 0 53),
  (53, o_ic 4 54),
  (54, o_aload 0 55),
  (55, o_getf zYM 0 12 58),
  (58, o_callV zZM 0 zmX10_wrong 2 3 61),
  (61, o_athrow zYM 2),
  (62, o_iload 4 64),
  (64, o_aload 0 65),
  (65, o_callV zZM 0 zmX10_type 0 1 68),
  (68, o_ic 5 69),
  (69, o_lload 5 71),
  (71, o_l2i 72),
  (72, o_ibin (fun x y => x + y) 73),
  (73, o_ibin (fun x y => x <<< (y &&& 31)) 74),
  (74, o_ibin (fun x y => x ||| y) 75),
  (75, o_istore 4 77),
  (77, o_lload 5 79),
  (79, o_lc 1 80),
  (80, o_lbin (fun x y => x + y) 81),
  (81, o_lstore 5 83),
  (83, o_goto 36),
  (86, o_iload 4 88),
  (88, o_lload 2 89),
  (89, o_l2i 90),
  (90, o_ibin (fun x y => x ||| y) 91),
  (91, o_istore 4 93),
  (93, o_aload 0 94),
  (94, o_callV zZM 0 zmX10_u 0 2 97),
  (97, o_lstore 5 99),
  (99, o_ic 2 100),
  (100, o_istore 7 102),
  (102, o_lc 0 103),
  (103, o_lstore 8 105),
  (105, o_lload 8 107),
  (107, o_lload 5 109),
  (109, o_lif (fun x y => y ≤ x) 145 113),
  (113, o_lload 8 115),
  (115, o_lc 1 116),
  (116, o_lif (fun x y => x = y) 120 130),
  (120, o_aload 0 121),
  (121, o_ic 4 122),
  (122, o_aload 0 123),
  (123, o_getf zYM 0 12 126),
  (126, o_callV zZM 0 zmX10_wrong 2 3 129),
  (129, o_athrow zYM 2),
  (130, o_aload 0 131),
  (131, o_callV zZM 0 zmX10_type 0 1 134),
  (134, o_istore 7 136),
  (136, o_lload 8 138),
  (138, o_lc 1 139),
  (139, o_lbin (fun x y => x + y) 140),
  (140, o_lstore 8 142),
  (142, o_goto 105),
  (145, o_aload 1 146),
  (146, o_getf zYM 1 19 149),
  (149, o_aload 1 150),
  (150, o_getf zYM 1 2 153),
  (153, o_iload 4 155),
  (155, o_iload 7 157),
  (157, o_ic 21 159),
  (159, o_ibin (fun x y => x <<< (y &&& 31)) 160),
  (160, o_ibin (fun x y => x ||| y) 161),
  (161, o_ast zYM .int (fun x => x) 162),
  (162, o_aload 1 163),
  (163, o_dup 164),
  (164, o_getf zYM 1 2 167),
  (167, o_ic 1 168),
  (168, o_ibin (fun x y => x + y) 169),
  (169, o_putI zYM 1 2 172),
  (172, o_vret)]
set_option maxRecDepth 100000 in
theorem ksX10_signature : ∀ q ∈ kX10_signature, zSnd zZM zmX10_signature q.1 q.2 := zcc iX10_signature_0 (zcc iX10_signature_1 (zcc iX10_signature_4 (zcc iX10_signature_6 (zcc iX10_signature_9 (zcc iX10_signature_10 (zcc iX10_signature_11 (zcc iX10_signature_12 (zcc iX10_signature_15 (zcc iX10_signature_18 (zcc iX10_signature_19 (zcc iX10_signature_20 (zcc iX10_signature_22 (zcc iX10_signature_25 (zcc iX10_signature_26 (zcc iX10_signature_29 (zcc iX10_signature_30 (zcc iX10_signature_31 (zcc iX10_signature_33 (zcc iX10_signature_34 (zcc iX10_signature_36 (zcc iX10_signature_38 (zcc iX10_signature_39 (zcc iX10_signature_43 (zcc iX10_signature_45 (zcc iX10_signature_48 (zcc iX10_signature_52 (zcc iX10_signature_53 (zcc iX10_signature_54 (zcc iX10_signature_55 (zcc iX10_signature_58 (zcc iX10_signature_61 (zcc iX10_signature_62 (zcc iX10_signature_64 (zcc iX10_signature_65 (zcc iX10_signature_68 (zcc iX10_signature_69 (zcc iX10_signature_71 (zcc iX10_signature_72 (zcc iX10_signature_73 (zcc iX10_signature_74 (zcc iX10_signature_75 (zcc iX10_signature_77 (zcc iX10_signature_79 (zcc iX10_signature_80 (zcc iX10_signature_81 (zcc iX10_signature_83 (zcc iX10_signature_86 (zcc iX10_signature_88 (zcc iX10_signature_89 (zcc iX10_signature_90 (zcc iX10_signature_91 (zcc iX10_signature_93 (zcc iX10_signature_94 (zcc iX10_signature_97 (zcc iX10_signature_99 (zcc iX10_signature_100 (zcc iX10_signature_102 (zcc iX10_signature_103 (zcc iX10_signature_105 (zcc iX10_signature_107 (zcc iX10_signature_109 (zcc iX10_signature_113 (zcc iX10_signature_115 (zcc iX10_signature_116 (zcc iX10_signature_120 (zcc iX10_signature_121 (zcc iX10_signature_122 (zcc iX10_signature_123 (zcc iX10_signature_126 (zcc iX10_signature_129 (zcc iX10_signature_130 (zcc iX10_signature_131 (zcc iX10_signature_134 (zcc iX10_signature_136 (zcc iX10_signature_138 (zcc iX10_signature_139 (zcc iX10_signature_140 (zcc iX10_signature_142 (zcc iX10_signature_145 (zcc iX10_signature_146 (zcc iX10_signature_149 (zcc iX10_signature_150 (zcc iX10_signature_153 (zcc iX10_signature_155 (zcc iX10_signature_157 (zcc iX10_signature_159 (zcc iX10_signature_160 (zcc iX10_signature_161 (zcc iX10_signature_162 (zcc iX10_signature_163 (zcc iX10_signature_164 (zcc iX10_signature_167 (zcc iX10_signature_168 (zcc iX10_signature_169 (zcc iX10_signature_172 zcn)))))))))))))))))))))))))))))))))))))))))))))))))))))))))))))))))))))))))))))))))))))))))))))))
theorem iX10_checkOne_0 : zSnd zZM zmX10_checkOne 0 (o_iload 2 1) := s_iload_n (k := 2) (by decide +kernel) rfl
theorem iX10_checkOne_1 : zSnd zZM zmX10_checkOne 1 (o_sw [([0], 284), ([1], 289), ([2, 3, 4], 290), ([5], 327), ([11], 371), ([12], 450), ([13], 469), ([14], 501), ([15], 506), ([16], 521), ([17], 566), ([26], 632), ([27], 640), ([32, 33, 34], 707), ([35, 36], 780), ([63, 64], 864), ([65], 889), ([66], 901)] 913) := s_tsw (dflt := 912) (lo := 0) (hi := 66) (offs := #[283, 288, 289, 289, 289, 326, 912, 912, 912, 912, 912, 370, 449, 468, 500, 505, 520, 565, 912, 912, 912, 912, 912, 912, 912, 912, 631, 639, 912, 912, 912, 912, 706, 706, 706, 779, 779, 912, 912, 912, 912, 912, 912, 912, 912, 912, 912, 912, 912, 912, 912, 912, 912, 912, 912, 912, 912, 912, 912, 912, 912, 912, 912, 863, 863, 888, 900]) (len := 283) (by decide +kernel) (by decide +kernel) (by decide +kernel) (by decide +kernel)
theorem iX10_checkOne_284 : zSnd zZM zmX10_checkOne 284 (o_aload 0 285) := s_aload_n (k := 0) (by decide +kernel) rfl
set_option maxRecDepth 20000 in
theorem iX10_checkOne_285 : zSnd zZM zmX10_checkOne 285 (o_callV zZM 0 zmX10_rest 0 0 288) := s_callV (idx := 535) zcX10 calX10_rest virX10_rest dscX10_rest (by decide +kernel) (zWS7 72 rfl rfl) (by decide +kernel)
theorem iX10_checkOne_288 : zSnd zZM zmX10_checkOne 288 (o_vret) := s_vret rfl (by decide +kernel)
theorem iX10_checkOne_289 : zSnd zZM zmX10_checkOne 289 (o_vret) := s_vret rfl (by decide +kernel)
theorem iX10_checkOne_290 : zSnd zZM zmX10_checkOne 290 (o_aload 0 291) := s_aload_n (k := 0) (by decide +kernel) rfl
set_option maxRecDepth 20000 in
theorem iX10_checkOne_291 : zSnd zZM zmX10_checkOne 291 (o_callV zZM 0 zmX10_blockType 0 1 294) := s_callV (idx := 425) zcX10 calX10_blockType virX10_blockType dscX10_blockType (by decide +kernel) (zWS6 198 rfl rfl) (by decide +kernel)
theorem iX10_checkOne_294 : zSnd zZM zmX10_checkOne 294 (o_istore 7 296) := s_istore (by decide +kernel) (by decide +kernel)
theorem iX10_checkOne_296 : zSnd zZM zmX10_checkOne 296 (o_iload 2 297) := s_iload_n (k := 2) (by decide +kernel) rfl
theorem iX10_checkOne_297 : zSnd zZM zmX10_checkOne 297 (o_ic 4 298) := s_iconst (i := 4) (by decide +kernel) (by decide +kernel)
theorem iX10_checkOne_298 : zSnd zZM zmX10_checkOne 298 (o_icmp (fun x y => x = y) 301 308) := s_icmp_ne (off := 10) (by decide +kernel) (by decide +kernel)
theorem iX10_checkOne_301 : zSnd zZM zmX10_checkOne 301 (o_aload 0 302) := s_aload_n (k := 0) (by decide +kernel) rfl
theorem iX10_checkOne_302 : zSnd zZM zmX10_checkOne 302 (o_ic 0 303) := s_iconst (i := 0) (by decide +kernel) (by decide +kernel)
set_option maxRecDepth 20000 in
theorem iX10_checkOne_303 : zSnd zZM zmX10_checkOne 303 (o_callV zZM 0 zmX10_takes 1 1 306) := s_callV (idx := 529) zcX10 calX10_takes virX10_takes dscX10_takes (by decide +kernel) (zWS7 60 rfl rfl) (by decide +kernel)
theorem iX10_checkOne_306 : zSnd zZM zmX10_checkOne 306 (o_istore 4 308) := s_istore (by decide +kernel) (by decide +kernel)
theorem iX10_checkOne_308 : zSnd zZM zmX10_checkOne 308 (o_aload 0 309) := s_aload_n (k := 0) (by decide +kernel) rfl
theorem iX10_checkOne_309 : zSnd zZM zmX10_checkOne 309 (o_iload 2 310) := s_iload_n (k := 2) (by decide +kernel) rfl
theorem iX10_checkOne_310 : zSnd zZM zmX10_checkOne 310 (o_iload 2 311) := s_iload_n (k := 2) (by decide +kernel) rfl
theorem iX10_checkOne_311 : zSnd zZM zmX10_checkOne 311 (o_ic 3 312) := s_iconst (i := 3) (by decide +kernel) (by decide +kernel)
theorem iX10_checkOne_312 : zSnd zZM zmX10_checkOne 312 (o_icmp (fun x y => x = y) 315 319) := s_icmp_ne (off := 7) (by decide +kernel) (by decide +kernel)
theorem iX10_checkOne_315 : zSnd zZM zmX10_checkOne 315 (o_ic 2 316) := s_iconst (i := 2) (by decide +kernel) (by decide +kernel)
theorem iX10_checkOne_316 : zSnd zZM zmX10_checkOne 316 (o_goto 321) := s_goto (off := 5) (by decide +kernel) (by decide +kernel)
theorem iX10_checkOne_319 : zSnd zZM zmX10_checkOne 319 (o_iload 7 321) := s_iload (by decide +kernel)
theorem iX10_checkOne_321 : zSnd zZM zmX10_checkOne 321 (o_iload 7 323) := s_iload (by decide +kernel)
set_option maxRecDepth 20000 in
theorem iX10_checkOne_323 : zSnd zZM zmX10_checkOne 323 (o_callV zZM 0 zmX10_openFrame 3 0 326) := s_callV (idx := 516) zcX10 calX10_openFrame virX10_openFrame dscX10_openFrame (by decide +kernel) (zWS7 44 rfl rfl) (by decide +kernel)
theorem iX10_checkOne_326 : zSnd zZM zmX10_checkOne 326 (o_vret) := s_vret rfl (by decide +kernel)
theorem iX10_checkOne_327 : zSnd zZM zmX10_checkOne 327 (o_aload 0 328) := s_aload_n (k := 0) (by decide +kernel) rfl
set_option maxRecDepth 20000 in
theorem iX10_checkOne_328 : zSnd zZM zmX10_checkOne 328 (o_callV zZM 0 zmX10_closes 0 0 331) := s_callV (idx := 538) zcX10 calX10_closes virX10_closes dscX10_closes (by decide +kernel) (zWS7 76 rfl rfl) (by decide +kernel)
theorem iX10_checkOne_331 : zSnd zZM zmX10_checkOne 331 (o_aload 0 332) := s_aload_n (k := 0) (by decide +kernel) rfl
theorem iX10_checkOne_332 : zSnd zZM zmX10_checkOne 332 (o_getf zYM 0 26 335) := s_getf zcX10 fX10_53 (by decide +kernel) (by decide +kernel)
theorem iX10_checkOne_335 : zSnd zZM zmX10_checkOne 335 (o_aload 0 336) := s_aload_n (k := 0) (by decide +kernel) rfl
theorem iX10_checkOne_336 : zSnd zZM zmX10_checkOne 336 (o_getf zYM 0 28 339) := s_getf zcX10 fX10_504 (by decide +kernel) (by decide +kernel)
theorem iX10_checkOne_339 : zSnd zZM zmX10_checkOne 339 (o_ic 1 340) := s_iconst (i := 1) (by decide +kernel) (by decide +kernel)
theorem iX10_checkOne_340 : zSnd zZM zmX10_checkOne 340 (o_ibin (fun x y => x - y) 341) := s_isub (by decide +kernel)
theorem iX10_checkOne_341 : zSnd zZM zmX10_checkOne 341 (o_ic 5 342) := s_iconst (i := 5) (by decide +kernel) (by decide +kernel)
theorem iX10_checkOne_342 : zSnd zZM zmX10_checkOne 342 (o_ast zYM .int (fun x => x) 343) := s_iast (by decide +kernel)
theorem iX10_checkOne_343 : zSnd zZM zmX10_checkOne 343 (o_aload 0 344) := s_aload_n (k := 0) (by decide +kernel) rfl
theorem iX10_checkOne_344 : zSnd zZM zmX10_checkOne 344 (o_getf zYM 0 27 347) := s_getf zcX10 fX10_56 (by decide +kernel) (by decide +kernel)
theorem iX10_checkOne_347 : zSnd zZM zmX10_checkOne 347 (o_aload 0 348) := s_aload_n (k := 0) (by decide +kernel) rfl
theorem iX10_checkOne_348 : zSnd zZM zmX10_checkOne 348 (o_getf zYM 0 28 351) := s_getf zcX10 fX10_504 (by decide +kernel) (by decide +kernel)
theorem iX10_checkOne_351 : zSnd zZM zmX10_checkOne 351 (o_ic 1 352) := s_iconst (i := 1) (by decide +kernel) (by decide +kernel)
theorem iX10_checkOne_352 : zSnd zZM zmX10_checkOne 352 (o_ibin (fun x y => x - y) 353) := s_isub (by decide +kernel)
theorem iX10_checkOne_353 : zSnd zZM zmX10_checkOne 353 (o_ic 0 354) := s_iconst (i := 0) (by decide +kernel) (by decide +kernel)
theorem iX10_checkOne_354 : zSnd zZM zmX10_checkOne 354 (o_ast zYM .boolean (fun x => vp_nar .boolean x) 355) := s_zast (by decide +kernel)
theorem iX10_checkOne_355 : zSnd zZM zmX10_checkOne 355 (o_aload 0 356) := s_aload_n (k := 0) (by decide +kernel) rfl
theorem iX10_checkOne_356 : zSnd zZM zmX10_checkOne 356 (o_aload 0 357) := s_aload_n (k := 0) (by decide +kernel) rfl
theorem iX10_checkOne_357 : zSnd zZM zmX10_checkOne 357 (o_getf zYM 0 25 360) := s_getf zcX10 fX10_50 (by decide +kernel) (by decide +kernel)
theorem iX10_checkOne_360 : zSnd zZM zmX10_checkOne 360 (o_aload 0 361) := s_aload_n (k := 0) (by decide +kernel) rfl
theorem iX10_checkOne_361 : zSnd zZM zmX10_checkOne 361 (o_getf zYM 0 28 364) := s_getf zcX10 fX10_504 (by decide +kernel) (by decide +kernel)
theorem iX10_checkOne_364 : zSnd zZM zmX10_checkOne 364 (o_ic 1 365) := s_iconst (i := 1) (by decide +kernel) (by decide +kernel)
theorem iX10_checkOne_365 : zSnd zZM zmX10_checkOne 365 (o_ibin (fun x y => x - y) 366) := s_isub (by decide +kernel)
theorem iX10_checkOne_366 : zSnd zZM zmX10_checkOne 366 (o_ald zYM .int 367) := s_iald (by decide +kernel)
theorem iX10_checkOne_367 : zSnd zZM zmX10_checkOne 367 (o_putI zYM 0 22 370) := s_putI zcX10 fX10_507 (by decide +kernel) rfl rfl (by decide +kernel)
theorem iX10_checkOne_370 : zSnd zZM zmX10_checkOne 370 (o_vret) := s_vret rfl (by decide +kernel)
theorem iX10_checkOne_371 : zSnd zZM zmX10_checkOne 371 (o_aload 0 372) := s_aload_n (k := 0) (by decide +kernel) rfl
set_option maxRecDepth 20000 in
theorem iX10_checkOne_372 : zSnd zZM zmX10_checkOne 372 (o_callV zZM 0 zmX10_closes 0 0 375) := s_callV (idx := 538) zcX10 calX10_closes virX10_closes dscX10_closes (by decide +kernel) (zWS7 76 rfl rfl) (by decide +kernel)
theorem iX10_checkOne_375 : zSnd zZM zmX10_checkOne 375 (o_aload 0 376) := s_aload_n (k := 0) (by decide +kernel) rfl
theorem iX10_checkOne_376 : zSnd zZM zmX10_checkOne 376 (o_getf zYM 0 24 379) := s_getf zcX10 fX10_47 (by decide +kernel) (by decide +kernel)
theorem iX10_checkOne_379 : zSnd zZM zmX10_checkOne 379 (o_aload 0 380) := s_aload_n (k := 0) (by decide +kernel) rfl
theorem iX10_checkOne_380 : zSnd zZM zmX10_checkOne 380 (o_getf zYM 0 28 383) := s_getf zcX10 fX10_504 (by decide +kernel) (by decide +kernel)
theorem iX10_checkOne_383 : zSnd zZM zmX10_checkOne 383 (o_ic 1 384) := s_iconst (i := 1) (by decide +kernel) (by decide +kernel)
theorem iX10_checkOne_384 : zSnd zZM zmX10_checkOne 384 (o_ibin (fun x y => x - y) 385) := s_isub (by decide +kernel)
theorem iX10_checkOne_385 : zSnd zZM zmX10_checkOne 385 (o_ald zYM .int 386) := s_iald (by decide +kernel)
theorem iX10_checkOne_386 : zSnd zZM zmX10_checkOne 386 (o_istore 8 388) := s_istore (by decide +kernel) (by decide +kernel)
theorem iX10_checkOne_388 : zSnd zZM zmX10_checkOne 388 (o_aload 0 389) := s_aload_n (k := 0) (by decide +kernel) rfl
theorem iX10_checkOne_389 : zSnd zZM zmX10_checkOne 389 (o_aload 0 390) := s_aload_n (k := 0) (by decide +kernel) rfl
theorem iX10_checkOne_390 : zSnd zZM zmX10_checkOne 390 (o_getf zYM 0 26 393) := s_getf zcX10 fX10_53 (by decide +kernel) (by decide +kernel)
theorem iX10_checkOne_393 : zSnd zZM zmX10_checkOne 393 (o_aload 0 394) := s_aload_n (k := 0) (by decide +kernel) rfl
theorem iX10_checkOne_394 : zSnd zZM zmX10_checkOne 394 (o_getf zYM 0 28 397) := s_getf zcX10 fX10_504 (by decide +kernel) (by decide +kernel)
theorem iX10_checkOne_397 : zSnd zZM zmX10_checkOne 397 (o_ic 1 398) := s_iconst (i := 1) (by decide +kernel) (by decide +kernel)
theorem iX10_checkOne_398 : zSnd zZM zmX10_checkOne 398 (o_ibin (fun x y => x - y) 399) := s_isub (by decide +kernel)
theorem iX10_checkOne_399 : zSnd zZM zmX10_checkOne 399 (o_ald zYM .int 400) := s_iald (by decide +kernel)
theorem iX10_checkOne_400 : zSnd zZM zmX10_checkOne 400 (o_ic 4 401) := s_iconst (i := 4) (by decide +kernel) (by decide +kernel)
theorem iX10_checkOne_401 : zSnd zZM zmX10_checkOne 401 (o_icmp (fun x y => x = y) 404 410) := s_icmp_ne (off := 9) (by decide +kernel) (by decide +kernel)
theorem iX10_checkOne_404 : zSnd zZM zmX10_checkOne 404 (o_iload 8 406) := s_iload (by decide +kernel)
theorem iX10_checkOne_406 : zSnd zZM zmX10_checkOne 406 (o_ic 2 407) := s_iconst (i := 2) (by decide +kernel) (by decide +kernel)
theorem iX10_checkOne_407 : zSnd zZM zmX10_checkOne 407 (o_icmp (fun x y => x = y) 410 414) := s_icmp_ne (off := 7) (by decide +kernel) (by decide +kernel)
theorem iX10_checkOne_410 : zSnd zZM zmX10_checkOne 410 (o_ic 1 411) := s_iconst (i := 1) (by decide +kernel) (by decide +kernel)
theorem iX10_checkOne_411 : zSnd zZM zmX10_checkOne 411 (o_goto 415) := s_goto (off := 4) (by decide +kernel) (by decide +kernel)
theorem iX10_checkOne_414 : zSnd zZM zmX10_checkOne 414 (o_ic 0 415) := s_iconst (i := 0) (by decide +kernel) (by decide +kernel)
set_option maxRecDepth 20000 in
theorem iX10_checkOne_415 : zSnd zZM zmX10_checkOne 415 (o_callV zZM 0 zmX10_need 1 0 418) := s_callV (idx := 526) zcX10 calX10_need virX10_need dscX10_need (by decide +kernel) (zWS7 52 rfl rfl) (by decide +kernel)
theorem iX10_checkOne_418 : zSnd zZM zmX10_checkOne 418 (o_aload 0 419) := s_aload_n (k := 0) (by decide +kernel) rfl
theorem iX10_checkOne_419 : zSnd zZM zmX10_checkOne 419 (o_aload 0 420) := s_aload_n (k := 0) (by decide +kernel) rfl
theorem iX10_checkOne_420 : zSnd zZM zmX10_checkOne 420 (o_getf zYM 0 25 423) := s_getf zcX10 fX10_50 (by decide +kernel) (by decide +kernel)
theorem iX10_checkOne_423 : zSnd zZM zmX10_checkOne 423 (o_aload 0 424) := s_aload_n (k := 0) (by decide +kernel) rfl
theorem iX10_checkOne_424 : zSnd zZM zmX10_checkOne 424 (o_getf zYM 0 28 427) := s_getf zcX10 fX10_504 (by decide +kernel) (by decide +kernel)
theorem iX10_checkOne_427 : zSnd zZM zmX10_checkOne 427 (o_ic 1 428) := s_iconst (i := 1) (by decide +kernel) (by decide +kernel)
theorem iX10_checkOne_428 : zSnd zZM zmX10_checkOne 428 (o_ibin (fun x y => x - y) 429) := s_isub (by decide +kernel)
theorem iX10_checkOne_429 : zSnd zZM zmX10_checkOne 429 (o_ald zYM .int 430) := s_iald (by decide +kernel)
theorem iX10_checkOne_430 : zSnd zZM zmX10_checkOne 430 (o_putI zYM 0 22 433) := s_putI zcX10 fX10_507 (by decide +kernel) rfl rfl (by decide +kernel)
theorem iX10_checkOne_433 : zSnd zZM zmX10_checkOne 433 (o_aload 0 434) := s_aload_n (k := 0) (by decide +kernel) rfl
theorem iX10_checkOne_434 : zSnd zZM zmX10_checkOne 434 (o_dup 435) := s_dup (by decide +kernel)
theorem iX10_checkOne_435 : zSnd zZM zmX10_checkOne 435 (o_getf zYM 0 28 438) := s_getf zcX10 fX10_504 (by decide +kernel) (by decide +kernel)
theorem iX10_checkOne_438 : zSnd zZM zmX10_checkOne 438 (o_ic 1 439) := s_iconst (i := 1) (by decide +kernel) (by decide +kernel)
theorem iX10_checkOne_439 : zSnd zZM zmX10_checkOne 439 (o_ibin (fun x y => x - y) 440) := s_isub (by decide +kernel)
theorem iX10_checkOne_440 : zSnd zZM zmX10_checkOne 440 (o_putI zYM 0 28 443) := s_putI zcX10 fX10_504 (by decide +kernel) rfl rfl (by decide +kernel)
theorem iX10_checkOne_443 : zSnd zZM zmX10_checkOne 443 (o_aload 0 444) := s_aload_n (k := 0) (by decide +kernel) rfl
theorem iX10_checkOne_444 : zSnd zZM zmX10_checkOne 444 (o_iload 8 446) := s_iload (by decide +kernel)
set_option maxRecDepth 20000 in
theorem iX10_checkOne_446 : zSnd zZM zmX10_checkOne 446 (o_callV zZM 0 zmX10_gives 1 0 449) := s_callV (idx := 532) zcX10 calX10_gives virX10_gives dscX10_gives (by decide +kernel) (zWS7 64 rfl rfl) (by decide +kernel)
theorem iX10_checkOne_449 : zSnd zZM zmX10_checkOne 449 (o_vret) := s_vret rfl (by decide +kernel)
theorem iX10_checkOne_450 : zSnd zZM zmX10_checkOne 450 (o_aload 0 451) := s_aload_n (k := 0) (by decide +kernel) rfl
theorem iX10_checkOne_451 : zSnd zZM zmX10_checkOne 451 (o_aload 0 452) := s_aload_n (k := 0) (by decide +kernel) rfl
theorem iX10_checkOne_452 : zSnd zZM zmX10_checkOne 452 (o_aload 0 453) := s_aload_n (k := 0) (by decide +kernel) rfl
set_option maxRecDepth 20000 in
theorem iX10_checkOne_453 : zSnd zZM zmX10_checkOne 453 (o_callV zZM 0 zmX10_u 0 2 456) := s_callV (idx := 144) zcX10 calX10_u virX10_u dscX10_u (by decide +kernel) (zWS6 105 rfl rfl) (by decide +kernel)
set_option maxRecDepth 20000 in
theorem iX10_checkOne_456 : zSnd zZM zmX10_checkOne 456 (o_callV zZM 0 zmX10_label 1 1 459) := s_callV (idx := 541) zcX10 calX10_label virX10_label dscX10_label (by decide +kernel) (zWS7 80 rfl rfl) (by decide +kernel)
set_option maxRecDepth 20000 in
theorem iX10_checkOne_459 : zSnd zZM zmX10_checkOne 459 (o_callV zZM 0 zmX10_takes 1 1 462) := s_callV (idx := 529) zcX10 calX10_takes virX10_takes dscX10_takes (by decide +kernel) (zWS7 60 rfl rfl) (by decide +kernel)
theorem iX10_checkOne_462 : zSnd zZM zmX10_checkOne 462 (o_istore 4 464) := s_istore (by decide +kernel) (by decide +kernel)
theorem iX10_checkOne_464 : zSnd zZM zmX10_checkOne 464 (o_aload 0 465) := s_aload_n (k := 0) (by decide +kernel) rfl
set_option maxRecDepth 20000 in
theorem iX10_checkOne_465 : zSnd zZM zmX10_checkOne 465 (o_callV zZM 0 zmX10_rest 0 0 468) := s_callV (idx := 535) zcX10 calX10_rest virX10_rest dscX10_rest (by decide +kernel) (zWS7 72 rfl rfl) (by decide +kernel)
theorem iX10_checkOne_468 : zSnd zZM zmX10_checkOne 468 (o_vret) := s_vret rfl (by decide +kernel)
theorem iX10_checkOne_469 : zSnd zZM zmX10_checkOne 469 (o_aload 0 470) := s_aload_n (k := 0) (by decide +kernel) rfl
theorem iX10_checkOne_470 : zSnd zZM zmX10_checkOne 470 (o_aload 0 471) := s_aload_n (k := 0) (by decide +kernel) rfl
set_option maxRecDepth 20000 in
theorem iX10_checkOne_471 : zSnd zZM zmX10_checkOne 471 (o_callV zZM 0 zmX10_u 0 2 474) := s_callV (idx := 144) zcX10 calX10_u virX10_u dscX10_u (by decide +kernel) (zWS6 105 rfl rfl) (by decide +kernel)
set_option maxRecDepth 20000 in
theorem iX10_checkOne_474 : zSnd zZM zmX10_checkOne 474 (o_callV zZM 0 zmX10_label 1 1 477) := s_callV (idx := 541) zcX10 calX10_label virX10_label dscX10_label (by decide +kernel) (zWS7 80 rfl rfl) (by decide +kernel)
theorem iX10_checkOne_477 : zSnd zZM zmX10_checkOne 477 (o_istore 9 479) := s_istore (by decide +kernel) (by decide +kernel)
theorem iX10_checkOne_479 : zSnd zZM zmX10_checkOne 479 (o_aload 0 480) := s_aload_n (k := 0) (by decide +kernel) rfl
theorem iX10_checkOne_480 : zSnd zZM zmX10_checkOne 480 (o_ic 0 481) := s_iconst (i := 0) (by decide +kernel) (by decide +kernel)
set_option maxRecDepth 20000 in
theorem iX10_checkOne_481 : zSnd zZM zmX10_checkOne 481 (o_callV zZM 0 zmX10_takes 1 1 484) := s_callV (idx := 529) zcX10 calX10_takes virX10_takes dscX10_takes (by decide +kernel) (zWS7 60 rfl rfl) (by decide +kernel)
theorem iX10_checkOne_484 : zSnd zZM zmX10_checkOne 484 (o_istore 4 486) := s_istore (by decide +kernel) (by decide +kernel)
theorem iX10_checkOne_486 : zSnd zZM zmX10_checkOne 486 (o_aload 0 487) := s_aload_n (k := 0) (by decide +kernel) rfl
theorem iX10_checkOne_487 : zSnd zZM zmX10_checkOne 487 (o_iload 9 489) := s_iload (by decide +kernel)
set_option maxRecDepth 20000 in
theorem iX10_checkOne_489 : zSnd zZM zmX10_checkOne 489 (o_callV zZM 0 zmX10_takes 1 1 492) := s_callV (idx := 529) zcX10 calX10_takes virX10_takes dscX10_takes (by decide +kernel) (zWS7 60 rfl rfl) (by decide +kernel)
theorem iX10_checkOne_492 : zSnd zZM zmX10_checkOne 492 (o_istore 4 494) := s_istore (by decide +kernel) (by decide +kernel)
theorem iX10_checkOne_494 : zSnd zZM zmX10_checkOne 494 (o_aload 0 495) := s_aload_n (k := 0) (by decide +kernel) rfl
theorem iX10_checkOne_495 : zSnd zZM zmX10_checkOne 495 (o_iload 9 497) := s_iload (by decide +kernel)
set_option maxRecDepth 20000 in
theorem iX10_checkOne_497 : zSnd zZM zmX10_checkOne 497 (o_callV zZM 0 zmX10_gives 1 0 500) := s_callV (idx := 532) zcX10 calX10_gives virX10_gives dscX10_gives (by decide +kernel) (zWS7 64 rfl rfl) (by decide +kernel)
theorem iX10_checkOne_500 : zSnd zZM zmX10_checkOne 500 (o_vret) := s_vret rfl (by decide +kernel)
theorem iX10_checkOne_501 : zSnd zZM zmX10_checkOne 501 (o_aload 0 502) := s_aload_n (k := 0) (by decide +kernel) rfl
set_option maxRecDepth 20000 in
theorem iX10_checkOne_502 : zSnd zZM zmX10_checkOne 502 (o_callV zZM 0 zmX10_labelRow 0 0 505) := s_callV (idx := 545) zcX10 calX10_labelRow virX10_labelRow dscX10_labelRow (by decide +kernel) (zWS7 84 rfl rfl) (by decide +kernel)
theorem iX10_checkOne_505 : zSnd zZM zmX10_checkOne 505 (o_vret) := s_vret rfl (by decide +kernel)
theorem iX10_checkOne_506 : zSnd zZM zmX10_checkOne 506 (o_aload 0 507) := s_aload_n (k := 0) (by decide +kernel) rfl
theorem iX10_checkOne_507 : zSnd zZM zmX10_checkOne 507 (o_iload 3 508) := s_iload_n (k := 3) (by decide +kernel) rfl
set_option maxRecDepth 20000 in
theorem iX10_checkOne_508 : zSnd zZM zmX10_checkOne 508 (o_callS zZM zmX10_resultOf 1 1 511) := s_callS (idx := 481) calX10_resultOf virX10_resultOf dscX10_resultOf (by decide +kernel) (zWS7 30 rfl rfl) (by decide +kernel)
set_option maxRecDepth 20000 in
theorem iX10_checkOne_511 : zSnd zZM zmX10_checkOne 511 (o_callV zZM 0 zmX10_takes 1 1 514) := s_callV (idx := 529) zcX10 calX10_takes virX10_takes dscX10_takes (by decide +kernel) (zWS7 60 rfl rfl) (by decide +kernel)
theorem iX10_checkOne_514 : zSnd zZM zmX10_checkOne 514 (o_istore 4 516) := s_istore (by decide +kernel) (by decide +kernel)
theorem iX10_checkOne_516 : zSnd zZM zmX10_checkOne 516 (o_aload 0 517) := s_aload_n (k := 0) (by decide +kernel) rfl
set_option maxRecDepth 20000 in
theorem iX10_checkOne_517 : zSnd zZM zmX10_checkOne 517 (o_callV zZM 0 zmX10_rest 0 0 520) := s_callV (idx := 535) zcX10 calX10_rest virX10_rest dscX10_rest (by decide +kernel) (zWS7 72 rfl rfl) (by decide +kernel)
theorem iX10_checkOne_520 : zSnd zZM zmX10_checkOne 520 (o_vret) := s_vret rfl (by decide +kernel)
theorem iX10_checkOne_521 : zSnd zZM zmX10_checkOne 521 (o_aload 0 522) := s_aload_n (k := 0) (by decide +kernel) rfl
set_option maxRecDepth 20000 in
theorem iX10_checkOne_522 : zSnd zZM zmX10_checkOne 522 (o_callV zZM 0 zmX10_u 0 2 525) := s_callV (idx := 144) zcX10 calX10_u virX10_u dscX10_u (by decide +kernel) (zWS6 105 rfl rfl) (by decide +kernel)
theorem iX10_checkOne_525 : zSnd zZM zmX10_checkOne 525 (o_lstore 5 527) := s_lstore (by decide +kernel) (by decide +kernel)
theorem iX10_checkOne_527 : zSnd zZM zmX10_checkOne 527 (o_aload 0 528) := s_aload_n (k := 0) (by decide +kernel) rfl
theorem iX10_checkOne_528 : zSnd zZM zmX10_checkOne 528 (o_lload 5 530) := s_lload (by decide +kernel)
theorem iX10_checkOne_530 : zSnd zZM zmX10_checkOne 530 (o_aload 1 531) := s_aload_n (k := 1) (by decide +kernel) rfl
set_option maxRecDepth 20000 in
theorem iX10_checkOne_531 : zSnd zZM zmX10_checkOne 531 (o_callS zZM zmX10_functionsOf 1 1 534) := s_callS (idx := 470) calX10_functionsOf virX10_functionsOf dscX10_functionsOf (by decide +kernel) (zWS7 10 rfl rfl) (by decide +kernel)
theorem iX10_checkOne_534 : zSnd zZM zmX10_checkOne 534 (o_i2l 535) := s_i2l (by decide +kernel)
theorem iX10_checkOne_535 : zSnd zZM zmX10_checkOne 535 (o_lif (fun x y => y ≤ x) 543 539) := s_lge (off := 7) (by decide +kernel) (by decide +kernel) (by decide +kernel)
theorem iX10_checkOne_539 : zSnd zZM zmX10_checkOne 539 (o_ic 1 540) := s_iconst (i := 1) (by decide +kernel) (by decide +kernel)
theorem iX10_checkOne_540 : zSnd zZM zmX10_checkOne 540 (o_goto 544) := s_goto (off := 4) (by decide +kernel) (by decide +kernel)
theorem iX10_checkOne_543 : zSnd zZM zmX10_checkOne 543 (o_ic 0 544) := s_iconst (i := 0) (by decide +kernel) (by decide +kernel)
set_option maxRecDepth 20000 in
theorem iX10_checkOne_544 : zSnd zZM zmX10_checkOne 544 (o_callV zZM 0 zmX10_need 1 0 547) := s_callV (idx := 526) zcX10 calX10_need virX10_need dscX10_need (by decide +kernel) (zWS7 52 rfl rfl) (by decide +kernel)
theorem iX10_checkOne_547 : zSnd zZM zmX10_checkOne 547 (o_aload 0 548) := s_aload_n (k := 0) (by decide +kernel) rfl
theorem iX10_checkOne_548 : zSnd zZM zmX10_checkOne 548 (o_getf zYM 0 31 551) := s_getf zcX10 fX10_510 (by decide +kernel) (by decide +kernel)
theorem iX10_checkOne_551 : zSnd zZM zmX10_checkOne 551 (o_if0 (fun x => x = 0) 565 554) := s_if_eq (off := 14) (by decide +kernel) (by decide +kernel)
theorem iX10_checkOne_554 : zSnd zZM zmX10_checkOne 554 (o_aload 0 555) := s_aload_n (k := 0) (by decide +kernel) rfl
theorem iX10_checkOne_555 : zSnd zZM zmX10_checkOne 555 (o_aload 1 556) := s_aload_n (k := 1) (by decide +kernel) rfl
theorem iX10_checkOne_556 : zSnd zZM zmX10_checkOne 556 (o_lload 5 558) := s_lload (by decide +kernel)
theorem iX10_checkOne_558 : zSnd zZM zmX10_checkOne 558 (o_l2i 559) := s_l2i (by decide +kernel)
set_option maxRecDepth 20000 in
theorem iX10_checkOne_559 : zSnd zZM zmX10_checkOne 559 (o_callS zZM zmX10_sigOf 2 1 562) := s_callS (idx := 474) calX10_sigOf virX10_sigOf dscX10_sigOf (by decide +kernel) (zWS7 24 rfl rfl) (by decide +kernel)
set_option maxRecDepth 20000 in
theorem iX10_checkOne_562 : zSnd zZM zmX10_checkOne 562 (o_callV zZM 0 zmX10_calls 1 0 565) := s_callV (idx := 548) zcX10 calX10_calls virX10_calls dscX10_calls (by decide +kernel) (zWS7 88 rfl rfl) (by decide +kernel)
theorem iX10_checkOne_565 : zSnd zZM zmX10_checkOne 565 (o_vret) := s_vret rfl (by decide +kernel)
theorem iX10_checkOne_566 : zSnd zZM zmX10_checkOne 566 (o_aload 0 567) := s_aload_n (k := 0) (by decide +kernel) rfl
set_option maxRecDepth 20000 in
theorem iX10_checkOne_567 : zSnd zZM zmX10_checkOne 567 (o_callV zZM 0 zmX10_u 0 2 570) := s_callV (idx := 144) zcX10 calX10_u virX10_u dscX10_u (by decide +kernel) (zWS6 105 rfl rfl) (by decide +kernel)
theorem iX10_checkOne_570 : zSnd zZM zmX10_checkOne 570 (o_lstore 5 572) := s_lstore (by decide +kernel) (by decide +kernel)
theorem iX10_checkOne_572 : zSnd zZM zmX10_checkOne 572 (o_aload 0 573) := s_aload_n (k := 0) (by decide +kernel) rfl
theorem iX10_checkOne_573 : zSnd zZM zmX10_checkOne 573 (o_ic 0 574) := s_iconst (i := 0) (by decide +kernel) (by decide +kernel)
set_option maxRecDepth 20000 in
theorem iX10_checkOne_574 : zSnd zZM zmX10_checkOne 574 (o_callV zZM 0 zmX10_needOctet 1 0 577) := s_callV (idx := 209) zcX10 calX10_needOctet virX10_needOctet dscX10_needOctet (by decide +kernel) (zWS6 41 rfl rfl) (by decide +kernel)
theorem iX10_checkOne_577 : zSnd zZM zmX10_checkOne 577 (o_aload 0 578) := s_aload_n (k := 0) (by decide +kernel) rfl
theorem iX10_checkOne_578 : zSnd zZM zmX10_checkOne 578 (o_lload 5 580) := s_lload (by decide +kernel)
theorem iX10_checkOne_580 : zSnd zZM zmX10_checkOne 580 (o_aload 1 581) := s_aload_n (k := 1) (by decide +kernel) rfl
theorem iX10_checkOne_581 : zSnd zZM zmX10_checkOne 581 (o_getf zYM 1 2 584) := s_getf zcX9 fX10_97 (by decide +kernel) (by decide +kernel)
theorem iX10_checkOne_584 : zSnd zZM zmX10_checkOne 584 (o_i2l 585) := s_i2l (by decide +kernel)
theorem iX10_checkOne_585 : zSnd zZM zmX10_checkOne 585 (o_lif (fun x y => y ≤ x) 601 589) := s_lge (off := 15) (by decide +kernel) (by decide +kernel) (by decide +kernel)
theorem iX10_checkOne_589 : zSnd zZM zmX10_checkOne 589 (o_aload 1 590) := s_aload_n (k := 1) (by decide +kernel) rfl
theorem iX10_checkOne_590 : zSnd zZM zmX10_checkOne 590 (o_ic 1 591) := s_iconst (i := 1) (by decide +kernel) (by decide +kernel)
set_option maxRecDepth 20000 in
theorem iX10_checkOne_591 : zSnd zZM zmX10_checkOne 591 (o_callV zZM 1 zmX9_has 1 1 594) := s_callV (idx := 484) zcX9 calX9_has virX9_has dscX9_has (by decide +kernel) (zWS7 16 rfl rfl) (by decide +kernel)
theorem iX10_checkOne_594 : zSnd zZM zmX10_checkOne 594 (o_if0 (fun x => x = 0) 601 597) := s_if_eq (off := 7) (by decide +kernel) (by decide +kernel)
theorem iX10_checkOne_597 : zSnd zZM zmX10_checkOne 597 (o_ic 1 598) := s_iconst (i := 1) (by decide +kernel) (by decide +kernel)
theorem iX10_checkOne_598 : zSnd zZM zmX10_checkOne 598 (o_goto 602) := s_goto (off := 4) (by decide +kernel) (by decide +kernel)
theorem iX10_checkOne_601 : zSnd zZM zmX10_checkOne 601 (o_ic 0 602) := s_iconst (i := 0) (by decide +kernel) (by decide +kernel)
set_option maxRecDepth 20000 in
theorem iX10_checkOne_602 : zSnd zZM zmX10_checkOne 602 (o_callV zZM 0 zmX10_need 1 0 605) := s_callV (idx := 526) zcX10 calX10_need virX10_need dscX10_need (by decide +kernel) (zWS7 52 rfl rfl) (by decide +kernel)
theorem iX10_checkOne_605 : zSnd zZM zmX10_checkOne 605 (o_aload 0 606) := s_aload_n (k := 0) (by decide +kernel) rfl
theorem iX10_checkOne_606 : zSnd zZM zmX10_checkOne 606 (o_ic 0 607) := s_iconst (i := 0) (by decide +kernel) (by decide +kernel)
set_option maxRecDepth 20000 in
theorem iX10_checkOne_607 : zSnd zZM zmX10_checkOne 607 (o_callV zZM 0 zmX10_takes 1 1 610) := s_callV (idx := 529) zcX10 calX10_takes virX10_takes dscX10_takes (by decide +kernel) (zWS7 60 rfl rfl) (by decide +kernel)
theorem iX10_checkOne_610 : zSnd zZM zmX10_checkOne 610 (o_istore 4 612) := s_istore (by decide +kernel) (by decide +kernel)
theorem iX10_checkOne_612 : zSnd zZM zmX10_checkOne 612 (o_aload 0 613) := s_aload_n (k := 0) (by decide +kernel) rfl
theorem iX10_checkOne_613 : zSnd zZM zmX10_checkOne 613 (o_getf zYM 0 31 616) := s_getf zcX10 fX10_510 (by decide +kernel) (by decide +kernel)
theorem iX10_checkOne_616 : zSnd zZM zmX10_checkOne 616 (o_if0 (fun x => x = 0) 631 619) := s_if_eq (off := 15) (by decide +kernel) (by decide +kernel)
theorem iX10_checkOne_619 : zSnd zZM zmX10_checkOne 619 (o_aload 0 620) := s_aload_n (k := 0) (by decide +kernel) rfl
theorem iX10_checkOne_620 : zSnd zZM zmX10_checkOne 620 (o_aload 1 621) := s_aload_n (k := 1) (by decide +kernel) rfl
theorem iX10_checkOne_621 : zSnd zZM zmX10_checkOne 621 (o_getf zYM 1 19 624) := s_getf zcX9 fX10_160 (by decide +kernel) (by decide +kernel)
theorem iX10_checkOne_624 : zSnd zZM zmX10_checkOne 624 (o_lload 5 626) := s_lload (by decide +kernel)
theorem iX10_checkOne_626 : zSnd zZM zmX10_checkOne 626 (o_l2i 627) := s_l2i (by decide +kernel)
theorem iX10_checkOne_627 : zSnd zZM zmX10_checkOne 627 (o_ald zYM .int 628) := s_iald (by decide +kernel)
set_option maxRecDepth 20000 in
theorem iX10_checkOne_628 : zSnd zZM zmX10_checkOne 628 (o_callV zZM 0 zmX10_calls 1 0 631) := s_callV (idx := 548) zcX10 calX10_calls virX10_calls dscX10_calls (by decide +kernel) (zWS7 88 rfl rfl) (by decide +kernel)
theorem iX10_checkOne_631 : zSnd zZM zmX10_checkOne 631 (o_vret) := s_vret rfl (by decide +kernel)
theorem iX10_checkOne_632 : zSnd zZM zmX10_checkOne 632 (o_aload 0 633) := s_aload_n (k := 0) (by decide +kernel) rfl
theorem iX10_checkOne_633 : zSnd zZM zmX10_checkOne 633 (o_ic 3 634) := s_iconst (i := 3) (by decide +kernel) (by decide +kernel)
set_option maxRecDepth 20000 in
theorem iX10_checkOne_634 : zSnd zZM zmX10_checkOne 634 (o_callV zZM 0 zmX10_takes 1 1 637) := s_callV (idx := 529) zcX10 calX10_takes virX10_takes dscX10_takes (by decide +kernel) (zWS7 60 rfl rfl) (by decide +kernel)
theorem iX10_checkOne_637 : zSnd zZM zmX10_checkOne 637 (o_istore 4 639) := s_istore (by decide +kernel) (by decide +kernel)
theorem iX10_checkOne_639 : zSnd zZM zmX10_checkOne 639 (o_vret) := s_vret rfl (by decide +kernel)
theorem iX10_checkOne_640 : zSnd zZM zmX10_checkOne 640 (o_aload 0 641) := s_aload_n (k := 0) (by decide +kernel) rfl
theorem iX10_checkOne_641 : zSnd zZM zmX10_checkOne 641 (o_ic 0 642) := s_iconst (i := 0) (by decide +kernel) (by decide +kernel)
set_option maxRecDepth 20000 in
theorem iX10_checkOne_642 : zSnd zZM zmX10_checkOne 642 (o_callV zZM 0 zmX10_takes 1 1 645) := s_callV (idx := 529) zcX10 calX10_takes virX10_takes dscX10_takes (by decide +kernel) (zWS7 60 rfl rfl) (by decide +kernel)
theorem iX10_checkOne_645 : zSnd zZM zmX10_checkOne 645 (o_istore 4 647) := s_istore (by decide +kernel) (by decide +kernel)
theorem iX10_checkOne_647 : zSnd zZM zmX10_checkOne 647 (o_aload 0 648) := s_aload_n (k := 0) (by decide +kernel) rfl
theorem iX10_checkOne_648 : zSnd zZM zmX10_checkOne 648 (o_ic 3 649) := s_iconst (i := 3) (by decide +kernel) (by decide +kernel)
set_option maxRecDepth 20000 in
theorem iX10_checkOne_649 : zSnd zZM zmX10_checkOne 649 (o_callV zZM 0 zmX10_takes 1 1 652) := s_callV (idx := 529) zcX10 calX10_takes virX10_takes dscX10_takes (by decide +kernel) (zWS7 60 rfl rfl) (by decide +kernel)
theorem iX10_checkOne_652 : zSnd zZM zmX10_checkOne 652 (o_istore 10 654) := s_istore (by decide +kernel) (by decide +kernel)
theorem iX10_checkOne_654 : zSnd zZM zmX10_checkOne 654 (o_aload 0 655) := s_aload_n (k := 0) (by decide +kernel) rfl
theorem iX10_checkOne_655 : zSnd zZM zmX10_checkOne 655 (o_ic 3 656) := s_iconst (i := 3) (by decide +kernel) (by decide +kernel)
set_option maxRecDepth 20000 in
theorem iX10_checkOne_656 : zSnd zZM zmX10_checkOne 656 (o_callV zZM 0 zmX10_takes 1 1 659) := s_callV (idx := 529) zcX10 calX10_takes virX10_takes dscX10_takes (by decide +kernel) (zWS7 60 rfl rfl) (by decide +kernel)
theorem iX10_checkOne_659 : zSnd zZM zmX10_checkOne 659 (o_istore 11 661) := s_istore (by decide +kernel) (by decide +kernel)
theorem iX10_checkOne_661 : zSnd zZM zmX10_checkOne 661 (o_aload 0 662) := s_aload_n (k := 0) (by decide +kernel) rfl
theorem iX10_checkOne_662 : zSnd zZM zmX10_checkOne 662 (o_iload 10 664) := s_iload (by decide +kernel)
theorem iX10_checkOne_664 : zSnd zZM zmX10_checkOne 664 (o_iload 11 666) := s_iload (by decide +kernel)
theorem iX10_checkOne_666 : zSnd zZM zmX10_checkOne 666 (o_icmp (fun x y => x = y) 681 669) := s_icmp_eq (off := 15) (by decide +kernel) (by decide +kernel)
theorem iX10_checkOne_669 : zSnd zZM zmX10_checkOne 669 (o_iload 10 671) := s_iload (by decide +kernel)
theorem iX10_checkOne_671 : zSnd zZM zmX10_checkOne 671 (o_ic 3 672) := s_iconst (i := 3) (by decide +kernel) (by decide +kernel)
theorem iX10_checkOne_672 : zSnd zZM zmX10_checkOne 672 (o_icmp (fun x y => x = y) 681 675) := s_icmp_eq (off := 9) (by decide +kernel) (by decide +kernel)
theorem iX10_checkOne_675 : zSnd zZM zmX10_checkOne 675 (o_iload 11 677) := s_iload (by decide +kernel)
theorem iX10_checkOne_677 : zSnd zZM zmX10_checkOne 677 (o_ic 3 678) := s_iconst (i := 3) (by decide +kernel) (by decide +kernel)
theorem iX10_checkOne_678 : zSnd zZM zmX10_checkOne 678 (o_icmp (fun x y => x = y) 681 685) := s_icmp_ne (off := 7) (by decide +kernel) (by decide +kernel)
theorem iX10_checkOne_681 : zSnd zZM zmX10_checkOne 681 (o_ic 1 682) := s_iconst (i := 1) (by decide +kernel) (by decide +kernel)
theorem iX10_checkOne_682 : zSnd zZM zmX10_checkOne 682 (o_goto 686) := s_goto (off := 4) (by decide +kernel) (by decide +kernel)
theorem iX10_checkOne_685 : zSnd zZM zmX10_checkOne 685 (o_ic 0 686) := s_iconst (i := 0) (by decide +kernel) (by decide +kernel)
set_option maxRecDepth 20000 in
theorem iX10_checkOne_686 : zSnd zZM zmX10_checkOne 686 (o_callV zZM 0 zmX10_need 1 0 689) := s_callV (idx := 526) zcX10 calX10_need virX10_need dscX10_need (by decide +kernel) (zWS7 52 rfl rfl) (by decide +kernel)
theorem iX10_checkOne_689 : zSnd zZM zmX10_checkOne 689 (o_aload 0 690) := s_aload_n (k := 0) (by decide +kernel) rfl
theorem iX10_checkOne_690 : zSnd zZM zmX10_checkOne 690 (o_iload 10 692) := s_iload (by decide +kernel)
theorem iX10_checkOne_692 : zSnd zZM zmX10_checkOne 692 (o_ic 3 693) := s_iconst (i := 3) (by decide +kernel) (by decide +kernel)
theorem iX10_checkOne_693 : zSnd zZM zmX10_checkOne 693 (o_icmp (fun x y => x = y) 696 701) := s_icmp_ne (off := 8) (by decide +kernel) (by decide +kernel)
theorem iX10_checkOne_696 : zSnd zZM zmX10_checkOne 696 (o_iload 11 698) := s_iload (by decide +kernel)
theorem iX10_checkOne_698 : zSnd zZM zmX10_checkOne 698 (o_goto 703) := s_goto (off := 5) (by decide +kernel) (by decide +kernel)
theorem iX10_checkOne_701 : zSnd zZM zmX10_checkOne 701 (o_iload 10 703) := s_iload (by decide +kernel)
set_option maxRecDepth 20000 in
theorem iX10_checkOne_703 : zSnd zZM zmX10_checkOne 703 (o_callV zZM 0 zmX10_gives 1 0 706) := s_callV (idx := 532) zcX10 calX10_gives virX10_gives dscX10_gives (by decide +kernel) (zWS7 64 rfl rfl) (by decide +kernel)
theorem iX10_checkOne_706 : zSnd zZM zmX10_checkOne 706 (o_vret) := s_vret rfl (by decide +kernel)
theorem iX10_checkOne_707 : zSnd zZM zmX10_checkOne 707 (o_aload 0 708) := s_aload_n (k := 0) (by decide +kernel) rfl
set_option maxRecDepth 20000 in
theorem iX10_checkOne_708 : zSnd zZM zmX10_checkOne 708 (o_callV zZM 0 zmX10_u 0 2 711) := s_callV (idx := 144) zcX10 calX10_u virX10_u dscX10_u (by decide +kernel) (zWS6 105 rfl rfl) (by decide +kernel)
theorem iX10_checkOne_711 : zSnd zZM zmX10_checkOne 711 (o_lstore 5 713) := s_lstore (by decide +kernel) (by decide +kernel)
theorem iX10_checkOne_713 : zSnd zZM zmX10_checkOne 713 (o_aload 0 714) := s_aload_n (k := 0) (by decide +kernel) rfl
theorem iX10_checkOne_714 : zSnd zZM zmX10_checkOne 714 (o_lload 5 716) := s_lload (by decide +kernel)
theorem iX10_checkOne_716 : zSnd zZM zmX10_checkOne 716 (o_aload 0 717) := s_aload_n (k := 0) (by decide +kernel) rfl
theorem iX10_checkOne_717 : zSnd zZM zmX10_checkOne 717 (o_getf zYM 0 30 720) := s_getf zcX10 fX10_173 (by decide +kernel) (by decide +kernel)
theorem iX10_checkOne_720 : zSnd zZM zmX10_checkOne 720 (o_i2l 721) := s_i2l (by decide +kernel)
theorem iX10_checkOne_721 : zSnd zZM zmX10_checkOne 721 (o_lif (fun x y => y ≤ x) 729 725) := s_lge (off := 7) (by decide +kernel) (by decide +kernel) (by decide +kernel)
theorem iX10_checkOne_725 : zSnd zZM zmX10_checkOne 725 (o_ic 1 726) := s_iconst (i := 1) (by decide +kernel) (by decide +kernel)
theorem iX10_checkOne_726 : zSnd zZM zmX10_checkOne 726 (o_goto 730) := s_goto (off := 4) (by decide +kernel) (by decide +kernel)
theorem iX10_checkOne_729 : zSnd zZM zmX10_checkOne 729 (o_ic 0 730) := s_iconst (i := 0) (by decide +kernel) (by decide +kernel)
set_option maxRecDepth 20000 in
theorem iX10_checkOne_730 : zSnd zZM zmX10_checkOne 730 (o_callV zZM 0 zmX10_need 1 0 733) := s_callV (idx := 526) zcX10 calX10_need virX10_need dscX10_need (by decide +kernel) (zWS7 52 rfl rfl) (by decide +kernel)
theorem iX10_checkOne_733 : zSnd zZM zmX10_checkOne 733 (o_aload 0 734) := s_aload_n (k := 0) (by decide +kernel) rfl
theorem iX10_checkOne_734 : zSnd zZM zmX10_checkOne 734 (o_getf zYM 0 31 737) := s_getf zcX10 fX10_510 (by decide +kernel) (by decide +kernel)
theorem iX10_checkOne_737 : zSnd zZM zmX10_checkOne 737 (o_if0 (fun x => x = 0) 740 741) := s_if_ne (off := 4) (by decide +kernel) (by decide +kernel)
theorem iX10_checkOne_740 : zSnd zZM zmX10_checkOne 740 (o_vret) := s_vret rfl (by decide +kernel)
theorem iX10_checkOne_741 : zSnd zZM zmX10_checkOne 741 (o_iload 2 742) := s_iload_n (k := 2) (by decide +kernel) rfl
theorem iX10_checkOne_742 : zSnd zZM zmX10_checkOne 742 (o_ic 32 744) := s_bipush (i := 32) (by decide +kernel) (by decide +kernel)
theorem iX10_checkOne_744 : zSnd zZM zmX10_checkOne 744 (o_icmp (fun x y => x ≤ y) 761 747) := s_icmp_le (off := 17) (by decide +kernel) (by decide +kernel)
theorem iX10_checkOne_747 : zSnd zZM zmX10_checkOne 747 (o_aload 0 748) := s_aload_n (k := 0) (by decide +kernel) rfl
theorem iX10_checkOne_748 : zSnd zZM zmX10_checkOne 748 (o_aload 0 749) := s_aload_n (k := 0) (by decide +kernel) rfl
theorem iX10_checkOne_749 : zSnd zZM zmX10_checkOne 749 (o_getf zYM 0 29 752) := s_getf zcX10 fX10_60 (by decide +kernel) (by decide +kernel)
theorem iX10_checkOne_752 : zSnd zZM zmX10_checkOne 752 (o_lload 5 754) := s_lload (by decide +kernel)
theorem iX10_checkOne_754 : zSnd zZM zmX10_checkOne 754 (o_l2i 755) := s_l2i (by decide +kernel)
theorem iX10_checkOne_755 : zSnd zZM zmX10_checkOne 755 (o_ald zYM .int 756) := s_iald (by decide +kernel)
set_option maxRecDepth 20000 in
theorem iX10_checkOne_756 : zSnd zZM zmX10_checkOne 756 (o_callV zZM 0 zmX10_takes 1 1 759) := s_callV (idx := 529) zcX10 calX10_takes virX10_takes dscX10_takes (by decide +kernel) (zWS7 60 rfl rfl) (by decide +kernel)
theorem iX10_checkOne_759 : zSnd zZM zmX10_checkOne 759 (o_istore 4 761) := s_istore (by decide +kernel) (by decide +kernel)
theorem iX10_checkOne_761 : zSnd zZM zmX10_checkOne 761 (o_iload 2 762) := s_iload_n (k := 2) (by decide +kernel) rfl
theorem iX10_checkOne_762 : zSnd zZM zmX10_checkOne 762 (o_ic 33 764) := s_bipush (i := 33) (by decide +kernel) (by decide +kernel)
theorem iX10_checkOne_764 : zSnd zZM zmX10_checkOne 764 (o_icmp (fun x y => x = y) 779 767) := s_icmp_eq (off := 15) (by decide +kernel) (by decide +kernel)
theorem iX10_checkOne_767 : zSnd zZM zmX10_checkOne 767 (o_aload 0 768) := s_aload_n (k := 0) (by decide +kernel) rfl
theorem iX10_checkOne_768 : zSnd zZM zmX10_checkOne 768 (o_aload 0 769) := s_aload_n (k := 0) (by decide +kernel) rfl
theorem iX10_checkOne_769 : zSnd zZM zmX10_checkOne 769 (o_getf zYM 0 29 772) := s_getf zcX10 fX10_60 (by decide +kernel) (by decide +kernel)
theorem iX10_checkOne_772 : zSnd zZM zmX10_checkOne 772 (o_lload 5 774) := s_lload (by decide +kernel)
theorem iX10_checkOne_774 : zSnd zZM zmX10_checkOne 774 (o_l2i 775) := s_l2i (by decide +kernel)
theorem iX10_checkOne_775 : zSnd zZM zmX10_checkOne 775 (o_ald zYM .int 776) := s_iald (by decide +kernel)
set_option maxRecDepth 20000 in
theorem iX10_checkOne_776 : zSnd zZM zmX10_checkOne 776 (o_callV zZM 0 zmX10_gives 1 0 779) := s_callV (idx := 532) zcX10 calX10_gives virX10_gives dscX10_gives (by decide +kernel) (zWS7 64 rfl rfl) (by decide +kernel)
theorem iX10_checkOne_779 : zSnd zZM zmX10_checkOne 779 (o_vret) := s_vret rfl (by decide +kernel)
theorem iX10_checkOne_780 : zSnd zZM zmX10_checkOne 780 (o_aload 0 781) := s_aload_n (k := 0) (by decide +kernel) rfl
set_option maxRecDepth 20000 in
theorem iX10_checkOne_781 : zSnd zZM zmX10_checkOne 781 (o_callV zZM 0 zmX10_u 0 2 784) := s_callV (idx := 144) zcX10 calX10_u virX10_u dscX10_u (by decide +kernel) (zWS6 105 rfl rfl) (by decide +kernel)
theorem iX10_checkOne_784 : zSnd zZM zmX10_checkOne 784 (o_lstore 5 786) := s_lstore (by decide +kernel) (by decide +kernel)
theorem iX10_checkOne_786 : zSnd zZM zmX10_checkOne 786 (o_aload 0 787) := s_aload_n (k := 0) (by decide +kernel) rfl
theorem iX10_checkOne_787 : zSnd zZM zmX10_checkOne 787 (o_lload 5 789) := s_lload (by decide +kernel)
theorem iX10_checkOne_789 : zSnd zZM zmX10_checkOne 789 (o_aload 1 790) := s_aload_n (k := 1) (by decide +kernel) rfl
set_option maxRecDepth 20000 in
theorem iX10_checkOne_790 : zSnd zZM zmX10_checkOne 790 (o_callS zZM zmX10_globalsOf 1 1 793) := s_callS (idx := 497) calX10_globalsOf virX10_globalsOf dscX10_globalsOf (by decide +kernel) (zWS7 13 rfl rfl) (by decide +kernel)
theorem iX10_checkOne_793 : zSnd zZM zmX10_checkOne 793 (o_i2l 794) := s_i2l (by decide +kernel)
theorem iX10_checkOne_794 : zSnd zZM zmX10_checkOne 794 (o_lif (fun x y => y ≤ x) 818 798) := s_lge (off := 23) (by decide +kernel) (by decide +kernel) (by decide +kernel)
theorem iX10_checkOne_798 : zSnd zZM zmX10_checkOne 798 (o_iload 2 799) := s_iload_n (k := 2) (by decide +kernel) rfl
theorem iX10_checkOne_799 : zSnd zZM zmX10_checkOne 799 (o_ic 35 801) := s_bipush (i := 35) (by decide +kernel) (by decide +kernel)
theorem iX10_checkOne_801 : zSnd zZM zmX10_checkOne 801 (o_icmp (fun x y => x = y) 814 804) := s_icmp_eq (off := 13) (by decide +kernel) (by decide +kernel)
theorem iX10_checkOne_804 : zSnd zZM zmX10_checkOne 804 (o_aload 1 805) := s_aload_n (k := 1) (by decide +kernel) rfl
theorem iX10_checkOne_805 : zSnd zZM zmX10_checkOne 805 (o_lload 5 807) := s_lload (by decide +kernel)
theorem iX10_checkOne_807 : zSnd zZM zmX10_checkOne 807 (o_l2i 808) := s_l2i (by decide +kernel)
set_option maxRecDepth 20000 in
theorem iX10_checkOne_808 : zSnd zZM zmX10_checkOne 808 (o_callS zZM zmX10_isChanged 2 1 811) := s_callS (idx := 490) calX10_isChanged virX10_isChanged dscX10_isChanged (by decide +kernel) (zWS7 0 rfl rfl) (by decide +kernel)
theorem iX10_checkOne_811 : zSnd zZM zmX10_checkOne 811 (o_if0 (fun x => x = 0) 818 814) := s_if_eq (off := 7) (by decide +kernel) (by decide +kernel)
theorem iX10_checkOne_814 : zSnd zZM zmX10_checkOne 814 (o_ic 1 815) := s_iconst (i := 1) (by decide +kernel) (by decide +kernel)
theorem iX10_checkOne_815 : zSnd zZM zmX10_checkOne 815 (o_goto 819) := s_goto (off := 4) (by decide +kernel) (by decide +kernel)
theorem iX10_checkOne_818 : zSnd zZM zmX10_checkOne 818 (o_ic 0 819) := s_iconst (i := 0) (by decide +kernel) (by decide +kernel)
set_option maxRecDepth 20000 in
theorem iX10_checkOne_819 : zSnd zZM zmX10_checkOne 819 (o_callV zZM 0 zmX10_need 1 0 822) := s_callV (idx := 526) zcX10 calX10_need virX10_need dscX10_need (by decide +kernel) (zWS7 52 rfl rfl) (by decide +kernel)
theorem iX10_checkOne_822 : zSnd zZM zmX10_checkOne 822 (o_aload 0 823) := s_aload_n (k := 0) (by decide +kernel) rfl
theorem iX10_checkOne_823 : zSnd zZM zmX10_checkOne 823 (o_getf zYM 0 31 826) := s_getf zcX10 fX10_510 (by decide +kernel) (by decide +kernel)
theorem iX10_checkOne_826 : zSnd zZM zmX10_checkOne 826 (o_if0 (fun x => x = 0) 829 830) := s_if_ne (off := 4) (by decide +kernel) (by decide +kernel)
theorem iX10_checkOne_829 : zSnd zZM zmX10_checkOne 829 (o_vret) := s_vret rfl (by decide +kernel)
theorem iX10_checkOne_830 : zSnd zZM zmX10_checkOne 830 (o_iload 2 831) := s_iload_n (k := 2) (by decide +kernel) rfl
theorem iX10_checkOne_831 : zSnd zZM zmX10_checkOne 831 (o_ic 35 833) := s_bipush (i := 35) (by decide +kernel) (by decide +kernel)
theorem iX10_checkOne_833 : zSnd zZM zmX10_checkOne 833 (o_icmp (fun x y => x = y) 836 850) := s_icmp_ne (off := 17) (by decide +kernel) (by decide +kernel)
theorem iX10_checkOne_836 : zSnd zZM zmX10_checkOne 836 (o_aload 0 837) := s_aload_n (k := 0) (by decide +kernel) rfl
theorem iX10_checkOne_837 : zSnd zZM zmX10_checkOne 837 (o_aload 1 838) := s_aload_n (k := 1) (by decide +kernel) rfl
theorem iX10_checkOne_838 : zSnd zZM zmX10_checkOne 838 (o_lload 5 840) := s_lload (by decide +kernel)
theorem iX10_checkOne_840 : zSnd zZM zmX10_checkOne 840 (o_l2i 841) := s_l2i (by decide +kernel)
set_option maxRecDepth 20000 in
theorem iX10_checkOne_841 : zSnd zZM zmX10_checkOne 841 (o_callS zZM zmX10_typeOf 2 1 844) := s_callS (idx := 494) calX10_typeOf virX10_typeOf dscX10_typeOf (by decide +kernel) (zWS7 3 rfl rfl) (by decide +kernel)
set_option maxRecDepth 20000 in
theorem iX10_checkOne_844 : zSnd zZM zmX10_checkOne 844 (o_callV zZM 0 zmX10_gives 1 0 847) := s_callV (idx := 532) zcX10 calX10_gives virX10_gives dscX10_gives (by decide +kernel) (zWS7 64 rfl rfl) (by decide +kernel)
theorem iX10_checkOne_847 : zSnd zZM zmX10_checkOne 847 (o_goto 863) := s_goto (off := 16) (by decide +kernel) (by decide +kernel)
theorem iX10_checkOne_850 : zSnd zZM zmX10_checkOne 850 (o_aload 0 851) := s_aload_n (k := 0) (by decide +kernel) rfl
theorem iX10_checkOne_851 : zSnd zZM zmX10_checkOne 851 (o_aload 1 852) := s_aload_n (k := 1) (by decide +kernel) rfl
theorem iX10_checkOne_852 : zSnd zZM zmX10_checkOne 852 (o_lload 5 854) := s_lload (by decide +kernel)
theorem iX10_checkOne_854 : zSnd zZM zmX10_checkOne 854 (o_l2i 855) := s_l2i (by decide +kernel)
set_option maxRecDepth 20000 in
theorem iX10_checkOne_855 : zSnd zZM zmX10_checkOne 855 (o_callS zZM zmX10_typeOf 2 1 858) := s_callS (idx := 494) calX10_typeOf virX10_typeOf dscX10_typeOf (by decide +kernel) (zWS7 3 rfl rfl) (by decide +kernel)
set_option maxRecDepth 20000 in
theorem iX10_checkOne_858 : zSnd zZM zmX10_checkOne 858 (o_callV zZM 0 zmX10_takes 1 1 861) := s_callV (idx := 529) zcX10 calX10_takes virX10_takes dscX10_takes (by decide +kernel) (zWS7 60 rfl rfl) (by decide +kernel)
theorem iX10_checkOne_861 : zSnd zZM zmX10_checkOne 861 (o_istore 4 863) := s_istore (by decide +kernel) (by decide +kernel)
theorem iX10_checkOne_863 : zSnd zZM zmX10_checkOne 863 (o_vret) := s_vret rfl (by decide +kernel)
theorem iX10_checkOne_864 : zSnd zZM zmX10_checkOne 864 (o_aload 0 865) := s_aload_n (k := 0) (by decide +kernel) rfl
theorem iX10_checkOne_865 : zSnd zZM zmX10_checkOne 865 (o_ic 0 866) := s_iconst (i := 0) (by decide +kernel) (by decide +kernel)
set_option maxRecDepth 20000 in
theorem iX10_checkOne_866 : zSnd zZM zmX10_checkOne 866 (o_callV zZM 0 zmX10_needOctet 1 0 869) := s_callV (idx := 209) zcX10 calX10_needOctet virX10_needOctet dscX10_needOctet (by decide +kernel) (zWS6 41 rfl rfl) (by decide +kernel)
theorem iX10_checkOne_869 : zSnd zZM zmX10_checkOne 869 (o_aload 0 870) := s_aload_n (k := 0) (by decide +kernel) rfl
theorem iX10_checkOne_870 : zSnd zZM zmX10_checkOne 870 (o_aload 1 871) := s_aload_n (k := 1) (by decide +kernel) rfl
theorem iX10_checkOne_871 : zSnd zZM zmX10_checkOne 871 (o_ic 2 872) := s_iconst (i := 2) (by decide +kernel) (by decide +kernel)
set_option maxRecDepth 20000 in
theorem iX10_checkOne_872 : zSnd zZM zmX10_checkOne 872 (o_callV zZM 1 zmX9_has 1 1 875) := s_callV (idx := 484) zcX9 calX9_has virX9_has dscX9_has (by decide +kernel) (zWS7 16 rfl rfl) (by decide +kernel)
set_option maxRecDepth 20000 in
theorem iX10_checkOne_875 : zSnd zZM zmX10_checkOne 875 (o_callV zZM 0 zmX10_need 1 0 878) := s_callV (idx := 526) zcX10 calX10_need virX10_need dscX10_need (by decide +kernel) (zWS7 52 rfl rfl) (by decide +kernel)
theorem iX10_checkOne_878 : zSnd zZM zmX10_checkOne 878 (o_aload 0 879) := s_aload_n (k := 0) (by decide +kernel) rfl
theorem iX10_checkOne_879 : zSnd zZM zmX10_checkOne 879 (o_ic 0 880) := s_iconst (i := 0) (by decide +kernel) (by decide +kernel)
theorem iX10_checkOne_880 : zSnd zZM zmX10_checkOne 880 (o_iload 2 881) := s_iload_n (k := 2) (by decide +kernel) rfl
theorem iX10_checkOne_881 : zSnd zZM zmX10_checkOne 881 (o_ic 63 883) := s_bipush (i := 63) (by decide +kernel) (by decide +kernel)
theorem iX10_checkOne_883 : zSnd zZM zmX10_checkOne 883 (o_ibin (fun x y => x - y) 884) := s_isub (by decide +kernel)
theorem iX10_checkOne_884 : zSnd zZM zmX10_checkOne 884 (o_ic 0 885) := s_iconst (i := 0) (by decide +kernel) (by decide +kernel)
set_option maxRecDepth 20000 in
theorem iX10_checkOne_885 : zSnd zZM zmX10_checkOne 885 (o_callV zZM 0 zmX10_turns 3 0 888) := s_callV (idx := 551) zcX10 calX10_turns virX10_turns dscX10_turns (by decide +kernel) (zWS7 56 rfl rfl) (by decide +kernel)
theorem iX10_checkOne_888 : zSnd zZM zmX10_checkOne 888 (o_vret) := s_vret rfl (by decide +kernel)
theorem iX10_checkOne_889 : zSnd zZM zmX10_checkOne 889 (o_aload 0 890) := s_aload_n (k := 0) (by decide +kernel) rfl
set_option maxRecDepth 20000 in
theorem iX10_checkOne_890 : zSnd zZM zmX10_checkOne 890 (o_callV zZM 0 zmX10_s 0 1 893) := s_callV (idx := 203) zcX10 calX10_s virX10_s dscX10_s (by decide +kernel) (zWS6 155 rfl rfl) (by decide +kernel)
theorem iX10_checkOne_893 : zSnd zZM zmX10_checkOne 893 (o_istore 4 895) := s_istore (by decide +kernel) (by decide +kernel)
theorem iX10_checkOne_895 : zSnd zZM zmX10_checkOne 895 (o_aload 0 896) := s_aload_n (k := 0) (by decide +kernel) rfl
theorem iX10_checkOne_896 : zSnd zZM zmX10_checkOne 896 (o_ic 0 897) := s_iconst (i := 0) (by decide +kernel) (by decide +kernel)
set_option maxRecDepth 20000 in
theorem iX10_checkOne_897 : zSnd zZM zmX10_checkOne 897 (o_callV zZM 0 zmX10_gives 1 0 900) := s_callV (idx := 532) zcX10 calX10_gives virX10_gives dscX10_gives (by decide +kernel) (zWS7 64 rfl rfl) (by decide +kernel)
theorem iX10_checkOne_900 : zSnd zZM zmX10_checkOne 900 (o_vret) := s_vret rfl (by decide +kernel)
theorem iX10_checkOne_901 : zSnd zZM zmX10_checkOne 901 (o_aload 0 902) := s_aload_n (k := 0) (by decide +kernel) rfl
set_option maxRecDepth 20000 in
theorem iX10_checkOne_902 : zSnd zZM zmX10_checkOne 902 (o_callV zZM 0 zmX10_l 0 2 905) := s_callV (idx := 206) zcX10 calX10_l virX10_l dscX10_l (by decide +kernel) (zWS6 163 rfl rfl) (by decide +kernel)
theorem iX10_checkOne_905 : zSnd zZM zmX10_checkOne 905 (o_lstore 5 907) := s_lstore (by decide +kernel) (by decide +kernel)
theorem iX10_checkOne_907 : zSnd zZM zmX10_checkOne 907 (o_aload 0 908) := s_aload_n (k := 0) (by decide +kernel) rfl
theorem iX10_checkOne_908 : zSnd zZM zmX10_checkOne 908 (o_ic 1 909) := s_iconst (i := 1) (by decide +kernel) (by decide +kernel)
set_option maxRecDepth 20000 in
theorem iX10_checkOne_909 : zSnd zZM zmX10_checkOne 909 (o_callV zZM 0 zmX10_gives 1 0 912) := s_callV (idx := 532) zcX10 calX10_gives virX10_gives dscX10_gives (by decide +kernel) (zWS7 64 rfl rfl) (by decide +kernel)
theorem iX10_checkOne_912 : zSnd zZM zmX10_checkOne 912 (o_vret) := s_vret rfl (by decide +kernel)
theorem iX10_checkOne_913 : zSnd zZM zmX10_checkOne 913 (o_iload 2 914) := s_iload_n (k := 2) (by decide +kernel) rfl
set_option maxRecDepth 20000 in
theorem iX10_checkOne_914 : zSnd zZM zmX10_checkOne 914 (o_callS zZM zmX10_isLoad 1 1 917) := s_callS (idx := 416) calX10_isLoad virX10_isLoad dscX10_isLoad (by decide +kernel) (zWS6 192 rfl rfl) (by decide +kernel)
theorem iX10_checkOne_917 : zSnd zZM zmX10_checkOne 917 (o_if0 (fun x => x = 0) 920 927) := s_if_ne (off := 10) (by decide +kernel) (by decide +kernel)
theorem iX10_checkOne_920 : zSnd zZM zmX10_checkOne 920 (o_iload 2 921) := s_iload_n (k := 2) (by decide +kernel) rfl
set_option maxRecDepth 20000 in
theorem iX10_checkOne_921 : zSnd zZM zmX10_checkOne 921 (o_callS zZM zmX10_isStore 1 1 924) := s_callS (idx := 419) calX10_isStore virX10_isStore dscX10_isStore (by decide +kernel) (zWS6 195 rfl rfl) (by decide +kernel)
theorem iX10_checkOne_924 : zSnd zZM zmX10_checkOne 924 (o_if0 (fun x => x = 0) 936 927) := s_if_eq (off := 12) (by decide +kernel) (by decide +kernel)
theorem iX10_checkOne_927 : zSnd zZM zmX10_checkOne 927 (o_aload 0 928) := s_aload_n (k := 0) (by decide +kernel) rfl
theorem iX10_checkOne_928 : zSnd zZM zmX10_checkOne 928 (o_aload 1 929) := s_aload_n (k := 1) (by decide +kernel) rfl
theorem iX10_checkOne_929 : zSnd zZM zmX10_checkOne 929 (o_iload 2 930) := s_iload_n (k := 2) (by decide +kernel) rfl
set_option maxRecDepth 20000 in
theorem iX10_checkOne_930 : zSnd zZM zmX10_checkOne 930 (o_callV zZM 0 zmX10_access 2 0 933) := s_callV (idx := 554) zcX10 calX10_access virX10_access dscX10_access (by decide +kernel) (zWS7 92 rfl rfl) (by decide +kernel)
theorem iX10_checkOne_933 : zSnd zZM zmX10_checkOne 933 (o_goto 941) := s_goto (off := 8) (by decide +kernel) (by decide +kernel)
theorem iX10_checkOne_936 : zSnd zZM zmX10_checkOne 936 (o_aload 0 937) := s_aload_n (k := 0) (by decide +kernel) rfl
theorem iX10_checkOne_937 : zSnd zZM zmX10_checkOne 937 (o_iload 2 938) := s_iload_n (k := 2) (by decide +kernel) rfl
set_option maxRecDepth 20000 in
theorem iX10_checkOne_938 : zSnd zZM zmX10_checkOne 938 (o_callV zZM 0 zmX10_numbers 1 0 941) := s_callV (idx := 557) zcX10 calX10_numbers virX10_numbers dscX10_numbers (by decide +kernel) (zWS7 102 rfl rfl) (by decide +kernel)
theorem iX10_checkOne_941 : zSnd zZM zmX10_checkOne 941 (o_vret) := s_vret rfl (by decide +kernel)
def kX10_checkOne : List (Nat × zOp) := [(0, o_iload 2 1),
  (1, o_sw [([0], 284), ([1], 289), ([2, 3, 4], 290), ([5], 327), ([11], 371), ([12], 450), ([13], 469), ([14], 501), ([15], 506), ([16], 521), ([17], 566), ([26], 632), ([27], 640), ([32, 33, 34], 707), ([35, 36], 780), ([63, 64], 864), ([65], 889), ([66], 901)] 913),
  (284, o_aload 0 285),
  (285, o_callV zZM 0 zmX10_rest 0 0 288),
  (288, o_vret),
  (289, o_vret),
  (290, o_aload 0 291),
  (291, o_callV zZM 0 zmX10_blockType 0 1 294),
  (294, o_istore 7 296),
  (296, o_iload 2 297),
  (297, o_ic 4 298),
  (298, o_icmp (fun x y => x = y) 301 308),
  (301, o_aload 0 302),
  (302, o_ic 0 303),
  (303, o_callV zZM 0 zmX10_takes 1 1 306),
  (306, o_istore 4 308),
  (308, o_aload 0 309),
  (309, o_iload 2 310),
  (310, o_iload 2 311),
  (311, o_ic 3 312),
  (312, o_icmp (fun x y => x = y) 315 319),
  (315, o_ic 2 316),
  (316, o_goto 321),
  (319, o_iload 7 321),
  (321, o_iload 7 323),
  (323, o_callV zZM 0 zmX10_openFrame 3 0 326),
  (326, o_vret),
  (327, o_aload 0 328),
  (328, o_callV zZM 0 zmX10_closes 0 0 331),
  (331, o_aload 0 332),
  (332, o_getf zYM 0 26 335),
  (335, o_aload 0 336),
  (336, o_getf zYM 0 28 339),
  (339, o_ic 1 340),
  (340, o_ibin (fun x y => x - y) 341),
  (341, o_ic 5 342),
  (342, o_ast zYM .int (fun x => x) 343),
  (343, o_aload 0 344),
  (344, o_getf zYM 0 27 347),
  (347, o_aload 0 348),
  (348, o_getf zYM 0 28 351),
  (351, o_ic 1 352),
  (352, o_ibin (fun x y => x - y) 353),
  (353, o_ic 0 354),
  (354, o_ast zYM .boolean (fun x => vp_nar .boolean x) 355),
  (355, o_aload 0 356),
  (356, o_aload 0 357),
  (357, o_getf zYM 0 25 360),
  (360, o_aload 0 361),
  (361, o_getf zYM 0 28 364),
  (364, o_ic 1 365),
  (365, o_ibin (fun x y => x - y) 366),
  (366, o_ald zYM .int 367),
  (367, o_putI zYM 0 22 370),
  (370, o_vret),
  (371, o_aload 0 372),
  (372, o_callV zZM 0 zmX10_closes 0 0 375),
  (375, o_aload 0 376),
  (376, o_getf zYM 0 24 379),
  (379, o_aload 0 380),
  (380, o_getf zYM 0 28 383),
  (383, o_ic 1 384),
  (384, o_ibin (fun x y => x - y) 385),
  (385, o_ald zYM .int 386),
  (386, o_istore 8 388),
  (388, o_aload 0 389),
  (389, o_aload 0 390),
  (390, o_getf zYM 0 26 393),
  (393, o_aload 0 394),
  (394, o_getf zYM 0 28 397),
  (397, o_ic 1 398),
  (398, o_ibin (fun x y => x - y) 399),
  (399, o_ald zYM .int 400),
  (400, o_ic 4 401),
  (401, o_icmp (fun x y => x = y) 404 410),
  (404, o_iload 8 406),
  (406, o_ic 2 407),
  (407, o_icmp (fun x y => x = y) 410 414),
  (410, o_ic 1 411),
  (411, o_goto 415),
  (414, o_ic 0 415),
  (415, o_callV zZM 0 zmX10_need 1 0 418),
  (418, o_aload 0 419),
  (419, o_aload 0 420),
  (420, o_getf zYM 0 25 423),
  (423, o_aload 0 424),
  (424, o_getf zYM 0 28 427),
  (427, o_ic 1 428),
  (428, o_ibin (fun x y => x - y) 429),
  (429, o_ald zYM .int 430),
  (430, o_putI zYM 0 22 433),
  (433, o_aload 0 434),
  (434, o_dup 435),
  (435, o_getf zYM 0 28 438),
  (438, o_ic 1 439),
  (439, o_ibin (fun x y => x - y) 440),
  (440, o_putI zYM 0 28 443),
  (443, o_aload 0 444),
  (444, o_iload 8 446),
  (446, o_callV zZM 0 zmX10_gives 1 0 449),
  (449, o_vret),
  (450, o_aload 0 451),
  (451, o_aload 0 452),
  (452, o_aload 0 453),
  (453, o_callV zZM 0 zmX10_u 0 2 456),
  (456, o_callV zZM 0 zmX10_label 1 1 459),
  (459, o_callV zZM 0 zmX10_takes 1 1 462),
  (462, o_istore 4 464),
  (464, o_aload 0 465),
  (465, o_callV zZM 0 zmX10_rest 0 0 468),
  (468, o_vret),
  (469, o_aload 0 470),
  (470, o_aload 0 471),
  (471, o_callV zZM 0 zmX10_u 0 2 474),
  (474, o_callV zZM 0 zmX10_label 1 1 477),
  (477, o_istore 9 479),
  (479, o_aload 0 480),
  (480, o_ic 0 481),
  (481, o_callV zZM 0 zmX10_takes 1 1 484),
  (484, o_istore 4 486),
  (486, o_aload 0 487),
  (487, o_iload 9 489),
  (489, o_callV zZM 0 zmX10_takes 1 1 492),
  (492, o_istore 4 494),
  (494, o_aload 0 495),
  (495, o_iload 9 497),
  (497, o_callV zZM 0 zmX10_gives 1 0 500),
  (500, o_vret),
  (501, o_aload 0 502),
  (502, o_callV zZM 0 zmX10_labelRow 0 0 505),
  (505, o_vret),
  (506, o_aload 0 507),
  (507, o_iload 3 508),
  (508, o_callS zZM zmX10_resultOf 1 1 511),
  (511, o_callV zZM 0 zmX10_takes 1 1 514),
  (514, o_istore 4 516),
  (516, o_aload 0 517),
  (517, o_callV zZM 0 zmX10_rest 0 0 520),
  (520, o_vret),
  (521, o_aload 0 522),
  (522, o_callV zZM 0 zmX10_u 0 2 525),
  (525, o_lstore 5 527),
  (527, o_aload 0 528),
  (528, o_lload 5 530),
  (530, o_aload 1 531),
  (531, o_callS zZM zmX10_functionsOf 1 1 534),
  (534, o_i2l 535),
  (535, o_lif (fun x y => y ≤ x) 543 539),
  (539, o_ic 1 540),
  (540, o_goto 544),
  (543, o_ic 0 544),
  (544, o_callV zZM 0 zmX10_need 1 0 547),
  (547, o_aload 0 548),
  (548, o_getf zYM 0 31 551),
  (551, o_if0 (fun x => x = 0) 565 554),
  (554, o_aload 0 555),
  (555, o_aload 1 556),
  (556, o_lload 5 558),
  (558, o_l2i 559),
  (559, o_callS zZM zmX10_sigOf 2 1 562),
  (562, o_callV zZM 0 zmX10_calls 1 0 565),
  (565, o_vret),
  (566, o_aload 0 567),
  (567, o_callV zZM 0 zmX10_u 0 2 570),
  (570, o_lstore 5 572),
  (572, o_aload 0 573),
  (573, o_ic 0 574),
  (574, o_callV zZM 0 zmX10_needOctet 1 0 577),
  (577, o_aload 0 578),
  (578, o_lload 5 580),
  (580, o_aload 1 581),
  (581, o_getf zYM 1 2 584),
  (584, o_i2l 585),
  (585, o_lif (fun x y => y ≤ x) 601 589),
  (589, o_aload 1 590),
  (590, o_ic 1 591),
  (591, o_callV zZM 1 zmX9_has 1 1 594),
  (594, o_if0 (fun x => x = 0) 601 597),
  (597, o_ic 1 598),
  (598, o_goto 602),
  (601, o_ic 0 602),
  (602, o_callV zZM 0 zmX10_need 1 0 605),
  (605, o_aload 0 606),
  (606, o_ic 0 607),
  (607, o_callV zZM 0 zmX10_takes 1 1 610),
  (610, o_istore 4 612),
  (612, o_aload 0 613),
  (613, o_getf zYM 0 31 616),
  (616, o_if0 (fun x => x = 0) 631 619),
  (619, o_aload 0 620),
  (620, o_aload 1 621),
  (621, o_getf zYM 1 19 624),
  (624, o_lload 5 626),
  (626, o_l2i 627),
  (627, o_ald zYM .int 628),
  (628, o_callV zZM 0 zmX10_calls 1 0 631),
  (631, o_vret),
  (632, o_aload 0 633),
  (633, o_ic 3 634),
  (634, o_callV zZM 0 zmX10_takes 1 1 637),
  (637, o_istore 4 639),
  (639, o_vret),
  (640, o_aload 0 641),
  (641, o_ic 0 642),
  (642, o_callV zZM 0 zmX10_takes 1 1 645),
  (645, o_istore 4 647),
  (647, o_aload 0 648),
  (648, o_ic 3 649),
  (649, o_callV zZM 0 zmX10_takes 1 1 652),
  (652, o_istore 10 654),
  (654, o_aload 0 655),
  (655, o_ic 3 656),
  (656, o_callV zZM 0 zmX10_takes 1 1 659),
  (659, o_istore 11 661),
  (661, o_aload 0 662),
  (662, o_iload 10 664),
  (664, o_iload 11 666),
  (666, o_icmp (fun x y => x = y) 681 669),
  (669, o_iload 10 671),
  (671, o_ic 3 672),
  (672, o_icmp (fun x y => x = y) 681 675),
  (675, o_iload 11 677),
  (677, o_ic 3 678),
  (678, o_icmp (fun x y => x = y) 681 685),
  (681, o_ic 1 682),
  (682, o_goto 686),
  (685, o_ic 0 686),
  (686, o_callV zZM 0 zmX10_need 1 0 689),
  (689, o_aload 0 690),
  (690, o_iload 10 692),
  (692, o_ic 3 693),
  (693, o_icmp (fun x y => x = y) 696 701),
  (696, o_iload 11 698),
  (698, o_goto 703),
  (701, o_iload 10 703),
  (703, o_callV zZM 0 zmX10_gives 1 0 706),
  (706, o_vret),
  (707, o_aload 0 708),
  (708, o_callV zZM 0 zmX10_u 0 2 711),
  (711, o_lstore 5 713),
  (713, o_aload 0 714),
  (714, o_lload 5 716),
  (716, o_aload 0 717),
  (717, o_getf zYM 0 30 720),
  (720, o_i2l 721),
  (721, o_lif (fun x y => y ≤ x) 729 725),
  (725, o_ic 1 726),
  (726, o_goto 730),
  (729, o_ic 0 730),
  (730, o_callV zZM 0 zmX10_need 1 0 733),
  (733, o_aload 0 734),
  (734, o_getf zYM 0 31 737),
  (737, o_if0 (fun x => x = 0) 740 741),
  (740, o_vret),
  (741, o_iload 2 742),
  (742, o_ic 32 744),
  (744, o_icmp (fun x y => x ≤ y) 761 747),
  (747, o_aload 0 748),
  (748, o_aload 0 749),
  (749, o_getf zYM 0 29 752),
  (752, o_lload 5 754),
  (754, o_l2i 755),
  (755, o_ald zYM .int 756),
  (756, o_callV zZM 0 zmX10_takes 1 1 759),
  (759, o_istore 4 761),
  (761, o_iload 2 762),
  (762, o_ic 33 764),
  (764, o_icmp (fun x y => x = y) 779 767),
  (767, o_aload 0 768),
  (768, o_aload 0 769),
  (769, o_getf zYM 0 29 772),
  (772, o_lload 5 774),
  (774, o_l2i 775),
  (775, o_ald zYM .int 776),
  (776, o_callV zZM 0 zmX10_gives 1 0 779),
  (779, o_vret),
  (780, o_aload 0 781),
  (781, o_callV zZM 0 zmX10_u 0 2 784),
  (784, o_lstore 5 786),
  (786, o_aload 0 787),
  (787, o_lload 5 789),
  (789, o_aload 1 790),
  (790, o_callS zZM zmX10_globalsOf 1 1 793),
  (793, o_i2l 794),
  (794, o_lif (fun x y => y ≤ x) 818 798),
  (798, o_iload 2 799),
  (799, o_ic 35 801),
  (801, o_icmp (fun x y => x = y) 814 804),
  (804, o_aload 1 805),
  (805, o_lload 5 807),
  (807, o_l2i 808),
  (808, o_callS zZM zmX10_isChanged 2 1 811),
  (811, o_if0 (fun x => x = 0) 818 814),
  (814, o_ic 1 815),
  (815, o_goto 819),
  (818, o_ic 0 819),
  (819, o_callV zZM 0 zmX10_need 1 0 822),
  (822, o_aload 0 823),
  (823, o_getf zYM 0 31 826),
  (826, o_if0 (fun x => x = 0) 829 830),
  (829, o_vret),
  (830, o_iload 2 831),
  (831, o_ic 35 833),
  (833, o_icmp (fun x y => x = y) 836 850),
  (836, o_aload 0 837),
  (837, o_aload 1 838),
  (838, o_lload 5 840),
  (840, o_l2i 841),
  (841, o_callS zZM zmX10_typeOf 2 1 844),
  (844, o_callV zZM 0 zmX10_gives 1 0 847),
  (847, o_goto 863),
  (850, o_aload 0 851),
  (851, o_aload 1 852),
  (852, o_lload 5 854),
  (854, o_l2i 855),
  (855, o_callS zZM zmX10_typeOf 2 1 858),
  (858, o_callV zZM 0 zmX10_takes 1 1 861),
  (861, o_istore 4 863),
  (863, o_vret),
  (864, o_aload 0 865),
  (865, o_ic 0 866),
  (866, o_callV zZM 0 zmX10_needOctet 1 0 869),
  (869, o_aload 0 870),
  (870, o_aload 1 871),
  (871, o_ic 2 872),
  (872, o_callV zZM 1 zmX9_has 1 1 875),
  (875, o_callV zZM 0 zmX10_need 1 0 878),
  (878, o_aload 0 879),
  (879, o_ic 0 880),
  (880, o_iload 2 881),
  (881, o_ic 63 883),
  (883, o_ibin (fun x y => x - y) 884),
  (884, o_ic 0 885),
  (885, o_callV zZM 0 zmX10_turns 3 0 888),
  (888, o_vret),
  (889, o_aload 0 890),
  (890, o_callV zZM 0 zmX10_s 0 1 893),
  (893, o_istore 4 895),
  (895, o_aload 0 896),
  (896, o_ic 0 897),
  (897, o_callV zZM 0 zmX10_gives 1 0 900),
  (900, o_vret),
  (901, o_aload 0 902),
  (902, o_callV zZM 0 zmX10_l 0 2 905),
  (905, o_lstore 5 907),
  (907, o_aload 0 908),
  (908, o_ic 1 909),
  (909, o_callV zZM 0 zmX10_gives 1 0 912),
  (912, o_vret),
  (913, o_iload 2 914),
  (914, o_callS zZM zmX10_isLoad 1 1 917),
  (917, o_if0 (fun x => x = 0) 920 927),
  (920, o_iload 2 921),
  (921, o_callS zZM zmX10_isStore 1 1 924),
  (924, o_if0 (fun x => x = 0) 936 927),
  (927, o_aload 0 928),
  (928, o_aload 1 929),
  (929, o_iload 2 930),
  (930, o_callV zZM 0 zmX10_access 2 0 933),
  (933, o_goto 941),
  (936, o_aload 0 937),
  (937, o_iload 2 938),
  (938, o_callV zZM 0 zmX10_numbers 1 0 941),
  (941, o_vret)]
set_option maxRecDepth 100000 in
theorem ksX10_checkOne : ∀ q ∈ kX10_checkOne, zSnd zZM zmX10_checkOne q.1 q.2 := zcc iX10_checkOne_0 (zcc iX10_checkOne_1 (zcc iX10_checkOne_284 (zcc iX10_checkOne_285 (zcc iX10_checkOne_288 (zcc iX10_checkOne_289 (zcc iX10_checkOne_290 (zcc iX10_checkOne_291 (zcc iX10_checkOne_294 (zcc iX10_checkOne_296 (zcc iX10_checkOne_297 (zcc iX10_checkOne_298 (zcc iX10_checkOne_301 (zcc iX10_checkOne_302 (zcc iX10_checkOne_303 (zcc iX10_checkOne_306 (zcc iX10_checkOne_308 (zcc iX10_checkOne_309 (zcc iX10_checkOne_310 (zcc iX10_checkOne_311 (zcc iX10_checkOne_312 (zcc iX10_checkOne_315 (zcc iX10_checkOne_316 (zcc iX10_checkOne_319 (zcc iX10_checkOne_321 (zcc iX10_checkOne_323 (zcc iX10_checkOne_326 (zcc iX10_checkOne_327 (zcc iX10_checkOne_328 (zcc iX10_checkOne_331 (zcc iX10_checkOne_332 (zcc iX10_checkOne_335 (zcc iX10_checkOne_336 (zcc iX10_checkOne_339 (zcc iX10_checkOne_340 (zcc iX10_checkOne_341 (zcc iX10_checkOne_342 (zcc iX10_checkOne_343 (zcc iX10_checkOne_344 (zcc iX10_checkOne_347 (zcc iX10_checkOne_348 (zcc iX10_checkOne_351 (zcc iX10_checkOne_352 (zcc iX10_checkOne_353 (zcc iX10_checkOne_354 (zcc iX10_checkOne_355 (zcc iX10_checkOne_356 (zcc iX10_checkOne_357 (zcc iX10_checkOne_360 (zcc iX10_checkOne_361 (zcc iX10_checkOne_364 (zcc iX10_checkOne_365 (zcc iX10_checkOne_366 (zcc iX10_checkOne_367 (zcc iX10_checkOne_370 (zcc iX10_checkOne_371 (zcc iX10_checkOne_372 (zcc iX10_checkOne_375 (zcc iX10_checkOne_376 (zcc iX10_checkOne_379 (zcc iX10_checkOne_380 (zcc iX10_checkOne_383 (zcc iX10_checkOne_384 (zcc iX10_checkOne_385 (zcc iX10_checkOne_386 (zcc iX10_checkOne_388 (zcc iX10_checkOne_389 (zcc iX10_checkOne_390 (zcc iX10_checkOne_393 (zcc iX10_checkOne_394 (zcc iX10_checkOne_397 (zcc iX10_checkOne_398 (zcc iX10_checkOne_399 (zcc iX10_checkOne_400 (zcc iX10_checkOne_401 (zcc iX10_checkOne_404 (zcc iX10_checkOne_406 (zcc iX10_checkOne_407 (zcc iX10_checkOne_410 (zcc iX10_checkOne_411 (zcc iX10_checkOne_414 (zcc iX10_checkOne_415 (zcc iX10_checkOne_418 (zcc iX10_checkOne_419 (zcc iX10_checkOne_420 (zcc iX10_checkOne_423 (zcc iX10_checkOne_424 (zcc iX10_checkOne_427 (zcc iX10_checkOne_428 (zcc iX10_checkOne_429 (zcc iX10_checkOne_430 (zcc iX10_checkOne_433 (zcc iX10_checkOne_434 (zcc iX10_checkOne_435 (zcc iX10_checkOne_438 (zcc iX10_checkOne_439 (zcc iX10_checkOne_440 (zcc iX10_checkOne_443 (zcc iX10_checkOne_444 (zcc iX10_checkOne_446 (zcc iX10_checkOne_449 (zcc iX10_checkOne_450 (zcc iX10_checkOne_451 (zcc iX10_checkOne_452 (zcc iX10_checkOne_453 (zcc iX10_checkOne_456 (zcc iX10_checkOne_459 (zcc iX10_checkOne_462 (zcc iX10_checkOne_464 (zcc iX10_checkOne_465 (zcc iX10_checkOne_468 (zcc iX10_checkOne_469 (zcc iX10_checkOne_470 (zcc iX10_checkOne_471 (zcc iX10_checkOne_474 (zcc iX10_checkOne_477 (zcc iX10_checkOne_479 (zcc iX10_checkOne_480 (zcc iX10_checkOne_481 (zcc iX10_checkOne_484 (zcc iX10_checkOne_486 (zcc iX10_checkOne_487 (zcc iX10_checkOne_489 (zcc iX10_checkOne_492 (zcc iX10_checkOne_494 (zcc iX10_checkOne_495 (zcc iX10_checkOne_497 (zcc iX10_checkOne_500 (zcc iX10_checkOne_501 (zcc iX10_checkOne_502 (zcc iX10_checkOne_505 (zcc iX10_checkOne_506 (zcc iX10_checkOne_507 (zcc iX10_checkOne_508 (zcc iX10_checkOne_511 (zcc iX10_checkOne_514 (zcc iX10_checkOne_516 (zcc iX10_checkOne_517 (zcc iX10_checkOne_520 (zcc iX10_checkOne_521 (zcc iX10_checkOne_522 (zcc iX10_checkOne_525 (zcc iX10_checkOne_527 (zcc iX10_checkOne_528 (zcc iX10_checkOne_530 (zcc iX10_checkOne_531 (zcc iX10_checkOne_534 (zcc iX10_checkOne_535 (zcc iX10_checkOne_539 (zcc iX10_checkOne_540 (zcc iX10_checkOne_543 (zcc iX10_checkOne_544 (zcc iX10_checkOne_547 (zcc iX10_checkOne_548 (zcc iX10_checkOne_551 (zcc iX10_checkOne_554 (zcc iX10_checkOne_555 (zcc iX10_checkOne_556 (zcc iX10_checkOne_558 (zcc iX10_checkOne_559 (zcc iX10_checkOne_562 (zcc iX10_checkOne_565 (zcc iX10_checkOne_566 (zcc iX10_checkOne_567 (zcc iX10_checkOne_570 (zcc iX10_checkOne_572 (zcc iX10_checkOne_573 (zcc iX10_checkOne_574 (zcc iX10_checkOne_577 (zcc iX10_checkOne_578 (zcc iX10_checkOne_580 (zcc iX10_checkOne_581 (zcc iX10_checkOne_584 (zcc iX10_checkOne_585 (zcc iX10_checkOne_589 (zcc iX10_checkOne_590 (zcc iX10_checkOne_591 (zcc iX10_checkOne_594 (zcc iX10_checkOne_597 (zcc iX10_checkOne_598 (zcc iX10_checkOne_601 (zcc iX10_checkOne_602 (zcc iX10_checkOne_605 (zcc iX10_checkOne_606 (zcc iX10_checkOne_607 (zcc iX10_checkOne_610 (zcc iX10_checkOne_612 (zcc iX10_checkOne_613 (zcc iX10_checkOne_616 (zcc iX10_checkOne_619 (zcc iX10_checkOne_620 (zcc iX10_checkOne_621 (zcc iX10_checkOne_624 (zcc iX10_checkOne_626 (zcc iX10_checkOne_627 (zcc iX10_checkOne_628 (zcc iX10_checkOne_631 (zcc iX10_checkOne_632 (zcc iX10_checkOne_633 (zcc iX10_checkOne_634 (zcc iX10_checkOne_637 (zcc iX10_checkOne_639 (zcc iX10_checkOne_640 (zcc iX10_checkOne_641 (zcc iX10_checkOne_642 (zcc iX10_checkOne_645 (zcc iX10_checkOne_647 (zcc iX10_checkOne_648 (zcc iX10_checkOne_649 (zcc iX10_checkOne_652 (zcc iX10_checkOne_654 (zcc iX10_checkOne_655 (zcc iX10_checkOne_656 (zcc iX10_checkOne_659 (zcc iX10_checkOne_661 (zcc iX10_checkOne_662 (zcc iX10_checkOne_664 (zcc iX10_checkOne_666 (zcc iX10_checkOne_669 (zcc iX10_checkOne_671 (zcc iX10_checkOne_672 (zcc iX10_checkOne_675 (zcc iX10_checkOne_677 (zcc iX10_checkOne_678 (zcc iX10_checkOne_681 (zcc iX10_checkOne_682 (zcc iX10_checkOne_685 (zcc iX10_checkOne_686 (zcc iX10_checkOne_689 (zcc iX10_checkOne_690 (zcc iX10_checkOne_692 (zcc iX10_checkOne_693 (zcc iX10_checkOne_696 (zcc iX10_checkOne_698 (zcc iX10_checkOne_701 (zcc iX10_checkOne_703 (zcc iX10_checkOne_706 (zcc iX10_checkOne_707 (zcc iX10_checkOne_708 (zcc iX10_checkOne_711 (zcc iX10_checkOne_713 (zcc iX10_checkOne_714 (zcc iX10_checkOne_716 (zcc iX10_checkOne_717 (zcc iX10_checkOne_720 (zcc iX10_checkOne_721 (zcc iX10_checkOne_725 (zcc iX10_checkOne_726 (zcc iX10_checkOne_729 (zcc iX10_checkOne_730 (zcc iX10_checkOne_733 (zcc iX10_checkOne_734 (zcc iX10_checkOne_737 (zcc iX10_checkOne_740 (zcc iX10_checkOne_741 (zcc iX10_checkOne_742 (zcc iX10_checkOne_744 (zcc iX10_checkOne_747 (zcc iX10_checkOne_748 (zcc iX10_checkOne_749 (zcc iX10_checkOne_752 (zcc iX10_checkOne_754 (zcc iX10_checkOne_755 (zcc iX10_checkOne_756 (zcc iX10_checkOne_759 (zcc iX10_checkOne_761 (zcc iX10_checkOne_762 (zcc iX10_checkOne_764 (zcc iX10_checkOne_767 (zcc iX10_checkOne_768 (zcc iX10_checkOne_769 (zcc iX10_checkOne_772 (zcc iX10_checkOne_774 (zcc iX10_checkOne_775 (zcc iX10_checkOne_776 (zcc iX10_checkOne_779 (zcc iX10_checkOne_780 (zcc iX10_checkOne_781 (zcc iX10_checkOne_784 (zcc iX10_checkOne_786 (zcc iX10_checkOne_787 (zcc iX10_checkOne_789 (zcc iX10_checkOne_790 (zcc iX10_checkOne_793 (zcc iX10_checkOne_794 (zcc iX10_checkOne_798 (zcc iX10_checkOne_799 (zcc iX10_checkOne_801 (zcc iX10_checkOne_804 (zcc iX10_checkOne_805 (zcc iX10_checkOne_807 (zcc iX10_checkOne_808 (zcc iX10_checkOne_811 (zcc iX10_checkOne_814 (zcc iX10_checkOne_815 (zcc iX10_checkOne_818 (zcc iX10_checkOne_819 (zcc iX10_checkOne_822 (zcc iX10_checkOne_823 (zcc iX10_checkOne_826 (zcc iX10_checkOne_829 (zcc iX10_checkOne_830 (zcc iX10_checkOne_831 (zcc iX10_checkOne_833 (zcc iX10_checkOne_836 (zcc iX10_checkOne_837 (zcc iX10_checkOne_838 (zcc iX10_checkOne_840 (zcc iX10_checkOne_841 (zcc iX10_checkOne_844 (zcc iX10_checkOne_847 (zcc iX10_checkOne_850 (zcc iX10_checkOne_851 (zcc iX10_checkOne_852 (zcc iX10_checkOne_854 (zcc iX10_checkOne_855 (zcc iX10_checkOne_858 (zcc iX10_checkOne_861 (zcc iX10_checkOne_863 (zcc iX10_checkOne_864 (zcc iX10_checkOne_865 (zcc iX10_checkOne_866 (zcc iX10_checkOne_869 (zcc iX10_checkOne_870 (zcc iX10_checkOne_871 (zcc iX10_checkOne_872 (zcc iX10_checkOne_875 (zcc iX10_checkOne_878 (zcc iX10_checkOne_879 (zcc iX10_checkOne_880 (zcc iX10_checkOne_881 (zcc iX10_checkOne_883 (zcc iX10_checkOne_884 (zcc iX10_checkOne_885 (zcc iX10_checkOne_888 (zcc iX10_checkOne_889 (zcc iX10_checkOne_890 (zcc iX10_checkOne_893 (zcc iX10_checkOne_895 (zcc iX10_checkOne_896 (zcc iX10_checkOne_897 (zcc iX10_checkOne_900 (zcc iX10_checkOne_901 (zcc iX10_checkOne_902 (zcc iX10_checkOne_905 (zcc iX10_checkOne_907 (zcc iX10_checkOne_908 (zcc iX10_checkOne_909 (zcc iX10_checkOne_912 (zcc iX10_checkOne_913 (zcc iX10_checkOne_914 (zcc iX10_checkOne_917 (zcc iX10_checkOne_920 (zcc iX10_checkOne_921 (zcc iX10_checkOne_924 (zcc iX10_checkOne_927 (zcc iX10_checkOne_928 (zcc iX10_checkOne_929 (zcc iX10_checkOne_930 (zcc iX10_checkOne_933 (zcc iX10_checkOne_936 (zcc iX10_checkOne_937 (zcc iX10_checkOne_938 (zcc iX10_checkOne_941 zcn)))))))))))))))))))))))))))))))))))))))))))))))))))))))))))))))))))))))))))))))))))))))))))))))))))))))))))))))))))))))))))))))))))))))))))))))))))))))))))))))))))))))))))))))))))))))))))))))))))))))))))))))))))))))))))))))))))))))))))))))))))))))))))))))))))))))))))))))))))))))))))))))))))))))))))))))))))))))))))))))))))))))))))))))))))))))))))))))))))))))))))
