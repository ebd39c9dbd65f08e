theorem iX10_octet_0 : zSnd zZM zmX10_octet 0 (o_aload 0 1) := s_aload_n (k := 0) (by decide +kernel) rfl
theorem iX10_octet_1 : zSnd zZM zmX10_octet 1 (o_getf zYM 0 12 4) := s_getf zcX10 fX10_127 (by decide +kernel) (by decide +kernel)
theorem iX10_octet_4 : zSnd zZM zmX10_octet 4 (o_aload 0 5) := s_aload_n (k := 0) (by decide +kernel) rfl
theorem iX10_octet_5 : zSnd zZM zmX10_octet 5 (o_getf zYM 0 13 8) := s_getf zcX10 fX10_133 (by decide +kernel) (by decide +kernel)
theorem iX10_octet_8 : zSnd zZM zmX10_octet 8 (o_icmp (fun x y => x = y) 11 21) := s_icmp_ne (off := 13) (by decide +kernel) (by decide +kernel)
theorem iX10_octet_11 : zSnd zZM zmX10_octet 11 (o_aload 0 12) := s_aload_n (k := 0) (by decide +kernel) rfl
theorem iX10_octet_12 : zSnd zZM zmX10_octet 12 (o_ic 1 13) := s_iconst (i := 1) (by decide +kernel) (by decide +kernel)
theorem iX10_octet_13 : zSnd zZM zmX10_octet 13 (o_aload 0 14) := s_aload_n (k := 0) (by decide +kernel) rfl
theorem iX10_octet_14 : zSnd zZM zmX10_octet 14 (o_getf zYM 0 13 17) := s_getf zcX10 fX10_133 (by decide +kernel) (by decide +kernel)
set_option maxRecDepth 20000 in
theorem iX10_octet_17 : zSnd zZM zmX10_octet 17 (o_callV zZM 0 zmX10_wrong 2 3 20) := s_callV (idx := 176) zcX10 calX10_wrong virX10_wrong dscX10_wrong (by decide +kernel) (zWS6 49 rfl rfl) (by decide +kernel)
theorem iX10_octet_20 : zSnd zZM zmX10_octet 20 (o_athrow zYM 2) := s_athrow (T := TIse) (N := 0) rfl (by decide +kernel)
theorem iX10_octet_21 : zSnd zZM zmX10_octet 21 (o_aload 0 22) := s_aload_n (k := 0) (by decide +kernel) rfl
theorem iX10_octet_22 : zSnd zZM zmX10_octet 22 (o_dup 23) := s_dup (by decide +kernel)
theorem iX10_octet_23 : zSnd zZM zmX10_octet 23 (o_getf zYM 0 12 26) := s_getf zcX10 fX10_127 (by decide +kernel) (by decide +kernel)
theorem iX10_octet_26 : zSnd zZM zmX10_octet 26 (o_ic 1 27) := s_iconst (i := 1) (by decide +kernel) (by decide +kernel)
theorem iX10_octet_27 : zSnd zZM zmX10_octet 27 (o_ibin (fun x y => x + y) 28) := s_iadd (by decide +kernel)
theorem iX10_octet_28 : zSnd zZM zmX10_octet 28 (o_putI zYM 0 12 31) := s_putI zcX10 fX10_127 (by decide +kernel) rfl rfl (by decide +kernel)
theorem iX10_octet_31 : zSnd zZM zmX10_octet 31 (o_aload 0 32) := s_aload_n (k := 0) (by decide +kernel) rfl
theorem iX10_octet_32 : zSnd zZM zmX10_octet 32 (o_getf zYM 0 3 35) := s_getf zcX10 fX10_19 (by decide +kernel) (by decide +kernel)
theorem iX10_octet_35 : zSnd zZM zmX10_octet 35 (o_aload 0 36) := s_aload_n (k := 0) (by decide +kernel) rfl
theorem iX10_octet_36 : zSnd zZM zmX10_octet 36 (o_getf zYM 0 12 39) := s_getf zcX10 fX10_127 (by decide +kernel) (by decide +kernel)
theorem iX10_octet_39 : zSnd zZM zmX10_octet 39 (o_ic 1 40) := s_iconst (i := 1) (by decide +kernel) (by decide +kernel)
theorem iX10_octet_40 : zSnd zZM zmX10_octet 40 (o_ibin (fun x y => x - y) 41) := s_isub (by decide +kernel)
theorem iX10_octet_41 : zSnd zZM zmX10_octet 41 (o_ald zYM .byte 42) := s_bald (by decide +kernel)
theorem iX10_octet_42 : zSnd zZM zmX10_octet 42 (o_ic 255 45) := s_sipush (i := 255) (by decide +kernel) (by decide +kernel)
theorem iX10_octet_45 : zSnd zZM zmX10_octet 45 (o_ibin (fun x y => x &&& y) 46) := s_iand (by decide +kernel)
theorem iX10_octet_46 : zSnd zZM zmX10_octet 46 (o_iret) := s_iret rfl (by decide +kernel)
def kX10_octet : List (Nat × zOp) := [(0, o_aload 0 1),
  (1, o_getf zYM 0 12 4),
  (4, o_aload 0 5),
  (5, o_getf zYM 0 13 8),
  (8, o_icmp (fun x y => x = y) 11 21),
  (11, o_aload 0 12),
  (12, o_ic 1 13),
  (13, o_aload 0 14),
  (14, o_getf zYM 0 13 17),
  (17, o_callV zZM 0 zmX10_wrong 2 3 20),
  (20, o_athrow zYM 2),
  (21, o_aload 0 22),
  (22, o_dup 23),
  (23, o_getf zYM 0 12 26),
  (26, o_ic 1 27),
  (27, o_ibin (fun x y => x + y) 28),
  (28, o_putI zYM 0 12 31),
  (31, o_aload 0 32),
  (32, o_getf zYM 0 3 35),
  (35, o_aload 0 36),
  (36, o_getf zYM 0 12 39),
  (39, o_ic 1 40),
  (40, o_ibin (fun x y => x - y) 41),
  (41, o_ald zYM .byte 42),
  (42, o_ic 255 45),
  (45, o_ibin (fun x y => x &&& y) 46),
  (46, o_iret)]
set_option maxRecDepth 100000 in
theorem ksX10_octet : ∀ q ∈ kX10_octet, zSnd zZM zmX10_octet q.1 q.2 := zcc iX10_octet_0 (zcc iX10_octet_1 (zcc iX10_octet_4 (zcc iX10_octet_5 (zcc iX10_octet_8 (zcc iX10_octet_11 (zcc iX10_octet_12 (zcc iX10_octet_13 (zcc iX10_octet_14 (zcc iX10_octet_17 (zcc iX10_octet_20 (zcc iX10_octet_21 (zcc iX10_octet_22 (zcc iX10_octet_23 (zcc iX10_octet_26 (zcc iX10_octet_27 (zcc iX10_octet_28 (zcc iX10_octet_31 (zcc iX10_octet_32 (zcc iX10_octet_35 (zcc iX10_octet_36 (zcc iX10_octet_39 (zcc iX10_octet_40 (zcc iX10_octet_41 (zcc iX10_octet_42 (zcc iX10_octet_45 (zcc iX10_octet_46 zcn))))))))))))))))))))))))))
theorem iX10_sigOf_0 : zSnd zZM zmX10_sigOf 0 (o_aload 0 1) := s_aload_n (k := 0) (by decide +kernel) rfl
theorem iX10_sigOf_1 : zSnd zZM zmX10_sigOf 1 (o_getf zYM 1 55 4) := s_getf zcX9 fX10_218 (by decide +kernel) (by decide +kernel)
theorem iX10_sigOf_4 : zSnd zZM zmX10_sigOf 4 (o_ic 0 5) := s_iconst (i := 0) (by decide +kernel) (by decide +kernel)
theorem iX10_sigOf_5 : zSnd zZM zmX10_sigOf 5 (o_ald zYM .int 6) := s_iald (by decide +kernel)
theorem iX10_sigOf_6 : zSnd zZM zmX10_sigOf 6 (o_istore 2 7) := s_istore_n (k := 2) (by decide +kernel) rfl (by decide +kernel)
theorem iX10_sigOf_7 : zSnd zZM zmX10_sigOf 7 (o_aload 0 8) := s_aload_n (k := 0) (by decide +kernel) rfl
theorem iX10_sigOf_8 : zSnd zZM zmX10_sigOf 8 (o_getf zYM 1 19 11) := s_getf zcX9 fX10_160 (by decide +kernel) (by decide +kernel)
theorem iX10_sigOf_11 : zSnd zZM zmX10_sigOf 11 (o_iload 1 12) := s_iload_n (k := 1) (by decide +kernel) rfl
theorem iX10_sigOf_12 : zSnd zZM zmX10_sigOf 12 (o_iload 2 13) := s_iload_n (k := 2) (by decide +kernel) rfl
theorem iX10_sigOf_13 : zSnd zZM zmX10_sigOf 13 (o_icmp (fun x y => y ≤ x) 30 16) := s_icmp_ge (off := 17) (by decide +kernel) (by decide +kernel)
theorem iX10_sigOf_16 : zSnd zZM zmX10_sigOf 16 (o_aload 0 17) := s_aload_n (k := 0) (by decide +kernel) rfl
theorem iX10_sigOf_17 : zSnd zZM zmX10_sigOf 17 (o_getf zYM 1 25 20) := s_getf zcX9 fX10_314 (by decide +kernel) (by decide +kernel)
theorem iX10_sigOf_20 : zSnd zZM zmX10_sigOf 20 (o_aload 0 21) := s_aload_n (k := 0) (by decide +kernel) rfl
theorem iX10_sigOf_21 : zSnd zZM zmX10_sigOf 21 (o_ic 0 22) := s_iconst (i := 0) (by decide +kernel) (by decide +kernel)
theorem iX10_sigOf_22 : zSnd zZM zmX10_sigOf 22 (o_iload 1 23) := s_iload_n (k := 1) (by decide +kernel) rfl
set_option maxRecDepth 20000 in
theorem iX10_sigOf_23 : zSnd zZM zmX10_sigOf 23 (o_callS zZM zmX10_importOf 3 1 26) := s_callS (idx := 445) calX10_importOf virX10_importOf dscX10_importOf (by decide +kernel) (zWS6 233 rfl rfl) (by decide +kernel)
theorem iX10_sigOf_26 : zSnd zZM zmX10_sigOf 26 (o_lald zYM 27) := s_lald (by decide +kernel)
theorem iX10_sigOf_27 : zSnd zZM zmX10_sigOf 27 (o_goto 38) := s_goto (off := 11) (by decide +kernel) (by decide +kernel)
theorem iX10_sigOf_30 : zSnd zZM zmX10_sigOf 30 (o_aload 0 31) := s_aload_n (k := 0) (by decide +kernel) rfl
theorem iX10_sigOf_31 : zSnd zZM zmX10_sigOf 31 (o_getf zYM 1 31 34) := s_getf zcX9 fX10_163 (by decide +kernel) (by decide +kernel)
theorem iX10_sigOf_34 : zSnd zZM zmX10_sigOf 34 (o_iload 1 35) := s_iload_n (k := 1) (by decide +kernel) rfl
theorem iX10_sigOf_35 : zSnd zZM zmX10_sigOf 35 (o_iload 2 36) := s_iload_n (k := 2) (by decide +kernel) rfl
theorem iX10_sigOf_36 : zSnd zZM zmX10_sigOf 36 (o_ibin (fun x y => x - y) 37) := s_isub (by decide +kernel)
theorem iX10_sigOf_37 : zSnd zZM zmX10_sigOf 37 (o_lald zYM 38) := s_lald (by decide +kernel)
theorem iX10_sigOf_38 : zSnd zZM zmX10_sigOf 38 (o_l2i 39) := s_l2i (by decide +kernel)
theorem iX10_sigOf_39 : zSnd zZM zmX10_sigOf 39 (o_ald zYM .int 40) := s_iald (by decide +kernel)
theorem iX10_sigOf_40 : zSnd zZM zmX10_sigOf 40 (o_iret) := s_iret rfl (by decide +kernel)
def kX10_sigOf : List (Nat × zOp) := [(0, o_aload 0 1),
  (1, o_getf zYM 1 55 4),
  (4, o_ic 0 5),
  (5, o_ald zYM .int 6),
  (6, o_istore 2 7),
  (7, o_aload 0 8),
  (8, o_getf zYM 1 19 11),
  (11, o_iload 1 12),
  (12, o_iload 2 13),
  (13, o_icmp (fun x y => y ≤ x) 30 16),
  (16, o_aload 0 17),
  (17, o_getf zYM 1 25 20),
  (20, o_aload 0 21),
  (21, o_ic 0 22),
  (22, o_iload 1 23),
  (23, o_callS zZM zmX10_importOf 3 1 26),
  (26, o_lald zYM 27),
  (27, o_goto 38),
  (30, o_aload 0 31),
  (31, o_getf zYM 1 31 34),
  (34, o_iload 1 35),
  (35, o_iload 2 36),
  (36, o_ibin (fun x y => x - y) 37),
  (37, o_lald zYM 38),
  (38, o_l2i 39),
  (39, o_ald zYM .int 40),
  (40, o_iret)]
set_option maxRecDepth 100000 in
theorem ksX10_sigOf : ∀ q ∈ kX10_sigOf, zSnd zZM zmX10_sigOf q.1 q.2 := zcc iX10_sigOf_0 (zcc iX10_sigOf_1 (zcc iX10_sigOf_4 (zcc iX10_sigOf_5 (zcc iX10_sigOf_6 (zcc iX10_sigOf_7 (zcc iX10_sigOf_8 (zcc iX10_sigOf_11 (zcc iX10_sigOf_12 (zcc iX10_sigOf_13 (zcc iX10_sigOf_16 (zcc iX10_sigOf_17 (zcc iX10_sigOf_20 (zcc iX10_sigOf_21 (zcc iX10_sigOf_22 (zcc iX10_sigOf_23 (zcc iX10_sigOf_26 (zcc iX10_sigOf_27 (zcc iX10_sigOf_30 (zcc iX10_sigOf_31 (zcc iX10_sigOf_34 (zcc iX10_sigOf_35 (zcc iX10_sigOf_36 (zcc iX10_sigOf_37 (zcc iX10_sigOf_38 (zcc iX10_sigOf_39 (zcc iX10_sigOf_40 zcn))))))))))))))))))))))))))
theorem iX10_turns_0 : zSnd zZM zmX10_turns 0 (o_ic 0 1) := s_iconst (i := 0) (by decide +kernel) (by decide +kernel)
theorem iX10_turns_1 : zSnd zZM zmX10_turns 1 (o_istore 4 3) := s_istore (by decide +kernel) (by decide +kernel)
theorem iX10_turns_3 : zSnd zZM zmX10_turns 3 (o_iload 4 5) := s_iload (by decide +kernel)
theorem iX10_turns_5 : zSnd zZM zmX10_turns 5 (o_iload 2 6) := s_iload_n (k := 2) (by decide +kernel) rfl
theorem iX10_turns_6 : zSnd zZM zmX10_turns 6 (o_icmp (fun x y => y ≤ x) 22 9) := s_icmp_ge (off := 16) (by decide +kernel) (by decide +kernel)
theorem iX10_turns_9 : zSnd zZM zmX10_turns 9 (o_aload 0 10) := s_aload_n (k := 0) (by decide +kernel) rfl
theorem iX10_turns_10 : zSnd zZM zmX10_turns 10 (o_iload 1 11) := s_iload_n (k := 1) (by decide +kernel) rfl
set_option maxRecDepth 20000 in
theorem iX10_turns_11 : zSnd zZM zmX10_turns 11 (o_callV zZM 0 zmX10_takes 1 1 14) := s_callV (idx := 529) zcX10 calX10_takes virX10_takes dscX10_takes (by decide +kernel) (zWS7 60 rfl rfl) (by decide +kernel)
theorem iX10_turns_14 : zSnd zZM zmX10_turns 14 (o_istore 5 16) := s_istore (by decide +kernel) (by decide +kernel)
theorem iX10_turns_16 : zSnd zZM zmX10_turns 16 (o_iinc 4 1 19) := s_iinc (a := 1) (by decide +kernel) (by decide +kernel) (by decide +kernel)
theorem iX10_turns_19 : zSnd zZM zmX10_turns 19 (o_goto 3) := s_goto (off := (-16)) (by decide +kernel) (by decide +kernel)
theorem iX10_turns_22 : zSnd zZM zmX10_turns 22 (o_aload 0 23) := s_aload_n (k := 0) (by decide +kernel) rfl
theorem iX10_turns_23 : zSnd zZM zmX10_turns 23 (o_iload 3 24) := s_iload_n (k := 3) (by decide +kernel) rfl
set_option maxRecDepth 20000 in
theorem iX10_turns_24 : zSnd zZM zmX10_turns 24 (o_callV zZM 0 zmX10_gives 1 0 27) := s_callV (idx := 532) zcX10 calX10_gives virX10_gives dscX10_gives (by decide +kernel) (zWS7 64 rfl rfl) (by decide +kernel)
theorem iX10_turns_27 : zSnd zZM zmX10_turns 27 (o_vret) := s_vret rfl (by decide +kernel)
def kX10_turns : List (Nat × zOp) := [(0, o_ic 0 1),
  (1, o_istore 4 3),
  (3, o_iload 4 5),
  (5, o_iload 2 6),
  (6, o_icmp (fun x y => y ≤ x) 22 9),
  (9, o_aload 0 10),
  (10, o_iload 1 11),
  (11, o_callV zZM 0 zmX10_takes 1 1 14),
  (14, o_istore 5 16),
  (16, o_iinc 4 1 19),
  (19, o_goto 3),
  (22, o_aload 0 23),
  (23, o_iload 3 24),
  (24, o_callV zZM 0 zmX10_gives 1 0 27),
  (27, o_vret)]
set_option maxRecDepth 100000 in
theorem ksX10_turns : ∀ q ∈ kX10_turns, zSnd zZM zmX10_turns q.1 q.2 := zcc iX10_turns_0 (zcc iX10_turns_1 (zcc iX10_turns_3 (zcc iX10_turns_5 (zcc iX10_turns_6 (zcc iX10_turns_9 (zcc iX10_turns_10 (zcc iX10_turns_11 (zcc iX10_turns_14 (zcc iX10_turns_16 (zcc iX10_turns_19 (zcc iX10_turns_22 (zcc iX10_turns_23 (zcc iX10_turns_24 (zcc iX10_turns_27 zcn))))))))))))))
theorem iX10_typeOf_0 : zSnd zZM zmX10_typeOf 0 (o_aload 0 1) := s_aload_n (k := 0) (by decide +kernel) rfl
theorem iX10_typeOf_1 : zSnd zZM zmX10_typeOf 1 (o_getf zYM 1 55 4) := s_getf zcX9 fX10_218 (by decide +kernel) (by decide +kernel)
theorem iX10_typeOf_4 : zSnd zZM zmX10_typeOf 4 (o_ic 3 5) := s_iconst (i := 3) (by decide +kernel) (by decide +kernel)
theorem iX10_typeOf_5 : zSnd zZM zmX10_typeOf 5 (o_ald zYM .int 6) := s_iald (by decide +kernel)
theorem iX10_typeOf_6 : zSnd zZM zmX10_typeOf 6 (o_istore 2 7) := s_istore_n (k := 2) (by decide +kernel) rfl (by decide +kernel)
theorem iX10_typeOf_7 : zSnd zZM zmX10_typeOf 7 (o_iload 1 8) := s_iload_n (k := 1) (by decide +kernel) rfl
theorem iX10_typeOf_8 : zSnd zZM zmX10_typeOf 8 (o_iload 2 9) := s_iload_n (k := 2) (by decide +kernel) rfl
theorem iX10_typeOf_9 : zSnd zZM zmX10_typeOf 9 (o_icmp (fun x y => y ≤ x) 27 12) := s_icmp_ge (off := 18) (by decide +kernel) (by decide +kernel)
theorem iX10_typeOf_12 : zSnd zZM zmX10_typeOf 12 (o_aload 0 13) := s_aload_n (k := 0) (by decide +kernel) rfl
theorem iX10_typeOf_13 : zSnd zZM zmX10_typeOf 13 (o_getf zYM 1 25 16) := s_getf zcX9 fX10_314 (by decide +kernel) (by decide +kernel)
theorem iX10_typeOf_16 : zSnd zZM zmX10_typeOf 16 (o_aload 0 17) := s_aload_n (k := 0) (by decide +kernel) rfl
theorem iX10_typeOf_17 : zSnd zZM zmX10_typeOf 17 (o_ic 3 18) := s_iconst (i := 3) (by decide +kernel) (by decide +kernel)
theorem iX10_typeOf_18 : zSnd zZM zmX10_typeOf 18 (o_iload 1 19) := s_iload_n (k := 1) (by decide +kernel) rfl
set_option maxRecDepth 20000 in
theorem iX10_typeOf_19 : zSnd zZM zmX10_typeOf 19 (o_callS zZM zmX10_importOf 3 1 22) := s_callS (idx := 445) calX10_importOf virX10_importOf dscX10_importOf (by decide +kernel) (zWS6 233 rfl rfl) (by decide +kernel)
theorem iX10_typeOf_22 : zSnd zZM zmX10_typeOf 22 (o_lald zYM 23) := s_lald (by decide +kernel)
theorem iX10_typeOf_23 : zSnd zZM zmX10_typeOf 23 (o_l2i 24) := s_l2i (by decide +kernel)
theorem iX10_typeOf_24 : zSnd zZM zmX10_typeOf 24 (o_goto 35) := s_goto (off := 11) (by decide +kernel) (by decide +kernel)
theorem iX10_typeOf_27 : zSnd zZM zmX10_typeOf 27 (o_aload 0 28) := s_aload_n (k := 0) (by decide +kernel) rfl
theorem iX10_typeOf_28 : zSnd zZM zmX10_typeOf 28 (o_getf zYM 1 33 31) := s_getf zcX9 fX10_349 (by decide +kernel) (by decide +kernel)
theorem iX10_typeOf_31 : zSnd zZM zmX10_typeOf 31 (o_iload 1 32) := s_iload_n (k := 1) (by decide +kernel) rfl
theorem iX10_typeOf_32 : zSnd zZM zmX10_typeOf 32 (o_iload 2 33) := s_iload_n (k := 2) (by decide +kernel) rfl
theorem iX10_typeOf_33 : zSnd zZM zmX10_typeOf 33 (o_ibin (fun x y => x - y) 34) := s_isub (by decide +kernel)
theorem iX10_typeOf_34 : zSnd zZM zmX10_typeOf 34 (o_ald zYM .int 35) := s_iald (by decide +kernel)
theorem iX10_typeOf_35 : zSnd zZM zmX10_typeOf 35 (o_iret) := s_iret rfl (by decide +kernel)
def kX10_typeOf : List (Nat × zOp) := [(0, o_aload 0 1),
  (1, o_getf zYM 1 55 4),
  (4, o_ic 3 5),
  (5, o_ald zYM .int 6),
  (6, o_istore 2 7),
  (7, o_iload 1 8),
  (8, o_iload 2 9),
  (9, o_icmp (fun x y => y ≤ x) 27 12),
  (12, o_aload 0 13),
  (13, o_getf zYM 1 25 16),
  (16, o_aload 0 17),
  (17, o_ic 3 18),
  (18, o_iload 1 19),
  (19, o_callS zZM zmX10_importOf 3 1 22),
  (22, o_lald zYM 23),
  (23, o_l2i 24),
  (24, o_goto 35),
  (27, o_aload 0 28),
  (28, o_getf zYM 1 33 31),
  (31, o_iload 1 32),
  (32, o_iload 2 33),
  (33, o_ibin (fun x y => x - y) 34),
  (34, o_ald zYM .int 35),
  (35, o_iret)]
set_option maxRecDepth 100000 in
theorem ksX10_typeOf : ∀ q ∈ kX10_typeOf, zSnd zZM zmX10_typeOf q.1 q.2 := zcc iX10_typeOf_0 (zcc iX10_typeOf_1 (zcc iX10_typeOf_4 (zcc iX10_typeOf_5 (zcc iX10_typeOf_6 (zcc iX10_typeOf_7 (zcc iX10_typeOf_8 (zcc iX10_typeOf_9 (zcc iX10_typeOf_12 (zcc iX10_typeOf_13 (zcc iX10_typeOf_16 (zcc iX10_typeOf_17 (zcc iX10_typeOf_18 (zcc iX10_typeOf_19 (zcc iX10_typeOf_22 (zcc iX10_typeOf_23 (zcc iX10_typeOf_24 (zcc iX10_typeOf_27 (zcc iX10_typeOf_28 (zcc iX10_typeOf_31 (zcc iX10_typeOf_32 (zcc iX10_typeOf_33 (zcc iX10_typeOf_34 (zcc iX10_typeOf_35 zcn)))))))))))))))))))))))
theorem iX10_blockType_0 : zSnd zZM zmX10_blockType 0 (o_aload 0 1) := s_aload_n (k := 0) (by decide +kernel) rfl
theorem iX10_blockType_1 : zSnd zZM zmX10_blockType 1 (o_getf zYM 0 12 4) := s_getf zcX10 fX10_127 (by decide +kernel) (by decide +kernel)
theorem iX10_blockType_4 : zSnd zZM zmX10_blockType 4 (o_istore 1 5) := s_istore_n (k := 1) (by decide +kernel) rfl (by decide +kernel)
theorem iX10_blockType_5 : zSnd zZM zmX10_blockType 5 (o_aload 0 6) := s_aload_n (k := 0) (by decide +kernel) rfl
set_option maxRecDepth 20000 in
theorem iX10_blockType_6 : zSnd zZM zmX10_blockType 6 (o_callV zZM 0 zmX10_octet 0 1 9) := s_callV (idx := 140) zcX10 calX10_octet virX10_octet dscX10_octet (by decide +kernel) (zWS6 45 rfl rfl) (by decide +kernel)
theorem iX10_blockType_9 : zSnd zZM zmX10_blockType 9 (o_istore 2 10) := s_istore_n (k := 2) (by decide +kernel) rfl (by decide +kernel)
theorem iX10_blockType_10 : zSnd zZM zmX10_blockType 10 (o_iload 2 11) := s_iload_n (k := 2) (by decide +kernel) rfl
theorem iX10_blockType_11 : zSnd zZM zmX10_blockType 11 (o_ic 64 13) := s_bipush (i := 64) (by decide +kernel) (by decide +kernel)
theorem iX10_blockType_13 : zSnd zZM zmX10_blockType 13 (o_icmp (fun x y => x = y) 35 16) := s_icmp_eq (off := 22) (by decide +kernel) (by decide +kernel)
theorem iX10_blockType_16 : zSnd zZM zmX10_blockType 16 (o_iload 2 17) := s_iload_n (k := 2) (by decide +kernel) rfl
theorem iX10_blockType_17 : zSnd zZM zmX10_blockType 17 (o_ic 127 19) := s_bipush (i := 127) (by decide +kernel) (by decide +kernel)
theorem iX10_blockType_19 : zSnd zZM zmX10_blockType 19 (o_icmp (fun x y => x = y) 35 22) := s_icmp_eq (off := 16) (by decide +kernel) (by decide +kernel)
theorem iX10_blockType_22 : zSnd zZM zmX10_blockType 22 (o_iload 2 23) := s_iload_n (k := 2) (by decide +kernel) rfl
theorem iX10_blockType_23 : zSnd zZM zmX10_blockType 23 (o_ic 126 25) := s_bipush (i := 126) (by decide +kernel) (by decide +kernel)
theorem iX10_blockType_25 : zSnd zZM zmX10_blockType 25 (o_icmp (fun x y => x = y) 35 28) := s_icmp_eq (off := 10) (by decide +kernel) (by decide +kernel)
theorem iX10_blockType_28 : zSnd zZM zmX10_blockType 28 (o_aload 0 29) := s_aload_n (k := 0) (by decide +kernel) rfl
theorem iX10_blockType_29 : zSnd zZM zmX10_blockType 29 (o_ic 1 30) := s_iconst (i := 1) (by decide +kernel) (by decide +kernel)
theorem iX10_blockType_30 : zSnd zZM zmX10_blockType 30 (o_iload 1 31) := s_iload_n (k := 1) (by decide +kernel) rfl
set_option maxRecDepth 20000 in
theorem iX10_blockType_31 : zSnd zZM zmX10_blockType 31 (o_callV zZM 0 zmX10_wrong 2 3 34) := s_callV (idx := 176) zcX10 calX10_wrong virX10_wrong dscX10_wrong (by decide +kernel) (zWS6 49 rfl rfl) (by decide +kernel)
theorem iX10_blockType_34 : zSnd zZM zmX10_blockType 34 (o_athrow zYM 2) := s_athrow (T := TIse) (N := 0) rfl (by decide +kernel)
theorem iX10_blockType_35 : zSnd zZM zmX10_blockType 35 (o_iload 2 36) := s_iload_n (k := 2) (by decide +kernel) rfl
theorem iX10_blockType_36 : zSnd zZM zmX10_blockType 36 (o_ic 64 38) := s_bipush (i := 64) (by decide +kernel) (by decide +kernel)
theorem iX10_blockType_38 : zSnd zZM zmX10_blockType 38 (o_icmp (fun x y => x = y) 41 45) := s_icmp_ne (off := 7) (by decide +kernel) (by decide +kernel)
theorem iX10_blockType_41 : zSnd zZM zmX10_blockType 41 (o_ic 2 42) := s_iconst (i := 2) (by decide +kernel) (by decide +kernel)
theorem iX10_blockType_42 : zSnd zZM zmX10_blockType 42 (o_goto 49) := s_goto (off := 7) (by decide +kernel) (by decide +kernel)
theorem iX10_blockType_45 : zSnd zZM zmX10_blockType 45 (o_ic 127 47) := s_bipush (i := 127) (by decide +kernel) (by decide +kernel)
theorem iX10_blockType_47 : zSnd zZM zmX10_blockType 47 (o_iload 2 48) := s_iload_n (k := 2) (by decide +kernel) rfl
theorem iX10_blockType_48 : zSnd zZM zmX10_blockType 48 (o_ibin (fun x y => x - y) 49) := s_isub (by decide +kernel)
theorem iX10_blockType_49 : zSnd zZM zmX10_blockType 49 (o_iret) := s_iret rfl (by decide +kernel)
def kX10_blockType : List (Nat × zOp) := [(0, o_aload 0 1),
  (1, o_getf zYM 0 12 4),
  (4, o_istore 1 5),
  (5, o_aload 0 6),
  (6, o_callV zZM 0 zmX10_octet 0 1 9),
  (9, o_istore 2 10),
  (10, o_iload 2 11),
  (11, o_ic 64 13),
  (13, o_icmp (fun x y => x = y) 35 16),
  (16, o_iload 2 17),
  (17, o_ic 127 19),
  (19, o_icmp (fun x y => x = y) 35 22),
  (22, o_iload 2 23),
  (23, o_ic 126 25),
  (25, o_icmp (fun x y => x = y) 35 28),
  (28, o_aload 0 29),
  (29, o_ic 1 30),
  (30, o_iload 1 31),
  (31, o_callV zZM 0 zmX10_wrong 2 3 34),
  (34, o_athrow zYM 2),
  (35, o_iload 2 36),
  (36, o_ic 64 38),
  (38, o_icmp (fun x y => x = y) 41 45),
  (41, o_ic 2 42),
  (42, o_goto 49),
  (45, o_ic 127 47),
  (47, o_iload 2 48),
  (48, o_ibin (fun x y => x - y) 49),
  (49, o_iret)]
set_option maxRecDepth 100000 in
theorem ksX10_blockType : ∀ q ∈ kX10_blockType, zSnd zZM zmX10_blockType q.1 q.2 := zcc iX10_blockType_0 (zcc iX10_blockType_1 (zcc iX10_blockType_4 (zcc iX10_blockType_5 (zcc iX10_blockType_6 (zcc iX10_blockType_9 (zcc iX10_blockType_10 (zcc iX10_blockType_11 (zcc iX10_blockType_13 (zcc iX10_blockType_16 (zcc iX10_blockType_17 (zcc iX10_blockType_19 (zcc iX10_blockType_22 (zcc iX10_blockType_23 (zcc iX10_blockType_25 (zcc iX10_blockType_28 (zcc iX10_blockType_29 (zcc iX10_blockType_30 (zcc iX10_blockType_31 (zcc iX10_blockType_34 (zcc iX10_blockType_35 (zcc iX10_blockType_36 (zcc iX10_blockType_38 (zcc iX10_blockType_41 (zcc iX10_blockType_42 (zcc iX10_blockType_45 (zcc iX10_blockType_47 (zcc iX10_blockType_48 (zcc iX10_blockType_49 zcn))))))))))))))))))))))))))))
theorem iX10_exported_0 : zSnd zZM zmX10_exported 0 (o_aload 1 1) := s_aload_n (k := 1) (by decide +kernel) rfl
theorem iX10_exported_1 : zSnd zZM zmX10_exported 1 (o_getf zYM 1 39 4) := s_getf zcX9 fX10_370 (by decide +kernel) (by decide +kernel)
theorem iX10_exported_4 : zSnd zZM zmX10_exported 4 (o_iload 2 5) := s_iload_n (k := 2) (by decide +kernel) rfl
theorem iX10_exported_5 : zSnd zZM zmX10_exported 5 (o_ald zYM .int 6) := s_iald (by decide +kernel)
theorem iX10_exported_6 : zSnd zZM zmX10_exported 6 (o_istore 3 7) := s_istore_n (k := 3) (by decide +kernel) rfl (by decide +kernel)
theorem iX10_exported_7 : zSnd zZM zmX10_exported 7 (o_iload 3 8) := s_iload_n (k := 3) (by decide +kernel) rfl
theorem iX10_exported_8 : zSnd zZM zmX10_exported 8 (o_if0 (fun x => x = 0) 11 18) := s_if_ne (off := 10) (by decide +kernel) (by decide +kernel)
theorem iX10_exported_11 : zSnd zZM zmX10_exported 11 (o_aload 1 12) := s_aload_n (k := 1) (by decide +kernel) rfl
set_option maxRecDepth 20000 in
theorem iX10_exported_12 : zSnd zZM zmX10_exported 12 (o_callS zZM zmX10_functionsOf 1 1 15) := s_callS (idx := 470) calX10_functionsOf virX10_functionsOf dscX10_functionsOf (by decide +kernel) (zWS7 10 rfl rfl) (by decide +kernel)
theorem iX10_exported_15 : zSnd zZM zmX10_exported 15 (o_goto 43) := s_goto (off := 28) (by decide +kernel) (by decide +kernel)
theorem iX10_exported_18 : zSnd zZM zmX10_exported 18 (o_iload 3 19) := s_iload_n (k := 3) (by decide +kernel) rfl
theorem iX10_exported_19 : zSnd zZM zmX10_exported 19 (o_ic 3 20) := s_iconst (i := 3) (by decide +kernel) (by decide +kernel)
theorem iX10_exported_20 : zSnd zZM zmX10_exported 20 (o_icmp (fun x y => x = y) 23 30) := s_icmp_ne (off := 10) (by decide +kernel) (by decide +kernel)
theorem iX10_exported_23 : zSnd zZM zmX10_exported 23 (o_aload 1 24) := s_aload_n (k := 1) (by decide +kernel) rfl
set_option maxRecDepth 20000 in
theorem iX10_exported_24 : zSnd zZM zmX10_exported 24 (o_callS zZM zmX10_globalsOf 1 1 27) := s_callS (idx := 497) calX10_globalsOf virX10_globalsOf dscX10_globalsOf (by decide +kernel) (zWS7 13 rfl rfl) (by decide +kernel)
theorem iX10_exported_27 : zSnd zZM zmX10_exported 27 (o_goto 43) := s_goto (off := 16) (by decide +kernel) (by decide +kernel)
theorem iX10_exported_30 : zSnd zZM zmX10_exported 30 (o_aload 1 31) := s_aload_n (k := 1) (by decide +kernel) rfl
theorem iX10_exported_31 : zSnd zZM zmX10_exported 31 (o_iload 3 32) := s_iload_n (k := 3) (by decide +kernel) rfl
set_option maxRecDepth 20000 in
theorem iX10_exported_32 : zSnd zZM zmX10_exported 32 (o_callV zZM 1 zmX9_has 1 1 35) := s_callV (idx := 484) zcX9 calX9_has virX9_has dscX9_has (by decide +kernel) (zWS7 16 rfl rfl) (by decide +kernel)
theorem iX10_exported_35 : zSnd zZM zmX10_exported 35 (o_if0 (fun x => x = 0) 42 38) := s_if_eq (off := 7) (by decide +kernel) (by decide +kernel)
theorem iX10_exported_38 : zSnd zZM zmX10_exported 38 (o_ic 1 39) := s_iconst (i := 1) (by decide +kernel) (by decide +kernel)
theorem iX10_exported_39 : zSnd zZM zmX10_exported 39 (o_goto 43) := s_goto (off := 4) (by decide +kernel) (by decide +kernel)
theorem iX10_exported_42 : zSnd zZM zmX10_exported 42 (o_ic 0 43) := s_iconst (i := 0) (by decide +kernel) (by decide +kernel)
theorem iX10_exported_43 : zSnd zZM zmX10_exported 43 (o_istore 4 45) := s_istore (by decide +kernel) (by decide +kernel)
theorem iX10_exported_45 : zSnd zZM zmX10_exported 45 (o_aload 0 46) := s_aload_n (k := 0) (by decide +kernel) rfl
theorem iX10_exported_46 : zSnd zZM zmX10_exported 46 (o_aload 1 47) := s_aload_n (k := 1) (by decide +kernel) rfl
theorem iX10_exported_47 : zSnd zZM zmX10_exported 47 (o_getf zYM 1 40 50) := s_getf zcX9 fX10_376 (by decide +kernel) (by decide +kernel)
theorem iX10_exported_50 : zSnd zZM zmX10_exported 50 (o_iload 2 51) := s_iload_n (k := 2) (by decide +kernel) rfl
theorem iX10_exported_51 : zSnd zZM zmX10_exported 51 (o_lald zYM 52) := s_lald (by decide +kernel)
theorem iX10_exported_52 : zSnd zZM zmX10_exported 52 (o_iload 4 54) := s_iload (by decide +kernel)
theorem iX10_exported_54 : zSnd zZM zmX10_exported 54 (o_i2l 55) := s_i2l (by decide +kernel)
theorem iX10_exported_55 : zSnd zZM zmX10_exported 55 (o_lif (fun x y => y ≤ x) 63 59) := s_lge (off := 7) (by decide +kernel) (by decide +kernel) (by decide +kernel)
theorem iX10_exported_59 : zSnd zZM zmX10_exported 59 (o_ic 1 60) := s_iconst (i := 1) (by decide +kernel) (by decide +kernel)
theorem iX10_exported_60 : zSnd zZM zmX10_exported 60 (o_goto 64) := s_goto (off := 4) (by decide +kernel) (by decide +kernel)
theorem iX10_exported_63 : zSnd zZM zmX10_exported 63 (o_ic 0 64) := s_iconst (i := 0) (by decide +kernel) (by decide +kernel)
theorem iX10_exported_64 : zSnd zZM zmX10_exported 64 (o_aload 1 65) := s_aload_n (k := 1) (by decide +kernel) rfl
theorem iX10_exported_65 : zSnd zZM zmX10_exported 65 (o_getf zYM 1 41 68) := s_getf zcX9 fX10_373 (by decide +kernel) (by decide +kernel)
theorem iX10_exported_68 : zSnd zZM zmX10_exported 68 (o_iload 2 69) := s_iload_n (k := 2) (by decide +kernel) rfl
theorem iX10_exported_69 : zSnd zZM zmX10_exported 69 (o_ald zYM .int 70) := s_iald (by decide +kernel)
set_option maxRecDepth 20000 in
theorem iX10_exported_70 : zSnd zZM zmX10_exported 70 (o_callV zZM 0 zmX10_must 2 0 73) := s_callV (idx := 451) zcX10 calX10_must virX10_must dscX10_must (by decide +kernel) (zWS6 221 rfl rfl) (by decide +kernel)
theorem iX10_exported_73 : zSnd zZM zmX10_exported 73 (o_ic 0 74) := s_iconst (i := 0) (by decide +kernel) (by decide +kernel)
theorem iX10_exported_74 : zSnd zZM zmX10_exported 74 (o_istore 5 76) := s_istore (by decide +kernel) (by decide +kernel)
theorem iX10_exported_76 : zSnd zZM zmX10_exported 76 (o_iload 5 78) := s_iload (by decide +kernel)
theorem iX10_exported_78 : zSnd zZM zmX10_exported 78 (o_iload 2 79) := s_iload_n (k := 2) (by decide +kernel) rfl
theorem iX10_exported_79 : zSnd zZM zmX10_exported 79 (o_icmp (fun x y => y ≤ x) 136 82) := s_icmp_ge (off := 57) (by decide +kernel) (by decide +kernel)
theorem iX10_exported_82 : zSnd zZM zmX10_exported 82 (o_aload 0 83) := s_aload_n (k := 0) (by decide +kernel) rfl
theorem iX10_exported_83 : zSnd zZM zmX10_exported 83 (o_aload 0 84) := s_aload_n (k := 0) (by decide +kernel) rfl
theorem iX10_exported_84 : zSnd zZM zmX10_exported 84 (o_aload 1 85) := s_aload_n (k := 1) (by decide +kernel) rfl
theorem iX10_exported_85 : zSnd zZM zmX10_exported 85 (o_getf zYM 1 36 88) := s_getf zcX9 fX10_364 (by decide +kernel) (by decide +kernel)
theorem iX10_exported_88 : zSnd zZM zmX10_exported 88 (o_iload 5 90) := s_iload (by decide +kernel)
theorem iX10_exported_90 : zSnd zZM zmX10_exported 90 (o_ald zYM .int 91) := s_iald (by decide +kernel)
theorem iX10_exported_91 : zSnd zZM zmX10_exported 91 (o_aload 1 92) := s_aload_n (k := 1) (by decide +kernel) rfl
theorem iX10_exported_92 : zSnd zZM zmX10_exported 92 (o_getf zYM 1 37 95) := s_getf zcX9 fX10_367 (by decide +kernel) (by decide +kernel)
theorem iX10_exported_95 : zSnd zZM zmX10_exported 95 (o_iload 5 97) := s_iload (by decide +kernel)
theorem iX10_exported_97 : zSnd zZM zmX10_exported 97 (o_ald zYM .int 98) := s_iald (by decide +kernel)
theorem iX10_exported_98 : zSnd zZM zmX10_exported 98 (o_aload 1 99) := s_aload_n (k := 1) (by decide +kernel) rfl
theorem iX10_exported_99 : zSnd zZM zmX10_exported 99 (o_getf zYM 1 36 102) := s_getf zcX9 fX10_364 (by decide +kernel) (by decide +kernel)
theorem iX10_exported_102 : zSnd zZM zmX10_exported 102 (o_iload 2 103) := s_iload_n (k := 2) (by decide +kernel) rfl
theorem iX10_exported_103 : zSnd zZM zmX10_exported 103 (o_ald zYM .int 104) := s_iald (by decide +kernel)
theorem iX10_exported_104 : zSnd zZM zmX10_exported 104 (o_aload 1 105) := s_aload_n (k := 1) (by decide +kernel) rfl
theorem iX10_exported_105 : zSnd zZM zmX10_exported 105 (o_getf zYM 1 37 108) := s_getf zcX9 fX10_367 (by decide +kernel) (by decide +kernel)
theorem iX10_exported_108 : zSnd zZM zmX10_exported 108 (o_iload 2 109) := s_iload_n (k := 2) (by decide +kernel) rfl
theorem iX10_exported_109 : zSnd zZM zmX10_exported 109 (o_ald zYM .int 110) := s_iald (by decide +kernel)
set_option maxRecDepth 20000 in
theorem iX10_exported_110 : zSnd zZM zmX10_exported 110 (o_callV zZM 0 zmX10_isSame 4 1 113) := s_callV (idx := 500) zcX10 calX10_isSame virX10_isSame dscX10_isSame (by decide +kernel) (zWS7 20 rfl rfl) (by decide +kernel)
theorem iX10_exported_113 : zSnd zZM zmX10_exported 113 (o_if0 (fun x => x = 0) 116 120) := s_if_ne (off := 7) (by decide +kernel) (by decide +kernel)
theorem iX10_exported_116 : zSnd zZM zmX10_exported 116 (o_ic 1 117) := s_iconst (i := 1) (by decide +kernel) (by decide +kernel)
theorem iX10_exported_117 : zSnd zZM zmX10_exported 117 (o_goto 121) := s_goto (off := 4) (by decide +kernel) (by decide +kernel)
theorem iX10_exported_120 : zSnd zZM zmX10_exported 120 (o_ic 0 121) := s_iconst (i := 0) (by decide +kernel) (by decide +kernel)
theorem iX10_exported_121 : zSnd zZM zmX10_exported 121 (o_aload 1 122) := s_aload_n (k := 1) (by decide +kernel) rfl
theorem iX10_exported_122 : zSnd zZM zmX10_exported 122 (o_getf zYM 1 38 125) := s_getf zcX9 fX10_361 (by decide +kernel) (by decide +kernel)
theorem iX10_exported_125 : zSnd zZM zmX10_exported 125 (o_iload 2 126) := s_iload_n (k := 2) (by decide +kernel) rfl
theorem iX10_exported_126 : zSnd zZM zmX10_exported 126 (o_ald zYM .int 127) := s_iald (by decide +kernel)
set_option maxRecDepth 20000 in
theorem iX10_exported_127 : zSnd zZM zmX10_exported 127 (o_callV zZM 0 zmX10_must 2 0 130) := s_callV (idx := 451) zcX10 calX10_must virX10_must dscX10_must (by decide +kernel) (zWS6 221 rfl rfl) (by decide +kernel)
theorem iX10_exported_130 : zSnd zZM zmX10_exported 130 (o_iinc 5 1 133) := s_iinc (a := 1) (by decide +kernel) (by decide +kernel) (by decide +kernel)
theorem iX10_exported_133 : zSnd zZM zmX10_exported 133 (o_goto 76) := s_goto (off := (-57)) (by decide +kernel) (by decide +kernel)
theorem iX10_exported_136 : zSnd zZM zmX10_exported 136 (o_vret) := s_vret rfl (by decide +kernel)
def kX10_exported : List (Nat × zOp) := [(0, o_aload 1 1),
  (1, o_getf zYM 1 39 4),
  (4, o_iload 2 5),
  (5, o_ald zYM .int 6),
  (6, o_istore 3 7),
  (7, o_iload 3 8),
  (8, o_if0 (fun x => x = 0) 11 18),
  (11, o_aload 1 12),
  (12, o_callS zZM zmX10_functionsOf 1 1 15),
  (15, o_goto 43),
  (18, o_iload 3 19),
  (19, o_ic 3 20),
  (20, o_icmp (fun x y => x = y) 23 30),
  (23, o_aload 1 24),
  (24, o_callS zZM zmX10_globalsOf 1 1 27),
  (27, o_goto 43),
  (30, o_aload 1 31),
  (31, o_iload 3 32),
  (32, o_callV zZM 1 zmX9_has 1 1 35),
  (35, o_if0 (fun x => x = 0) 42 38),
  (38, o_ic 1 39),
  (39, o_goto 43),
  (42, o_ic 0 43),
  (43, o_istore 4 45),
  (45, o_aload 0 46),
  (46, o_aload 1 47),
  (47, o_getf zYM 1 40 50),
  (50, o_iload 2 51),
  (51, o_lald zYM 52),
  (52, o_iload 4 54),
  (54, o_i2l 55),
  (55, o_lif (fun x y => y ≤ x) 63 59),
  (59, o_ic 1 60),
  (60, o_goto 64),
  (63, o_ic 0 64),
  (64, o_aload 1 65),
  (65, o_getf zYM 1 41 68),
  (68, o_iload 2 69),
  (69, o_ald zYM .int 70),
  (70, o_callV zZM 0 zmX10_must 2 0 73),
  (73, o_ic 0 74),
  (74, o_istore 5 76),
  (76, o_iload 5 78),
  (78, o_iload 2 79),
  (79, o_icmp (fun x y => y ≤ x) 136 82),
  (82, o_aload 0 83),
  (83, o_aload 0 84),
  (84, o_aload 1 85),
  (85, o_getf zYM 1 36 88),
  (88, o_iload 5 90),
  (90, o_ald zYM .int 91),
  (91, o_aload 1 92),
  (92, o_getf zYM 1 37 95),
  (95, o_iload 5 97),
  (97, o_ald zYM .int 98),
  (98, o_aload 1 99),
  (99, o_getf zYM 1 36 102),
  (102, o_iload 2 103),
  (103, o_ald zYM .int 104),
  (104, o_aload 1 105),
  (105, o_getf zYM 1 37 108),
  (108, o_iload 2 109),
  (109, o_ald zYM .int 110),
  (110, o_callV zZM 0 zmX10_isSame 4 1 113),
  (113, o_if0 (fun x => x = 0) 116 120),
  (116, o_ic 1 117),
  (117, o_goto 121),
  (120, o_ic 0 121),
  (121, o_aload 1 122),
  (122, o_getf zYM 1 38 125),
  (125, o_iload 2 126),
  (126, o_ald zYM .int 127),
  (127, o_callV zZM 0 zmX10_must 2 0 130),
  (130, o_iinc 5 1 133),
  (133, o_goto 76),
  (136, o_vret)]
set_option maxRecDepth 100000 in
theorem ksX10_exported : ∀ q ∈ kX10_exported, zSnd zZM zmX10_exported q.1 q.2 := zcc iX10_exported_0 (zcc iX10_exported_1 (zcc iX10_exported_4 (zcc iX10_exported_5 (zcc iX10_exported_6 (zcc iX10_exported_7 (zcc iX10_exported_8 (zcc iX10_exported_11 (zcc iX10_exported_12 (zcc iX10_exported_15 (zcc iX10_exported_18 (zcc iX10_exported_19 (zcc iX10_exported_20 (zcc iX10_exported_23 (zcc iX10_exported_24 (zcc iX10_exported_27 (zcc iX10_exported_30 (zcc iX10_exported_31 (zcc iX10_exported_32 (zcc iX10_exported_35 (zcc iX10_exported_38 (zcc iX10_exported_39 (zcc iX10_exported_42 (zcc iX10_exported_43 (zcc iX10_exported_45 (zcc iX10_exported_46 (zcc iX10_exported_47 (zcc iX10_exported_50 (zcc iX10_exported_51 (zcc iX10_exported_52 (zcc iX10_exported_54 (zcc iX10_exported_55 (zcc iX10_exported_59 (zcc iX10_exported_60 (zcc iX10_exported_63 (zcc iX10_exported_64 (zcc iX10_exported_65 (zcc iX10_exported_68 (zcc iX10_exported_69 (zcc iX10_exported_70 (zcc iX10_exported_73 (zcc iX10_exported_74 (zcc iX10_exported_76 (zcc iX10_exported_78 (zcc iX10_exported_79 (zcc iX10_exported_82 (zcc iX10_exported_83 (zcc iX10_exported_84 (zcc iX10_exported_85 (zcc iX10_exported_88 (zcc iX10_exported_90 (zcc iX10_exported_91 (zcc iX10_exported_92 (zcc iX10_exported_95 (zcc iX10_exported_97 (zcc iX10_exported_98 (zcc iX10_exported_99 (zcc iX10_exported_102 (zcc iX10_exported_103 (zcc iX10_exported_104 (zcc iX10_exported_105 (zcc iX10_exported_108 (zcc iX10_exported_109 (zcc iX10_exported_110 (zcc iX10_exported_113 (zcc iX10_exported_116 (zcc iX10_exported_117 (zcc iX10_exported_120 (zcc iX10_exported_121 (zcc iX10_exported_122 (zcc iX10_exported_125 (zcc iX10_exported_126 (zcc iX10_exported_127 (zcc iX10_exported_130 (zcc iX10_exported_133 (zcc iX10_exported_136 zcn)))))))))))))))))))))))))))))))))))))))))))))))))))))))))))))))))))))))))))
theorem iX10_flag_0 : zSnd zZM zmX10_flag 0 (o_aload 0 1) := s_aload_n (k := 0) (by decide +kernel) rfl
theorem iX10_flag_1 : zSnd zZM zmX10_flag 1 (o_getf zYM 0 12 4) := s_getf zcX10 fX10_127 (by decide +kernel) (by decide +kernel)
theorem iX10_flag_4 : zSnd zZM zmX10_flag 4 (o_istore 1 5) := s_istore_n (k := 1) (by decide +kernel) rfl (by decide +kernel)
theorem iX10_flag_5 : zSnd zZM zmX10_flag 5 (o_aload 0 6) := s_aload_n (k := 0) (by decide +kernel) rfl
set_option maxRecDepth 20000 in
theorem iX10_flag_6 : zSnd zZM zmX10_flag 6 (o_callV zZM 0 zmX10_octet 0 1 9) := s_callV (idx := 140) zcX10 calX10_octet virX10_octet dscX10_octet (by decide +kernel) (zWS6 45 rfl rfl) (by decide +kernel)
theorem iX10_flag_9 : zSnd zZM zmX10_flag 9 (o_istore 2 10) := s_istore_n (k := 2) (by decide +kernel) rfl (by decide +kernel)
theorem iX10_flag_10 : zSnd zZM zmX10_flag 10 (o_iload 2 11) := s_iload_n (k := 2) (by decide +kernel) rfl
theorem iX10_flag_11 : zSnd zZM zmX10_flag 11 (o_ic 1 12) := s_iconst (i := 1) (by decide +kernel) (by decide +kernel)
theorem iX10_flag_12 : zSnd zZM zmX10_flag 12 (o_icmp (fun x y => x ≤ y) 22 15) := s_icmp_le (off := 10) (by decide +kernel) (by decide +kernel)
theorem iX10_flag_15 : zSnd zZM zmX10_flag 15 (o_aload 0 16) := s_aload_n (k := 0) (by decide +kernel) rfl
theorem iX10_flag_16 : zSnd zZM zmX10_flag 16 (o_ic 1 17) := s_iconst (i := 1) (by decide +kernel) (by decide +kernel)
theorem iX10_flag_17 : zSnd zZM zmX10_flag 17 (o_iload 1 18) := s_iload_n (k := 1) (by decide +kernel) rfl
set_option maxRecDepth 20000 in
theorem iX10_flag_18 : zSnd zZM zmX10_flag 18 (o_callV zZM 0 zmX10_wrong 2 3 21) := s_callV (idx := 176) zcX10 calX10_wrong virX10_wrong dscX10_wrong (by decide +kernel) (zWS6 49 rfl rfl) (by decide +kernel)
theorem iX10_flag_21 : zSnd zZM zmX10_flag 21 (o_athrow zYM 2) := s_athrow (T := TIse) (N := 0) rfl (by decide +kernel)
theorem iX10_flag_22 : zSnd zZM zmX10_flag 22 (o_iload 2 23) := s_iload_n (k := 2) (by decide +kernel) rfl
theorem iX10_flag_23 : zSnd zZM zmX10_flag 23 (o_ic 1 24) := s_iconst (i := 1) (by decide +kernel) (by decide +kernel)
theorem iX10_flag_24 : zSnd zZM zmX10_flag 24 (o_icmp (fun x y => x = y) 27 31) := s_icmp_ne (off := 7) (by decide +kernel) (by decide +kernel)
theorem iX10_flag_27 : zSnd zZM zmX10_flag 27 (o_ic 1 28) := s_iconst (i := 1) (by decide +kernel) (by decide +kernel)
theorem iX10_flag_28 : zSnd zZM zmX10_flag 28 (o_goto 32) := s_goto (off := 4) (by decide +kernel) (by decide +kernel)
theorem iX10_flag_31 : zSnd zZM zmX10_flag 31 (o_ic 0 32) := s_iconst (i := 0) (by decide +kernel) (by decide +kernel)
theorem iX10_flag_32 : zSnd zZM zmX10_flag 32 (o_zret) := s_zret rfl (by decide +kernel)
def kX10_flag : List (Nat × zOp) := [(0, o_aload 0 1),
  (1, o_getf zYM 0 12 4),
  (4, o_istore 1 5),
  (5, o_aload 0 6),
  (6, o_callV zZM 0 zmX10_octet 0 1 9),
  (9, o_istore 2 10),
  (10, o_iload 2 11),
  (11, o_ic 1 12),
  (12, o_icmp (fun x y => x ≤ y) 22 15),
  (15, o_aload 0 16),
  (16, o_ic 1 17),
  (17, o_iload 1 18),
  (18, o_callV zZM 0 zmX10_wrong 2 3 21),
  (21, o_athrow zYM 2),
  (22, o_iload 2 23),
  (23, o_ic 1 24),
  (24, o_icmp (fun x y => x = y) 27 31),
  (27, o_ic 1 28),
  (28, o_goto 32),
  (31, o_ic 0 32),
  (32, o_zret)]
set_option maxRecDepth 100000 in
theorem ksX10_flag : ∀ q ∈ kX10_flag, zSnd zZM zmX10_flag q.1 q.2 := zcc iX10_flag_0 (zcc iX10_flag_1 (zcc iX10_flag_4 (zcc iX10_flag_5 (zcc iX10_flag_6 (zcc iX10_flag_9 (zcc iX10_flag_10 (zcc iX10_flag_11 (zcc iX10_flag_12 (zcc iX10_flag_15 (zcc iX10_flag_16 (zcc iX10_flag_17 (zcc iX10_flag_18 (zcc iX10_flag_21 (zcc iX10_flag_22 (zcc iX10_flag_23 (zcc iX10_flag_24 (zcc iX10_flag_27 (zcc iX10_flag_28 (zcc iX10_flag_31 (zcc iX10_flag_32 zcn))))))))))))))))))))
theorem iX10_needOctet_0 : zSnd zZM zmX10_needOctet 0 (o_aload 0 1) := s_aload_n (k := 0) (by decide +kernel) rfl
theorem iX10_needOctet_1 : zSnd zZM zmX10_needOctet 1 (o_getf zYM 0 12 4) := s_getf zcX10 fX10_127 (by decide +kernel) (by decide +kernel)
theorem iX10_needOctet_4 : zSnd zZM zmX10_needOctet 4 (o_istore 2 5) := s_istore_n (k := 2) (by decide +kernel) rfl (by decide +kernel)
theorem iX10_needOctet_5 : zSnd zZM zmX10_needOctet 5 (o_aload 0 6) := s_aload_n (k := 0) (by decide +kernel) rfl
set_option maxRecDepth 20000 in
theorem iX10_needOctet_6 : zSnd zZM zmX10_needOctet 6 (o_callV zZM 0 zmX10_octet 0 1 9) := s_callV (idx := 140) zcX10 calX10_octet virX10_octet dscX10_octet (by decide +kernel) (zWS6 45 rfl rfl) (by decide +kernel)
theorem iX10_needOctet_9 : zSnd zZM zmX10_needOctet 9 (o_iload 1 10) := s_iload_n (k := 1) (by decide +kernel) rfl
theorem iX10_needOctet_10 : zSnd zZM zmX10_needOctet 10 (o_icmp (fun x y => x = y) 20 13) := s_icmp_eq (off := 10) (by decide +kernel) (by decide +kernel)
theorem iX10_needOctet_13 : zSnd zZM zmX10_needOctet 13 (o_aload 0 14) := s_aload_n (k := 0) (by decide +kernel) rfl
theorem iX10_needOctet_14 : zSnd zZM zmX10_needOctet 14 (o_ic 1 15) := s_iconst (i := 1) (by decide +kernel) (by decide +kernel)
theorem iX10_needOctet_15 : zSnd zZM zmX10_needOctet 15 (o_iload 2 16) := s_iload_n (k := 2) (by decide +kernel) rfl
set_option maxRecDepth 20000 in
theorem iX10_needOctet_16 : zSnd zZM zmX10_needOctet 16 (o_callV zZM 0 zmX10_wrong 2 3 19) := s_callV (idx := 176) zcX10 calX10_wrong virX10_wrong dscX10_wrong (by decide +kernel) (zWS6 49 rfl rfl) (by decide +kernel)
theorem iX10_needOctet_19 : zSnd zZM zmX10_needOctet 19 (o_athrow zYM 2) := s_athrow (T := TIse) (N := 0) rfl (by decide +kernel)
theorem iX10_needOctet_20 : zSnd zZM zmX10_needOctet 20 (o_vret) := s_vret rfl (by decide +kernel)
def kX10_needOctet : List (Nat × zOp) := [(0, o_aload 0 1),
  (1, o_getf zYM 0 12 4),
  (4, o_istore 2 5),
  (5, o_aload 0 6),
  (6, o_callV zZM 0 zmX10_octet 0 1 9),
  (9, o_iload 1 10),
  (10, o_icmp (fun x y => x = y) 20 13),
  (13, o_aload 0 14),
  (14, o_ic 1 15),
  (15, o_iload 2 16),
  (16, o_callV zZM 0 zmX10_wrong 2 3 19),
  (19, o_athrow zYM 2),
  (20, o_vret)]
set_option maxRecDepth 100000 in
theorem ksX10_needOctet : ∀ q ∈ kX10_needOctet, zSnd zZM zmX10_needOctet q.1 q.2 := zcc iX10_needOctet_0 (zcc iX10_needOctet_1 (zcc iX10_needOctet_4 (zcc iX10_needOctet_5 (zcc iX10_needOctet_6 (zcc iX10_needOctet_9 (zcc iX10_needOctet_10 (zcc iX10_needOctet_13 (zcc iX10_needOctet_14 (zcc iX10_needOctet_15 (zcc iX10_needOctet_16 (zcc iX10_needOctet_19 (zcc iX10_needOctet_20 zcn))))))))))))
theorem iX10_numbers_0 : zSnd zZM zmX10_numbers 0 (o_iload 1 1) := s_iload_n (k := 1) (by decide +kernel) rfl
theorem iX10_numbers_1 : zSnd zZM zmX10_numbers 1 (o_ic 69 3) := s_bipush (i := 69) (by decide +kernel) (by decide +kernel)
theorem iX10_numbers_3 : zSnd zZM zmX10_numbers 3 (o_icmp (fun x y => x = y) 32 6) := s_icmp_eq (off := 29) (by decide +kernel) (by decide +kernel)
theorem iX10_numbers_6 : zSnd zZM zmX10_numbers 6 (o_iload 1 7) := s_iload_n (k := 1) (by decide +kernel) rfl
theorem iX10_numbers_7 : zSnd zZM zmX10_numbers 7 (o_ic 103 9) := s_bipush (i := 103) (by decide +kernel) (by decide +kernel)
theorem iX10_numbers_9 : zSnd zZM zmX10_numbers 9 (o_icmp (fun x y => x < y) 18 12) := s_icmp_lt (off := 9) (by decide +kernel) (by decide +kernel)
theorem iX10_numbers_12 : zSnd zZM zmX10_numbers 12 (o_iload 1 13) := s_iload_n (k := 1) (by decide +kernel) rfl
theorem iX10_numbers_13 : zSnd zZM zmX10_numbers 13 (o_ic 105 15) := s_bipush (i := 105) (by decide +kernel) (by decide +kernel)
theorem iX10_numbers_15 : zSnd zZM zmX10_numbers 15 (o_icmp (fun x y => x ≤ y) 32 18) := s_icmp_le (off := 17) (by decide +kernel) (by decide +kernel)
theorem iX10_numbers_18 : zSnd zZM zmX10_numbers 18 (o_iload 1 19) := s_iload_n (k := 1) (by decide +kernel) rfl
theorem iX10_numbers_19 : zSnd zZM zmX10_numbers 19 (o_ic 192 22) := s_sipush (i := 192) (by decide +kernel) (by decide +kernel)
theorem iX10_numbers_22 : zSnd zZM zmX10_numbers 22 (o_icmp (fun x y => x = y) 32 25) := s_icmp_eq (off := 10) (by decide +kernel) (by decide +kernel)
theorem iX10_numbers_25 : zSnd zZM zmX10_numbers 25 (o_iload 1 26) := s_iload_n (k := 1) (by decide +kernel) rfl
theorem iX10_numbers_26 : zSnd zZM zmX10_numbers 26 (o_ic 193 29) := s_sipush (i := 193) (by decide +kernel) (by decide +kernel)
theorem iX10_numbers_29 : zSnd zZM zmX10_numbers 29 (o_icmp (fun x y => x = y) 32 42) := s_icmp_ne (off := 13) (by decide +kernel) (by decide +kernel)
theorem iX10_numbers_32 : zSnd zZM zmX10_numbers 32 (o_aload 0 33) := s_aload_n (k := 0) (by decide +kernel) rfl
theorem iX10_numbers_33 : zSnd zZM zmX10_numbers 33 (o_ic 0 34) := s_iconst (i := 0) (by decide +kernel) (by decide +kernel)
theorem iX10_numbers_34 : zSnd zZM zmX10_numbers 34 (o_ic 1 35) := s_iconst (i := 1) (by decide +kernel) (by decide +kernel)
theorem iX10_numbers_35 : zSnd zZM zmX10_numbers 35 (o_ic 0 36) := s_iconst (i := 0) (by decide +kernel) (by decide +kernel)
set_option maxRecDepth 20000 in
theorem iX10_numbers_36 : zSnd zZM zmX10_numbers 36 (o_callV zZM 0 zmX10_turns 3 0 39) := s_callV (idx := 551) zcX10 calX10_turns virX10_turns dscX10_turns (by decide +kernel) (zWS7 56 rfl rfl) (by decide +kernel)
theorem iX10_numbers_39 : zSnd zZM zmX10_numbers 39 (o_goto 180) := s_goto (off := 141) (by decide +kernel) (by decide +kernel)
theorem iX10_numbers_42 : zSnd zZM zmX10_numbers 42 (o_iload 1 43) := s_iload_n (k := 1) (by decide +kernel) rfl
theorem iX10_numbers_43 : zSnd zZM zmX10_numbers 43 (o_ic 70 45) := s_bipush (i := 70) (by decide +kernel) (by decide +kernel)
theorem iX10_numbers_45 : zSnd zZM zmX10_numbers 45 (o_icmp (fun x y => x < y) 54 48) := s_icmp_lt (off := 9) (by decide +kernel) (by decide +kernel)
theorem iX10_numbers_48 : zSnd zZM zmX10_numbers 48 (o_iload 1 49) := s_iload_n (k := 1) (by decide +kernel) rfl
theorem iX10_numbers_49 : zSnd zZM zmX10_numbers 49 (o_ic 79 51) := s_bipush (i := 79) (by decide +kernel) (by decide +kernel)
theorem iX10_numbers_51 : zSnd zZM zmX10_numbers 51 (o_icmp (fun x y => x ≤ y) 66 54) := s_icmp_le (off := 15) (by decide +kernel) (by decide +kernel)
theorem iX10_numbers_54 : zSnd zZM zmX10_numbers 54 (o_iload 1 55) := s_iload_n (k := 1) (by decide +kernel) rfl
theorem iX10_numbers_55 : zSnd zZM zmX10_numbers 55 (o_ic 106 57) := s_bipush (i := 106) (by decide +kernel) (by decide +kernel)
theorem iX10_numbers_57 : zSnd zZM zmX10_numbers 57 (o_icmp (fun x y => x < y) 76 60) := s_icmp_lt (off := 19) (by decide +kernel) (by decide +kernel)
theorem iX10_numbers_60 : zSnd zZM zmX10_numbers 60 (o_iload 1 61) := s_iload_n (k := 1) (by decide +kernel) rfl
theorem iX10_numbers_61 : zSnd zZM zmX10_numbers 61 (o_ic 120 63) := s_bipush (i := 120) (by decide +kernel) (by decide +kernel)
theorem iX10_numbers_63 : zSnd zZM zmX10_numbers 63 (o_icmp (fun x y => y < x) 76 66) := s_icmp_gt (off := 13) (by decide +kernel) (by decide +kernel)
theorem iX10_numbers_66 : zSnd zZM zmX10_numbers 66 (o_aload 0 67) := s_aload_n (k := 0) (by decide +kernel) rfl
theorem iX10_numbers_67 : zSnd zZM zmX10_numbers 67 (o_ic 0 68) := s_iconst (i := 0) (by decide +kernel) (by decide +kernel)
theorem iX10_numbers_68 : zSnd zZM zmX10_numbers 68 (o_ic 2 69) := s_iconst (i := 2) (by decide +kernel) (by decide +kernel)
theorem iX10_numbers_69 : zSnd zZM zmX10_numbers 69 (o_ic 0 70) := s_iconst (i := 0) (by decide +kernel) (by decide +kernel)
set_option maxRecDepth 20000 in
theorem iX10_numbers_70 : zSnd zZM zmX10_numbers 70 (o_callV zZM 0 zmX10_turns 3 0 73) := s_callV (idx := 551) zcX10 calX10_turns virX10_turns dscX10_turns (by decide +kernel) (zWS7 56 rfl rfl) (by decide +kernel)
theorem iX10_numbers_73 : zSnd zZM zmX10_numbers 73 (o_goto 180) := s_goto (off := 107) (by decide +kernel) (by decide +kernel)
theorem iX10_numbers_76 : zSnd zZM zmX10_numbers 76 (o_iload 1 77) := s_iload_n (k := 1) (by decide +kernel) rfl
theorem iX10_numbers_77 : zSnd zZM zmX10_numbers 77 (o_ic 80 79) := s_bipush (i := 80) (by decide +kernel) (by decide +kernel)
theorem iX10_numbers_79 : zSnd zZM zmX10_numbers 79 (o_icmp (fun x y => x = y) 89 82) := s_icmp_eq (off := 10) (by decide +kernel) (by decide +kernel)
theorem iX10_numbers_82 : zSnd zZM zmX10_numbers 82 (o_iload 1 83) := s_iload_n (k := 1) (by decide +kernel) rfl
theorem iX10_numbers_83 : zSnd zZM zmX10_numbers 83 (o_ic 167 86) := s_sipush (i := 167) (by decide +kernel) (by decide +kernel)
theorem iX10_numbers_86 : zSnd zZM zmX10_numbers 86 (o_icmp (fun x y => x = y) 89 99) := s_icmp_ne (off := 13) (by decide +kernel) (by decide +kernel)
theorem iX10_numbers_89 : zSnd zZM zmX10_numbers 89 (o_aload 0 90) := s_aload_n (k := 0) (by decide +kernel) rfl
theorem iX10_numbers_90 : zSnd zZM zmX10_numbers 90 (o_ic 1 91) := s_iconst (i := 1) (by decide +kernel) (by decide +kernel)
theorem iX10_numbers_91 : zSnd zZM zmX10_numbers 91 (o_ic 1 92) := s_iconst (i := 1) (by decide +kernel) (by decide +kernel)
theorem iX10_numbers_92 : zSnd zZM zmX10_numbers 92 (o_ic 0 93) := s_iconst (i := 0) (by decide +kernel) (by decide +kernel)
set_option maxRecDepth 20000 in
theorem iX10_numbers_93 : zSnd zZM zmX10_numbers 93 (o_callV zZM 0 zmX10_turns 3 0 96) := s_callV (idx := 551) zcX10 calX10_turns virX10_turns dscX10_turns (by decide +kernel) (zWS7 56 rfl rfl) (by decide +kernel)
theorem iX10_numbers_96 : zSnd zZM zmX10_numbers 96 (o_goto 180) := s_goto (off := 84) (by decide +kernel) (by decide +kernel)
theorem iX10_numbers_99 : zSnd zZM zmX10_numbers 99 (o_iload 1 100) := s_iload_n (k := 1) (by decide +kernel) rfl
theorem iX10_numbers_100 : zSnd zZM zmX10_numbers 100 (o_ic 81 102) := s_bipush (i := 81) (by decide +kernel) (by decide +kernel)
theorem iX10_numbers_102 : zSnd zZM zmX10_numbers 102 (o_icmp (fun x y => x < y) 121 105) := s_icmp_lt (off := 19) (by decide +kernel) (by decide +kernel)
theorem iX10_numbers_105 : zSnd zZM zmX10_numbers 105 (o_iload 1 106) := s_iload_n (k := 1) (by decide +kernel) rfl
theorem iX10_numbers_106 : zSnd zZM zmX10_numbers 106 (o_ic 90 108) := s_bipush (i := 90) (by decide +kernel) (by decide +kernel)
theorem iX10_numbers_108 : zSnd zZM zmX10_numbers 108 (o_icmp (fun x y => y < x) 121 111) := s_icmp_gt (off := 13) (by decide +kernel) (by decide +kernel)
theorem iX10_numbers_111 : zSnd zZM zmX10_numbers 111 (o_aload 0 112) := s_aload_n (k := 0) (by decide +kernel) rfl
theorem iX10_numbers_112 : zSnd zZM zmX10_numbers 112 (o_ic 1 113) := s_iconst (i := 1) (by decide +kernel) (by decide +kernel)
theorem iX10_numbers_113 : zSnd zZM zmX10_numbers 113 (o_ic 2 114) := s_iconst (i := 2) (by decide +kernel) (by decide +kernel)
theorem iX10_numbers_114 : zSnd zZM zmX10_numbers 114 (o_ic 0 115) := s_iconst (i := 0) (by decide +kernel) (by decide +kernel)
set_option maxRecDepth 20000 in
theorem iX10_numbers_115 : zSnd zZM zmX10_numbers 115 (o_callV zZM 0 zmX10_turns 3 0 118) := s_callV (idx := 551) zcX10 calX10_turns virX10_turns dscX10_turns (by decide +kernel) (zWS7 56 rfl rfl) (by decide +kernel)
theorem iX10_numbers_118 : zSnd zZM zmX10_numbers 118 (o_goto 180) := s_goto (off := 62) (by decide +kernel) (by decide +kernel)
theorem iX10_numbers_121 : zSnd zZM zmX10_numbers 121 (o_iload 1 122) := s_iload_n (k := 1) (by decide +kernel) rfl
theorem iX10_numbers_122 : zSnd zZM zmX10_numbers 122 (o_ic 121 124) := s_bipush (i := 121) (by decide +kernel) (by decide +kernel)
theorem iX10_numbers_124 : zSnd zZM zmX10_numbers 124 (o_icmp (fun x y => x < y) 133 127) := s_icmp_lt (off := 9) (by decide +kernel) (by decide +kernel)
theorem iX10_numbers_127 : zSnd zZM zmX10_numbers 127 (o_iload 1 128) := s_iload_n (k := 1) (by decide +kernel) rfl
theorem iX10_numbers_128 : zSnd zZM zmX10_numbers 128 (o_ic 123 130) := s_bipush (i := 123) (by decide +kernel) (by decide +kernel)
theorem iX10_numbers_130 : zSnd zZM zmX10_numbers 130 (o_icmp (fun x y => x ≤ y) 140 133) := s_icmp_le (off := 10) (by decide +kernel) (by decide +kernel)
theorem iX10_numbers_133 : zSnd zZM zmX10_numbers 133 (o_iload 1 134) := s_iload_n (k := 1) (by decide +kernel) rfl
theorem iX10_numbers_134 : zSnd zZM zmX10_numbers 134 (o_ic 194 137) := s_sipush (i := 194) (by decide +kernel) (by decide +kernel)
theorem iX10_numbers_137 : zSnd zZM zmX10_numbers 137 (o_icmp (fun x y => x < y) 150 140) := s_icmp_lt (off := 13) (by decide +kernel) (by decide +kernel)
theorem iX10_numbers_140 : zSnd zZM zmX10_numbers 140 (o_aload 0 141) := s_aload_n (k := 0) (by decide +kernel) rfl
theorem iX10_numbers_141 : zSnd zZM zmX10_numbers 141 (o_ic 1 142) := s_iconst (i := 1) (by decide +kernel) (by decide +kernel)
theorem iX10_numbers_142 : zSnd zZM zmX10_numbers 142 (o_ic 1 143) := s_iconst (i := 1) (by decide +kernel) (by decide +kernel)
theorem iX10_numbers_143 : zSnd zZM zmX10_numbers 143 (o_ic 1 144) := s_iconst (i := 1) (by decide +kernel) (by decide +kernel)
set_option maxRecDepth 20000 in
theorem iX10_numbers_144 : zSnd zZM zmX10_numbers 144 (o_callV zZM 0 zmX10_turns 3 0 147) := s_callV (idx := 551) zcX10 calX10_turns virX10_turns dscX10_turns (by decide +kernel) (zWS7 56 rfl rfl) (by decide +kernel)
theorem iX10_numbers_147 : zSnd zZM zmX10_numbers 147 (o_goto 180) := s_goto (off := 33) (by decide +kernel) (by decide +kernel)
theorem iX10_numbers_150 : zSnd zZM zmX10_numbers 150 (o_iload 1 151) := s_iload_n (k := 1) (by decide +kernel) rfl
theorem iX10_numbers_151 : zSnd zZM zmX10_numbers 151 (o_ic 124 153) := s_bipush (i := 124) (by decide +kernel) (by decide +kernel)
theorem iX10_numbers_153 : zSnd zZM zmX10_numbers 153 (o_icmp (fun x y => x < y) 173 156) := s_icmp_lt (off := 20) (by decide +kernel) (by decide +kernel)
theorem iX10_numbers_156 : zSnd zZM zmX10_numbers 156 (o_iload 1 157) := s_iload_n (k := 1) (by decide +kernel) rfl
theorem iX10_numbers_157 : zSnd zZM zmX10_numbers 157 (o_ic 138 160) := s_sipush (i := 138) (by decide +kernel) (by decide +kernel)
theorem iX10_numbers_160 : zSnd zZM zmX10_numbers 160 (o_icmp (fun x y => y < x) 173 163) := s_icmp_gt (off := 13) (by decide +kernel) (by decide +kernel)
theorem iX10_numbers_163 : zSnd zZM zmX10_numbers 163 (o_aload 0 164) := s_aload_n (k := 0) (by decide +kernel) rfl
theorem iX10_numbers_164 : zSnd zZM zmX10_numbers 164 (o_ic 1 165) := s_iconst (i := 1) (by decide +kernel) (by decide +kernel)
theorem iX10_numbers_165 : zSnd zZM zmX10_numbers 165 (o_ic 2 166) := s_iconst (i := 2) (by decide +kernel) (by decide +kernel)
theorem iX10_numbers_166 : zSnd zZM zmX10_numbers 166 (o_ic 1 167) := s_iconst (i := 1) (by decide +kernel) (by decide +kernel)
set_option maxRecDepth 20000 in
theorem iX10_numbers_167 : zSnd zZM zmX10_numbers 167 (o_callV zZM 0 zmX10_turns 3 0 170) := s_callV (idx := 551) zcX10 calX10_turns virX10_turns dscX10_turns (by decide +kernel) (zWS7 56 rfl rfl) (by decide +kernel)
theorem iX10_numbers_170 : zSnd zZM zmX10_numbers 170 (o_goto 180) := s_goto (off := 10) (by decide +kernel) (by decide +kernel)
theorem iX10_numbers_173 : zSnd zZM zmX10_numbers 173 (o_aload 0 174) := s_aload_n (k := 0) (by decide +kernel) rfl
theorem iX10_numbers_174 : zSnd zZM zmX10_numbers 174 (o_ic 0 175) := s_iconst (i := 0) (by decide +kernel) (by decide +kernel)
theorem iX10_numbers_175 : zSnd zZM zmX10_numbers 175 (o_ic 1 176) := s_iconst (i := 1) (by decide +kernel) (by decide +kernel)
theorem iX10_numbers_176 : zSnd zZM zmX10_numbers 176 (o_ic 1 177) := s_iconst (i := 1) (by decide +kernel) (by decide +kernel)
set_option maxRecDepth 20000 in
theorem iX10_numbers_177 : zSnd zZM zmX10_numbers 177 (o_callV zZM 0 zmX10_turns 3 0 180) := s_callV (idx := 551) zcX10 calX10_turns virX10_turns dscX10_turns (by decide +kernel) (zWS7 56 rfl rfl) (by decide +kernel)
theorem iX10_numbers_180 : zSnd zZM zmX10_numbers 180 (o_vret) := s_vret rfl (by decide +kernel)
def kX10_numbers : List (Nat × zOp) := [(0, o_iload 1 1),
  (1, o_ic 69 3),
  (3, o_icmp (fun x y => x = y) 32 6),
  (6, o_iload 1 7),
  (7, o_ic 103 9),
  (9, o_icmp (fun x y => x < y) 18 12),
  (12, o_iload 1 13),
  (13, o_ic 105 15),
  (15, o_icmp (fun x y => x ≤ y) 32 18),
  (18, o_iload 1 19),
  (19, o_ic 192 22),
  (22, o_icmp (fun x y => x = y) 32 25),
  (25, o_iload 1 26),
  (26, o_ic 193 29),
  (29, o_icmp (fun x y => x = y) 32 42),
  (32, o_aload 0 33),
  (33, o_ic 0 34),
  (34, o_ic 1 35),
  (35, o_ic 0 36),
  (36, o_callV zZM 0 zmX10_turns 3 0 39),
  (39, o_goto 180),
  (42, o_iload 1 43),
  (43, o_ic 70 45),
  (45, o_icmp (fun x y => x < y) 54 48),
  (48, o_iload 1 49),
  (49, o_ic 79 51),
  (51, o_icmp (fun x y => x ≤ y) 66 54),
  (54, o_iload 1 55),
  (55, o_ic 106 57),
  (57, o_icmp (fun x y => x < y) 76 60),
  (60, o_iload 1 61),
  (61, o_ic 120 63),
  (63, o_icmp (fun x y => y < x) 76 66),
  (66, o_aload 0 67),
  (67, o_ic 0 68),
  (68, o_ic 2 69),
  (69, o_ic 0 70),
  (70, o_callV zZM 0 zmX10_turns 3 0 73),
  (73, o_goto 180),
  (76, o_iload 1 77),
  (77, o_ic 80 79),
  (79, o_icmp (fun x y => x = y) 89 82),
  (82, o_iload 1 83),
  (83, o_ic 167 86),
  (86, o_icmp (fun x y => x = y) 89 99),
  (89, o_aload 0 90),
  (90, o_ic 1 91),
  (91, o_ic 1 92),
  (92, o_ic 0 93),
  (93, o_callV zZM 0 zmX10_turns 3 0 96),
  (96, o_goto 180),
  (99, o_iload 1 100),
  (100, o_ic 81 102),
  (102, o_icmp (fun x y => x < y) 121 105),
  (105, o_iload 1 106),
  (106, o_ic 90 108),
  (108, o_icmp (fun x y => y < x) 121 111),
  (111, o_aload 0 112),
  (112, o_ic 1 113),
  (113, o_ic 2 114),
  (114, o_ic 0 115),
  (115, o_callV zZM 0 zmX10_turns 3 0 118),
  (118, o_goto 180),
  (121, o_iload 1 122),
  (122, o_ic 121 124),
  (124, o_icmp (fun x y => x < y) 133 127),
  (127, o_iload 1 128),
  (128, o_ic 123 130),
  (130, o_icmp (fun x y => x ≤ y) 140 133),
  (133, o_iload 1 134),
  (134, o_ic 194 137),
  (137, o_icmp (fun x y => x < y) 150 140),
  (140, o_aload 0 141),
  (141, o_ic 1 142),
  (142, o_ic 1 143),
  (143, o_ic 1 144),
  (144, o_callV zZM 0 zmX10_turns 3 0 147),
  (147, o_goto 180),
  (150, o_iload 1 151),
  (151, o_ic 124 153),
  (153, o_icmp (fun x y => x < y) 173 156),
  (156, o_iload 1 157),
  (157, o_ic 138 160),
  (160, o_icmp (fun x y => y < x) 173 163),
  (163, o_aload 0 164),
  (164, o_ic 1 165),
  (165, o_ic 2 166),
  (166, o_ic 1 167),
  (167, o_callV zZM 0 zmX10_turns 3 0 170),
  (170, o_goto 180),
  (173, o_aload 0 174),
  (174, o_ic 0 175),
  (175, o_ic 1 176),
  (176, o_ic 1 177),
  (177, o_callV zZM 0 zmX10_turns 3 0 180),
  (180, o_vret)]
set_option maxRecDepth 100000 in
theorem ksX10_numbers : ∀ q ∈ kX10_numbers, zSnd zZM zmX10_numbers q.1 q.2 := zcc iX10_numbers_0 (zcc iX10_numbers_1 (zcc iX10_numbers_3 (zcc iX10_numbers_6 (zcc iX10_numbers_7 (zcc iX10_numbers_9 (zcc iX10_numbers_12 (zcc iX10_numbers_13 (zcc iX10_numbers_15 (zcc iX10_numbers_18 (zcc iX10_numbers_19 (zcc iX10_numbers_22 (zcc iX10_numbers_25 (zcc iX10_numbers_26 (zcc iX10_numbers_29 (zcc iX10_numbers_32 (zcc iX10_numbers_33 (zcc iX10_numbers_34 (zcc iX10_numbers_35 (zcc iX10_numbers_36 (zcc iX10_numbers_39 (zcc iX10_numbers_42 (zcc iX10_numbers_43 (zcc iX10_numbers_45 (zcc iX10_numbers_48 (zcc iX10_numbers_49 (zcc iX10_numbers_51 (zcc iX10_numbers_54 (zcc iX10_numbers_55 (zcc iX10_numbers_57 (zcc iX10_numbers_60 (zcc iX10_numbers_61 (zcc iX10_numbers_63 (zcc iX10_numbers_66 (zcc iX10_numbers_67 (zcc iX10_numbers_68 (zcc iX10_numbers_69 (zcc iX10_numbers_70 (zcc iX10_numbers_73 (zcc iX10_numbers_76 (zcc iX10_numbers_77 (zcc iX10_numbers_79 (zcc iX10_numbers_82 (zcc iX10_numbers_83 (zcc iX10_numbers_86 (zcc iX10_numbers_89 (zcc iX10_numbers_90 (zcc iX10_numbers_91 (zcc iX10_numbers_92 (zcc iX10_numbers_93 (zcc iX10_numbers_96 (zcc iX10_numbers_99 (zcc iX10_numbers_100 (zcc iX10_numbers_102 (zcc iX10_numbers_105 (zcc iX10_numbers_106 (zcc iX10_numbers_108 (zcc iX10_numbers_111 (zcc iX10_numbers_112 (zcc iX10_numbers_113 (zcc iX10_numbers_114 (zcc iX10_numbers_115 (zcc iX10_numbers_118 (zcc iX10_numbers_121 (zcc iX10_numbers_122 (zcc iX10_numbers_124 (zcc iX10_numbers_127 (zcc iX10_numbers_128 (zcc iX10_numbers_130 (zcc iX10_numbers_133 (zcc iX10_numbers_134 (zcc iX10_numbers_137 (zcc iX10_numbers_140 (zcc iX10_numbers_141 (zcc iX10_numbers_142 (zcc iX10_numbers_143 (zcc iX10_numbers_144 (zcc iX10_numbers_147 (zcc iX10_numbers_150 (zcc iX10_numbers_151 (zcc iX10_numbers_153 (zcc iX10_numbers_156 (zcc iX10_numbers_157 (zcc iX10_numbers_160 (zcc iX10_numbers_163 (zcc iX10_numbers_164 (zcc iX10_numbers_165 (zcc iX10_numbers_166 (zcc iX10_numbers_167 (zcc iX10_numbers_170 (zcc iX10_numbers_173 (zcc iX10_numbers_174 (zcc iX10_numbers_175 (zcc iX10_numbers_176 (zcc iX10_numbers_177 (zcc iX10_numbers_180 zcn)))))))))))))))))))))))))))))))))))))))))))))))))))))))))))))))))))))))))))))))))))))))))))))))
theorem iX10_one_0 : zSnd zZM zmX10_one 0 (o_aload 1 1) := s_aload_n (k := 1) (by decide +kernel) rfl
theorem iX10_one_1 : zSnd zZM zmX10_one 1 (o_getf zYM 1 55 4) := s_getf zcX9 fX10_218 (by decide +kernel) (by decide +kernel)
theorem iX10_one_4 : zSnd zZM zmX10_one 4 (o_iload 2 5) := s_iload_n (k := 2) (by decide +kernel) rfl
theorem iX10_one_5 : zSnd zZM zmX10_one 5 (o_ald zYM .int 6) := s_iald (by decide +kernel)
theorem iX10_one_6 : zSnd zZM zmX10_one 6 (o_istore 4 8) := s_istore (by decide +kernel) (by decide +kernel)
theorem iX10_one_8 : zSnd zZM zmX10_one 8 (o_aload 0 9) := s_aload_n (k := 0) (by decide +kernel) rfl
theorem iX10_one_9 : zSnd zZM zmX10_one 9 (o_iload 4 11) := s_iload (by decide +kernel)
theorem iX10_one_11 : zSnd zZM zmX10_one 11 (o_ic 2 12) := s_iconst (i := 2) (by decide +kernel) (by decide +kernel)
theorem iX10_one_12 : zSnd zZM zmX10_one 12 (o_icmp (fun x y => y ≤ x) 19 15) := s_icmp_ge (off := 7) (by decide +kernel) (by decide +kernel)
theorem iX10_one_15 : zSnd zZM zmX10_one 15 (o_ic 1 16) := s_iconst (i := 1) (by decide +kernel) (by decide +kernel)
theorem iX10_one_16 : zSnd zZM zmX10_one 16 (o_goto 20) := s_goto (off := 4) (by decide +kernel) (by decide +kernel)
theorem iX10_one_19 : zSnd zZM zmX10_one 19 (o_ic 0 20) := s_iconst (i := 0) (by decide +kernel) (by decide +kernel)
theorem iX10_one_20 : zSnd zZM zmX10_one 20 (o_iload 4 22) := s_iload (by decide +kernel)
theorem iX10_one_22 : zSnd zZM zmX10_one 22 (o_ic 2 23) := s_iconst (i := 2) (by decide +kernel) (by decide +kernel)
theorem iX10_one_23 : zSnd zZM zmX10_one 23 (o_icmp (fun x y => y ≤ x) 30 26) := s_icmp_ge (off := 7) (by decide +kernel) (by decide +kernel)
theorem iX10_one_26 : zSnd zZM zmX10_one 26 (o_ic 0 27) := s_iconst (i := 0) (by decide +kernel) (by decide +kernel)
theorem iX10_one_27 : zSnd zZM zmX10_one 27 (o_goto 41) := s_goto (off := 14) (by decide +kernel) (by decide +kernel)
theorem iX10_one_30 : zSnd zZM zmX10_one 30 (o_aload 1 31) := s_aload_n (k := 1) (by decide +kernel) rfl
theorem iX10_one_31 : zSnd zZM zmX10_one 31 (o_getf zYM 1 27 34) := s_getf zcX9 fX10_293 (by decide +kernel) (by decide +kernel)
theorem iX10_one_34 : zSnd zZM zmX10_one 34 (o_aload 1 35) := s_aload_n (k := 1) (by decide +kernel) rfl
theorem iX10_one_35 : zSnd zZM zmX10_one 35 (o_iload 2 36) := s_iload_n (k := 2) (by decide +kernel) rfl
theorem iX10_one_36 : zSnd zZM zmX10_one 36 (o_ic 1 37) := s_iconst (i := 1) (by decide +kernel) (by decide +kernel)
set_option maxRecDepth 20000 in
theorem iX10_one_37 : zSnd zZM zmX10_one 37 (o_callS zZM zmX10_importOf 3 1 40) := s_callS (idx := 445) calX10_importOf virX10_importOf dscX10_importOf (by decide +kernel) (zWS6 233 rfl rfl) (by decide +kernel)
theorem iX10_one_40 : zSnd zZM zmX10_one 40 (o_ald zYM .int 41) := s_iald (by decide +kernel)
set_option maxRecDepth 20000 in
theorem iX10_one_41 : zSnd zZM zmX10_one 41 (o_callV zZM 0 zmX10_must 2 0 44) := s_callV (idx := 451) zcX10 calX10_must virX10_must dscX10_must (by decide +kernel) (zWS6 221 rfl rfl) (by decide +kernel)
theorem iX10_one_44 : zSnd zZM zmX10_one 44 (o_iload 3 45) := s_iload_n (k := 3) (by decide +kernel) rfl
theorem iX10_one_45 : zSnd zZM zmX10_one 45 (o_if0 (fun x => x = 0) 48 49) := s_if_ne (off := 4) (by decide +kernel) (by decide +kernel)
theorem iX10_one_48 : zSnd zZM zmX10_one 48 (o_vret) := s_vret rfl (by decide +kernel)
theorem iX10_one_49 : zSnd zZM zmX10_one 49 (o_aload 0 50) := s_aload_n (k := 0) (by decide +kernel) rfl
theorem iX10_one_50 : zSnd zZM zmX10_one 50 (o_iload 4 52) := s_iload (by decide +kernel)
theorem iX10_one_52 : zSnd zZM zmX10_one 52 (o_if0 (fun x => x = 0) 55 59) := s_if_ne (off := 7) (by decide +kernel) (by decide +kernel)
theorem iX10_one_55 : zSnd zZM zmX10_one 55 (o_ic 1 56) := s_iconst (i := 1) (by decide +kernel) (by decide +kernel)
theorem iX10_one_56 : zSnd zZM zmX10_one 56 (o_goto 60) := s_goto (off := 4) (by decide +kernel) (by decide +kernel)
theorem iX10_one_59 : zSnd zZM zmX10_one 59 (o_ic 0 60) := s_iconst (i := 0) (by decide +kernel) (by decide +kernel)
theorem iX10_one_60 : zSnd zZM zmX10_one 60 (o_aload 1 61) := s_aload_n (k := 1) (by decide +kernel) rfl
theorem iX10_one_61 : zSnd zZM zmX10_one 61 (o_getf zYM 1 18 64) := s_getf zcX9 fX10_343 (by decide +kernel) (by decide +kernel)
theorem iX10_one_64 : zSnd zZM zmX10_one 64 (o_iload 2 65) := s_iload_n (k := 2) (by decide +kernel) rfl
theorem iX10_one_65 : zSnd zZM zmX10_one 65 (o_ic 1 66) := s_iconst (i := 1) (by decide +kernel) (by decide +kernel)
theorem iX10_one_66 : zSnd zZM zmX10_one 66 (o_ibin (fun x y => x - y) 67) := s_isub (by decide +kernel)
theorem iX10_one_67 : zSnd zZM zmX10_one 67 (o_ald zYM .int 68) := s_iald (by decide +kernel)
set_option maxRecDepth 20000 in
theorem iX10_one_68 : zSnd zZM zmX10_one 68 (o_callV zZM 0 zmX10_must 2 0 71) := s_callV (idx := 451) zcX10 calX10_must virX10_must dscX10_must (by decide +kernel) (zWS6 221 rfl rfl) (by decide +kernel)
theorem iX10_one_71 : zSnd zZM zmX10_one 71 (o_aload 0 72) := s_aload_n (k := 0) (by decide +kernel) rfl
theorem iX10_one_72 : zSnd zZM zmX10_one 72 (o_iload 3 73) := s_iload_n (k := 3) (by decide +kernel) rfl
theorem iX10_one_73 : zSnd zZM zmX10_one 73 (o_ic 1 74) := s_iconst (i := 1) (by decide +kernel) (by decide +kernel)
theorem iX10_one_74 : zSnd zZM zmX10_one 74 (o_icmp (fun x y => x = y) 77 81) := s_icmp_ne (off := 7) (by decide +kernel) (by decide +kernel)
theorem iX10_one_77 : zSnd zZM zmX10_one 77 (o_ic 1 78) := s_iconst (i := 1) (by decide +kernel) (by decide +kernel)
theorem iX10_one_78 : zSnd zZM zmX10_one 78 (o_goto 82) := s_goto (off := 4) (by decide +kernel) (by decide +kernel)
theorem iX10_one_81 : zSnd zZM zmX10_one 81 (o_ic 0 82) := s_iconst (i := 0) (by decide +kernel) (by decide +kernel)
theorem iX10_one_82 : zSnd zZM zmX10_one 82 (o_aload 1 83) := s_aload_n (k := 1) (by decide +kernel) rfl
theorem iX10_one_83 : zSnd zZM zmX10_one 83 (o_getf zYM 1 17 86) := s_getf zcX9 fX10_346 (by decide +kernel) (by decide +kernel)
theorem iX10_one_86 : zSnd zZM zmX10_one 86 (o_iload 2 87) := s_iload_n (k := 2) (by decide +kernel) rfl
theorem iX10_one_87 : zSnd zZM zmX10_one 87 (o_ic 1 88) := s_iconst (i := 1) (by decide +kernel) (by decide +kernel)
theorem iX10_one_88 : zSnd zZM zmX10_one 88 (o_ibin (fun x y => x - y) 89) := s_isub (by decide +kernel)
theorem iX10_one_89 : zSnd zZM zmX10_one 89 (o_ald zYM .int 90) := s_iald (by decide +kernel)
set_option maxRecDepth 20000 in
theorem iX10_one_90 : zSnd zZM zmX10_one 90 (o_callV zZM 0 zmX10_must 2 0 93) := s_callV (idx := 451) zcX10 calX10_must virX10_must dscX10_must (by decide +kernel) (zWS6 221 rfl rfl) (by decide +kernel)
theorem iX10_one_93 : zSnd zZM zmX10_one 93 (o_aload 0 94) := s_aload_n (k := 0) (by decide +kernel) rfl
theorem iX10_one_94 : zSnd zZM zmX10_one 94 (o_iload 2 95) := s_iload_n (k := 2) (by decide +kernel) rfl
theorem iX10_one_95 : zSnd zZM zmX10_one 95 (o_aload 1 96) := s_aload_n (k := 1) (by decide +kernel) rfl
theorem iX10_one_96 : zSnd zZM zmX10_one 96 (o_getf zYM 1 14 99) := s_getf zcX9 fX10_336 (by decide +kernel) (by decide +kernel)
theorem iX10_one_99 : zSnd zZM zmX10_one 99 (o_iload 2 100) := s_iload_n (k := 2) (by decide +kernel) rfl
theorem iX10_one_100 : zSnd zZM zmX10_one 100 (o_ic 1 101) := s_iconst (i := 1) (by decide +kernel) (by decide +kernel)
theorem iX10_one_101 : zSnd zZM zmX10_one 101 (o_ibin (fun x y => x - y) 102) := s_isub (by decide +kernel)
theorem iX10_one_102 : zSnd zZM zmX10_one 102 (o_lald zYM 103) := s_lald (by decide +kernel)
theorem iX10_one_103 : zSnd zZM zmX10_one 103 (o_aload 1 104) := s_aload_n (k := 1) (by decide +kernel) rfl
theorem iX10_one_104 : zSnd zZM zmX10_one 104 (o_getf zYM 1 15 107) := s_getf zcX9 fX10_338 (by decide +kernel) (by decide +kernel)
theorem iX10_one_107 : zSnd zZM zmX10_one 107 (o_iload 2 108) := s_iload_n (k := 2) (by decide +kernel) rfl
theorem iX10_one_108 : zSnd zZM zmX10_one 108 (o_ic 1 109) := s_iconst (i := 1) (by decide +kernel) (by decide +kernel)
theorem iX10_one_109 : zSnd zZM zmX10_one 109 (o_ibin (fun x y => x - y) 110) := s_isub (by decide +kernel)
theorem iX10_one_110 : zSnd zZM zmX10_one 110 (o_lald zYM 111) := s_lald (by decide +kernel)
set_option maxRecDepth 20000 in
theorem iX10_one_111 : zSnd zZM zmX10_one 111 (o_callS zZM zmX10_areRight 3 1 114) := s_callS (idx := 455) calX10_areRight virX10_areRight dscX10_areRight (by decide +kernel) (zWS6 225 rfl rfl) (by decide +kernel)
theorem iX10_one_114 : zSnd zZM zmX10_one 114 (o_aload 1 115) := s_aload_n (k := 1) (by decide +kernel) rfl
theorem iX10_one_115 : zSnd zZM zmX10_one 115 (o_getf zYM 1 16 118) := s_getf zcX9 fX10_340 (by decide +kernel) (by decide +kernel)
theorem iX10_one_118 : zSnd zZM zmX10_one 118 (o_iload 2 119) := s_iload_n (k := 2) (by decide +kernel) rfl
theorem iX10_one_119 : zSnd zZM zmX10_one 119 (o_ic 1 120) := s_iconst (i := 1) (by decide +kernel) (by decide +kernel)
theorem iX10_one_120 : zSnd zZM zmX10_one 120 (o_ibin (fun x y => x - y) 121) := s_isub (by decide +kernel)
theorem iX10_one_121 : zSnd zZM zmX10_one 121 (o_ald zYM .int 122) := s_iald (by decide +kernel)
set_option maxRecDepth 20000 in
theorem iX10_one_122 : zSnd zZM zmX10_one 122 (o_callV zZM 0 zmX10_must 2 0 125) := s_callV (idx := 451) zcX10 calX10_must virX10_must dscX10_must (by decide +kernel) (zWS6 221 rfl rfl) (by decide +kernel)
theorem iX10_one_125 : zSnd zZM zmX10_one 125 (o_vret) := s_vret rfl (by decide +kernel)
def kX10_one : List (Nat × zOp) := [(0, o_aload 1 1),
  (1, o_getf zYM 1 55 4),
  (4, o_iload 2 5),
  (5, o_ald zYM .int 6),
  (6, o_istore 4 8),
  (8, o_aload 0 9),
  (9, o_iload 4 11),
  (11, o_ic 2 12),
  (12, o_icmp (fun x y => y ≤ x) 19 15),
  (15, o_ic 1 16),
  (16, o_goto 20),
  (19, o_ic 0 20),
  (20, o_iload 4 22),
  (22, o_ic 2 23),
  (23, o_icmp (fun x y => y ≤ x) 30 26),
  (26, o_ic 0 27),
  (27, o_goto 41),
  (30, o_aload 1 31),
  (31, o_getf zYM 1 27 34),
  (34, o_aload 1 35),
  (35, o_iload 2 36),
  (36, o_ic 1 37),
  (37, o_callS zZM zmX10_importOf 3 1 40),
  (40, o_ald zYM .int 41),
  (41, o_callV zZM 0 zmX10_must 2 0 44),
  (44, o_iload 3 45),
  (45, o_if0 (fun x => x = 0) 48 49),
  (48, o_vret),
  (49, o_aload 0 50),
  (50, o_iload 4 52),
  (52, o_if0 (fun x => x = 0) 55 59),
  (55, o_ic 1 56),
  (56, o_goto 60),
  (59, o_ic 0 60),
  (60, o_aload 1 61),
  (61, o_getf zYM 1 18 64),
  (64, o_iload 2 65),
  (65, o_ic 1 66),
  (66, o_ibin (fun x y => x - y) 67),
  (67, o_ald zYM .int 68),
  (68, o_callV zZM 0 zmX10_must 2 0 71),
  (71, o_aload 0 72),
  (72, o_iload 3 73),
  (73, o_ic 1 74),
  (74, o_icmp (fun x y => x = y) 77 81),
  (77, o_ic 1 78),
  (78, o_goto 82),
  (81, o_ic 0 82),
  (82, o_aload 1 83),
  (83, o_getf zYM 1 17 86),
  (86, o_iload 2 87),
  (87, o_ic 1 88),
  (88, o_ibin (fun x y => x - y) 89),
  (89, o_ald zYM .int 90),
  (90, o_callV zZM 0 zmX10_must 2 0 93),
  (93, o_aload 0 94),
  (94, o_iload 2 95),
  (95, o_aload 1 96),
  (96, o_getf zYM 1 14 99),
  (99, o_iload 2 100),
  (100, o_ic 1 101),
  (101, o_ibin (fun x y => x - y) 102),
  (102, o_lald zYM 103),
  (103, o_aload 1 104),
  (104, o_getf zYM 1 15 107),
  (107, o_iload 2 108),
  (108, o_ic 1 109),
  (109, o_ibin (fun x y => x - y) 110),
  (110, o_lald zYM 111),
  (111, o_callS zZM zmX10_areRight 3 1 114),
  (114, o_aload 1 115),
  (115, o_getf zYM 1 16 118),
  (118, o_iload 2 119),
  (119, o_ic 1 120),
  (120, o_ibin (fun x y => x - y) 121),
  (121, o_ald zYM .int 122),
  (122, o_callV zZM 0 zmX10_must 2 0 125),
  (125, o_vret)]
set_option maxRecDepth 100000 in
theorem ksX10_one : ∀ q ∈ kX10_one, zSnd zZM zmX10_one q.1 q.2 := zcc iX10_one_0 (zcc iX10_one_1 (zcc iX10_one_4 (zcc iX10_one_5 (zcc iX10_one_6 (zcc iX10_one_8 (zcc iX10_one_9 (zcc iX10_one_11 (zcc iX10_one_12 (zcc iX10_one_15 (zcc iX10_one_16 (zcc iX10_one_19 (zcc iX10_one_20 (zcc iX10_one_22 (zcc iX10_one_23 (zcc iX10_one_26 (zcc iX10_one_27 (zcc iX10_one_30 (zcc iX10_one_31 (zcc iX10_one_34 (zcc iX10_one_35 (zcc iX10_one_36 (zcc iX10_one_37 (zcc iX10_one_40 (zcc iX10_one_41 (zcc iX10_one_44 (zcc iX10_one_45 (zcc iX10_one_48 (zcc iX10_one_49 (zcc iX10_one_50 (zcc iX10_one_52 (zcc iX10_one_55 (zcc iX10_one_56 (zcc iX10_one_59 (zcc iX10_one_60 (zcc iX10_one_61 (zcc iX10_one_64 (zcc iX10_one_65 (zcc iX10_one_66 (zcc iX10_one_67 (zcc iX10_one_68 (zcc iX10_one_71 (zcc iX10_one_72 (zcc iX10_one_73 (zcc iX10_one_74 (zcc iX10_one_77 (zcc iX10_one_78 (zcc iX10_one_81 (zcc iX10_one_82 (zcc iX10_one_83 (zcc iX10_one_86 (zcc iX10_one_87 (zcc iX10_one_88 (zcc iX10_one_89 (zcc iX10_one_90 (zcc iX10_one_93 (zcc iX10_one_94 (zcc iX10_one_95 (zcc iX10_one_96 (zcc iX10_one_99 (zcc iX10_one_100 (zcc iX10_one_101 (zcc iX10_one_102 (zcc iX10_one_103 (zcc iX10_one_104 (zcc iX10_one_107 (zcc iX10_one_108 (zcc iX10_one_109 (zcc iX10_one_110 (zcc iX10_one_111 (zcc iX10_one_114 (zcc iX10_one_115 (zcc iX10_one_118 (zcc iX10_one_119 (zcc iX10_one_120 (zcc iX10_one_121 (zcc iX10_one_122 (zcc iX10_one_125 zcn)))))))))))))))))))))))))))))))))))))))))))))))))))))))))))))))))))))))))))))
theorem iX10_signed_0 : zSnd zZM zmX10_signed 0 (o_aload 0 1) := s_aload_n (k := 0) (by decide +kernel) rfl
theorem iX10_signed_1 : zSnd zZM zmX10_signed 1 (o_getf zYM 0 12 4) := s_getf zcX10 fX10_127 (by decide +kernel) (by decide +kernel)
theorem iX10_signed_4 : zSnd zZM zmX10_signed 4 (o_istore 4 6) := s_istore (by decide +kernel) (by decide +kernel)
theorem iX10_signed_6 : zSnd zZM zmX10_signed 6 (o_lc 0 7) := s_lconst (i := 0) (by decide +kernel) (by decide +kernel)
theorem iX10_signed_7 : zSnd zZM zmX10_signed 7 (o_lstore 5 9) := s_lstore (by decide +kernel) (by decide +kernel)
theorem iX10_signed_9 : zSnd zZM zmX10_signed 9 (o_ic 0 10) := s_iconst (i := 0) (by decide +kernel) (by decide +kernel)
theorem iX10_signed_10 : zSnd zZM zmX10_signed 10 (o_istore 7 12) := s_istore (by decide +kernel) (by decide +kernel)
theorem iX10_signed_12 : zSnd zZM zmX10_signed 12 (o_iload 7 14) := s_iload (by decide +kernel)
theorem iX10_signed_14 : zSnd zZM zmX10_signed 14 (o_iload 1 15) := s_iload_n (k := 1) (by decide +kernel) rfl
theorem iX10_signed_15 : zSnd zZM zmX10_signed 15 (o_icmp (fun x y => y ≤ x) 132 18) := s_icmp_ge (off := 117) (by decide +kernel) (by decide +kernel)
theorem iX10_signed_18 : zSnd zZM zmX10_signed 18 (o_aload 0 19) := s_aload_n (k := 0) (by decide +kernel) rfl
set_option maxRecDepth 20000 in
theorem iX10_signed_19 : zSnd zZM zmX10_signed 19 (o_callV zZM 0 zmX10_octet 0 1 22) := s_callV (idx := 140) zcX10 calX10_octet virX10_octet dscX10_octet (by decide +kernel) (zWS6 45 rfl rfl) (by decide +kernel)
theorem iX10_signed_22 : zSnd zZM zmX10_signed 22 (o_istore 8 24) := s_istore (by decide +kernel) (by decide +kernel)
theorem iX10_signed_24 : zSnd zZM zmX10_signed 24 (o_lload 5 26) := s_lload (by decide +kernel)
theorem iX10_signed_26 : zSnd zZM zmX10_signed 26 (o_iload 8 28) := s_iload (by decide +kernel)
theorem iX10_signed_28 : zSnd zZM zmX10_signed 28 (o_ic 127 30) := s_bipush (i := 127) (by decide +kernel) (by decide +kernel)
theorem iX10_signed_30 : zSnd zZM zmX10_signed 30 (o_ibin (fun x y => x &&& y) 31) := s_iand (by decide +kernel)
theorem iX10_signed_31 : zSnd zZM zmX10_signed 31 (o_i2l 32) := s_i2l (by decide +kernel)
theorem iX10_signed_32 : zSnd zZM zmX10_signed 32 (o_ic 7 34) := s_bipush (i := 7) (by decide +kernel) (by decide +kernel)
theorem iX10_signed_34 : zSnd zZM zmX10_signed 34 (o_iload 7 36) := s_iload (by decide +kernel)
theorem iX10_signed_36 : zSnd zZM zmX10_signed 36 (o_ibin (fun x y => x * y) 37) := s_imul (by decide +kernel)
theorem iX10_signed_37 : zSnd zZM zmX10_signed 37 (o_lsh (fun x y => x <<< (y.toInt64 &&& 63)) 38) := s_lshl (by decide +kernel)
theorem iX10_signed_38 : zSnd zZM zmX10_signed 38 (o_lbin (fun x y => x ||| y) 39) := s_lor (by decide +kernel)
theorem iX10_signed_39 : zSnd zZM zmX10_signed 39 (o_lstore 5 41) := s_lstore (by decide +kernel) (by decide +kernel)
theorem iX10_signed_41 : zSnd zZM zmX10_signed 41 (o_iload 7 43) := s_iload (by decide +kernel)
theorem iX10_signed_43 : zSnd zZM zmX10_signed 43 (o_iload 1 44) := s_iload_n (k := 1) (by decide +kernel) rfl
theorem iX10_signed_44 : zSnd zZM zmX10_signed 44 (o_ic 1 45) := s_iconst (i := 1) (by decide +kernel) (by decide +kernel)
theorem iX10_signed_45 : zSnd zZM zmX10_signed 45 (o_ibin (fun x y => x - y) 46) := s_isub (by decide +kernel)
theorem iX10_signed_46 : zSnd zZM zmX10_signed 46 (o_icmp (fun x y => x = y) 49 76) := s_icmp_ne (off := 30) (by decide +kernel) (by decide +kernel)
theorem iX10_signed_49 : zSnd zZM zmX10_signed 49 (o_iload 8 51) := s_iload (by decide +kernel)
theorem iX10_signed_51 : zSnd zZM zmX10_signed 51 (o_iload 2 52) := s_iload_n (k := 2) (by decide +kernel) rfl
theorem iX10_signed_52 : zSnd zZM zmX10_signed 52 (o_icmp (fun x y => x ≤ y) 76 55) := s_icmp_le (off := 24) (by decide +kernel) (by decide +kernel)
theorem iX10_signed_55 : zSnd zZM zmX10_signed 55 (o_iload 8 57) := s_iload (by decide +kernel)
theorem iX10_signed_57 : zSnd zZM zmX10_signed 57 (o_iload 3 58) := s_iload_n (k := 3) (by decide +kernel) rfl
theorem iX10_signed_58 : zSnd zZM zmX10_signed 58 (o_icmp (fun x y => x < y) 68 61) := s_icmp_lt (off := 10) (by decide +kernel) (by decide +kernel)
theorem iX10_signed_61 : zSnd zZM zmX10_signed 61 (o_iload 8 63) := s_iload (by decide +kernel)
theorem iX10_signed_63 : zSnd zZM zmX10_signed 63 (o_ic 127 65) := s_bipush (i := 127) (by decide +kernel) (by decide +kernel)
theorem iX10_signed_65 : zSnd zZM zmX10_signed 65 (o_icmp (fun x y => x ≤ y) 76 68) := s_icmp_le (off := 11) (by decide +kernel) (by decide +kernel)
theorem iX10_signed_68 : zSnd zZM zmX10_signed 68 (o_aload 0 69) := s_aload_n (k := 0) (by decide +kernel) rfl
theorem iX10_signed_69 : zSnd zZM zmX10_signed 69 (o_ic 1 70) := s_iconst (i := 1) (by decide +kernel) (by decide +kernel)
theorem iX10_signed_70 : zSnd zZM zmX10_signed 70 (o_iload 4 72) := s_iload (by decide +kernel)
set_option maxRecDepth 20000 in
theorem iX10_signed_72 : zSnd zZM zmX10_signed 72 (o_callV zZM 0 zmX10_wrong 2 3 75) := s_callV (idx := 176) zcX10 calX10_wrong virX10_wrong dscX10_wrong (by decide +kernel) (zWS6 49 rfl rfl) (by decide +kernel)
theorem iX10_signed_75 : zSnd zZM zmX10_signed 75 (o_athrow zYM 2) := s_athrow (T := TIse) (N := 0) rfl (by decide +kernel)
theorem iX10_signed_76 : zSnd zZM zmX10_signed 76 (o_iload 8 78) := s_iload (by decide +kernel)
theorem iX10_signed_78 : zSnd zZM zmX10_signed 78 (o_ic 128 81) := s_sipush (i := 128) (by decide +kernel) (by decide +kernel)
theorem iX10_signed_81 : zSnd zZM zmX10_signed 81 (o_icmp (fun x y => y ≤ x) 126 84) := s_icmp_ge (off := 45) (by decide +kernel) (by decide +kernel)
theorem iX10_signed_84 : zSnd zZM zmX10_signed 84 (o_iload 8 86) := s_iload (by decide +kernel)
theorem iX10_signed_86 : zSnd zZM zmX10_signed 86 (o_ic 64 88) := s_bipush (i := 64) (by decide +kernel) (by decide +kernel)
theorem iX10_signed_88 : zSnd zZM zmX10_signed 88 (o_ibin (fun x y => x &&& y) 89) := s_iand (by decide +kernel)
theorem iX10_signed_89 : zSnd zZM zmX10_signed 89 (o_if0 (fun x => x = 0) 123 92) := s_if_eq (off := 34) (by decide +kernel) (by decide +kernel)
theorem iX10_signed_92 : zSnd zZM zmX10_signed 92 (o_ic 7 94) := s_bipush (i := 7) (by decide +kernel) (by decide +kernel)
theorem iX10_signed_94 : zSnd zZM zmX10_signed 94 (o_iload 7 96) := s_iload (by decide +kernel)
theorem iX10_signed_96 : zSnd zZM zmX10_signed 96 (o_ibin (fun x y => x * y) 97) := s_imul (by decide +kernel)
theorem iX10_signed_97 : zSnd zZM zmX10_signed 97 (o_ic 7 99) := s_bipush (i := 7) (by decide +kernel) (by decide +kernel)
theorem iX10_signed_99 : zSnd zZM zmX10_signed 99 (o_ibin (fun x y => x + y) 100) := s_iadd (by decide +kernel)
theorem iX10_signed_100 : zSnd zZM zmX10_signed 100 (o_ic 64 102) := s_bipush (i := 64) (by decide +kernel) (by decide +kernel)
theorem iX10_signed_102 : zSnd zZM zmX10_signed 102 (o_icmp (fun x y => y ≤ x) 123 105) := s_icmp_ge (off := 21) (by decide +kernel) (by decide +kernel)
theorem iX10_signed_105 : zSnd zZM zmX10_signed 105 (o_lload 5 107) := s_lload (by decide +kernel)
set_option maxRecDepth 20000 in
theorem iX10_signed_107 : zSnd zZM zmX10_signed 107 (o_lc (-1) 110) := s_ldc2 (i := 180) (by decide +kernel) (zWS6 142 rfl rfl)
theorem iX10_signed_110 : zSnd zZM zmX10_signed 110 (o_ic 7 112) := s_bipush (i := 7) (by decide +kernel) (by decide +kernel)
theorem iX10_signed_112 : zSnd zZM zmX10_signed 112 (o_iload 7 114) := s_iload (by decide +kernel)
theorem iX10_signed_114 : zSnd zZM zmX10_signed 114 (o_ibin (fun x y => x * y) 115) := s_imul (by decide +kernel)
theorem iX10_signed_115 : zSnd zZM zmX10_signed 115 (o_ic 7 117) := s_bipush (i := 7) (by decide +kernel) (by decide +kernel)
theorem iX10_signed_117 : zSnd zZM zmX10_signed 117 (o_ibin (fun x y => x + y) 118) := s_iadd (by decide +kernel)
theorem iX10_signed_118 : zSnd zZM zmX10_signed 118 (o_lsh (fun x y => x <<< (y.toInt64 &&& 63)) 119) := s_lshl (by decide +kernel)
theorem iX10_signed_119 : zSnd zZM zmX10_signed 119 (o_lbin (fun x y => x ||| y) 120) := s_lor (by decide +kernel)
theorem iX10_signed_120 : zSnd zZM zmX10_signed 120 (o_goto 125) := s_goto (off := 5) (by decide +kernel) (by decide +kernel)
theorem iX10_signed_123 : zSnd zZM zmX10_signed 123 (o_lload 5 125) := s_lload (by decide +kernel)
theorem iX10_signed_125 : zSnd zZM zmX10_signed 125 (o_lret) := s_lret rfl (by decide +kernel)
theorem iX10_signed_126 : zSnd zZM zmX10_signed 126 (o_iinc 7 1 129) := s_iinc (a := 1) (by decide +kernel) (by decide +kernel) (by decide +kernel)
theorem iX10_signed_129 : zSnd zZM zmX10_signed 129 (o_goto 12) := s_goto (off := (-117)) (by decide +kernel) (by decide +kernel)
theorem iX10_signed_132 : zSnd zZM zmX10_signed 132 (o_lload 5 134) := s_lload (by decide +kernel)
theorem iX10_signed_134 : zSnd zZM zmX10_signed 134 (o_lret) := s_lret rfl (by decide +kernel)
def kX10_signed : List (Nat × zOp) := [(0, o_aload 0 1),
  (1, o_getf zYM 0 12 4),
  (4, o_istore 4 6),
  (6, o_lc 0 7),
  (7, o_lstore 5 9),
  (9, o_ic 0 10),
  (10, o_istore 7 12),
  (12, o_iload 7 14),
  (14, o_iload 1 15),
  (15, o_icmp (fun x y => y ≤ x) 132 18),
  (18, o_aload 0 19),
  (19, o_callV zZM 0 zmX10_octet 0 1 22),
  (22, o_istore 8 24),
  (24, o_lload 5 26),
  (26, o_iload 8 28),
  (28, o_ic 127 30),
  (30, o_ibin (fun x y => x &&& y) 31),
  (31, o_i2l 32),
  (32, o_ic 7 34),
  (34, o_iload 7 36),
  (36, o_ibin (fun x y => x * y) 37),
  (37, o_lsh (fun x y => x <<< (y.toInt64 &&& 63)) 38),
  (38, o_lbin (fun x y => x ||| y) 39),
  (39, o_lstore 5 41),
  (41, o_iload 7 43),
  (43, o_iload 1 44),
  (44, o_ic 1 45),
  (45, o_ibin (fun x y => x - y) 46),
  (46, o_icmp (fun x y => x = y) 49 76),
  (49, o_iload 8 51),
  (51, o_iload 2 52),
  (52, o_icmp (fun x y => x ≤ y) 76 55),
  (55, o_iload 8 57),
  (57, o_iload 3 58),
  (58, o_icmp (fun x y => x < y) 68 61),
  (61, o_iload 8 63),
  (63, o_ic 127 65),
  (65, o_icmp (fun x y => x ≤ y) 76 68),
  (68, o_aload 0 69),
  (69, o_ic 1 70),
  (70, o_iload 4 72),
  (72, o_callV zZM 0 zmX10_wrong 2 3 75),
  (75, o_athrow zYM 2),
  (76, o_iload 8 78),
  (78, o_ic 128 81),
  (81, o_icmp (fun x y => y ≤ x) 126 84),
  (84, o_iload 8 86),
  (86, o_ic 64 88),
  (88, o_ibin (fun x y => x &&& y) 89),
  (89, o_if0 (fun x => x = 0) 123 92),
  (92, o_ic 7 94),
  (94, o_iload 7 96),
  (96, o_ibin (fun x y => x * y) 97),
  (97, o_ic 7 99),
  (99, o_ibin (fun x y => x + y) 100),
  (100, o_ic 64 102),
  (102, o_icmp (fun x y => y ≤ x) 123 105),
  (105, o_lload 5 107),
  (107, o_lc (-1) 110),
  (110, o_ic 7 112),
  (112, o_iload 7 114),
  (114, o_ibin (fun x y => x * y) 115),
  (115, o_ic 7 117),
  (117, o_ibin (fun x y => x + y) 118),
  (118, o_lsh (fun x y => x <<< (y.toInt64 &&& 63)) 119),
  (119, o_lbin (fun x y => x ||| y) 120),
  (120, o_goto 125),
  (123, o_lload 5 125),
  (125, o_lret),
  (126, o_iinc 7 1 129),
  (129, o_goto 12),
  (132, o_lload 5 134),
  (134, o_lret)]
set_option maxRecDepth 100000 in
theorem ksX10_signed : ∀ q ∈ kX10_signed, zSnd zZM zmX10_signed q.1 q.2 := zcc iX10_signed_0 (zcc iX10_signed_1 (zcc iX10_signed_4 (zcc iX10_signed_6 (zcc iX10_signed_7 (zcc iX10_signed_9 (zcc iX10_signed_10 (zcc iX10_signed_12 (zcc iX10_signed_14 (zcc iX10_signed_15 (zcc iX10_signed_18 (zcc iX10_signed_19 (zcc iX10_signed_22 (zcc iX10_signed_24 (zcc iX10_signed_26 (zcc iX10_signed_28 (zcc iX10_signed_30 (zcc iX10_signed_31 (zcc iX10_signed_32 (zcc iX10_signed_34 (zcc iX10_signed_36 (zcc iX10_signed_37 (zcc iX10_signed_38 (zcc iX10_signed_39 (zcc iX10_signed_41 (zcc iX10_signed_43 (zcc iX10_signed_44 (zcc iX10_signed_45 (zcc iX10_signed_46 (zcc iX10_signed_49 (zcc iX10_signed_51 (zcc iX10_signed_52 (zcc iX10_signed_55 (zcc iX10_signed_57 (zcc iX10_signed_58 (zcc iX10_signed_61 (zcc iX10_signed_63 (zcc iX10_signed_65 (zcc iX10_signed_68 (zcc iX10_signed_69 (zcc iX10_signed_70 (zcc iX10_signed_72 (zcc iX10_signed_75 (zcc iX10_signed_76 (zcc iX10_signed_78 (zcc iX10_signed_81 (zcc iX10_signed_84 (zcc iX10_signed_86 (zcc iX10_signed_88 (zcc iX10_signed_89 (zcc iX10_signed_92 (zcc iX10_signed_94 (zcc iX10_signed_96 (zcc iX10_signed_97 (zcc iX10_signed_99 (zcc iX10_signed_100 (zcc iX10_signed_102 (zcc iX10_signed_105 (zcc iX10_signed_107 (zcc iX10_signed_110 (zcc iX10_signed_112 (zcc iX10_signed_114 (zcc iX10_signed_115 (zcc iX10_signed_117 (zcc iX10_signed_118 (zcc iX10_signed_119 (zcc iX10_signed_120 (zcc iX10_signed_123 (zcc iX10_signed_125 (zcc iX10_signed_126 (zcc iX10_signed_129 (zcc iX10_signed_132 (zcc iX10_signed_134 zcn))))))))))))))))))))))))))))))))))))))))))))))))))))))))))))))))))))))))
theorem iX10_type_0 : zSnd zZM zmX10_type 0 (o_aload 0 1) := s_aload_n (k := 0) (by decide +kernel) rfl
theorem iX10_type_1 : zSnd zZM zmX10_type 1 (o_getf zYM 0 12 4) := s_getf zcX10 fX10_127 (by decide +kernel) (by decide +kernel)
theorem iX10_type_4 : zSnd zZM zmX10_type 4 (o_istore 1 5) := s_istore_n (k := 1) (by decide +kernel) rfl (by decide +kernel)
theorem iX10_type_5 : zSnd zZM zmX10_type 5 (o_aload 0 6) := s_aload_n (k := 0) (by decide +kernel) rfl
set_option maxRecDepth 20000 in
theorem iX10_type_6 : zSnd zZM zmX10_type 6 (o_callV zZM 0 zmX10_octet 0 1 9) := s_callV (idx := 140) zcX10 calX10_octet virX10_octet dscX10_octet (by decide +kernel) (zWS6 45 rfl rfl) (by decide +kernel)
theorem iX10_type_9 : zSnd zZM zmX10_type 9 (o_istore 2 10) := s_istore_n (k := 2) (by decide +kernel) rfl (by decide +kernel)
theorem iX10_type_10 : zSnd zZM zmX10_type 10 (o_iload 2 11) := s_iload_n (k := 2) (by decide +kernel) rfl
theorem iX10_type_11 : zSnd zZM zmX10_type 11 (o_ic 127 13) := s_bipush (i := 127) (by decide +kernel) (by decide +kernel)
theorem iX10_type_13 : zSnd zZM zmX10_type 13 (o_icmp (fun x y => x = y) 29 16) := s_icmp_eq (off := 16) (by decide +kernel) (by decide +kernel)
theorem iX10_type_16 : zSnd zZM zmX10_type 16 (o_iload 2 17) := s_iload_n (k := 2) (by decide +kernel) rfl
theorem iX10_type_17 : zSnd zZM zmX10_type 17 (o_ic 126 19) := s_bipush (i := 126) (by decide +kernel) (by decide +kernel)
theorem iX10_type_19 : zSnd zZM zmX10_type 19 (o_icmp (fun x y => x = y) 29 22) := s_icmp_eq (off := 10) (by decide +kernel) (by decide +kernel)
theorem iX10_type_22 : zSnd zZM zmX10_type 22 (o_aload 0 23) := s_aload_n (k := 0) (by decide +kernel) rfl
theorem iX10_type_23 : zSnd zZM zmX10_type 23 (o_ic 1 24) := s_iconst (i := 1) (by decide +kernel) (by decide +kernel)
theorem iX10_type_24 : zSnd zZM zmX10_type 24 (o_iload 1 25) := s_iload_n (k := 1) (by decide +kernel) rfl
set_option maxRecDepth 20000 in
theorem iX10_type_25 : zSnd zZM zmX10_type 25 (o_callV zZM 0 zmX10_wrong 2 3 28) := s_callV (idx := 176) zcX10 calX10_wrong virX10_wrong dscX10_wrong (by decide +kernel) (zWS6 49 rfl rfl) (by decide +kernel)
theorem iX10_type_28 : zSnd zZM zmX10_type 28 (o_athrow zYM 2) := s_athrow (T := TIse) (N := 0) rfl (by decide +kernel)
theorem iX10_type_29 : zSnd zZM zmX10_type 29 (o_ic 127 31) := s_bipush (i := 127) (by decide +kernel) (by decide +kernel)
theorem iX10_type_31 : zSnd zZM zmX10_type 31 (o_iload 2 32) := s_iload_n (k := 2) (by decide +kernel) rfl
theorem iX10_type_32 : zSnd zZM zmX10_type 32 (o_ibin (fun x y => x - y) 33) := s_isub (by decide +kernel)
theorem iX10_type_33 : zSnd zZM zmX10_type 33 (o_iret) := s_iret rfl (by decide +kernel)
def kX10_type : List (Nat × zOp) := [(0, o_aload 0 1),
  (1, o_getf zYM 0 12 4),
  (4, o_istore 1 5),
  (5, o_aload 0 6),
  (6, o_callV zZM 0 zmX10_octet 0 1 9),
  (9, o_istore 2 10),
  (10, o_iload 2 11),
  (11, o_ic 127 13),
  (13, o_icmp (fun x y => x = y) 29 16),
  (16, o_iload 2 17),
  (17, o_ic 126 19),
  (19, o_icmp (fun x y => x = y) 29 22),
  (22, o_aload 0 23),
  (23, o_ic 1 24),
  (24, o_iload 1 25),
  (25, o_callV zZM 0 zmX10_wrong 2 3 28),
  (28, o_athrow zYM 2),
  (29, o_ic 127 31),
  (31, o_iload 2 32),
  (32, o_ibin (fun x y => x - y) 33),
  (33, o_iret)]
set_option maxRecDepth 100000 in
theorem ksX10_type : ∀ q ∈ kX10_type, zSnd zZM zmX10_type q.1 q.2 := zcc iX10_type_0 (zcc iX10_type_1 (zcc iX10_type_4 (zcc iX10_type_5 (zcc iX10_type_6 (zcc iX10_type_9 (zcc iX10_type_10 (zcc iX10_type_11 (zcc iX10_type_13 (zcc iX10_type_16 (zcc iX10_type_17 (zcc iX10_type_19 (zcc iX10_type_22 (zcc iX10_type_23 (zcc iX10_type_24 (zcc iX10_type_25 (zcc iX10_type_28 (zcc iX10_type_29 (zcc iX10_type_31 (zcc iX10_type_32 (zcc iX10_type_33 zcn))))))))))))))))))))
theorem iX10_u_0 : zSnd zZM zmX10_u 0 (o_aload 0 1) := s_aload_n (k := 0) (by decide +kernel) rfl
theorem iX10_u_1 : zSnd zZM zmX10_u 1 (o_getf zYM 0 12 4) := s_getf zcX10 fX10_127 (by decide +kernel) (by decide +kernel)
theorem iX10_u_4 : zSnd zZM zmX10_u 4 (o_istore 1 5) := s_istore_n (k := 1) (by decide +kernel) rfl (by decide +kernel)
theorem iX10_u_5 : zSnd zZM zmX10_u 5 (o_lc 0 6) := s_lconst (i := 0) (by decide +kernel) (by decide +kernel)
theorem iX10_u_6 : zSnd zZM zmX10_u 6 (o_lstore 2 7) := s_lstore_n (k := 2) (by decide +kernel) rfl (by decide +kernel)
theorem iX10_u_7 : zSnd zZM zmX10_u 7 (o_ic 0 8) := s_iconst (i := 0) (by decide +kernel) (by decide +kernel)
theorem iX10_u_8 : zSnd zZM zmX10_u 8 (o_istore 4 10) := s_istore (by decide +kernel) (by decide +kernel)
theorem iX10_u_10 : zSnd zZM zmX10_u 10 (o_iload 4 12) := s_iload (by decide +kernel)
theorem iX10_u_12 : zSnd zZM zmX10_u 12 (o_ic 5 13) := s_iconst (i := 5) (by decide +kernel) (by decide +kernel)
theorem iX10_u_13 : zSnd zZM zmX10_u 13 (o_icmp (fun x y => y ≤ x) 73 16) := s_icmp_ge (off := 60) (by decide +kernel) (by decide +kernel)
theorem iX10_u_16 : zSnd zZM zmX10_u 16 (o_aload 0 17) := s_aload_n (k := 0) (by decide +kernel) rfl
set_option maxRecDepth 20000 in
theorem iX10_u_17 : zSnd zZM zmX10_u 17 (o_callV zZM 0 zmX10_octet 0 1 20) := s_callV (idx := 140) zcX10 calX10_octet virX10_octet dscX10_octet (by decide +kernel) (zWS6 45 rfl rfl) (by decide +kernel)
theorem iX10_u_20 : zSnd zZM zmX10_u 20 (o_istore 5 22) := s_istore (by decide +kernel) (by decide +kernel)
theorem iX10_u_22 : zSnd zZM zmX10_u 22 (o_lload 2 23) := s_lload_n (k := 2) (by decide +kernel) rfl
theorem iX10_u_23 : zSnd zZM zmX10_u 23 (o_iload 5 25) := s_iload (by decide +kernel)
theorem iX10_u_25 : zSnd zZM zmX10_u 25 (o_ic 127 27) := s_bipush (i := 127) (by decide +kernel) (by decide +kernel)
theorem iX10_u_27 : zSnd zZM zmX10_u 27 (o_ibin (fun x y => x &&& y) 28) := s_iand (by decide +kernel)
theorem iX10_u_28 : zSnd zZM zmX10_u 28 (o_i2l 29) := s_i2l (by decide +kernel)
theorem iX10_u_29 : zSnd zZM zmX10_u 29 (o_ic 7 31) := s_bipush (i := 7) (by decide +kernel) (by decide +kernel)
theorem iX10_u_31 : zSnd zZM zmX10_u 31 (o_iload 4 33) := s_iload (by decide +kernel)
theorem iX10_u_33 : zSnd zZM zmX10_u 33 (o_ibin (fun x y => x * y) 34) := s_imul (by decide +kernel)
theorem iX10_u_34 : zSnd zZM zmX10_u 34 (o_lsh (fun x y => x <<< (y.toInt64 &&& 63)) 35) := s_lshl (by decide +kernel)
theorem iX10_u_35 : zSnd zZM zmX10_u 35 (o_lbin (fun x y => x ||| y) 36) := s_lor (by decide +kernel)
theorem iX10_u_36 : zSnd zZM zmX10_u 36 (o_lstore 2 37) := s_lstore_n (k := 2) (by decide +kernel) rfl (by decide +kernel)
theorem iX10_u_37 : zSnd zZM zmX10_u 37 (o_iload 4 39) := s_iload (by decide +kernel)
theorem iX10_u_39 : zSnd zZM zmX10_u 39 (o_ic 4 40) := s_iconst (i := 4) (by decide +kernel) (by decide +kernel)
theorem iX10_u_40 : zSnd zZM zmX10_u 40 (o_icmp (fun x y => x = y) 43 57) := s_icmp_ne (off := 17) (by decide +kernel) (by decide +kernel)
theorem iX10_u_43 : zSnd zZM zmX10_u 43 (o_iload 5 45) := s_iload (by decide +kernel)
theorem iX10_u_45 : zSnd zZM zmX10_u 45 (o_ic 15 47) := s_bipush (i := 15) (by decide +kernel) (by decide +kernel)
theorem iX10_u_47 : zSnd zZM zmX10_u 47 (o_icmp (fun x y => x ≤ y) 57 50) := s_icmp_le (off := 10) (by decide +kernel) (by decide +kernel)
theorem iX10_u_50 : zSnd zZM zmX10_u 50 (o_aload 0 51) := s_aload_n (k := 0) (by decide +kernel) rfl
theorem iX10_u_51 : zSnd zZM zmX10_u 51 (o_ic 1 52) := s_iconst (i := 1) (by decide +kernel) (by decide +kernel)
theorem iX10_u_52 : zSnd zZM zmX10_u 52 (o_iload 1 53) := s_iload_n (k := 1) (by decide +kernel) rfl
set_option maxRecDepth 20000 in
theorem iX10_u_53 : zSnd zZM zmX10_u 53 (o_callV zZM 0 zmX10_wrong 2 3 56) := s_callV (idx := 176) zcX10 calX10_wrong virX10_wrong dscX10_wrong (by decide +kernel) (zWS6 49 rfl rfl) (by decide +kernel)
theorem iX10_u_56 : zSnd zZM zmX10_u 56 (o_athrow zYM 2) := s_athrow (T := TIse) (N := 0) rfl (by decide +kernel)
theorem iX10_u_57 : zSnd zZM zmX10_u 57 (o_iload 5 59) := s_iload (by decide +kernel)
theorem iX10_u_59 : zSnd zZM zmX10_u 59 (o_ic 128 62) := s_sipush (i := 128) (by decide +kernel) (by decide +kernel)
theorem iX10_u_62 : zSnd zZM zmX10_u 62 (o_icmp (fun x y => y ≤ x) 67 65) := s_icmp_ge (off := 5) (by decide +kernel) (by decide +kernel)
theorem iX10_u_65 : zSnd zZM zmX10_u 65 (o_lload 2 66) := s_lload_n (k := 2) (by decide +kernel) rfl
theorem iX10_u_66 : zSnd zZM zmX10_u 66 (o_lret) := s_lret rfl (by decide +kernel)
theorem iX10_u_67 : zSnd zZM zmX10_u 67 (o_iinc 4 1 70) := s_iinc (a := 1) (by decide +kernel) (by decide +kernel) (by decide +kernel)
theorem iX10_u_70 : zSnd zZM zmX10_u 70 (o_goto 10) := s_goto (off := (-60)) (by decide +kernel) (by decide +kernel)
theorem iX10_u_73 : zSnd zZM zmX10_u 73 (o_lload 2 74) := s_lload_n (k := 2) (by decide +kernel) rfl
theorem iX10_u_74 : zSnd zZM zmX10_u 74 (o_lret) := s_lret rfl (by decide +kernel)
def kX10_u : List (Nat × zOp) := [(0, o_aload 0 1),
  (1, o_getf zYM 0 12 4),
  (4, o_istore 1 5),
  (5, o_lc 0 6),
  (6, o_lstore 2 7),
  (7, o_ic 0 8),
  (8, o_istore 4 10),
  (10, o_iload 4 12),
  (12, o_ic 5 13),
  (13, o_icmp (fun x y => y ≤ x) 73 16),
  (16, o_aload 0 17),
  (17, o_callV zZM 0 zmX10_octet 0 1 20),
  (20, o_istore 5 22),
  (22, o_lload 2 23),
  (23, o_iload 5 25),
  (25, o_ic 127 27),
  (27, o_ibin (fun x y => x &&& y) 28),
  (28, o_i2l 29),
  (29, o_ic 7 31),
  (31, o_iload 4 33),
  (33, o_ibin (fun x y => x * y) 34),
  (34, o_lsh (fun x y => x <<< (y.toInt64 &&& 63)) 35),
  (35, o_lbin (fun x y => x ||| y) 36),
  (36, o_lstore 2 37),
  (37, o_iload 4 39),
  (39, o_ic 4 40),
  (40, o_icmp (fun x y => x = y) 43 57),
  (43, o_iload 5 45),
  (45, o_ic 15 47),
  (47, o_icmp (fun x y => x ≤ y) 57 50),
  (50, o_aload 0 51),
  (51, o_ic 1 52),
  (52, o_iload 1 53),
  (53, o_callV zZM 0 zmX10_wrong 2 3 56),
  (56, o_athrow zYM 2),
  (57, o_iload 5 59),
  (59, o_ic 128 62),
  (62, o_icmp (fun x y => y ≤ x) 67 65),
  (65, o_lload 2 66),
  (66, o_lret),
  (67, o_iinc 4 1 70),
  (70, o_goto 10),
  (73, o_lload 2 74),
  (74, o_lret)]
set_option maxRecDepth 100000 in
theorem ksX10_u : ∀ q ∈ kX10_u, zSnd zZM zmX10_u q.1 q.2 := zcc iX10_u_0 (zcc iX10_u_1 (zcc iX10_u_4 (zcc iX10_u_5 (zcc iX10_u_6 (zcc iX10_u_7 (zcc iX10_u_8 (zcc iX10_u_10 (zcc iX10_u_12 (zcc iX10_u_13 (zcc iX10_u_16 (zcc iX10_u_17 (zcc iX10_u_20 (zcc iX10_u_22 (zcc iX10_u_23 (zcc iX10_u_25 (zcc iX10_u_27 (zcc iX10_u_28 (zcc iX10_u_29 (zcc iX10_u_31 (zcc iX10_u_33 (zcc iX10_u_34 (zcc iX10_u_35 (zcc iX10_u_36 (zcc iX10_u_37 (zcc iX10_u_39 (zcc iX10_u_40 (zcc iX10_u_43 (zcc iX10_u_45 (zcc iX10_u_47 (zcc iX10_u_50 (zcc iX10_u_51 (zcc iX10_u_52 (zcc iX10_u_53 (zcc iX10_u_56 (zcc iX10_u_57 (zcc iX10_u_59 (zcc iX10_u_62 (zcc iX10_u_65 (zcc iX10_u_66 (zcc iX10_u_67 (zcc iX10_u_70 (zcc iX10_u_73 (zcc iX10_u_74 zcn)))))))))))))))))))))))))))))))))))))))))))
theorem iX10_access_0 : zSnd zZM zmX10_access 0 (o_aload 0 1) := s_aload_n (k := 0) (by decide +kernel) rfl
set_option maxRecDepth 20000 in
theorem iX10_access_1 : zSnd zZM zmX10_access 1 (o_callV zZM 0 zmX10_u 0 2 4) := s_callV (idx := 144) zcX10 calX10_u virX10_u dscX10_u (by decide +kernel) (zWS6 105 rfl rfl) (by decide +kernel)
theorem iX10_access_4 : zSnd zZM zmX10_access 4 (o_lstore 3 5) := s_lstore_n (k := 3) (by decide +kernel) rfl (by decide +kernel)
theorem iX10_access_5 : zSnd zZM zmX10_access 5 (o_aload 0 6) := s_aload_n (k := 0) (by decide +kernel) rfl
set_option maxRecDepth 20000 in
theorem iX10_access_6 : zSnd zZM zmX10_access 6 (o_callV zZM 0 zmX10_u 0 2 9) := s_callV (idx := 144) zcX10 calX10_u virX10_u dscX10_u (by decide +kernel) (zWS6 105 rfl rfl) (by decide +kernel)
theorem iX10_access_9 : zSnd zZM zmX10_access 9 (o_lstore 5 11) := s_lstore (by decide +kernel) (by decide +kernel)
theorem iX10_access_11 : zSnd zZM zmX10_access 11 (o_aload 0 12) := s_aload_n (k := 0) (by decide +kernel) rfl
theorem iX10_access_12 : zSnd zZM zmX10_access 12 (o_aload 1 13) := s_aload_n (k := 1) (by decide +kernel) rfl
theorem iX10_access_13 : zSnd zZM zmX10_access 13 (o_ic 2 14) := s_iconst (i := 2) (by decide +kernel) (by decide +kernel)
set_option maxRecDepth 20000 in
theorem iX10_access_14 : zSnd zZM zmX10_access 14 (o_callV zZM 1 zmX9_has 1 1 17) := s_callV (idx := 484) zcX9 calX9_has virX9_has dscX9_has (by decide +kernel) (zWS7 16 rfl rfl) (by decide +kernel)
theorem iX10_access_17 : zSnd zZM zmX10_access 17 (o_if0 (fun x => x = 0) 34 20) := s_if_eq (off := 17) (by decide +kernel) (by decide +kernel)
theorem iX10_access_20 : zSnd zZM zmX10_access 20 (o_lload 3 21) := s_lload_n (k := 3) (by decide +kernel) rfl
theorem iX10_access_21 : zSnd zZM zmX10_access 21 (o_iload 2 22) := s_iload_n (k := 2) (by decide +kernel) rfl
set_option maxRecDepth 20000 in
theorem iX10_access_22 : zSnd zZM zmX10_access 22 (o_callS zZM zmX10_width 1 1 25) := s_callS (idx := 560) calX10_width virX10_width dscX10_width (by decide +kernel) (zWS7 96 rfl rfl) (by decide +kernel)
theorem iX10_access_25 : zSnd zZM zmX10_access 25 (o_i2l 26) := s_i2l (by decide +kernel)
theorem iX10_access_26 : zSnd zZM zmX10_access 26 (o_lif (fun x y => y < x) 34 30) := s_lgt (off := 7) (by decide +kernel) (by decide +kernel) (by decide +kernel)
theorem iX10_access_30 : zSnd zZM zmX10_access 30 (o_ic 1 31) := s_iconst (i := 1) (by decide +kernel) (by decide +kernel)
theorem iX10_access_31 : zSnd zZM zmX10_access 31 (o_goto 35) := s_goto (off := 4) (by decide +kernel) (by decide +kernel)
theorem iX10_access_34 : zSnd zZM zmX10_access 34 (o_ic 0 35) := s_iconst (i := 0) (by decide +kernel) (by decide +kernel)
set_option maxRecDepth 20000 in
theorem iX10_access_35 : zSnd zZM zmX10_access 35 (o_callV zZM 0 zmX10_need 1 0 38) := s_callV (idx := 526) zcX10 calX10_need virX10_need dscX10_need (by decide +kernel) (zWS7 52 rfl rfl) (by decide +kernel)
theorem iX10_access_38 : zSnd zZM zmX10_access 38 (o_iload 2 39) := s_iload_n (k := 2) (by decide +kernel) rfl
set_option maxRecDepth 20000 in
theorem iX10_access_39 : zSnd zZM zmX10_access 39 (o_callS zZM zmX10_isStore 1 1 42) := s_callS (idx := 419) calX10_isStore virX10_isStore dscX10_isStore (by decide +kernel) (zWS6 195 rfl rfl) (by decide +kernel)
theorem iX10_access_42 : zSnd zZM zmX10_access 42 (o_if0 (fun x => x = 0) 65 45) := s_if_eq (off := 23) (by decide +kernel) (by decide +kernel)
theorem iX10_access_45 : zSnd zZM zmX10_access 45 (o_aload 0 46) := s_aload_n (k := 0) (by decide +kernel) rfl
theorem iX10_access_46 : zSnd zZM zmX10_access 46 (o_iload 2 47) := s_iload_n (k := 2) (by decide +kernel) rfl
set_option maxRecDepth 20000 in
theorem iX10_access_47 : zSnd zZM zmX10_access 47 (o_callS zZM zmX10_valueType 1 1 50) := s_callS (idx := 563) calX10_valueType virX10_valueType dscX10_valueType (by decide +kernel) (zWS7 99 rfl rfl) (by decide +kernel)
set_option maxRecDepth 20000 in
theorem iX10_access_50 : zSnd zZM zmX10_access 50 (o_callV zZM 0 zmX10_takes 1 1 53) := s_callV (idx := 529) zcX10 calX10_takes virX10_takes dscX10_takes (by decide +kernel) (zWS7 60 rfl rfl) (by decide +kernel)
theorem iX10_access_53 : zSnd zZM zmX10_access 53 (o_istore 7 55) := s_istore (by decide +kernel) (by decide +kernel)
theorem iX10_access_55 : zSnd zZM zmX10_access 55 (o_aload 0 56) := s_aload_n (k := 0) (by decide +kernel) rfl
theorem iX10_access_56 : zSnd zZM zmX10_access 56 (o_ic 0 57) := s_iconst (i := 0) (by decide +kernel) (by decide +kernel)
set_option maxRecDepth 20000 in
theorem iX10_access_57 : zSnd zZM zmX10_access 57 (o_callV zZM 0 zmX10_takes 1 1 60) := s_callV (idx := 529) zcX10 calX10_takes virX10_takes dscX10_takes (by decide +kernel) (zWS7 60 rfl rfl) (by decide +kernel)
theorem iX10_access_60 : zSnd zZM zmX10_access 60 (o_istore 7 62) := s_istore (by decide +kernel) (by decide +kernel)
theorem iX10_access_62 : zSnd zZM zmX10_access 62 (o_goto 75) := s_goto (off := 13) (by decide +kernel) (by decide +kernel)
theorem iX10_access_65 : zSnd zZM zmX10_access 65 (o_aload 0 66) := s_aload_n (k := 0) (by decide +kernel) rfl
theorem iX10_access_66 : zSnd zZM zmX10_access 66 (o_ic 0 67) := s_iconst (i := 0) (by decide +kernel) (by decide +kernel)
theorem iX10_access_67 : zSnd zZM zmX10_access 67 (o_ic 1 68) := s_iconst (i := 1) (by decide +kernel) (by decide +kernel)
theorem iX10_access_68 : zSnd zZM zmX10_access 68 (o_iload 2 69) := s_iload_n (k := 2) (by decide +kernel) rfl
set_option maxRecDepth 20000 in
theorem iX10_access_69 : zSnd zZM zmX10_access 69 (o_callS zZM zmX10_valueType 1 1 72) := s_callS (idx := 563) calX10_valueType virX10_valueType dscX10_valueType (by decide +kernel) (zWS7 99 rfl rfl) (by decide +kernel)
set_option maxRecDepth 20000 in
theorem iX10_access_72 : zSnd zZM zmX10_access 72 (o_callV zZM 0 zmX10_turns 3 0 75) := s_callV (idx := 551) zcX10 calX10_turns virX10_turns dscX10_turns (by decide +kernel) (zWS7 56 rfl rfl) (by decide +kernel)
theorem iX10_access_75 : zSnd zZM zmX10_access 75 (o_vret) := s_vret rfl (by decide +kernel)
def kX10_access : List (Nat × zOp) := [(0, o_aload 0 1),
  (1, o_callV zZM 0 zmX10_u 0 2 4),
  (4, o_lstore 3 5),
  (5, o_aload 0 6),
  (6, o_callV zZM 0 zmX10_u 0 2 9),
  (9, o_lstore 5 11),
  (11, o_aload 0 12),
  (12, o_aload 1 13),
  (13, o_ic 2 14),
  (14, o_callV zZM 1 zmX9_has 1 1 17),
  (17, o_if0 (fun x => x = 0) 34 20),
  (20, o_lload 3 21),
  (21, o_iload 2 22),
  (22, o_callS zZM zmX10_width 1 1 25),
  (25, o_i2l 26),
  (26, o_lif (fun x y => y < x) 34 30),
  (30, o_ic 1 31),
  (31, o_goto 35),
  (34, o_ic 0 35),
  (35, o_callV zZM 0 zmX10_need 1 0 38),
  (38, o_iload 2 39),
  (39, o_callS zZM zmX10_isStore 1 1 42),
  (42, o_if0 (fun x => x = 0) 65 45),
  (45, o_aload 0 46),
  (46, o_iload 2 47),
  (47, o_callS zZM zmX10_valueType 1 1 50),
  (50, o_callV zZM 0 zmX10_takes 1 1 53),
  (53, o_istore 7 55),
  (55, o_aload 0 56),
  (56, o_ic 0 57),
  (57, o_callV zZM 0 zmX10_takes 1 1 60),
  (60, o_istore 7 62),
  (62, o_goto 75),
  (65, o_aload 0 66),
  (66, o_ic 0 67),
  (67, o_ic 1 68),
  (68, o_iload 2 69),
  (69, o_callS zZM zmX10_valueType 1 1 72),
  (72, o_callV zZM 0 zmX10_turns 3 0 75),
  (75, o_vret)]
set_option maxRecDepth 100000 in
theorem ksX10_access : ∀ q ∈ kX10_access, zSnd zZM zmX10_access q.1 q.2 := zcc iX10_access_0 (zcc iX10_access_1 (zcc iX10_access_4 (zcc iX10_access_5 (zcc iX10_access_6 (zcc iX10_access_9 (zcc iX10_access_11 (zcc iX10_access_12 (zcc iX10_access_13 (zcc iX10_access_14 (zcc iX10_access_17 (zcc iX10_access_20 (zcc iX10_access_21 (zcc iX10_access_22 (zcc iX10_access_25 (zcc iX10_access_26 (zcc iX10_access_30 (zcc iX10_access_31 (zcc iX10_access_34 (zcc iX10_access_35 (zcc iX10_access_38 (zcc iX10_access_39 (zcc iX10_access_42 (zcc iX10_access_45 (zcc iX10_access_46 (zcc iX10_access_47 (zcc iX10_access_50 (zcc iX10_access_53 (zcc iX10_access_55 (zcc iX10_access_56 (zcc iX10_access_57 (zcc iX10_access_60 (zcc iX10_access_62 (zcc iX10_access_65 (zcc iX10_access_66 (zcc iX10_access_67 (zcc iX10_access_68 (zcc iX10_access_69 (zcc iX10_access_72 (zcc iX10_access_75 zcn)))))))))))))))))))))))))))))))))))))))
theorem iX10_checkMany_0 : zSnd zZM zmX10_checkMany 0 (o_aload 0 1) := s_aload_n (k := 0) (by decide +kernel) rfl
set_option maxRecDepth 20000 in
theorem iX10_checkMany_1 : zSnd zZM zmX10_checkMany 1 (o_callV zZM 0 zmX10_u 0 2 4) := s_callV (idx := 144) zcX10 calX10_u virX10_u dscX10_u (by decide +kernel) (zWS6 105 rfl rfl) (by decide +kernel)
theorem iX10_checkMany_4 : zSnd zZM zmX10_checkMany 4 (o_lstore 2 5) := s_lstore_n (k := 2) (by decide +kernel) rfl (by decide +kernel)
theorem iX10_checkMany_5 : zSnd zZM zmX10_checkMany 5 (o_lload 2 6) := s_lload_n (k := 2) (by decide +kernel) rfl
set_option maxRecDepth 20000 in
theorem iX10_checkMany_6 : zSnd zZM zmX10_checkMany 6 (o_lc 8 9) := s_ldc2 (i := 431) (by decide +kernel) (zWS6 206 rfl rfl)
theorem iX10_checkMany_9 : zSnd zZM zmX10_checkMany 9 (o_lif (fun x y => x = y) 37 13) := s_leq (off := 27) (by decide +kernel) (by decide +kernel) (by decide +kernel)
theorem iX10_checkMany_13 : zSnd zZM zmX10_checkMany 13 (o_lload 2 14) := s_lload_n (k := 2) (by decide +kernel) rfl
set_option maxRecDepth 20000 in
theorem iX10_checkMany_14 : zSnd zZM zmX10_checkMany 14 (o_lc 9 17) := s_ldc2 (i := 435) (by decide +kernel) (zWS6 208 rfl rfl)
theorem iX10_checkMany_17 : zSnd zZM zmX10_checkMany 17 (o_lif (fun x y => x = y) 37 21) := s_leq (off := 19) (by decide +kernel) (by decide +kernel) (by decide +kernel)
theorem iX10_checkMany_21 : zSnd zZM zmX10_checkMany 21 (o_lload 2 22) := s_lload_n (k := 2) (by decide +kernel) rfl
set_option maxRecDepth 20000 in
theorem iX10_checkMany_22 : zSnd zZM zmX10_checkMany 22 (o_lc 12 25) := s_ldc2 (i := 437) (by decide +kernel) (zWS6 209 rfl rfl)
theorem iX10_checkMany_25 : zSnd zZM zmX10_checkMany 25 (o_lif (fun x y => x = y) 37 29) := s_leq (off := 11) (by decide +kernel) (by decide +kernel) (by decide +kernel)
theorem iX10_checkMany_29 : zSnd zZM zmX10_checkMany 29 (o_lload 2 30) := s_lload_n (k := 2) (by decide +kernel) rfl
set_option maxRecDepth 20000 in
theorem iX10_checkMany_30 : zSnd zZM zmX10_checkMany 30 (o_lc 13 33) := s_ldc2 (i := 439) (by decide +kernel) (zWS6 210 rfl rfl)
theorem iX10_checkMany_33 : zSnd zZM zmX10_checkMany 33 (o_lif (fun x y => x = y) 37 44) := s_lne (off := 10) (by decide +kernel) (by decide +kernel) (by decide +kernel)
theorem iX10_checkMany_37 : zSnd zZM zmX10_checkMany 37 (o_aload 0 38) := s_aload_n (k := 0) (by decide +kernel) rfl
set_option maxRecDepth 20000 in
theorem iX10_checkMany_38 : zSnd zZM zmX10_checkMany 38 (o_callV zZM 0 zmX10_u 0 2 41) := s_callV (idx := 144) zcX10 calX10_u virX10_u dscX10_u (by decide +kernel) (zWS6 105 rfl rfl) (by decide +kernel)
theorem iX10_checkMany_41 : zSnd zZM zmX10_checkMany 41 (o_goto 45) := s_goto (off := 4) (by decide +kernel) (by decide +kernel)
theorem iX10_checkMany_44 : zSnd zZM zmX10_checkMany 44 (o_lc 0 45) := s_lconst (i := 0) (by decide +kernel) (by decide +kernel)
theorem iX10_checkMany_45 : zSnd zZM zmX10_checkMany 45 (o_lstore 4 47) := s_lstore (by decide +kernel) (by decide +kernel)
theorem iX10_checkMany_47 : zSnd zZM zmX10_checkMany 47 (o_lload 2 48) := s_lload_n (k := 2) (by decide +kernel) rfl
set_option maxRecDepth 20000 in
theorem iX10_checkMany_48 : zSnd zZM zmX10_checkMany 48 (o_lc 8 51) := s_ldc2 (i := 431) (by decide +kernel) (zWS6 206 rfl rfl)
theorem iX10_checkMany_51 : zSnd zZM zmX10_checkMany 51 (o_lif (fun x y => x = y) 71 55) := s_leq (off := 19) (by decide +kernel) (by decide +kernel) (by decide +kernel)
theorem iX10_checkMany_55 : zSnd zZM zmX10_checkMany 55 (o_lload 2 56) := s_lload_n (k := 2) (by decide +kernel) rfl
set_option maxRecDepth 20000 in
theorem iX10_checkMany_56 : zSnd zZM zmX10_checkMany 56 (o_lc 11 59) := s_ldc2 (i := 441) (by decide +kernel) (zWS6 211 rfl rfl)
theorem iX10_checkMany_59 : zSnd zZM zmX10_checkMany 59 (o_lif (fun x y => x = y) 71 63) := s_leq (off := 11) (by decide +kernel) (by decide +kernel) (by decide +kernel)
theorem iX10_checkMany_63 : zSnd zZM zmX10_checkMany 63 (o_lload 2 64) := s_lload_n (k := 2) (by decide +kernel) rfl
set_option maxRecDepth 20000 in
theorem iX10_checkMany_64 : zSnd zZM zmX10_checkMany 64 (o_lc 12 67) := s_ldc2 (i := 437) (by decide +kernel) (zWS6 209 rfl rfl)
theorem iX10_checkMany_67 : zSnd zZM zmX10_checkMany 67 (o_lif (fun x y => x = y) 71 76) := s_lne (off := 8) (by decide +kernel) (by decide +kernel) (by decide +kernel)
theorem iX10_checkMany_71 : zSnd zZM zmX10_checkMany 71 (o_aload 0 72) := s_aload_n (k := 0) (by decide +kernel) rfl
theorem iX10_checkMany_72 : zSnd zZM zmX10_checkMany 72 (o_ic 0 73) := s_iconst (i := 0) (by decide +kernel) (by decide +kernel)
set_option maxRecDepth 20000 in
theorem iX10_checkMany_73 : zSnd zZM zmX10_checkMany 73 (o_callV zZM 0 zmX10_needOctet 1 0 76) := s_callV (idx := 209) zcX10 calX10_needOctet virX10_needOctet dscX10_needOctet (by decide +kernel) (zWS6 41 rfl rfl) (by decide +kernel)
theorem iX10_checkMany_76 : zSnd zZM zmX10_checkMany 76 (o_lload 2 77) := s_lload_n (k := 2) (by decide +kernel) rfl
set_option maxRecDepth 20000 in
theorem iX10_checkMany_77 : zSnd zZM zmX10_checkMany 77 (o_lc 10 80) := s_ldc2 (i := 443) (by decide +kernel) (zWS6 212 rfl rfl)
theorem iX10_checkMany_80 : zSnd zZM zmX10_checkMany 80 (o_lif (fun x y => x = y) 92 84) := s_leq (off := 11) (by decide +kernel) (by decide +kernel) (by decide +kernel)
theorem iX10_checkMany_84 : zSnd zZM zmX10_checkMany 84 (o_lload 2 85) := s_lload_n (k := 2) (by decide +kernel) rfl
set_option maxRecDepth 20000 in
theorem iX10_checkMany_85 : zSnd zZM zmX10_checkMany 85 (o_lc 14 88) := s_ldc2 (i := 433) (by decide +kernel) (zWS6 207 rfl rfl)
theorem iX10_checkMany_88 : zSnd zZM zmX10_checkMany 88 (o_lif (fun x y => x = y) 92 102) := s_lne (off := 13) (by decide +kernel) (by decide +kernel) (by decide +kernel)
theorem iX10_checkMany_92 : zSnd zZM zmX10_checkMany 92 (o_aload 0 93) := s_aload_n (k := 0) (by decide +kernel) rfl
theorem iX10_checkMany_93 : zSnd zZM zmX10_checkMany 93 (o_ic 0 94) := s_iconst (i := 0) (by decide +kernel) (by decide +kernel)
set_option maxRecDepth 20000 in
theorem iX10_checkMany_94 : zSnd zZM zmX10_checkMany 94 (o_callV zZM 0 zmX10_needOctet 1 0 97) := s_callV (idx := 209) zcX10 calX10_needOctet virX10_needOctet dscX10_needOctet (by decide +kernel) (zWS6 41 rfl rfl) (by decide +kernel)
theorem iX10_checkMany_97 : zSnd zZM zmX10_checkMany 97 (o_aload 0 98) := s_aload_n (k := 0) (by decide +kernel) rfl
theorem iX10_checkMany_98 : zSnd zZM zmX10_checkMany 98 (o_ic 0 99) := s_iconst (i := 0) (by decide +kernel) (by decide +kernel)
set_option maxRecDepth 20000 in
theorem iX10_checkMany_99 : zSnd zZM zmX10_checkMany 99 (o_callV zZM 0 zmX10_needOctet 1 0 102) := s_callV (idx := 209) zcX10 calX10_needOctet virX10_needOctet dscX10_needOctet (by decide +kernel) (zWS6 41 rfl rfl) (by decide +kernel)
theorem iX10_checkMany_102 : zSnd zZM zmX10_checkMany 102 (o_lload 2 103) := s_lload_n (k := 2) (by decide +kernel) rfl
set_option maxRecDepth 20000 in
theorem iX10_checkMany_103 : zSnd zZM zmX10_checkMany 103 (o_lc 8 106) := s_ldc2 (i := 431) (by decide +kernel) (zWS6 206 rfl rfl)
theorem iX10_checkMany_106 : zSnd zZM zmX10_checkMany 106 (o_lif (fun x y => x = y) 118 110) := s_leq (off := 11) (by decide +kernel) (by decide +kernel) (by decide +kernel)
theorem iX10_checkMany_110 : zSnd zZM zmX10_checkMany 110 (o_lload 2 111) := s_lload_n (k := 2) (by decide +kernel) rfl
set_option maxRecDepth 20000 in
theorem iX10_checkMany_111 : zSnd zZM zmX10_checkMany 111 (o_lc 9 114) := s_ldc2 (i := 435) (by decide +kernel) (zWS6 208 rfl rfl)
theorem iX10_checkMany_114 : zSnd zZM zmX10_checkMany 114 (o_lif (fun x y => x = y) 118 138) := s_lne (off := 23) (by decide +kernel) (by decide +kernel) (by decide +kernel)
theorem iX10_checkMany_118 : zSnd zZM zmX10_checkMany 118 (o_aload 0 119) := s_aload_n (k := 0) (by decide +kernel) rfl
theorem iX10_checkMany_119 : zSnd zZM zmX10_checkMany 119 (o_lload 4 121) := s_lload (by decide +kernel)
theorem iX10_checkMany_121 : zSnd zZM zmX10_checkMany 121 (o_aload 1 122) := s_aload_n (k := 1) (by decide +kernel) rfl
theorem iX10_checkMany_122 : zSnd zZM zmX10_checkMany 122 (o_getf zYM 1 8 125) := s_getf zcX9 fX10_121 (by decide +kernel) (by decide +kernel)
theorem iX10_checkMany_125 : zSnd zZM zmX10_checkMany 125 (o_i2l 126) := s_i2l (by decide +kernel)
theorem iX10_checkMany_126 : zSnd zZM zmX10_checkMany 126 (o_lif (fun x y => y ≤ x) 134 130) := s_lge (off := 7) (by decide +kernel) (by decide +kernel) (by decide +kernel)
theorem iX10_checkMany_130 : zSnd zZM zmX10_checkMany 130 (o_ic 1 131) := s_iconst (i := 1) (by decide +kernel) (by decide +kernel)
theorem iX10_checkMany_131 : zSnd zZM zmX10_checkMany 131 (o_goto 135) := s_goto (off := 4) (by decide +kernel) (by decide +kernel)
theorem iX10_checkMany_134 : zSnd zZM zmX10_checkMany 134 (o_ic 0 135) := s_iconst (i := 0) (by decide +kernel) (by decide +kernel)
set_option maxRecDepth 20000 in
theorem iX10_checkMany_135 : zSnd zZM zmX10_checkMany 135 (o_callV zZM 0 zmX10_need 1 0 138) := s_callV (idx := 526) zcX10 calX10_need virX10_need dscX10_need (by decide +kernel) (zWS7 52 rfl rfl) (by decide +kernel)
theorem iX10_checkMany_138 : zSnd zZM zmX10_checkMany 138 (o_lload 2 139) := s_lload_n (k := 2) (by decide +kernel) rfl
set_option maxRecDepth 20000 in
theorem iX10_checkMany_139 : zSnd zZM zmX10_checkMany 139 (o_lc 12 142) := s_ldc2 (i := 437) (by decide +kernel) (zWS6 209 rfl rfl)
theorem iX10_checkMany_142 : zSnd zZM zmX10_checkMany 142 (o_lif (fun x y => x = y) 154 146) := s_leq (off := 11) (by decide +kernel) (by decide +kernel) (by decide +kernel)
theorem iX10_checkMany_146 : zSnd zZM zmX10_checkMany 146 (o_lload 2 147) := s_lload_n (k := 2) (by decide +kernel) rfl
set_option maxRecDepth 20000 in
theorem iX10_checkMany_147 : zSnd zZM zmX10_checkMany 147 (o_lc 13 150) := s_ldc2 (i := 439) (by decide +kernel) (zWS6 210 rfl rfl)
theorem iX10_checkMany_150 : zSnd zZM zmX10_checkMany 150 (o_lif (fun x y => x = y) 154 174) := s_lne (off := 23) (by decide +kernel) (by decide +kernel) (by decide +kernel)
theorem iX10_checkMany_154 : zSnd zZM zmX10_checkMany 154 (o_aload 0 155) := s_aload_n (k := 0) (by decide +kernel) rfl
theorem iX10_checkMany_155 : zSnd zZM zmX10_checkMany 155 (o_lload 4 157) := s_lload (by decide +kernel)
theorem iX10_checkMany_157 : zSnd zZM zmX10_checkMany 157 (o_aload 1 158) := s_aload_n (k := 1) (by decide +kernel) rfl
theorem iX10_checkMany_158 : zSnd zZM zmX10_checkMany 158 (o_getf zYM 1 7 161) := s_getf zcX9 fX10_118 (by decide +kernel) (by decide +kernel)
theorem iX10_checkMany_161 : zSnd zZM zmX10_checkMany 161 (o_i2l 162) := s_i2l (by decide +kernel)
theorem iX10_checkMany_162 : zSnd zZM zmX10_checkMany 162 (o_lif (fun x y => y ≤ x) 170 166) := s_lge (off := 7) (by decide +kernel) (by decide +kernel) (by decide +kernel)
theorem iX10_checkMany_166 : zSnd zZM zmX10_checkMany 166 (o_ic 1 167) := s_iconst (i := 1) (by decide +kernel) (by decide +kernel)
theorem iX10_checkMany_167 : zSnd zZM zmX10_checkMany 167 (o_goto 171) := s_goto (off := 4) (by decide +kernel) (by decide +kernel)
theorem iX10_checkMany_170 : zSnd zZM zmX10_checkMany 170 (o_ic 0 171) := s_iconst (i := 0) (by decide +kernel) (by decide +kernel)
set_option maxRecDepth 20000 in
theorem iX10_checkMany_171 : zSnd zZM zmX10_checkMany 171 (o_callV zZM 0 zmX10_need 1 0 174) := s_callV (idx := 526) zcX10 calX10_need virX10_need dscX10_need (by decide +kernel) (zWS7 52 rfl rfl) (by decide +kernel)
theorem iX10_checkMany_174 : zSnd zZM zmX10_checkMany 174 (o_lload 2 175) := s_lload_n (k := 2) (by decide +kernel) rfl
set_option maxRecDepth 20000 in
theorem iX10_checkMany_175 : zSnd zZM zmX10_checkMany 175 (o_lc 8 178) := s_ldc2 (i := 431) (by decide +kernel) (zWS6 206 rfl rfl)
theorem iX10_checkMany_178 : zSnd zZM zmX10_checkMany 178 (o_lif (fun x y => x = y) 198 182) := s_leq (off := 19) (by decide +kernel) (by decide +kernel) (by decide +kernel)
theorem iX10_checkMany_182 : zSnd zZM zmX10_checkMany 182 (o_lload 2 183) := s_lload_n (k := 2) (by decide +kernel) rfl
set_option maxRecDepth 20000 in
theorem iX10_checkMany_183 : zSnd zZM zmX10_checkMany 183 (o_lc 10 186) := s_ldc2 (i := 443) (by decide +kernel) (zWS6 212 rfl rfl)
theorem iX10_checkMany_186 : zSnd zZM zmX10_checkMany 186 (o_lif (fun x y => x = y) 198 190) := s_leq (off := 11) (by decide +kernel) (by decide +kernel) (by decide +kernel)
theorem iX10_checkMany_190 : zSnd zZM zmX10_checkMany 190 (o_lload 2 191) := s_lload_n (k := 2) (by decide +kernel) rfl
set_option maxRecDepth 20000 in
theorem iX10_checkMany_191 : zSnd zZM zmX10_checkMany 191 (o_lc 11 194) := s_ldc2 (i := 441) (by decide +kernel) (zWS6 211 rfl rfl)
theorem iX10_checkMany_194 : zSnd zZM zmX10_checkMany 194 (o_lif (fun x y => x = y) 198 207) := s_lne (off := 12) (by decide +kernel) (by decide +kernel) (by decide +kernel)
theorem iX10_checkMany_198 : zSnd zZM zmX10_checkMany 198 (o_aload 0 199) := s_aload_n (k := 0) (by decide +kernel) rfl
theorem iX10_checkMany_199 : zSnd zZM zmX10_checkMany 199 (o_aload 1 200) := s_aload_n (k := 1) (by decide +kernel) rfl
theorem iX10_checkMany_200 : zSnd zZM zmX10_checkMany 200 (o_ic 2 201) := s_iconst (i := 2) (by decide +kernel) (by decide +kernel)
set_option maxRecDepth 20000 in
theorem iX10_checkMany_201 : zSnd zZM zmX10_checkMany 201 (o_callV zZM 1 zmX9_has 1 1 204) := s_callV (idx := 484) zcX9 calX9_has virX9_has dscX9_has (by decide +kernel) (zWS7 16 rfl rfl) (by decide +kernel)
set_option maxRecDepth 20000 in
theorem iX10_checkMany_204 : zSnd zZM zmX10_checkMany 204 (o_callV zZM 0 zmX10_need 1 0 207) := s_callV (idx := 526) zcX10 calX10_need virX10_need dscX10_need (by decide +kernel) (zWS7 52 rfl rfl) (by decide +kernel)
theorem iX10_checkMany_207 : zSnd zZM zmX10_checkMany 207 (o_lload 2 208) := s_lload_n (k := 2) (by decide +kernel) rfl
set_option maxRecDepth 20000 in
theorem iX10_checkMany_208 : zSnd zZM zmX10_checkMany 208 (o_lc 12 211) := s_ldc2 (i := 437) (by decide +kernel) (zWS6 209 rfl rfl)
theorem iX10_checkMany_211 : zSnd zZM zmX10_checkMany 211 (o_lif (fun x y => x = y) 223 215) := s_leq (off := 11) (by decide +kernel) (by decide +kernel) (by decide +kernel)
theorem iX10_checkMany_215 : zSnd zZM zmX10_checkMany 215 (o_lload 2 216) := s_lload_n (k := 2) (by decide +kernel) rfl
set_option maxRecDepth 20000 in
theorem iX10_checkMany_216 : zSnd zZM zmX10_checkMany 216 (o_lc 14 219) := s_ldc2 (i := 433) (by decide +kernel) (zWS6 207 rfl rfl)
theorem iX10_checkMany_219 : zSnd zZM zmX10_checkMany 219 (o_lif (fun x y => x = y) 223 232) := s_lne (off := 12) (by decide +kernel) (by decide +kernel) (by decide +kernel)
theorem iX10_checkMany_223 : zSnd zZM zmX10_checkMany 223 (o_aload 0 224) := s_aload_n (k := 0) (by decide +kernel) rfl
theorem iX10_checkMany_224 : zSnd zZM zmX10_checkMany 224 (o_aload 1 225) := s_aload_n (k := 1) (by decide +kernel) rfl
theorem iX10_checkMany_225 : zSnd zZM zmX10_checkMany 225 (o_ic 1 226) := s_iconst (i := 1) (by decide +kernel) (by decide +kernel)
set_option maxRecDepth 20000 in
theorem iX10_checkMany_226 : zSnd zZM zmX10_checkMany 226 (o_callV zZM 1 zmX9_has 1 1 229) := s_callV (idx := 484) zcX9 calX9_has virX9_has dscX9_has (by decide +kernel) (zWS7 16 rfl rfl) (by decide +kernel)
set_option maxRecDepth 20000 in
theorem iX10_checkMany_229 : zSnd zZM zmX10_checkMany 229 (o_callV zZM 0 zmX10_need 1 0 232) := s_callV (idx := 526) zcX10 calX10_need virX10_need dscX10_need (by decide +kernel) (zWS7 52 rfl rfl) (by decide +kernel)
theorem iX10_checkMany_232 : zSnd zZM zmX10_checkMany 232 (o_lload 2 233) := s_lload_n (k := 2) (by decide +kernel) rfl
set_option maxRecDepth 20000 in
theorem iX10_checkMany_233 : zSnd zZM zmX10_checkMany 233 (o_lc 9 236) := s_ldc2 (i := 435) (by decide +kernel) (zWS6 208 rfl rfl)
theorem iX10_checkMany_236 : zSnd zZM zmX10_checkMany 236 (o_lif (fun x y => x = y) 255 240) := s_leq (off := 18) (by decide +kernel) (by decide +kernel) (by decide +kernel)
theorem iX10_checkMany_240 : zSnd zZM zmX10_checkMany 240 (o_lload 2 241) := s_lload_n (k := 2) (by decide +kernel) rfl
set_option maxRecDepth 20000 in
theorem iX10_checkMany_241 : zSnd zZM zmX10_checkMany 241 (o_lc 13 244) := s_ldc2 (i := 439) (by decide +kernel) (zWS6 210 rfl rfl)
theorem iX10_checkMany_244 : zSnd zZM zmX10_checkMany 244 (o_lif (fun x y => x = y) 255 248) := s_leq (off := 10) (by decide +kernel) (by decide +kernel) (by decide +kernel)
theorem iX10_checkMany_248 : zSnd zZM zmX10_checkMany 248 (o_aload 0 249) := s_aload_n (k := 0) (by decide +kernel) rfl
theorem iX10_checkMany_249 : zSnd zZM zmX10_checkMany 249 (o_ic 0 250) := s_iconst (i := 0) (by decide +kernel) (by decide +kernel)
theorem iX10_checkMany_250 : zSnd zZM zmX10_checkMany 250 (o_ic 3 251) := s_iconst (i := 3) (by decide +kernel) (by decide +kernel)
theorem iX10_checkMany_251 : zSnd zZM zmX10_checkMany 251 (o_ic 2 252) := s_iconst (i := 2) (by decide +kernel) (by decide +kernel)
set_option maxRecDepth 20000 in
theorem iX10_checkMany_252 : zSnd zZM zmX10_checkMany 252 (o_callV zZM 0 zmX10_turns 3 0 255) := s_callV (idx := 551) zcX10 calX10_turns virX10_turns dscX10_turns (by decide +kernel) (zWS7 56 rfl rfl) (by decide +kernel)
theorem iX10_checkMany_255 : zSnd zZM zmX10_checkMany 255 (o_vret) := s_vret rfl (by decide +kernel)
def kX10_checkMany : List (Nat × zOp) := [(0, o_aload 0 1),
  (1, o_callV zZM 0 zmX10_u 0 2 4),
  (4, o_lstore 2 5),
  (5, o_lload 2 6),
  (6, o_lc 8 9),
  (9, o_lif (fun x y => x = y) 37 13),
  (13, o_lload 2 14),
  (14, o_lc 9 17),
  (17, o_lif (fun x y => x = y) 37 21),
  (21, o_lload 2 22),
  (22, o_lc 12 25),
  (25, o_lif (fun x y => x = y) 37 29),
  (29, o_lload 2 30),
  (30, o_lc 13 33),
  (33, o_lif (fun x y => x = y) 37 44),
  (37, o_aload 0 38),
  (38, o_callV zZM 0 zmX10_u 0 2 41),
  (41, o_goto 45),
  (44, o_lc 0 45),
  (45, o_lstore 4 47),
  (47, o_lload 2 48),
  (48, o_lc 8 51),
  (51, o_lif (fun x y => x = y) 71 55),
  (55, o_lload 2 56),
  (56, o_lc 11 59),
  (59, o_lif (fun x y => x = y) 71 63),
  (63, o_lload 2 64),
  (64, o_lc 12 67),
  (67, o_lif (fun x y => x = y) 71 76),
  (71, o_aload 0 72),
  (72, o_ic 0 73),
  (73, o_callV zZM 0 zmX10_needOctet 1 0 76),
  (76, o_lload 2 77),
  (77, o_lc 10 80),
  (80, o_lif (fun x y => x = y) 92 84),
  (84, o_lload 2 85),
  (85, o_lc 14 88),
  (88, o_lif (fun x y => x = y) 92 102),
  (92, o_aload 0 93),
  (93, o_ic 0 94),
  (94, o_callV zZM 0 zmX10_needOctet 1 0 97),
  (97, o_aload 0 98),
  (98, o_ic 0 99),
  (99, o_callV zZM 0 zmX10_needOctet 1 0 102),
  (102, o_lload 2 103),
  (103, o_lc 8 106),
  (106, o_lif (fun x y => x = y) 118 110),
  (110, o_lload 2 111),
  (111, o_lc 9 114),
  (114, o_lif (fun x y => x = y) 118 138),
  (118, o_aload 0 119),
  (119, o_lload 4 121),
  (121, o_aload 1 122),
  (122, o_getf zYM 1 8 125),
  (125, o_i2l 126),
  (126, o_lif (fun x y => y ≤ x) 134 130),
  (130, o_ic 1 131),
  (131, o_goto 135),
  (134, o_ic 0 135),
  (135, o_callV zZM 0 zmX10_need 1 0 138),
  (138, o_lload 2 139),
  (139, o_lc 12 142),
  (142, o_lif (fun x y => x = y) 154 146),
  (146, o_lload 2 147),
  (147, o_lc 13 150),
  (150, o_lif (fun x y => x = y) 154 174),
  (154, o_aload 0 155),
  (155, o_lload 4 157),
  (157, o_aload 1 158),
  (158, o_getf zYM 1 7 161),
  (161, o_i2l 162),
  (162, o_lif (fun x y => y ≤ x) 170 166),
  (166, o_ic 1 167),
  (167, o_goto 171),
  (170, o_ic 0 171),
  (171, o_callV zZM 0 zmX10_need 1 0 174),
  (174, o_lload 2 175),
  (175, o_lc 8 178),
  (178, o_lif (fun x y => x = y) 198 182),
  (182, o_lload 2 183),
  (183, o_lc 10 186),
  (186, o_lif (fun x y => x = y) 198 190),
  (190, o_lload 2 191),
  (191, o_lc 11 194),
  (194, o_lif (fun x y => x = y) 198 207),
  (198, o_aload 0 199),
  (199, o_aload 1 200),
  (200, o_ic 2 201),
  (201, o_callV zZM 1 zmX9_has 1 1 204),
  (204, o_callV zZM 0 zmX10_need 1 0 207),
  (207, o_lload 2 208),
  (208, o_lc 12 211),
  (211, o_lif (fun x y => x = y) 223 215),
  (215, o_lload 2 216),
  (216, o_lc 14 219),
  (219, o_lif (fun x y => x = y) 223 232),
  (223, o_aload 0 224),
  (224, o_aload 1 225),
  (225, o_ic 1 226),
  (226, o_callV zZM 1 zmX9_has 1 1 229),
  (229, o_callV zZM 0 zmX10_need 1 0 232),
  (232, o_lload 2 233),
  (233, o_lc 9 236),
  (236, o_lif (fun x y => x = y) 255 240),
  (240, o_lload 2 241),
  (241, o_lc 13 244),
  (244, o_lif (fun x y => x = y) 255 248),
  (248, o_aload 0 249),
  (249, o_ic 0 250),
  (250, o_ic 3 251),
  (251, o_ic 2 252),
  (252, o_callV zZM 0 zmX10_turns 3 0 255),
  (255, o_vret)]
set_option maxRecDepth 100000 in
theorem ksX10_checkMany : ∀ q ∈ kX10_checkMany, zSnd zZM zmX10_checkMany q.1 q.2 := zcc iX10_checkMany_0 (zcc iX10_checkMany_1 (zcc iX10_checkMany_4 (zcc iX10_checkMany_5 (zcc iX10_checkMany_6 (zcc iX10_checkMany_9 (zcc iX10_checkMany_13 (zcc iX10_checkMany_14 (zcc iX10_checkMany_17 (zcc iX10_checkMany_21 (zcc iX10_checkMany_22 (zcc iX10_checkMany_25 (zcc iX10_checkMany_29 (zcc iX10_checkMany_30 (zcc iX10_checkMany_33 (zcc iX10_checkMany_37 (zcc iX10_checkMany_38 (zcc iX10_checkMany_41 (zcc iX10_checkMany_44 (zcc iX10_checkMany_45 (zcc iX10_checkMany_47 (zcc iX10_checkMany_48 (zcc iX10_checkMany_51 (zcc iX10_checkMany_55 (zcc iX10_checkMany_56 (zcc iX10_checkMany_59 (zcc iX10_checkMany_63 (zcc iX10_checkMany_64 (zcc iX10_checkMany_67 (zcc iX10_checkMany_71 (zcc iX10_checkMany_72 (zcc iX10_checkMany_73 (zcc iX10_checkMany_76 (zcc iX10_checkMany_77 (zcc iX10_checkMany_80 (zcc iX10_checkMany_84 (zcc iX10_checkMany_85 (zcc iX10_checkMany_88 (zcc iX10_checkMany_92 (zcc iX10_checkMany_93 (zcc iX10_checkMany_94 (zcc iX10_checkMany_97 (zcc iX10_checkMany_98 (zcc iX10_checkMany_99 (zcc iX10_checkMany_102 (zcc iX10_checkMany_103 (zcc iX10_checkMany_106 (zcc iX10_checkMany_110 (zcc iX10_checkMany_111 (zcc iX10_checkMany_114 (zcc iX10_checkMany_118 (zcc iX10_checkMany_119 (zcc iX10_checkMany_121 (zcc iX10_checkMany_122 (zcc iX10_checkMany_125 (zcc iX10_checkMany_126 (zcc iX10_checkMany_130 (zcc iX10_checkMany_131 (zcc iX10_checkMany_134 (zcc iX10_checkMany_135 (zcc iX10_checkMany_138 (zcc iX10_checkMany_139 (zcc iX10_checkMany_142 (zcc iX10_checkMany_146 (zcc iX10_checkMany_147 (zcc iX10_checkMany_150 (zcc iX10_checkMany_154 (zcc iX10_checkMany_155 (zcc iX10_checkMany_157 (zcc iX10_checkMany_158 (zcc iX10_checkMany_161 (zcc iX10_checkMany_162 (zcc iX10_checkMany_166 (zcc iX10_checkMany_167 (zcc iX10_checkMany_170 (zcc iX10_checkMany_171 (zcc iX10_checkMany_174 (zcc iX10_checkMany_175 (zcc iX10_checkMany_178 (zcc iX10_checkMany_182 (zcc iX10_checkMany_183 (zcc iX10_checkMany_186 (zcc iX10_checkMany_190 (zcc iX10_checkMany_191 (zcc iX10_checkMany_194 (zcc iX10_checkMany_198 (zcc iX10_checkMany_199 (zcc iX10_checkMany_200 (zcc iX10_checkMany_201 (zcc iX10_checkMany_204 (zcc iX10_checkMany_207 (zcc iX10_checkMany_208 (zcc iX10_checkMany_211 (zcc iX10_checkMany_215 (zcc iX10_checkMany_216 (zcc iX10_checkMany_219 (zcc iX10_checkMany_223 (zcc iX10_checkMany_224 (zcc iX10_checkMany_225 (zcc iX10_checkMany_226 (zcc iX10_checkMany_229 (zcc iX10_checkMany_232 (zcc iX10_checkMany_233 (zcc iX10_checkMany_236 (zcc iX10_checkMany_240 (zcc iX10_checkMany_241 (zcc iX10_checkMany_244 (zcc iX10_checkMany_248 (zcc iX10_checkMany_249 (zcc iX10_checkMany_250 (zcc iX10_checkMany_251 (zcc iX10_checkMany_252 (zcc iX10_checkMany_255 zcn))))))))))))))))))))))))))))))))))))))))))))))))))))))))))))))))))))))))))))))))))))))))))))))))))))))))))))))))
theorem iX10_isConstant_0 : zSnd zZM zmX10_isConstant 0 (o_aload 0 1) := s_aload_n (k := 0) (by decide +kernel) rfl
theorem iX10_isConstant_1 : zSnd zZM zmX10_isConstant 1 (o_iload 2 2) := s_iload_n (k := 2) (by decide +kernel) rfl
theorem iX10_isConstant_2 : zSnd zZM zmX10_isConstant 2 (o_putI zYM 0 12 5) := s_putI zcX10 fX10_127 (by decide +kernel) rfl rfl (by decide +kernel)
theorem iX10_isConstant_5 : zSnd zZM zmX10_isConstant 5 (o_aload 0 6) := s_aload_n (k := 0) (by decide +kernel) rfl
set_option maxRecDepth 20000 in
theorem iX10_isConstant_6 : zSnd zZM zmX10_isConstant 6 (o_callV zZM 0 zmX10_octet 0 1 9) := s_callV (idx := 140) zcX10 calX10_octet virX10_octet dscX10_octet (by decide +kernel) (zWS6 45 rfl rfl) (by decide +kernel)
theorem iX10_isConstant_9 : zSnd zZM zmX10_isConstant 9 (o_istore 4 11) := s_istore (by decide +kernel) (by decide +kernel)
theorem iX10_isConstant_11 : zSnd zZM zmX10_isConstant 11 (o_iload 4 13) := s_iload (by decide +kernel)
theorem iX10_isConstant_13 : zSnd zZM zmX10_isConstant 13 (o_ic 35 15) := s_bipush (i := 35) (by decide +kernel) (by decide +kernel)
theorem iX10_isConstant_15 : zSnd zZM zmX10_isConstant 15 (o_icmp (fun x y => x = y) 33 18) := s_icmp_eq (off := 18) (by decide +kernel) (by decide +kernel)
theorem iX10_isConstant_18 : zSnd zZM zmX10_isConstant 18 (o_iload 4 20) := s_iload (by decide +kernel)
theorem iX10_isConstant_20 : zSnd zZM zmX10_isConstant 20 (o_ic 65 22) := s_bipush (i := 65) (by decide +kernel) (by decide +kernel)
theorem iX10_isConstant_22 : zSnd zZM zmX10_isConstant 22 (o_iload 3 23) := s_iload_n (k := 3) (by decide +kernel) rfl
theorem iX10_isConstant_23 : zSnd zZM zmX10_isConstant 23 (o_ibin (fun x y => x + y) 24) := s_iadd (by decide +kernel)
theorem iX10_isConstant_24 : zSnd zZM zmX10_isConstant 24 (o_icmp (fun x y => x = y) 27 31) := s_icmp_ne (off := 7) (by decide +kernel) (by decide +kernel)
theorem iX10_isConstant_27 : zSnd zZM zmX10_isConstant 27 (o_ic 1 28) := s_iconst (i := 1) (by decide +kernel) (by decide +kernel)
theorem iX10_isConstant_28 : zSnd zZM zmX10_isConstant 28 (o_goto 32) := s_goto (off := 4) (by decide +kernel) (by decide +kernel)
theorem iX10_isConstant_31 : zSnd zZM zmX10_isConstant 31 (o_ic 0 32) := s_iconst (i := 0) (by decide +kernel) (by decide +kernel)
theorem iX10_isConstant_32 : zSnd zZM zmX10_isConstant 32 (o_zret) := s_zret rfl (by decide +kernel)
theorem iX10_isConstant_33 : zSnd zZM zmX10_isConstant 33 (o_aload 0 34) := s_aload_n (k := 0) (by decide +kernel) rfl
set_option maxRecDepth 20000 in
theorem iX10_isConstant_34 : zSnd zZM zmX10_isConstant 34 (o_callV zZM 0 zmX10_u 0 2 37) := s_callV (idx := 144) zcX10 calX10_u virX10_u dscX10_u (by decide +kernel) (zWS6 105 rfl rfl) (by decide +kernel)
theorem iX10_isConstant_37 : zSnd zZM zmX10_isConstant 37 (o_lstore 5 39) := s_lstore (by decide +kernel) (by decide +kernel)
theorem iX10_isConstant_39 : zSnd zZM zmX10_isConstant 39 (o_lload 5 41) := s_lload (by decide +kernel)
theorem iX10_isConstant_41 : zSnd zZM zmX10_isConstant 41 (o_aload 1 42) := s_aload_n (k := 1) (by decide +kernel) rfl
theorem iX10_isConstant_42 : zSnd zZM zmX10_isConstant 42 (o_getf zYM 1 55 45) := s_getf zcX9 fX10_218 (by decide +kernel) (by decide +kernel)
theorem iX10_isConstant_45 : zSnd zZM zmX10_isConstant 45 (o_ic 3 46) := s_iconst (i := 3) (by decide +kernel) (by decide +kernel)
theorem iX10_isConstant_46 : zSnd zZM zmX10_isConstant 46 (o_ald zYM .int 47) := s_iald (by decide +kernel)
theorem iX10_isConstant_47 : zSnd zZM zmX10_isConstant 47 (o_i2l 48) := s_i2l (by decide +kernel)
theorem iX10_isConstant_48 : zSnd zZM zmX10_isConstant 48 (o_lif (fun x y => y ≤ x) 77 52) := s_lge (off := 28) (by decide +kernel) (by decide +kernel) (by decide +kernel)
theorem iX10_isConstant_52 : zSnd zZM zmX10_isConstant 52 (o_aload 1 53) := s_aload_n (k := 1) (by decide +kernel) rfl
theorem iX10_isConstant_53 : zSnd zZM zmX10_isConstant 53 (o_lload 5 55) := s_lload (by decide +kernel)
theorem iX10_isConstant_55 : zSnd zZM zmX10_isConstant 55 (o_l2i 56) := s_l2i (by decide +kernel)
set_option maxRecDepth 20000 in
theorem iX10_isConstant_56 : zSnd zZM zmX10_isConstant 56 (o_callS zZM zmX10_isChanged 2 1 59) := s_callS (idx := 490) calX10_isChanged virX10_isChanged dscX10_isChanged (by decide +kernel) (zWS7 0 rfl rfl) (by decide +kernel)
theorem iX10_isConstant_59 : zSnd zZM zmX10_isConstant 59 (o_if0 (fun x => x = 0) 62 77) := s_if_ne (off := 18) (by decide +kernel) (by decide +kernel)
theorem iX10_isConstant_62 : zSnd zZM zmX10_isConstant 62 (o_aload 1 63) := s_aload_n (k := 1) (by decide +kernel) rfl
theorem iX10_isConstant_63 : zSnd zZM zmX10_isConstant 63 (o_lload 5 65) := s_lload (by decide +kernel)
theorem iX10_isConstant_65 : zSnd zZM zmX10_isConstant 65 (o_l2i 66) := s_l2i (by decide +kernel)
set_option maxRecDepth 20000 in
theorem iX10_isConstant_66 : zSnd zZM zmX10_isConstant 66 (o_callS zZM zmX10_typeOf 2 1 69) := s_callS (idx := 494) calX10_typeOf virX10_typeOf dscX10_typeOf (by decide +kernel) (zWS7 3 rfl rfl) (by decide +kernel)
theorem iX10_isConstant_69 : zSnd zZM zmX10_isConstant 69 (o_iload 3 70) := s_iload_n (k := 3) (by decide +kernel) rfl
theorem iX10_isConstant_70 : zSnd zZM zmX10_isConstant 70 (o_icmp (fun x y => x = y) 73 77) := s_icmp_ne (off := 7) (by decide +kernel) (by decide +kernel)
theorem iX10_isConstant_73 : zSnd zZM zmX10_isConstant 73 (o_ic 1 74) := s_iconst (i := 1) (by decide +kernel) (by decide +kernel)
theorem iX10_isConstant_74 : zSnd zZM zmX10_isConstant 74 (o_goto 78) := s_goto (off := 4) (by decide +kernel) (by decide +kernel)
theorem iX10_isConstant_77 : zSnd zZM zmX10_isConstant 77 (o_ic 0 78) := s_iconst (i := 0) (by decide +kernel) (by decide +kernel)
theorem iX10_isConstant_78 : zSnd zZM zmX10_isConstant 78 (o_zret) := s_zret rfl (by decide +kernel)
def kX10_isConstant : List (Nat × zOp) := [(0, o_aload 0 1),
  (1, o_iload 2 2),
  (2, o_putI zYM 0 12 5),
  (5, o_aload 0 6),
  (6, o_callV zZM 0 zmX10_octet 0 1 9),
  (9, o_istore 4 11),
  (11, o_iload 4 13),
  (13, o_ic 35 15),
  (15, o_icmp (fun x y => x = y) 33 18),
  (18, o_iload 4 20),
  (20, o_ic 65 22),
  (22, o_iload 3 23),
  (23, o_ibin (fun x y => x + y) 24),
  (24, o_icmp (fun x y => x = y) 27 31),
  (27, o_ic 1 28),
  (28, o_goto 32),
  (31, o_ic 0 32),
  (32, o_zret),
  (33, o_aload 0 34),
  (34, o_callV zZM 0 zmX10_u 0 2 37),
  (37, o_lstore 5 39),
  (39, o_lload 5 41),
  (41, o_aload 1 42),
  (42, o_getf zYM 1 55 45),
  (45, o_ic 3 46),
  (46, o_ald zYM .int 47),
  (47, o_i2l 48),
  (48, o_lif (fun x y => y ≤ x) 77 52),
  (52, o_aload 1 53),
  (53, o_lload 5 55),
  (55, o_l2i 56),
  (56, o_callS zZM zmX10_isChanged 2 1 59),
  (59, o_if0 (fun x => x = 0) 62 77),
  (62, o_aload 1 63),
  (63, o_lload 5 65),
  (65, o_l2i 66),
  (66, o_callS zZM zmX10_typeOf 2 1 69),
  (69, o_iload 3 70),
  (70, o_icmp (fun x y => x = y) 73 77),
  (73, o_ic 1 74),
  (74, o_goto 78),
  (77, o_ic 0 78),
  (78, o_zret)]
set_option maxRecDepth 100000 in
theorem ksX10_isConstant : ∀ q ∈ kX10_isConstant, zSnd zZM zmX10_isConstant q.1 q.2 := zcc iX10_isConstant_0 (zcc iX10_isConstant_1 (zcc iX10_isConstant_2 (zcc iX10_isConstant_5 (zcc iX10_isConstant_6 (zcc iX10_isConstant_9 (zcc iX10_isConstant_11 (zcc iX10_isConstant_13 (zcc iX10_isConstant_15 (zcc iX10_isConstant_18 (zcc iX10_isConstant_20 (zcc iX10_isConstant_22 (zcc iX10_isConstant_23 (zcc iX10_isConstant_24 (zcc iX10_isConstant_27 (zcc iX10_isConstant_28 (zcc iX10_isConstant_31 (zcc iX10_isConstant_32 (zcc iX10_isConstant_33 (zcc iX10_isConstant_34 (zcc iX10_isConstant_37 (zcc iX10_isConstant_39 (zcc iX10_isConstant_41 (zcc iX10_isConstant_42 (zcc iX10_isConstant_45 (zcc iX10_isConstant_46 (zcc iX10_isConstant_47 (zcc iX10_isConstant_48 (zcc iX10_isConstant_52 (zcc iX10_isConstant_53 (zcc iX10_isConstant_55 (zcc iX10_isConstant_56 (zcc iX10_isConstant_59 (zcc iX10_isConstant_62 (zcc iX10_isConstant_63 (zcc iX10_isConstant_65 (zcc iX10_isConstant_66 (zcc iX10_isConstant_69 (zcc iX10_isConstant_70 (zcc iX10_isConstant_73 (zcc iX10_isConstant_74 (zcc iX10_isConstant_77 (zcc iX10_isConstant_78 zcn))))))))))))))))))))))))))))))))))))))))))
