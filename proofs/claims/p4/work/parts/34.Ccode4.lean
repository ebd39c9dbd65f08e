theorem iX8_count_0 : zSnd zZC zmX8_count 0 (o_aload 0 1) := s_aload_n (k := 0) (by decide +kernel) rfl
theorem iX8_count_1 : zSnd zZC zmX8_count 1 (o_getf zYC 0 4 4) := s_getf zcX8 fX8_30 (by decide +kernel) (by decide +kernel)
theorem iX8_count_4 : zSnd zZC zmX8_count 4 (o_iload 1 5) := s_iload_n (k := 1) (by decide +kernel) rfl
set_option maxRecDepth 20000 in
theorem iX8_count_5 : zSnd zZC zmX8_count 5 (o_callV zZC 8 zmX0_countOf 1 1 8) := s_callVN (idx := 88) zcX0 calX0_countOf virX0_countOf dscX0_countOf (by decide +kernel) (zNW4 85 rfl rfl) (by decide +kernel)
theorem iX8_count_8 : zSnd zZC zmX8_count 8 (o_iret) := s_iret rfl (by decide +kernel)
def kX8_count : List (Nat × zOp) := [(0, o_aload 0 1),
  (1, o_getf zYC 0 4 4),
  (4, o_iload 1 5),
  (5, o_callV zZC 8 zmX0_countOf 1 1 8),
  (8, o_iret)]
set_option maxRecDepth 100000 in
theorem ksX8_count : ∀ q ∈ kX8_count, zSnd zZC zmX8_count q.1 q.2 := zcc iX8_count_0 (zcc iX8_count_1 (zcc iX8_count_4 (zcc iX8_count_5 (zcc iX8_count_8 zcn))))
theorem iX8_feed_0 : zSnd zZC zmX8_feed 0 (o_aload 0 1) := s_aload_n (k := 0) (by decide +kernel) rfl
theorem iX8_feed_1 : zSnd zZC zmX8_feed 1 (o_getf zYC 0 0 4) := s_getf zcX8 fX8_12 (by decide +kernel) (by decide +kernel)
theorem iX8_feed_4 : zSnd zZC zmX8_feed 4 (o_getf zYC 1 1 7) := s_getf zcX4 fX8_49 (by decide +kernel) (by decide +kernel)
theorem iX8_feed_7 : zSnd zZC zmX8_feed 7 (o_ic 15980 10) := s_sipush (i := 15980) (by decide +kernel) (by decide +kernel)
theorem iX8_feed_10 : zSnd zZC zmX8_feed 10 (o_icmp (fun x y => y < x) 22 13) := s_icmp_gt (off := 12) (by decide +kernel) (by decide +kernel)
theorem iX8_feed_13 : zSnd zZC zmX8_feed 13 (o_aload 0 14) := s_aload_n (k := 0) (by decide +kernel) rfl
theorem iX8_feed_14 : zSnd zZC zmX8_feed 14 (o_getf zYC 0 5 17) := s_getf zcX8 fX8_42 (by decide +kernel) (by decide +kernel)
set_option maxRecDepth 20000 in
theorem iX8_feed_17 : zSnd zZC zmX8_feed 17 (o_ic 65516 19) := s_ldc (i := 52) (by decide +kernel) (zWS2 94 rfl rfl)
theorem iX8_feed_19 : zSnd zZC zmX8_feed 19 (o_icmp (fun x y => x ≤ y) 24 22) := s_icmp_le (off := 5) (by decide +kernel) (by decide +kernel)
theorem iX8_feed_22 : zSnd zZC zmX8_feed 22 (o_ic (-1) 23) := s_iconst (i := (-1)) (by decide +kernel) (by decide +kernel)
theorem iX8_feed_23 : zSnd zZC zmX8_feed 23 (o_iret) := s_iret rfl (by decide +kernel)
theorem iX8_feed_24 : zSnd zZC zmX8_feed 24 (o_aload 0 25) := s_aload_n (k := 0) (by decide +kernel) rfl
theorem iX8_feed_25 : zSnd zZC zmX8_feed 25 (o_getf zYC 0 0 28) := s_getf zcX8 fX8_12 (by decide +kernel) (by decide +kernel)
theorem iX8_feed_28 : zSnd zZC zmX8_feed 28 (o_iload 1 29) := s_iload_n (k := 1) (by decide +kernel) rfl
set_option maxRecDepth 20000 in
theorem iX8_feed_29 : zSnd zZC zmX8_feed 29 (o_callV zZC 1 zmX4_add 1 0 32) := s_callVN (idx := 53) zcX4 calX4_add virX4_add dscX4_add (by decide +kernel) (zNW2 95 rfl rfl) (by decide +kernel)
theorem iX8_feed_32 : zSnd zZC zmX8_feed 32 (o_aload 0 33) := s_aload_n (k := 0) (by decide +kernel) rfl
theorem iX8_feed_33 : zSnd zZC zmX8_feed 33 (o_getf zYC 0 0 36) := s_getf zcX8 fX8_12 (by decide +kernel) (by decide +kernel)
theorem iX8_feed_36 : zSnd zZC zmX8_feed 36 (o_iload 2 37) := s_iload_n (k := 2) (by decide +kernel) rfl
set_option maxRecDepth 20000 in
theorem iX8_feed_37 : zSnd zZC zmX8_feed 37 (o_callV zZC 1 zmX4_add 1 0 40) := s_callVN (idx := 53) zcX4 calX4_add virX4_add dscX4_add (by decide +kernel) (zNW2 95 rfl rfl) (by decide +kernel)
theorem iX8_feed_40 : zSnd zZC zmX8_feed 40 (o_aload 0 41) := s_aload_n (k := 0) (by decide +kernel) rfl
theorem iX8_feed_41 : zSnd zZC zmX8_feed 41 (o_getf zYC 0 0 44) := s_getf zcX8 fX8_12 (by decide +kernel) (by decide +kernel)
theorem iX8_feed_44 : zSnd zZC zmX8_feed 44 (o_iload 3 45) := s_iload_n (k := 3) (by decide +kernel) rfl
set_option maxRecDepth 20000 in
theorem iX8_feed_45 : zSnd zZC zmX8_feed 45 (o_callV zZC 1 zmX4_add 1 0 48) := s_callVN (idx := 53) zcX4 calX4_add virX4_add dscX4_add (by decide +kernel) (zNW2 95 rfl rfl) (by decide +kernel)
theorem iX8_feed_48 : zSnd zZC zmX8_feed 48 (o_aload 0 49) := s_aload_n (k := 0) (by decide +kernel) rfl
theorem iX8_feed_49 : zSnd zZC zmX8_feed 49 (o_getf zYC 0 0 52) := s_getf zcX8 fX8_12 (by decide +kernel) (by decide +kernel)
theorem iX8_feed_52 : zSnd zZC zmX8_feed 52 (o_iload 4 54) := s_iload (by decide +kernel)
set_option maxRecDepth 20000 in
theorem iX8_feed_54 : zSnd zZC zmX8_feed 54 (o_callV zZC 1 zmX4_add 1 0 57) := s_callVN (idx := 53) zcX4 calX4_add virX4_add dscX4_add (by decide +kernel) (zNW2 95 rfl rfl) (by decide +kernel)
theorem iX8_feed_57 : zSnd zZC zmX8_feed 57 (o_aload 0 58) := s_aload_n (k := 0) (by decide +kernel) rfl
theorem iX8_feed_58 : zSnd zZC zmX8_feed 58 (o_getf zYC 0 0 61) := s_getf zcX8 fX8_12 (by decide +kernel) (by decide +kernel)
theorem iX8_feed_61 : zSnd zZC zmX8_feed 61 (o_iload 5 63) := s_iload (by decide +kernel)
set_option maxRecDepth 20000 in
theorem iX8_feed_63 : zSnd zZC zmX8_feed 63 (o_callV zZC 1 zmX4_add 1 0 66) := s_callVN (idx := 53) zcX4 calX4_add virX4_add dscX4_add (by decide +kernel) (zNW2 95 rfl rfl) (by decide +kernel)
theorem iX8_feed_66 : zSnd zZC zmX8_feed 66 (o_aload 0 67) := s_aload_n (k := 0) (by decide +kernel) rfl
theorem iX8_feed_67 : zSnd zZC zmX8_feed 67 (o_dup 68) := s_dup (by decide +kernel)
theorem iX8_feed_68 : zSnd zZC zmX8_feed 68 (o_getf zYC 0 5 71) := s_getf zcX8 fX8_42 (by decide +kernel) (by decide +kernel)
theorem iX8_feed_71 : zSnd zZC zmX8_feed 71 (o_ic 20 73) := s_bipush (i := 20) (by decide +kernel) (by decide +kernel)
theorem iX8_feed_73 : zSnd zZC zmX8_feed 73 (o_ibin (fun x y => x + y) 74) := s_iadd (by decide +kernel)
theorem iX8_feed_74 : zSnd zZC zmX8_feed 74 (o_putI zYC 0 5 77) := s_putI zcX8 fX8_42 (by decide +kernel) rfl rfl (by decide +kernel)
theorem iX8_feed_77 : zSnd zZC zmX8_feed 77 (o_aload 0 78) := s_aload_n (k := 0) (by decide +kernel) rfl
theorem iX8_feed_78 : zSnd zZC zmX8_feed 78 (o_getf zYC 0 0 81) := s_getf zcX8 fX8_12 (by decide +kernel) (by decide +kernel)
theorem iX8_feed_81 : zSnd zZC zmX8_feed 81 (o_getf zYC 1 1 84) := s_getf zcX4 fX8_49 (by decide +kernel) (by decide +kernel)
theorem iX8_feed_84 : zSnd zZC zmX8_feed 84 (o_iret) := s_iret rfl (by decide +kernel)
def kX8_feed : List (Nat × zOp) := [(0, o_aload 0 1),
  (1, o_getf zYC 0 0 4),
  (4, o_getf zYC 1 1 7),
  (7, o_ic 15980 10),
  (10, o_icmp (fun x y => y < x) 22 13),
  (13, o_aload 0 14),
  (14, o_getf zYC 0 5 17),
  (17, o_ic 65516 19),
  (19, o_icmp (fun x y => x ≤ y) 24 22),
  (22, o_ic (-1) 23),
  (23, o_iret),
  (24, o_aload 0 25),
  (25, o_getf zYC 0 0 28),
  (28, o_iload 1 29),
  (29, o_callV zZC 1 zmX4_add 1 0 32),
  (32, o_aload 0 33),
  (33, o_getf zYC 0 0 36),
  (36, o_iload 2 37),
  (37, o_callV zZC 1 zmX4_add 1 0 40),
  (40, o_aload 0 41),
  (41, o_getf zYC 0 0 44),
  (44, o_iload 3 45),
  (45, o_callV zZC 1 zmX4_add 1 0 48),
  (48, o_aload 0 49),
  (49, o_getf zYC 0 0 52),
  (52, o_iload 4 54),
  (54, o_callV zZC 1 zmX4_add 1 0 57),
  (57, o_aload 0 58),
  (58, o_getf zYC 0 0 61),
  (61, o_iload 5 63),
  (63, o_callV zZC 1 zmX4_add 1 0 66),
  (66, o_aload 0 67),
  (67, o_dup 68),
  (68, o_getf zYC 0 5 71),
  (71, o_ic 20 73),
  (73, o_ibin (fun x y => x + y) 74),
  (74, o_putI zYC 0 5 77),
  (77, o_aload 0 78),
  (78, o_getf zYC 0 0 81),
  (81, o_getf zYC 1 1 84),
  (84, o_iret)]
set_option maxRecDepth 100000 in
theorem ksX8_feed : ∀ q ∈ kX8_feed, zSnd zZC zmX8_feed q.1 q.2 := zcc iX8_feed_0 (zcc iX8_feed_1 (zcc iX8_feed_4 (zcc iX8_feed_7 (zcc iX8_feed_10 (zcc iX8_feed_13 (zcc iX8_feed_14 (zcc iX8_feed_17 (zcc iX8_feed_19 (zcc iX8_feed_22 (zcc iX8_feed_23 (zcc iX8_feed_24 (zcc iX8_feed_25 (zcc iX8_feed_28 (zcc iX8_feed_29 (zcc iX8_feed_32 (zcc iX8_feed_33 (zcc iX8_feed_36 (zcc iX8_feed_37 (zcc iX8_feed_40 (zcc iX8_feed_41 (zcc iX8_feed_44 (zcc iX8_feed_45 (zcc iX8_feed_48 (zcc iX8_feed_49 (zcc iX8_feed_52 (zcc iX8_feed_54 (zcc iX8_feed_57 (zcc iX8_feed_58 (zcc iX8_feed_61 (zcc iX8_feed_63 (zcc iX8_feed_66 (zcc iX8_feed_67 (zcc iX8_feed_68 (zcc iX8_feed_71 (zcc iX8_feed_73 (zcc iX8_feed_74 (zcc iX8_feed_77 (zcc iX8_feed_78 (zcc iX8_feed_81 (zcc iX8_feed_84 zcn))))))))))))))))))))))))))))))))))))))))
theorem iX8_instructions_0 : zSnd zZC zmX8_instructions 0 (o_aload 0 1) := s_aload_n (k := 0) (by decide +kernel) rfl
theorem iX8_instructions_1 : zSnd zZC zmX8_instructions 1 (o_getf zYC 0 4 4) := s_getf zcX8 fX8_30 (by decide +kernel) (by decide +kernel)
theorem iX8_instructions_4 : zSnd zZC zmX8_instructions 4 (o_iload 1 5) := s_iload_n (k := 1) (by decide +kernel) rfl
set_option maxRecDepth 20000 in
theorem iX8_instructions_5 : zSnd zZC zmX8_instructions 5 (o_callV zZC 8 zmX0_has 1 1 8) := s_callVN (idx := 92) zcX0 calX0_has virX0_has dscX0_has (by decide +kernel) (zNW4 93 rfl rfl) (by decide +kernel)
theorem iX8_instructions_8 : zSnd zZC zmX8_instructions 8 (o_if0 (fun x => x = 0) 23 11) := s_if_eq (off := 15) (by decide +kernel) (by decide +kernel)
theorem iX8_instructions_11 : zSnd zZC zmX8_instructions 11 (o_aload 0 12) := s_aload_n (k := 0) (by decide +kernel) rfl
theorem iX8_instructions_12 : zSnd zZC zmX8_instructions 12 (o_getf zYC 0 4 15) := s_getf zcX8 fX8_30 (by decide +kernel) (by decide +kernel)
theorem iX8_instructions_15 : zSnd zZC zmX8_instructions 15 (o_getf zYC 8 2 18) := s_getf zcX0 fX8_96 (by decide +kernel) (by decide +kernel)
theorem iX8_instructions_18 : zSnd zZC zmX8_instructions 18 (o_iload 1 19) := s_iload_n (k := 1) (by decide +kernel) rfl
theorem iX8_instructions_19 : zSnd zZC zmX8_instructions 19 (o_ald zYC .int 20) := s_iald (by decide +kernel)
theorem iX8_instructions_20 : zSnd zZC zmX8_instructions 20 (o_goto 24) := s_goto (off := 4) (by decide +kernel) (by decide +kernel)
theorem iX8_instructions_23 : zSnd zZC zmX8_instructions 23 (o_ic (-1) 24) := s_iconst (i := (-1)) (by decide +kernel) (by decide +kernel)
theorem iX8_instructions_24 : zSnd zZC zmX8_instructions 24 (o_iret) := s_iret rfl (by decide +kernel)
def kX8_instructions : List (Nat × zOp) := [(0, o_aload 0 1),
  (1, o_getf zYC 0 4 4),
  (4, o_iload 1 5),
  (5, o_callV zZC 8 zmX0_has 1 1 8),
  (8, o_if0 (fun x => x = 0) 23 11),
  (11, o_aload 0 12),
  (12, o_getf zYC 0 4 15),
  (15, o_getf zYC 8 2 18),
  (18, o_iload 1 19),
  (19, o_ald zYC .int 20),
  (20, o_goto 24),
  (23, o_ic (-1) 24),
  (24, o_iret)]
set_option maxRecDepth 100000 in
theorem ksX8_instructions : ∀ q ∈ kX8_instructions, zSnd zZC zmX8_instructions q.1 q.2 := zcc iX8_instructions_0 (zcc iX8_instructions_1 (zcc iX8_instructions_4 (zcc iX8_instructions_5 (zcc iX8_instructions_8 (zcc iX8_instructions_11 (zcc iX8_instructions_12 (zcc iX8_instructions_15 (zcc iX8_instructions_18 (zcc iX8_instructions_19 (zcc iX8_instructions_20 (zcc iX8_instructions_23 (zcc iX8_instructions_24 zcn))))))))))))
theorem iX8_locals_0 : zSnd zZC zmX8_locals 0 (o_aload 0 1) := s_aload_n (k := 0) (by decide +kernel) rfl
theorem iX8_locals_1 : zSnd zZC zmX8_locals 1 (o_getf zYC 0 4 4) := s_getf zcX8 fX8_30 (by decide +kernel) (by decide +kernel)
theorem iX8_locals_4 : zSnd zZC zmX8_locals 4 (o_iload 1 5) := s_iload_n (k := 1) (by decide +kernel) rfl
set_option maxRecDepth 20000 in
theorem iX8_locals_5 : zSnd zZC zmX8_locals 5 (o_callV zZC 8 zmX0_has 1 1 8) := s_callVN (idx := 92) zcX0 calX0_has virX0_has dscX0_has (by decide +kernel) (zNW4 93 rfl rfl) (by decide +kernel)
theorem iX8_locals_8 : zSnd zZC zmX8_locals 8 (o_if0 (fun x => x = 0) 23 11) := s_if_eq (off := 15) (by decide +kernel) (by decide +kernel)
theorem iX8_locals_11 : zSnd zZC zmX8_locals 11 (o_aload 0 12) := s_aload_n (k := 0) (by decide +kernel) rfl
theorem iX8_locals_12 : zSnd zZC zmX8_locals 12 (o_getf zYC 0 4 15) := s_getf zcX8 fX8_30 (by decide +kernel) (by decide +kernel)
theorem iX8_locals_15 : zSnd zZC zmX8_locals 15 (o_getf zYC 8 3 18) := s_getf zcX0 fX8_104 (by decide +kernel) (by decide +kernel)
theorem iX8_locals_18 : zSnd zZC zmX8_locals 18 (o_iload 1 19) := s_iload_n (k := 1) (by decide +kernel) rfl
theorem iX8_locals_19 : zSnd zZC zmX8_locals 19 (o_ald zYC .int 20) := s_iald (by decide +kernel)
theorem iX8_locals_20 : zSnd zZC zmX8_locals 20 (o_goto 24) := s_goto (off := 4) (by decide +kernel) (by decide +kernel)
theorem iX8_locals_23 : zSnd zZC zmX8_locals 23 (o_ic (-1) 24) := s_iconst (i := (-1)) (by decide +kernel) (by decide +kernel)
theorem iX8_locals_24 : zSnd zZC zmX8_locals 24 (o_iret) := s_iret rfl (by decide +kernel)
def kX8_locals : List (Nat × zOp) := [(0, o_aload 0 1),
  (1, o_getf zYC 0 4 4),
  (4, o_iload 1 5),
  (5, o_callV zZC 8 zmX0_has 1 1 8),
  (8, o_if0 (fun x => x = 0) 23 11),
  (11, o_aload 0 12),
  (12, o_getf zYC 0 4 15),
  (15, o_getf zYC 8 3 18),
  (18, o_iload 1 19),
  (19, o_ald zYC .int 20),
  (20, o_goto 24),
  (23, o_ic (-1) 24),
  (24, o_iret)]
set_option maxRecDepth 100000 in
theorem ksX8_locals : ∀ q ∈ kX8_locals, zSnd zZC zmX8_locals q.1 q.2 := zcc iX8_locals_0 (zcc iX8_locals_1 (zcc iX8_locals_4 (zcc iX8_locals_5 (zcc iX8_locals_8 (zcc iX8_locals_11 (zcc iX8_locals_12 (zcc iX8_locals_15 (zcc iX8_locals_18 (zcc iX8_locals_19 (zcc iX8_locals_20 (zcc iX8_locals_23 (zcc iX8_locals_24 zcn))))))))))))
theorem iX1_turnFrames_0 : zSnd zZC zmX1_turnFrames 0 (o_aload 0 1) := s_aload_n (k := 0) (by decide +kernel) rfl
theorem iX1_turnFrames_1 : zSnd zZC zmX1_turnFrames 1 (o_getf zYC 4 3 4) := s_getf zcX1 fX1_21 (by decide +kernel) (by decide +kernel)
theorem iX1_turnFrames_4 : zSnd zZC zmX1_turnFrames 4 (o_getf zYC 6 3 7) := s_getf zcX5 fX1_128 (by decide +kernel) (by decide +kernel)
theorem iX1_turnFrames_7 : zSnd zZC zmX1_turnFrames 7 (o_sw [([2, 3, 4], 60), ([5], 85), ([11], 95)] 105) := s_tsw (dflt := 98) (lo := 2) (hi := 11) (offs := #[53, 53, 53, 78, 98, 98, 98, 98, 98, 88]) (len := 53) (by decide +kernel) (by decide +kernel) (by decide +kernel) (by decide +kernel)
theorem iX1_turnFrames_60 : zSnd zZC zmX1_turnFrames 60 (o_aload 0 61) := s_aload_n (k := 0) (by decide +kernel) rfl
theorem iX1_turnFrames_61 : zSnd zZC zmX1_turnFrames 61 (o_getf zYC 4 2 64) := s_getf zcX1 fX1_12 (by decide +kernel) (by decide +kernel)
theorem iX1_turnFrames_64 : zSnd zZC zmX1_turnFrames 64 (o_aload 0 65) := s_aload_n (k := 0) (by decide +kernel) rfl
theorem iX1_turnFrames_65 : zSnd zZC zmX1_turnFrames 65 (o_getf zYC 4 3 68) := s_getf zcX1 fX1_21 (by decide +kernel) (by decide +kernel)
theorem iX1_turnFrames_68 : zSnd zZC zmX1_turnFrames 68 (o_getf zYC 6 3 71) := s_getf zcX5 fX1_128 (by decide +kernel) (by decide +kernel)
theorem iX1_turnFrames_71 : zSnd zZC zmX1_turnFrames 71 (o_aload 0 72) := s_aload_n (k := 0) (by decide +kernel) rfl
theorem iX1_turnFrames_72 : zSnd zZC zmX1_turnFrames 72 (o_getf zYC 4 3 75) := s_getf zcX1 fX1_21 (by decide +kernel) (by decide +kernel)
theorem iX1_turnFrames_75 : zSnd zZC zmX1_turnFrames 75 (o_getf zYC 6 4 78) := s_getf zcX5 fX1_159 (by decide +kernel) (by decide +kernel)
theorem iX1_turnFrames_78 : zSnd zZC zmX1_turnFrames 78 (o_l2i 79) := s_l2i (by decide +kernel)
set_option maxRecDepth 20000 in
theorem iX1_turnFrames_79 : zSnd zZC zmX1_turnFrames 79 (o_callV zZC 5 zmX3_open 2 0 82) := s_callVN (idx := 162) zcX3 calX3_open virX3_open dscX3_open (by decide +kernel) (zNW4 18 rfl rfl) (by decide +kernel)
theorem iX1_turnFrames_82 : zSnd zZC zmX1_turnFrames 82 (o_goto 105) := s_goto (off := 23) (by decide +kernel) (by decide +kernel)
theorem iX1_turnFrames_85 : zSnd zZC zmX1_turnFrames 85 (o_aload 0 86) := s_aload_n (k := 0) (by decide +kernel) rfl
theorem iX1_turnFrames_86 : zSnd zZC zmX1_turnFrames 86 (o_getf zYC 4 2 89) := s_getf zcX1 fX1_12 (by decide +kernel) (by decide +kernel)
set_option maxRecDepth 20000 in
theorem iX1_turnFrames_89 : zSnd zZC zmX1_turnFrames 89 (o_callV zZC 5 zmX3_turnToElse 0 0 92) := s_callVN (idx := 165) zcX3 calX3_turnToElse virX3_turnToElse dscX3_turnToElse (by decide +kernel) (zNW4 19 rfl rfl) (by decide +kernel)
theorem iX1_turnFrames_92 : zSnd zZC zmX1_turnFrames 92 (o_goto 105) := s_goto (off := 13) (by decide +kernel) (by decide +kernel)
theorem iX1_turnFrames_95 : zSnd zZC zmX1_turnFrames 95 (o_aload 0 96) := s_aload_n (k := 0) (by decide +kernel) rfl
theorem iX1_turnFrames_96 : zSnd zZC zmX1_turnFrames 96 (o_getf zYC 4 2 99) := s_getf zcX1 fX1_12 (by decide +kernel) (by decide +kernel)
set_option maxRecDepth 20000 in
theorem iX1_turnFrames_99 : zSnd zZC zmX1_turnFrames 99 (o_callV zZC 5 zmX3_close 0 0 102) := s_callVN (idx := 168) zcX3 calX3_close virX3_close dscX3_close (by decide +kernel) (zNW4 23 rfl rfl) (by decide +kernel)
theorem iX1_turnFrames_102 : zSnd zZC zmX1_turnFrames 102 (o_goto 105) := s_goto (off := 3) (by decide +kernel) (by decide +kernel)
theorem iX1_turnFrames_105 : zSnd zZC zmX1_turnFrames 105 (o_vret) := s_vret rfl (by decide +kernel)
def kX1_turnFrames : List (Nat × zOp) := [(0, o_aload 0 1),
  (1, o_getf zYC 4 3 4),
  (4, o_getf zYC 6 3 7),
  (7, o_sw [([2, 3, 4], 60), ([5], 85), ([11], 95)] 105),
  (60, o_aload 0 61),
  (61, o_getf zYC 4 2 64),
  (64, o_aload 0 65),
  (65, o_getf zYC 4 3 68),
  (68, o_getf zYC 6 3 71),
  (71, o_aload 0 72),
  (72, o_getf zYC 4 3 75),
  (75, o_getf zYC 6 4 78),
  (78, o_l2i 79),
  (79, o_callV zZC 5 zmX3_open 2 0 82),
  (82, o_goto 105),
  (85, o_aload 0 86),
  (86, o_getf zYC 4 2 89),
  (89, o_callV zZC 5 zmX3_turnToElse 0 0 92),
  (92, o_goto 105),
  (95, o_aload 0 96),
  (96, o_getf zYC 4 2 99),
  (99, o_callV zZC 5 zmX3_close 0 0 102),
  (102, o_goto 105),
  (105, o_vret)]
set_option maxRecDepth 100000 in
theorem ksX1_turnFrames : ∀ q ∈ kX1_turnFrames, zSnd zZC zmX1_turnFrames q.1 q.2 := zcc iX1_turnFrames_0 (zcc iX1_turnFrames_1 (zcc iX1_turnFrames_4 (zcc iX1_turnFrames_7 (zcc iX1_turnFrames_60 (zcc iX1_turnFrames_61 (zcc iX1_turnFrames_64 (zcc iX1_turnFrames_65 (zcc iX1_turnFrames_68 (zcc iX1_turnFrames_71 (zcc iX1_turnFrames_72 (zcc iX1_turnFrames_75 (zcc iX1_turnFrames_78 (zcc iX1_turnFrames_79 (zcc iX1_turnFrames_82 (zcc iX1_turnFrames_85 (zcc iX1_turnFrames_86 (zcc iX1_turnFrames_89 (zcc iX1_turnFrames_92 (zcc iX1_turnFrames_95 (zcc iX1_turnFrames_96 (zcc iX1_turnFrames_99 (zcc iX1_turnFrames_102 (zcc iX1_turnFrames_105 zcn)))))))))))))))))))))))
theorem iX4_length_0 : zSnd zZC zmX4_length 0 (o_aload 0 1) := s_aload_n (k := 0) (by decide +kernel) rfl
theorem iX4_length_1 : zSnd zZC zmX4_length 1 (o_getf zYC 1 2 4) := s_getf zcX4 fX4_19 (by decide +kernel) (by decide +kernel)
theorem iX4_length_4 : zSnd zZC zmX4_length 4 (o_istore 1 5) := s_istore_n (k := 1) (by decide +kernel) rfl (by decide +kernel)
theorem iX4_length_5 : zSnd zZC zmX4_length 5 (o_aload 0 6) := s_aload_n (k := 0) (by decide +kernel) rfl
set_option maxRecDepth 20000 in
theorem iX4_length_6 : zSnd zZC zmX4_length 6 (o_callV zZC 1 zmX4_number 0 2 9) := s_callV (idx := 43) zcX4 calX4_number virX4_number dscX4_number (by decide +kernel) (zWS2 161 rfl rfl) (by decide +kernel)
theorem iX4_length_9 : zSnd zZC zmX4_length 9 (o_lstore 2 10) := s_lstore_n (k := 2) (by decide +kernel) rfl (by decide +kernel)
theorem iX4_length_10 : zSnd zZC zmX4_length 10 (o_lload 2 11) := s_lload_n (k := 2) (by decide +kernel) rfl
theorem iX4_length_11 : zSnd zZC zmX4_length 11 (o_aload 0 12) := s_aload_n (k := 0) (by decide +kernel) rfl
theorem iX4_length_12 : zSnd zZC zmX4_length 12 (o_getf zYC 1 3 15) := s_getf zcX4 fX4_22 (by decide +kernel) (by decide +kernel)
theorem iX4_length_15 : zSnd zZC zmX4_length 15 (o_aload 0 16) := s_aload_n (k := 0) (by decide +kernel) rfl
theorem iX4_length_16 : zSnd zZC zmX4_length 16 (o_getf zYC 1 2 19) := s_getf zcX4 fX4_19 (by decide +kernel) (by decide +kernel)
theorem iX4_length_19 : zSnd zZC zmX4_length 19 (o_ibin (fun x y => x - y) 20) := s_isub (by decide +kernel)
theorem iX4_length_20 : zSnd zZC zmX4_length 20 (o_i2l 21) := s_i2l (by decide +kernel)
theorem iX4_length_21 : zSnd zZC zmX4_length 21 (o_lif (fun x y => x ≤ y) 31 25) := s_lle (off := 9) (by decide +kernel) (by decide +kernel) (by decide +kernel)
theorem iX4_length_25 : zSnd zZC zmX4_length 25 (o_aload 0 26) := s_aload_n (k := 0) (by decide +kernel) rfl
theorem iX4_length_26 : zSnd zZC zmX4_length 26 (o_ic 1 27) := s_iconst (i := 1) (by decide +kernel) (by decide +kernel)
theorem iX4_length_27 : zSnd zZC zmX4_length 27 (o_iload 1 28) := s_iload_n (k := 1) (by decide +kernel) rfl
set_option maxRecDepth 20000 in
theorem iX4_length_28 : zSnd zZC zmX4_length 28 (o_callV zZC 1 zmX4_fail 2 0 31) := s_callV (idx := 35) zcX4 calX4_fail virX4_fail dscX4_fail (by decide +kernel) (zWS2 134 rfl rfl) (by decide +kernel)
theorem iX4_length_31 : zSnd zZC zmX4_length 31 (o_aload 0 32) := s_aload_n (k := 0) (by decide +kernel) rfl
theorem iX4_length_32 : zSnd zZC zmX4_length 32 (o_getf zYC 1 4 35) := s_getf zcX4 fX4_25 (by decide +kernel) (by decide +kernel)
theorem iX4_length_35 : zSnd zZC zmX4_length 35 (o_if0 (fun x => x = 0) 38 43) := s_if_ne (off := 8) (by decide +kernel) (by decide +kernel)
theorem iX4_length_38 : zSnd zZC zmX4_length 38 (o_lload 2 39) := s_lload_n (k := 2) (by decide +kernel) rfl
theorem iX4_length_39 : zSnd zZC zmX4_length 39 (o_l2i 40) := s_l2i (by decide +kernel)
theorem iX4_length_40 : zSnd zZC zmX4_length 40 (o_goto 44) := s_goto (off := 4) (by decide +kernel) (by decide +kernel)
theorem iX4_length_43 : zSnd zZC zmX4_length 43 (o_ic 0 44) := s_iconst (i := 0) (by decide +kernel) (by decide +kernel)
theorem iX4_length_44 : zSnd zZC zmX4_length 44 (o_iret) := s_iret rfl (by decide +kernel)
def kX4_length : List (Nat × zOp) := [(0, o_aload 0 1),
  (1, o_getf zYC 1 2 4),
  (4, o_istore 1 5),
  (5, o_aload 0 6),
  (6, o_callV zZC 1 zmX4_number 0 2 9),
  (9, o_lstore 2 10),
  (10, o_lload 2 11),
  (11, o_aload 0 12),
  (12, o_getf zYC 1 3 15),
  (15, o_aload 0 16),
  (16, o_getf zYC 1 2 19),
  (19, o_ibin (fun x y => x - y) 20),
  (20, o_i2l 21),
  (21, o_lif (fun x y => x ≤ y) 31 25),
  (25, o_aload 0 26),
  (26, o_ic 1 27),
  (27, o_iload 1 28),
  (28, o_callV zZC 1 zmX4_fail 2 0 31),
  (31, o_aload 0 32),
  (32, o_getf zYC 1 4 35),
  (35, o_if0 (fun x => x = 0) 38 43),
  (38, o_lload 2 39),
  (39, o_l2i 40),
  (40, o_goto 44),
  (43, o_ic 0 44),
  (44, o_iret)]
set_option maxRecDepth 100000 in
theorem ksX4_length : ∀ q ∈ kX4_length, zSnd zZC zmX4_length q.1 q.2 := zcc iX4_length_0 (zcc iX4_length_1 (zcc iX4_length_4 (zcc iX4_length_5 (zcc iX4_length_6 (zcc iX4_length_9 (zcc iX4_length_10 (zcc iX4_length_11 (zcc iX4_length_12 (zcc iX4_length_15 (zcc iX4_length_16 (zcc iX4_length_19 (zcc iX4_length_20 (zcc iX4_length_21 (zcc iX4_length_25 (zcc iX4_length_26 (zcc iX4_length_27 (zcc iX4_length_28 (zcc iX4_length_31 (zcc iX4_length_32 (zcc iX4_length_35 (zcc iX4_length_38 (zcc iX4_length_39 (zcc iX4_length_40 (zcc iX4_length_43 (zcc iX4_length_44 zcn)))))))))))))))))))))))))
theorem iX4_name_0 : zSnd zZC zmX4_name 0 (o_aload 0 1) := s_aload_n (k := 0) (by decide +kernel) rfl
theorem iX4_name_1 : zSnd zZC zmX4_name 1 (o_getf zYC 1 2 4) := s_getf zcX4 fX4_19 (by decide +kernel) (by decide +kernel)
theorem iX4_name_4 : zSnd zZC zmX4_name 4 (o_istore 1 5) := s_istore_n (k := 1) (by decide +kernel) rfl (by decide +kernel)
theorem iX4_name_5 : zSnd zZC zmX4_name 5 (o_aload 0 6) := s_aload_n (k := 0) (by decide +kernel) rfl
set_option maxRecDepth 20000 in
theorem iX4_name_6 : zSnd zZC zmX4_name 6 (o_callV zZC 1 zmX4_number 0 2 9) := s_callV (idx := 43) zcX4 calX4_number virX4_number dscX4_number (by decide +kernel) (zWS2 161 rfl rfl) (by decide +kernel)
theorem iX4_name_9 : zSnd zZC zmX4_name 9 (o_lstore 2 10) := s_lstore_n (k := 2) (by decide +kernel) rfl (by decide +kernel)
theorem iX4_name_10 : zSnd zZC zmX4_name 10 (o_lload 2 11) := s_lload_n (k := 2) (by decide +kernel) rfl
theorem iX4_name_11 : zSnd zZC zmX4_name 11 (o_lc 1 12) := s_lconst (i := 1) (by decide +kernel) (by decide +kernel)
theorem iX4_name_12 : zSnd zZC zmX4_name 12 (o_lif (fun x y => x < y) 39 16) := s_llt (off := 26) (by decide +kernel) (by decide +kernel) (by decide +kernel)
theorem iX4_name_16 : zSnd zZC zmX4_name 16 (o_lload 2 17) := s_lload_n (k := 2) (by decide +kernel) rfl
set_option maxRecDepth 20000 in
theorem iX4_name_17 : zSnd zZC zmX4_name 17 (o_lc 100 20) := s_ldc2 (i := 55) (by decide +kernel) (zWS2 207 rfl rfl)
theorem iX4_name_20 : zSnd zZC zmX4_name 20 (o_lif (fun x y => y < x) 39 24) := s_lgt (off := 18) (by decide +kernel) (by decide +kernel) (by decide +kernel)
theorem iX4_name_24 : zSnd zZC zmX4_name 24 (o_lload 2 25) := s_lload_n (k := 2) (by decide +kernel) rfl
theorem iX4_name_25 : zSnd zZC zmX4_name 25 (o_aload 0 26) := s_aload_n (k := 0) (by decide +kernel) rfl
theorem iX4_name_26 : zSnd zZC zmX4_name 26 (o_getf zYC 1 3 29) := s_getf zcX4 fX4_22 (by decide +kernel) (by decide +kernel)
theorem iX4_name_29 : zSnd zZC zmX4_name 29 (o_aload 0 30) := s_aload_n (k := 0) (by decide +kernel) rfl
theorem iX4_name_30 : zSnd zZC zmX4_name 30 (o_getf zYC 1 2 33) := s_getf zcX4 fX4_19 (by decide +kernel) (by decide +kernel)
theorem iX4_name_33 : zSnd zZC zmX4_name 33 (o_ibin (fun x y => x - y) 34) := s_isub (by decide +kernel)
theorem iX4_name_34 : zSnd zZC zmX4_name 34 (o_i2l 35) := s_i2l (by decide +kernel)
theorem iX4_name_35 : zSnd zZC zmX4_name 35 (o_lif (fun x y => x ≤ y) 45 39) := s_lle (off := 9) (by decide +kernel) (by decide +kernel) (by decide +kernel)
theorem iX4_name_39 : zSnd zZC zmX4_name 39 (o_aload 0 40) := s_aload_n (k := 0) (by decide +kernel) rfl
theorem iX4_name_40 : zSnd zZC zmX4_name 40 (o_ic 1 41) := s_iconst (i := 1) (by decide +kernel) (by decide +kernel)
theorem iX4_name_41 : zSnd zZC zmX4_name 41 (o_iload 1 42) := s_iload_n (k := 1) (by decide +kernel) rfl
set_option maxRecDepth 20000 in
theorem iX4_name_42 : zSnd zZC zmX4_name 42 (o_callV zZC 1 zmX4_fail 2 0 45) := s_callV (idx := 35) zcX4 calX4_fail virX4_fail dscX4_fail (by decide +kernel) (zWS2 134 rfl rfl) (by decide +kernel)
theorem iX4_name_45 : zSnd zZC zmX4_name 45 (o_aload 0 46) := s_aload_n (k := 0) (by decide +kernel) rfl
theorem iX4_name_46 : zSnd zZC zmX4_name 46 (o_getf zYC 1 4 49) := s_getf zcX4 fX4_25 (by decide +kernel) (by decide +kernel)
theorem iX4_name_49 : zSnd zZC zmX4_name 49 (o_if0 (fun x => x = 0) 52 57) := s_if_ne (off := 8) (by decide +kernel) (by decide +kernel)
theorem iX4_name_52 : zSnd zZC zmX4_name 52 (o_lload 2 53) := s_lload_n (k := 2) (by decide +kernel) rfl
theorem iX4_name_53 : zSnd zZC zmX4_name 53 (o_l2i 54) := s_l2i (by decide +kernel)
theorem iX4_name_54 : zSnd zZC zmX4_name 54 (o_goto 58) := s_goto (off := 4) (by decide +kernel) (by decide +kernel)
theorem iX4_name_57 : zSnd zZC zmX4_name 57 (o_ic 0 58) := s_iconst (i := 0) (by decide +kernel) (by decide +kernel)
theorem iX4_name_58 : zSnd zZC zmX4_name 58 (o_istore 4 60) := s_istore (by decide +kernel) (by decide +kernel)
theorem iX4_name_60 : zSnd zZC zmX4_name 60 (o_ic 0 61) := s_iconst (i := 0) (by decide +kernel) (by decide +kernel)
theorem iX4_name_61 : zSnd zZC zmX4_name 61 (o_istore 5 63) := s_istore (by decide +kernel) (by decide +kernel)
theorem iX4_name_63 : zSnd zZC zmX4_name 63 (o_iload 5 65) := s_iload (by decide +kernel)
theorem iX4_name_65 : zSnd zZC zmX4_name 65 (o_iload 4 67) := s_iload (by decide +kernel)
theorem iX4_name_67 : zSnd zZC zmX4_name 67 (o_icmp (fun x y => y ≤ x) 109 70) := s_icmp_ge (off := 42) (by decide +kernel) (by decide +kernel)
theorem iX4_name_70 : zSnd zZC zmX4_name 70 (o_aload 0 71) := s_aload_n (k := 0) (by decide +kernel) rfl
theorem iX4_name_71 : zSnd zZC zmX4_name 71 (o_getf zYC 1 4 74) := s_getf zcX4 fX4_25 (by decide +kernel) (by decide +kernel)
theorem iX4_name_74 : zSnd zZC zmX4_name 74 (o_if0 (fun x => x = 0) 77 109) := s_if_ne (off := 35) (by decide +kernel) (by decide +kernel)
theorem iX4_name_77 : zSnd zZC zmX4_name 77 (o_aload 0 78) := s_aload_n (k := 0) (by decide +kernel) rfl
set_option maxRecDepth 20000 in
theorem iX4_name_78 : zSnd zZC zmX4_name 78 (o_callV zZC 1 zmX4_octet 0 1 81) := s_callV (idx := 31) zcX4 calX4_octet virX4_octet dscX4_octet (by decide +kernel) (zWS2 130 rfl rfl) (by decide +kernel)
theorem iX4_name_81 : zSnd zZC zmX4_name 81 (o_istore 6 83) := s_istore (by decide +kernel) (by decide +kernel)
theorem iX4_name_83 : zSnd zZC zmX4_name 83 (o_iload 6 85) := s_iload (by decide +kernel)
theorem iX4_name_85 : zSnd zZC zmX4_name 85 (o_ic 33 87) := s_bipush (i := 33) (by decide +kernel) (by decide +kernel)
theorem iX4_name_87 : zSnd zZC zmX4_name 87 (o_icmp (fun x y => x < y) 97 90) := s_icmp_lt (off := 10) (by decide +kernel) (by decide +kernel)
theorem iX4_name_90 : zSnd zZC zmX4_name 90 (o_iload 6 92) := s_iload (by decide +kernel)
theorem iX4_name_92 : zSnd zZC zmX4_name 92 (o_ic 126 94) := s_bipush (i := 126) (by decide +kernel) (by decide +kernel)
theorem iX4_name_94 : zSnd zZC zmX4_name 94 (o_icmp (fun x y => x ≤ y) 103 97) := s_icmp_le (off := 9) (by decide +kernel) (by decide +kernel)
theorem iX4_name_97 : zSnd zZC zmX4_name 97 (o_aload 0 98) := s_aload_n (k := 0) (by decide +kernel) rfl
theorem iX4_name_98 : zSnd zZC zmX4_name 98 (o_ic 1 99) := s_iconst (i := 1) (by decide +kernel) (by decide +kernel)
theorem iX4_name_99 : zSnd zZC zmX4_name 99 (o_iload 1 100) := s_iload_n (k := 1) (by decide +kernel) rfl
set_option maxRecDepth 20000 in
theorem iX4_name_100 : zSnd zZC zmX4_name 100 (o_callV zZC 1 zmX4_fail 2 0 103) := s_callV (idx := 35) zcX4 calX4_fail virX4_fail dscX4_fail (by decide +kernel) (zWS2 134 rfl rfl) (by decide +kernel)
theorem iX4_name_103 : zSnd zZC zmX4_name 103 (o_iinc 5 1 106) := s_iinc (a := 1) (by decide +kernel) (by decide +kernel) (by decide +kernel)
theorem iX4_name_106 : zSnd zZC zmX4_name 106 (o_goto 63) := s_goto (off := (-43)) (by decide +kernel) (by decide +kernel)
theorem iX4_name_109 : zSnd zZC zmX4_name 109 (o_aload 0 110) := s_aload_n (k := 0) (by decide +kernel) rfl
theorem iX4_name_110 : zSnd zZC zmX4_name 110 (o_getf zYC 1 4 113) := s_getf zcX4 fX4_25 (by decide +kernel) (by decide +kernel)
theorem iX4_name_113 : zSnd zZC zmX4_name 113 (o_if0 (fun x => x = 0) 116 121) := s_if_ne (off := 8) (by decide +kernel) (by decide +kernel)
theorem iX4_name_116 : zSnd zZC zmX4_name 116 (o_iload 4 118) := s_iload (by decide +kernel)
theorem iX4_name_118 : zSnd zZC zmX4_name 118 (o_goto 122) := s_goto (off := 4) (by decide +kernel) (by decide +kernel)
theorem iX4_name_121 : zSnd zZC zmX4_name 121 (o_ic 0 122) := s_iconst (i := 0) (by decide +kernel) (by decide +kernel)
theorem iX4_name_122 : zSnd zZC zmX4_name 122 (o_iret) := s_iret rfl (by decide +kernel)
def kX4_name : List (Nat × zOp) := [(0, o_aload 0 1),
  (1, o_getf zYC 1 2 4),
  (4, o_istore 1 5),
  (5, o_aload 0 6),
  (6, o_callV zZC 1 zmX4_number 0 2 9),
  (9, o_lstore 2 10),
  (10, o_lload 2 11),
  (11, o_lc 1 12),
  (12, o_lif (fun x y => x < y) 39 16),
  (16, o_lload 2 17),
  (17, o_lc 100 20),
  (20, o_lif (fun x y => y < x) 39 24),
  (24, o_lload 2 25),
  (25, o_aload 0 26),
  (26, o_getf zYC 1 3 29),
  (29, o_aload 0 30),
  (30, o_getf zYC 1 2 33),
  (33, o_ibin (fun x y => x - y) 34),
  (34, o_i2l 35),
  (35, o_lif (fun x y => x ≤ y) 45 39),
  (39, o_aload 0 40),
  (40, o_ic 1 41),
  (41, o_iload 1 42),
  (42, o_callV zZC 1 zmX4_fail 2 0 45),
  (45, o_aload 0 46),
  (46, o_getf zYC 1 4 49),
  (49, o_if0 (fun x => x = 0) 52 57),
  (52, o_lload 2 53),
  (53, o_l2i 54),
  (54, o_goto 58),
  (57, o_ic 0 58),
  (58, o_istore 4 60),
  (60, o_ic 0 61),
  (61, o_istore 5 63),
  (63, o_iload 5 65),
  (65, o_iload 4 67),
  (67, o_icmp (fun x y => y ≤ x) 109 70),
  (70, o_aload 0 71),
  (71, o_getf zYC 1 4 74),
  (74, o_if0 (fun x => x = 0) 77 109),
  (77, o_aload 0 78),
  (78, o_callV zZC 1 zmX4_octet 0 1 81),
  (81, o_istore 6 83),
  (83, o_iload 6 85),
  (85, o_ic 33 87),
  (87, o_icmp (fun x y => x < y) 97 90),
  (90, o_iload 6 92),
  (92, o_ic 126 94),
  (94, o_icmp (fun x y => x ≤ y) 103 97),
  (97, o_aload 0 98),
  (98, o_ic 1 99),
  (99, o_iload 1 100),
  (100, o_callV zZC 1 zmX4_fail 2 0 103),
  (103, o_iinc 5 1 106),
  (106, o_goto 63),
  (109, o_aload 0 110),
  (110, o_getf zYC 1 4 113),
  (113, o_if0 (fun x => x = 0) 116 121),
  (116, o_iload 4 118),
  (118, o_goto 122),
  (121, o_ic 0 122),
  (122, o_iret)]
set_option maxRecDepth 100000 in
theorem ksX4_name : ∀ q ∈ kX4_name, zSnd zZC zmX4_name q.1 q.2 := zcc iX4_name_0 (zcc iX4_name_1 (zcc iX4_name_4 (zcc iX4_name_5 (zcc iX4_name_6 (zcc iX4_name_9 (zcc iX4_name_10 (zcc iX4_name_11 (zcc iX4_name_12 (zcc iX4_name_16 (zcc iX4_name_17 (zcc iX4_name_20 (zcc iX4_name_24 (zcc iX4_name_25 (zcc iX4_name_26 (zcc iX4_name_29 (zcc iX4_name_30 (zcc iX4_name_33 (zcc iX4_name_34 (zcc iX4_name_35 (zcc iX4_name_39 (zcc iX4_name_40 (zcc iX4_name_41 (zcc iX4_name_42 (zcc iX4_name_45 (zcc iX4_name_46 (zcc iX4_name_49 (zcc iX4_name_52 (zcc iX4_name_53 (zcc iX4_name_54 (zcc iX4_name_57 (zcc iX4_name_58 (zcc iX4_name_60 (zcc iX4_name_61 (zcc iX4_name_63 (zcc iX4_name_65 (zcc iX4_name_67 (zcc iX4_name_70 (zcc iX4_name_71 (zcc iX4_name_74 (zcc iX4_name_77 (zcc iX4_name_78 (zcc iX4_name_81 (zcc iX4_name_83 (zcc iX4_name_85 (zcc iX4_name_87 (zcc iX4_name_90 (zcc iX4_name_92 (zcc iX4_name_94 (zcc iX4_name_97 (zcc iX4_name_98 (zcc iX4_name_99 (zcc iX4_name_100 (zcc iX4_name_103 (zcc iX4_name_106 (zcc iX4_name_109 (zcc iX4_name_110 (zcc iX4_name_113 (zcc iX4_name_116 (zcc iX4_name_118 (zcc iX4_name_121 (zcc iX4_name_122 zcn)))))))))))))))))))))))))))))))))))))))))))))))))))))))))))))
theorem iX4_rowLength_0 : zSnd zZC zmX4_rowLength 0 (o_aload 0 1) := s_aload_n (k := 0) (by decide +kernel) rfl
set_option maxRecDepth 20000 in
theorem iX4_rowLength_1 : zSnd zZC zmX4_rowLength 1 (o_callV zZC 1 zmX4_number 0 2 4) := s_callV (idx := 43) zcX4 calX4_number virX4_number dscX4_number (by decide +kernel) (zWS2 161 rfl rfl) (by decide +kernel)
set_option maxRecDepth 20000 in
theorem iX4_rowLength_4 : zSnd zZC zmX4_rowLength 4 (o_lc 16000 7) := s_ldc2 (i := 47) (by decide +kernel) (zWS2 172 rfl rfl)
set_option maxRecDepth 20000 in
theorem iX4_rowLength_7 : zSnd zZC zmX4_rowLength 7 (o_lmin 10) := s_lmin lminwC_1 lminwC_2 lminwC_3 (zWS2 173 rfl rfl) (by decide +kernel) (by decide +kernel)
theorem iX4_rowLength_10 : zSnd zZC zmX4_rowLength 10 (o_l2i 11) := s_l2i (by decide +kernel)
theorem iX4_rowLength_11 : zSnd zZC zmX4_rowLength 11 (o_iret) := s_iret rfl (by decide +kernel)
def kX4_rowLength : List (Nat × zOp) := [(0, o_aload 0 1),
  (1, o_callV zZC 1 zmX4_number 0 2 4),
  (4, o_lc 16000 7),
  (7, o_lmin 10),
  (10, o_l2i 11),
  (11, o_iret)]
set_option maxRecDepth 100000 in
theorem ksX4_rowLength : ∀ q ∈ kX4_rowLength, zSnd zZC zmX4_rowLength q.1 q.2 := zcc iX4_rowLength_0 (zcc iX4_rowLength_1 (zcc iX4_rowLength_4 (zcc iX4_rowLength_7 (zcc iX4_rowLength_10 (zcc iX4_rowLength_11 zcn)))))
theorem iX4_type_0 : zSnd zZC zmX4_type 0 (o_aload 0 1) := s_aload_n (k := 0) (by decide +kernel) rfl
theorem iX4_type_1 : zSnd zZC zmX4_type 1 (o_ic 126 3) := s_bipush (i := 126) (by decide +kernel) (by decide +kernel)
theorem iX4_type_3 : zSnd zZC zmX4_type 3 (o_ic 127 5) := s_bipush (i := 127) (by decide +kernel) (by decide +kernel)
set_option maxRecDepth 20000 in
theorem iX4_type_5 : zSnd zZC zmX4_type 5 (o_callV zZC 1 zmX4_octetWithin 2 1 8) := s_callV (idx := 39) zcX4 calX4_octetWithin virX4_octetWithin dscX4_octetWithin (by decide +kernel) (zWS2 190 rfl rfl) (by decide +kernel)
theorem iX4_type_8 : zSnd zZC zmX4_type 8 (o_iret) := s_iret rfl (by decide +kernel)
def kX4_type : List (Nat × zOp) := [(0, o_aload 0 1),
  (1, o_ic 126 3),
  (3, o_ic 127 5),
  (5, o_callV zZC 1 zmX4_octetWithin 2 1 8),
  (8, o_iret)]
set_option maxRecDepth 100000 in
theorem ksX4_type : ∀ q ∈ kX4_type, zSnd zZC zmX4_type q.1 q.2 := zcc iX4_type_0 (zcc iX4_type_1 (zcc iX4_type_3 (zcc iX4_type_5 (zcc iX4_type_8 zcn))))
theorem iX5_readArguments_0 : zSnd zZC zmX5_readArguments 0 (o_aload 0 1) := s_aload_n (k := 0) (by decide +kernel) rfl
theorem iX5_readArguments_1 : zSnd zZC zmX5_readArguments 1 (o_getf zYC 6 3 4) := s_getf zcX5 fX5_28 (by decide +kernel) (by decide +kernel)
theorem iX5_readArguments_4 : zSnd zZC zmX5_readArguments 4 (o_sw [([2, 3, 4], 200), ([12, 13, 16, 32, 33, 34, 35, 36, 265, 269], 212), ([17, 264, 268], 223), ([63, 64, 267], 258), ([65], 268), ([66], 278), ([266, 270], 241)] 288) := s_lsw (dflt := 284) (ps := #[(2, 196), (3, 196), (4, 196), (12, 208), (13, 208), (16, 208), (17, 219), (32, 208), (33, 208), (34, 208), (35, 208), (36, 208), (63, 254), (64, 254), (65, 264), (66, 274), (264, 219), (265, 208), (266, 237), (267, 254), (268, 219), (269, 208), (270, 237)]) (len := 196) (by decide +kernel) (by decide +kernel) (by decide +kernel) (by decide +kernel) (by decide +kernel)
theorem iX5_readArguments_200 : zSnd zZC zmX5_readArguments 200 (o_aload 0 201) := s_aload_n (k := 0) (by decide +kernel) rfl
theorem iX5_readArguments_201 : zSnd zZC zmX5_readArguments 201 (o_aload 1 202) := s_aload_n (k := 1) (by decide +kernel) rfl
set_option maxRecDepth 20000 in
theorem iX5_readArguments_202 : zSnd zZC zmX5_readArguments 202 (o_callV zZC 1 zmX4_blockType 0 1 205) := s_callVN (idx := 50) zcX4 calX4_blockType virX4_blockType dscX4_blockType (by decide +kernel) (zNW3 148 rfl rfl) (by decide +kernel)
theorem iX5_readArguments_205 : zSnd zZC zmX5_readArguments 205 (o_i2l 206) := s_i2l (by decide +kernel)
theorem iX5_readArguments_206 : zSnd zZC zmX5_readArguments 206 (o_putL zYC 6 4 209) := s_putL zcX5 fX5_53 (by decide +kernel) rfl rfl (by decide +kernel)
theorem iX5_readArguments_209 : zSnd zZC zmX5_readArguments 209 (o_goto 319) := s_goto (off := 110) (by decide +kernel) (by decide +kernel)
theorem iX5_readArguments_212 : zSnd zZC zmX5_readArguments 212 (o_aload 0 213) := s_aload_n (k := 0) (by decide +kernel) rfl
theorem iX5_readArguments_213 : zSnd zZC zmX5_readArguments 213 (o_aload 1 214) := s_aload_n (k := 1) (by decide +kernel) rfl
set_option maxRecDepth 20000 in
theorem iX5_readArguments_214 : zSnd zZC zmX5_readArguments 214 (o_callV zZC 1 zmX4_number 0 2 217) := s_callVN (idx := 31) zcX4 calX4_number virX4_number dscX4_number (by decide +kernel) (zNW3 122 rfl rfl) (by decide +kernel)
theorem iX5_readArguments_217 : zSnd zZC zmX5_readArguments 217 (o_putL zYC 6 4 220) := s_putL zcX5 fX5_53 (by decide +kernel) rfl rfl (by decide +kernel)
theorem iX5_readArguments_220 : zSnd zZC zmX5_readArguments 220 (o_goto 319) := s_goto (off := 99) (by decide +kernel) (by decide +kernel)
theorem iX5_readArguments_223 : zSnd zZC zmX5_readArguments 223 (o_aload 0 224) := s_aload_n (k := 0) (by decide +kernel) rfl
theorem iX5_readArguments_224 : zSnd zZC zmX5_readArguments 224 (o_aload 1 225) := s_aload_n (k := 1) (by decide +kernel) rfl
set_option maxRecDepth 20000 in
theorem iX5_readArguments_225 : zSnd zZC zmX5_readArguments 225 (o_callV zZC 1 zmX4_number 0 2 228) := s_callVN (idx := 31) zcX4 calX4_number virX4_number dscX4_number (by decide +kernel) (zNW3 122 rfl rfl) (by decide +kernel)
theorem iX5_readArguments_228 : zSnd zZC zmX5_readArguments 228 (o_putL zYC 6 4 231) := s_putL zcX5 fX5_53 (by decide +kernel) rfl rfl (by decide +kernel)
theorem iX5_readArguments_231 : zSnd zZC zmX5_readArguments 231 (o_aload 1 232) := s_aload_n (k := 1) (by decide +kernel) rfl
theorem iX5_readArguments_232 : zSnd zZC zmX5_readArguments 232 (o_ic 0 233) := s_iconst (i := 0) (by decide +kernel) (by decide +kernel)
theorem iX5_readArguments_233 : zSnd zZC zmX5_readArguments 233 (o_ic 0 234) := s_iconst (i := 0) (by decide +kernel) (by decide +kernel)
set_option maxRecDepth 20000 in
theorem iX5_readArguments_234 : zSnd zZC zmX5_readArguments 234 (o_callV zZC 1 zmX4_octetWithin 2 1 237) := s_callVN (idx := 57) zcX4 calX4_octetWithin virX4_octetWithin dscX4_octetWithin (by decide +kernel) (zNW3 152 rfl rfl) (by decide +kernel)
theorem iX5_readArguments_237 : zSnd zZC zmX5_readArguments 237 (o_pop 238) := s_pop (by decide +kernel)
theorem iX5_readArguments_238 : zSnd zZC zmX5_readArguments 238 (o_goto 319) := s_goto (off := 81) (by decide +kernel) (by decide +kernel)
theorem iX5_readArguments_241 : zSnd zZC zmX5_readArguments 241 (o_aload 1 242) := s_aload_n (k := 1) (by decide +kernel) rfl
theorem iX5_readArguments_242 : zSnd zZC zmX5_readArguments 242 (o_ic 0 243) := s_iconst (i := 0) (by decide +kernel) (by decide +kernel)
theorem iX5_readArguments_243 : zSnd zZC zmX5_readArguments 243 (o_ic 0 244) := s_iconst (i := 0) (by decide +kernel) (by decide +kernel)
set_option maxRecDepth 20000 in
theorem iX5_readArguments_244 : zSnd zZC zmX5_readArguments 244 (o_callV zZC 1 zmX4_octetWithin 2 1 247) := s_callVN (idx := 57) zcX4 calX4_octetWithin virX4_octetWithin dscX4_octetWithin (by decide +kernel) (zNW3 152 rfl rfl) (by decide +kernel)
theorem iX5_readArguments_247 : zSnd zZC zmX5_readArguments 247 (o_pop 248) := s_pop (by decide +kernel)
theorem iX5_readArguments_248 : zSnd zZC zmX5_readArguments 248 (o_aload 1 249) := s_aload_n (k := 1) (by decide +kernel) rfl
theorem iX5_readArguments_249 : zSnd zZC zmX5_readArguments 249 (o_ic 0 250) := s_iconst (i := 0) (by decide +kernel) (by decide +kernel)
theorem iX5_readArguments_250 : zSnd zZC zmX5_readArguments 250 (o_ic 0 251) := s_iconst (i := 0) (by decide +kernel) (by decide +kernel)
set_option maxRecDepth 20000 in
theorem iX5_readArguments_251 : zSnd zZC zmX5_readArguments 251 (o_callV zZC 1 zmX4_octetWithin 2 1 254) := s_callVN (idx := 57) zcX4 calX4_octetWithin virX4_octetWithin dscX4_octetWithin (by decide +kernel) (zNW3 152 rfl rfl) (by decide +kernel)
theorem iX5_readArguments_254 : zSnd zZC zmX5_readArguments 254 (o_pop 255) := s_pop (by decide +kernel)
theorem iX5_readArguments_255 : zSnd zZC zmX5_readArguments 255 (o_goto 319) := s_goto (off := 64) (by decide +kernel) (by decide +kernel)
theorem iX5_readArguments_258 : zSnd zZC zmX5_readArguments 258 (o_aload 1 259) := s_aload_n (k := 1) (by decide +kernel) rfl
theorem iX5_readArguments_259 : zSnd zZC zmX5_readArguments 259 (o_ic 0 260) := s_iconst (i := 0) (by decide +kernel) (by decide +kernel)
theorem iX5_readArguments_260 : zSnd zZC zmX5_readArguments 260 (o_ic 0 261) := s_iconst (i := 0) (by decide +kernel) (by decide +kernel)
set_option maxRecDepth 20000 in
theorem iX5_readArguments_261 : zSnd zZC zmX5_readArguments 261 (o_callV zZC 1 zmX4_octetWithin 2 1 264) := s_callVN (idx := 57) zcX4 calX4_octetWithin virX4_octetWithin dscX4_octetWithin (by decide +kernel) (zNW3 152 rfl rfl) (by decide +kernel)
theorem iX5_readArguments_264 : zSnd zZC zmX5_readArguments 264 (o_pop 265) := s_pop (by decide +kernel)
theorem iX5_readArguments_265 : zSnd zZC zmX5_readArguments 265 (o_goto 319) := s_goto (off := 54) (by decide +kernel) (by decide +kernel)
theorem iX5_readArguments_268 : zSnd zZC zmX5_readArguments 268 (o_aload 1 269) := s_aload_n (k := 1) (by decide +kernel) rfl
theorem iX5_readArguments_269 : zSnd zZC zmX5_readArguments 269 (o_ic 5 270) := s_iconst (i := 5) (by decide +kernel) (by decide +kernel)
theorem iX5_readArguments_270 : zSnd zZC zmX5_readArguments 270 (o_ic 7 272) := s_bipush (i := 7) (by decide +kernel) (by decide +kernel)
set_option maxRecDepth 20000 in
theorem iX5_readArguments_272 : zSnd zZC zmX5_readArguments 272 (o_callV zZC 1 zmX4_skipSigned 2 0 275) := s_callVN (idx := 61) zcX4 calX4_skipSigned virX4_skipSigned dscX4_skipSigned (by decide +kernel) (zNW3 153 rfl rfl) (by decide +kernel)
theorem iX5_readArguments_275 : zSnd zZC zmX5_readArguments 275 (o_goto 319) := s_goto (off := 44) (by decide +kernel) (by decide +kernel)
theorem iX5_readArguments_278 : zSnd zZC zmX5_readArguments 278 (o_aload 1 279) := s_aload_n (k := 1) (by decide +kernel) rfl
theorem iX5_readArguments_279 : zSnd zZC zmX5_readArguments 279 (o_ic 10 281) := s_bipush (i := 10) (by decide +kernel) (by decide +kernel)
theorem iX5_readArguments_281 : zSnd zZC zmX5_readArguments 281 (o_ic 0 282) := s_iconst (i := 0) (by decide +kernel) (by decide +kernel)
set_option maxRecDepth 20000 in
theorem iX5_readArguments_282 : zSnd zZC zmX5_readArguments 282 (o_callV zZC 1 zmX4_skipSigned 2 0 285) := s_callVN (idx := 61) zcX4 calX4_skipSigned virX4_skipSigned dscX4_skipSigned (by decide +kernel) (zNW3 153 rfl rfl) (by decide +kernel)
theorem iX5_readArguments_285 : zSnd zZC zmX5_readArguments 285 (o_goto 319) := s_goto (off := 34) (by decide +kernel) (by decide +kernel)
theorem iX5_readArguments_288 : zSnd zZC zmX5_readArguments 288 (o_aload 0 289) := s_aload_n (k := 0) (by decide +kernel) rfl
theorem iX5_readArguments_289 : zSnd zZC zmX5_readArguments 289 (o_getf zYC 6 3 292) := s_getf zcX5 fX5_28 (by decide +kernel) (by decide +kernel)
theorem iX5_readArguments_292 : zSnd zZC zmX5_readArguments 292 (o_ic 40 294) := s_bipush (i := 40) (by decide +kernel) (by decide +kernel)
theorem iX5_readArguments_294 : zSnd zZC zmX5_readArguments 294 (o_icmp (fun x y => x < y) 319 297) := s_icmp_lt (off := 25) (by decide +kernel) (by decide +kernel)
theorem iX5_readArguments_297 : zSnd zZC zmX5_readArguments 297 (o_aload 0 298) := s_aload_n (k := 0) (by decide +kernel) rfl
theorem iX5_readArguments_298 : zSnd zZC zmX5_readArguments 298 (o_getf zYC 6 3 301) := s_getf zcX5 fX5_28 (by decide +kernel) (by decide +kernel)
theorem iX5_readArguments_301 : zSnd zZC zmX5_readArguments 301 (o_ic 62 303) := s_bipush (i := 62) (by decide +kernel) (by decide +kernel)
theorem iX5_readArguments_303 : zSnd zZC zmX5_readArguments 303 (o_icmp (fun x y => y < x) 319 306) := s_icmp_gt (off := 16) (by decide +kernel) (by decide +kernel)
theorem iX5_readArguments_306 : zSnd zZC zmX5_readArguments 306 (o_aload 0 307) := s_aload_n (k := 0) (by decide +kernel) rfl
theorem iX5_readArguments_307 : zSnd zZC zmX5_readArguments 307 (o_aload 1 308) := s_aload_n (k := 1) (by decide +kernel) rfl
set_option maxRecDepth 20000 in
theorem iX5_readArguments_308 : zSnd zZC zmX5_readArguments 308 (o_callV zZC 1 zmX4_number 0 2 311) := s_callVN (idx := 31) zcX4 calX4_number virX4_number dscX4_number (by decide +kernel) (zNW3 122 rfl rfl) (by decide +kernel)
theorem iX5_readArguments_311 : zSnd zZC zmX5_readArguments 311 (o_putL zYC 6 4 314) := s_putL zcX5 fX5_53 (by decide +kernel) rfl rfl (by decide +kernel)
theorem iX5_readArguments_314 : zSnd zZC zmX5_readArguments 314 (o_aload 1 315) := s_aload_n (k := 1) (by decide +kernel) rfl
set_option maxRecDepth 20000 in
theorem iX5_readArguments_315 : zSnd zZC zmX5_readArguments 315 (o_callV zZC 1 zmX4_number 0 2 318) := s_callVN (idx := 31) zcX4 calX4_number virX4_number dscX4_number (by decide +kernel) (zNW3 122 rfl rfl) (by decide +kernel)
theorem iX5_readArguments_318 : zSnd zZC zmX5_readArguments 318 (o_pop2 319) := s_pop2 (by decide +kernel)
theorem iX5_readArguments_319 : zSnd zZC zmX5_readArguments 319 (o_vret) := s_vret rfl (by decide +kernel)
def kX5_readArguments : List (Nat × zOp) := [(0, o_aload 0 1),
  (1, o_getf zYC 6 3 4),
  (4, o_sw [([2, 3, 4], 200), ([12, 13, 16, 32, 33, 34, 35, 36, 265, 269], 212), ([17, 264, 268], 223), ([63, 64, 267], 258), ([65], 268), ([66], 278), ([266, 270], 241)] 288),
  (200, o_aload 0 201),
  (201, o_aload 1 202),
  (202, o_callV zZC 1 zmX4_blockType 0 1 205),
  (205, o_i2l 206),
  (206, o_putL zYC 6 4 209),
  (209, o_goto 319),
  (212, o_aload 0 213),
  (213, o_aload 1 214),
  (214, o_callV zZC 1 zmX4_number 0 2 217),
  (217, o_putL zYC 6 4 220),
  (220, o_goto 319),
  (223, o_aload 0 224),
  (224, o_aload 1 225),
  (225, o_callV zZC 1 zmX4_number 0 2 228),
  (228, o_putL zYC 6 4 231),
  (231, o_aload 1 232),
  (232, o_ic 0 233),
  (233, o_ic 0 234),
  (234, o_callV zZC 1 zmX4_octetWithin 2 1 237),
  (237, o_pop 238),
  (238, o_goto 319),
  (241, o_aload 1 242),
  (242, o_ic 0 243),
  (243, o_ic 0 244),
  (244, o_callV zZC 1 zmX4_octetWithin 2 1 247),
  (247, o_pop 248),
  (248, o_aload 1 249),
  (249, o_ic 0 250),
  (250, o_ic 0 251),
  (251, o_callV zZC 1 zmX4_octetWithin 2 1 254),
  (254, o_pop 255),
  (255, o_goto 319),
  (258, o_aload 1 259),
  (259, o_ic 0 260),
  (260, o_ic 0 261),
  (261, o_callV zZC 1 zmX4_octetWithin 2 1 264),
  (264, o_pop 265),
  (265, o_goto 319),
  (268, o_aload 1 269),
  (269, o_ic 5 270),
  (270, o_ic 7 272),
  (272, o_callV zZC 1 zmX4_skipSigned 2 0 275),
  (275, o_goto 319),
  (278, o_aload 1 279),
  (279, o_ic 10 281),
  (281, o_ic 0 282),
  (282, o_callV zZC 1 zmX4_skipSigned 2 0 285),
  (285, o_goto 319),
  (288, o_aload 0 289),
  (289, o_getf zYC 6 3 292),
  (292, o_ic 40 294),
  (294, o_icmp (fun x y => x < y) 319 297),
  (297, o_aload 0 298),
  (298, o_getf zYC 6 3 301),
  (301, o_ic 62 303),
  (303, o_icmp (fun x y => y < x) 319 306),
  (306, o_aload 0 307),
  (307, o_aload 1 308),
  (308, o_callV zZC 1 zmX4_number 0 2 311),
  (311, o_putL zYC 6 4 314),
  (314, o_aload 1 315),
  (315, o_callV zZC 1 zmX4_number 0 2 318),
  (318, o_pop2 319),
  (319, o_vret)]
set_option maxRecDepth 100000 in
theorem ksX5_readArguments : ∀ q ∈ kX5_readArguments, zSnd zZC zmX5_readArguments q.1 q.2 := zcc iX5_readArguments_0 (zcc iX5_readArguments_1 (zcc iX5_readArguments_4 (zcc iX5_readArguments_200 (zcc iX5_readArguments_201 (zcc iX5_readArguments_202 (zcc iX5_readArguments_205 (zcc iX5_readArguments_206 (zcc iX5_readArguments_209 (zcc iX5_readArguments_212 (zcc iX5_readArguments_213 (zcc iX5_readArguments_214 (zcc iX5_readArguments_217 (zcc iX5_readArguments_220 (zcc iX5_readArguments_223 (zcc iX5_readArguments_224 (zcc iX5_readArguments_225 (zcc iX5_readArguments_228 (zcc iX5_readArguments_231 (zcc iX5_readArguments_232 (zcc iX5_readArguments_233 (zcc iX5_readArguments_234 (zcc iX5_readArguments_237 (zcc iX5_readArguments_238 (zcc iX5_readArguments_241 (zcc iX5_readArguments_242 (zcc iX5_readArguments_243 (zcc iX5_readArguments_244 (zcc iX5_readArguments_247 (zcc iX5_readArguments_248 (zcc iX5_readArguments_249 (zcc iX5_readArguments_250 (zcc iX5_readArguments_251 (zcc iX5_readArguments_254 (zcc iX5_readArguments_255 (zcc iX5_readArguments_258 (zcc iX5_readArguments_259 (zcc iX5_readArguments_260 (zcc iX5_readArguments_261 (zcc iX5_readArguments_264 (zcc iX5_readArguments_265 (zcc iX5_readArguments_268 (zcc iX5_readArguments_269 (zcc iX5_readArguments_270 (zcc iX5_readArguments_272 (zcc iX5_readArguments_275 (zcc iX5_readArguments_278 (zcc iX5_readArguments_279 (zcc iX5_readArguments_281 (zcc iX5_readArguments_282 (zcc iX5_readArguments_285 (zcc iX5_readArguments_288 (zcc iX5_readArguments_289 (zcc iX5_readArguments_292 (zcc iX5_readArguments_294 (zcc iX5_readArguments_297 (zcc iX5_readArguments_298 (zcc iX5_readArguments_301 (zcc iX5_readArguments_303 (zcc iX5_readArguments_306 (zcc iX5_readArguments_307 (zcc iX5_readArguments_308 (zcc iX5_readArguments_311 (zcc iX5_readArguments_314 (zcc iX5_readArguments_315 (zcc iX5_readArguments_318 (zcc iX5_readArguments_319 zcn))))))))))))))))))))))))))))))))))))))))))))))))))))))))))))))))))
theorem iX5_readNumber_0 : zSnd zZC zmX5_readNumber 0 (o_aload 0 1) := s_aload_n (k := 0) (by decide +kernel) rfl
theorem iX5_readNumber_1 : zSnd zZC zmX5_readNumber 1 (o_aload 1 2) := s_aload_n (k := 1) (by decide +kernel) rfl
theorem iX5_readNumber_2 : zSnd zZC zmX5_readNumber 2 (o_getf zYC 1 2 5) := s_getf zcX4 fX5_15 (by decide +kernel) (by decide +kernel)
theorem iX5_readNumber_5 : zSnd zZC zmX5_readNumber 5 (o_putI zYC 6 2 8) := s_putI zcX5 fX5_21 (by decide +kernel) rfl rfl (by decide +kernel)
theorem iX5_readNumber_8 : zSnd zZC zmX5_readNumber 8 (o_aload 0 9) := s_aload_n (k := 0) (by decide +kernel) rfl
theorem iX5_readNumber_9 : zSnd zZC zmX5_readNumber 9 (o_aload 1 10) := s_aload_n (k := 1) (by decide +kernel) rfl
set_option maxRecDepth 20000 in
theorem iX5_readNumber_10 : zSnd zZC zmX5_readNumber 10 (o_callV zZC 1 zmX4_octet 0 1 13) := s_callVN (idx := 24) zcX4 calX4_octet virX4_octet dscX4_octet (by decide +kernel) (zNW3 121 rfl rfl) (by decide +kernel)
theorem iX5_readNumber_13 : zSnd zZC zmX5_readNumber 13 (o_putI zYC 6 3 16) := s_putI zcX5 fX5_28 (by decide +kernel) rfl rfl (by decide +kernel)
theorem iX5_readNumber_16 : zSnd zZC zmX5_readNumber 16 (o_aload 0 17) := s_aload_n (k := 0) (by decide +kernel) rfl
theorem iX5_readNumber_17 : zSnd zZC zmX5_readNumber 17 (o_getf zYC 6 3 20) := s_getf zcX5 fX5_28 (by decide +kernel) (by decide +kernel)
theorem iX5_readNumber_20 : zSnd zZC zmX5_readNumber 20 (o_ic 252 23) := s_sipush (i := 252) (by decide +kernel) (by decide +kernel)
theorem iX5_readNumber_23 : zSnd zZC zmX5_readNumber 23 (o_icmp (fun x y => x = y) 26 75) := s_icmp_ne (off := 52) (by decide +kernel) (by decide +kernel)
theorem iX5_readNumber_26 : zSnd zZC zmX5_readNumber 26 (o_aload 1 27) := s_aload_n (k := 1) (by decide +kernel) rfl
theorem iX5_readNumber_27 : zSnd zZC zmX5_readNumber 27 (o_getf zYC 1 2 30) := s_getf zcX4 fX5_15 (by decide +kernel) (by decide +kernel)
theorem iX5_readNumber_30 : zSnd zZC zmX5_readNumber 30 (o_istore 2 31) := s_istore_n (k := 2) (by decide +kernel) rfl (by decide +kernel)
theorem iX5_readNumber_31 : zSnd zZC zmX5_readNumber 31 (o_aload 1 32) := s_aload_n (k := 1) (by decide +kernel) rfl
set_option maxRecDepth 20000 in
theorem iX5_readNumber_32 : zSnd zZC zmX5_readNumber 32 (o_callV zZC 1 zmX4_number 0 2 35) := s_callVN (idx := 31) zcX4 calX4_number virX4_number dscX4_number (by decide +kernel) (zNW3 122 rfl rfl) (by decide +kernel)
theorem iX5_readNumber_35 : zSnd zZC zmX5_readNumber 35 (o_lstore 3 36) := s_lstore_n (k := 3) (by decide +kernel) rfl (by decide +kernel)
theorem iX5_readNumber_36 : zSnd zZC zmX5_readNumber 36 (o_lload 3 37) := s_lload_n (k := 3) (by decide +kernel) rfl
set_option maxRecDepth 20000 in
theorem iX5_readNumber_37 : zSnd zZC zmX5_readNumber 37 (o_lc 8 40) := s_ldc2 (i := 34) (by decide +kernel) (zWS3 123 rfl rfl)
theorem iX5_readNumber_40 : zSnd zZC zmX5_readNumber 40 (o_lif (fun x y => x < y) 52 44) := s_llt (off := 11) (by decide +kernel) (by decide +kernel) (by decide +kernel)
theorem iX5_readNumber_44 : zSnd zZC zmX5_readNumber 44 (o_lload 3 45) := s_lload_n (k := 3) (by decide +kernel) rfl
set_option maxRecDepth 20000 in
theorem iX5_readNumber_45 : zSnd zZC zmX5_readNumber 45 (o_lc 14 48) := s_ldc2 (i := 36) (by decide +kernel) (zWS3 124 rfl rfl)
theorem iX5_readNumber_48 : zSnd zZC zmX5_readNumber 48 (o_lif (fun x y => x ≤ y) 62 52) := s_lle (off := 13) (by decide +kernel) (by decide +kernel) (by decide +kernel)
theorem iX5_readNumber_52 : zSnd zZC zmX5_readNumber 52 (o_aload 1 53) := s_aload_n (k := 1) (by decide +kernel) rfl
theorem iX5_readNumber_53 : zSnd zZC zmX5_readNumber 53 (o_ic 1 54) := s_iconst (i := 1) (by decide +kernel) (by decide +kernel)
theorem iX5_readNumber_54 : zSnd zZC zmX5_readNumber 54 (o_iload 2 55) := s_iload_n (k := 2) (by decide +kernel) rfl
set_option maxRecDepth 20000 in
theorem iX5_readNumber_55 : zSnd zZC zmX5_readNumber 55 (o_callV zZC 1 zmX4_fail 2 0 58) := s_callVN (idx := 38) zcX4 calX4_fail virX4_fail dscX4_fail (by decide +kernel) (zNW3 125 rfl rfl) (by decide +kernel)
set_option maxRecDepth 20000 in
theorem iX5_readNumber_58 : zSnd zZC zmX5_readNumber 58 (o_lc 8 61) := s_ldc2 (i := 34) (by decide +kernel) (zWS3 123 rfl rfl)
theorem iX5_readNumber_61 : zSnd zZC zmX5_readNumber 61 (o_lstore 3 62) := s_lstore_n (k := 3) (by decide +kernel) rfl (by decide +kernel)
theorem iX5_readNumber_62 : zSnd zZC zmX5_readNumber 62 (o_aload 0 63) := s_aload_n (k := 0) (by decide +kernel) rfl
theorem iX5_readNumber_63 : zSnd zZC zmX5_readNumber 63 (o_ic 256 66) := s_sipush (i := 256) (by decide +kernel) (by decide +kernel)
theorem iX5_readNumber_66 : zSnd zZC zmX5_readNumber 66 (o_lload 3 67) := s_lload_n (k := 3) (by decide +kernel) rfl
theorem iX5_readNumber_67 : zSnd zZC zmX5_readNumber 67 (o_l2i 68) := s_l2i (by decide +kernel)
theorem iX5_readNumber_68 : zSnd zZC zmX5_readNumber 68 (o_ibin (fun x y => x + y) 69) := s_iadd (by decide +kernel)
theorem iX5_readNumber_69 : zSnd zZC zmX5_readNumber 69 (o_putI zYC 6 3 72) := s_putI zcX5 fX5_28 (by decide +kernel) rfl rfl (by decide +kernel)
theorem iX5_readNumber_72 : zSnd zZC zmX5_readNumber 72 (o_goto 94) := s_goto (off := 22) (by decide +kernel) (by decide +kernel)
theorem iX5_readNumber_75 : zSnd zZC zmX5_readNumber 75 (o_aload 0 76) := s_aload_n (k := 0) (by decide +kernel) rfl
theorem iX5_readNumber_76 : zSnd zZC zmX5_readNumber 76 (o_getf zYC 6 3 79) := s_getf zcX5 fX5_28 (by decide +kernel) (by decide +kernel)
set_option maxRecDepth 20000 in
theorem iX5_readNumber_79 : zSnd zZC zmX5_readNumber 79 (o_callS zZC zmX5_isOfOneByte 1 1 82) := s_callS (idx := 42) calX5_isOfOneByte virX5_isOfOneByte dscX5_isOfOneByte (by decide +kernel) (zWS3 126 rfl rfl) (by decide +kernel)
theorem iX5_readNumber_82 : zSnd zZC zmX5_readNumber 82 (o_if0 (fun x => x = 0) 85 94) := s_if_ne (off := 12) (by decide +kernel) (by decide +kernel)
theorem iX5_readNumber_85 : zSnd zZC zmX5_readNumber 85 (o_aload 1 86) := s_aload_n (k := 1) (by decide +kernel) rfl
theorem iX5_readNumber_86 : zSnd zZC zmX5_readNumber 86 (o_ic 1 87) := s_iconst (i := 1) (by decide +kernel) (by decide +kernel)
theorem iX5_readNumber_87 : zSnd zZC zmX5_readNumber 87 (o_aload 0 88) := s_aload_n (k := 0) (by decide +kernel) rfl
theorem iX5_readNumber_88 : zSnd zZC zmX5_readNumber 88 (o_getf zYC 6 2 91) := s_getf zcX5 fX5_21 (by decide +kernel) (by decide +kernel)
set_option maxRecDepth 20000 in
theorem iX5_readNumber_91 : zSnd zZC zmX5_readNumber 91 (o_callV zZC 1 zmX4_fail 2 0 94) := s_callVN (idx := 38) zcX4 calX4_fail virX4_fail dscX4_fail (by decide +kernel) (zNW3 125 rfl rfl) (by decide +kernel)
theorem iX5_readNumber_94 : zSnd zZC zmX5_readNumber 94 (o_vret) := s_vret rfl (by decide +kernel)
def kX5_readNumber : List (Nat × zOp) := [(0, o_aload 0 1),
  (1, o_aload 1 2),
  (2, o_getf zYC 1 2 5),
  (5, o_putI zYC 6 2 8),
  (8, o_aload 0 9),
  (9, o_aload 1 10),
  (10, o_callV zZC 1 zmX4_octet 0 1 13),
  (13, o_putI zYC 6 3 16),
  (16, o_aload 0 17),
  (17, o_getf zYC 6 3 20),
  (20, o_ic 252 23),
  (23, o_icmp (fun x y => x = y) 26 75),
  (26, o_aload 1 27),
  (27, o_getf zYC 1 2 30),
  (30, o_istore 2 31),
  (31, o_aload 1 32),
  (32, o_callV zZC 1 zmX4_number 0 2 35),
  (35, o_lstore 3 36),
  (36, o_lload 3 37),
  (37, o_lc 8 40),
  (40, o_lif (fun x y => x < y) 52 44),
  (44, o_lload 3 45),
  (45, o_lc 14 48),
  (48, o_lif (fun x y => x ≤ y) 62 52),
  (52, o_aload 1 53),
  (53, o_ic 1 54),
  (54, o_iload 2 55),
  (55, o_callV zZC 1 zmX4_fail 2 0 58),
  (58, o_lc 8 61),
  (61, o_lstore 3 62),
  (62, o_aload 0 63),
  (63, o_ic 256 66),
  (66, o_lload 3 67),
  (67, o_l2i 68),
  (68, o_ibin (fun x y => x + y) 69),
  (69, o_putI zYC 6 3 72),
  (72, o_goto 94),
  (75, o_aload 0 76),
  (76, o_getf zYC 6 3 79),
  (79, o_callS zZC zmX5_isOfOneByte 1 1 82),
  (82, o_if0 (fun x => x = 0) 85 94),
  (85, o_aload 1 86),
  (86, o_ic 1 87),
  (87, o_aload 0 88),
  (88, o_getf zYC 6 2 91),
  (91, o_callV zZC 1 zmX4_fail 2 0 94),
  (94, o_vret)]
set_option maxRecDepth 100000 in
theorem ksX5_readNumber : ∀ q ∈ kX5_readNumber, zSnd zZC zmX5_readNumber q.1 q.2 := zcc iX5_readNumber_0 (zcc iX5_readNumber_1 (zcc iX5_readNumber_2 (zcc iX5_readNumber_5 (zcc iX5_readNumber_8 (zcc iX5_readNumber_9 (zcc iX5_readNumber_10 (zcc iX5_readNumber_13 (zcc iX5_readNumber_16 (zcc iX5_readNumber_17 (zcc iX5_readNumber_20 (zcc iX5_readNumber_23 (zcc iX5_readNumber_26 (zcc iX5_readNumber_27 (zcc iX5_readNumber_30 (zcc iX5_readNumber_31 (zcc iX5_readNumber_32 (zcc iX5_readNumber_35 (zcc iX5_readNumber_36 (zcc iX5_readNumber_37 (zcc iX5_readNumber_40 (zcc iX5_readNumber_44 (zcc iX5_readNumber_45 (zcc iX5_readNumber_48 (zcc iX5_readNumber_52 (zcc iX5_readNumber_53 (zcc iX5_readNumber_54 (zcc iX5_readNumber_55 (zcc iX5_readNumber_58 (zcc iX5_readNumber_61 (zcc iX5_readNumber_62 (zcc iX5_readNumber_63 (zcc iX5_readNumber_66 (zcc iX5_readNumber_67 (zcc iX5_readNumber_68 (zcc iX5_readNumber_69 (zcc iX5_readNumber_72 (zcc iX5_readNumber_75 (zcc iX5_readNumber_76 (zcc iX5_readNumber_79 (zcc iX5_readNumber_82 (zcc iX5_readNumber_85 (zcc iX5_readNumber_86 (zcc iX5_readNumber_87 (zcc iX5_readNumber_88 (zcc iX5_readNumber_91 (zcc iX5_readNumber_94 zcn))))))))))))))))))))))))))))))))))))))))))))))
theorem iX6_begin_0 : zSnd zZC zmX6_begin 0 (o_aload 0 1) := s_aload_n (k := 0) (by decide +kernel) rfl
theorem iX6_begin_1 : zSnd zZC zmX6_begin 1 (o_getf zYC 3 0 4) := s_getf zcX6 fX6_18 (by decide +kernel) (by decide +kernel)
set_option maxRecDepth 20000 in
theorem iX6_begin_4 : zSnd zZC zmX6_begin 4 (o_callV zZC 1 zmX4_restart 0 0 7) := s_callVN (idx := 35) zcX4 calX4_restart virX4_restart dscX4_restart (by decide +kernel) (zNW2 111 rfl rfl) (by decide +kernel)
theorem iX6_begin_7 : zSnd zZC zmX6_begin 7 (o_aload 0 8) := s_aload_n (k := 0) (by decide +kernel) rfl
theorem iX6_begin_8 : zSnd zZC zmX6_begin 8 (o_getf zYC 3 1 11) := s_getf zcX6 fX6_22 (by decide +kernel) (by decide +kernel)
set_option maxRecDepth 20000 in
theorem iX6_begin_11 : zSnd zZC zmX6_begin 11 (o_callV zZC 2 zmX2_clear 0 0 14) := s_callVN (idx := 40) zcX2 calX2_clear virX2_clear dscX2_clear (by decide +kernel) (zNW2 115 rfl rfl) (by decide +kernel)
theorem iX6_begin_14 : zSnd zZC zmX6_begin 14 (o_aload 0 15) := s_aload_n (k := 0) (by decide +kernel) rfl
theorem iX6_begin_15 : zSnd zZC zmX6_begin 15 (o_getf zYC 3 2 18) := s_getf zcX6 fX6_31 (by decide +kernel) (by decide +kernel)
set_option maxRecDepth 20000 in
theorem iX6_begin_18 : zSnd zZC zmX6_begin 18 (o_callV zZC 4 zmX1_begin 0 0 21) := s_callVN (idx := 45) zcX1 calX1_begin virX1_begin dscX1_begin (by decide +kernel) (zNW2 120 rfl rfl) (by decide +kernel)
theorem iX6_begin_21 : zSnd zZC zmX6_begin 21 (o_aload 0 22) := s_aload_n (k := 0) (by decide +kernel) rfl
theorem iX6_begin_22 : zSnd zZC zmX6_begin 22 (o_ic 0 23) := s_iconst (i := 0) (by decide +kernel) (by decide +kernel)
theorem iX6_begin_23 : zSnd zZC zmX6_begin 23 (o_putI zYC 3 5 26) := s_putI zcX6 fX6_48 (by decide +kernel) rfl rfl (by decide +kernel)
theorem iX6_begin_26 : zSnd zZC zmX6_begin 26 (o_ic 0 27) := s_iconst (i := 0) (by decide +kernel) (by decide +kernel)
theorem iX6_begin_27 : zSnd zZC zmX6_begin 27 (o_istore 1 28) := s_istore_n (k := 1) (by decide +kernel) rfl (by decide +kernel)
theorem iX6_begin_28 : zSnd zZC zmX6_begin 28 (o_iload 1 29) := s_iload_n (k := 1) (by decide +kernel) rfl
set_option maxRecDepth 20000 in
theorem iX6_begin_29 : zSnd zZC zmX6_begin 29 (o_gets zt_HEADER_k 32) := s_getsN zt_HEADER_Z (zNW2 124 rfl rfl) (by decide +kernel)
theorem iX6_begin_32 : zSnd zZC zmX6_begin 32 (o_tlen zt_HEADER_n zt_HEADER_k 33) := s_tlen zt_HEADER_T (by decide +kernel)
theorem iX6_begin_33 : zSnd zZC zmX6_begin 33 (o_icmp (fun x y => y ≤ x) 60 36) := s_icmp_ge (off := 27) (by decide +kernel) (by decide +kernel)
theorem iX6_begin_36 : zSnd zZC zmX6_begin 36 (o_aload 0 37) := s_aload_n (k := 0) (by decide +kernel) rfl
theorem iX6_begin_37 : zSnd zZC zmX6_begin 37 (o_getf zYC 3 0 40) := s_getf zcX6 fX6_18 (by decide +kernel) (by decide +kernel)
set_option maxRecDepth 20000 in
theorem iX6_begin_40 : zSnd zZC zmX6_begin 40 (o_gets zt_HEADER_k 43) := s_getsN zt_HEADER_Z (zNW2 124 rfl rfl) (by decide +kernel)
theorem iX6_begin_43 : zSnd zZC zmX6_begin 43 (o_iload 1 44) := s_iload_n (k := 1) (by decide +kernel) rfl
theorem iX6_begin_44 : zSnd zZC zmX6_begin 44 (o_tald zt_HEADER_f zt_HEADER_n zt_HEADER_k 45) := s_tald zt_HEADER_T (by decide +kernel)
set_option maxRecDepth 20000 in
theorem iX6_begin_45 : zSnd zZC zmX6_begin 45 (o_gets zt_HEADER_k 48) := s_getsN zt_HEADER_Z (zNW2 124 rfl rfl) (by decide +kernel)
theorem iX6_begin_48 : zSnd zZC zmX6_begin 48 (o_iload 1 49) := s_iload_n (k := 1) (by decide +kernel) rfl
theorem iX6_begin_49 : zSnd zZC zmX6_begin 49 (o_tald zt_HEADER_f zt_HEADER_n zt_HEADER_k 50) := s_tald zt_HEADER_T (by decide +kernel)
set_option maxRecDepth 20000 in
theorem iX6_begin_50 : zSnd zZC zmX6_begin 50 (o_callV zZC 1 zmX4_octetWithin 2 1 53) := s_callVN (idx := 55) zcX4 calX4_octetWithin virX4_octetWithin dscX4_octetWithin (by decide +kernel) (zNW2 126 rfl rfl) (by decide +kernel)
theorem iX6_begin_53 : zSnd zZC zmX6_begin 53 (o_pop 54) := s_pop (by decide +kernel)
theorem iX6_begin_54 : zSnd zZC zmX6_begin 54 (o_iinc 1 1 57) := s_iinc (a := 1) (by decide +kernel) (by decide +kernel) (by decide +kernel)
theorem iX6_begin_57 : zSnd zZC zmX6_begin 57 (o_goto 28) := s_goto (off := (-29)) (by decide +kernel) (by decide +kernel)
theorem iX6_begin_60 : zSnd zZC zmX6_begin 60 (o_vret) := s_vret rfl (by decide +kernel)
def kX6_begin : List (Nat × zOp) := [(0, o_aload 0 1),
  (1, o_getf zYC 3 0 4),
  (4, o_callV zZC 1 zmX4_restart 0 0 7),
  (7, o_aload 0 8),
  (8, o_getf zYC 3 1 11),
  (11, o_callV zZC 2 zmX2_clear 0 0 14),
  (14, o_aload 0 15),
  (15, o_getf zYC 3 2 18),
  (18, o_callV zZC 4 zmX1_begin 0 0 21),
  (21, o_aload 0 22),
  (22, o_ic 0 23),
  (23, o_putI zYC 3 5 26),
  (26, o_ic 0 27),
  (27, o_istore 1 28),
  (28, o_iload 1 29),
  (29, o_gets zt_HEADER_k 32),
  (32, o_tlen zt_HEADER_n zt_HEADER_k 33),
  (33, o_icmp (fun x y => y ≤ x) 60 36),
  (36, o_aload 0 37),
  (37, o_getf zYC 3 0 40),
  (40, o_gets zt_HEADER_k 43),
  (43, o_iload 1 44),
  (44, o_tald zt_HEADER_f zt_HEADER_n zt_HEADER_k 45),
  (45, o_gets zt_HEADER_k 48),
  (48, o_iload 1 49),
  (49, o_tald zt_HEADER_f zt_HEADER_n zt_HEADER_k 50),
  (50, o_callV zZC 1 zmX4_octetWithin 2 1 53),
  (53, o_pop 54),
  (54, o_iinc 1 1 57),
  (57, o_goto 28),
  (60, o_vret)]
set_option maxRecDepth 100000 in
theorem ksX6_begin : ∀ q ∈ kX6_begin, zSnd zZC zmX6_begin q.1 q.2 := zcc iX6_begin_0 (zcc iX6_begin_1 (zcc iX6_begin_4 (zcc iX6_begin_7 (zcc iX6_begin_8 (zcc iX6_begin_11 (zcc iX6_begin_14 (zcc iX6_begin_15 (zcc iX6_begin_18 (zcc iX6_begin_21 (zcc iX6_begin_22 (zcc iX6_begin_23 (zcc iX6_begin_26 (zcc iX6_begin_27 (zcc iX6_begin_28 (zcc iX6_begin_29 (zcc iX6_begin_32 (zcc iX6_begin_33 (zcc iX6_begin_36 (zcc iX6_begin_37 (zcc iX6_begin_40 (zcc iX6_begin_43 (zcc iX6_begin_44 (zcc iX6_begin_45 (zcc iX6_begin_48 (zcc iX6_begin_49 (zcc iX6_begin_50 (zcc iX6_begin_53 (zcc iX6_begin_54 (zcc iX6_begin_57 (zcc iX6_begin_60 zcn))))))))))))))))))))))))))))))
theorem iX6_finish_0 : zSnd zZC zmX6_finish 0 (o_aload 0 1) := s_aload_n (k := 0) (by decide +kernel) rfl
theorem iX6_finish_1 : zSnd zZC zmX6_finish 1 (o_ic 10 3) := s_bipush (i := 10) (by decide +kernel) (by decide +kernel)
set_option maxRecDepth 20000 in
theorem iX6_finish_3 : zSnd zZC zmX6_finish 3 (o_callV zZC 3 zmX6_fit 1 0 6) := s_callV (idx := 68) zcX6 calX6_fit virX6_fit dscX6_fit (by decide +kernel) (zWS4 50 rfl rfl) (by decide +kernel)
theorem iX6_finish_6 : zSnd zZC zmX6_finish 6 (o_aload 0 7) := s_aload_n (k := 0) (by decide +kernel) rfl
theorem iX6_finish_7 : zSnd zZC zmX6_finish 7 (o_ic 11 9) := s_bipush (i := 11) (by decide +kernel) (by decide +kernel)
set_option maxRecDepth 20000 in
theorem iX6_finish_9 : zSnd zZC zmX6_finish 9 (o_callV zZC 3 zmX6_fit 1 0 12) := s_callV (idx := 68) zcX6 calX6_fit virX6_fit dscX6_fit (by decide +kernel) (zWS4 50 rfl rfl) (by decide +kernel)
theorem iX6_finish_12 : zSnd zZC zmX6_finish 12 (o_vret) := s_vret rfl (by decide +kernel)
def kX6_finish : List (Nat × zOp) := [(0, o_aload 0 1),
  (1, o_ic 10 3),
  (3, o_callV zZC 3 zmX6_fit 1 0 6),
  (6, o_aload 0 7),
  (7, o_ic 11 9),
  (9, o_callV zZC 3 zmX6_fit 1 0 12),
  (12, o_vret)]
set_option maxRecDepth 100000 in
theorem ksX6_finish : ∀ q ∈ kX6_finish, zSnd zZC zmX6_finish q.1 q.2 := zcc iX6_finish_0 (zcc iX6_finish_1 (zcc iX6_finish_3 (zcc iX6_finish_6 (zcc iX6_finish_7 (zcc iX6_finish_9 (zcc iX6_finish_12 zcn))))))
theorem iX6_readConstant_0 : zSnd zZC zmX6_readConstant 0 (o_aload 0 1) := s_aload_n (k := 0) (by decide +kernel) rfl
theorem iX6_readConstant_1 : zSnd zZC zmX6_readConstant 1 (o_getf zYC 3 0 4) := s_getf zcX6 fX6_18 (by decide +kernel) (by decide +kernel)
theorem iX6_readConstant_4 : zSnd zZC zmX6_readConstant 4 (o_getf zYC 1 2 7) := s_getf zcX4 fX6_62 (by decide +kernel) (by decide +kernel)
theorem iX6_readConstant_7 : zSnd zZC zmX6_readConstant 7 (o_istore 3 8) := s_istore_n (k := 3) (by decide +kernel) rfl (by decide +kernel)
theorem iX6_readConstant_8 : zSnd zZC zmX6_readConstant 8 (o_ic 0 9) := s_iconst (i := 0) (by decide +kernel) (by decide +kernel)
theorem iX6_readConstant_9 : zSnd zZC zmX6_readConstant 9 (o_istore 4 11) := s_istore (by decide +kernel) (by decide +kernel)
theorem iX6_readConstant_11 : zSnd zZC zmX6_readConstant 11 (o_aload 0 12) := s_aload_n (k := 0) (by decide +kernel) rfl
theorem iX6_readConstant_12 : zSnd zZC zmX6_readConstant 12 (o_getf zYC 3 0 15) := s_getf zcX6 fX6_18 (by decide +kernel) (by decide +kernel)
set_option maxRecDepth 20000 in
theorem iX6_readConstant_15 : zSnd zZC zmX6_readConstant 15 (o_callV zZC 1 zmX4_octet 0 1 18) := s_callVN (idx := 204) zcX4 calX4_octet virX4_octet dscX4_octet (by decide +kernel) (zNW3 14 rfl rfl) (by decide +kernel)
theorem iX6_readConstant_18 : zSnd zZC zmX6_readConstant 18 (o_sw [([35], 86), ([65], 52), ([66], 69)] 122) := s_lsw (dflt := 104) (ps := #[(35, 68), (65, 34), (66, 51)]) (len := 34) (by decide +kernel) (by decide +kernel) (by decide +kernel) (by decide +kernel) (by decide +kernel)
theorem iX6_readConstant_52 : zSnd zZC zmX6_readConstant 52 (o_aload 0 53) := s_aload_n (k := 0) (by decide +kernel) rfl
theorem iX6_readConstant_53 : zSnd zZC zmX6_readConstant 53 (o_getf zYC 3 0 56) := s_getf zcX6 fX6_18 (by decide +kernel) (by decide +kernel)
theorem iX6_readConstant_56 : zSnd zZC zmX6_readConstant 56 (o_ic 5 57) := s_iconst (i := 5) (by decide +kernel) (by decide +kernel)
theorem iX6_readConstant_57 : zSnd zZC zmX6_readConstant 57 (o_ic 7 59) := s_bipush (i := 7) (by decide +kernel) (by decide +kernel)
set_option maxRecDepth 20000 in
theorem iX6_readConstant_59 : zSnd zZC zmX6_readConstant 59 (o_callV zZC 1 zmX4_skipSigned 2 0 62) := s_callVN (idx := 207) zcX4 calX4_skipSigned virX4_skipSigned dscX4_skipSigned (by decide +kernel) (zNW3 15 rfl rfl) (by decide +kernel)
theorem iX6_readConstant_62 : zSnd zZC zmX6_readConstant 62 (o_ic 127 64) := s_bipush (i := 127) (by decide +kernel) (by decide +kernel)
theorem iX6_readConstant_64 : zSnd zZC zmX6_readConstant 64 (o_istore 4 66) := s_istore (by decide +kernel) (by decide +kernel)
theorem iX6_readConstant_66 : zSnd zZC zmX6_readConstant 66 (o_goto 131) := s_goto (off := 65) (by decide +kernel) (by decide +kernel)
theorem iX6_readConstant_69 : zSnd zZC zmX6_readConstant 69 (o_aload 0 70) := s_aload_n (k := 0) (by decide +kernel) rfl
theorem iX6_readConstant_70 : zSnd zZC zmX6_readConstant 70 (o_getf zYC 3 0 73) := s_getf zcX6 fX6_18 (by decide +kernel) (by decide +kernel)
theorem iX6_readConstant_73 : zSnd zZC zmX6_readConstant 73 (o_ic 10 75) := s_bipush (i := 10) (by decide +kernel) (by decide +kernel)
theorem iX6_readConstant_75 : zSnd zZC zmX6_readConstant 75 (o_ic 0 76) := s_iconst (i := 0) (by decide +kernel) (by decide +kernel)
set_option maxRecDepth 20000 in
theorem iX6_readConstant_76 : zSnd zZC zmX6_readConstant 76 (o_callV zZC 1 zmX4_skipSigned 2 0 79) := s_callVN (idx := 207) zcX4 calX4_skipSigned virX4_skipSigned dscX4_skipSigned (by decide +kernel) (zNW3 15 rfl rfl) (by decide +kernel)
theorem iX6_readConstant_79 : zSnd zZC zmX6_readConstant 79 (o_ic 126 81) := s_bipush (i := 126) (by decide +kernel) (by decide +kernel)
theorem iX6_readConstant_81 : zSnd zZC zmX6_readConstant 81 (o_istore 4 83) := s_istore (by decide +kernel) (by decide +kernel)
theorem iX6_readConstant_83 : zSnd zZC zmX6_readConstant 83 (o_goto 131) := s_goto (off := 48) (by decide +kernel) (by decide +kernel)
theorem iX6_readConstant_86 : zSnd zZC zmX6_readConstant 86 (o_aload 0 87) := s_aload_n (k := 0) (by decide +kernel) rfl
theorem iX6_readConstant_87 : zSnd zZC zmX6_readConstant 87 (o_getf zYC 3 0 90) := s_getf zcX6 fX6_18 (by decide +kernel) (by decide +kernel)
set_option maxRecDepth 20000 in
theorem iX6_readConstant_90 : zSnd zZC zmX6_readConstant 90 (o_callV zZC 1 zmX4_number 0 2 93) := s_callVN (idx := 126) zcX4 calX4_number virX4_number dscX4_number (by decide +kernel) (zNW2 212 rfl rfl) (by decide +kernel)
theorem iX6_readConstant_93 : zSnd zZC zmX6_readConstant 93 (o_lstore 5 95) := s_lstore (by decide +kernel) (by decide +kernel)
theorem iX6_readConstant_95 : zSnd zZC zmX6_readConstant 95 (o_aload 0 96) := s_aload_n (k := 0) (by decide +kernel) rfl
theorem iX6_readConstant_96 : zSnd zZC zmX6_readConstant 96 (o_getf zYC 3 1 99) := s_getf zcX6 fX6_22 (by decide +kernel) (by decide +kernel)
theorem iX6_readConstant_99 : zSnd zZC zmX6_readConstant 99 (o_lload 5 101) := s_lload (by decide +kernel)
set_option maxRecDepth 20000 in
theorem iX6_readConstant_101 : zSnd zZC zmX6_readConstant 101 (o_callV zZC 2 zmX2_isUnchangedImport 1 1 104) := s_callVN (idx := 210) zcX2 calX2_isUnchangedImport virX2_isUnchangedImport dscX2_isUnchangedImport (by decide +kernel) (zNW3 19 rfl rfl) (by decide +kernel)
theorem iX6_readConstant_104 : zSnd zZC zmX6_readConstant 104 (o_if0 (fun x => x = 0) 131 107) := s_if_eq (off := 27) (by decide +kernel) (by decide +kernel)
theorem iX6_readConstant_107 : zSnd zZC zmX6_readConstant 107 (o_aload 0 108) := s_aload_n (k := 0) (by decide +kernel) rfl
theorem iX6_readConstant_108 : zSnd zZC zmX6_readConstant 108 (o_getf zYC 3 1 111) := s_getf zcX6 fX6_22 (by decide +kernel) (by decide +kernel)
theorem iX6_readConstant_111 : zSnd zZC zmX6_readConstant 111 (o_lload 5 113) := s_lload (by decide +kernel)
theorem iX6_readConstant_113 : zSnd zZC zmX6_readConstant 113 (o_l2i 114) := s_l2i (by decide +kernel)
set_option maxRecDepth 20000 in
theorem iX6_readConstant_114 : zSnd zZC zmX6_readConstant 114 (o_callV zZC 2 zmX2_typeOfGlobal 1 1 117) := s_callVN (idx := 214) zcX2 calX2_typeOfGlobal virX2_typeOfGlobal dscX2_typeOfGlobal (by decide +kernel) (zNW3 27 rfl rfl) (by decide +kernel)
theorem iX6_readConstant_117 : zSnd zZC zmX6_readConstant 117 (o_istore 4 119) := s_istore (by decide +kernel) (by decide +kernel)
theorem iX6_readConstant_119 : zSnd zZC zmX6_readConstant 119 (o_goto 131) := s_goto (off := 12) (by decide +kernel) (by decide +kernel)
theorem iX6_readConstant_122 : zSnd zZC zmX6_readConstant 122 (o_aload 0 123) := s_aload_n (k := 0) (by decide +kernel) rfl
theorem iX6_readConstant_123 : zSnd zZC zmX6_readConstant 123 (o_getf zYC 3 0 126) := s_getf zcX6 fX6_18 (by decide +kernel) (by decide +kernel)
theorem iX6_readConstant_126 : zSnd zZC zmX6_readConstant 126 (o_ic 1 127) := s_iconst (i := 1) (by decide +kernel) (by decide +kernel)
theorem iX6_readConstant_127 : zSnd zZC zmX6_readConstant 127 (o_iload 3 128) := s_iload_n (k := 3) (by decide +kernel) rfl
set_option maxRecDepth 20000 in
theorem iX6_readConstant_128 : zSnd zZC zmX6_readConstant 128 (o_callV zZC 1 zmX4_fail 2 0 131) := s_callVN (idx := 149) zcX4 calX4_fail virX4_fail dscX4_fail (by decide +kernel) (zNW2 152 rfl rfl) (by decide +kernel)
theorem iX6_readConstant_131 : zSnd zZC zmX6_readConstant 131 (o_aload 0 132) := s_aload_n (k := 0) (by decide +kernel) rfl
theorem iX6_readConstant_132 : zSnd zZC zmX6_readConstant 132 (o_getf zYC 3 0 135) := s_getf zcX6 fX6_18 (by decide +kernel) (by decide +kernel)
theorem iX6_readConstant_135 : zSnd zZC zmX6_readConstant 135 (o_ic 11 137) := s_bipush (i := 11) (by decide +kernel) (by decide +kernel)
theorem iX6_readConstant_137 : zSnd zZC zmX6_readConstant 137 (o_ic 11 139) := s_bipush (i := 11) (by decide +kernel) (by decide +kernel)
set_option maxRecDepth 20000 in
theorem iX6_readConstant_139 : zSnd zZC zmX6_readConstant 139 (o_callV zZC 1 zmX4_octetWithin 2 1 142) := s_callVN (idx := 55) zcX4 calX4_octetWithin virX4_octetWithin dscX4_octetWithin (by decide +kernel) (zNW2 126 rfl rfl) (by decide +kernel)
theorem iX6_readConstant_142 : zSnd zZC zmX6_readConstant 142 (o_pop 143) := s_pop (by decide +kernel)
theorem iX6_readConstant_143 : zSnd zZC zmX6_readConstant 143 (o_iload 4 145) := s_iload (by decide +kernel)
theorem iX6_readConstant_145 : zSnd zZC zmX6_readConstant 145 (o_iload 2 146) := s_iload_n (k := 2) (by decide +kernel) rfl
theorem iX6_readConstant_146 : zSnd zZC zmX6_readConstant 146 (o_icmp (fun x y => x = y) 158 149) := s_icmp_eq (off := 12) (by decide +kernel) (by decide +kernel)
theorem iX6_readConstant_149 : zSnd zZC zmX6_readConstant 149 (o_aload 0 150) := s_aload_n (k := 0) (by decide +kernel) rfl
theorem iX6_readConstant_150 : zSnd zZC zmX6_readConstant 150 (o_getf zYC 3 1 153) := s_getf zcX6 fX6_22 (by decide +kernel) (by decide +kernel)
theorem iX6_readConstant_153 : zSnd zZC zmX6_readConstant 153 (o_iload 1 154) := s_iload_n (k := 1) (by decide +kernel) rfl
theorem iX6_readConstant_154 : zSnd zZC zmX6_readConstant 154 (o_iload 3 155) := s_iload_n (k := 3) (by decide +kernel) rfl
set_option maxRecDepth 20000 in
theorem iX6_readConstant_155 : zSnd zZC zmX6_readConstant 155 (o_callV zZC 2 zmX2_noteWrong 2 0 158) := s_callVN (idx := 186) zcX2 calX2_noteWrong virX2_noteWrong dscX2_noteWrong (by decide +kernel) (zNW2 213 rfl rfl) (by decide +kernel)
theorem iX6_readConstant_158 : zSnd zZC zmX6_readConstant 158 (o_vret) := s_vret rfl (by decide +kernel)
def kX6_readConstant : List (Nat × zOp) := [(0, o_aload 0 1),
  (1, o_getf zYC 3 0 4),
  (4, o_getf zYC 1 2 7),
  (7, o_istore 3 8),
  (8, o_ic 0 9),
  (9, o_istore 4 11),
  (11, o_aload 0 12),
  (12, o_getf zYC 3 0 15),
  (15, o_callV zZC 1 zmX4_octet 0 1 18),
  (18, o_sw [([35], 86), ([65], 52), ([66], 69)] 122),
  (52, o_aload 0 53),
  (53, o_getf zYC 3 0 56),
  (56, o_ic 5 57),
  (57, o_ic 7 59),
  (59, o_callV zZC 1 zmX4_skipSigned 2 0 62),
  (62, o_ic 127 64),
  (64, o_istore 4 66),
  (66, o_goto 131),
  (69, o_aload 0 70),
  (70, o_getf zYC 3 0 73),
  (73, o_ic 10 75),
  (75, o_ic 0 76),
  (76, o_callV zZC 1 zmX4_skipSigned 2 0 79),
  (79, o_ic 126 81),
  (81, o_istore 4 83),
  (83, o_goto 131),
  (86, o_aload 0 87),
  (87, o_getf zYC 3 0 90),
  (90, o_callV zZC 1 zmX4_number 0 2 93),
  (93, o_lstore 5 95),
  (95, o_aload 0 96),
  (96, o_getf zYC 3 1 99),
  (99, o_lload 5 101),
  (101, o_callV zZC 2 zmX2_isUnchangedImport 1 1 104),
  (104, o_if0 (fun x => x = 0) 131 107),
  (107, o_aload 0 108),
  (108, o_getf zYC 3 1 111),
  (111, o_lload 5 113),
  (113, o_l2i 114),
  (114, o_callV zZC 2 zmX2_typeOfGlobal 1 1 117),
  (117, o_istore 4 119),
  (119, o_goto 131),
  (122, o_aload 0 123),
  (123, o_getf zYC 3 0 126),
  (126, o_ic 1 127),
  (127, o_iload 3 128),
  (128, o_callV zZC 1 zmX4_fail 2 0 131),
  (131, o_aload 0 132),
  (132, o_getf zYC 3 0 135),
  (135, o_ic 11 137),
  (137, o_ic 11 139),
  (139, o_callV zZC 1 zmX4_octetWithin 2 1 142),
  (142, o_pop 143),
  (143, o_iload 4 145),
  (145, o_iload 2 146),
  (146, o_icmp (fun x y => x = y) 158 149),
  (149, o_aload 0 150),
  (150, o_getf zYC 3 1 153),
  (153, o_iload 1 154),
  (154, o_iload 3 155),
  (155, o_callV zZC 2 zmX2_noteWrong 2 0 158),
  (158, o_vret)]
set_option maxRecDepth 100000 in
theorem ksX6_readConstant : ∀ q ∈ kX6_readConstant, zSnd zZC zmX6_readConstant q.1 q.2 := zcc iX6_readConstant_0 (zcc iX6_readConstant_1 (zcc iX6_readConstant_4 (zcc iX6_readConstant_7 (zcc iX6_readConstant_8 (zcc iX6_readConstant_9 (zcc iX6_readConstant_11 (zcc iX6_readConstant_12 (zcc iX6_readConstant_15 (zcc iX6_readConstant_18 (zcc iX6_readConstant_52 (zcc iX6_readConstant_53 (zcc iX6_readConstant_56 (zcc iX6_readConstant_57 (zcc iX6_readConstant_59 (zcc iX6_readConstant_62 (zcc iX6_readConstant_64 (zcc iX6_readConstant_66 (zcc iX6_readConstant_69 (zcc iX6_readConstant_70 (zcc iX6_readConstant_73 (zcc iX6_readConstant_75 (zcc iX6_readConstant_76 (zcc iX6_readConstant_79 (zcc iX6_readConstant_81 (zcc iX6_readConstant_83 (zcc iX6_readConstant_86 (zcc iX6_readConstant_87 (zcc iX6_readConstant_90 (zcc iX6_readConstant_93 (zcc iX6_readConstant_95 (zcc iX6_readConstant_96 (zcc iX6_readConstant_99 (zcc iX6_readConstant_101 (zcc iX6_readConstant_104 (zcc iX6_readConstant_107 (zcc iX6_readConstant_108 (zcc iX6_readConstant_111 (zcc iX6_readConstant_113 (zcc iX6_readConstant_114 (zcc iX6_readConstant_117 (zcc iX6_readConstant_119 (zcc iX6_readConstant_122 (zcc iX6_readConstant_123 (zcc iX6_readConstant_126 (zcc iX6_readConstant_127 (zcc iX6_readConstant_128 (zcc iX6_readConstant_131 (zcc iX6_readConstant_132 (zcc iX6_readConstant_135 (zcc iX6_readConstant_137 (zcc iX6_readConstant_139 (zcc iX6_readConstant_142 (zcc iX6_readConstant_143 (zcc iX6_readConstant_145 (zcc iX6_readConstant_146 (zcc iX6_readConstant_149 (zcc iX6_readConstant_150 (zcc iX6_readConstant_153 (zcc iX6_readConstant_154 (zcc iX6_readConstant_155 (zcc iX6_readConstant_158 zcn)))))))))))))))))))))))))))))))))))))))))))))))))))))))))))))
theorem iX6_readLimits_0 : zSnd zZC zmX6_readLimits 0 (o_aload 0 1) := s_aload_n (k := 0) (by decide +kernel) rfl
theorem iX6_readLimits_1 : zSnd zZC zmX6_readLimits 1 (o_getf zYC 3 0 4) := s_getf zcX6 fX6_18 (by decide +kernel) (by decide +kernel)
theorem iX6_readLimits_4 : zSnd zZC zmX6_readLimits 4 (o_getf zYC 1 2 7) := s_getf zcX4 fX6_62 (by decide +kernel) (by decide +kernel)
theorem iX6_readLimits_7 : zSnd zZC zmX6_readLimits 7 (o_istore 3 8) := s_istore_n (k := 3) (by decide +kernel) rfl (by decide +kernel)
theorem iX6_readLimits_8 : zSnd zZC zmX6_readLimits 8 (o_aload 0 9) := s_aload_n (k := 0) (by decide +kernel) rfl
theorem iX6_readLimits_9 : zSnd zZC zmX6_readLimits 9 (o_getf zYC 3 0 12) := s_getf zcX6 fX6_18 (by decide +kernel) (by decide +kernel)
theorem iX6_readLimits_12 : zSnd zZC zmX6_readLimits 12 (o_ic 0 13) := s_iconst (i := 0) (by decide +kernel) (by decide +kernel)
theorem iX6_readLimits_13 : zSnd zZC zmX6_readLimits 13 (o_ic 1 14) := s_iconst (i := 1) (by decide +kernel) (by decide +kernel)
set_option maxRecDepth 20000 in
theorem iX6_readLimits_14 : zSnd zZC zmX6_readLimits 14 (o_callV zZC 1 zmX4_octetWithin 2 1 17) := s_callVN (idx := 55) zcX4 calX4_octetWithin virX4_octetWithin dscX4_octetWithin (by decide +kernel) (zNW2 126 rfl rfl) (by decide +kernel)
theorem iX6_readLimits_17 : zSnd zZC zmX6_readLimits 17 (o_ic 1 18) := s_iconst (i := 1) (by decide +kernel) (by decide +kernel)
theorem iX6_readLimits_18 : zSnd zZC zmX6_readLimits 18 (o_icmp (fun x y => x = y) 21 25) := s_icmp_ne (off := 7) (by decide +kernel) (by decide +kernel)
theorem iX6_readLimits_21 : zSnd zZC zmX6_readLimits 21 (o_ic 1 22) := s_iconst (i := 1) (by decide +kernel) (by decide +kernel)
theorem iX6_readLimits_22 : zSnd zZC zmX6_readLimits 22 (o_goto 26) := s_goto (off := 4) (by decide +kernel) (by decide +kernel)
theorem iX6_readLimits_25 : zSnd zZC zmX6_readLimits 25 (o_ic 0 26) := s_iconst (i := 0) (by decide +kernel) (by decide +kernel)
theorem iX6_readLimits_26 : zSnd zZC zmX6_readLimits 26 (o_istore 4 28) := s_istore (by decide +kernel) (by decide +kernel)
theorem iX6_readLimits_28 : zSnd zZC zmX6_readLimits 28 (o_aload 0 29) := s_aload_n (k := 0) (by decide +kernel) rfl
theorem iX6_readLimits_29 : zSnd zZC zmX6_readLimits 29 (o_getf zYC 3 0 32) := s_getf zcX6 fX6_18 (by decide +kernel) (by decide +kernel)
set_option maxRecDepth 20000 in
theorem iX6_readLimits_32 : zSnd zZC zmX6_readLimits 32 (o_callV zZC 1 zmX4_number 0 2 35) := s_callVN (idx := 126) zcX4 calX4_number virX4_number dscX4_number (by decide +kernel) (zNW2 212 rfl rfl) (by decide +kernel)
theorem iX6_readLimits_35 : zSnd zZC zmX6_readLimits 35 (o_lstore 5 37) := s_lstore (by decide +kernel) (by decide +kernel)
theorem iX6_readLimits_37 : zSnd zZC zmX6_readLimits 37 (o_iload 4 39) := s_iload (by decide +kernel)
theorem iX6_readLimits_39 : zSnd zZC zmX6_readLimits 39 (o_if0 (fun x => x = 0) 52 42) := s_if_eq (off := 13) (by decide +kernel) (by decide +kernel)
theorem iX6_readLimits_42 : zSnd zZC zmX6_readLimits 42 (o_aload 0 43) := s_aload_n (k := 0) (by decide +kernel) rfl
theorem iX6_readLimits_43 : zSnd zZC zmX6_readLimits 43 (o_getf zYC 3 0 46) := s_getf zcX6 fX6_18 (by decide +kernel) (by decide +kernel)
set_option maxRecDepth 20000 in
theorem iX6_readLimits_46 : zSnd zZC zmX6_readLimits 46 (o_callV zZC 1 zmX4_number 0 2 49) := s_callVN (idx := 126) zcX4 calX4_number virX4_number dscX4_number (by decide +kernel) (zNW2 212 rfl rfl) (by decide +kernel)
theorem iX6_readLimits_49 : zSnd zZC zmX6_readLimits 49 (o_goto 54) := s_goto (off := 5) (by decide +kernel) (by decide +kernel)
theorem iX6_readLimits_52 : zSnd zZC zmX6_readLimits 52 (o_lload 5 54) := s_lload (by decide +kernel)
theorem iX6_readLimits_54 : zSnd zZC zmX6_readLimits 54 (o_lstore 7 56) := s_lstore (by decide +kernel) (by decide +kernel)
theorem iX6_readLimits_56 : zSnd zZC zmX6_readLimits 56 (o_lload 7 58) := s_lload (by decide +kernel)
theorem iX6_readLimits_58 : zSnd zZC zmX6_readLimits 58 (o_lload 5 60) := s_lload (by decide +kernel)
theorem iX6_readLimits_60 : zSnd zZC zmX6_readLimits 60 (o_lif (fun x y => x < y) 77 64) := s_llt (off := 16) (by decide +kernel) (by decide +kernel) (by decide +kernel)
theorem iX6_readLimits_64 : zSnd zZC zmX6_readLimits 64 (o_iload 2 65) := s_iload_n (k := 2) (by decide +kernel) rfl
theorem iX6_readLimits_65 : zSnd zZC zmX6_readLimits 65 (o_if0 (fun x => x = 0) 86 68) := s_if_eq (off := 21) (by decide +kernel) (by decide +kernel)
theorem iX6_readLimits_68 : zSnd zZC zmX6_readLimits 68 (o_lload 7 70) := s_lload (by decide +kernel)
set_option maxRecDepth 20000 in
theorem iX6_readLimits_70 : zSnd zZC zmX6_readLimits 70 (o_lc 65536 73) := s_ldc2 (i := 193) (by decide +kernel) (zWS2 225 rfl rfl)
theorem iX6_readLimits_73 : zSnd zZC zmX6_readLimits 73 (o_lif (fun x y => x ≤ y) 86 77) := s_lle (off := 12) (by decide +kernel) (by decide +kernel) (by decide +kernel)
theorem iX6_readLimits_77 : zSnd zZC zmX6_readLimits 77 (o_aload 0 78) := s_aload_n (k := 0) (by decide +kernel) rfl
theorem iX6_readLimits_78 : zSnd zZC zmX6_readLimits 78 (o_getf zYC 3 1 81) := s_getf zcX6 fX6_22 (by decide +kernel) (by decide +kernel)
theorem iX6_readLimits_81 : zSnd zZC zmX6_readLimits 81 (o_iload 1 82) := s_iload_n (k := 1) (by decide +kernel) rfl
theorem iX6_readLimits_82 : zSnd zZC zmX6_readLimits 82 (o_iload 3 83) := s_iload_n (k := 3) (by decide +kernel) rfl
set_option maxRecDepth 20000 in
theorem iX6_readLimits_83 : zSnd zZC zmX6_readLimits 83 (o_callV zZC 2 zmX2_noteWrong 2 0 86) := s_callVN (idx := 186) zcX2 calX2_noteWrong virX2_noteWrong dscX2_noteWrong (by decide +kernel) (zNW2 213 rfl rfl) (by decide +kernel)
theorem iX6_readLimits_86 : zSnd zZC zmX6_readLimits 86 (o_vret) := s_vret rfl (by decide +kernel)
def kX6_readLimits : List (Nat × zOp) := [(0, o_aload 0 1),
  (1, o_getf zYC 3 0 4),
  (4, o_getf zYC 1 2 7),
  (7, o_istore 3 8),
  (8, o_aload 0 9),
  (9, o_getf zYC 3 0 12),
  (12, o_ic 0 13),
  (13, o_ic 1 14),
  (14, o_callV zZC 1 zmX4_octetWithin 2 1 17),
  (17, o_ic 1 18),
  (18, o_icmp (fun x y => x = y) 21 25),
  (21, o_ic 1 22),
  (22, o_goto 26),
  (25, o_ic 0 26),
  (26, o_istore 4 28),
  (28, o_aload 0 29),
  (29, o_getf zYC 3 0 32),
  (32, o_callV zZC 1 zmX4_number 0 2 35),
  (35, o_lstore 5 37),
  (37, o_iload 4 39),
  (39, o_if0 (fun x => x = 0) 52 42),
  (42, o_aload 0 43),
  (43, o_getf zYC 3 0 46),
  (46, o_callV zZC 1 zmX4_number 0 2 49),
  (49, o_goto 54),
  (52, o_lload 5 54),
  (54, o_lstore 7 56),
  (56, o_lload 7 58),
  (58, o_lload 5 60),
  (60, o_lif (fun x y => x < y) 77 64),
  (64, o_iload 2 65),
  (65, o_if0 (fun x => x = 0) 86 68),
  (68, o_lload 7 70),
  (70, o_lc 65536 73),
  (73, o_lif (fun x y => x ≤ y) 86 77),
  (77, o_aload 0 78),
  (78, o_getf zYC 3 1 81),
  (81, o_iload 1 82),
  (82, o_iload 3 83),
  (83, o_callV zZC 2 zmX2_noteWrong 2 0 86),
  (86, o_vret)]
set_option maxRecDepth 100000 in
theorem ksX6_readLimits : ∀ q ∈ kX6_readLimits, zSnd zZC zmX6_readLimits q.1 q.2 := zcc iX6_readLimits_0 (zcc iX6_readLimits_1 (zcc iX6_readLimits_4 (zcc iX6_readLimits_7 (zcc iX6_readLimits_8 (zcc iX6_readLimits_9 (zcc iX6_readLimits_12 (zcc iX6_readLimits_13 (zcc iX6_readLimits_14 (zcc iX6_readLimits_17 (zcc iX6_readLimits_18 (zcc iX6_readLimits_21 (zcc iX6_readLimits_22 (zcc iX6_readLimits_25 (zcc iX6_readLimits_26 (zcc iX6_readLimits_28 (zcc iX6_readLimits_29 (zcc iX6_readLimits_32 (zcc iX6_readLimits_35 (zcc iX6_readLimits_37 (zcc iX6_readLimits_39 (zcc iX6_readLimits_42 (zcc iX6_readLimits_43 (zcc iX6_readLimits_46 (zcc iX6_readLimits_49 (zcc iX6_readLimits_52 (zcc iX6_readLimits_54 (zcc iX6_readLimits_56 (zcc iX6_readLimits_58 (zcc iX6_readLimits_60 (zcc iX6_readLimits_64 (zcc iX6_readLimits_65 (zcc iX6_readLimits_68 (zcc iX6_readLimits_70 (zcc iX6_readLimits_73 (zcc iX6_readLimits_77 (zcc iX6_readLimits_78 (zcc iX6_readLimits_81 (zcc iX6_readLimits_82 (zcc iX6_readLimits_83 (zcc iX6_readLimits_86 zcn))))))))))))))))))))))))))))))))))))))))
theorem iX6_readSectionNumber_0 : zSnd zZC zmX6_readSectionNumber 0 (o_aload 0 1) := s_aload_n (k := 0) (by decide +kernel) rfl
theorem iX6_readSectionNumber_1 : zSnd zZC zmX6_readSectionNumber 1 (o_getf zYC 3 0 4) := s_getf zcX6 fX6_18 (by decide +kernel) (by decide +kernel)
theorem iX6_readSectionNumber_4 : zSnd zZC zmX6_readSectionNumber 4 (o_getf zYC 1 2 7) := s_getf zcX4 fX6_62 (by decide +kernel) (by decide +kernel)
theorem iX6_readSectionNumber_7 : zSnd zZC zmX6_readSectionNumber 7 (o_istore 1 8) := s_istore_n (k := 1) (by decide +kernel) rfl (by decide +kernel)
theorem iX6_readSectionNumber_8 : zSnd zZC zmX6_readSectionNumber 8 (o_aload 0 9) := s_aload_n (k := 0) (by decide +kernel) rfl
theorem iX6_readSectionNumber_9 : zSnd zZC zmX6_readSectionNumber 9 (o_getf zYC 3 0 12) := s_getf zcX6 fX6_18 (by decide +kernel) (by decide +kernel)
theorem iX6_readSectionNumber_12 : zSnd zZC zmX6_readSectionNumber 12 (o_ic 0 13) := s_iconst (i := 0) (by decide +kernel) (by decide +kernel)
theorem iX6_readSectionNumber_13 : zSnd zZC zmX6_readSectionNumber 13 (o_ic 12 15) := s_bipush (i := 12) (by decide +kernel) (by decide +kernel)
set_option maxRecDepth 20000 in
theorem iX6_readSectionNumber_15 : zSnd zZC zmX6_readSectionNumber 15 (o_callV zZC 1 zmX4_octetWithin 2 1 18) := s_callVN (idx := 55) zcX4 calX4_octetWithin virX4_octetWithin dscX4_octetWithin (by decide +kernel) (zNW2 126 rfl rfl) (by decide +kernel)
theorem iX6_readSectionNumber_18 : zSnd zZC zmX6_readSectionNumber 18 (o_istore 2 19) := s_istore_n (k := 2) (by decide +kernel) rfl (by decide +kernel)
theorem iX6_readSectionNumber_19 : zSnd zZC zmX6_readSectionNumber 19 (o_iload 2 20) := s_iload_n (k := 2) (by decide +kernel) rfl
theorem iX6_readSectionNumber_20 : zSnd zZC zmX6_readSectionNumber 20 (o_if0 (fun x => x ≤ 0) 29 23) := s_if_le (off := 9) (by decide +kernel) (by decide +kernel)
theorem iX6_readSectionNumber_23 : zSnd zZC zmX6_readSectionNumber 23 (o_iload 2 24) := s_iload_n (k := 2) (by decide +kernel) rfl
theorem iX6_readSectionNumber_24 : zSnd zZC zmX6_readSectionNumber 24 (o_ic 13 26) := s_bipush (i := 13) (by decide +kernel) (by decide +kernel)
theorem iX6_readSectionNumber_26 : zSnd zZC zmX6_readSectionNumber 26 (o_icmp (fun x y => x < y) 31 29) := s_icmp_lt (off := 5) (by decide +kernel) (by decide +kernel)
theorem iX6_readSectionNumber_29 : zSnd zZC zmX6_readSectionNumber 29 (o_ic 0 30) := s_iconst (i := 0) (by decide +kernel) (by decide +kernel)
theorem iX6_readSectionNumber_30 : zSnd zZC zmX6_readSectionNumber 30 (o_iret) := s_iret rfl (by decide +kernel)
set_option maxRecDepth 20000 in
theorem iX6_readSectionNumber_31 : zSnd zZC zmX6_readSectionNumber 31 (o_gets zt_SECTION_ORDER_k 34) := s_getsN zt_SECTION_ORDER_Z (zNW2 150 rfl rfl) (by decide +kernel)
theorem iX6_readSectionNumber_34 : zSnd zZC zmX6_readSectionNumber 34 (o_iload 2 35) := s_iload_n (k := 2) (by decide +kernel) rfl
theorem iX6_readSectionNumber_35 : zSnd zZC zmX6_readSectionNumber 35 (o_tald zt_SECTION_ORDER_f zt_SECTION_ORDER_n zt_SECTION_ORDER_k 36) := s_tald zt_SECTION_ORDER_T (by decide +kernel)
theorem iX6_readSectionNumber_36 : zSnd zZC zmX6_readSectionNumber 36 (o_aload 0 37) := s_aload_n (k := 0) (by decide +kernel) rfl
theorem iX6_readSectionNumber_37 : zSnd zZC zmX6_readSectionNumber 37 (o_getf zYC 3 5 40) := s_getf zcX6 fX6_48 (by decide +kernel) (by decide +kernel)
theorem iX6_readSectionNumber_40 : zSnd zZC zmX6_readSectionNumber 40 (o_icmp (fun x y => y < x) 52 43) := s_icmp_gt (off := 12) (by decide +kernel) (by decide +kernel)
theorem iX6_readSectionNumber_43 : zSnd zZC zmX6_readSectionNumber 43 (o_aload 0 44) := s_aload_n (k := 0) (by decide +kernel) rfl
theorem iX6_readSectionNumber_44 : zSnd zZC zmX6_readSectionNumber 44 (o_getf zYC 3 0 47) := s_getf zcX6 fX6_18 (by decide +kernel) (by decide +kernel)
theorem iX6_readSectionNumber_47 : zSnd zZC zmX6_readSectionNumber 47 (o_ic 1 48) := s_iconst (i := 1) (by decide +kernel) (by decide +kernel)
theorem iX6_readSectionNumber_48 : zSnd zZC zmX6_readSectionNumber 48 (o_iload 1 49) := s_iload_n (k := 1) (by decide +kernel) rfl
set_option maxRecDepth 20000 in
theorem iX6_readSectionNumber_49 : zSnd zZC zmX6_readSectionNumber 49 (o_callV zZC 1 zmX4_fail 2 0 52) := s_callVN (idx := 149) zcX4 calX4_fail virX4_fail dscX4_fail (by decide +kernel) (zNW2 152 rfl rfl) (by decide +kernel)
theorem iX6_readSectionNumber_52 : zSnd zZC zmX6_readSectionNumber 52 (o_aload 0 53) := s_aload_n (k := 0) (by decide +kernel) rfl
set_option maxRecDepth 20000 in
theorem iX6_readSectionNumber_53 : zSnd zZC zmX6_readSectionNumber 53 (o_gets zt_SECTION_ORDER_k 56) := s_getsN zt_SECTION_ORDER_Z (zNW2 150 rfl rfl) (by decide +kernel)
theorem iX6_readSectionNumber_56 : zSnd zZC zmX6_readSectionNumber 56 (o_iload 2 57) := s_iload_n (k := 2) (by decide +kernel) rfl
theorem iX6_readSectionNumber_57 : zSnd zZC zmX6_readSectionNumber 57 (o_tald zt_SECTION_ORDER_f zt_SECTION_ORDER_n zt_SECTION_ORDER_k 58) := s_tald zt_SECTION_ORDER_T (by decide +kernel)
theorem iX6_readSectionNumber_58 : zSnd zZC zmX6_readSectionNumber 58 (o_putI zYC 3 5 61) := s_putI zcX6 fX6_48 (by decide +kernel) rfl rfl (by decide +kernel)
theorem iX6_readSectionNumber_61 : zSnd zZC zmX6_readSectionNumber 61 (o_iload 2 62) := s_iload_n (k := 2) (by decide +kernel) rfl
theorem iX6_readSectionNumber_62 : zSnd zZC zmX6_readSectionNumber 62 (o_iret) := s_iret rfl (by decide +kernel)
def kX6_readSectionNumber : List (Nat × zOp) := [(0, o_aload 0 1),
  (1, o_getf zYC 3 0 4),
  (4, o_getf zYC 1 2 7),
  (7, o_istore 1 8),
  (8, o_aload 0 9),
  (9, o_getf zYC 3 0 12),
  (12, o_ic 0 13),
  (13, o_ic 12 15),
  (15, o_callV zZC 1 zmX4_octetWithin 2 1 18),
  (18, o_istore 2 19),
  (19, o_iload 2 20),
  (20, o_if0 (fun x => x ≤ 0) 29 23),
  (23, o_iload 2 24),
  (24, o_ic 13 26),
  (26, o_icmp (fun x y => x < y) 31 29),
  (29, o_ic 0 30),
  (30, o_iret),
  (31, o_gets zt_SECTION_ORDER_k 34),
  (34, o_iload 2 35),
  (35, o_tald zt_SECTION_ORDER_f zt_SECTION_ORDER_n zt_SECTION_ORDER_k 36),
  (36, o_aload 0 37),
  (37, o_getf zYC 3 5 40),
  (40, o_icmp (fun x y => y < x) 52 43),
  (43, o_aload 0 44),
  (44, o_getf zYC 3 0 47),
  (47, o_ic 1 48),
  (48, o_iload 1 49),
  (49, o_callV zZC 1 zmX4_fail 2 0 52),
  (52, o_aload 0 53),
  (53, o_gets zt_SECTION_ORDER_k 56),
  (56, o_iload 2 57),
  (57, o_tald zt_SECTION_ORDER_f zt_SECTION_ORDER_n zt_SECTION_ORDER_k 58),
  (58, o_putI zYC 3 5 61),
  (61, o_iload 2 62),
  (62, o_iret)]
set_option maxRecDepth 100000 in
theorem ksX6_readSectionNumber : ∀ q ∈ kX6_readSectionNumber, zSnd zZC zmX6_readSectionNumber q.1 q.2 := zcc iX6_readSectionNumber_0 (zcc iX6_readSectionNumber_1 (zcc iX6_readSectionNumber_4 (zcc iX6_readSectionNumber_7 (zcc iX6_readSectionNumber_8 (zcc iX6_readSectionNumber_9 (zcc iX6_readSectionNumber_12 (zcc iX6_readSectionNumber_13 (zcc iX6_readSectionNumber_15 (zcc iX6_readSectionNumber_18 (zcc iX6_readSectionNumber_19 (zcc iX6_readSectionNumber_20 (zcc iX6_readSectionNumber_23 (zcc iX6_readSectionNumber_24 (zcc iX6_readSectionNumber_26 (zcc iX6_readSectionNumber_29 (zcc iX6_readSectionNumber_30 (zcc iX6_readSectionNumber_31 (zcc iX6_readSectionNumber_34 (zcc iX6_readSectionNumber_35 (zcc iX6_readSectionNumber_36 (zcc iX6_readSectionNumber_37 (zcc iX6_readSectionNumber_40 (zcc iX6_readSectionNumber_43 (zcc iX6_readSectionNumber_44 (zcc iX6_readSectionNumber_47 (zcc iX6_readSectionNumber_48 (zcc iX6_readSectionNumber_49 (zcc iX6_readSectionNumber_52 (zcc iX6_readSectionNumber_53 (zcc iX6_readSectionNumber_56 (zcc iX6_readSectionNumber_57 (zcc iX6_readSectionNumber_58 (zcc iX6_readSectionNumber_61 (zcc iX6_readSectionNumber_62 zcn))))))))))))))))))))))))))))))))))
theorem iX6_readSignatureOfFunction_0 : zSnd zZC zmX6_readSignatureOfFunction 0 (o_aload 0 1) := s_aload_n (k := 0) (by decide +kernel) rfl
theorem iX6_readSignatureOfFunction_1 : zSnd zZC zmX6_readSignatureOfFunction 1 (o_getf zYC 3 0 4) := s_getf zcX6 fX6_18 (by decide +kernel) (by decide +kernel)
theorem iX6_readSignatureOfFunction_4 : zSnd zZC zmX6_readSignatureOfFunction 4 (o_getf zYC 1 2 7) := s_getf zcX4 fX6_62 (by decide +kernel) (by decide +kernel)
theorem iX6_readSignatureOfFunction_7 : zSnd zZC zmX6_readSignatureOfFunction 7 (o_istore 2 8) := s_istore_n (k := 2) (by decide +kernel) rfl (by decide +kernel)
theorem iX6_readSignatureOfFunction_8 : zSnd zZC zmX6_readSignatureOfFunction 8 (o_aload 0 9) := s_aload_n (k := 0) (by decide +kernel) rfl
theorem iX6_readSignatureOfFunction_9 : zSnd zZC zmX6_readSignatureOfFunction 9 (o_getf zYC 3 0 12) := s_getf zcX6 fX6_18 (by decide +kernel) (by decide +kernel)
set_option maxRecDepth 20000 in
theorem iX6_readSignatureOfFunction_12 : zSnd zZC zmX6_readSignatureOfFunction 12 (o_callV zZC 1 zmX4_number 0 2 15) := s_callVN (idx := 126) zcX4 calX4_number virX4_number dscX4_number (by decide +kernel) (zNW2 212 rfl rfl) (by decide +kernel)
theorem iX6_readSignatureOfFunction_15 : zSnd zZC zmX6_readSignatureOfFunction 15 (o_lstore 3 16) := s_lstore_n (k := 3) (by decide +kernel) rfl (by decide +kernel)
theorem iX6_readSignatureOfFunction_16 : zSnd zZC zmX6_readSignatureOfFunction 16 (o_lload 3 17) := s_lload_n (k := 3) (by decide +kernel) rfl
theorem iX6_readSignatureOfFunction_17 : zSnd zZC zmX6_readSignatureOfFunction 17 (o_aload 0 18) := s_aload_n (k := 0) (by decide +kernel) rfl
theorem iX6_readSignatureOfFunction_18 : zSnd zZC zmX6_readSignatureOfFunction 18 (o_getf zYC 3 1 21) := s_getf zcX6 fX6_22 (by decide +kernel) (by decide +kernel)
theorem iX6_readSignatureOfFunction_21 : zSnd zZC zmX6_readSignatureOfFunction 21 (o_getf zYC 2 7 24) := s_getf zcX2 fX6_140 (by decide +kernel) (by decide +kernel)
theorem iX6_readSignatureOfFunction_24 : zSnd zZC zmX6_readSignatureOfFunction 24 (o_ic 1 25) := s_iconst (i := 1) (by decide +kernel) (by decide +kernel)
theorem iX6_readSignatureOfFunction_25 : zSnd zZC zmX6_readSignatureOfFunction 25 (o_ald zYC .int 26) := s_iald (by decide +kernel)
theorem iX6_readSignatureOfFunction_26 : zSnd zZC zmX6_readSignatureOfFunction 26 (o_i2l 27) := s_i2l (by decide +kernel)
theorem iX6_readSignatureOfFunction_27 : zSnd zZC zmX6_readSignatureOfFunction 27 (o_lif (fun x y => x < y) 40 31) := s_llt (off := 12) (by decide +kernel) (by decide +kernel) (by decide +kernel)
theorem iX6_readSignatureOfFunction_31 : zSnd zZC zmX6_readSignatureOfFunction 31 (o_aload 0 32) := s_aload_n (k := 0) (by decide +kernel) rfl
theorem iX6_readSignatureOfFunction_32 : zSnd zZC zmX6_readSignatureOfFunction 32 (o_getf zYC 3 1 35) := s_getf zcX6 fX6_22 (by decide +kernel) (by decide +kernel)
theorem iX6_readSignatureOfFunction_35 : zSnd zZC zmX6_readSignatureOfFunction 35 (o_iload 1 36) := s_iload_n (k := 1) (by decide +kernel) rfl
theorem iX6_readSignatureOfFunction_36 : zSnd zZC zmX6_readSignatureOfFunction 36 (o_iload 2 37) := s_iload_n (k := 2) (by decide +kernel) rfl
set_option maxRecDepth 20000 in
theorem iX6_readSignatureOfFunction_37 : zSnd zZC zmX6_readSignatureOfFunction 37 (o_callV zZC 2 zmX2_noteWrong 2 0 40) := s_callVN (idx := 186) zcX2 calX2_noteWrong virX2_noteWrong dscX2_noteWrong (by decide +kernel) (zNW2 213 rfl rfl) (by decide +kernel)
theorem iX6_readSignatureOfFunction_40 : zSnd zZC zmX6_readSignatureOfFunction 40 (o_aload 0 41) := s_aload_n (k := 0) (by decide +kernel) rfl
theorem iX6_readSignatureOfFunction_41 : zSnd zZC zmX6_readSignatureOfFunction 41 (o_getf zYC 3 1 44) := s_getf zcX6 fX6_22 (by decide +kernel) (by decide +kernel)
theorem iX6_readSignatureOfFunction_44 : zSnd zZC zmX6_readSignatureOfFunction 44 (o_lload 3 45) := s_lload_n (k := 3) (by decide +kernel) rfl
set_option maxRecDepth 20000 in
theorem iX6_readSignatureOfFunction_45 : zSnd zZC zmX6_readSignatureOfFunction 45 (o_callV zZC 2 zmX2_addFunction 1 0 48) := s_callVN (idx := 189) zcX2 calX2_addFunction virX2_addFunction dscX2_addFunction (by decide +kernel) (zNW2 217 rfl rfl) (by decide +kernel)
theorem iX6_readSignatureOfFunction_48 : zSnd zZC zmX6_readSignatureOfFunction 48 (o_vret) := s_vret rfl (by decide +kernel)
def kX6_readSignatureOfFunction : List (Nat × zOp) := [(0, o_aload 0 1),
  (1, o_getf zYC 3 0 4),
  (4, o_getf zYC 1 2 7),
  (7, o_istore 2 8),
  (8, o_aload 0 9),
  (9, o_getf zYC 3 0 12),
  (12, o_callV zZC 1 zmX4_number 0 2 15),
  (15, o_lstore 3 16),
  (16, o_lload 3 17),
  (17, o_aload 0 18),
  (18, o_getf zYC 3 1 21),
  (21, o_getf zYC 2 7 24),
  (24, o_ic 1 25),
  (25, o_ald zYC .int 26),
  (26, o_i2l 27),
  (27, o_lif (fun x y => x < y) 40 31),
  (31, o_aload 0 32),
  (32, o_getf zYC 3 1 35),
  (35, o_iload 1 36),
  (36, o_iload 2 37),
  (37, o_callV zZC 2 zmX2_noteWrong 2 0 40),
  (40, o_aload 0 41),
  (41, o_getf zYC 3 1 44),
  (44, o_lload 3 45),
  (45, o_callV zZC 2 zmX2_addFunction 1 0 48),
  (48, o_vret)]
set_option maxRecDepth 100000 in
theorem ksX6_readSignatureOfFunction : ∀ q ∈ kX6_readSignatureOfFunction, zSnd zZC zmX6_readSignatureOfFunction q.1 q.2 := zcc iX6_readSignatureOfFunction_0 (zcc iX6_readSignatureOfFunction_1 (zcc iX6_readSignatureOfFunction_4 (zcc iX6_readSignatureOfFunction_7 (zcc iX6_readSignatureOfFunction_8 (zcc iX6_readSignatureOfFunction_9 (zcc iX6_readSignatureOfFunction_12 (zcc iX6_readSignatureOfFunction_15 (zcc iX6_readSignatureOfFunction_16 (zcc iX6_readSignatureOfFunction_17 (zcc iX6_readSignatureOfFunction_18 (zcc iX6_readSignatureOfFunction_21 (zcc iX6_readSignatureOfFunction_24 (zcc iX6_readSignatureOfFunction_25 (zcc iX6_readSignatureOfFunction_26 (zcc iX6_readSignatureOfFunction_27 (zcc iX6_readSignatureOfFunction_31 (zcc iX6_readSignatureOfFunction_32 (zcc iX6_readSignatureOfFunction_35 (zcc iX6_readSignatureOfFunction_36 (zcc iX6_readSignatureOfFunction_37 (zcc iX6_readSignatureOfFunction_40 (zcc iX6_readSignatureOfFunction_41 (zcc iX6_readSignatureOfFunction_44 (zcc iX6_readSignatureOfFunction_45 (zcc iX6_readSignatureOfFunction_48 zcn)))))))))))))))))))))))))
theorem iX6_readStart_0 : zSnd zZC zmX6_readStart 0 (o_aload 0 1) := s_aload_n (k := 0) (by decide +kernel) rfl
theorem iX6_readStart_1 : zSnd zZC zmX6_readStart 1 (o_getf zYC 3 0 4) := s_getf zcX6 fX6_18 (by decide +kernel) (by decide +kernel)
theorem iX6_readStart_4 : zSnd zZC zmX6_readStart 4 (o_getf zYC 1 2 7) := s_getf zcX4 fX6_62 (by decide +kernel) (by decide +kernel)
theorem iX6_readStart_7 : zSnd zZC zmX6_readStart 7 (o_istore 1 8) := s_istore_n (k := 1) (by decide +kernel) rfl (by decide +kernel)
theorem iX6_readStart_8 : zSnd zZC zmX6_readStart 8 (o_aload 0 9) := s_aload_n (k := 0) (by decide +kernel) rfl
theorem iX6_readStart_9 : zSnd zZC zmX6_readStart 9 (o_getf zYC 3 1 12) := s_getf zcX6 fX6_22 (by decide +kernel) (by decide +kernel)
theorem iX6_readStart_12 : zSnd zZC zmX6_readStart 12 (o_aload 0 13) := s_aload_n (k := 0) (by decide +kernel) rfl
theorem iX6_readStart_13 : zSnd zZC zmX6_readStart 13 (o_getf zYC 3 0 16) := s_getf zcX6 fX6_18 (by decide +kernel) (by decide +kernel)
set_option maxRecDepth 20000 in
theorem iX6_readStart_16 : zSnd zZC zmX6_readStart 16 (o_callV zZC 1 zmX4_number 0 2 19) := s_callVN (idx := 126) zcX4 calX4_number virX4_number dscX4_number (by decide +kernel) (zNW2 212 rfl rfl) (by decide +kernel)
set_option maxRecDepth 20000 in
theorem iX6_readStart_19 : zSnd zZC zmX6_readStart 19 (o_callV zZC 2 zmX2_signatureOf 1 1 22) := s_callVN (idx := 229) zcX2 calX2_signatureOf virX2_signatureOf dscX2_signatureOf (by decide +kernel) (zNW3 51 rfl rfl) (by decide +kernel)
theorem iX6_readStart_22 : zSnd zZC zmX6_readStart 22 (o_istore 2 23) := s_istore_n (k := 2) (by decide +kernel) rfl (by decide +kernel)
theorem iX6_readStart_23 : zSnd zZC zmX6_readStart 23 (o_iload 2 24) := s_iload_n (k := 2) (by decide +kernel) rfl
theorem iX6_readStart_24 : zSnd zZC zmX6_readStart 24 (o_if0 (fun x => x < 0) 51 27) := s_if_lt (off := 27) (by decide +kernel) (by decide +kernel)
theorem iX6_readStart_27 : zSnd zZC zmX6_readStart 27 (o_aload 0 28) := s_aload_n (k := 0) (by decide +kernel) rfl
theorem iX6_readStart_28 : zSnd zZC zmX6_readStart 28 (o_getf zYC 3 1 31) := s_getf zcX6 fX6_22 (by decide +kernel) (by decide +kernel)
theorem iX6_readStart_31 : zSnd zZC zmX6_readStart 31 (o_iload 2 32) := s_iload_n (k := 2) (by decide +kernel) rfl
set_option maxRecDepth 20000 in
theorem iX6_readStart_32 : zSnd zZC zmX6_readStart 32 (o_callV zZC 2 zmX2_parameterCount 1 1 35) := s_callVN (idx := 233) zcX2 calX2_parameterCount virX2_parameterCount dscX2_parameterCount (by decide +kernel) (zNW3 55 rfl rfl) (by decide +kernel)
theorem iX6_readStart_35 : zSnd zZC zmX6_readStart 35 (o_if0 (fun x => 0 < x) 51 38) := s_if_gt (off := 16) (by decide +kernel) (by decide +kernel)
theorem iX6_readStart_38 : zSnd zZC zmX6_readStart 38 (o_aload 0 39) := s_aload_n (k := 0) (by decide +kernel) rfl
theorem iX6_readStart_39 : zSnd zZC zmX6_readStart 39 (o_getf zYC 3 1 42) := s_getf zcX6 fX6_22 (by decide +kernel) (by decide +kernel)
theorem iX6_readStart_42 : zSnd zZC zmX6_readStart 42 (o_iload 2 43) := s_iload_n (k := 2) (by decide +kernel) rfl
set_option maxRecDepth 20000 in
theorem iX6_readStart_43 : zSnd zZC zmX6_readStart 43 (o_callV zZC 2 zmX2_resultOf 1 1 46) := s_callVN (idx := 236) zcX2 calX2_resultOf virX2_resultOf dscX2_resultOf (by decide +kernel) (zNW3 59 rfl rfl) (by decide +kernel)
theorem iX6_readStart_46 : zSnd zZC zmX6_readStart 46 (o_ic 64 48) := s_bipush (i := 64) (by decide +kernel) (by decide +kernel)
theorem iX6_readStart_48 : zSnd zZC zmX6_readStart 48 (o_icmp (fun x y => x = y) 61 51) := s_icmp_eq (off := 13) (by decide +kernel) (by decide +kernel)
theorem iX6_readStart_51 : zSnd zZC zmX6_readStart 51 (o_aload 0 52) := s_aload_n (k := 0) (by decide +kernel) rfl
theorem iX6_readStart_52 : zSnd zZC zmX6_readStart 52 (o_getf zYC 3 1 55) := s_getf zcX6 fX6_22 (by decide +kernel) (by decide +kernel)
theorem iX6_readStart_55 : zSnd zZC zmX6_readStart 55 (o_ic 9 57) := s_bipush (i := 9) (by decide +kernel) (by decide +kernel)
theorem iX6_readStart_57 : zSnd zZC zmX6_readStart 57 (o_iload 1 58) := s_iload_n (k := 1) (by decide +kernel) rfl
set_option maxRecDepth 20000 in
theorem iX6_readStart_58 : zSnd zZC zmX6_readStart 58 (o_callV zZC 2 zmX2_noteWrong 2 0 61) := s_callVN (idx := 186) zcX2 calX2_noteWrong virX2_noteWrong dscX2_noteWrong (by decide +kernel) (zNW2 213 rfl rfl) (by decide +kernel)
theorem iX6_readStart_61 : zSnd zZC zmX6_readStart 61 (o_vret) := s_vret rfl (by decide +kernel)
def kX6_readStart : List (Nat × zOp) := [(0, o_aload 0 1),
  (1, o_getf zYC 3 0 4),
  (4, o_getf zYC 1 2 7),
  (7, o_istore 1 8),
  (8, o_aload 0 9),
  (9, o_getf zYC 3 1 12),
  (12, o_aload 0 13),
  (13, o_getf zYC 3 0 16),
  (16, o_callV zZC 1 zmX4_number 0 2 19),
  (19, o_callV zZC 2 zmX2_signatureOf 1 1 22),
  (22, o_istore 2 23),
  (23, o_iload 2 24),
  (24, o_if0 (fun x => x < 0) 51 27),
  (27, o_aload 0 28),
  (28, o_getf zYC 3 1 31),
  (31, o_iload 2 32),
  (32, o_callV zZC 2 zmX2_parameterCount 1 1 35),
  (35, o_if0 (fun x => 0 < x) 51 38),
  (38, o_aload 0 39),
  (39, o_getf zYC 3 1 42),
  (42, o_iload 2 43),
  (43, o_callV zZC 2 zmX2_resultOf 1 1 46),
  (46, o_ic 64 48),
  (48, o_icmp (fun x y => x = y) 61 51),
  (51, o_aload 0 52),
  (52, o_getf zYC 3 1 55),
  (55, o_ic 9 57),
  (57, o_iload 1 58),
  (58, o_callV zZC 2 zmX2_noteWrong 2 0 61),
  (61, o_vret)]
set_option maxRecDepth 100000 in
theorem ksX6_readStart : ∀ q ∈ kX6_readStart, zSnd zZC zmX6_readStart q.1 q.2 := zcc iX6_readStart_0 (zcc iX6_readStart_1 (zcc iX6_readStart_4 (zcc iX6_readStart_7 (zcc iX6_readStart_8 (zcc iX6_readStart_9 (zcc iX6_readStart_12 (zcc iX6_readStart_13 (zcc iX6_readStart_16 (zcc iX6_readStart_19 (zcc iX6_readStart_22 (zcc iX6_readStart_23 (zcc iX6_readStart_24 (zcc iX6_readStart_27 (zcc iX6_readStart_28 (zcc iX6_readStart_31 (zcc iX6_readStart_32 (zcc iX6_readStart_35 (zcc iX6_readStart_38 (zcc iX6_readStart_39 (zcc iX6_readStart_42 (zcc iX6_readStart_43 (zcc iX6_readStart_46 (zcc iX6_readStart_48 (zcc iX6_readStart_51 (zcc iX6_readStart_52 (zcc iX6_readStart_55 (zcc iX6_readStart_57 (zcc iX6_readStart_58 (zcc iX6_readStart_61 zcn)))))))))))))))))))))))))))))
theorem iX7_begin_0 : zSnd zZC zmX7_begin 0 (o_aload 0 1) := s_aload_n (k := 0) (by decide +kernel) rfl
theorem iX7_begin_1 : zSnd zZC zmX7_begin 1 (o_getf zYC 7 1 4) := s_getf zcX7 fX7_19 (by decide +kernel) (by decide +kernel)
theorem iX7_begin_4 : zSnd zZC zmX7_begin 4 (o_aload 0 5) := s_aload_n (k := 0) (by decide +kernel) rfl
theorem iX7_begin_5 : zSnd zZC zmX7_begin 5 (o_getf zYC 7 0 8) := s_getf zcX7 fX7_15 (by decide +kernel) (by decide +kernel)
theorem iX7_begin_8 : zSnd zZC zmX7_begin 8 (o_iload 1 9) := s_iload_n (k := 1) (by decide +kernel) rfl
set_option maxRecDepth 20000 in
theorem iX7_begin_9 : zSnd zZC zmX7_begin 9 (o_callV zZC 2 zmX2_resultOf 1 1 12) := s_callVN (idx := 23) zcX2 calX2_resultOf virX2_resultOf dscX2_resultOf (by decide +kernel) (zNW3 81 rfl rfl) (by decide +kernel)
set_option maxRecDepth 20000 in
theorem iX7_begin_12 : zSnd zZC zmX7_begin 12 (o_callV zZC 5 zmX3_begin 1 0 15) := s_callVN (idx := 29) zcX3 calX3_begin virX3_begin dscX3_begin (by decide +kernel) (zNW3 82 rfl rfl) (by decide +kernel)
theorem iX7_begin_15 : zSnd zZC zmX7_begin 15 (o_aload 0 16) := s_aload_n (k := 0) (by decide +kernel) rfl
theorem iX7_begin_16 : zSnd zZC zmX7_begin 16 (o_ic 0 17) := s_iconst (i := 0) (by decide +kernel) (by decide +kernel)
theorem iX7_begin_17 : zSnd zZC zmX7_begin 17 (o_putI zYC 7 3 20) := s_putI zcX7 fX7_35 (by decide +kernel) rfl rfl (by decide +kernel)
theorem iX7_begin_20 : zSnd zZC zmX7_begin 20 (o_ic 0 21) := s_iconst (i := 0) (by decide +kernel) (by decide +kernel)
theorem iX7_begin_21 : zSnd zZC zmX7_begin 21 (o_istore 2 22) := s_istore_n (k := 2) (by decide +kernel) rfl (by decide +kernel)
theorem iX7_begin_22 : zSnd zZC zmX7_begin 22 (o_iload 2 23) := s_iload_n (k := 2) (by decide +kernel) rfl
theorem iX7_begin_23 : zSnd zZC zmX7_begin 23 (o_aload 0 24) := s_aload_n (k := 0) (by decide +kernel) rfl
theorem iX7_begin_24 : zSnd zZC zmX7_begin 24 (o_getf zYC 7 0 27) := s_getf zcX7 fX7_15 (by decide +kernel) (by decide +kernel)
theorem iX7_begin_27 : zSnd zZC zmX7_begin 27 (o_iload 1 28) := s_iload_n (k := 1) (by decide +kernel) rfl
set_option maxRecDepth 20000 in
theorem iX7_begin_28 : zSnd zZC zmX7_begin 28 (o_callV zZC 2 zmX2_parameterCount 1 1 31) := s_callVN (idx := 39) zcX2 calX2_parameterCount virX2_parameterCount dscX2_parameterCount (by decide +kernel) (zNW3 90 rfl rfl) (by decide +kernel)
theorem iX7_begin_31 : zSnd zZC zmX7_begin 31 (o_icmp (fun x y => y ≤ x) 54 34) := s_icmp_ge (off := 23) (by decide +kernel) (by decide +kernel)
theorem iX7_begin_34 : zSnd zZC zmX7_begin 34 (o_aload 0 35) := s_aload_n (k := 0) (by decide +kernel) rfl
theorem iX7_begin_35 : zSnd zZC zmX7_begin 35 (o_ic 1 36) := s_iconst (i := 1) (by decide +kernel) (by decide +kernel)
theorem iX7_begin_36 : zSnd zZC zmX7_begin 36 (o_aload 0 37) := s_aload_n (k := 0) (by decide +kernel) rfl
theorem iX7_begin_37 : zSnd zZC zmX7_begin 37 (o_getf zYC 7 0 40) := s_getf zcX7 fX7_15 (by decide +kernel) (by decide +kernel)
theorem iX7_begin_40 : zSnd zZC zmX7_begin 40 (o_iload 1 41) := s_iload_n (k := 1) (by decide +kernel) rfl
theorem iX7_begin_41 : zSnd zZC zmX7_begin 41 (o_iload 2 42) := s_iload_n (k := 2) (by decide +kernel) rfl
set_option maxRecDepth 20000 in
theorem iX7_begin_42 : zSnd zZC zmX7_begin 42 (o_callV zZC 2 zmX2_parameter 2 1 45) := s_callVN (idx := 42) zcX2 calX2_parameter virX2_parameter dscX2_parameter (by decide +kernel) (zNW3 91 rfl rfl) (by decide +kernel)
set_option maxRecDepth 20000 in
theorem iX7_begin_45 : zSnd zZC zmX7_begin 45 (o_callV zZC 7 zmX7_addLocals 2 0 48) := s_callV (idx := 46) zcX7 calX7_addLocals virX7_addLocals dscX7_addLocals (by decide +kernel) (zWS3 95 rfl rfl) (by decide +kernel)
theorem iX7_begin_48 : zSnd zZC zmX7_begin 48 (o_iinc 2 1 51) := s_iinc (a := 1) (by decide +kernel) (by decide +kernel) (by decide +kernel)
theorem iX7_begin_51 : zSnd zZC zmX7_begin 51 (o_goto 22) := s_goto (off := (-29)) (by decide +kernel) (by decide +kernel)
theorem iX7_begin_54 : zSnd zZC zmX7_begin 54 (o_vret) := s_vret rfl (by decide +kernel)
def kX7_begin : List (Nat × zOp) := [(0, o_aload 0 1),
  (1, o_getf zYC 7 1 4),
  (4, o_aload 0 5),
  (5, o_getf zYC 7 0 8),
  (8, o_iload 1 9),
  (9, o_callV zZC 2 zmX2_resultOf 1 1 12),
  (12, o_callV zZC 5 zmX3_begin 1 0 15),
  (15, o_aload 0 16),
  (16, o_ic 0 17),
  (17, o_putI zYC 7 3 20),
  (20, o_ic 0 21),
  (21, o_istore 2 22),
  (22, o_iload 2 23),
  (23, o_aload 0 24),
  (24, o_getf zYC 7 0 27),
  (27, o_iload 1 28),
  (28, o_callV zZC 2 zmX2_parameterCount 1 1 31),
  (31, o_icmp (fun x y => y ≤ x) 54 34),
  (34, o_aload 0 35),
  (35, o_ic 1 36),
  (36, o_aload 0 37),
  (37, o_getf zYC 7 0 40),
  (40, o_iload 1 41),
  (41, o_iload 2 42),
  (42, o_callV zZC 2 zmX2_parameter 2 1 45),
  (45, o_callV zZC 7 zmX7_addLocals 2 0 48),
  (48, o_iinc 2 1 51),
  (51, o_goto 22),
  (54, o_vret)]
set_option maxRecDepth 100000 in
theorem ksX7_begin : ∀ q ∈ kX7_begin, zSnd zZC zmX7_begin q.1 q.2 := zcc iX7_begin_0 (zcc iX7_begin_1 (zcc iX7_begin_4 (zcc iX7_begin_5 (zcc iX7_begin_8 (zcc iX7_begin_9 (zcc iX7_begin_12 (zcc iX7_begin_15 (zcc iX7_begin_16 (zcc iX7_begin_17 (zcc iX7_begin_20 (zcc iX7_begin_21 (zcc iX7_begin_22 (zcc iX7_begin_23 (zcc iX7_begin_24 (zcc iX7_begin_27 (zcc iX7_begin_28 (zcc iX7_begin_31 (zcc iX7_begin_34 (zcc iX7_begin_35 (zcc iX7_begin_36 (zcc iX7_begin_37 (zcc iX7_begin_40 (zcc iX7_begin_41 (zcc iX7_begin_42 (zcc iX7_begin_45 (zcc iX7_begin_48 (zcc iX7_begin_51 (zcc iX7_begin_54 zcn))))))))))))))))))))))))))))
theorem iX7_isRight_0 : zSnd zZC zmX7_isRight 0 (o_aload 1 1) := s_aload_n (k := 1) (by decide +kernel) rfl
theorem iX7_isRight_1 : zSnd zZC zmX7_isRight 1 (o_getf zYC 6 3 4) := s_getf zcX5 fX7_50 (by decide +kernel) (by decide +kernel)
theorem iX7_isRight_4 : zSnd zZC zmX7_isRight 4 (o_istore 2 5) := s_istore_n (k := 2) (by decide +kernel) rfl (by decide +kernel)
theorem iX7_isRight_5 : zSnd zZC zmX7_isRight 5 (o_aload 0 6) := s_aload_n (k := 0) (by decide +kernel) rfl
theorem iX7_isRight_6 : zSnd zZC zmX7_isRight 6 (o_getf zYC 7 1 9) := s_getf zcX7 fX7_19 (by decide +kernel) (by decide +kernel)
theorem iX7_isRight_9 : zSnd zZC zmX7_isRight 9 (o_ic 1 10) := s_iconst (i := 1) (by decide +kernel) (by decide +kernel)
theorem iX7_isRight_10 : zSnd zZC zmX7_isRight 10 (o_putZ zYC 5 7 13) := s_putZ zcX3 fX7_55 (by decide +kernel) rfl rfl (by decide +kernel)
theorem iX7_isRight_13 : zSnd zZC zmX7_isRight 13 (o_iload 2 14) := s_iload_n (k := 2) (by decide +kernel) rfl
theorem iX7_isRight_14 : zSnd zZC zmX7_isRight 14 (o_ic 5 15) := s_iconst (i := 5) (by decide +kernel) (by decide +kernel)
theorem iX7_isRight_15 : zSnd zZC zmX7_isRight 15 (o_icmp (fun x y => x ≤ y) 24 18) := s_icmp_le (off := 9) (by decide +kernel) (by decide +kernel)
theorem iX7_isRight_18 : zSnd zZC zmX7_isRight 18 (o_iload 2 19) := s_iload_n (k := 2) (by decide +kernel) rfl
theorem iX7_isRight_19 : zSnd zZC zmX7_isRight 19 (o_ic 11 21) := s_bipush (i := 11) (by decide +kernel) (by decide +kernel)
theorem iX7_isRight_21 : zSnd zZC zmX7_isRight 21 (o_icmp (fun x y => x = y) 24 32) := s_icmp_ne (off := 11) (by decide +kernel) (by decide +kernel)
theorem iX7_isRight_24 : zSnd zZC zmX7_isRight 24 (o_aload 0 25) := s_aload_n (k := 0) (by decide +kernel) rfl
theorem iX7_isRight_25 : zSnd zZC zmX7_isRight 25 (o_iload 2 26) := s_iload_n (k := 2) (by decide +kernel) rfl
set_option maxRecDepth 20000 in
theorem iX7_isRight_26 : zSnd zZC zmX7_isRight 26 (o_callV zZC 7 zmX7_followFrame 1 0 29) := s_callV (idx := 59) zcX7 calX7_followFrame virX7_followFrame dscX7_followFrame (by decide +kernel) (zWS3 162 rfl rfl) (by decide +kernel)
theorem iX7_isRight_29 : zSnd zZC zmX7_isRight 29 (o_goto 188) := s_goto (off := 159) (by decide +kernel) (by decide +kernel)
theorem iX7_isRight_32 : zSnd zZC zmX7_isRight 32 (o_iload 2 33) := s_iload_n (k := 2) (by decide +kernel) rfl
theorem iX7_isRight_33 : zSnd zZC zmX7_isRight 33 (o_ic 14 35) := s_bipush (i := 14) (by decide +kernel) (by decide +kernel)
theorem iX7_isRight_35 : zSnd zZC zmX7_isRight 35 (o_icmp (fun x y => x = y) 38 46) := s_icmp_ne (off := 11) (by decide +kernel) (by decide +kernel)
theorem iX7_isRight_38 : zSnd zZC zmX7_isRight 38 (o_aload 0 39) := s_aload_n (k := 0) (by decide +kernel) rfl
theorem iX7_isRight_39 : zSnd zZC zmX7_isRight 39 (o_aload 1 40) := s_aload_n (k := 1) (by decide +kernel) rfl
set_option maxRecDepth 20000 in
theorem iX7_isRight_40 : zSnd zZC zmX7_isRight 40 (o_callV zZC 7 zmX7_followTable 1 0 43) := s_callV (idx := 62) zcX7 calX7_followTable virX7_followTable dscX7_followTable (by decide +kernel) (zWS3 187 rfl rfl) (by decide +kernel)
theorem iX7_isRight_43 : zSnd zZC zmX7_isRight 43 (o_goto 188) := s_goto (off := 145) (by decide +kernel) (by decide +kernel)
theorem iX7_isRight_46 : zSnd zZC zmX7_isRight 46 (o_iload 2 47) := s_iload_n (k := 2) (by decide +kernel) rfl
theorem iX7_isRight_47 : zSnd zZC zmX7_isRight 47 (o_ic 15 49) := s_bipush (i := 15) (by decide +kernel) (by decide +kernel)
theorem iX7_isRight_49 : zSnd zZC zmX7_isRight 49 (o_icmp (fun x y => y < x) 64 52) := s_icmp_gt (off := 15) (by decide +kernel) (by decide +kernel)
theorem iX7_isRight_52 : zSnd zZC zmX7_isRight 52 (o_aload 0 53) := s_aload_n (k := 0) (by decide +kernel) rfl
theorem iX7_isRight_53 : zSnd zZC zmX7_isRight 53 (o_iload 2 54) := s_iload_n (k := 2) (by decide +kernel) rfl
theorem iX7_isRight_54 : zSnd zZC zmX7_isRight 54 (o_aload 1 55) := s_aload_n (k := 1) (by decide +kernel) rfl
theorem iX7_isRight_55 : zSnd zZC zmX7_isRight 55 (o_getf zYC 6 4 58) := s_getf zcX5 fX7_66 (by decide +kernel) (by decide +kernel)
set_option maxRecDepth 20000 in
theorem iX7_isRight_58 : zSnd zZC zmX7_isRight 58 (o_callV zZC 7 zmX7_followLeap 2 0 61) := s_callV (idx := 70) zcX7 calX7_followLeap virX7_followLeap dscX7_followLeap (by decide +kernel) (zWS3 195 rfl rfl) (by decide +kernel)
theorem iX7_isRight_61 : zSnd zZC zmX7_isRight 61 (o_goto 188) := s_goto (off := 127) (by decide +kernel) (by decide +kernel)
theorem iX7_isRight_64 : zSnd zZC zmX7_isRight 64 (o_iload 2 65) := s_iload_n (k := 2) (by decide +kernel) rfl
theorem iX7_isRight_65 : zSnd zZC zmX7_isRight 65 (o_ic 17 67) := s_bipush (i := 17) (by decide +kernel) (by decide +kernel)
theorem iX7_isRight_67 : zSnd zZC zmX7_isRight 67 (o_icmp (fun x y => y < x) 82 70) := s_icmp_gt (off := 15) (by decide +kernel) (by decide +kernel)
theorem iX7_isRight_70 : zSnd zZC zmX7_isRight 70 (o_aload 0 71) := s_aload_n (k := 0) (by decide +kernel) rfl
theorem iX7_isRight_71 : zSnd zZC zmX7_isRight 71 (o_iload 2 72) := s_iload_n (k := 2) (by decide +kernel) rfl
theorem iX7_isRight_72 : zSnd zZC zmX7_isRight 72 (o_aload 1 73) := s_aload_n (k := 1) (by decide +kernel) rfl
theorem iX7_isRight_73 : zSnd zZC zmX7_isRight 73 (o_getf zYC 6 4 76) := s_getf zcX5 fX7_66 (by decide +kernel) (by decide +kernel)
set_option maxRecDepth 20000 in
theorem iX7_isRight_76 : zSnd zZC zmX7_isRight 76 (o_callV zZC 7 zmX7_followCall 2 0 79) := s_callV (idx := 74) zcX7 calX7_followCall virX7_followCall dscX7_followCall (by decide +kernel) (zWS3 207 rfl rfl) (by decide +kernel)
theorem iX7_isRight_79 : zSnd zZC zmX7_isRight 79 (o_goto 188) := s_goto (off := 109) (by decide +kernel) (by decide +kernel)
theorem iX7_isRight_82 : zSnd zZC zmX7_isRight 82 (o_iload 2 83) := s_iload_n (k := 2) (by decide +kernel) rfl
theorem iX7_isRight_83 : zSnd zZC zmX7_isRight 83 (o_ic 27 85) := s_bipush (i := 27) (by decide +kernel) (by decide +kernel)
theorem iX7_isRight_85 : zSnd zZC zmX7_isRight 85 (o_icmp (fun x y => y < x) 96 88) := s_icmp_gt (off := 11) (by decide +kernel) (by decide +kernel)
theorem iX7_isRight_88 : zSnd zZC zmX7_isRight 88 (o_aload 0 89) := s_aload_n (k := 0) (by decide +kernel) rfl
theorem iX7_isRight_89 : zSnd zZC zmX7_isRight 89 (o_iload 2 90) := s_iload_n (k := 2) (by decide +kernel) rfl
set_option maxRecDepth 20000 in
theorem iX7_isRight_90 : zSnd zZC zmX7_isRight 90 (o_callV zZC 7 zmX7_followChoice 1 0 93) := s_callV (idx := 77) zcX7 calX7_followChoice virX7_followChoice dscX7_followChoice (by decide +kernel) (zWS3 212 rfl rfl) (by decide +kernel)
theorem iX7_isRight_93 : zSnd zZC zmX7_isRight 93 (o_goto 188) := s_goto (off := 95) (by decide +kernel) (by decide +kernel)
theorem iX7_isRight_96 : zSnd zZC zmX7_isRight 96 (o_iload 2 97) := s_iload_n (k := 2) (by decide +kernel) rfl
theorem iX7_isRight_97 : zSnd zZC zmX7_isRight 97 (o_ic 34 99) := s_bipush (i := 34) (by decide +kernel) (by decide +kernel)
theorem iX7_isRight_99 : zSnd zZC zmX7_isRight 99 (o_icmp (fun x y => y < x) 114 102) := s_icmp_gt (off := 15) (by decide +kernel) (by decide +kernel)
theorem iX7_isRight_102 : zSnd zZC zmX7_isRight 102 (o_aload 0 103) := s_aload_n (k := 0) (by decide +kernel) rfl
theorem iX7_isRight_103 : zSnd zZC zmX7_isRight 103 (o_iload 2 104) := s_iload_n (k := 2) (by decide +kernel) rfl
theorem iX7_isRight_104 : zSnd zZC zmX7_isRight 104 (o_aload 1 105) := s_aload_n (k := 1) (by decide +kernel) rfl
theorem iX7_isRight_105 : zSnd zZC zmX7_isRight 105 (o_getf zYC 6 4 108) := s_getf zcX5 fX7_66 (by decide +kernel) (by decide +kernel)
set_option maxRecDepth 20000 in
theorem iX7_isRight_108 : zSnd zZC zmX7_isRight 108 (o_callV zZC 7 zmX7_followLocal 2 0 111) := s_callV (idx := 80) zcX7 calX7_followLocal virX7_followLocal dscX7_followLocal (by decide +kernel) (zWS3 216 rfl rfl) (by decide +kernel)
theorem iX7_isRight_111 : zSnd zZC zmX7_isRight 111 (o_goto 188) := s_goto (off := 77) (by decide +kernel) (by decide +kernel)
theorem iX7_isRight_114 : zSnd zZC zmX7_isRight 114 (o_iload 2 115) := s_iload_n (k := 2) (by decide +kernel) rfl
theorem iX7_isRight_115 : zSnd zZC zmX7_isRight 115 (o_ic 36 117) := s_bipush (i := 36) (by decide +kernel) (by decide +kernel)
theorem iX7_isRight_117 : zSnd zZC zmX7_isRight 117 (o_icmp (fun x y => y < x) 132 120) := s_icmp_gt (off := 15) (by decide +kernel) (by decide +kernel)
theorem iX7_isRight_120 : zSnd zZC zmX7_isRight 120 (o_aload 0 121) := s_aload_n (k := 0) (by decide +kernel) rfl
theorem iX7_isRight_121 : zSnd zZC zmX7_isRight 121 (o_iload 2 122) := s_iload_n (k := 2) (by decide +kernel) rfl
theorem iX7_isRight_122 : zSnd zZC zmX7_isRight 122 (o_aload 1 123) := s_aload_n (k := 1) (by decide +kernel) rfl
theorem iX7_isRight_123 : zSnd zZC zmX7_isRight 123 (o_getf zYC 6 4 126) := s_getf zcX5 fX7_66 (by decide +kernel) (by decide +kernel)
set_option maxRecDepth 20000 in
theorem iX7_isRight_126 : zSnd zZC zmX7_isRight 126 (o_callV zZC 7 zmX7_followGlobal 2 0 129) := s_callV (idx := 83) zcX7 calX7_followGlobal virX7_followGlobal dscX7_followGlobal (by decide +kernel) (zWS3 220 rfl rfl) (by decide +kernel)
theorem iX7_isRight_129 : zSnd zZC zmX7_isRight 129 (o_goto 188) := s_goto (off := 59) (by decide +kernel) (by decide +kernel)
theorem iX7_isRight_132 : zSnd zZC zmX7_isRight 132 (o_iload 2 133) := s_iload_n (k := 2) (by decide +kernel) rfl
theorem iX7_isRight_133 : zSnd zZC zmX7_isRight 133 (o_ic 62 135) := s_bipush (i := 62) (by decide +kernel) (by decide +kernel)
theorem iX7_isRight_135 : zSnd zZC zmX7_isRight 135 (o_icmp (fun x y => y < x) 150 138) := s_icmp_gt (off := 15) (by decide +kernel) (by decide +kernel)
theorem iX7_isRight_138 : zSnd zZC zmX7_isRight 138 (o_aload 0 139) := s_aload_n (k := 0) (by decide +kernel) rfl
theorem iX7_isRight_139 : zSnd zZC zmX7_isRight 139 (o_iload 2 140) := s_iload_n (k := 2) (by decide +kernel) rfl
theorem iX7_isRight_140 : zSnd zZC zmX7_isRight 140 (o_aload 1 141) := s_aload_n (k := 1) (by decide +kernel) rfl
theorem iX7_isRight_141 : zSnd zZC zmX7_isRight 141 (o_getf zYC 6 4 144) := s_getf zcX5 fX7_66 (by decide +kernel) (by decide +kernel)
set_option maxRecDepth 20000 in
theorem iX7_isRight_144 : zSnd zZC zmX7_isRight 144 (o_callV zZC 7 zmX7_followAccess 2 0 147) := s_callV (idx := 86) zcX7 calX7_followAccess virX7_followAccess dscX7_followAccess (by decide +kernel) (zWS3 226 rfl rfl) (by decide +kernel)
theorem iX7_isRight_147 : zSnd zZC zmX7_isRight 147 (o_goto 188) := s_goto (off := 41) (by decide +kernel) (by decide +kernel)
theorem iX7_isRight_150 : zSnd zZC zmX7_isRight 150 (o_iload 2 151) := s_iload_n (k := 2) (by decide +kernel) rfl
theorem iX7_isRight_151 : zSnd zZC zmX7_isRight 151 (o_ic 64 153) := s_bipush (i := 64) (by decide +kernel) (by decide +kernel)
theorem iX7_isRight_153 : zSnd zZC zmX7_isRight 153 (o_icmp (fun x y => y < x) 164 156) := s_icmp_gt (off := 11) (by decide +kernel) (by decide +kernel)
theorem iX7_isRight_156 : zSnd zZC zmX7_isRight 156 (o_aload 0 157) := s_aload_n (k := 0) (by decide +kernel) rfl
theorem iX7_isRight_157 : zSnd zZC zmX7_isRight 157 (o_iload 2 158) := s_iload_n (k := 2) (by decide +kernel) rfl
set_option maxRecDepth 20000 in
theorem iX7_isRight_158 : zSnd zZC zmX7_isRight 158 (o_callV zZC 7 zmX7_followSize 1 0 161) := s_callV (idx := 89) zcX7 calX7_followSize virX7_followSize dscX7_followSize (by decide +kernel) (zWS3 232 rfl rfl) (by decide +kernel)
theorem iX7_isRight_161 : zSnd zZC zmX7_isRight 161 (o_goto 188) := s_goto (off := 27) (by decide +kernel) (by decide +kernel)
theorem iX7_isRight_164 : zSnd zZC zmX7_isRight 164 (o_iload 2 165) := s_iload_n (k := 2) (by decide +kernel) rfl
theorem iX7_isRight_165 : zSnd zZC zmX7_isRight 165 (o_ic 256 168) := s_sipush (i := 256) (by decide +kernel) (by decide +kernel)
theorem iX7_isRight_168 : zSnd zZC zmX7_isRight 168 (o_icmp (fun x y => y ≤ x) 179 171) := s_icmp_ge (off := 11) (by decide +kernel) (by decide +kernel)
theorem iX7_isRight_171 : zSnd zZC zmX7_isRight 171 (o_aload 0 172) := s_aload_n (k := 0) (by decide +kernel) rfl
theorem iX7_isRight_172 : zSnd zZC zmX7_isRight 172 (o_iload 2 173) := s_iload_n (k := 2) (by decide +kernel) rfl
set_option maxRecDepth 20000 in
theorem iX7_isRight_173 : zSnd zZC zmX7_isRight 173 (o_callV zZC 7 zmX7_followPlain 1 0 176) := s_callV (idx := 92) zcX7 calX7_followPlain virX7_followPlain dscX7_followPlain (by decide +kernel) (zWS3 236 rfl rfl) (by decide +kernel)
theorem iX7_isRight_176 : zSnd zZC zmX7_isRight 176 (o_goto 188) := s_goto (off := 12) (by decide +kernel) (by decide +kernel)
theorem iX7_isRight_179 : zSnd zZC zmX7_isRight 179 (o_aload 0 180) := s_aload_n (k := 0) (by decide +kernel) rfl
theorem iX7_isRight_180 : zSnd zZC zmX7_isRight 180 (o_iload 2 181) := s_iload_n (k := 2) (by decide +kernel) rfl
theorem iX7_isRight_181 : zSnd zZC zmX7_isRight 181 (o_aload 1 182) := s_aload_n (k := 1) (by decide +kernel) rfl
theorem iX7_isRight_182 : zSnd zZC zmX7_isRight 182 (o_getf zYC 6 4 185) := s_getf zcX5 fX7_66 (by decide +kernel) (by decide +kernel)
set_option maxRecDepth 20000 in
theorem iX7_isRight_185 : zSnd zZC zmX7_isRight 185 (o_callV zZC 7 zmX7_followLonger 2 0 188) := s_callV (idx := 95) zcX7 calX7_followLonger virX7_followLonger dscX7_followLonger (by decide +kernel) (zWS4 9 rfl rfl) (by decide +kernel)
theorem iX7_isRight_188 : zSnd zZC zmX7_isRight 188 (o_aload 0 189) := s_aload_n (k := 0) (by decide +kernel) rfl
theorem iX7_isRight_189 : zSnd zZC zmX7_isRight 189 (o_getf zYC 7 1 192) := s_getf zcX7 fX7_19 (by decide +kernel) (by decide +kernel)
theorem iX7_isRight_192 : zSnd zZC zmX7_isRight 192 (o_getf zYC 5 7 195) := s_getf zcX3 fX7_55 (by decide +kernel) (by decide +kernel)
theorem iX7_isRight_195 : zSnd zZC zmX7_isRight 195 (o_zret) := s_zret rfl (by decide +kernel)
def kX7_isRight : List (Nat × zOp) := [(0, o_aload 1 1),
  (1, o_getf zYC 6 3 4),
  (4, o_istore 2 5),
  (5, o_aload 0 6),
  (6, o_getf zYC 7 1 9),
  (9, o_ic 1 10),
  (10, o_putZ zYC 5 7 13),
  (13, o_iload 2 14),
  (14, o_ic 5 15),
  (15, o_icmp (fun x y => x ≤ y) 24 18),
  (18, o_iload 2 19),
  (19, o_ic 11 21),
  (21, o_icmp (fun x y => x = y) 24 32),
  (24, o_aload 0 25),
  (25, o_iload 2 26),
  (26, o_callV zZC 7 zmX7_followFrame 1 0 29),
  (29, o_goto 188),
  (32, o_iload 2 33),
  (33, o_ic 14 35),
  (35, o_icmp (fun x y => x = y) 38 46),
  (38, o_aload 0 39),
  (39, o_aload 1 40),
  (40, o_callV zZC 7 zmX7_followTable 1 0 43),
  (43, o_goto 188),
  (46, o_iload 2 47),
  (47, o_ic 15 49),
  (49, o_icmp (fun x y => y < x) 64 52),
  (52, o_aload 0 53),
  (53, o_iload 2 54),
  (54, o_aload 1 55),
  (55, o_getf zYC 6 4 58),
  (58, o_callV zZC 7 zmX7_followLeap 2 0 61),
  (61, o_goto 188),
  (64, o_iload 2 65),
  (65, o_ic 17 67),
  (67, o_icmp (fun x y => y < x) 82 70),
  (70, o_aload 0 71),
  (71, o_iload 2 72),
  (72, o_aload 1 73),
  (73, o_getf zYC 6 4 76),
  (76, o_callV zZC 7 zmX7_followCall 2 0 79),
  (79, o_goto 188),
  (82, o_iload 2 83),
  (83, o_ic 27 85),
  (85, o_icmp (fun x y => y < x) 96 88),
  (88, o_aload 0 89),
  (89, o_iload 2 90),
  (90, o_callV zZC 7 zmX7_followChoice 1 0 93),
  (93, o_goto 188),
  (96, o_iload 2 97),
  (97, o_ic 34 99),
  (99, o_icmp (fun x y => y < x) 114 102),
  (102, o_aload 0 103),
  (103, o_iload 2 104),
  (104, o_aload 1 105),
  (105, o_getf zYC 6 4 108),
  (108, o_callV zZC 7 zmX7_followLocal 2 0 111),
  (111, o_goto 188),
  (114, o_iload 2 115),
  (115, o_ic 36 117),
  (117, o_icmp (fun x y => y < x) 132 120),
  (120, o_aload 0 121),
  (121, o_iload 2 122),
  (122, o_aload 1 123),
  (123, o_getf zYC 6 4 126),
  (126, o_callV zZC 7 zmX7_followGlobal 2 0 129),
  (129, o_goto 188),
  (132, o_iload 2 133),
  (133, o_ic 62 135),
  (135, o_icmp (fun x y => y < x) 150 138),
  (138, o_aload 0 139),
  (139, o_iload 2 140),
  (140, o_aload 1 141),
  (141, o_getf zYC 6 4 144),
  (144, o_callV zZC 7 zmX7_followAccess 2 0 147),
  (147, o_goto 188),
  (150, o_iload 2 151),
  (151, o_ic 64 153),
  (153, o_icmp (fun x y => y < x) 164 156),
  (156, o_aload 0 157),
  (157, o_iload 2 158),
  (158, o_callV zZC 7 zmX7_followSize 1 0 161),
  (161, o_goto 188),
  (164, o_iload 2 165),
  (165, o_ic 256 168),
  (168, o_icmp (fun x y => y ≤ x) 179 171),
  (171, o_aload 0 172),
  (172, o_iload 2 173),
  (173, o_callV zZC 7 zmX7_followPlain 1 0 176),
  (176, o_goto 188),
  (179, o_aload 0 180),
  (180, o_iload 2 181),
  (181, o_aload 1 182),
  (182, o_getf zYC 6 4 185),
  (185, o_callV zZC 7 zmX7_followLonger 2 0 188),
  (188, o_aload 0 189),
  (189, o_getf zYC 7 1 192),
  (192, o_getf zYC 5 7 195),
  (195, o_zret)]
set_option maxRecDepth 100000 in
theorem ksX7_isRight : ∀ q ∈ kX7_isRight, zSnd zZC zmX7_isRight q.1 q.2 := zcc iX7_isRight_0 (zcc iX7_isRight_1 (zcc iX7_isRight_4 (zcc iX7_isRight_5 (zcc iX7_isRight_6 (zcc iX7_isRight_9 (zcc iX7_isRight_10 (zcc iX7_isRight_13 (zcc iX7_isRight_14 (zcc iX7_isRight_15 (zcc iX7_isRight_18 (zcc iX7_isRight_19 (zcc iX7_isRight_21 (zcc iX7_isRight_24 (zcc iX7_isRight_25 (zcc iX7_isRight_26 (zcc iX7_isRight_29 (zcc iX7_isRight_32 (zcc iX7_isRight_33 (zcc iX7_isRight_35 (zcc iX7_isRight_38 (zcc iX7_isRight_39 (zcc iX7_isRight_40 (zcc iX7_isRight_43 (zcc iX7_isRight_46 (zcc iX7_isRight_47 (zcc iX7_isRight_49 (zcc iX7_isRight_52 (zcc iX7_isRight_53 (zcc iX7_isRight_54 (zcc iX7_isRight_55 (zcc iX7_isRight_58 (zcc iX7_isRight_61 (zcc iX7_isRight_64 (zcc iX7_isRight_65 (zcc iX7_isRight_67 (zcc iX7_isRight_70 (zcc iX7_isRight_71 (zcc iX7_isRight_72 (zcc iX7_isRight_73 (zcc iX7_isRight_76 (zcc iX7_isRight_79 (zcc iX7_isRight_82 (zcc iX7_isRight_83 (zcc iX7_isRight_85 (zcc iX7_isRight_88 (zcc iX7_isRight_89 (zcc iX7_isRight_90 (zcc iX7_isRight_93 (zcc iX7_isRight_96 (zcc iX7_isRight_97 (zcc iX7_isRight_99 (zcc iX7_isRight_102 (zcc iX7_isRight_103 (zcc iX7_isRight_104 (zcc iX7_isRight_105 (zcc iX7_isRight_108 (zcc iX7_isRight_111 (zcc iX7_isRight_114 (zcc iX7_isRight_115 (zcc iX7_isRight_117 (zcc iX7_isRight_120 (zcc iX7_isRight_121 (zcc iX7_isRight_122 (zcc iX7_isRight_123 (zcc iX7_isRight_126 (zcc iX7_isRight_129 (zcc iX7_isRight_132 (zcc iX7_isRight_133 (zcc iX7_isRight_135 (zcc iX7_isRight_138 (zcc iX7_isRight_139 (zcc iX7_isRight_140 (zcc iX7_isRight_141 (zcc iX7_isRight_144 (zcc iX7_isRight_147 (zcc iX7_isRight_150 (zcc iX7_isRight_151 (zcc iX7_isRight_153 (zcc iX7_isRight_156 (zcc iX7_isRight_157 (zcc iX7_isRight_158 (zcc iX7_isRight_161 (zcc iX7_isRight_164 (zcc iX7_isRight_165 (zcc iX7_isRight_168 (zcc iX7_isRight_171 (zcc iX7_isRight_172 (zcc iX7_isRight_173 (zcc iX7_isRight_176 (zcc iX7_isRight_179 (zcc iX7_isRight_180 (zcc iX7_isRight_181 (zcc iX7_isRight_182 (zcc iX7_isRight_185 (zcc iX7_isRight_188 (zcc iX7_isRight_189 (zcc iX7_isRight_192 (zcc iX7_isRight_195 zcn))))))))))))))))))))))))))))))))))))))))))))))))))))))))))))))))))))))))))))))))))))))))))))))))))
theorem iX8_code_0 : zSnd zZC zmX8_code 0 (o_aload 0 1) := s_aload_n (k := 0) (by decide +kernel) rfl
theorem iX8_code_1 : zSnd zZC zmX8_code 1 (o_getf zYC 0 4 4) := s_getf zcX8 fX8_30 (by decide +kernel) (by decide +kernel)
theorem iX8_code_4 : zSnd zZC zmX8_code 4 (o_iload 1 5) := s_iload_n (k := 1) (by decide +kernel) rfl
set_option maxRecDepth 20000 in
theorem iX8_code_5 : zSnd zZC zmX8_code 5 (o_callV zZC 8 zmX0_has 1 1 8) := s_callVN (idx := 92) zcX0 calX0_has virX0_has dscX0_has (by decide +kernel) (zNW4 93 rfl rfl) (by decide +kernel)
theorem iX8_code_8 : zSnd zZC zmX8_code 8 (o_if0 (fun x => x = 0) 23 11) := s_if_eq (off := 15) (by decide +kernel) (by decide +kernel)
theorem iX8_code_11 : zSnd zZC zmX8_code 11 (o_aload 0 12) := s_aload_n (k := 0) (by decide +kernel) rfl
theorem iX8_code_12 : zSnd zZC zmX8_code 12 (o_getf zYC 0 4 15) := s_getf zcX8 fX8_30 (by decide +kernel) (by decide +kernel)
theorem iX8_code_15 : zSnd zZC zmX8_code 15 (o_iload 1 16) := s_iload_n (k := 1) (by decide +kernel) rfl
theorem iX8_code_16 : zSnd zZC zmX8_code 16 (o_iload 2 17) := s_iload_n (k := 2) (by decide +kernel) rfl
set_option maxRecDepth 20000 in
theorem iX8_code_17 : zSnd zZC zmX8_code 17 (o_callV zZC 8 zmX0_codeAt 2 1 20) := s_callVN (idx := 100) zcX0 calX0_codeAt virX0_codeAt dscX0_codeAt (by decide +kernel) (zNW4 101 rfl rfl) (by decide +kernel)
theorem iX8_code_20 : zSnd zZC zmX8_code 20 (o_goto 24) := s_goto (off := 4) (by decide +kernel) (by decide +kernel)
theorem iX8_code_23 : zSnd zZC zmX8_code 23 (o_ic (-1) 24) := s_iconst (i := (-1)) (by decide +kernel) (by decide +kernel)
theorem iX8_code_24 : zSnd zZC zmX8_code 24 (o_iret) := s_iret rfl (by decide +kernel)
def kX8_code : List (Nat × zOp) := [(0, o_aload 0 1),
  (1, o_getf zYC 0 4 4),
  (4, o_iload 1 5),
  (5, o_callV zZC 8 zmX0_has 1 1 8),
  (8, o_if0 (fun x => x = 0) 23 11),
  (11, o_aload 0 12),
  (12, o_getf zYC 0 4 15),
  (15, o_iload 1 16),
  (16, o_iload 2 17),
  (17, o_callV zZC 8 zmX0_codeAt 2 1 20),
  (20, o_goto 24),
  (23, o_ic (-1) 24),
  (24, o_iret)]
set_option maxRecDepth 100000 in
theorem ksX8_code : ∀ q ∈ kX8_code, zSnd zZC zmX8_code q.1 q.2 := zcc iX8_code_0 (zcc iX8_code_1 (zcc iX8_code_4 (zcc iX8_code_5 (zcc iX8_code_8 (zcc iX8_code_11 (zcc iX8_code_12 (zcc iX8_code_15 (zcc iX8_code_16 (zcc iX8_code_17 (zcc iX8_code_20 (zcc iX8_code_23 (zcc iX8_code_24 zcn))))))))))))
theorem iX1_readGroups_0 : zSnd zZC zmX1_readGroups 0 (o_aload 0 1) := s_aload_n (k := 0) (by decide +kernel) rfl
theorem iX1_readGroups_1 : zSnd zZC zmX1_readGroups 1 (o_getf zYC 4 0 4) := s_getf zcX1 fX1_25 (by decide +kernel) (by decide +kernel)
set_option maxRecDepth 20000 in
theorem iX1_readGroups_4 : zSnd zZC zmX1_readGroups 4 (o_callV zZC 1 zmX4_rowLength 0 1 7) := s_callVN (idx := 100) zcX4 calX4_rowLength virX4_rowLength dscX4_rowLength (by decide +kernel) (zNW3 103 rfl rfl) (by decide +kernel)
theorem iX1_readGroups_7 : zSnd zZC zmX1_readGroups 7 (o_istore 1 8) := s_istore_n (k := 1) (by decide +kernel) rfl (by decide +kernel)
theorem iX1_readGroups_8 : zSnd zZC zmX1_readGroups 8 (o_lc 0 9) := s_lconst (i := 0) (by decide +kernel) (by decide +kernel)
theorem iX1_readGroups_9 : zSnd zZC zmX1_readGroups 9 (o_lstore 2 10) := s_lstore_n (k := 2) (by decide +kernel) rfl (by decide +kernel)
theorem iX1_readGroups_10 : zSnd zZC zmX1_readGroups 10 (o_ic 0 11) := s_iconst (i := 0) (by decide +kernel) (by decide +kernel)
theorem iX1_readGroups_11 : zSnd zZC zmX1_readGroups 11 (o_istore 4 13) := s_istore (by decide +kernel) (by decide +kernel)
theorem iX1_readGroups_13 : zSnd zZC zmX1_readGroups 13 (o_iload 4 15) := s_iload (by decide +kernel)
theorem iX1_readGroups_15 : zSnd zZC zmX1_readGroups 15 (o_iload 1 16) := s_iload_n (k := 1) (by decide +kernel) rfl
theorem iX1_readGroups_16 : zSnd zZC zmX1_readGroups 16 (o_icmp (fun x y => y ≤ x) 100 19) := s_icmp_ge (off := 84) (by decide +kernel) (by decide +kernel)
theorem iX1_readGroups_19 : zSnd zZC zmX1_readGroups 19 (o_aload 0 20) := s_aload_n (k := 0) (by decide +kernel) rfl
theorem iX1_readGroups_20 : zSnd zZC zmX1_readGroups 20 (o_getf zYC 4 0 23) := s_getf zcX1 fX1_25 (by decide +kernel) (by decide +kernel)
theorem iX1_readGroups_23 : zSnd zZC zmX1_readGroups 23 (o_getf zYC 1 4 26) := s_getf zcX4 fX1_88 (by decide +kernel) (by decide +kernel)
theorem iX1_readGroups_26 : zSnd zZC zmX1_readGroups 26 (o_if0 (fun x => x = 0) 29 100) := s_if_ne (off := 74) (by decide +kernel) (by decide +kernel)
theorem iX1_readGroups_29 : zSnd zZC zmX1_readGroups 29 (o_aload 0 30) := s_aload_n (k := 0) (by decide +kernel) rfl
theorem iX1_readGroups_30 : zSnd zZC zmX1_readGroups 30 (o_getf zYC 4 0 33) := s_getf zcX1 fX1_25 (by decide +kernel) (by decide +kernel)
theorem iX1_readGroups_33 : zSnd zZC zmX1_readGroups 33 (o_getf zYC 1 2 36) := s_getf zcX4 fX1_103 (by decide +kernel) (by decide +kernel)
theorem iX1_readGroups_36 : zSnd zZC zmX1_readGroups 36 (o_istore 5 38) := s_istore (by decide +kernel) (by decide +kernel)
theorem iX1_readGroups_38 : zSnd zZC zmX1_readGroups 38 (o_aload 0 39) := s_aload_n (k := 0) (by decide +kernel) rfl
theorem iX1_readGroups_39 : zSnd zZC zmX1_readGroups 39 (o_getf zYC 4 0 42) := s_getf zcX1 fX1_25 (by decide +kernel) (by decide +kernel)
set_option maxRecDepth 20000 in
theorem iX1_readGroups_42 : zSnd zZC zmX1_readGroups 42 (o_callV zZC 1 zmX4_number 0 2 45) := s_callVN (idx := 106) zcX4 calX4_number virX4_number dscX4_number (by decide +kernel) (zNW3 104 rfl rfl) (by decide +kernel)
theorem iX1_readGroups_45 : zSnd zZC zmX1_readGroups 45 (o_lstore 6 47) := s_lstore (by decide +kernel) (by decide +kernel)
theorem iX1_readGroups_47 : zSnd zZC zmX1_readGroups 47 (o_aload 0 48) := s_aload_n (k := 0) (by decide +kernel) rfl
theorem iX1_readGroups_48 : zSnd zZC zmX1_readGroups 48 (o_getf zYC 4 0 51) := s_getf zcX1 fX1_25 (by decide +kernel) (by decide +kernel)
set_option maxRecDepth 20000 in
theorem iX1_readGroups_51 : zSnd zZC zmX1_readGroups 51 (o_callV zZC 1 zmX4_type 0 1 54) := s_callVN (idx := 110) zcX4 calX4_type virX4_type dscX4_type (by decide +kernel) (zNW3 105 rfl rfl) (by decide +kernel)
theorem iX1_readGroups_54 : zSnd zZC zmX1_readGroups 54 (o_istore 8 56) := s_istore (by decide +kernel) (by decide +kernel)
theorem iX1_readGroups_56 : zSnd zZC zmX1_readGroups 56 (o_lload 2 57) := s_lload_n (k := 2) (by decide +kernel) rfl
theorem iX1_readGroups_57 : zSnd zZC zmX1_readGroups 57 (o_lload 6 59) := s_lload (by decide +kernel)
theorem iX1_readGroups_59 : zSnd zZC zmX1_readGroups 59 (o_lbin (fun x y => x + y) 60) := s_ladd (by decide +kernel)
theorem iX1_readGroups_60 : zSnd zZC zmX1_readGroups 60 (o_lstore 2 61) := s_lstore_n (k := 2) (by decide +kernel) rfl (by decide +kernel)
theorem iX1_readGroups_61 : zSnd zZC zmX1_readGroups 61 (o_lload 2 62) := s_lload_n (k := 2) (by decide +kernel) rfl
set_option maxRecDepth 20000 in
theorem iX1_readGroups_62 : zSnd zZC zmX1_readGroups 62 (o_lc 64 65) := s_ldc2 (i := 113) (by decide +kernel) (zWS3 106 rfl rfl)
theorem iX1_readGroups_65 : zSnd zZC zmX1_readGroups 65 (o_lif (fun x y => x ≤ y) 82 69) := s_lle (off := 16) (by decide +kernel) (by decide +kernel) (by decide +kernel)
theorem iX1_readGroups_69 : zSnd zZC zmX1_readGroups 69 (o_aload 0 70) := s_aload_n (k := 0) (by decide +kernel) rfl
theorem iX1_readGroups_70 : zSnd zZC zmX1_readGroups 70 (o_getf zYC 4 0 73) := s_getf zcX1 fX1_25 (by decide +kernel) (by decide +kernel)
theorem iX1_readGroups_73 : zSnd zZC zmX1_readGroups 73 (o_ic 4 74) := s_iconst (i := 4) (by decide +kernel) (by decide +kernel)
theorem iX1_readGroups_74 : zSnd zZC zmX1_readGroups 74 (o_iload 5 76) := s_iload (by decide +kernel)
set_option maxRecDepth 20000 in
theorem iX1_readGroups_76 : zSnd zZC zmX1_readGroups 76 (o_callV zZC 1 zmX4_fail 2 0 79) := s_callVN (idx := 115) zcX4 calX4_fail virX4_fail dscX4_fail (by decide +kernel) (zNW3 107 rfl rfl) (by decide +kernel)
theorem iX1_readGroups_79 : zSnd zZC zmX1_readGroups 79 (o_goto 94) := s_goto (off := 15) (by decide +kernel) (by decide +kernel)
theorem iX1_readGroups_82 : zSnd zZC zmX1_readGroups 82 (o_aload 0 83) := s_aload_n (k := 0) (by decide +kernel) rfl
theorem iX1_readGroups_83 : zSnd zZC zmX1_readGroups 83 (o_getf zYC 4 4 86) := s_getf zcX1 fX1_42 (by decide +kernel) (by decide +kernel)
theorem iX1_readGroups_86 : zSnd zZC zmX1_readGroups 86 (o_lload 6 88) := s_lload (by decide +kernel)
theorem iX1_readGroups_88 : zSnd zZC zmX1_readGroups 88 (o_l2i 89) := s_l2i (by decide +kernel)
theorem iX1_readGroups_89 : zSnd zZC zmX1_readGroups 89 (o_iload 8 91) := s_iload (by decide +kernel)
set_option maxRecDepth 20000 in
theorem iX1_readGroups_91 : zSnd zZC zmX1_readGroups 91 (o_callV zZC 7 zmX7_addLocals 2 0 94) := s_callVN (idx := 118) zcX7 calX7_addLocals virX7_addLocals dscX7_addLocals (by decide +kernel) (zNW3 108 rfl rfl) (by decide +kernel)
theorem iX1_readGroups_94 : zSnd zZC zmX1_readGroups 94 (o_iinc 4 1 97) := s_iinc (a := 1) (by decide +kernel) (by decide +kernel) (by decide +kernel)
theorem iX1_readGroups_97 : zSnd zZC zmX1_readGroups 97 (o_goto 13) := s_goto (off := (-84)) (by decide +kernel) (by decide +kernel)
theorem iX1_readGroups_100 : zSnd zZC zmX1_readGroups 100 (o_vret) := s_vret rfl (by decide +kernel)
def kX1_readGroups : List (Nat × zOp) := [(0, o_aload 0 1),
  (1, o_getf zYC 4 0 4),
  (4, o_callV zZC 1 zmX4_rowLength 0 1 7),
  (7, o_istore 1 8),
  (8, o_lc 0 9),
  (9, o_lstore 2 10),
  (10, o_ic 0 11),
  (11, o_istore 4 13),
  (13, o_iload 4 15),
  (15, o_iload 1 16),
  (16, o_icmp (fun x y => y ≤ x) 100 19),
  (19, o_aload 0 20),
  (20, o_getf zYC 4 0 23),
  (23, o_getf zYC 1 4 26),
  (26, o_if0 (fun x => x = 0) 29 100),
  (29, o_aload 0 30),
  (30, o_getf zYC 4 0 33),
  (33, o_getf zYC 1 2 36),
  (36, o_istore 5 38),
  (38, o_aload 0 39),
  (39, o_getf zYC 4 0 42),
  (42, o_callV zZC 1 zmX4_number 0 2 45),
  (45, o_lstore 6 47),
  (47, o_aload 0 48),
  (48, o_getf zYC 4 0 51),
  (51, o_callV zZC 1 zmX4_type 0 1 54),
  (54, o_istore 8 56),
  (56, o_lload 2 57),
  (57, o_lload 6 59),
  (59, o_lbin (fun x y => x + y) 60),
  (60, o_lstore 2 61),
  (61, o_lload 2 62),
  (62, o_lc 64 65),
  (65, o_lif (fun x y => x ≤ y) 82 69),
  (69, o_aload 0 70),
  (70, o_getf zYC 4 0 73),
  (73, o_ic 4 74),
  (74, o_iload 5 76),
  (76, o_callV zZC 1 zmX4_fail 2 0 79),
  (79, o_goto 94),
  (82, o_aload 0 83),
  (83, o_getf zYC 4 4 86),
  (86, o_lload 6 88),
  (88, o_l2i 89),
  (89, o_iload 8 91),
  (91, o_callV zZC 7 zmX7_addLocals 2 0 94),
  (94, o_iinc 4 1 97),
  (97, o_goto 13),
  (100, o_vret)]
set_option maxRecDepth 100000 in
theorem ksX1_readGroups : ∀ q ∈ kX1_readGroups, zSnd zZC zmX1_readGroups q.1 q.2 := zcc iX1_readGroups_0 (zcc iX1_readGroups_1 (zcc iX1_readGroups_4 (zcc iX1_readGroups_7 (zcc iX1_readGroups_8 (zcc iX1_readGroups_9 (zcc iX1_readGroups_10 (zcc iX1_readGroups_11 (zcc iX1_readGroups_13 (zcc iX1_readGroups_15 (zcc iX1_readGroups_16 (zcc iX1_readGroups_19 (zcc iX1_readGroups_20 (zcc iX1_readGroups_23 (zcc iX1_readGroups_26 (zcc iX1_readGroups_29 (zcc iX1_readGroups_30 (zcc iX1_readGroups_33 (zcc iX1_readGroups_36 (zcc iX1_readGroups_38 (zcc iX1_readGroups_39 (zcc iX1_readGroups_42 (zcc iX1_readGroups_45 (zcc iX1_readGroups_47 (zcc iX1_readGroups_48 (zcc iX1_readGroups_51 (zcc iX1_readGroups_54 (zcc iX1_readGroups_56 (zcc iX1_readGroups_57 (zcc iX1_readGroups_59 (zcc iX1_readGroups_60 (zcc iX1_readGroups_61 (zcc iX1_readGroups_62 (zcc iX1_readGroups_65 (zcc iX1_readGroups_69 (zcc iX1_readGroups_70 (zcc iX1_readGroups_73 (zcc iX1_readGroups_74 (zcc iX1_readGroups_76 (zcc iX1_readGroups_79 (zcc iX1_readGroups_82 (zcc iX1_readGroups_83 (zcc iX1_readGroups_86 (zcc iX1_readGroups_88 (zcc iX1_readGroups_89 (zcc iX1_readGroups_91 (zcc iX1_readGroups_94 (zcc iX1_readGroups_97 (zcc iX1_readGroups_100 zcn))))))))))))))))))))))))))))))))))))))))))))))))
