/-! the code of check() of the reference -/
theorem iX10_check_0 {QS : Option Value → zS → Prop} : zSndH zZM zmX10_check QS 0 (o_aload 0 1) := sH_aload_n (k := 0) (by decide +kernel) rfl
theorem iX10_check_1 {QS : Option Value → zS → Prop} : zSndH zZM zmX10_check QS 1 (o_ic (-1) 2) := sH_iconst (i := (-1)) (by decide +kernel) (by decide +kernel)
theorem iX10_check_2 {QS : Option Value → zS → Prop} : zSndH zZM zmX10_check QS 2 (o_putI zYM 0 7 5) := sH_putI zcX10 fX10_26 (by decide +kernel) rfl rfl (by decide +kernel)
theorem iX10_check_5 {QS : Option Value → zS → Prop} : zSndH zZM zmX10_check QS 5 (o_aload 0 6) := sH_aload_n (k := 0) (by decide +kernel) rfl
theorem iX10_check_6 {QS : Option Value → zS → Prop} : zSndH zZM zmX10_check QS 6 (o_getf zYM 0 1 9) := sH_getf zcX10 fX10_16 (by decide +kernel) (by decide +kernel)
theorem iX10_check_9 {QS : Option Value → zS → Prop} : zSndH zZM zmX10_check QS 9 (o_astore 1 10) := sH_astore_n (k := 1) (by decide +kernel) rfl (by decide +kernel)
theorem iX10_check_10 {QS : Option Value → zS → Prop} : zSndH zZM zmX10_check QS 10 (o_ic 0 11) := sH_iconst (i := 0) (by decide +kernel) (by decide +kernel)
theorem iX10_check_11 {QS : Option Value → zS → Prop} : zSndH zZM zmX10_check QS 11 (o_istore 2 12) := sH_istore_n (k := 2) (by decide +kernel) rfl (by decide +kernel)
theorem iX10_check_12 {QS : Option Value → zS → Prop} : zSndH zZM zmX10_check QS 12 (o_iload 2 13) := sH_iload_n (k := 2) (by decide +kernel) rfl
theorem iX10_check_13 {QS : Option Value → zS → Prop} : zSndH zZM zmX10_check QS 13 (o_aload 0 14) := sH_aload_n (k := 0) (by decide +kernel) rfl
theorem iX10_check_14 {QS : Option Value → zS → Prop} : zSndH zZM zmX10_check QS 14 (o_getf zYM 0 5 17) := sH_getf zcX10 fX10_66 (by decide +kernel) (by decide +kernel)
theorem iX10_check_17 {QS : Option Value → zS → Prop} : zSndH zZM zmX10_check QS 17 (o_icmp (fun x y => y ≤ x) 43 20) := sH_icmp_ge (off := 26) (by decide +kernel) (by decide +kernel)
theorem iX10_check_20 {QS : Option Value → zS → Prop} : zSndH zZM zmX10_check QS 20 (o_aload 0 21) := sH_aload_n (k := 0) (by decide +kernel) rfl
theorem iX10_check_21 {QS : Option Value → zS → Prop} : zSndH zZM zmX10_check QS 21 (o_getf zYM 0 3 24) := sH_getf zcX10 fX10_19 (by decide +kernel) (by decide +kernel)
theorem iX10_check_24 {QS : Option Value → zS → Prop} : zSndH zZM zmX10_check QS 24 (o_aload 1 25) := sH_aload_n (k := 1) (by decide +kernel) rfl
theorem iX10_check_25 {QS : Option Value → zS → Prop} : zSndH zZM zmX10_check QS 25 (o_getf zYM 1 0 28) := sH_getf zcX9 fX10_63 (by decide +kernel) (by decide +kernel)
theorem iX10_check_28 {QS : Option Value → zS → Prop} : zSndH zZM zmX10_check QS 28 (o_iload 2 29) := sH_iload_n (k := 2) (by decide +kernel) rfl
theorem iX10_check_29 {QS : Option Value → zS → Prop} : zSndH zZM zmX10_check QS 29 (o_ibin (fun x y => x + y) 30) := sH_iadd (by decide +kernel)
theorem iX10_check_30 {QS : Option Value → zS → Prop} : zSndH zZM zmX10_check QS 30 (o_aload 0 31) := sH_aload_n (k := 0) (by decide +kernel) rfl
theorem iX10_check_31 {QS : Option Value → zS → Prop} : zSndH zZM zmX10_check QS 31 (o_getf zYM 0 4 34) := sH_getf zcX10 fX10_23 (by decide +kernel) (by decide +kernel)
theorem iX10_check_34 {QS : Option Value → zS → Prop} : zSndH zZM zmX10_check QS 34 (o_iload 2 35) := sH_iload_n (k := 2) (by decide +kernel) rfl
theorem iX10_check_35 {QS : Option Value → zS → Prop} : zSndH zZM zmX10_check QS 35 (o_ald zYM .byte 36) := sH_bald (by decide +kernel)
theorem iX10_check_36 {QS : Option Value → zS → Prop} : zSndH zZM zmX10_check QS 36 (o_ast zYM .byte (fun x => vp_nar .byte x) 37) := sH_bast (by decide +kernel)
theorem iX10_check_37 {QS : Option Value → zS → Prop} : zSndH zZM zmX10_check QS 37 (o_iinc 2 1 40) := sH_iinc (a := 1) (by decide +kernel) (by decide +kernel) (by decide +kernel)
theorem iX10_check_40 {QS : Option Value → zS → Prop} : zSndH zZM zmX10_check QS 40 (o_goto 12) := sH_goto (off := (-28)) (by decide +kernel) (by decide +kernel)
theorem iX10_check_43 {QS : Option Value → zS → Prop} : zSndH zZM zmX10_check QS 43 (o_aload 1 44) := sH_aload_n (k := 1) (by decide +kernel) rfl
theorem iX10_check_44 {QS : Option Value → zS → Prop} : zSndH zZM zmX10_check QS 44 (o_aload 1 45) := sH_aload_n (k := 1) (by decide +kernel) rfl
theorem iX10_check_45 {QS : Option Value → zS → Prop} : zSndH zZM zmX10_check QS 45 (o_getf zYM 1 0 48) := sH_getf zcX9 fX10_63 (by decide +kernel) (by decide +kernel)
theorem iX10_check_48 {QS : Option Value → zS → Prop} : zSndH zZM zmX10_check QS 48 (o_aload 0 49) := sH_aload_n (k := 0) (by decide +kernel) rfl
theorem iX10_check_49 {QS : Option Value → zS → Prop} : zSndH zZM zmX10_check QS 49 (o_getf zYM 0 5 52) := sH_getf zcX10 fX10_66 (by decide +kernel) (by decide +kernel)
theorem iX10_check_52 {QS : Option Value → zS → Prop} : zSndH zZM zmX10_check QS 52 (o_ibin (fun x y => x + y) 53) := sH_iadd (by decide +kernel)
theorem iX10_check_53 {QS : Option Value → zS → Prop} : zSndH zZM zmX10_check QS 53 (o_putI zYM 1 1 56) := sH_putI zcX9 fX10_77 (by decide +kernel) rfl rfl (by decide +kernel)
theorem iX10_check_56 {QS : Option Value → zS → Prop} : zSndH zZM zmX10_check QS 56 (o_aload 0 57) := sH_aload_n (k := 0) (by decide +kernel) rfl
theorem iX10_check_57 {QS : Option Value → zS → Prop} : zSndH zZM zmX10_check QS 57 (o_ic 0 58) := sH_iconst (i := 0) (by decide +kernel) (by decide +kernel)
theorem iX10_check_58 {QS : Option Value → zS → Prop} : zSndH zZM zmX10_check QS 58 (o_putI zYM 0 5 61) := sH_putI zcX10 fX10_66 (by decide +kernel) rfl rfl (by decide +kernel)
theorem iX10_check_61 {QS : Option Value → zS → Prop} : zSndH zZM zmX10_check QS 61 (o_aload 0 62) := sH_aload_n (k := 0) (by decide +kernel) rfl
theorem iX10_check_62 {QS : Option Value → zS → Prop} : zSndH zZM zmX10_check QS 62 (o_aload 1 63) := sH_aload_n (k := 1) (by decide +kernel) rfl
set_option maxRecDepth 20000 in
theorem iX10_check_63 {QS : Option Value → zS → Prop} : zSndH zZM zmX10_check QS 63 (o_callVH zZM 0 zmX10_read 1 66 75 2) := sH_callV (idx := 80) zcX10 calX10_read virX10_read dscX10_read (by decide +kernel) (zWS6 34 rfl rfl) (by decide +kernel) (by decide +kernel) (zWS5 99 rfl rfl) (by decide +kernel) (by decide +kernel)
theorem iX10_check_66 {QS : Option Value → zS → Prop} : zSndH zZM zmX10_check QS 66 (o_aload 0 67) := sH_aload_n (k := 0) (by decide +kernel) rfl
theorem iX10_check_67 {QS : Option Value → zS → Prop} : zSndH zZM zmX10_check QS 67 (o_aload 1 68) := sH_aload_n (k := 1) (by decide +kernel) rfl
set_option maxRecDepth 20000 in
theorem iX10_check_68 {QS : Option Value → zS → Prop} : zSndH zZM zmX10_check QS 68 (o_callVH zZM 0 zmX10_means 1 71 75 2) := sH_callV (idx := 84) zcX10 calX10_means virX10_means dscX10_means (by decide +kernel) (zWS6 217 rfl rfl) (by decide +kernel) (by decide +kernel) (zWS5 99 rfl rfl) (by decide +kernel) (by decide +kernel)
theorem iX10_check_71 {QS : Option Value → zS → Prop} : zSndH zZM zmX10_check QS 71 (o_goto 93) := sH_goto (off := 22) (by decide +kernel) (by decide +kernel)
theorem iX10_check_75 {QS : Option Value → zS → Prop} : zSndH zZM zmX10_check QS 75 (o_aload 0 76) := sH_aload_n (k := 0) (by decide +kernel) rfl
theorem iX10_check_76 {QS : Option Value → zS → Prop} : zSndH zZM zmX10_check QS 76 (o_aload 0 77) := sH_aload_n (k := 0) (by decide +kernel) rfl
theorem iX10_check_77 {QS : Option Value → zS → Prop} : zSndH zZM zmX10_check QS 77 (o_getf zYM 0 11 80) := sH_getf zcX10 fX10_87 (by decide +kernel) (by decide +kernel)
theorem iX10_check_80 {QS : Option Value → zS → Prop} : zSndH zZM zmX10_check QS 80 (o_aload 1 81) := sH_aload_n (k := 1) (by decide +kernel) rfl
theorem iX10_check_81 {QS : Option Value → zS → Prop} : zSndH zZM zmX10_check QS 81 (o_getf zYM 1 0 84) := sH_getf zcX9 fX10_63 (by decide +kernel) (by decide +kernel)
theorem iX10_check_84 {QS : Option Value → zS → Prop} : zSndH zZM zmX10_check QS 84 (o_ibin (fun x y => x - y) 85) := sH_isub (by decide +kernel)
theorem iX10_check_85 {QS : Option Value → zS → Prop} : zSndH zZM zmX10_check QS 85 (o_putI zYM 0 7 88) := sH_putI zcX10 fX10_26 (by decide +kernel) rfl rfl (by decide +kernel)
theorem iX10_check_88 {QS : Option Value → zS → Prop} : zSndH zZM zmX10_check QS 88 (o_aload 0 89) := sH_aload_n (k := 0) (by decide +kernel) rfl
theorem iX10_check_89 {QS : Option Value → zS → Prop} : zSndH zZM zmX10_check QS 89 (o_getf zYM 0 10 92) := sH_getf zcX10 fX10_90 (by decide +kernel) (by decide +kernel)
theorem iX10_check_92 {QS : Option Value → zS → Prop} : zSndH zZM zmX10_check QS 92 (o_iret) := sH_iret rfl (by decide +kernel)
theorem iX10_check_93 {QS : Option Value → zS → Prop} : zSndH zZM zmX10_check QS 93 (o_aload 0 94) := sH_aload_n (k := 0) (by decide +kernel) rfl
theorem iX10_check_94 {QS : Option Value → zS → Prop} : zSndH zZM zmX10_check QS 94 (o_aload 0 95) := sH_aload_n (k := 0) (by decide +kernel) rfl
theorem iX10_check_95 {QS : Option Value → zS → Prop} : zSndH zZM zmX10_check QS 95 (o_getf zYM 0 0 98) := sH_getf zcX10 fX10_10 (by decide +kernel) (by decide +kernel)
theorem iX10_check_98 {QS : Option Value → zS → Prop} : zSndH zZM zmX10_check QS 98 (o_swap QS) := sH_swap
def kX10_check (QS : Option Value → zS → Prop) : List (Nat × zOp) := [(0, o_aload 0 1),
  (1, o_ic (-1) 2),
  (2, o_putI zYM 0 7 5),
  (5, o_aload 0 6),
  (6, o_getf zYM 0 1 9),
  (9, o_astore 1 10),
  (10, o_ic 0 11),
  (11, o_istore 2 12),
  (12, o_iload 2 13),
  (13, o_aload 0 14),
  (14, o_getf zYM 0 5 17),
  (17, o_icmp (fun x y => y ≤ x) 43 20),
  (20, o_aload 0 21),
  (21, o_getf zYM 0 3 24),
  (24, o_aload 1 25),
  (25, o_getf zYM 1 0 28),
  (28, o_iload 2 29),
  (29, o_ibin (fun x y => x + y) 30),
  (30, o_aload 0 31),
  (31, o_getf zYM 0 4 34),
  (34, o_iload 2 35),
  (35, o_ald zYM .byte 36),
  (36, o_ast zYM .byte (fun x => vp_nar .byte x) 37),
  (37, o_iinc 2 1 40),
  (40, o_goto 12),
  (43, o_aload 1 44),
  (44, o_aload 1 45),
  (45, o_getf zYM 1 0 48),
  (48, o_aload 0 49),
  (49, o_getf zYM 0 5 52),
  (52, o_ibin (fun x y => x + y) 53),
  (53, o_putI zYM 1 1 56),
  (56, o_aload 0 57),
  (57, o_ic 0 58),
  (58, o_putI zYM 0 5 61),
  (61, o_aload 0 62),
  (62, o_aload 1 63),
  (63, o_callVH zZM 0 zmX10_read 1 66 75 2),
  (66, o_aload 0 67),
  (67, o_aload 1 68),
  (68, o_callVH zZM 0 zmX10_means 1 71 75 2),
  (71, o_goto 93),
  (75, o_aload 0 76),
  (76, o_aload 0 77),
  (77, o_getf zYM 0 11 80),
  (80, o_aload 1 81),
  (81, o_getf zYM 1 0 84),
  (84, o_ibin (fun x y => x - y) 85),
  (85, o_putI zYM 0 7 88),
  (88, o_aload 0 89),
  (89, o_getf zYM 0 10 92),
  (92, o_iret),
  (93, o_aload 0 94),
  (94, o_aload 0 95),
  (95, o_getf zYM 0 0 98),
  (98, o_swap QS)]
set_option maxRecDepth 100000 in
theorem ksX10_check {QS : Option Value → zS → Prop} : ∀ q ∈ kX10_check QS, zSndH zZM zmX10_check QS q.1 q.2 := zcc iX10_check_0 (zcc iX10_check_1 (zcc iX10_check_2 (zcc iX10_check_5 (zcc iX10_check_6 (zcc iX10_check_9 (zcc iX10_check_10 (zcc iX10_check_11 (zcc iX10_check_12 (zcc iX10_check_13 (zcc iX10_check_14 (zcc iX10_check_17 (zcc iX10_check_20 (zcc iX10_check_21 (zcc iX10_check_24 (zcc iX10_check_25 (zcc iX10_check_28 (zcc iX10_check_29 (zcc iX10_check_30 (zcc iX10_check_31 (zcc iX10_check_34 (zcc iX10_check_35 (zcc iX10_check_36 (zcc iX10_check_37 (zcc iX10_check_40 (zcc iX10_check_43 (zcc iX10_check_44 (zcc iX10_check_45 (zcc iX10_check_48 (zcc iX10_check_49 (zcc iX10_check_52 (zcc iX10_check_53 (zcc iX10_check_56 (zcc iX10_check_57 (zcc iX10_check_58 (zcc iX10_check_61 (zcc iX10_check_62 (zcc iX10_check_63 (zcc iX10_check_66 (zcc iX10_check_67 (zcc iX10_check_68 (zcc iX10_check_71 (zcc iX10_check_75 (zcc iX10_check_76 (zcc iX10_check_77 (zcc iX10_check_80 (zcc iX10_check_81 (zcc iX10_check_84 (zcc iX10_check_85 (zcc iX10_check_88 (zcc iX10_check_89 (zcc iX10_check_92 (zcc iX10_check_93 (zcc iX10_check_94 (zcc iX10_check_95 (zcc iX10_check_98 zcn)))))))))))))))))))))))))))))))))))))))))))))))))))))))
def JX10_check (t : Nat) : Bool := Nat.beq t 12
def hX10_check (_ : Nat) : List Nat := [0, 1, 2]
def jnX10_check (_ : Nat) : Bool := false
def LIX10_check (I12 : Nat → Int32 → zS → Prop) : Nat → Nat → zLo → zS → Prop := fun t n l τ => bif Nat.beq t 12 then zdR 0 0 (zdR 1 1 (zdI 2 (fun x2 => zdN (I12 n x2 τ)))) l else False
def PX10_check_75 (Q : Option Value → zS → Prop) (s : zS) : Prop := ∀ s1 : zS, s1 = zsI s 0 7 ((s.1 0 11) - (s.1 1 0)) → Q (some (.int (s1.1 0 10))) s1
def PX10_check_12 (K12 : Int32 → zS → Prop) (Q QS : Option Value → zS → Prop) (x2 : Int32) (σ : zS) : Prop :=
  ((σ.1 0 5 ≤ x2 →
    ∀ s1 : zS, s1 = zsI σ 1 1 ((σ.1 1 0) + (σ.1 0 5)) →
    ∀ s2 : zS, s2 = zsI s1 0 5 (0 : Int32) →
    zCT zZM zmX10_read [.ref 0, .ref 1] s2 (zQv (fun s3 =>
      zCT zZM zmX10_means [.ref 0, .ref 1] s3 (zQv (fun s4 => QS (some (.int 0)) (zsI (zSsw s4) 0 2 1))) (fun s4 => PX10_check_75 Q s4))) (fun s3 => PX10_check_75 Q s3)) ∧ (¬ σ.1 0 5 ≤ x2 →
    vp_in x2 16000 ∧
    vp_in ((σ.1 1 0) + x2) 32000 ∧ ∀ s1 : zS, s1 = zsI σ 4 ((σ.1 1 0) + x2).toNatClampNeg (vp_nar .byte (σ.1 5 x2.toNatClampNeg)) →
    K12 (x2 + 1) s1))
def PX10_check_0 (K12 : Int32 → zS → Prop) (σ : zS) : Prop := ∀ s1 : zS, s1 = zsI σ 0 7 (-1 : Int32) → K12 (0 : Int32) s1
set_option maxRecDepth 50000 in
theorem pX10_check_0 (I12 : Nat → Int32 → zS → Prop) (Q QS : Option Value → zS → Prop) (QX : zS → Prop) (σ : zS) (h : PX10_check_0 (fun y2 τ => ∃ n', zlt n' none ∧ I12 n' y2 τ) σ) : zwp JX10_check (zB hX10_check (zKt jnX10_check (fun _ _ _ _ => False) (LIX10_check I12) none 0)) Q QX (kX10_check QS) 0 (lv_args 0 [.ref 0]) [] σ := h
set_option maxRecDepth 50000 in
theorem pX10_check_12 (I12 : Nat → Int32 → zS → Prop) (Q QS : Option Value → zS → Prop) (QX : zS → Prop) (m : Nat) (x2 : Int32) (σ : zS) (h : PX10_check_12 (fun y2 τ => ∃ n', zlt n' (some m) ∧ I12 n' y2 τ) Q QS x2 σ) : zwp JX10_check (zB hX10_check (zKt jnX10_check (fun _ _ _ _ => False) (LIX10_check I12) (some m) 12)) Q QX (kX10_check QS) 12 [(0, .ref 0), (1, .ref 1), (2, .int x2)] [] σ := h
theorem rX10_check {Q QS : Option Value → zS → Prop} {QX : zS → Prop} {σ : zS} (I12 : Nat → Int32 → zS → Prop) (hs12 : ∀ (m : Nat) (x2 : Int32) (σ : zS), I12 m x2 σ → PX10_check_12 (fun y2 τ => ∃ n', zlt n' (some m) ∧ I12 n' y2 τ) Q QS x2 σ) (h0 : PX10_check_0 (fun y2 τ => ∃ n', zlt n' none ∧ I12 n' y2 τ) σ) : zCTH zZM zmX10_check [.ref 0] σ Q QS QX := by
  refine zCT_ofH zZM_ok pnX10 (Nat.le_of_ble_eq_true rfl) (kX10_check QS) ksX10_check JX10_check 13 (fun t ht => ?_) hX10_check jnX10_check (fun _ _ _ _ => False) (LIX10_check I12) (fun n t ln σ' ht hj hI => hI.elim) (fun m t ln σ' ht hj hI => ?_) (pX10_check_0 I12 Q QS QX σ h0)
  · have et := Nat.eq_of_beq_eq_true ht; subst et
    exact Nat.le_of_ble_eq_true rfl
  · have et := Nat.eq_of_beq_eq_true ht; subst et
    have hI : LIX10_check I12 12 m ln σ' := hI
    obtain ⟨l0, e0, hI⟩ := zdR_e (i := 0) (q := 0) hI; subst e0
    obtain ⟨l1, e1, hI⟩ := zdR_e (i := 1) (q := 1) hI; subst e1
    obtain ⟨x2, l2, e2, hI⟩ := zdI_e (i := 2) hI; subst e2
    obtain ⟨e, hI⟩ := zdN_e hI; subst e
    exact pX10_check_12 I12 Q QS QX m x2 σ' (hs12 m x2 σ' hI)
