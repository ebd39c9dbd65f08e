def JX4_type : Nat → Bool := fun t => false && Nat.beq t 0
def jnX4_type : Nat → Bool := fun t => false && Nat.beq t 0
def hX4_type : Nat → List Nat := fun t => []
def PX4_type_0  (Q : Option Value → zS → Prop) (QX : zS → Prop)  (σ : zS) : Prop :=
  zCT zZC zmX4_octetWithin [.ref 1, .int (126 : Int32), .int (127 : Int32)] σ (zQi (fun r2 s1 =>
    Q (some (.int r2)) s1)) QX
def LIX4_type  : Nat → Nat → zLo → zS → Prop := fun t n l τ => False
def JIX4_type  (Q : Option Value → zS → Prop) (QX : zS → Prop) : Nat → Option Nat → zLo → zS → Prop := fun t n l τ => False
set_option maxRecDepth 50000 in
theorem pX4_type_0  (Q : Option Value → zS → Prop) (QX : zS → Prop)   (σ : zS) (h : PX4_type_0  Q QX  σ) : zwp JX4_type (zB hX4_type (zKt jnX4_type (JIX4_type  Q QX) (LIX4_type ) none 0)) Q QX kX4_type 0 (lv_args 0 [.ref 1]) [] σ := h
set_option maxRecDepth 50000 in
theorem rX4_type {Q : Option Value → zS → Prop} {QX : zS → Prop}  {σ : zS}   (h0 : PX4_type_0  Q QX  σ) : zCT zZC zmX4_type [.ref 1] σ Q QX := by
  refine zCT_of zZC_ok pnX4 (Nat.le_of_ble_eq_true rfl) kX4_type ksX4_type JX4_type 1 (fun t ht => ?_) hX4_type jnX4_type (JIX4_type  Q QX) (LIX4_type ) (fun n t ln σ' ht hj hI => ?_) (fun m t ln σ' ht hj hI => ?_) (pX4_type_0  Q QX  σ h0)
  · cases ht
  · cases ht
  · cases ht
def JX5_readArguments : Nat → Bool := fun t => false && Nat.beq t 0
def jnX5_readArguments : Nat → Bool := fun t => false && Nat.beq t 0
def hX5_readArguments : Nat → List Nat := fun t => []
def PX5_readArguments_0  (Q : Option Value → zS → Prop) (QX : zS → Prop)  (σ : zS) : Prop :=
  ((zin (σ.1 6 3) [2, 3, 4] →
    zCT zZC zmX4_blockType [.ref 1] σ (zQi (fun r2 s1 =>
      ∀ s3 : zS, s3 = zsL s1 6 4 (r2.toInt64) →
      Q none s3)) QX) ∧ (¬ zin (σ.1 6 3) [2, 3, 4] →
  ((zin (σ.1 6 3) [12, 13, 16, 32, 33, 34, 35, 36, 265, 269] →
    zCT zZC zmX4_number [.ref 1] σ (zQl (fun r5 s4 =>
      ∀ s6 : zS, s6 = zsL s4 6 4 r5 →
      Q none s6)) QX) ∧ (¬ zin (σ.1 6 3) [12, 13, 16, 32, 33, 34, 35, 36, 265, 269] →
  ((zin (σ.1 6 3) [17, 264, 268] →
    zCT zZC zmX4_number [.ref 1] σ (zQl (fun r8 s7 =>
      ∀ s9 : zS, s9 = zsL s7 6 4 r8 →
      zCT zZC zmX4_octetWithin [.ref 1, .int (0 : Int32), .int (0 : Int32)] s9 (zQi (fun r11 s10 =>
        Q none s10)) QX)) QX) ∧ (¬ zin (σ.1 6 3) [17, 264, 268] →
  ((zin (σ.1 6 3) [63, 64, 267] →
    zCT zZC zmX4_octetWithin [.ref 1, .int (0 : Int32), .int (0 : Int32)] σ (zQi (fun r13 s12 =>
      Q none s12)) QX) ∧ (¬ zin (σ.1 6 3) [63, 64, 267] →
  (((σ.1 6 3) = 65 →
    zCT zZC zmX4_skipSigned [.ref 1, .int (5 : Int32), .int (7 : Int32)] σ (zQv (fun s14 =>
      Q none s14)) QX) ∧ (¬ (σ.1 6 3) = 65 →
  (((σ.1 6 3) = 66 →
    zCT zZC zmX4_skipSigned [.ref 1, .int (10 : Int32), .int (0 : Int32)] σ (zQv (fun s15 =>
      Q none s15)) QX) ∧ (¬ (σ.1 6 3) = 66 →
  ((zin (σ.1 6 3) [266, 270] →
    zCT zZC zmX4_octetWithin [.ref 1, .int (0 : Int32), .int (0 : Int32)] σ (zQi (fun r17 s16 =>
      zCT zZC zmX4_octetWithin [.ref 1, .int (0 : Int32), .int (0 : Int32)] s16 (zQi (fun r19 s18 =>
        Q none s18)) QX)) QX) ∧ (¬ zin (σ.1 6 3) [266, 270] →
    (((σ.1 6 3) < (40 : Int32) →
      Q none σ) ∧ (¬ (σ.1 6 3) < (40 : Int32) →
      (((62 : Int32) < (σ.1 6 3) →
        Q none σ) ∧ (¬ (62 : Int32) < (σ.1 6 3) →
        zCT zZC zmX4_number [.ref 1] σ (zQl (fun r21 s20 =>
          ∀ s22 : zS, s22 = zsL s20 6 4 r21 →
          zCT zZC zmX4_number [.ref 1] s22 (zQl (fun r24 s23 =>
            Q none s23)) QX)) QX))))))))))))))))))
def LIX5_readArguments  : Nat → Nat → zLo → zS → Prop := fun t n l τ => False
def JIX5_readArguments  (Q : Option Value → zS → Prop) (QX : zS → Prop) : Nat → Option Nat → zLo → zS → Prop := fun t n l τ => False
set_option maxRecDepth 50000 in
theorem pX5_readArguments_0  (Q : Option Value → zS → Prop) (QX : zS → Prop)   (σ : zS) (h : PX5_readArguments_0  Q QX  σ) : zwp JX5_readArguments (zB hX5_readArguments (zKt jnX5_readArguments (JIX5_readArguments  Q QX) (LIX5_readArguments ) none 0)) Q QX kX5_readArguments 0 (lv_args 0 [.ref 6, .ref 1]) [] σ := h
set_option maxRecDepth 50000 in
theorem rX5_readArguments {Q : Option Value → zS → Prop} {QX : zS → Prop}  {σ : zS}   (h0 : PX5_readArguments_0  Q QX  σ) : zCT zZC zmX5_readArguments [.ref 6, .ref 1] σ Q QX := by
  refine zCT_of zZC_ok pnX5 (Nat.le_of_ble_eq_true rfl) kX5_readArguments ksX5_readArguments JX5_readArguments 1 (fun t ht => ?_) hX5_readArguments jnX5_readArguments (JIX5_readArguments  Q QX) (LIX5_readArguments ) (fun n t ln σ' ht hj hI => ?_) (fun m t ln σ' ht hj hI => ?_) (pX5_readArguments_0  Q QX  σ h0)
  · cases ht
  · cases ht
  · cases ht
def JX5_readNumber : Nat → Bool := fun t => false && Nat.beq t 0
def jnX5_readNumber : Nat → Bool := fun t => false && Nat.beq t 0
def hX5_readNumber : Nat → List Nat := fun t => []
def PX5_readNumber_0  (Q : Option Value → zS → Prop) (QX : zS → Prop)  (σ : zS) : Prop :=
  ∀ s1 : zS, s1 = zsI σ 6 2 (σ.1 1 2) →
  zCT zZC zmX4_octet [.ref 1] s1 (zQi (fun r3 s2 =>
    ∀ s4 : zS, s4 = zsI s2 6 3 r3 →
    (((s4.1 6 3) = (252 : Int32) →
      zCT zZC zmX4_number [.ref 1] s4 (zQl (fun r6 s5 =>
        ((r6 < (8 : Int64) →
          zCT zZC zmX4_fail [.ref 1, .int (1 : Int32), .int (s4.1 1 2)] s5 (zQv (fun s7 =>
            ∀ s8 : zS, s8 = zsI s7 6 3 ((256 : Int32) + ((8 : Int64).toInt32)) →
            Q none s8)) QX) ∧ (¬ r6 < (8 : Int64) →
          ((r6 ≤ (14 : Int64) →
            ∀ s9 : zS, s9 = zsI s5 6 3 ((256 : Int32) + (r6.toInt32)) →
            Q none s9) ∧ (¬ r6 ≤ (14 : Int64) →
            zCT zZC zmX4_fail [.ref 1, .int (1 : Int32), .int (s4.1 1 2)] s5 (zQv (fun s10 =>
              ∀ s11 : zS, s11 = zsI s10 6 3 ((256 : Int32) + ((8 : Int64).toInt32)) →
              Q none s11)) QX)))))) QX) ∧ (¬ (s4.1 6 3) = (252 : Int32) →
      zCT zZC zmX5_isOfOneByte [.int (s4.1 6 3)] s4 (zQi (fun r13 s12 =>
        ((r13 = 0 →
          zCT zZC zmX4_fail [.ref 1, .int (1 : Int32), .int (s12.1 6 2)] s12 (zQv (fun s14 =>
            Q none s14)) QX) ∧ (¬ r13 = 0 →
          Q none s12)))) QX)))) QX
def LIX5_readNumber  : Nat → Nat → zLo → zS → Prop := fun t n l τ => False
def JIX5_readNumber  (Q : Option Value → zS → Prop) (QX : zS → Prop) : Nat → Option Nat → zLo → zS → Prop := fun t n l τ => False
set_option maxRecDepth 50000 in
theorem pX5_readNumber_0  (Q : Option Value → zS → Prop) (QX : zS → Prop)   (σ : zS) (h : PX5_readNumber_0  Q QX  σ) : zwp JX5_readNumber (zB hX5_readNumber (zKt jnX5_readNumber (JIX5_readNumber  Q QX) (LIX5_readNumber ) none 0)) Q QX kX5_readNumber 0 (lv_args 0 [.ref 6, .ref 1]) [] σ := h
set_option maxRecDepth 50000 in
theorem rX5_readNumber {Q : Option Value → zS → Prop} {QX : zS → Prop}  {σ : zS}   (h0 : PX5_readNumber_0  Q QX  σ) : zCT zZC zmX5_readNumber [.ref 6, .ref 1] σ Q QX := by
  refine zCT_of zZC_ok pnX5 (Nat.le_of_ble_eq_true rfl) kX5_readNumber ksX5_readNumber JX5_readNumber 1 (fun t ht => ?_) hX5_readNumber jnX5_readNumber (JIX5_readNumber  Q QX) (LIX5_readNumber ) (fun n t ln σ' ht hj hI => ?_) (fun m t ln σ' ht hj hI => ?_) (pX5_readNumber_0  Q QX  σ h0)
  · cases ht
  · cases ht
  · cases ht
def JX6_begin : Nat → Bool := fun t => Nat.beq t 28
def jnX6_begin : Nat → Bool := fun t => false && Nat.beq t 0
def hX6_begin : Nat → List Nat := fun t => bif Nat.beq t 28 then [0, 1] else []
def PX6_begin_28 (K28 : Int32 → zS → Prop) (Q : Option Value → zS → Prop) (QX : zS → Prop) (x1 : Int32) (σ : zS) : Prop :=
  (((nI zt_HEADER_n) ≤ x1 →
    Q none σ) ∧ (¬ (nI zt_HEADER_n) ≤ x1 →
    vp_in x1 zt_HEADER_n ∧
    vp_in x1 zt_HEADER_n ∧
    zCT zZC zmX4_octetWithin [.ref 1, .int (zt_HEADER_f x1.toNatClampNeg), .int (zt_HEADER_f x1.toNatClampNeg)] σ (zQi (fun r2 s1 =>
      K28 (x1 + 1) s1)) QX))
def PX6_begin_0 (K28 : Int32 → zS → Prop) (Q : Option Value → zS → Prop) (QX : zS → Prop)  (σ : zS) : Prop :=
  zCT zZC zmX4_restart [.ref 1] σ (zQv (fun s1 =>
    zCT zZC zmX2_clear [.ref 2] s1 (zQv (fun s2 =>
      zCT zZC zmX1_begin [.ref 4] s2 (zQv (fun s3 =>
        ∀ s4 : zS, s4 = zsI s3 3 5 (0 : Int32) →
        K28 (0 : Int32) s4)) QX)) QX)) QX
def LIX6_begin (I28 : Nat → Int32 → zS → Prop) : Nat → Nat → zLo → zS → Prop := fun t n l τ => bif Nat.beq t 28 then zdR 0 3 (zdI 1 (fun x1 => zdN (I28 n x1 τ))) l else False
def JIX6_begin (I28 : Nat → Int32 → zS → Prop) (Q : Option Value → zS → Prop) (QX : zS → Prop) : Nat → Option Nat → zLo → zS → Prop := fun t n l τ => False
set_option maxRecDepth 50000 in
theorem pX6_begin_0 (I28 : Nat → Int32 → zS → Prop) (Q : Option Value → zS → Prop) (QX : zS → Prop)   (σ : zS) (h : PX6_begin_0 (fun y1 τ => ∃ n', zlt n' none ∧ I28 n' y1 τ) Q QX  σ) : zwp JX6_begin (zB hX6_begin (zKt jnX6_begin (JIX6_begin I28 Q QX) (LIX6_begin I28) none 0)) Q QX kX6_begin 0 (lv_args 0 [.ref 3]) [] σ := h
set_option maxRecDepth 50000 in
theorem pX6_begin_28 (I28 : Nat → Int32 → zS → Prop) (Q : Option Value → zS → Prop) (QX : zS → Prop) (m : Nat) (x1 : Int32) (σ : zS) (h : PX6_begin_28 (fun y1 τ => ∃ n', zlt n' (some m) ∧ I28 n' y1 τ) Q QX x1 σ) : zwp JX6_begin (zB hX6_begin (zKt jnX6_begin (JIX6_begin I28 Q QX) (LIX6_begin I28) (some m) 28)) Q QX kX6_begin 28 [(0, .ref 3), (1, .int x1)] [] σ := h
set_option maxRecDepth 50000 in
theorem rX6_begin {Q : Option Value → zS → Prop} {QX : zS → Prop}  {σ : zS} (I28 : Nat → Int32 → zS → Prop) (hs28 : ∀ (m : Nat) (x1 : Int32) (σ : zS), I28 m x1 σ → PX6_begin_28 (fun y1 τ => ∃ n', zlt n' (some m) ∧ I28 n' y1 τ) Q QX x1 σ) (h0 : PX6_begin_0 (fun y1 τ => ∃ n', zlt n' none ∧ I28 n' y1 τ) Q QX  σ) : zCT zZC zmX6_begin [.ref 3] σ Q QX := by
  refine zCT_of zZC_ok pnX6 (Nat.le_of_ble_eq_true rfl) kX6_begin ksX6_begin JX6_begin 29 (fun t ht => ?_) hX6_begin jnX6_begin (JIX6_begin I28 Q QX) (LIX6_begin I28) (fun n t ln σ' ht hj hI => ?_) (fun m t ln σ' ht hj hI => ?_) (pX6_begin_0 I28 Q QX  σ h0)
  · have et := Nat.eq_of_beq_eq_true ht; subst et
    exact Nat.le_of_ble_eq_true rfl
  · have et := Nat.eq_of_beq_eq_true ht; subst et
    cases hj
  · have et := Nat.eq_of_beq_eq_true ht; subst et
    have hI : LIX6_begin I28 28 m ln σ' := hI
    obtain ⟨l0, e0, hI⟩ := zdR_e (i := 0) (q := 3) hI; subst e0
    obtain ⟨x1, l1, e1, hI⟩ := zdI_e (i := 1) hI; subst e1
    obtain ⟨e, hI⟩ := zdN_e hI; subst e
    exact pX6_begin_28 I28 Q QX m x1 σ' (hs28 m x1 σ' hI)
def JX6_finish : Nat → Bool := fun t => false && Nat.beq t 0
def jnX6_finish : Nat → Bool := fun t => false && Nat.beq t 0
def hX6_finish : Nat → List Nat := fun t => []
def PX6_finish_0  (Q : Option Value → zS → Prop) (QX : zS → Prop)  (σ : zS) : Prop :=
  zCT zZC zmX6_fit [.ref 3, .int (10 : Int32)] σ (zQv (fun s1 =>
    zCT zZC zmX6_fit [.ref 3, .int (11 : Int32)] s1 (zQv (fun s2 =>
      Q none s2)) QX)) QX
def LIX6_finish  : Nat → Nat → zLo → zS → Prop := fun t n l τ => False
def JIX6_finish  (Q : Option Value → zS → Prop) (QX : zS → Prop) : Nat → Option Nat → zLo → zS → Prop := fun t n l τ => False
set_option maxRecDepth 50000 in
theorem pX6_finish_0  (Q : Option Value → zS → Prop) (QX : zS → Prop)   (σ : zS) (h : PX6_finish_0  Q QX  σ) : zwp JX6_finish (zB hX6_finish (zKt jnX6_finish (JIX6_finish  Q QX) (LIX6_finish ) none 0)) Q QX kX6_finish 0 (lv_args 0 [.ref 3]) [] σ := h
set_option maxRecDepth 50000 in
theorem rX6_finish {Q : Option Value → zS → Prop} {QX : zS → Prop}  {σ : zS}   (h0 : PX6_finish_0  Q QX  σ) : zCT zZC zmX6_finish [.ref 3] σ Q QX := by
  refine zCT_of zZC_ok pnX6 (Nat.le_of_ble_eq_true rfl) kX6_finish ksX6_finish JX6_finish 1 (fun t ht => ?_) hX6_finish jnX6_finish (JIX6_finish  Q QX) (LIX6_finish ) (fun n t ln σ' ht hj hI => ?_) (fun m t ln σ' ht hj hI => ?_) (pX6_finish_0  Q QX  σ h0)
  · cases ht
  · cases ht
  · cases ht
def JX6_readConstant : Nat → Bool := fun t => false && Nat.beq t 0
def jnX6_readConstant : Nat → Bool := fun t => false && Nat.beq t 0
def hX6_readConstant : Nat → List Nat := fun t => []
def PX6_readConstant_0  (Q : Option Value → zS → Prop) (QX : zS → Prop) (a1 : Int32) (a2 : Int32) (σ : zS) : Prop :=
  zCT zZC zmX4_octet [.ref 1] σ (zQi (fun r2 s1 =>
    ((r2 = 35 →
      zCT zZC zmX4_number [.ref 1] s1 (zQl (fun r4 s3 =>
        zCT zZC zmX2_isUnchangedImport [.ref 2, .long r4] s3 (zQi (fun r6 s5 =>
          ((r6 = 0 →
            zCT zZC zmX4_octetWithin [.ref 1, .int (11 : Int32), .int (11 : Int32)] s5 (zQi (fun r8 s7 =>
              (((0 : Int32) = a2 →
                Q none s7) ∧ (¬ (0 : Int32) = a2 →
                zCT zZC zmX2_noteWrong [.ref 2, .int a1, .int (σ.1 1 2)] s7 (zQv (fun s9 =>
                  Q none s9)) QX)))) QX) ∧ (¬ r6 = 0 →
            zCT zZC zmX2_typeOfGlobal [.ref 2, .int (r4.toInt32)] s5 (zQi (fun r11 s10 =>
              zCT zZC zmX4_octetWithin [.ref 1, .int (11 : Int32), .int (11 : Int32)] s10 (zQi (fun r13 s12 =>
                ((r11 = a2 →
                  Q none s12) ∧ (¬ r11 = a2 →
                  zCT zZC zmX2_noteWrong [.ref 2, .int a1, .int (σ.1 1 2)] s12 (zQv (fun s14 =>
                    Q none s14)) QX)))) QX)) QX)))) QX)) QX) ∧ (¬ r2 = 35 →
    ((r2 = 65 →
      zCT zZC zmX4_skipSigned [.ref 1, .int (5 : Int32), .int (7 : Int32)] s1 (zQv (fun s15 =>
        zCT zZC zmX4_octetWithin [.ref 1, .int (11 : Int32), .int (11 : Int32)] s15 (zQi (fun r17 s16 =>
          (((127 : Int32) = a2 →
            Q none s16) ∧ (¬ (127 : Int32) = a2 →
            zCT zZC zmX2_noteWrong [.ref 2, .int a1, .int (σ.1 1 2)] s16 (zQv (fun s18 =>
              Q none s18)) QX)))) QX)) QX) ∧ (¬ r2 = 65 →
    ((r2 = 66 →
      zCT zZC zmX4_skipSigned [.ref 1, .int (10 : Int32), .int (0 : Int32)] s1 (zQv (fun s19 =>
        zCT zZC zmX4_octetWithin [.ref 1, .int (11 : Int32), .int (11 : Int32)] s19 (zQi (fun r21 s20 =>
          (((126 : Int32) = a2 →
            Q none s20) ∧ (¬ (126 : Int32) = a2 →
            zCT zZC zmX2_noteWrong [.ref 2, .int a1, .int (σ.1 1 2)] s20 (zQv (fun s22 =>
              Q none s22)) QX)))) QX)) QX) ∧ (¬ r2 = 66 →
      zCT zZC zmX4_fail [.ref 1, .int (1 : Int32), .int (σ.1 1 2)] s1 (zQv (fun s23 =>
        zCT zZC zmX4_octetWithin [.ref 1, .int (11 : Int32), .int (11 : Int32)] s23 (zQi (fun r25 s24 =>
          (((0 : Int32) = a2 →
            Q none s24) ∧ (¬ (0 : Int32) = a2 →
            zCT zZC zmX2_noteWrong [.ref 2, .int a1, .int (σ.1 1 2)] s24 (zQv (fun s26 =>
              Q none s26)) QX)))) QX)) QX)))))))) QX
def LIX6_readConstant  : Nat → Nat → zLo → zS → Prop := fun t n l τ => False
def JIX6_readConstant  (Q : Option Value → zS → Prop) (QX : zS → Prop) : Nat → Option Nat → zLo → zS → Prop := fun t n l τ => False
set_option maxRecDepth 50000 in
theorem pX6_readConstant_0  (Q : Option Value → zS → Prop) (QX : zS → Prop)  (a1 : Int32) (a2 : Int32) (σ : zS) (h : PX6_readConstant_0  Q QX a1 a2 σ) : zwp JX6_readConstant (zB hX6_readConstant (zKt jnX6_readConstant (JIX6_readConstant  Q QX) (LIX6_readConstant ) none 0)) Q QX kX6_readConstant 0 (lv_args 0 [.ref 3, .int a1, .int a2]) [] σ := h
set_option maxRecDepth 50000 in
theorem rX6_readConstant {Q : Option Value → zS → Prop} {QX : zS → Prop} {a1 : Int32} {a2 : Int32} {σ : zS}   (h0 : PX6_readConstant_0  Q QX a1 a2 σ) : zCT zZC zmX6_readConstant [.ref 3, .int a1, .int a2] σ Q QX := by
  refine zCT_of zZC_ok pnX6 (Nat.le_of_ble_eq_true rfl) kX6_readConstant ksX6_readConstant JX6_readConstant 1 (fun t ht => ?_) hX6_readConstant jnX6_readConstant (JIX6_readConstant  Q QX) (LIX6_readConstant ) (fun n t ln σ' ht hj hI => ?_) (fun m t ln σ' ht hj hI => ?_) (pX6_readConstant_0  Q QX a1 a2 σ h0)
  · cases ht
  · cases ht
  · cases ht
def JX6_readLimits : Nat → Bool := fun t => false && Nat.beq t 0
def jnX6_readLimits : Nat → Bool := fun t => false && Nat.beq t 0
def hX6_readLimits : Nat → List Nat := fun t => []
def PX6_readLimits_0  (Q : Option Value → zS → Prop) (QX : zS → Prop) (a1 : Int32) (a2 : Int32) (σ : zS) : Prop :=
  zCT zZC zmX4_octetWithin [.ref 1, .int (0 : Int32), .int (1 : Int32)] σ (zQi (fun r2 s1 =>
    ((r2 = (1 : Int32) →
      zCT zZC zmX4_number [.ref 1] s1 (zQl (fun r4 s3 =>
        (((1 : Int32) = 0 →
          ((r4 < r4 →
            zCT zZC zmX2_noteWrong [.ref 2, .int a1, .int (σ.1 1 2)] s3 (zQv (fun s5 =>
              Q none s5)) QX) ∧ (¬ r4 < r4 →
            ((a2 = 0 →
              Q none s3) ∧ (¬ a2 = 0 →
              ((r4 ≤ (65536 : Int64) →
                Q none s3) ∧ (¬ r4 ≤ (65536 : Int64) →
                zCT zZC zmX2_noteWrong [.ref 2, .int a1, .int (σ.1 1 2)] s3 (zQv (fun s6 =>
                  Q none s6)) QX))))))) ∧ (¬ (1 : Int32) = 0 →
          zCT zZC zmX4_number [.ref 1] s3 (zQl (fun r8 s7 =>
            ((r8 < r4 →
              zCT zZC zmX2_noteWrong [.ref 2, .int a1, .int (σ.1 1 2)] s7 (zQv (fun s9 =>
                Q none s9)) QX) ∧ (¬ r8 < r4 →
              ((a2 = 0 →
                Q none s7) ∧ (¬ a2 = 0 →
                ((r8 ≤ (65536 : Int64) →
                  Q none s7) ∧ (¬ r8 ≤ (65536 : Int64) →
                  zCT zZC zmX2_noteWrong [.ref 2, .int a1, .int (σ.1 1 2)] s7 (zQv (fun s10 =>
                    Q none s10)) QX)))))))) QX)))) QX) ∧ (¬ r2 = (1 : Int32) →
      zCT zZC zmX4_number [.ref 1] s1 (zQl (fun r12 s11 =>
        (((0 : Int32) = 0 →
          ((r12 < r12 →
            zCT zZC zmX2_noteWrong [.ref 2, .int a1, .int (σ.1 1 2)] s11 (zQv (fun s13 =>
              Q none s13)) QX) ∧ (¬ r12 < r12 →
            ((a2 = 0 →
              Q none s11) ∧ (¬ a2 = 0 →
              ((r12 ≤ (65536 : Int64) →
                Q none s11) ∧ (¬ r12 ≤ (65536 : Int64) →
                zCT zZC zmX2_noteWrong [.ref 2, .int a1, .int (σ.1 1 2)] s11 (zQv (fun s14 =>
                  Q none s14)) QX))))))) ∧ (¬ (0 : Int32) = 0 →
          zCT zZC zmX4_number [.ref 1] s11 (zQl (fun r16 s15 =>
            ((r16 < r12 →
              zCT zZC zmX2_noteWrong [.ref 2, .int a1, .int (σ.1 1 2)] s15 (zQv (fun s17 =>
                Q none s17)) QX) ∧ (¬ r16 < r12 →
              ((a2 = 0 →
                Q none s15) ∧ (¬ a2 = 0 →
                ((r16 ≤ (65536 : Int64) →
                  Q none s15) ∧ (¬ r16 ≤ (65536 : Int64) →
                  zCT zZC zmX2_noteWrong [.ref 2, .int a1, .int (σ.1 1 2)] s15 (zQv (fun s18 =>
                    Q none s18)) QX)))))))) QX)))) QX)))) QX
def LIX6_readLimits  : Nat → Nat → zLo → zS → Prop := fun t n l τ => False
def JIX6_readLimits  (Q : Option Value → zS → Prop) (QX : zS → Prop) : Nat → Option Nat → zLo → zS → Prop := fun t n l τ => False
set_option maxRecDepth 50000 in
theorem pX6_readLimits_0  (Q : Option Value → zS → Prop) (QX : zS → Prop)  (a1 : Int32) (a2 : Int32) (σ : zS) (h : PX6_readLimits_0  Q QX a1 a2 σ) : zwp JX6_readLimits (zB hX6_readLimits (zKt jnX6_readLimits (JIX6_readLimits  Q QX) (LIX6_readLimits ) none 0)) Q QX kX6_readLimits 0 (lv_args 0 [.ref 3, .int a1, .int a2]) [] σ := h
set_option maxRecDepth 50000 in
theorem rX6_readLimits {Q : Option Value → zS → Prop} {QX : zS → Prop} {a1 : Int32} {a2 : Int32} {σ : zS}   (h0 : PX6_readLimits_0  Q QX a1 a2 σ) : zCT zZC zmX6_readLimits [.ref 3, .int a1, .int a2] σ Q QX := by
  refine zCT_of zZC_ok pnX6 (Nat.le_of_ble_eq_true rfl) kX6_readLimits ksX6_readLimits JX6_readLimits 1 (fun t ht => ?_) hX6_readLimits jnX6_readLimits (JIX6_readLimits  Q QX) (LIX6_readLimits ) (fun n t ln σ' ht hj hI => ?_) (fun m t ln σ' ht hj hI => ?_) (pX6_readLimits_0  Q QX a1 a2 σ h0)
  · cases ht
  · cases ht
  · cases ht
def JX6_readSectionNumber : Nat → Bool := fun t => false && Nat.beq t 0
def jnX6_readSectionNumber : Nat → Bool := fun t => false && Nat.beq t 0
def hX6_readSectionNumber : Nat → List Nat := fun t => []
def PX6_readSectionNumber_0  (Q : Option Value → zS → Prop) (QX : zS → Prop)  (σ : zS) : Prop :=
  zCT zZC zmX4_octetWithin [.ref 1, .int (0 : Int32), .int (12 : Int32)] σ (zQi (fun r2 s1 =>
    ((r2 ≤ 0 →
      Q (some (.int (0 : Int32))) s1) ∧ (¬ r2 ≤ 0 →
      ((r2 < (13 : Int32) →
        vp_in r2 zt_SECTION_ORDER_n ∧
        (((s1.1 3 5) < (zt_SECTION_ORDER_f r2.toNatClampNeg) →
          vp_in r2 zt_SECTION_ORDER_n ∧
          ∀ s3 : zS, s3 = zsI s1 3 5 (zt_SECTION_ORDER_f r2.toNatClampNeg) →
          Q (some (.int r2)) s3) ∧ (¬ (s1.1 3 5) < (zt_SECTION_ORDER_f r2.toNatClampNeg) →
          zCT zZC zmX4_fail [.ref 1, .int (1 : Int32), .int (σ.1 1 2)] s1 (zQv (fun s4 =>
            vp_in r2 zt_SECTION_ORDER_n ∧
            ∀ s5 : zS, s5 = zsI s4 3 5 (zt_SECTION_ORDER_f r2.toNatClampNeg) →
            Q (some (.int r2)) s5)) QX))) ∧ (¬ r2 < (13 : Int32) →
        Q (some (.int (0 : Int32))) s1)))))) QX
def LIX6_readSectionNumber  : Nat → Nat → zLo → zS → Prop := fun t n l τ => False
def JIX6_readSectionNumber  (Q : Option Value → zS → Prop) (QX : zS → Prop) : Nat → Option Nat → zLo → zS → Prop := fun t n l τ => False
set_option maxRecDepth 50000 in
theorem pX6_readSectionNumber_0  (Q : Option Value → zS → Prop) (QX : zS → Prop)   (σ : zS) (h : PX6_readSectionNumber_0  Q QX  σ) : zwp JX6_readSectionNumber (zB hX6_readSectionNumber (zKt jnX6_readSectionNumber (JIX6_readSectionNumber  Q QX) (LIX6_readSectionNumber ) none 0)) Q QX kX6_readSectionNumber 0 (lv_args 0 [.ref 3]) [] σ := h
set_option maxRecDepth 50000 in
theorem rX6_readSectionNumber {Q : Option Value → zS → Prop} {QX : zS → Prop}  {σ : zS}   (h0 : PX6_readSectionNumber_0  Q QX  σ) : zCT zZC zmX6_readSectionNumber [.ref 3] σ Q QX := by
  refine zCT_of zZC_ok pnX6 (Nat.le_of_ble_eq_true rfl) kX6_readSectionNumber ksX6_readSectionNumber JX6_readSectionNumber 1 (fun t ht => ?_) hX6_readSectionNumber jnX6_readSectionNumber (JIX6_readSectionNumber  Q QX) (LIX6_readSectionNumber ) (fun n t ln σ' ht hj hI => ?_) (fun m t ln σ' ht hj hI => ?_) (pX6_readSectionNumber_0  Q QX  σ h0)
  · cases ht
  · cases ht
  · cases ht
def JX6_readSignatureOfFunction : Nat → Bool := fun t => false && Nat.beq t 0
def jnX6_readSignatureOfFunction : Nat → Bool := fun t => false && Nat.beq t 0
def hX6_readSignatureOfFunction : Nat → List Nat := fun t => []
def PX6_readSignatureOfFunction_0  (Q : Option Value → zS → Prop) (QX : zS → Prop) (a1 : Int32) (σ : zS) : Prop :=
  zCT zZC zmX4_number [.ref 1] σ (zQl (fun r2 s1 =>
    vp_in (1 : Int32) 13 ∧
    ((r2 < ((s1.1 18 (1 : Int32).toNatClampNeg).toInt64) →
      zCT zZC zmX2_addFunction [.ref 2, .long r2] s1 (zQv (fun s3 =>
        Q none s3)) QX) ∧ (¬ r2 < ((s1.1 18 (1 : Int32).toNatClampNeg).toInt64) →
      zCT zZC zmX2_noteWrong [.ref 2, .int a1, .int (σ.1 1 2)] s1 (zQv (fun s4 =>
        zCT zZC zmX2_addFunction [.ref 2, .long r2] s4 (zQv (fun s5 =>
          Q none s5)) QX)) QX)))) QX
def LIX6_readSignatureOfFunction  : Nat → Nat → zLo → zS → Prop := fun t n l τ => False
def JIX6_readSignatureOfFunction  (Q : Option Value → zS → Prop) (QX : zS → Prop) : Nat → Option Nat → zLo → zS → Prop := fun t n l τ => False
set_option maxRecDepth 50000 in
theorem pX6_readSignatureOfFunction_0  (Q : Option Value → zS → Prop) (QX : zS → Prop)  (a1 : Int32) (σ : zS) (h : PX6_readSignatureOfFunction_0  Q QX a1 σ) : zwp JX6_readSignatureOfFunction (zB hX6_readSignatureOfFunction (zKt jnX6_readSignatureOfFunction (JIX6_readSignatureOfFunction  Q QX) (LIX6_readSignatureOfFunction ) none 0)) Q QX kX6_readSignatureOfFunction 0 (lv_args 0 [.ref 3, .int a1]) [] σ := h
set_option maxRecDepth 50000 in
theorem rX6_readSignatureOfFunction {Q : Option Value → zS → Prop} {QX : zS → Prop} {a1 : Int32} {σ : zS}   (h0 : PX6_readSignatureOfFunction_0  Q QX a1 σ) : zCT zZC zmX6_readSignatureOfFunction [.ref 3, .int a1] σ Q QX := by
  refine zCT_of zZC_ok pnX6 (Nat.le_of_ble_eq_true rfl) kX6_readSignatureOfFunction ksX6_readSignatureOfFunction JX6_readSignatureOfFunction 1 (fun t ht => ?_) hX6_readSignatureOfFunction jnX6_readSignatureOfFunction (JIX6_readSignatureOfFunction  Q QX) (LIX6_readSignatureOfFunction ) (fun n t ln σ' ht hj hI => ?_) (fun m t ln σ' ht hj hI => ?_) (pX6_readSignatureOfFunction_0  Q QX a1 σ h0)
  · cases ht
  · cases ht
  · cases ht
def JX6_readStart : Nat → Bool := fun t => false && Nat.beq t 0
def jnX6_readStart : Nat → Bool := fun t => false && Nat.beq t 0
def hX6_readStart : Nat → List Nat := fun t => []
def PX6_readStart_0  (Q : Option Value → zS → Prop) (QX : zS → Prop)  (σ : zS) : Prop :=
  zCT zZC zmX4_number [.ref 1] σ (zQl (fun r2 s1 =>
    zCT zZC zmX2_signatureOf [.ref 2, .long r2] s1 (zQi (fun r4 s3 =>
      ((r4 < 0 →
        zCT zZC zmX2_noteWrong [.ref 2, .int (9 : Int32), .int (σ.1 1 2)] s3 (zQv (fun s5 =>
          Q none s5)) QX) ∧ (¬ r4 < 0 →
        zCT zZC zmX2_parameterCount [.ref 2, .int r4] s3 (zQi (fun r7 s6 =>
          ((0 < r7 →
            zCT zZC zmX2_noteWrong [.ref 2, .int (9 : Int32), .int (σ.1 1 2)] s6 (zQv (fun s8 =>
              Q none s8)) QX) ∧ (¬ 0 < r7 →
            zCT zZC zmX2_resultOf [.ref 2, .int r4] s6 (zQi (fun r10 s9 =>
              ((r10 = (64 : Int32) →
                Q none s9) ∧ (¬ r10 = (64 : Int32) →
                zCT zZC zmX2_noteWrong [.ref 2, .int (9 : Int32), .int (σ.1 1 2)] s9 (zQv (fun s11 =>
                  Q none s11)) QX)))) QX)))) QX)))) QX)) QX
def LIX6_readStart  : Nat → Nat → zLo → zS → Prop := fun t n l τ => False
def JIX6_readStart  (Q : Option Value → zS → Prop) (QX : zS → Prop) : Nat → Option Nat → zLo → zS → Prop := fun t n l τ => False
set_option maxRecDepth 50000 in
theorem pX6_readStart_0  (Q : Option Value → zS → Prop) (QX : zS → Prop)   (σ : zS) (h : PX6_readStart_0  Q QX  σ) : zwp JX6_readStart (zB hX6_readStart (zKt jnX6_readStart (JIX6_readStart  Q QX) (LIX6_readStart ) none 0)) Q QX kX6_readStart 0 (lv_args 0 [.ref 3]) [] σ := h
set_option maxRecDepth 50000 in
theorem rX6_readStart {Q : Option Value → zS → Prop} {QX : zS → Prop}  {σ : zS}   (h0 : PX6_readStart_0  Q QX  σ) : zCT zZC zmX6_readStart [.ref 3] σ Q QX := by
  refine zCT_of zZC_ok pnX6 (Nat.le_of_ble_eq_true rfl) kX6_readStart ksX6_readStart JX6_readStart 1 (fun t ht => ?_) hX6_readStart jnX6_readStart (JIX6_readStart  Q QX) (LIX6_readStart ) (fun n t ln σ' ht hj hI => ?_) (fun m t ln σ' ht hj hI => ?_) (pX6_readStart_0  Q QX  σ h0)
  · cases ht
  · cases ht
  · cases ht
def JX7_begin : Nat → Bool := fun t => Nat.beq t 22
def jnX7_begin : Nat → Bool := fun t => false && Nat.beq t 0
def hX7_begin : Nat → List Nat := fun t => bif Nat.beq t 22 then [0, 1, 2] else []
def PX7_begin_22 (K22 : Int32 → Int32 → zS → Prop) (Q : Option Value → zS → Prop) (QX : zS → Prop) (x1 : Int32) (x2 : Int32) (σ : zS) : Prop :=
  zCT zZC zmX2_parameterCount [.ref 2, .int x1] σ (zQi (fun r2 s1 =>
    ((r2 ≤ x2 →
      Q none s1) ∧ (¬ r2 ≤ x2 →
      zCT zZC zmX2_parameter [.ref 2, .int x1, .int x2] s1 (zQi (fun r4 s3 =>
        zCT zZC zmX7_addLocals [.ref 7, .int (1 : Int32), .int r4] s3 (zQv (fun s5 =>
          K22 x1 (x2 + 1) s5)) QX)) QX)))) QX
def PX7_begin_0 (K22 : Int32 → Int32 → zS → Prop) (Q : Option Value → zS → Prop) (QX : zS → Prop) (a1 : Int32) (σ : zS) : Prop :=
  zCT zZC zmX2_resultOf [.ref 2, .int a1] σ (zQi (fun r2 s1 =>
    zCT zZC zmX3_begin [.ref 5, .int r2] s1 (zQv (fun s3 =>
      ∀ s4 : zS, s4 = zsI s3 7 3 (0 : Int32) →
      K22 a1 (0 : Int32) s4)) QX)) QX
def LIX7_begin (I22 : Nat → Int32 → Int32 → zS → Prop) : Nat → Nat → zLo → zS → Prop := fun t n l τ => bif Nat.beq t 22 then zdR 0 7 (zdI 1 (fun x1 => zdI 2 (fun x2 => zdN (I22 n x1 x2 τ)))) l else False
def JIX7_begin (I22 : Nat → Int32 → Int32 → zS → Prop) (Q : Option Value → zS → Prop) (QX : zS → Prop) : Nat → Option Nat → zLo → zS → Prop := fun t n l τ => False
set_option maxRecDepth 50000 in
theorem pX7_begin_0 (I22 : Nat → Int32 → Int32 → zS → Prop) (Q : Option Value → zS → Prop) (QX : zS → Prop)  (a1 : Int32) (σ : zS) (h : PX7_begin_0 (fun y1 y2 τ => ∃ n', zlt n' none ∧ I22 n' y1 y2 τ) Q QX a1 σ) : zwp JX7_begin (zB hX7_begin (zKt jnX7_begin (JIX7_begin I22 Q QX) (LIX7_begin I22) none 0)) Q QX kX7_begin 0 (lv_args 0 [.ref 7, .int a1]) [] σ := h
set_option maxRecDepth 50000 in
theorem pX7_begin_22 (I22 : Nat → Int32 → Int32 → zS → Prop) (Q : Option Value → zS → Prop) (QX : zS → Prop) (m : Nat) (x1 : Int32) (x2 : Int32) (σ : zS) (h : PX7_begin_22 (fun y1 y2 τ => ∃ n', zlt n' (some m) ∧ I22 n' y1 y2 τ) Q QX x1 x2 σ) : zwp JX7_begin (zB hX7_begin (zKt jnX7_begin (JIX7_begin I22 Q QX) (LIX7_begin I22) (some m) 22)) Q QX kX7_begin 22 [(0, .ref 7), (1, .int x1), (2, .int x2)] [] σ := h
set_option maxRecDepth 50000 in
theorem rX7_begin {Q : Option Value → zS → Prop} {QX : zS → Prop} {a1 : Int32} {σ : zS} (I22 : Nat → Int32 → Int32 → zS → Prop) (hs22 : ∀ (m : Nat) (x1 : Int32) (x2 : Int32) (σ : zS), I22 m x1 x2 σ → PX7_begin_22 (fun y1 y2 τ => ∃ n', zlt n' (some m) ∧ I22 n' y1 y2 τ) Q QX x1 x2 σ) (h0 : PX7_begin_0 (fun y1 y2 τ => ∃ n', zlt n' none ∧ I22 n' y1 y2 τ) Q QX a1 σ) : zCT zZC zmX7_begin [.ref 7, .int a1] σ Q QX := by
  refine zCT_of zZC_ok pnX7 (Nat.le_of_ble_eq_true rfl) kX7_begin ksX7_begin JX7_begin 23 (fun t ht => ?_) hX7_begin jnX7_begin (JIX7_begin I22 Q QX) (LIX7_begin I22) (fun n t ln σ' ht hj hI => ?_) (fun m t ln σ' ht hj hI => ?_) (pX7_begin_0 I22 Q QX a1 σ h0)
  · have et := Nat.eq_of_beq_eq_true ht; subst et
    exact Nat.le_of_ble_eq_true rfl
  · have et := Nat.eq_of_beq_eq_true ht; subst et
    cases hj
  · have et := Nat.eq_of_beq_eq_true ht; subst et
    have hI : LIX7_begin I22 22 m ln σ' := hI
    obtain ⟨l0, e0, hI⟩ := zdR_e (i := 0) (q := 7) hI; subst e0
    obtain ⟨x1, l1, e1, hI⟩ := zdI_e (i := 1) hI; subst e1
    obtain ⟨x2, l2, e2, hI⟩ := zdI_e (i := 2) hI; subst e2
    obtain ⟨e, hI⟩ := zdN_e hI; subst e
    exact pX7_begin_22 I22 Q QX m x1 x2 σ' (hs22 m x1 x2 σ' hI)
def JX7_isRight : Nat → Bool := fun t => Nat.beq t 24
def jnX7_isRight : Nat → Bool := fun t => Nat.beq t 24
def hX7_isRight : Nat → List Nat := fun t => bif Nat.beq t 24 then [0, 2] else []
def PX7_isRight_24  (Q : Option Value → zS → Prop) (QX : zS → Prop) (x2 : Int32) (σ : zS) : Prop :=
  zCT zZC zmX7_followFrame [.ref 7, .int x2] σ (zQv (fun s1 =>
    ((s1.1 5 7) = 0 ∨ (s1.1 5 7) = 1) ∧ Q (some (.int (s1.1 5 7))) s1)) QX
def PX7_isRight_0  (Q : Option Value → zS → Prop) (QX : zS → Prop)  (σ : zS) : Prop :=
  ((1 : Int32) = 0 ∨ (1 : Int32) = 1) ∧ ∀ s1 : zS, s1 = zsI σ 5 7 (1 : Int32) →
  (((σ.1 6 3) ≤ (5 : Int32) →
    PX7_isRight_24 Q QX (σ.1 6 3) s1) ∧ (¬ (σ.1 6 3) ≤ (5 : Int32) →
    (((σ.1 6 3) = (11 : Int32) →
      PX7_isRight_24 Q QX (σ.1 6 3) s1) ∧ (¬ (σ.1 6 3) = (11 : Int32) →
      (((σ.1 6 3) = (14 : Int32) →
        zCT zZC zmX7_followTable [.ref 7, .ref 6] s1 (zQv (fun s2 =>
          ((s2.1 5 7) = 0 ∨ (s2.1 5 7) = 1) ∧ Q (some (.int (s2.1 5 7))) s2)) QX) ∧ (¬ (σ.1 6 3) = (14 : Int32) →
        (((15 : Int32) < (σ.1 6 3) →
          (((17 : Int32) < (σ.1 6 3) →
            (((27 : Int32) < (σ.1 6 3) →
              (((34 : Int32) < (σ.1 6 3) →
                (((36 : Int32) < (σ.1 6 3) →
                  (((62 : Int32) < (σ.1 6 3) →
                    (((64 : Int32) < (σ.1 6 3) →
                      (((256 : Int32) ≤ (σ.1 6 3) →
                        zCT zZC zmX7_followLonger [.ref 7, .int (σ.1 6 3), .long (s1.2 6 4)] s1 (zQv (fun s3 =>
                          ((s3.1 5 7) = 0 ∨ (s3.1 5 7) = 1) ∧ Q (some (.int (s3.1 5 7))) s3)) QX) ∧ (¬ (256 : Int32) ≤ (σ.1 6 3) →
                        zCT zZC zmX7_followPlain [.ref 7, .int (σ.1 6 3)] s1 (zQv (fun s4 =>
                          ((s4.1 5 7) = 0 ∨ (s4.1 5 7) = 1) ∧ Q (some (.int (s4.1 5 7))) s4)) QX))) ∧ (¬ (64 : Int32) < (σ.1 6 3) →
                      zCT zZC zmX7_followSize [.ref 7, .int (σ.1 6 3)] s1 (zQv (fun s5 =>
                        ((s5.1 5 7) = 0 ∨ (s5.1 5 7) = 1) ∧ Q (some (.int (s5.1 5 7))) s5)) QX))) ∧ (¬ (62 : Int32) < (σ.1 6 3) →
                    zCT zZC zmX7_followAccess [.ref 7, .int (σ.1 6 3), .long (s1.2 6 4)] s1 (zQv (fun s6 =>
                      ((s6.1 5 7) = 0 ∨ (s6.1 5 7) = 1) ∧ Q (some (.int (s6.1 5 7))) s6)) QX))) ∧ (¬ (36 : Int32) < (σ.1 6 3) →
                  zCT zZC zmX7_followGlobal [.ref 7, .int (σ.1 6 3), .long (s1.2 6 4)] s1 (zQv (fun s7 =>
                    ((s7.1 5 7) = 0 ∨ (s7.1 5 7) = 1) ∧ Q (some (.int (s7.1 5 7))) s7)) QX))) ∧ (¬ (34 : Int32) < (σ.1 6 3) →
                zCT zZC zmX7_followLocal [.ref 7, .int (σ.1 6 3), .long (s1.2 6 4)] s1 (zQv (fun s8 =>
                  ((s8.1 5 7) = 0 ∨ (s8.1 5 7) = 1) ∧ Q (some (.int (s8.1 5 7))) s8)) QX))) ∧ (¬ (27 : Int32) < (σ.1 6 3) →
              zCT zZC zmX7_followChoice [.ref 7, .int (σ.1 6 3)] s1 (zQv (fun s9 =>
                ((s9.1 5 7) = 0 ∨ (s9.1 5 7) = 1) ∧ Q (some (.int (s9.1 5 7))) s9)) QX))) ∧ (¬ (17 : Int32) < (σ.1 6 3) →
            zCT zZC zmX7_followCall [.ref 7, .int (σ.1 6 3), .long (s1.2 6 4)] s1 (zQv (fun s10 =>
              ((s10.1 5 7) = 0 ∨ (s10.1 5 7) = 1) ∧ Q (some (.int (s10.1 5 7))) s10)) QX))) ∧ (¬ (15 : Int32) < (σ.1 6 3) →
          zCT zZC zmX7_followLeap [.ref 7, .int (σ.1 6 3), .long (s1.2 6 4)] s1 (zQv (fun s11 =>
            ((s11.1 5 7) = 0 ∨ (s11.1 5 7) = 1) ∧ Q (some (.int (s11.1 5 7))) s11)) QX))))))))
def LIX7_isRight  : Nat → Nat → zLo → zS → Prop := fun t n l τ => False
def JIX7_isRight  (Q : Option Value → zS → Prop) (QX : zS → Prop) : Nat → Option Nat → zLo → zS → Prop := fun t n l τ => bif Nat.beq t 24 then zdR 0 7 (zdI 2 (fun x2 => zdN (PX7_isRight_24  Q QX x2 τ))) l else False
set_option maxRecDepth 50000 in
theorem pX7_isRight_0  (Q : Option Value → zS → Prop) (QX : zS → Prop)   (σ : zS) (h : PX7_isRight_0  Q QX  σ) : zwp JX7_isRight (zB hX7_isRight (zKt jnX7_isRight (JIX7_isRight  Q QX) (LIX7_isRight ) none 0)) Q QX kX7_isRight 0 (lv_args 0 [.ref 7, .ref 6]) [] σ := h
set_option maxRecDepth 50000 in
theorem pX7_isRight_24  (Q : Option Value → zS → Prop) (QX : zS → Prop) (n : Option Nat) (x2 : Int32) (σ : zS) (h : PX7_isRight_24  Q QX x2 σ) : zwp JX7_isRight (zB hX7_isRight (zKt jnX7_isRight (JIX7_isRight  Q QX) (LIX7_isRight ) n 24)) Q QX kX7_isRight 24 [(0, .ref 7), (2, .int x2)] [] σ := h
set_option maxRecDepth 50000 in
theorem rX7_isRight {Q : Option Value → zS → Prop} {QX : zS → Prop}  {σ : zS}   (h0 : PX7_isRight_0  Q QX  σ) : zCT zZC zmX7_isRight [.ref 7, .ref 6] σ Q QX := by
  refine zCT_of zZC_ok pnX7 (Nat.le_of_ble_eq_true rfl) kX7_isRight ksX7_isRight JX7_isRight 25 (fun t ht => ?_) hX7_isRight jnX7_isRight (JIX7_isRight  Q QX) (LIX7_isRight ) (fun n t ln σ' ht hj hI => ?_) (fun m t ln σ' ht hj hI => ?_) (pX7_isRight_0  Q QX  σ h0)
  · have et := Nat.eq_of_beq_eq_true ht; subst et
    exact Nat.le_of_ble_eq_true rfl
  · have et := Nat.eq_of_beq_eq_true ht; subst et
    have hI : JIX7_isRight  Q QX 24 n ln σ' := hI
    obtain ⟨l0, e0, hI⟩ := zdR_e (i := 0) (q := 7) hI; subst e0
    obtain ⟨x2, l2, e2, hI⟩ := zdI_e (i := 2) hI; subst e2
    obtain ⟨e, hI⟩ := zdN_e hI; subst e
    exact pX7_isRight_24  Q QX n x2 σ' hI
  · have et := Nat.eq_of_beq_eq_true ht; subst et
    cases hj
def JX8_code : Nat → Bool := fun t => false && Nat.beq t 0
def jnX8_code : Nat → Bool := fun t => false && Nat.beq t 0
def hX8_code : Nat → List Nat := fun t => []
def PX8_code_0  (Q : Option Value → zS → Prop) (QX : zS → Prop) (a1 : Int32) (a2 : Int32) (σ : zS) : Prop :=
  zCT zZC zmX0_has [.ref 9, .int a1] σ (zQi (fun r2 s1 =>
    ((r2 = 0 →
      Q (some (.int (-1 : Int32))) s1) ∧ (¬ r2 = 0 →
      zCT zZC zmX0_codeAt [.ref 9, .int a1, .int a2] s1 (zQi (fun r4 s3 =>
        Q (some (.int r4)) s3)) QX)))) QX
def LIX8_code  : Nat → Nat → zLo → zS → Prop := fun t n l τ => False
def JIX8_code  (Q : Option Value → zS → Prop) (QX : zS → Prop) : Nat → Option Nat → zLo → zS → Prop := fun t n l τ => False
set_option maxRecDepth 50000 in
theorem pX8_code_0  (Q : Option Value → zS → Prop) (QX : zS → Prop)  (a1 : Int32) (a2 : Int32) (σ : zS) (h : PX8_code_0  Q QX a1 a2 σ) : zwp JX8_code (zB hX8_code (zKt jnX8_code (JIX8_code  Q QX) (LIX8_code ) none 0)) Q QX kX8_code 0 (lv_args 0 [.ref 0, .int a1, .int a2]) [] σ := h
set_option maxRecDepth 50000 in
theorem rX8_code {Q : Option Value → zS → Prop} {QX : zS → Prop} {a1 : Int32} {a2 : Int32} {σ : zS}   (h0 : PX8_code_0  Q QX a1 a2 σ) : zCT zZC zmX8_code [.ref 0, .int a1, .int a2] σ Q QX := by
  refine zCT_of zZC_ok pnX8 (Nat.le_of_ble_eq_true rfl) kX8_code ksX8_code JX8_code 1 (fun t ht => ?_) hX8_code jnX8_code (JIX8_code  Q QX) (LIX8_code ) (fun n t ln σ' ht hj hI => ?_) (fun m t ln σ' ht hj hI => ?_) (pX8_code_0  Q QX a1 a2 σ h0)
  · cases ht
  · cases ht
  · cases ht
def JX1_readGroups : Nat → Bool := fun t => Nat.beq t 13
def jnX1_readGroups : Nat → Bool := fun t => false && Nat.beq t 0
def hX1_readGroups : Nat → List Nat := fun t => bif Nat.beq t 13 then [0, 1, 2, 4] else []
def PX1_readGroups_13 (K13 : Int32 → Int64 → Int32 → zS → Prop) (Q : Option Value → zS → Prop) (QX : zS → Prop) (x1 : Int32) (x2 : Int64) (x4 : Int32) (σ : zS) : Prop :=
  ((x1 ≤ x4 →
    Q none σ) ∧ (¬ x1 ≤ x4 →
    (((σ.1 1 4) = 0 →
      zCT zZC zmX4_number [.ref 1] σ (zQl (fun r2 s1 =>
        zCT zZC zmX4_type [.ref 1] s1 (zQi (fun r4 s3 =>
          (((x2 + r2) ≤ (64 : Int64) →
            zCT zZC zmX7_addLocals [.ref 7, .int (r2.toInt32), .int r4] s3 (zQv (fun s5 =>
              K13 x1 (x2 + r2) (x4 + 1) s5)) QX) ∧ (¬ (x2 + r2) ≤ (64 : Int64) →
            zCT zZC zmX4_fail [.ref 1, .int (4 : Int32), .int (σ.1 1 2)] s3 (zQv (fun s6 =>
              K13 x1 (x2 + r2) (x4 + 1) s6)) QX)))) QX)) QX) ∧ (¬ (σ.1 1 4) = 0 →
      Q none σ))))
def PX1_readGroups_0 (K13 : Int32 → Int64 → Int32 → zS → Prop) (Q : Option Value → zS → Prop) (QX : zS → Prop)  (σ : zS) : Prop :=
  zCT zZC zmX4_rowLength [.ref 1] σ (zQi (fun r2 s1 =>
    K13 r2 (0 : Int64) (0 : Int32) s1)) QX
def LIX1_readGroups (I13 : Nat → Int32 → Int64 → Int32 → zS → Prop) : Nat → Nat → zLo → zS → Prop := fun t n l τ => bif Nat.beq t 13 then zdR 0 4 (zdI 1 (fun x1 => zdL 2 (fun x2 => zdI 4 (fun x4 => zdN (I13 n x1 x2 x4 τ))))) l else False
def JIX1_readGroups (I13 : Nat → Int32 → Int64 → Int32 → zS → Prop) (Q : Option Value → zS → Prop) (QX : zS → Prop) : Nat → Option Nat → zLo → zS → Prop := fun t n l τ => False
set_option maxRecDepth 50000 in
theorem pX1_readGroups_0 (I13 : Nat → Int32 → Int64 → Int32 → zS → Prop) (Q : Option Value → zS → Prop) (QX : zS → Prop)   (σ : zS) (h : PX1_readGroups_0 (fun y1 y2 y4 τ => ∃ n', zlt n' none ∧ I13 n' y1 y2 y4 τ) Q QX  σ) : zwp JX1_readGroups (zB hX1_readGroups (zKt jnX1_readGroups (JIX1_readGroups I13 Q QX) (LIX1_readGroups I13) none 0)) Q QX kX1_readGroups 0 (lv_args 0 [.ref 4]) [] σ := h
set_option maxRecDepth 50000 in
theorem pX1_readGroups_13 (I13 : Nat → Int32 → Int64 → Int32 → zS → Prop) (Q : Option Value → zS → Prop) (QX : zS → Prop) (m : Nat) (x1 : Int32) (x2 : Int64) (x4 : Int32) (σ : zS) (h : PX1_readGroups_13 (fun y1 y2 y4 τ => ∃ n', zlt n' (some m) ∧ I13 n' y1 y2 y4 τ) Q QX x1 x2 x4 σ) : zwp JX1_readGroups (zB hX1_readGroups (zKt jnX1_readGroups (JIX1_readGroups I13 Q QX) (LIX1_readGroups I13) (some m) 13)) Q QX kX1_readGroups 13 [(0, .ref 4), (1, .int x1), (2, .long x2), (4, .int x4)] [] σ := h
set_option maxRecDepth 50000 in
theorem rX1_readGroups {Q : Option Value → zS → Prop} {QX : zS → Prop}  {σ : zS} (I13 : Nat → Int32 → Int64 → Int32 → zS → Prop) (hs13 : ∀ (m : Nat) (x1 : Int32) (x2 : Int64) (x4 : Int32) (σ : zS), I13 m x1 x2 x4 σ → PX1_readGroups_13 (fun y1 y2 y4 τ => ∃ n', zlt n' (some m) ∧ I13 n' y1 y2 y4 τ) Q QX x1 x2 x4 σ) (h0 : PX1_readGroups_0 (fun y1 y2 y4 τ => ∃ n', zlt n' none ∧ I13 n' y1 y2 y4 τ) Q QX  σ) : zCT zZC zmX1_readGroups [.ref 4] σ Q QX := by
  refine zCT_of zZC_ok pnX1 (Nat.le_of_ble_eq_true rfl) kX1_readGroups ksX1_readGroups JX1_readGroups 14 (fun t ht => ?_) hX1_readGroups jnX1_readGroups (JIX1_readGroups I13 Q QX) (LIX1_readGroups I13) (fun n t ln σ' ht hj hI => ?_) (fun m t ln σ' ht hj hI => ?_) (pX1_readGroups_0 I13 Q QX  σ h0)
  · have et := Nat.eq_of_beq_eq_true ht; subst et
    exact Nat.le_of_ble_eq_true rfl
  · have et := Nat.eq_of_beq_eq_true ht; subst et
    cases hj
  · have et := Nat.eq_of_beq_eq_true ht; subst et
    have hI : LIX1_readGroups I13 13 m ln σ' := hI
    obtain ⟨l0, e0, hI⟩ := zdR_e (i := 0) (q := 4) hI; subst e0
    obtain ⟨x1, l1, e1, hI⟩ := zdI_e (i := 1) hI; subst e1
    obtain ⟨x2, l2, e2, hI⟩ := zdL_e (i := 2) hI; subst e2
    obtain ⟨x4, l4, e4, hI⟩ := zdI_e (i := 4) hI; subst e4
    obtain ⟨e, hI⟩ := zdN_e hI; subst e
    exact pX1_readGroups_13 I13 Q QX m x1 x2 x4 σ' (hs13 m x1 x2 x4 σ' hI)
def JX4_enter : Nat → Bool := fun t => false && Nat.beq t 0
def jnX4_enter : Nat → Bool := fun t => false && Nat.beq t 0
def hX4_enter : Nat → List Nat := fun t => []
def PX4_enter_0  (Q : Option Value → zS → Prop) (QX : zS → Prop)  (σ : zS) : Prop :=
  zCT zZC zmX4_length [.ref 1] σ (zQi (fun r2 s1 =>
    (((s1.1 1 4) = 0 →
      ∀ s3 : zS, s3 = zsI s1 1 3 ((s1.1 1 2) + r2) →
      Q (some (.int (σ.1 1 3))) s3) ∧ (¬ (s1.1 1 4) = 0 →
      Q (some (.int (σ.1 1 3))) s1)))) QX
def LIX4_enter  : Nat → Nat → zLo → zS → Prop := fun t n l τ => False
def JIX4_enter  (Q : Option Value → zS → Prop) (QX : zS → Prop) : Nat → Option Nat → zLo → zS → Prop := fun t n l τ => False
set_option maxRecDepth 50000 in
theorem pX4_enter_0  (Q : Option Value → zS → Prop) (QX : zS → Prop)   (σ : zS) (h : PX4_enter_0  Q QX  σ) : zwp JX4_enter (zB hX4_enter (zKt jnX4_enter (JIX4_enter  Q QX) (LIX4_enter ) none 0)) Q QX kX4_enter 0 (lv_args 0 [.ref 1]) [] σ := h
set_option maxRecDepth 50000 in
theorem rX4_enter {Q : Option Value → zS → Prop} {QX : zS → Prop}  {σ : zS}   (h0 : PX4_enter_0  Q QX  σ) : zCT zZC zmX4_enter [.ref 1] σ Q QX := by
  refine zCT_of zZC_ok pnX4 (Nat.le_of_ble_eq_true rfl) kX4_enter ksX4_enter JX4_enter 1 (fun t ht => ?_) hX4_enter jnX4_enter (JIX4_enter  Q QX) (LIX4_enter ) (fun n t ln σ' ht hj hI => ?_) (fun m t ln σ' ht hj hI => ?_) (pX4_enter_0  Q QX  σ h0)
  · cases ht
  · cases ht
  · cases ht
def JX4_outerName : Nat → Bool := fun t => false && Nat.beq t 0
def jnX4_outerName : Nat → Bool := fun t => false && Nat.beq t 0
def hX4_outerName : Nat → List Nat := fun t => []
def PX4_outerName_0  (Q : Option Value → zS → Prop) (QX : zS → Prop)  (σ : zS) : Prop :=
  zCT zZC zmX4_name [.ref 1] σ (zQi (fun r2 s1 =>
    ((r2 ≤ (40 : Int32) →
      Q (some (.int r2)) s1) ∧ (¬ r2 ≤ (40 : Int32) →
      zCT zZC zmX4_fail [.ref 1, .int (4 : Int32), .int (σ.1 1 2)] s1 (zQv (fun s3 =>
        Q (some (.int r2)) s3)) QX)))) QX
def LIX4_outerName  : Nat → Nat → zLo → zS → Prop := fun t n l τ => False
def JIX4_outerName  (Q : Option Value → zS → Prop) (QX : zS → Prop) : Nat → Option Nat → zLo → zS → Prop := fun t n l τ => False
set_option maxRecDepth 50000 in
theorem pX4_outerName_0  (Q : Option Value → zS → Prop) (QX : zS → Prop)   (σ : zS) (h : PX4_outerName_0  Q QX  σ) : zwp JX4_outerName (zB hX4_outerName (zKt jnX4_outerName (JIX4_outerName  Q QX) (LIX4_outerName ) none 0)) Q QX kX4_outerName 0 (lv_args 0 [.ref 1]) [] σ := h
set_option maxRecDepth 50000 in
theorem rX4_outerName {Q : Option Value → zS → Prop} {QX : zS → Prop}  {σ : zS}   (h0 : PX4_outerName_0  Q QX  σ) : zCT zZC zmX4_outerName [.ref 1] σ Q QX := by
  refine zCT_of zZC_ok pnX4 (Nat.le_of_ble_eq_true rfl) kX4_outerName ksX4_outerName JX4_outerName 1 (fun t ht => ?_) hX4_outerName jnX4_outerName (JIX4_outerName  Q QX) (LIX4_outerName ) (fun n t ln σ' ht hj hI => ?_) (fun m t ln σ' ht hj hI => ?_) (pX4_outerName_0  Q QX  σ h0)
  · cases ht
  · cases ht
  · cases ht
def JX5_readLabels : Nat → Bool := fun t => Nat.beq t 31
def jnX5_readLabels : Nat → Bool := fun t => false && Nat.beq t 0
def hX5_readLabels : Nat → List Nat := fun t => bif Nat.beq t 31 then [0, 1, 3, 4] else []
def PX5_readLabels_31 (K31 : Int32 → Int32 → zS → Prop) (Q : Option Value → zS → Prop) (QX : zS → Prop) (x3 : Int32) (x4 : Int32) (σ : zS) : Prop :=
  ((x3 < x4 →
    Q none σ) ∧ (¬ x3 < x4 →
    (((σ.1 1 4) = 0 →
      (((nI 257) ≤ x4 →
        Q none σ) ∧ (¬ (nI 257) ≤ x4 →
        zCT zZC zmX4_number [.ref 1] σ (zQl (fun r2 s1 =>
          vp_in x4 257 ∧ ∀ s3 : zS, s3 = zsL s1 26 x4.toNatClampNeg r2 →
          ∀ s4 : zS, s4 = zsI s3 6 1 ((s3.1 6 1) + (1 : Int32)) →
          K31 x3 (x4 + 1) s4)) QX))) ∧ (¬ (σ.1 1 4) = 0 →
      Q none σ))))
def PX5_readLabels_0 (K31 : Int32 → Int32 → zS → Prop) (Q : Option Value → zS → Prop) (QX : zS → Prop)  (σ : zS) : Prop :=
  zCT zZC zmX4_rowLength [.ref 1] σ (zQi (fun r2 s1 =>
    ((r2 ≤ (256 : Int32) →
      ∀ s3 : zS, s3 = zsI s1 6 1 (0 : Int32) →
      K31 r2 (0 : Int32) s3) ∧ (¬ r2 ≤ (256 : Int32) →
      zCT zZC zmX4_fail [.ref 1, .int (4 : Int32), .int (σ.1 1 2)] s1 (zQv (fun s4 =>
        ∀ s5 : zS, s5 = zsI s4 6 1 (0 : Int32) →
        K31 r2 (0 : Int32) s5)) QX)))) QX
def LIX5_readLabels (I31 : Nat → Int32 → Int32 → zS → Prop) : Nat → Nat → zLo → zS → Prop := fun t n l τ => bif Nat.beq t 31 then zdR 0 6 (zdR 1 1 (zdI 3 (fun x3 => zdI 4 (fun x4 => zdN (I31 n x3 x4 τ))))) l else False
def JIX5_readLabels (I31 : Nat → Int32 → Int32 → zS → Prop) (Q : Option Value → zS → Prop) (QX : zS → Prop) : Nat → Option Nat → zLo → zS → Prop := fun t n l τ => False
set_option maxRecDepth 50000 in
theorem pX5_readLabels_0 (I31 : Nat → Int32 → Int32 → zS → Prop) (Q : Option Value → zS → Prop) (QX : zS → Prop)   (σ : zS) (h : PX5_readLabels_0 (fun y3 y4 τ => ∃ n', zlt n' none ∧ I31 n' y3 y4 τ) Q QX  σ) : zwp JX5_readLabels (zB hX5_readLabels (zKt jnX5_readLabels (JIX5_readLabels I31 Q QX) (LIX5_readLabels I31) none 0)) Q QX kX5_readLabels 0 (lv_args 0 [.ref 6, .ref 1]) [] σ := h
set_option maxRecDepth 50000 in
theorem pX5_readLabels_31 (I31 : Nat → Int32 → Int32 → zS → Prop) (Q : Option Value → zS → Prop) (QX : zS → Prop) (m : Nat) (x3 : Int32) (x4 : Int32) (σ : zS) (h : PX5_readLabels_31 (fun y3 y4 τ => ∃ n', zlt n' (some m) ∧ I31 n' y3 y4 τ) Q QX x3 x4 σ) : zwp JX5_readLabels (zB hX5_readLabels (zKt jnX5_readLabels (JIX5_readLabels I31 Q QX) (LIX5_readLabels I31) (some m) 31)) Q QX kX5_readLabels 31 [(0, .ref 6), (1, .ref 1), (3, .int x3), (4, .int x4)] [] σ := h
set_option maxRecDepth 50000 in
theorem rX5_readLabels {Q : Option Value → zS → Prop} {QX : zS → Prop}  {σ : zS} (I31 : Nat → Int32 → Int32 → zS → Prop) (hs31 : ∀ (m : Nat) (x3 : Int32) (x4 : Int32) (σ : zS), I31 m x3 x4 σ → PX5_readLabels_31 (fun y3 y4 τ => ∃ n', zlt n' (some m) ∧ I31 n' y3 y4 τ) Q QX x3 x4 σ) (h0 : PX5_readLabels_0 (fun y3 y4 τ => ∃ n', zlt n' none ∧ I31 n' y3 y4 τ) Q QX  σ) : zCT zZC zmX5_readLabels [.ref 6, .ref 1] σ Q QX := by
  refine zCT_of zZC_ok pnX5 (Nat.le_of_ble_eq_true rfl) kX5_readLabels ksX5_readLabels JX5_readLabels 32 (fun t ht => ?_) hX5_readLabels jnX5_readLabels (JIX5_readLabels I31 Q QX) (LIX5_readLabels I31) (fun n t ln σ' ht hj hI => ?_) (fun m t ln σ' ht hj hI => ?_) (pX5_readLabels_0 I31 Q QX  σ h0)
  · have et := Nat.eq_of_beq_eq_true ht; subst et
    exact Nat.le_of_ble_eq_true rfl
  · have et := Nat.eq_of_beq_eq_true ht; subst et
    cases hj
  · have et := Nat.eq_of_beq_eq_true ht; subst et
    have hI : LIX5_readLabels I31 31 m ln σ' := hI
    obtain ⟨l0, e0, hI⟩ := zdR_e (i := 0) (q := 6) hI; subst e0
    obtain ⟨l1, e1, hI⟩ := zdR_e (i := 1) (q := 1) hI; subst e1
    obtain ⟨x3, l3, e3, hI⟩ := zdI_e (i := 3) hI; subst e3
    obtain ⟨x4, l4, e4, hI⟩ := zdI_e (i := 4) hI; subst e4
    obtain ⟨e, hI⟩ := zdN_e hI; subst e
    exact pX5_readLabels_31 I31 Q QX m x3 x4 σ' (hs31 m x3 x4 σ' hI)
def JX6_readData : Nat → Bool := fun t => false && Nat.beq t 0
def jnX6_readData : Nat → Bool := fun t => false && Nat.beq t 0
def hX6_readData : Nat → List Nat := fun t => []
def PX6_readData_0  (Q : Option Value → zS → Prop) (QX : zS → Prop)  (σ : zS) : Prop :=
  zCT zZC zmX4_octetWithin [.ref 1, .int (0 : Int32), .int (1 : Int32)] σ (zQi (fun r2 s1 =>
    ((r2 = 0 →
      (((s1.1 2 11) = 0 →
        zCT zZC zmX2_noteWrong [.ref 2, .int (13 : Int32), .int (σ.1 1 2)] s1 (zQv (fun s3 =>
          zCT zZC zmX6_readConstant [.ref 3, .int (14 : Int32), .int (127 : Int32)] s3 (zQv (fun s4 =>
            zCT zZC zmX4_length [.ref 1] s4 (zQi (fun r6 s5 =>
              ∀ s7 : zS, s7 = zsI s5 1 2 ((s5.1 1 2) + r6) →
              Q none s7)) QX)) QX)) QX) ∧ (¬ (s1.1 2 11) = 0 →
        zCT zZC zmX6_readConstant [.ref 3, .int (14 : Int32), .int (127 : Int32)] s1 (zQv (fun s8 =>
          zCT zZC zmX4_length [.ref 1] s8 (zQi (fun r10 s9 =>
            ∀ s11 : zS, s11 = zsI s9 1 2 ((s9.1 1 2) + r10) →
            Q none s11)) QX)) QX))) ∧ (¬ r2 = 0 →
      zCT zZC zmX4_length [.ref 1] s1 (zQi (fun r13 s12 =>
        ∀ s14 : zS, s14 = zsI s12 1 2 ((s12.1 1 2) + r13) →
        Q none s14)) QX)))) QX
def LIX6_readData  : Nat → Nat → zLo → zS → Prop := fun t n l τ => False
def JIX6_readData  (Q : Option Value → zS → Prop) (QX : zS → Prop) : Nat → Option Nat → zLo → zS → Prop := fun t n l τ => False
set_option maxRecDepth 50000 in
theorem pX6_readData_0  (Q : Option Value → zS → Prop) (QX : zS → Prop)   (σ : zS) (h : PX6_readData_0  Q QX  σ) : zwp JX6_readData (zB hX6_readData (zKt jnX6_readData (JIX6_readData  Q QX) (LIX6_readData ) none 0)) Q QX kX6_readData 0 (lv_args 0 [.ref 3]) [] σ := h
set_option maxRecDepth 50000 in
theorem rX6_readData {Q : Option Value → zS → Prop} {QX : zS → Prop}  {σ : zS}   (h0 : PX6_readData_0  Q QX  σ) : zCT zZC zmX6_readData [.ref 3] σ Q QX := by
  refine zCT_of zZC_ok pnX6 (Nat.le_of_ble_eq_true rfl) kX6_readData ksX6_readData JX6_readData 1 (fun t ht => ?_) hX6_readData jnX6_readData (JIX6_readData  Q QX) (LIX6_readData ) (fun n t ln σ' ht hj hI => ?_) (fun m t ln σ' ht hj hI => ?_) (pX6_readData_0  Q QX  σ h0)
  · cases ht
  · cases ht
  · cases ht
def JX6_readGlobal : Nat → Bool := fun t => false && Nat.beq t 0
def jnX6_readGlobal : Nat → Bool := fun t => false && Nat.beq t 0
def hX6_readGlobal : Nat → List Nat := fun t => []
def PX6_readGlobal_0  (Q : Option Value → zS → Prop) (QX : zS → Prop)  (σ : zS) : Prop :=
  zCT zZC zmX4_type [.ref 1] σ (zQi (fun r2 s1 =>
    zCT zZC zmX4_octetWithin [.ref 1, .int (0 : Int32), .int (1 : Int32)] s1 (zQi (fun r4 s3 =>
      ((r4 = (1 : Int32) →
        zCT zZC zmX6_readConstant [.ref 3, .int (6 : Int32), .int r2] s3 (zQv (fun s5 =>
          zCT zZC zmX2_addGlobal [.ref 2, .int r2, .int (1 : Int32)] s5 (zQv (fun s6 =>
            Q none s6)) QX)) QX) ∧ (¬ r4 = (1 : Int32) →
        zCT zZC zmX6_readConstant [.ref 3, .int (6 : Int32), .int r2] s3 (zQv (fun s7 =>
          zCT zZC zmX2_addGlobal [.ref 2, .int r2, .int (0 : Int32)] s7 (zQv (fun s8 =>
            Q none s8)) QX)) QX)))) QX)) QX
def LIX6_readGlobal  : Nat → Nat → zLo → zS → Prop := fun t n l τ => False
def JIX6_readGlobal  (Q : Option Value → zS → Prop) (QX : zS → Prop) : Nat → Option Nat → zLo → zS → Prop := fun t n l τ => False
set_option maxRecDepth 50000 in
theorem pX6_readGlobal_0  (Q : Option Value → zS → Prop) (QX : zS → Prop)   (σ : zS) (h : PX6_readGlobal_0  Q QX  σ) : zwp JX6_readGlobal (zB hX6_readGlobal (zKt jnX6_readGlobal (JIX6_readGlobal  Q QX) (LIX6_readGlobal ) none 0)) Q QX kX6_readGlobal 0 (lv_args 0 [.ref 3]) [] σ := h
set_option maxRecDepth 50000 in
theorem rX6_readGlobal {Q : Option Value → zS → Prop} {QX : zS → Prop}  {σ : zS}   (h0 : PX6_readGlobal_0  Q QX  σ) : zCT zZC zmX6_readGlobal [.ref 3] σ Q QX := by
  refine zCT_of zZC_ok pnX6 (Nat.le_of_ble_eq_true rfl) kX6_readGlobal ksX6_readGlobal JX6_readGlobal 1 (fun t ht => ?_) hX6_readGlobal jnX6_readGlobal (JIX6_readGlobal  Q QX) (LIX6_readGlobal ) (fun n t ln σ' ht hj hI => ?_) (fun m t ln σ' ht hj hI => ?_) (pX6_readGlobal_0  Q QX  σ h0)
  · cases ht
  · cases ht
  · cases ht
def JX6_readMemory : Nat → Bool := fun t => false && Nat.beq t 0
def jnX6_readMemory : Nat → Bool := fun t => false && Nat.beq t 0
def hX6_readMemory : Nat → List Nat := fun t => []
def PX6_readMemory_0  (Q : Option Value → zS → Prop) (QX : zS → Prop)  (σ : zS) : Prop :=
  zCT zZC zmX6_addMemory [.ref 3, .int (σ.1 1 2)] σ (zQv (fun s1 =>
    zCT zZC zmX6_readLimits [.ref 3, .int (5 : Int32), .int (1 : Int32)] s1 (zQv (fun s2 =>
      Q none s2)) QX)) QX
def LIX6_readMemory  : Nat → Nat → zLo → zS → Prop := fun t n l τ => False
def JIX6_readMemory  (Q : Option Value → zS → Prop) (QX : zS → Prop) : Nat → Option Nat → zLo → zS → Prop := fun t n l τ => False
set_option maxRecDepth 50000 in
theorem pX6_readMemory_0  (Q : Option Value → zS → Prop) (QX : zS → Prop)   (σ : zS) (h : PX6_readMemory_0  Q QX  σ) : zwp JX6_readMemory (zB hX6_readMemory (zKt jnX6_readMemory (JIX6_readMemory  Q QX) (LIX6_readMemory ) none 0)) Q QX kX6_readMemory 0 (lv_args 0 [.ref 3]) [] σ := h
set_option maxRecDepth 50000 in
theorem rX6_readMemory {Q : Option Value → zS → Prop} {QX : zS → Prop}  {σ : zS}   (h0 : PX6_readMemory_0  Q QX  σ) : zCT zZC zmX6_readMemory [.ref 3] σ Q QX := by
  refine zCT_of zZC_ok pnX6 (Nat.le_of_ble_eq_true rfl) kX6_readMemory ksX6_readMemory JX6_readMemory 1 (fun t ht => ?_) hX6_readMemory jnX6_readMemory (JIX6_readMemory  Q QX) (LIX6_readMemory ) (fun n t ln σ' ht hj hI => ?_) (fun m t ln σ' ht hj hI => ?_) (pX6_readMemory_0  Q QX  σ h0)
  · cases ht
  · cases ht
  · cases ht
def JX6_readRowOfFunctions : Nat → Bool := fun t => Nat.beq t 34
def jnX6_readRowOfFunctions : Nat → Bool := fun t => false && Nat.beq t 0
def hX6_readRowOfFunctions : Nat → List Nat := fun t => bif Nat.beq t 34 then [0, 2, 3] else []
def PX6_readRowOfFunctions_34 (K34 : Int32 → Int32 → zS → Prop) (Q : Option Value → zS → Prop) (QX : zS → Prop) (x2 : Int32) (x3 : Int32) (σ : zS) : Prop :=
  ((x2 ≤ x3 →
    Q none σ) ∧ (¬ x2 ≤ x3 →
    (((σ.1 1 4) = 0 →
      zCT zZC zmX4_number [.ref 1] σ (zQl (fun r2 s1 =>
        ((r2 < ((s1.1 2 8).toInt64) →
          K34 x2 (x3 + 1) s1) ∧ (¬ r2 < ((s1.1 2 8).toInt64) →
          zCT zZC zmX2_noteWrong [.ref 2, .int (12 : Int32), .int (σ.1 1 2)] s1 (zQv (fun s3 =>
            K34 x2 (x3 + 1) s3)) QX)))) QX) ∧ (¬ (σ.1 1 4) = 0 →
      Q none σ))))
def PX6_readRowOfFunctions_0 (K34 : Int32 → Int32 → zS → Prop) (Q : Option Value → zS → Prop) (QX : zS → Prop)  (σ : zS) : Prop :=
  zCT zZC zmX4_rowLength [.ref 1] σ (zQi (fun r2 s1 =>
    ((r2 ≤ (256 : Int32) →
      K34 r2 (0 : Int32) s1) ∧ (¬ r2 ≤ (256 : Int32) →
      zCT zZC zmX4_fail [.ref 1, .int (4 : Int32), .int (σ.1 1 2)] s1 (zQv (fun s3 =>
        K34 r2 (0 : Int32) s3)) QX)))) QX
def LIX6_readRowOfFunctions (I34 : Nat → Int32 → Int32 → zS → Prop) : Nat → Nat → zLo → zS → Prop := fun t n l τ => bif Nat.beq t 34 then zdR 0 3 (zdI 2 (fun x2 => zdI 3 (fun x3 => zdN (I34 n x2 x3 τ)))) l else False
def JIX6_readRowOfFunctions (I34 : Nat → Int32 → Int32 → zS → Prop) (Q : Option Value → zS → Prop) (QX : zS → Prop) : Nat → Option Nat → zLo → zS → Prop := fun t n l τ => False
set_option maxRecDepth 50000 in
theorem pX6_readRowOfFunctions_0 (I34 : Nat → Int32 → Int32 → zS → Prop) (Q : Option Value → zS → Prop) (QX : zS → Prop)   (σ : zS) (h : PX6_readRowOfFunctions_0 (fun y2 y3 τ => ∃ n', zlt n' none ∧ I34 n' y2 y3 τ) Q QX  σ) : zwp JX6_readRowOfFunctions (zB hX6_readRowOfFunctions (zKt jnX6_readRowOfFunctions (JIX6_readRowOfFunctions I34 Q QX) (LIX6_readRowOfFunctions I34) none 0)) Q QX kX6_readRowOfFunctions 0 (lv_args 0 [.ref 3]) [] σ := h
set_option maxRecDepth 50000 in
theorem pX6_readRowOfFunctions_34 (I34 : Nat → Int32 → Int32 → zS → Prop) (Q : Option Value → zS → Prop) (QX : zS → Prop) (m : Nat) (x2 : Int32) (x3 : Int32) (σ : zS) (h : PX6_readRowOfFunctions_34 (fun y2 y3 τ => ∃ n', zlt n' (some m) ∧ I34 n' y2 y3 τ) Q QX x2 x3 σ) : zwp JX6_readRowOfFunctions (zB hX6_readRowOfFunctions (zKt jnX6_readRowOfFunctions (JIX6_readRowOfFunctions I34 Q QX) (LIX6_readRowOfFunctions I34) (some m) 34)) Q QX kX6_readRowOfFunctions 34 [(0, .ref 3), (2, .int x2), (3, .int x3)] [] σ := h
set_option maxRecDepth 50000 in
theorem rX6_readRowOfFunctions {Q : Option Value → zS → Prop} {QX : zS → Prop}  {σ : zS} (I34 : Nat → Int32 → Int32 → zS → Prop) (hs34 : ∀ (m : Nat) (x2 : Int32) (x3 : Int32) (σ : zS), I34 m x2 x3 σ → PX6_readRowOfFunctions_34 (fun y2 y3 τ => ∃ n', zlt n' (some m) ∧ I34 n' y2 y3 τ) Q QX x2 x3 σ) (h0 : PX6_readRowOfFunctions_0 (fun y2 y3 τ => ∃ n', zlt n' none ∧ I34 n' y2 y3 τ) Q QX  σ) : zCT zZC zmX6_readRowOfFunctions [.ref 3] σ Q QX := by
  refine zCT_of zZC_ok pnX6 (Nat.le_of_ble_eq_true rfl) kX6_readRowOfFunctions ksX6_readRowOfFunctions JX6_readRowOfFunctions 35 (fun t ht => ?_) hX6_readRowOfFunctions jnX6_readRowOfFunctions (JIX6_readRowOfFunctions I34 Q QX) (LIX6_readRowOfFunctions I34) (fun n t ln σ' ht hj hI => ?_) (fun m t ln σ' ht hj hI => ?_) (pX6_readRowOfFunctions_0 I34 Q QX  σ h0)
  · have et := Nat.eq_of_beq_eq_true ht; subst et
    exact Nat.le_of_ble_eq_true rfl
  · have et := Nat.eq_of_beq_eq_true ht; subst et
    cases hj
  · have et := Nat.eq_of_beq_eq_true ht; subst et
    have hI : LIX6_readRowOfFunctions I34 34 m ln σ' := hI
    obtain ⟨l0, e0, hI⟩ := zdR_e (i := 0) (q := 3) hI; subst e0
    obtain ⟨x2, l2, e2, hI⟩ := zdI_e (i := 2) hI; subst e2
    obtain ⟨x3, l3, e3, hI⟩ := zdI_e (i := 3) hI; subst e3
    obtain ⟨e, hI⟩ := zdN_e hI; subst e
    exact pX6_readRowOfFunctions_34 I34 Q QX m x2 x3 σ' (hs34 m x2 x3 σ' hI)
def JX6_readSignature : Nat → Bool := fun t => Nat.beq t 76 || Nat.beq t 130
def jnX6_readSignature : Nat → Bool := fun t => false && Nat.beq t 0
def hX6_readSignature : Nat → List Nat := fun t => bif Nat.beq t 76 then [0, 1, 2, 3] else bif Nat.beq t 130 then [0, 1, 3, 4] else []
def PX6_readSignature_130 (K76 : Int32 → Int32 → Int32 → zS → Prop) (K130 : Int32 → Int32 → Int32 → zS → Prop) (Q : Option Value → zS → Prop) (QX : zS → Prop) (x1 : Int32) (x3 : Int32) (x4 : Int32) (σ : zS) : Prop :=
  ((x3 ≤ x4 →
    Q none σ) ∧ (¬ x3 ≤ x4 →
    (((σ.1 1 4) = 0 →
      zCT zZC zmX6_refuseBeyond [.ref 3, .int x4, .int (1 : Int32)] σ (zQv (fun s1 =>
        zCT zZC zmX4_type [.ref 1] s1 (zQi (fun r3 s2 =>
          vp_in x1 64 ∧ ∀ s4 : zS, s4 = zsI s2 13 x1.toNatClampNeg r3 →
          K130 x1 x3 (x4 + 1) s4)) QX)) QX) ∧ (¬ (σ.1 1 4) = 0 →
      Q none σ))))
def PX6_readSignature_76 (K76 : Int32 → Int32 → Int32 → zS → Prop) (K130 : Int32 → Int32 → Int32 → zS → Prop) (Q : Option Value → zS → Prop) (QX : zS → Prop) (x1 : Int32) (x2 : Int32) (x3 : Int32) (σ : zS) : Prop :=
  ((x2 ≤ x3 →
    zCT zZC zmX4_rowLength [.ref 1] σ (zQi (fun r2 s1 =>
      K130 x1 r2 (0 : Int32) s1)) QX) ∧ (¬ x2 ≤ x3 →
    (((σ.1 1 4) = 0 →
      zCT zZC zmX6_refuseBeyond [.ref 3, .int x3, .int (16 : Int32)] σ (zQv (fun s3 =>
        zCT zZC zmX4_type [.ref 1] s3 (zQi (fun r5 s4 =>
          zCT zZC zmX2_addParameter [.ref 2, .int x3, .int r5] s4 (zQv (fun s6 =>
            K76 x1 x2 (x3 + 1) s6)) QX)) QX)) QX) ∧ (¬ (σ.1 1 4) = 0 →
      zCT zZC zmX4_rowLength [.ref 1] σ (zQi (fun r8 s7 =>
        K130 x1 r8 (0 : Int32) s7)) QX))))
def PX6_readSignature_0 (K76 : Int32 → Int32 → Int32 → zS → Prop) (K130 : Int32 → Int32 → Int32 → zS → Prop) (Q : Option Value → zS → Prop) (QX : zS → Prop)  (σ : zS) : Prop :=
  zCT zZC zmX4_octetWithin [.ref 1, .int (96 : Int32), .int (96 : Int32)] σ (zQi (fun r2 s1 =>
    vp_in (1 : Int32) 13 ∧
    (((s1.1 1 4) = 0 →
      (((s1.1 18 (1 : Int32).toNatClampNeg) < (nI 64) →
        vp_in (s1.1 18 (1 : Int32).toNatClampNeg) 64 ∧ ∀ s3 : zS, s3 = zsI s1 11 (s1.1 18 (1 : Int32).toNatClampNeg).toNatClampNeg (0 : Int32) →
        vp_in (s1.1 18 (1 : Int32).toNatClampNeg) 64 ∧ ∀ s4 : zS, s4 = zsI s3 13 (s1.1 18 (1 : Int32).toNatClampNeg).toNatClampNeg (64 : Int32) →
        zCT zZC zmX4_rowLength [.ref 1] s4 (zQi (fun r6 s5 =>
          K76 (s1.1 18 (1 : Int32).toNatClampNeg) r6 (0 : Int32) s5)) QX) ∧ (¬ (s1.1 18 (1 : Int32).toNatClampNeg) < (nI 64) →
        Q none s1))) ∧ (¬ (s1.1 1 4) = 0 →
      Q none s1)))) QX
def LIX6_readSignature (I76 : Nat → Int32 → Int32 → Int32 → zS → Prop) (I130 : Nat → Int32 → Int32 → Int32 → zS → Prop) : Nat → Nat → zLo → zS → Prop := fun t n l τ => bif Nat.beq t 76 then zdR 0 3 (zdI 1 (fun x1 => zdI 2 (fun x2 => zdI 3 (fun x3 => zdN (I76 n x1 x2 x3 τ))))) l else bif Nat.beq t 130 then zdR 0 3 (zdI 1 (fun x1 => zdI 3 (fun x3 => zdI 4 (fun x4 => zdN (I130 n x1 x3 x4 τ))))) l else False
def JIX6_readSignature (I76 : Nat → Int32 → Int32 → Int32 → zS → Prop) (I130 : Nat → Int32 → Int32 → Int32 → zS → Prop) (Q : Option Value → zS → Prop) (QX : zS → Prop) : Nat → Option Nat → zLo → zS → Prop := fun t n l τ => False
set_option maxRecDepth 50000 in
theorem pX6_readSignature_0 (I76 : Nat → Int32 → Int32 → Int32 → zS → Prop) (I130 : Nat → Int32 → Int32 → Int32 → zS → Prop) (Q : Option Value → zS → Prop) (QX : zS → Prop)   (σ : zS) (h : PX6_readSignature_0 (fun y1 y2 y3 τ => ∃ n', zlt n' none ∧ I76 n' y1 y2 y3 τ) (fun y1 y3 y4 τ => ∃ n', zlt n' none ∧ I130 n' y1 y3 y4 τ) Q QX  σ) : zwp JX6_readSignature (zB hX6_readSignature (zKt jnX6_readSignature (JIX6_readSignature I76 I130 Q QX) (LIX6_readSignature I76 I130) none 0)) Q QX kX6_readSignature 0 (lv_args 0 [.ref 3]) [] σ := h
set_option maxRecDepth 50000 in
theorem pX6_readSignature_76 (I76 : Nat → Int32 → Int32 → Int32 → zS → Prop) (I130 : Nat → Int32 → Int32 → Int32 → zS → Prop) (Q : Option Value → zS → Prop) (QX : zS → Prop) (m : Nat) (x1 : Int32) (x2 : Int32) (x3 : Int32) (σ : zS) (h : PX6_readSignature_76 (fun y1 y2 y3 τ => ∃ n', zlt n' (some m) ∧ I76 n' y1 y2 y3 τ) (fun y1 y3 y4 τ => ∃ n', zlt n' (some m) ∧ I130 n' y1 y3 y4 τ) Q QX x1 x2 x3 σ) : zwp JX6_readSignature (zB hX6_readSignature (zKt jnX6_readSignature (JIX6_readSignature I76 I130 Q QX) (LIX6_readSignature I76 I130) (some m) 76)) Q QX kX6_readSignature 76 [(0, .ref 3), (1, .int x1), (2, .int x2), (3, .int x3)] [] σ := h
set_option maxRecDepth 50000 in
theorem pX6_readSignature_130 (I76 : Nat → Int32 → Int32 → Int32 → zS → Prop) (I130 : Nat → Int32 → Int32 → Int32 → zS → Prop) (Q : Option Value → zS → Prop) (QX : zS → Prop) (m : Nat) (x1 : Int32) (x3 : Int32) (x4 : Int32) (σ : zS) (h : PX6_readSignature_130 (fun y1 y2 y3 τ => ∃ n', zlt n' (some m) ∧ I76 n' y1 y2 y3 τ) (fun y1 y3 y4 τ => ∃ n', zlt n' (some m) ∧ I130 n' y1 y3 y4 τ) Q QX x1 x3 x4 σ) : zwp JX6_readSignature (zB hX6_readSignature (zKt jnX6_readSignature (JIX6_readSignature I76 I130 Q QX) (LIX6_readSignature I76 I130) (some m) 130)) Q QX kX6_readSignature 130 [(0, .ref 3), (1, .int x1), (3, .int x3), (4, .int x4)] [] σ := h
set_option maxRecDepth 50000 in
theorem rX6_readSignature {Q : Option Value → zS → Prop} {QX : zS → Prop}  {σ : zS} (I76 : Nat → Int32 → Int32 → Int32 → zS → Prop) (I130 : Nat → Int32 → Int32 → Int32 → zS → Prop) (hs76 : ∀ (m : Nat) (x1 : Int32) (x2 : Int32) (x3 : Int32) (σ : zS), I76 m x1 x2 x3 σ → PX6_readSignature_76 (fun y1 y2 y3 τ => ∃ n', zlt n' (some m) ∧ I76 n' y1 y2 y3 τ) (fun y1 y3 y4 τ => ∃ n', zlt n' (some m) ∧ I130 n' y1 y3 y4 τ) Q QX x1 x2 x3 σ) (hs130 : ∀ (m : Nat) (x1 : Int32) (x3 : Int32) (x4 : Int32) (σ : zS), I130 m x1 x3 x4 σ → PX6_readSignature_130 (fun y1 y2 y3 τ => ∃ n', zlt n' (some m) ∧ I76 n' y1 y2 y3 τ) (fun y1 y3 y4 τ => ∃ n', zlt n' (some m) ∧ I130 n' y1 y3 y4 τ) Q QX x1 x3 x4 σ) (h0 : PX6_readSignature_0 (fun y1 y2 y3 τ => ∃ n', zlt n' none ∧ I76 n' y1 y2 y3 τ) (fun y1 y3 y4 τ => ∃ n', zlt n' none ∧ I130 n' y1 y3 y4 τ) Q QX  σ) : zCT zZC zmX6_readSignature [.ref 3] σ Q QX := by
  refine zCT_of zZC_ok pnX6 (Nat.le_of_ble_eq_true rfl) kX6_readSignature ksX6_readSignature JX6_readSignature 131 (fun t ht => ?_) hX6_readSignature jnX6_readSignature (JIX6_readSignature I76 I130 Q QX) (LIX6_readSignature I76 I130) (fun n t ln σ' ht hj hI => ?_) (fun m t ln σ' ht hj hI => ?_) (pX6_readSignature_0 I76 I130 Q QX  σ h0)
  · refine zor ht (fun ht => ?_) (fun ht => ?_)
    · skip
      have et := Nat.eq_of_beq_eq_true ht; subst et
      exact Nat.le_of_ble_eq_true rfl
    · skip
      have et := Nat.eq_of_beq_eq_true ht; subst et
      exact Nat.le_of_ble_eq_true rfl
  · refine zor ht (fun ht => ?_) (fun ht => ?_)
    · skip
      have et := Nat.eq_of_beq_eq_true ht; subst et
      cases hj
    · skip
      have et := Nat.eq_of_beq_eq_true ht; subst et
      cases hj
  · refine zor ht (fun ht => ?_) (fun ht => ?_)
    · skip
      have et := Nat.eq_of_beq_eq_true ht; subst et
      have hI : LIX6_readSignature I76 I130 76 m ln σ' := hI
      obtain ⟨l0, e0, hI⟩ := zdR_e (i := 0) (q := 3) hI; subst e0
      obtain ⟨x1, l1, e1, hI⟩ := zdI_e (i := 1) hI; subst e1
      obtain ⟨x2, l2, e2, hI⟩ := zdI_e (i := 2) hI; subst e2
      obtain ⟨x3, l3, e3, hI⟩ := zdI_e (i := 3) hI; subst e3
      obtain ⟨e, hI⟩ := zdN_e hI; subst e
      exact pX6_readSignature_76 I76 I130 Q QX m x1 x2 x3 σ' (hs76 m x1 x2 x3 σ' hI)
    · skip
      have et := Nat.eq_of_beq_eq_true ht; subst et
      have hI : LIX6_readSignature I76 I130 130 m ln σ' := hI
      obtain ⟨l0, e0, hI⟩ := zdR_e (i := 0) (q := 3) hI; subst e0
      obtain ⟨x1, l1, e1, hI⟩ := zdI_e (i := 1) hI; subst e1
      obtain ⟨x3, l3, e3, hI⟩ := zdI_e (i := 3) hI; subst e3
      obtain ⟨x4, l4, e4, hI⟩ := zdI_e (i := 4) hI; subst e4
      obtain ⟨e, hI⟩ := zdN_e hI; subst e
      exact pX6_readSignature_130 I76 I130 Q QX m x1 x3 x4 σ' (hs130 m x1 x3 x4 σ' hI)
def JX6_readTable : Nat → Bool := fun t => false && Nat.beq t 0
def jnX6_readTable : Nat → Bool := fun t => false && Nat.beq t 0
def hX6_readTable : Nat → List Nat := fun t => []
def PX6_readTable_0  (Q : Option Value → zS → Prop) (QX : zS → Prop)  (σ : zS) : Prop :=
  zCT zZC zmX6_addTable [.ref 3, .int (σ.1 1 2)] σ (zQv (fun s1 =>
    zCT zZC zmX4_octetWithin [.ref 1, .int (112 : Int32), .int (112 : Int32)] s1 (zQi (fun r3 s2 =>
      zCT zZC zmX6_readLimits [.ref 3, .int (3 : Int32), .int (0 : Int32)] s2 (zQv (fun s4 =>
        Q none s4)) QX)) QX)) QX
def LIX6_readTable  : Nat → Nat → zLo → zS → Prop := fun t n l τ => False
def JIX6_readTable  (Q : Option Value → zS → Prop) (QX : zS → Prop) : Nat → Option Nat → zLo → zS → Prop := fun t n l τ => False
set_option maxRecDepth 50000 in
theorem pX6_readTable_0  (Q : Option Value → zS → Prop) (QX : zS → Prop)   (σ : zS) (h : PX6_readTable_0  Q QX  σ) : zwp JX6_readTable (zB hX6_readTable (zKt jnX6_readTable (JIX6_readTable  Q QX) (LIX6_readTable ) none 0)) Q QX kX6_readTable 0 (lv_args 0 [.ref 3]) [] σ := h
set_option maxRecDepth 50000 in
theorem rX6_readTable {Q : Option Value → zS → Prop} {QX : zS → Prop}  {σ : zS}   (h0 : PX6_readTable_0  Q QX  σ) : zCT zZC zmX6_readTable [.ref 3] σ Q QX := by
  refine zCT_of zZC_ok pnX6 (Nat.le_of_ble_eq_true rfl) kX6_readTable ksX6_readTable JX6_readTable 1 (fun t ht => ?_) hX6_readTable jnX6_readTable (JIX6_readTable  Q QX) (LIX6_readTable ) (fun n t ln σ' ht hj hI => ?_) (fun m t ln σ' ht hj hI => ?_) (pX6_readTable_0  Q QX  σ h0)
  · cases ht
  · cases ht
  · cases ht
def JX1_readInstruction : Nat → Bool := fun t => false && Nat.beq t 0
def jnX1_readInstruction : Nat → Bool := fun t => false && Nat.beq t 0
def hX1_readInstruction : Nat → List Nat := fun t => []
def PX1_readInstruction_0  (Q : Option Value → zS → Prop) (QX : zS → Prop)  (σ : zS) : Prop :=
  zCT zZC zmX5_readNumber [.ref 6, .ref 1] σ (zQv (fun s1 =>
    zCT zZC zmX1_lookWhereItStands [.ref 4] s1 (zQv (fun s2 =>
      (((s2.1 6 3) = (14 : Int32) →
        zCT zZC zmX5_readLabels [.ref 6, .ref 1] s2 (zQv (fun s3 =>
          (((s3.1 1 4) = 0 →
            zCT zZC zmX0_addCode [.ref 8, .int (s3.1 6 3)] s3 (zQv (fun s4 =>
              (((s4.1 4 6) = 0 →
                zCT zZC zmX1_turnFrames [.ref 4] s4 (zQv (fun s5 =>
                  Q none s5)) QX) ∧ (¬ (s4.1 4 6) = 0 →
                zCT zZC zmX7_isRight [.ref 7, .ref 6] s4 (zQi (fun r7 s6 =>
                  ((r7 = 0 →
                    zCT zZC zmX2_noteWrong [.ref 2, .int (15 : Int32), .int (s6.1 6 2)] s6 (zQv (fun s8 =>
                      ((0 : Int32) = 0 ∨ (0 : Int32) = 1) ∧ ∀ s9 : zS, s9 = zsI s8 4 6 (0 : Int32) →
                      zCT zZC zmX1_turnFrames [.ref 4] s9 (zQv (fun s10 =>
                        Q none s10)) QX)) QX) ∧ (¬ r7 = 0 →
                    zCT zZC zmX1_turnFrames [.ref 4] s6 (zQv (fun s11 =>
                      Q none s11)) QX)))) QX)))) QX) ∧ (¬ (s3.1 1 4) = 0 →
            Q none s3)))) QX) ∧ (¬ (s2.1 6 3) = (14 : Int32) →
        zCT zZC zmX5_readArguments [.ref 6, .ref 1] s2 (zQv (fun s12 =>
          (((s12.1 1 4) = 0 →
            zCT zZC zmX0_addCode [.ref 8, .int (s12.1 6 3)] s12 (zQv (fun s13 =>
              (((s13.1 4 6) = 0 →
                zCT zZC zmX1_turnFrames [.ref 4] s13 (zQv (fun s14 =>
                  Q none s14)) QX) ∧ (¬ (s13.1 4 6) = 0 →
                zCT zZC zmX7_isRight [.ref 7, .ref 6] s13 (zQi (fun r16 s15 =>
                  ((r16 = 0 →
                    zCT zZC zmX2_noteWrong [.ref 2, .int (15 : Int32), .int (s15.1 6 2)] s15 (zQv (fun s17 =>
                      ((0 : Int32) = 0 ∨ (0 : Int32) = 1) ∧ ∀ s18 : zS, s18 = zsI s17 4 6 (0 : Int32) →
                      zCT zZC zmX1_turnFrames [.ref 4] s18 (zQv (fun s19 =>
                        Q none s19)) QX)) QX) ∧ (¬ r16 = 0 →
                    zCT zZC zmX1_turnFrames [.ref 4] s15 (zQv (fun s20 =>
                      Q none s20)) QX)))) QX)))) QX) ∧ (¬ (s12.1 1 4) = 0 →
            Q none s12)))) QX)))) QX)) QX
def LIX1_readInstruction  : Nat → Nat → zLo → zS → Prop := fun t n l τ => False
def JIX1_readInstruction  (Q : Option Value → zS → Prop) (QX : zS → Prop) : Nat → Option Nat → zLo → zS → Prop := fun t n l τ => False
set_option maxRecDepth 50000 in
theorem pX1_readInstruction_0  (Q : Option Value → zS → Prop) (QX : zS → Prop)   (σ : zS) (h : PX1_readInstruction_0  Q QX  σ) : zwp JX1_readInstruction (zB hX1_readInstruction (zKt jnX1_readInstruction (JIX1_readInstruction  Q QX) (LIX1_readInstruction ) none 0)) Q QX kX1_readInstruction 0 (lv_args 0 [.ref 4]) [] σ := h
set_option maxRecDepth 50000 in
theorem rX1_readInstruction {Q : Option Value → zS → Prop} {QX : zS → Prop}  {σ : zS}   (h0 : PX1_readInstruction_0  Q QX  σ) : zCT zZC zmX1_readInstruction [.ref 4] σ Q QX := by
  refine zCT_of zZC_ok pnX1 (Nat.le_of_ble_eq_true rfl) kX1_readInstruction ksX1_readInstruction JX1_readInstruction 1 (fun t ht => ?_) hX1_readInstruction jnX1_readInstruction (JIX1_readInstruction  Q QX) (LIX1_readInstruction ) (fun n t ln σ' ht hj hI => ?_) (fun m t ln σ' ht hj hI => ?_) (pX1_readInstruction_0  Q QX  σ h0)
  · cases ht
  · cases ht
  · cases ht
def JX6_readElement : Nat → Bool := fun t => false && Nat.beq t 0
def jnX6_readElement : Nat → Bool := fun t => false && Nat.beq t 0
def hX6_readElement : Nat → List Nat := fun t => []
def PX6_readElement_0  (Q : Option Value → zS → Prop) (QX : zS → Prop)  (σ : zS) : Prop :=
  zCT zZC zmX4_octet [.ref 1] σ (zQi (fun r2 s1 =>
    ((r2 = 0 →
      (((s1.1 2 10) = 0 →
        zCT zZC zmX2_noteWrong [.ref 2, .int (10 : Int32), .int (σ.1 1 2)] s1 (zQv (fun s3 =>
          zCT zZC zmX6_readConstant [.ref 3, .int (11 : Int32), .int (127 : Int32)] s3 (zQv (fun s4 =>
            zCT zZC zmX6_readRowOfFunctions [.ref 3] s4 (zQv (fun s5 =>
              Q none s5)) QX)) QX)) QX) ∧ (¬ (s1.1 2 10) = 0 →
        zCT zZC zmX6_readConstant [.ref 3, .int (11 : Int32), .int (127 : Int32)] s1 (zQv (fun s6 =>
          zCT zZC zmX6_readRowOfFunctions [.ref 3] s6 (zQv (fun s7 =>
            Q none s7)) QX)) QX))) ∧ (¬ r2 = 0 →
    ((zin r2 [1, 3] →
      zCT zZC zmX4_octetWithin [.ref 1, .int (0 : Int32), .int (0 : Int32)] s1 (zQi (fun r9 s8 =>
        zCT zZC zmX6_readRowOfFunctions [.ref 3] s8 (zQv (fun s10 =>
          Q none s10)) QX)) QX) ∧ (¬ zin r2 [1, 3] →
      zCT zZC zmX4_fail [.ref 1, .int (1 : Int32), .int (σ.1 1 2)] s1 (zQv (fun s11 =>
        zCT zZC zmX6_readRowOfFunctions [.ref 3] s11 (zQv (fun s12 =>
          Q none s12)) QX)) QX)))))) QX
def LIX6_readElement  : Nat → Nat → zLo → zS → Prop := fun t n l τ => False
def JIX6_readElement  (Q : Option Value → zS → Prop) (QX : zS → Prop) : Nat → Option Nat → zLo → zS → Prop := fun t n l τ => False
set_option maxRecDepth 50000 in
theorem pX6_readElement_0  (Q : Option Value → zS → Prop) (QX : zS → Prop)   (σ : zS) (h : PX6_readElement_0  Q QX  σ) : zwp JX6_readElement (zB hX6_readElement (zKt jnX6_readElement (JIX6_readElement  Q QX) (LIX6_readElement ) none 0)) Q QX kX6_readElement 0 (lv_args 0 [.ref 3]) [] σ := h
set_option maxRecDepth 50000 in
theorem rX6_readElement {Q : Option Value → zS → Prop} {QX : zS → Prop}  {σ : zS}   (h0 : PX6_readElement_0  Q QX  σ) : zCT zZC zmX6_readElement [.ref 3] σ Q QX := by
  refine zCT_of zZC_ok pnX6 (Nat.le_of_ble_eq_true rfl) kX6_readElement ksX6_readElement JX6_readElement 1 (fun t ht => ?_) hX6_readElement jnX6_readElement (JIX6_readElement  Q QX) (LIX6_readElement ) (fun n t ln σ' ht hj hI => ?_) (fun m t ln σ' ht hj hI => ?_) (pX6_readElement_0  Q QX  σ h0)
  · cases ht
  · cases ht
  · cases ht
def JX6_readExport : Nat → Bool := fun t => Nat.beq t 82 || Nat.beq t 101
def jnX6_readExport : Nat → Bool := fun t => Nat.beq t 82 || Nat.beq t 101
def hX6_readExport : Nat → List Nat := fun t => bif Nat.beq t 82 then [0, 1, 2, 3] else bif Nat.beq t 101 then [0, 2, 3] else []
def PX6_readExport_101  (Q : Option Value → zS → Prop) (QX : zS → Prop) (x2 : Int32) (x3 : Int32) (σ : zS) : Prop :=
  vp_in (7 : Int32) 13 ∧
  (((nI 64) ≤ (σ.1 18 (7 : Int32).toNatClampNeg) →
    Q none σ) ∧ (¬ (nI 64) ≤ (σ.1 18 (7 : Int32).toNatClampNeg) →
    vp_in (σ.1 18 (7 : Int32).toNatClampNeg) 64 ∧ ∀ s1 : zS, s1 = zsI σ 19 (σ.1 18 (7 : Int32).toNatClampNeg).toNatClampNeg x3 →
    vp_in (σ.1 18 (7 : Int32).toNatClampNeg) 64 ∧ ∀ s2 : zS, s2 = zsI s1 20 (σ.1 18 (7 : Int32).toNatClampNeg).toNatClampNeg x2 →
    Q none s2))
def PX6_readExport_82  (Q : Option Value → zS → Prop) (QX : zS → Prop) (x1 : Int32) (x2 : Int32) (x3 : Int32) (σ : zS) : Prop :=
  zCT zZC zmX6_isExported [.ref 3, .int x3, .int x2] σ (zQi (fun r2 s1 =>
    ((r2 = 0 →
      PX6_readExport_101 Q QX x2 x3 s1) ∧ (¬ r2 = 0 →
      zCT zZC zmX2_noteWrong [.ref 2, .int (8 : Int32), .int x1] s1 (zQv (fun s3 =>
        PX6_readExport_101 Q QX x2 x3 s3)) QX)))) QX
def PX6_readExport_0  (Q : Option Value → zS → Prop) (QX : zS → Prop)  (σ : zS) : Prop :=
  zCT zZC zmX4_outerName [.ref 1] σ (zQi (fun r2 s1 =>
    zCT zZC zmX4_octetWithin [.ref 1, .int (0 : Int32), .int (3 : Int32)] s1 (zQi (fun r4 s3 =>
      zCT zZC zmX4_number [.ref 1] s3 (zQl (fun r6 s5 =>
        zCT zZC zmX2_countOfKind [.ref 2, .int r4] s5 (zQi (fun r8 s7 =>
          ((r6 < (r8.toInt64) →
            PX6_readExport_82 Q QX (σ.1 1 2) r2 ((s1.1 1 2) - r2) s7) ∧ (¬ r6 < (r8.toInt64) →
            zCT zZC zmX2_noteWrong [.ref 2, .int (7 : Int32), .int (s3.1 1 2)] s7 (zQv (fun s9 =>
              PX6_readExport_82 Q QX (σ.1 1 2) r2 ((s1.1 1 2) - r2) s9)) QX)))) QX)) QX)) QX)) QX
def LIX6_readExport  : Nat → Nat → zLo → zS → Prop := fun t n l τ => False
def JIX6_readExport  (Q : Option Value → zS → Prop) (QX : zS → Prop) : Nat → Option Nat → zLo → zS → Prop := fun t n l τ => bif Nat.beq t 82 then zdR 0 3 (zdI 1 (fun x1 => zdI 2 (fun x2 => zdI 3 (fun x3 => zdN (PX6_readExport_82  Q QX x1 x2 x3 τ))))) l else bif Nat.beq t 101 then zdR 0 3 (zdI 2 (fun x2 => zdI 3 (fun x3 => zdN (PX6_readExport_101  Q QX x2 x3 τ)))) l else False
set_option maxRecDepth 50000 in
theorem pX6_readExport_0  (Q : Option Value → zS → Prop) (QX : zS → Prop)   (σ : zS) (h : PX6_readExport_0  Q QX  σ) : zwp JX6_readExport (zB hX6_readExport (zKt jnX6_readExport (JIX6_readExport  Q QX) (LIX6_readExport ) none 0)) Q QX kX6_readExport 0 (lv_args 0 [.ref 3]) [] σ := h
set_option maxRecDepth 50000 in
theorem pX6_readExport_82  (Q : Option Value → zS → Prop) (QX : zS → Prop) (n : Option Nat) (x1 : Int32) (x2 : Int32) (x3 : Int32) (σ : zS) (h : PX6_readExport_82  Q QX x1 x2 x3 σ) : zwp JX6_readExport (zB hX6_readExport (zKt jnX6_readExport (JIX6_readExport  Q QX) (LIX6_readExport ) n 82)) Q QX kX6_readExport 82 [(0, .ref 3), (1, .int x1), (2, .int x2), (3, .int x3)] [] σ := h
set_option maxRecDepth 50000 in
theorem pX6_readExport_101  (Q : Option Value → zS → Prop) (QX : zS → Prop) (n : Option Nat) (x2 : Int32) (x3 : Int32) (σ : zS) (h : PX6_readExport_101  Q QX x2 x3 σ) : zwp JX6_readExport (zB hX6_readExport (zKt jnX6_readExport (JIX6_readExport  Q QX) (LIX6_readExport ) n 101)) Q QX kX6_readExport 101 [(0, .ref 3), (2, .int x2), (3, .int x3)] [] σ := h
set_option maxRecDepth 50000 in
theorem rX6_readExport {Q : Option Value → zS → Prop} {QX : zS → Prop}  {σ : zS}   (h0 : PX6_readExport_0  Q QX  σ) : zCT zZC zmX6_readExport [.ref 3] σ Q QX := by
  refine zCT_of zZC_ok pnX6 (Nat.le_of_ble_eq_true rfl) kX6_readExport ksX6_readExport JX6_readExport 102 (fun t ht => ?_) hX6_readExport jnX6_readExport (JIX6_readExport  Q QX) (LIX6_readExport ) (fun n t ln σ' ht hj hI => ?_) (fun m t ln σ' ht hj hI => ?_) (pX6_readExport_0  Q QX  σ h0)
  · refine zor ht (fun ht => ?_) (fun ht => ?_)
    · skip
      have et := Nat.eq_of_beq_eq_true ht; subst et
      exact Nat.le_of_ble_eq_true rfl
    · skip
      have et := Nat.eq_of_beq_eq_true ht; subst et
      exact Nat.le_of_ble_eq_true rfl
  · refine zor ht (fun ht => ?_) (fun ht => ?_)
    · skip
      have et := Nat.eq_of_beq_eq_true ht; subst et
      have hI : JIX6_readExport  Q QX 82 n ln σ' := hI
      obtain ⟨l0, e0, hI⟩ := zdR_e (i := 0) (q := 3) hI; subst e0
      obtain ⟨x1, l1, e1, hI⟩ := zdI_e (i := 1) hI; subst e1
      obtain ⟨x2, l2, e2, hI⟩ := zdI_e (i := 2) hI; subst e2
      obtain ⟨x3, l3, e3, hI⟩ := zdI_e (i := 3) hI; subst e3
      obtain ⟨e, hI⟩ := zdN_e hI; subst e
      exact pX6_readExport_82  Q QX n x1 x2 x3 σ' hI
    · skip
      have et := Nat.eq_of_beq_eq_true ht; subst et
      have hI : JIX6_readExport  Q QX 101 n ln σ' := hI
      obtain ⟨l0, e0, hI⟩ := zdR_e (i := 0) (q := 3) hI; subst e0
      obtain ⟨x2, l2, e2, hI⟩ := zdI_e (i := 2) hI; subst e2
      obtain ⟨x3, l3, e3, hI⟩ := zdI_e (i := 3) hI; subst e3
      obtain ⟨e, hI⟩ := zdN_e hI; subst e
      exact pX6_readExport_101  Q QX n x2 x3 σ' hI
  · refine zor ht (fun ht => ?_) (fun ht => ?_)
    · skip
      have et := Nat.eq_of_beq_eq_true ht; subst et
      cases hj
    · skip
      have et := Nat.eq_of_beq_eq_true ht; subst et
      cases hj
def JX6_readImport : Nat → Bool := fun t => false && Nat.beq t 0
def jnX6_readImport : Nat → Bool := fun t => false && Nat.beq t 0
def hX6_readImport : Nat → List Nat := fun t => []
def PX6_readImport_0  (Q : Option Value → zS → Prop) (QX : zS → Prop)  (σ : zS) : Prop :=
  zCT zZC zmX4_outerName [.ref 1] σ (zQi (fun r2 s1 =>
    zCT zZC zmX4_outerName [.ref 1] s1 (zQi (fun r4 s3 =>
      zCT zZC zmX4_octetWithin [.ref 1, .int (0 : Int32), .int (3 : Int32)] s3 (zQi (fun r6 s5 =>
        ((r6 = 0 →
          zCT zZC zmX6_readSignatureOfFunction [.ref 3, .int (0 : Int32)] s5 (zQv (fun s7 =>
            ∀ s8 : zS, s8 = zsI s7 2 9 ((s7.1 2 9) + (1 : Int32)) →
            Q none s8)) QX) ∧ (¬ r6 = 0 →
        ((r6 = 1 →
          zCT zZC zmX4_octetWithin [.ref 1, .int (112 : Int32), .int (112 : Int32)] s5 (zQi (fun r10 s9 =>
            zCT zZC zmX6_readLimits [.ref 3, .int (0 : Int32), .int (0 : Int32)] s9 (zQv (fun s11 =>
              zCT zZC zmX6_addTable [.ref 3, .int (σ.1 1 2)] s11 (zQv (fun s12 =>
                Q none s12)) QX)) QX)) QX) ∧ (¬ r6 = 1 →
        ((r6 = 2 →
          zCT zZC zmX6_readLimits [.ref 3, .int (0 : Int32), .int (1 : Int32)] s5 (zQv (fun s13 =>
            zCT zZC zmX6_addMemory [.ref 3, .int (σ.1 1 2)] s13 (zQv (fun s14 =>
              Q none s14)) QX)) QX) ∧ (¬ r6 = 2 →
          zCT zZC zmX4_type [.ref 1] s5 (zQi (fun r16 s15 =>
            zCT zZC zmX4_octetWithin [.ref 1, .int (0 : Int32), .int (1 : Int32)] s15 (zQi (fun r18 s17 =>
              ((r18 = (1 : Int32) →
                zCT zZC zmX2_addGlobal [.ref 2, .int r16, .int (1 : Int32)] s17 (zQv (fun s19 =>
                  ∀ s20 : zS, s20 = zsI s19 2 13 ((s19.1 2 13) + (1 : Int32)) →
                  Q none s20)) QX) ∧ (¬ r18 = (1 : Int32) →
                zCT zZC zmX2_addGlobal [.ref 2, .int r16, .int (0 : Int32)] s17 (zQv (fun s21 =>
                  ∀ s22 : zS, s22 = zsI s21 2 13 ((s21.1 2 13) + (1 : Int32)) →
                  Q none s22)) QX)))) QX)) QX)))))))) QX)) QX)) QX
def LIX6_readImport  : Nat → Nat → zLo → zS → Prop := fun t n l τ => False
def JIX6_readImport  (Q : Option Value → zS → Prop) (QX : zS → Prop) : Nat → Option Nat → zLo → zS → Prop := fun t n l τ => False
set_option maxRecDepth 50000 in
theorem pX6_readImport_0  (Q : Option Value → zS → Prop) (QX : zS → Prop)   (σ : zS) (h : PX6_readImport_0  Q QX  σ) : zwp JX6_readImport (zB hX6_readImport (zKt jnX6_readImport (JIX6_readImport  Q QX) (LIX6_readImport ) none 0)) Q QX kX6_readImport 0 (lv_args 0 [.ref 3]) [] σ := h
set_option maxRecDepth 50000 in
theorem rX6_readImport {Q : Option Value → zS → Prop} {QX : zS → Prop}  {σ : zS}   (h0 : PX6_readImport_0  Q QX  σ) : zCT zZC zmX6_readImport [.ref 3] σ Q QX := by
  refine zCT_of zZC_ok pnX6 (Nat.le_of_ble_eq_true rfl) kX6_readImport ksX6_readImport JX6_readImport 1 (fun t ht => ?_) hX6_readImport jnX6_readImport (JIX6_readImport  Q QX) (LIX6_readImport ) (fun n t ln σ' ht hj hI => ?_) (fun m t ln σ' ht hj hI => ?_) (pX6_readImport_0  Q QX  σ h0)
  · cases ht
  · cases ht
  · cases ht
def JX1_readBody : Nat → Bool := fun t => Nat.beq t 65
def jnX1_readBody : Nat → Bool := fun t => false && Nat.beq t 0
def hX1_readBody : Nat → List Nat := fun t => bif Nat.beq t 65 then [0, 1, 2, 4] else []
def PX1_readBody_65 (K65 : Int32 → Int32 → Int32 → zS → Prop) (Q : Option Value → zS → Prop) (QX : zS → Prop) (x1 : Int32) (x2 : Int32) (x4 : Int32) (σ : zS) : Prop :=
  (((16000 : Int32) ≤ x4 →
    zCT zZC zmX0_endBody [.ref 8, .int x1] σ (zQv (fun s1 =>
      zCT zZC zmX4_leave [.ref 1, .int x2] s1 (zQv (fun s2 =>
        Q none s2)) QX)) QX) ∧ (¬ (16000 : Int32) ≤ x4 →
    (((σ.1 5 5) < 0 →
      zCT zZC zmX0_endBody [.ref 8, .int x1] σ (zQv (fun s3 =>
        zCT zZC zmX4_leave [.ref 1, .int x2] s3 (zQv (fun s4 =>
          Q none s4)) QX)) QX) ∧ (¬ (σ.1 5 5) < 0 →
      (((σ.1 1 4) = 0 →
        zCT zZC zmX1_readInstruction [.ref 4] σ (zQv (fun s5 =>
          K65 x1 x2 (x4 + 1) s5)) QX) ∧ (¬ (σ.1 1 4) = 0 →
        zCT zZC zmX0_endBody [.ref 8, .int x1] σ (zQv (fun s6 =>
          zCT zZC zmX4_leave [.ref 1, .int x2] s6 (zQv (fun s7 =>
            Q none s7)) QX)) QX))))))
def PX1_readBody_0 (K65 : Int32 → Int32 → Int32 → zS → Prop) (Q : Option Value → zS → Prop) (QX : zS → Prop) (a1 : Int32) (σ : zS) : Prop :=
  zCT zZC zmX4_enter [.ref 1] σ (zQi (fun r2 s1 =>
    zCT zZC zmX2_signatureOf [.ref 2, .long (((s1.1 2 9) + a1).toInt64)] s1 (zQi (fun r4 s3 =>
      ((0 ≤ r4 →
        zCT zZC zmX7_begin [.ref 7, .int r4] s3 (zQv (fun s5 =>
          zCT zZC zmX1_readGroups [.ref 4] s5 (zQv (fun s6 =>
            zCT zZC zmX0_beginBody [.ref 8, .int a1, .int (s6.1 7 3)] s6 (zQv (fun s7 =>
              K65 a1 r2 (0 : Int32) s7)) QX)) QX)) QX) ∧ (¬ 0 ≤ r4 →
        ((0 : Int32) = 0 ∨ (0 : Int32) = 1) ∧ ∀ s8 : zS, s8 = zsI s3 4 6 (0 : Int32) →
        zCT zZC zmX7_begin [.ref 7, .int r4] s8 (zQv (fun s9 =>
          zCT zZC zmX1_readGroups [.ref 4] s9 (zQv (fun s10 =>
            zCT zZC zmX0_beginBody [.ref 8, .int a1, .int (s10.1 7 3)] s10 (zQv (fun s11 =>
              K65 a1 r2 (0 : Int32) s11)) QX)) QX)) QX)))) QX)) QX
def LIX1_readBody (I65 : Nat → Int32 → Int32 → Int32 → zS → Prop) : Nat → Nat → zLo → zS → Prop := fun t n l τ => bif Nat.beq t 65 then zdR 0 4 (zdI 1 (fun x1 => zdI 2 (fun x2 => zdI 4 (fun x4 => zdN (I65 n x1 x2 x4 τ))))) l else False
def JIX1_readBody (I65 : Nat → Int32 → Int32 → Int32 → zS → Prop) (Q : Option Value → zS → Prop) (QX : zS → Prop) : Nat → Option Nat → zLo → zS → Prop := fun t n l τ => False
set_option maxRecDepth 50000 in
theorem pX1_readBody_0 (I65 : Nat → Int32 → Int32 → Int32 → zS → Prop) (Q : Option Value → zS → Prop) (QX : zS → Prop)  (a1 : Int32) (σ : zS) (h : PX1_readBody_0 (fun y1 y2 y4 τ => ∃ n', zlt n' none ∧ I65 n' y1 y2 y4 τ) Q QX a1 σ) : zwp JX1_readBody (zB hX1_readBody (zKt jnX1_readBody (JIX1_readBody I65 Q QX) (LIX1_readBody I65) none 0)) Q QX kX1_readBody 0 (lv_args 0 [.ref 4, .int a1]) [] σ := h
set_option maxRecDepth 50000 in
theorem pX1_readBody_65 (I65 : Nat → Int32 → Int32 → Int32 → zS → Prop) (Q : Option Value → zS → Prop) (QX : zS → Prop) (m : Nat) (x1 : Int32) (x2 : Int32) (x4 : Int32) (σ : zS) (h : PX1_readBody_65 (fun y1 y2 y4 τ => ∃ n', zlt n' (some m) ∧ I65 n' y1 y2 y4 τ) Q QX x1 x2 x4 σ) : zwp JX1_readBody (zB hX1_readBody (zKt jnX1_readBody (JIX1_readBody I65 Q QX) (LIX1_readBody I65) (some m) 65)) Q QX kX1_readBody 65 [(0, .ref 4), (1, .int x1), (2, .int x2), (4, .int x4)] [] σ := h
set_option maxRecDepth 50000 in
theorem rX1_readBody {Q : Option Value → zS → Prop} {QX : zS → Prop} {a1 : Int32} {σ : zS} (I65 : Nat → Int32 → Int32 → Int32 → zS → Prop) (hs65 : ∀ (m : Nat) (x1 : Int32) (x2 : Int32) (x4 : Int32) (σ : zS), I65 m x1 x2 x4 σ → PX1_readBody_65 (fun y1 y2 y4 τ => ∃ n', zlt n' (some m) ∧ I65 n' y1 y2 y4 τ) Q QX x1 x2 x4 σ) (h0 : PX1_readBody_0 (fun y1 y2 y4 τ => ∃ n', zlt n' none ∧ I65 n' y1 y2 y4 τ) Q QX a1 σ) : zCT zZC zmX1_readBody [.ref 4, .int a1] σ Q QX := by
  refine zCT_of zZC_ok pnX1 (Nat.le_of_ble_eq_true rfl) kX1_readBody ksX1_readBody JX1_readBody 66 (fun t ht => ?_) hX1_readBody jnX1_readBody (JIX1_readBody I65 Q QX) (LIX1_readBody I65) (fun n t ln σ' ht hj hI => ?_) (fun m t ln σ' ht hj hI => ?_) (pX1_readBody_0 I65 Q QX a1 σ h0)
  · have et := Nat.eq_of_beq_eq_true ht; subst et
    exact Nat.le_of_ble_eq_true rfl
  · have et := Nat.eq_of_beq_eq_true ht; subst et
    cases hj
  · have et := Nat.eq_of_beq_eq_true ht; subst et
    have hI : LIX1_readBody I65 65 m ln σ' := hI
    obtain ⟨l0, e0, hI⟩ := zdR_e (i := 0) (q := 4) hI; subst e0
    obtain ⟨x1, l1, e1, hI⟩ := zdI_e (i := 1) hI; subst e1
    obtain ⟨x2, l2, e2, hI⟩ := zdI_e (i := 2) hI; subst e2
    obtain ⟨x4, l4, e4, hI⟩ := zdI_e (i := 4) hI; subst e4
    obtain ⟨e, hI⟩ := zdN_e hI; subst e
    exact pX1_readBody_65 I65 Q QX m x1 x2 x4 σ' (hs65 m x1 x2 x4 σ' hI)
def JX6_readSection : Nat → Bool := fun t => Nat.beq t 35 || Nat.beq t 239 || Nat.beq t 258
def jnX6_readSection : Nat → Bool := fun t => Nat.beq t 239 || Nat.beq t 258
def hX6_readSection : Nat → List Nat := fun t => bif Nat.beq t 35 then [0, 1, 2, 3, 4] else bif Nat.beq t 239 then [0, 1, 2, 3, 4] else bif Nat.beq t 258 then [0, 1, 2] else []
def PX6_readSection_258 (K35 : Int32 → Int32 → Int32 → Int32 → zS → Prop) (Q : Option Value → zS → Prop) (QX : zS → Prop) (x1 : Int32) (x2 : Int32) (σ : zS) : Prop :=
  zCT zZC zmX4_leave [.ref 1, .int x2] σ (zQv (fun s1 =>
    zCT zZC zmX6_fit [.ref 3, .int x1] s1 (zQv (fun s2 =>
      Q none s2)) QX)) QX
def PX6_readSection_239 (K35 : Int32 → Int32 → Int32 → Int32 → zS → Prop) (Q : Option Value → zS → Prop) (QX : zS → Prop) (x1 : Int32) (x2 : Int32) (x3 : Int32) (x4 : Int32) (σ : zS) : Prop :=
  vp_in x1 13 ∧
  vp_in x1 13 ∧ ∀ s1 : zS, s1 = zsI σ 18 x1.toNatClampNeg ((σ.1 18 x1.toNatClampNeg) + (1 : Int32)) →
  K35 x1 x2 x3 (x4 + 1) s1
def PX6_readSection_35 (K35 : Int32 → Int32 → Int32 → Int32 → zS → Prop) (Q : Option Value → zS → Prop) (QX : zS → Prop) (x1 : Int32) (x2 : Int32) (x3 : Int32) (x4 : Int32) (σ : zS) : Prop :=
  ((x3 ≤ x4 →
    PX6_readSection_258 K35 Q QX x1 x2 σ) ∧ (¬ x3 ≤ x4 →
    (((σ.1 1 4) = 0 →
      vp_in x1 zt_MOST_ITEMS_n ∧
      zCT zZC zmX6_refuseBeyond [.ref 3, .int x4, .int (zt_MOST_ITEMS_f x1.toNatClampNeg)] σ (zQv (fun s1 =>
        ((x1 = 1 →
          zCT zZC zmX6_readSignature [.ref 3] s1 (zQv (fun s2 =>
            PX6_readSection_239 K35 Q QX x1 x2 x3 x4 s2)) QX) ∧ (¬ x1 = 1 →
        ((x1 = 2 →
          zCT zZC zmX6_readImport [.ref 3] s1 (zQv (fun s3 =>
            PX6_readSection_239 K35 Q QX x1 x2 x3 x4 s3)) QX) ∧ (¬ x1 = 2 →
        ((x1 = 3 →
          zCT zZC zmX6_readSignatureOfFunction [.ref 3, .int (1 : Int32)] s1 (zQv (fun s4 =>
            PX6_readSection_239 K35 Q QX x1 x2 x3 x4 s4)) QX) ∧ (¬ x1 = 3 →
        ((x1 = 4 →
          zCT zZC zmX6_readTable [.ref 3] s1 (zQv (fun s5 =>
            PX6_readSection_239 K35 Q QX x1 x2 x3 x4 s5)) QX) ∧ (¬ x1 = 4 →
        ((x1 = 5 →
          zCT zZC zmX6_readMemory [.ref 3] s1 (zQv (fun s6 =>
            PX6_readSection_239 K35 Q QX x1 x2 x3 x4 s6)) QX) ∧ (¬ x1 = 5 →
        ((x1 = 6 →
          zCT zZC zmX6_readGlobal [.ref 3] s1 (zQv (fun s7 =>
            PX6_readSection_239 K35 Q QX x1 x2 x3 x4 s7)) QX) ∧ (¬ x1 = 6 →
        ((x1 = 7 →
          zCT zZC zmX6_readExport [.ref 3] s1 (zQv (fun s8 =>
            PX6_readSection_239 K35 Q QX x1 x2 x3 x4 s8)) QX) ∧ (¬ x1 = 7 →
        ((x1 = 8 →
          zCT zZC zmX6_readStart [.ref 3] s1 (zQv (fun s9 =>
            PX6_readSection_239 K35 Q QX x1 x2 x3 x4 s9)) QX) ∧ (¬ x1 = 8 →
        ((x1 = 9 →
          zCT zZC zmX6_readElement [.ref 3] s1 (zQv (fun s10 =>
            PX6_readSection_239 K35 Q QX x1 x2 x3 x4 s10)) QX) ∧ (¬ x1 = 9 →
        ((x1 = 10 →
          zCT zZC zmX1_readBody [.ref 4, .int x4] s1 (zQv (fun s11 =>
            PX6_readSection_239 K35 Q QX x1 x2 x3 x4 s11)) QX) ∧ (¬ x1 = 10 →
        ((x1 = 11 →
          zCT zZC zmX6_readData [.ref 3] s1 (zQv (fun s12 =>
            PX6_readSection_239 K35 Q QX x1 x2 x3 x4 s12)) QX) ∧ (¬ x1 = 11 →
        ((x1 = 12 →
          zCT zZC zmX4_number [.ref 1] s1 (zQl (fun r14 s13 =>
            ∀ s15 : zS, s15 = zsL s13 2 14 r14 →
            PX6_readSection_239 K35 Q QX x1 x2 x3 x4 s15)) QX) ∧ (¬ x1 = 12 →
          zCT zZC zmX4_name [.ref 1] s1 (zQi (fun r17 s16 =>
            zCT zZC zmX4_skipRest [.ref 1] s16 (zQv (fun s18 =>
              PX6_readSection_239 K35 Q QX x1 x2 x3 x4 s18)) QX)) QX)))))))))))))))))))))))))) QX) ∧ (¬ (σ.1 1 4) = 0 →
      PX6_readSection_258 K35 Q QX x1 x2 σ))))
def PX6_readSection_0 (K35 : Int32 → Int32 → Int32 → Int32 → zS → Prop) (Q : Option Value → zS → Prop) (QX : zS → Prop)  (σ : zS) : Prop :=
  zCT zZC zmX6_readSectionNumber [.ref 3] σ (zQi (fun r2 s1 =>
    zCT zZC zmX4_enter [.ref 1] s1 (zQi (fun r4 s3 =>
      zCT zZC zmX6_isRow [.int r2] s3 (zQi (fun r6 s5 =>
        ((r6 = 0 →
          K35 r2 r4 (1 : Int32) (0 : Int32) s5) ∧ (¬ r6 = 0 →
          zCT zZC zmX4_rowLength [.ref 1] s5 (zQi (fun r8 s7 =>
            K35 r2 r4 r8 (0 : Int32) s7)) QX)))) QX)) QX)) QX
def LIX6_readSection (I35 : Nat → Int32 → Int32 → Int32 → Int32 → zS → Prop) : Nat → Nat → zLo → zS → Prop := fun t n l τ => bif Nat.beq t 35 then zdR 0 3 (zdI 1 (fun x1 => zdI 2 (fun x2 => zdI 3 (fun x3 => zdI 4 (fun x4 => zdN (I35 n x1 x2 x3 x4 τ)))))) l else False
def JIX6_readSection (I35 : Nat → Int32 → Int32 → Int32 → Int32 → zS → Prop) (Q : Option Value → zS → Prop) (QX : zS → Prop) : Nat → Option Nat → zLo → zS → Prop := fun t n l τ => bif Nat.beq t 239 then zdR 0 3 (zdI 1 (fun x1 => zdI 2 (fun x2 => zdI 3 (fun x3 => zdI 4 (fun x4 => zdN (PX6_readSection_239 (fun y1 y2 y3 y4 τ => ∃ n', zlt n' n ∧ I35 n' y1 y2 y3 y4 τ) Q QX x1 x2 x3 x4 τ)))))) l else bif Nat.beq t 258 then zdR 0 3 (zdI 1 (fun x1 => zdI 2 (fun x2 => zdN (PX6_readSection_258 (fun y1 y2 y3 y4 τ => ∃ n', zlt n' n ∧ I35 n' y1 y2 y3 y4 τ) Q QX x1 x2 τ)))) l else False
set_option maxRecDepth 50000 in
theorem pX6_readSection_0 (I35 : Nat → Int32 → Int32 → Int32 → Int32 → zS → Prop) (Q : Option Value → zS → Prop) (QX : zS → Prop)   (σ : zS) (h : PX6_readSection_0 (fun y1 y2 y3 y4 τ => ∃ n', zlt n' none ∧ I35 n' y1 y2 y3 y4 τ) Q QX  σ) : zwp JX6_readSection (zB hX6_readSection (zKt jnX6_readSection (JIX6_readSection I35 Q QX) (LIX6_readSection I35) none 0)) Q QX kX6_readSection 0 (lv_args 0 [.ref 3]) [] σ := h
set_option maxRecDepth 50000 in
theorem pX6_readSection_35 (I35 : Nat → Int32 → Int32 → Int32 → Int32 → zS → Prop) (Q : Option Value → zS → Prop) (QX : zS → Prop) (m : Nat) (x1 : Int32) (x2 : Int32) (x3 : Int32) (x4 : Int32) (σ : zS) (h : PX6_readSection_35 (fun y1 y2 y3 y4 τ => ∃ n', zlt n' (some m) ∧ I35 n' y1 y2 y3 y4 τ) Q QX x1 x2 x3 x4 σ) : zwp JX6_readSection (zB hX6_readSection (zKt jnX6_readSection (JIX6_readSection I35 Q QX) (LIX6_readSection I35) (some m) 35)) Q QX kX6_readSection 35 [(0, .ref 3), (1, .int x1), (2, .int x2), (3, .int x3), (4, .int x4)] [] σ := h
set_option maxRecDepth 50000 in
theorem pX6_readSection_239 (I35 : Nat → Int32 → Int32 → Int32 → Int32 → zS → Prop) (Q : Option Value → zS → Prop) (QX : zS → Prop) (n : Option Nat) (x1 : Int32) (x2 : Int32) (x3 : Int32) (x4 : Int32) (σ : zS) (h : PX6_readSection_239 (fun y1 y2 y3 y4 τ => ∃ n', zlt n' n ∧ I35 n' y1 y2 y3 y4 τ) Q QX x1 x2 x3 x4 σ) : zwp JX6_readSection (zB hX6_readSection (zKt jnX6_readSection (JIX6_readSection I35 Q QX) (LIX6_readSection I35) n 239)) Q QX kX6_readSection 239 [(0, .ref 3), (1, .int x1), (2, .int x2), (3, .int x3), (4, .int x4)] [] σ := h
set_option maxRecDepth 50000 in
theorem pX6_readSection_258 (I35 : Nat → Int32 → Int32 → Int32 → Int32 → zS → Prop) (Q : Option Value → zS → Prop) (QX : zS → Prop) (n : Option Nat) (x1 : Int32) (x2 : Int32) (σ : zS) (h : PX6_readSection_258 (fun y1 y2 y3 y4 τ => ∃ n', zlt n' n ∧ I35 n' y1 y2 y3 y4 τ) Q QX x1 x2 σ) : zwp JX6_readSection (zB hX6_readSection (zKt jnX6_readSection (JIX6_readSection I35 Q QX) (LIX6_readSection I35) n 258)) Q QX kX6_readSection 258 [(0, .ref 3), (1, .int x1), (2, .int x2)] [] σ := h
set_option maxRecDepth 50000 in
theorem rX6_readSection {Q : Option Value → zS → Prop} {QX : zS → Prop}  {σ : zS} (I35 : Nat → Int32 → Int32 → Int32 → Int32 → zS → Prop) (hs35 : ∀ (m : Nat) (x1 : Int32) (x2 : Int32) (x3 : Int32) (x4 : Int32) (σ : zS), I35 m x1 x2 x3 x4 σ → PX6_readSection_35 (fun y1 y2 y3 y4 τ => ∃ n', zlt n' (some m) ∧ I35 n' y1 y2 y3 y4 τ) Q QX x1 x2 x3 x4 σ) (h0 : PX6_readSection_0 (fun y1 y2 y3 y4 τ => ∃ n', zlt n' none ∧ I35 n' y1 y2 y3 y4 τ) Q QX  σ) : zCT zZC zmX6_readSection [.ref 3] σ Q QX := by
  refine zCT_of zZC_ok pnX6 (Nat.le_of_ble_eq_true rfl) kX6_readSection ksX6_readSection JX6_readSection 259 (fun t ht => ?_) hX6_readSection jnX6_readSection (JIX6_readSection I35 Q QX) (LIX6_readSection I35) (fun n t ln σ' ht hj hI => ?_) (fun m t ln σ' ht hj hI => ?_) (pX6_readSection_0 I35 Q QX  σ h0)
  · refine zor ht (fun ht => ?_) (fun ht => ?_)
    · skip
      refine zor ht (fun ht => ?_) (fun ht => ?_)
      · skip
        have et := Nat.eq_of_beq_eq_true ht; subst et
        exact Nat.le_of_ble_eq_true rfl
      · skip
        have et := Nat.eq_of_beq_eq_true ht; subst et
        exact Nat.le_of_ble_eq_true rfl
    · skip
      have et := Nat.eq_of_beq_eq_true ht; subst et
      exact Nat.le_of_ble_eq_true rfl
  · refine zor ht (fun ht => ?_) (fun ht => ?_)
    · skip
      refine zor ht (fun ht => ?_) (fun ht => ?_)
      · skip
        have et := Nat.eq_of_beq_eq_true ht; subst et
        cases hj
      · skip
        have et := Nat.eq_of_beq_eq_true ht; subst et
        have hI : JIX6_readSection I35 Q QX 239 n ln σ' := hI
        obtain ⟨l0, e0, hI⟩ := zdR_e (i := 0) (q := 3) hI; subst e0
        obtain ⟨x1, l1, e1, hI⟩ := zdI_e (i := 1) hI; subst e1
        obtain ⟨x2, l2, e2, hI⟩ := zdI_e (i := 2) hI; subst e2
        obtain ⟨x3, l3, e3, hI⟩ := zdI_e (i := 3) hI; subst e3
        obtain ⟨x4, l4, e4, hI⟩ := zdI_e (i := 4) hI; subst e4
        obtain ⟨e, hI⟩ := zdN_e hI; subst e
        exact pX6_readSection_239 I35 Q QX n x1 x2 x3 x4 σ' hI
    · skip
      have et := Nat.eq_of_beq_eq_true ht; subst et
      have hI : JIX6_readSection I35 Q QX 258 n ln σ' := hI
      obtain ⟨l0, e0, hI⟩ := zdR_e (i := 0) (q := 3) hI; subst e0
      obtain ⟨x1, l1, e1, hI⟩ := zdI_e (i := 1) hI; subst e1
      obtain ⟨x2, l2, e2, hI⟩ := zdI_e (i := 2) hI; subst e2
      obtain ⟨e, hI⟩ := zdN_e hI; subst e
      exact pX6_readSection_258 I35 Q QX n x1 x2 σ' hI
  · refine zor ht (fun ht => ?_) (fun ht => ?_)
    · skip
      refine zor ht (fun ht => ?_) (fun ht => ?_)
      · skip
        have et := Nat.eq_of_beq_eq_true ht; subst et
        have hI : LIX6_readSection I35 35 m ln σ' := hI
        obtain ⟨l0, e0, hI⟩ := zdR_e (i := 0) (q := 3) hI; subst e0
        obtain ⟨x1, l1, e1, hI⟩ := zdI_e (i := 1) hI; subst e1
        obtain ⟨x2, l2, e2, hI⟩ := zdI_e (i := 2) hI; subst e2
        obtain ⟨x3, l3, e3, hI⟩ := zdI_e (i := 3) hI; subst e3
        obtain ⟨x4, l4, e4, hI⟩ := zdI_e (i := 4) hI; subst e4
        obtain ⟨e, hI⟩ := zdN_e hI; subst e
        exact pX6_readSection_35 I35 Q QX m x1 x2 x3 x4 σ' (hs35 m x1 x2 x3 x4 σ' hI)
      · skip
        have et := Nat.eq_of_beq_eq_true ht; subst et
        cases hj
    · skip
      have et := Nat.eq_of_beq_eq_true ht; subst et
      cases hj
def JX8_check : Nat → Bool := fun t => Nat.beq t 9 || Nat.beq t 39 || Nat.beq t 101
def jnX8_check : Nat → Bool := fun t => Nat.beq t 39 || Nat.beq t 101
def hX8_check : Nat → List Nat := fun t => bif Nat.beq t 9 then [0, 1] else bif Nat.beq t 39 then [0] else bif Nat.beq t 101 then [0, 1] else []
def PX8_check_101 (K9 : Int32 → zS → Prop) (Q : Option Value → zS → Prop) (QX : zS → Prop) (x1 : Int32) (σ : zS) : Prop :=
  ((x1 = 0 →
    zCT zZC zmX0_fillCounts [.ref 8, .ref 2] σ (zQv (fun s1 =>
      zCT zZC zmX0_copy [.ref 9, .ref 8] s1 (zQv (fun s2 =>
        Q (some (.int x1)) s2)) QX)) QX) ∧ (¬ x1 = 0 →
    Q (some (.int x1)) σ))
def PX8_check_39 (K9 : Int32 → zS → Prop) (Q : Option Value → zS → Prop) (QX : zS → Prop)  (σ : zS) : Prop :=
  zCT zZC zmX6_finish [.ref 3] σ (zQv (fun s1 =>
    ∀ s2 : zS, s2 = zsI s1 1 1 (0 : Int32) →
    ∀ s3 : zS, s3 = zsI s2 0 6 (s2.1 1 5) →
    (((s2.1 1 4) = 0 →
      zCT zZC zmX2_firstWrong [.ref 2] s3 (zQi (fun r5 s4 =>
        ∀ s6 : zS, s6 = zsI s4 0 6 r5 →
        ((0 ≤ (s6.1 0 6) →
          PX8_check_101 K9 Q QX (2 : Int32) s6) ∧ (¬ 0 ≤ (s6.1 0 6) →
          PX8_check_101 K9 Q QX (0 : Int32) s6)))) QX) ∧ (¬ (s2.1 1 4) = 0 →
      PX8_check_101 K9 Q QX (s2.1 1 4) s3)))) QX
def PX8_check_9 (K9 : Int32 → zS → Prop) (Q : Option Value → zS → Prop) (QX : zS → Prop) (x1 : Int32) (σ : zS) : Prop :=
  (((16000 : Int32) ≤ x1 →
    PX8_check_39 K9 Q QX σ) ∧ (¬ (16000 : Int32) ≤ x1 →
    zCT zZC zmX6_areMore [.ref 3] σ (zQi (fun r2 s1 =>
      ((r2 = 0 →
        PX8_check_39 K9 Q QX s1) ∧ (¬ r2 = 0 →
        zCT zZC zmX6_readSection [.ref 3] s1 (zQv (fun s3 =>
          K9 (x1 + 1) s3)) QX)))) QX))
def PX8_check_0 (K9 : Int32 → zS → Prop) (Q : Option Value → zS → Prop) (QX : zS → Prop)  (σ : zS) : Prop :=
  zCT zZC zmX6_begin [.ref 3] σ (zQv (fun s1 =>
    K9 (0 : Int32) s1)) QX
def LIX8_check (I9 : Nat → Int32 → zS → Prop) : Nat → Nat → zLo → zS → Prop := fun t n l τ => bif Nat.beq t 9 then zdR 0 0 (zdI 1 (fun x1 => zdN (I9 n x1 τ))) l else False
def JIX8_check (I9 : Nat → Int32 → zS → Prop) (Q : Option Value → zS → Prop) (QX : zS → Prop) : Nat → Option Nat → zLo → zS → Prop := fun t n l τ => bif Nat.beq t 39 then zdR 0 0 (zdN (PX8_check_39 (fun y1 τ => ∃ n', zlt n' n ∧ I9 n' y1 τ) Q QX  τ)) l else bif Nat.beq t 101 then zdR 0 0 (zdI 1 (fun x1 => zdN (PX8_check_101 (fun y1 τ => ∃ n', zlt n' n ∧ I9 n' y1 τ) Q QX x1 τ))) l else False
set_option maxRecDepth 50000 in
theorem pX8_check_0 (I9 : Nat → Int32 → zS → Prop) (Q : Option Value → zS → Prop) (QX : zS → Prop)   (σ : zS) (h : PX8_check_0 (fun y1 τ => ∃ n', zlt n' none ∧ I9 n' y1 τ) Q QX  σ) : zwp JX8_check (zB hX8_check (zKt jnX8_check (JIX8_check I9 Q QX) (LIX8_check I9) none 0)) Q QX kX8_check 0 (lv_args 0 [.ref 0]) [] σ := h
set_option maxRecDepth 50000 in
theorem pX8_check_9 (I9 : Nat → Int32 → zS → Prop) (Q : Option Value → zS → Prop) (QX : zS → Prop) (m : Nat) (x1 : Int32) (σ : zS) (h : PX8_check_9 (fun y1 τ => ∃ n', zlt n' (some m) ∧ I9 n' y1 τ) Q QX x1 σ) : zwp JX8_check (zB hX8_check (zKt jnX8_check (JIX8_check I9 Q QX) (LIX8_check I9) (some m) 9)) Q QX kX8_check 9 [(0, .ref 0), (1, .int x1)] [] σ := h
set_option maxRecDepth 50000 in
theorem pX8_check_39 (I9 : Nat → Int32 → zS → Prop) (Q : Option Value → zS → Prop) (QX : zS → Prop) (n : Option Nat)  (σ : zS) (h : PX8_check_39 (fun y1 τ => ∃ n', zlt n' n ∧ I9 n' y1 τ) Q QX  σ) : zwp JX8_check (zB hX8_check (zKt jnX8_check (JIX8_check I9 Q QX) (LIX8_check I9) n 39)) Q QX kX8_check 39 [(0, .ref 0)] [] σ := h
set_option maxRecDepth 50000 in
theorem pX8_check_101 (I9 : Nat → Int32 → zS → Prop) (Q : Option Value → zS → Prop) (QX : zS → Prop) (n : Option Nat) (x1 : Int32) (σ : zS) (h : PX8_check_101 (fun y1 τ => ∃ n', zlt n' n ∧ I9 n' y1 τ) Q QX x1 σ) : zwp JX8_check (zB hX8_check (zKt jnX8_check (JIX8_check I9 Q QX) (LIX8_check I9) n 101)) Q QX kX8_check 101 [(0, .ref 0), (1, .int x1)] [] σ := h
set_option maxRecDepth 50000 in
theorem rX8_check {Q : Option Value → zS → Prop} {QX : zS → Prop}  {σ : zS} (I9 : Nat → Int32 → zS → Prop) (hs9 : ∀ (m : Nat) (x1 : Int32) (σ : zS), I9 m x1 σ → PX8_check_9 (fun y1 τ => ∃ n', zlt n' (some m) ∧ I9 n' y1 τ) Q QX x1 σ) (h0 : PX8_check_0 (fun y1 τ => ∃ n', zlt n' none ∧ I9 n' y1 τ) Q QX  σ) : zCT zZC zmX8_check [.ref 0] σ Q QX := by
  refine zCT_of zZC_ok pnX8 (Nat.le_of_ble_eq_true rfl) kX8_check ksX8_check JX8_check 102 (fun t ht => ?_) hX8_check jnX8_check (JIX8_check I9 Q QX) (LIX8_check I9) (fun n t ln σ' ht hj hI => ?_) (fun m t ln σ' ht hj hI => ?_) (pX8_check_0 I9 Q QX  σ h0)
  · refine zor ht (fun ht => ?_) (fun ht => ?_)
    · skip
      refine zor ht (fun ht => ?_) (fun ht => ?_)
      · skip
        have et := Nat.eq_of_beq_eq_true ht; subst et
        exact Nat.le_of_ble_eq_true rfl
      · skip
        have et := Nat.eq_of_beq_eq_true ht; subst et
        exact Nat.le_of_ble_eq_true rfl
    · skip
      have et := Nat.eq_of_beq_eq_true ht; subst et
      exact Nat.le_of_ble_eq_true rfl
  · refine zor ht (fun ht => ?_) (fun ht => ?_)
    · skip
      refine zor ht (fun ht => ?_) (fun ht => ?_)
      · skip
        have et := Nat.eq_of_beq_eq_true ht; subst et
        cases hj
      · skip
        have et := Nat.eq_of_beq_eq_true ht; subst et
        have hI : JIX8_check I9 Q QX 39 n ln σ' := hI
        obtain ⟨l0, e0, hI⟩ := zdR_e (i := 0) (q := 0) hI; subst e0
        obtain ⟨e, hI⟩ := zdN_e hI; subst e
        exact pX8_check_39 I9 Q QX n  σ' hI
    · skip
      have et := Nat.eq_of_beq_eq_true ht; subst et
      have hI : JIX8_check I9 Q QX 101 n ln σ' := hI
      obtain ⟨l0, e0, hI⟩ := zdR_e (i := 0) (q := 0) hI; subst e0
      obtain ⟨x1, l1, e1, hI⟩ := zdI_e (i := 1) hI; subst e1
      obtain ⟨e, hI⟩ := zdN_e hI; subst e
      exact pX8_check_101 I9 Q QX n x1 σ' hI
  · refine zor ht (fun ht => ?_) (fun ht => ?_)
    · skip
      refine zor ht (fun ht => ?_) (fun ht => ?_)
      · skip
        have et := Nat.eq_of_beq_eq_true ht; subst et
        have hI : LIX8_check I9 9 m ln σ' := hI
        obtain ⟨l0, e0, hI⟩ := zdR_e (i := 0) (q := 0) hI; subst e0
        obtain ⟨x1, l1, e1, hI⟩ := zdI_e (i := 1) hI; subst e1
        obtain ⟨e, hI⟩ := zdN_e hI; subst e
        exact pX8_check_9 I9 Q QX m x1 σ' (hs9 m x1 σ' hI)
      · skip
        have et := Nat.eq_of_beq_eq_true ht; subst et
        cases hj
    · skip
      have et := Nat.eq_of_beq_eq_true ht; subst et
      cases hj
